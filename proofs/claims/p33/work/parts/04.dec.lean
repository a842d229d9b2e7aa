theorem dX0_init_0 : decode cX0_init 0 = .ok (.aload_n 0, 1) := by decide +kernel
theorem dX0_init_1 : decode cX0_init 1 = .ok (.invokespecial 3, 3) := by decide +kernel
theorem dX0_init_4 : decode cX0_init 4 = .ok (.aload_n 0, 1) := by decide +kernel
theorem dX0_init_5 : decode cX0_init 5 = .ok (.sipush 243, 3) := by decide +kernel
theorem dX0_init_8 : decode cX0_init 8 = .ok (.newarray .int, 2) := by decide +kernel
theorem dX0_init_10 : decode cX0_init 10 = .ok (.putfield 9, 3) := by decide +kernel
theorem dX0_init_13 : decode cX0_init 13 = .ok (.aload_n 0, 1) := by decide +kernel
theorem dX0_init_14 : decode cX0_init 14 = .ok (.iconst 0, 1) := by decide +kernel
theorem dX0_init_15 : decode cX0_init 15 = .ok (.putfield 15, 3) := by decide +kernel
theorem dX0_init_18 : decode cX0_init 18 = .ok (.return_, 1) := by decide +kernel
theorem dX0_count_0 : decode cX0_count 0 = .ok (.aload_n 0, 1) := by decide +kernel
theorem dX0_count_1 : decode cX0_count 1 = .ok (.getfield 15, 3) := by decide +kernel
theorem dX0_count_4 : decode cX0_count 4 = .ok (.ireturn, 1) := by decide +kernel
theorem dX0_at_0 : decode cX0_at 0 = .ok (.iload_n 1, 1) := by decide +kernel
theorem dX0_at_1 : decode cX0_at 1 = .ok (.ifCond .lt 21, 3) := by decide +kernel
theorem dX0_at_4 : decode cX0_at 4 = .ok (.iload_n 1, 1) := by decide +kernel
theorem dX0_at_5 : decode cX0_at 5 = .ok (.aload_n 0, 1) := by decide +kernel
theorem dX0_at_6 : decode cX0_at 6 = .ok (.getfield 9, 3) := by decide +kernel
theorem dX0_at_9 : decode cX0_at 9 = .ok (.arraylength, 1) := by decide +kernel
theorem dX0_at_10 : decode cX0_at 10 = .ok (.if_icmp .ge 12, 3) := by decide +kernel
theorem dX0_at_13 : decode cX0_at 13 = .ok (.aload_n 0, 1) := by decide +kernel
theorem dX0_at_14 : decode cX0_at 14 = .ok (.getfield 9, 3) := by decide +kernel
theorem dX0_at_17 : decode cX0_at 17 = .ok (.iload_n 1, 1) := by decide +kernel
theorem dX0_at_18 : decode cX0_at 18 = .ok (.iaload, 1) := by decide +kernel
theorem dX0_at_19 : decode cX0_at 19 = .ok (.goto 4, 3) := by decide +kernel
theorem dX0_at_22 : decode cX0_at 22 = .ok (.iconst 0, 1) := by decide +kernel
theorem dX0_at_23 : decode cX0_at 23 = .ok (.ireturn, 1) := by decide +kernel
theorem dX0_add_0 : decode cX0_add 0 = .ok (.aload_n 0, 1) := by decide +kernel
theorem dX0_add_1 : decode cX0_add 1 = .ok (.getfield 15, 3) := by decide +kernel
theorem dX0_add_4 : decode cX0_add 4 = .ok (.ifCond .lt 35, 3) := by decide +kernel
theorem dX0_add_7 : decode cX0_add 7 = .ok (.aload_n 0, 1) := by decide +kernel
theorem dX0_add_8 : decode cX0_add 8 = .ok (.getfield 15, 3) := by decide +kernel
theorem dX0_add_11 : decode cX0_add 11 = .ok (.aload_n 0, 1) := by decide +kernel
theorem dX0_add_12 : decode cX0_add 12 = .ok (.getfield 9, 3) := by decide +kernel
theorem dX0_add_15 : decode cX0_add 15 = .ok (.arraylength, 1) := by decide +kernel
theorem dX0_add_16 : decode cX0_add 16 = .ok (.if_icmp .ge 23, 3) := by decide +kernel
theorem dX0_add_19 : decode cX0_add 19 = .ok (.aload_n 0, 1) := by decide +kernel
theorem dX0_add_20 : decode cX0_add 20 = .ok (.getfield 9, 3) := by decide +kernel
theorem dX0_add_23 : decode cX0_add 23 = .ok (.aload_n 0, 1) := by decide +kernel
theorem dX0_add_24 : decode cX0_add 24 = .ok (.getfield 15, 3) := by decide +kernel
theorem dX0_add_27 : decode cX0_add 27 = .ok (.iload_n 1, 1) := by decide +kernel
theorem dX0_add_28 : decode cX0_add 28 = .ok (.iastore, 1) := by decide +kernel
theorem dX0_add_29 : decode cX0_add 29 = .ok (.aload_n 0, 1) := by decide +kernel
theorem dX0_add_30 : decode cX0_add 30 = .ok (.dup, 1) := by decide +kernel
theorem dX0_add_31 : decode cX0_add 31 = .ok (.getfield 15, 3) := by decide +kernel
theorem dX0_add_34 : decode cX0_add 34 = .ok (.iconst 1, 1) := by decide +kernel
theorem dX0_add_35 : decode cX0_add 35 = .ok (.iadd, 1) := by decide +kernel
theorem dX0_add_36 : decode cX0_add 36 = .ok (.putfield 15, 3) := by decide +kernel
theorem dX0_add_39 : decode cX0_add 39 = .ok (.return_, 1) := by decide +kernel
theorem dX0_clear_0 : decode cX0_clear 0 = .ok (.aload_n 0, 1) := by decide +kernel
theorem dX0_clear_1 : decode cX0_clear 1 = .ok (.iconst 0, 1) := by decide +kernel
theorem dX0_clear_2 : decode cX0_clear 2 = .ok (.putfield 15, 3) := by decide +kernel
theorem dX0_clear_5 : decode cX0_clear 5 = .ok (.return_, 1) := by decide +kernel
theorem dX0_put_0 : decode cX0_put 0 = .ok (.iload_n 1, 1) := by decide +kernel
theorem dX0_put_1 : decode cX0_put 1 = .ok (.ifCond .lt 19, 3) := by decide +kernel
theorem dX0_put_4 : decode cX0_put 4 = .ok (.iload_n 1, 1) := by decide +kernel
theorem dX0_put_5 : decode cX0_put 5 = .ok (.aload_n 0, 1) := by decide +kernel
theorem dX0_put_6 : decode cX0_put 6 = .ok (.getfield 9, 3) := by decide +kernel
theorem dX0_put_9 : decode cX0_put 9 = .ok (.arraylength, 1) := by decide +kernel
theorem dX0_put_10 : decode cX0_put 10 = .ok (.if_icmp .ge 10, 3) := by decide +kernel
theorem dX0_put_13 : decode cX0_put 13 = .ok (.aload_n 0, 1) := by decide +kernel
theorem dX0_put_14 : decode cX0_put 14 = .ok (.getfield 9, 3) := by decide +kernel
theorem dX0_put_17 : decode cX0_put 17 = .ok (.iload_n 1, 1) := by decide +kernel
theorem dX0_put_18 : decode cX0_put 18 = .ok (.iload_n 2, 1) := by decide +kernel
theorem dX0_put_19 : decode cX0_put 19 = .ok (.iastore, 1) := by decide +kernel
theorem dX0_put_20 : decode cX0_put 20 = .ok (.return_, 1) := by decide +kernel
theorem dX0_copyFrom_0 : decode cX0_copyFrom 0 = .ok (.aload_n 0, 1) := by decide +kernel
theorem dX0_copyFrom_1 : decode cX0_copyFrom 1 = .ok (.invokevirtual 19, 3) := by decide +kernel
theorem dX0_copyFrom_4 : decode cX0_copyFrom 4 = .ok (.iconst 0, 1) := by decide +kernel
theorem dX0_copyFrom_5 : decode cX0_copyFrom 5 = .ok (.istore_n 2, 1) := by decide +kernel
theorem dX0_copyFrom_6 : decode cX0_copyFrom 6 = .ok (.iload_n 2, 1) := by decide +kernel
theorem dX0_copyFrom_7 : decode cX0_copyFrom 7 = .ok (.aload_n 1, 1) := by decide +kernel
theorem dX0_copyFrom_8 : decode cX0_copyFrom 8 = .ok (.invokevirtual 22, 3) := by decide +kernel
theorem dX0_copyFrom_11 : decode cX0_copyFrom 11 = .ok (.if_icmp .ge 18, 3) := by decide +kernel
theorem dX0_copyFrom_14 : decode cX0_copyFrom 14 = .ok (.aload_n 0, 1) := by decide +kernel
theorem dX0_copyFrom_15 : decode cX0_copyFrom 15 = .ok (.aload_n 1, 1) := by decide +kernel
theorem dX0_copyFrom_16 : decode cX0_copyFrom 16 = .ok (.iload_n 2, 1) := by decide +kernel
theorem dX0_copyFrom_17 : decode cX0_copyFrom 17 = .ok (.invokevirtual 25, 3) := by decide +kernel
theorem dX0_copyFrom_20 : decode cX0_copyFrom 20 = .ok (.invokevirtual 29, 3) := by decide +kernel
theorem dX0_copyFrom_23 : decode cX0_copyFrom 23 = .ok (.iinc 2 1, 3) := by decide +kernel
theorem dX0_copyFrom_26 : decode cX0_copyFrom 26 = .ok (.goto (-20), 3) := by decide +kernel
theorem dX0_copyFrom_29 : decode cX0_copyFrom 29 = .ok (.return_, 1) := by decide +kernel
theorem dX1_init_0 : decode cX1_init 0 = .ok (.aload_n 0, 1) := by decide +kernel
theorem dX1_init_1 : decode cX1_init 1 = .ok (.invokespecial 1, 3) := by decide +kernel
theorem dX1_init_4 : decode cX1_init 4 = .ok (.aload_n 0, 1) := by decide +kernel
theorem dX1_init_5 : decode cX1_init 5 = .ok (.new 7, 3) := by decide +kernel
theorem dX1_init_8 : decode cX1_init 8 = .ok (.dup, 1) := by decide +kernel
theorem dX1_init_9 : decode cX1_init 9 = .ok (.invokespecial 9, 3) := by decide +kernel
theorem dX1_init_12 : decode cX1_init 12 = .ok (.putfield 10, 3) := by decide +kernel
theorem dX1_init_15 : decode cX1_init 15 = .ok (.aload_n 0, 1) := by decide +kernel
theorem dX1_init_16 : decode cX1_init 16 = .ok (.new 7, 3) := by decide +kernel
theorem dX1_init_19 : decode cX1_init 19 = .ok (.dup, 1) := by decide +kernel
theorem dX1_init_20 : decode cX1_init 20 = .ok (.invokespecial 9, 3) := by decide +kernel
theorem dX1_init_23 : decode cX1_init 23 = .ok (.putfield 16, 3) := by decide +kernel
theorem dX1_init_26 : decode cX1_init 26 = .ok (.aload_n 0, 1) := by decide +kernel
theorem dX1_init_27 : decode cX1_init 27 = .ok (.iconst 5, 1) := by decide +kernel
theorem dX1_init_28 : decode cX1_init 28 = .ok (.newarray .int, 2) := by decide +kernel
theorem dX1_init_30 : decode cX1_init 30 = .ok (.putfield 19, 3) := by decide +kernel
theorem dX1_init_33 : decode cX1_init 33 = .ok (.aload_n 0, 1) := by decide +kernel
theorem dX1_init_34 : decode cX1_init 34 = .ok (.sipush 1024, 3) := by decide +kernel
theorem dX1_init_37 : decode cX1_init 37 = .ok (.newarray .int, 2) := by decide +kernel
theorem dX1_init_39 : decode cX1_init 39 = .ok (.putfield 23, 3) := by decide +kernel
theorem dX1_init_42 : decode cX1_init 42 = .ok (.aload_n 0, 1) := by decide +kernel
theorem dX1_init_43 : decode cX1_init 43 = .ok (.iconst 0, 1) := by decide +kernel
theorem dX1_init_44 : decode cX1_init 44 = .ok (.putfield 26, 3) := by decide +kernel
theorem dX1_init_47 : decode cX1_init 47 = .ok (.aload_n 0, 1) := by decide +kernel
theorem dX1_init_48 : decode cX1_init 48 = .ok (.iconst 0, 1) := by decide +kernel
theorem dX1_init_49 : decode cX1_init 49 = .ok (.putfield 30, 3) := by decide +kernel
theorem dX1_init_52 : decode cX1_init 52 = .ok (.aload_n 0, 1) := by decide +kernel
theorem dX1_init_53 : decode cX1_init 53 = .ok (.iconst 0, 1) := by decide +kernel
theorem dX1_init_54 : decode cX1_init 54 = .ok (.putfield 33, 3) := by decide +kernel
theorem dX1_init_57 : decode cX1_init 57 = .ok (.aload_n 0, 1) := by decide +kernel
theorem dX1_init_58 : decode cX1_init 58 = .ok (.iconst 0, 1) := by decide +kernel
theorem dX1_init_59 : decode cX1_init 59 = .ok (.putfield 36, 3) := by decide +kernel
theorem dX1_init_62 : decode cX1_init 62 = .ok (.aload_n 0, 1) := by decide +kernel
theorem dX1_init_63 : decode cX1_init 63 = .ok (.iconst 0, 1) := by decide +kernel
theorem dX1_init_64 : decode cX1_init 64 = .ok (.putfield 39, 3) := by decide +kernel
theorem dX1_init_67 : decode cX1_init 67 = .ok (.aload_n 0, 1) := by decide +kernel
theorem dX1_init_68 : decode cX1_init 68 = .ok (.iconst 0, 1) := by decide +kernel
theorem dX1_init_69 : decode cX1_init 69 = .ok (.putfield 42, 3) := by decide +kernel
theorem dX1_init_72 : decode cX1_init 72 = .ok (.aload_n 0, 1) := by decide +kernel
theorem dX1_init_73 : decode cX1_init 73 = .ok (.getfield 10, 3) := by decide +kernel
theorem dX1_init_76 : decode cX1_init 76 = .ok (.iconst 0, 1) := by decide +kernel
theorem dX1_init_77 : decode cX1_init 77 = .ok (.invokevirtual 46, 3) := by decide +kernel
theorem dX1_init_80 : decode cX1_init 80 = .ok (.return_, 1) := by decide +kernel
theorem dX1_addPlayer_0 : decode cX1_addPlayer 0 = .ok (.iload_n 1, 1) := by decide +kernel
theorem dX1_addPlayer_1 : decode cX1_addPlayer 1 = .ok (.invokestatic 50, 3) := by decide +kernel
theorem dX1_addPlayer_4 : decode cX1_addPlayer 4 = .ok (.aload_n 0, 1) := by decide +kernel
theorem dX1_addPlayer_5 : decode cX1_addPlayer 5 = .ok (.getfield 26, 3) := by decide +kernel
theorem dX1_addPlayer_8 : decode cX1_addPlayer 8 = .ok (.iconst 5, 1) := by decide +kernel
theorem dX1_addPlayer_9 : decode cX1_addPlayer 9 = .ok (.if_icmp .ge 10, 3) := by decide +kernel
theorem dX1_addPlayer_12 : decode cX1_addPlayer 12 = .ok (.aload_n 0, 1) := by decide +kernel
theorem dX1_addPlayer_13 : decode cX1_addPlayer 13 = .ok (.getfield 42, 3) := by decide +kernel
theorem dX1_addPlayer_16 : decode cX1_addPlayer 16 = .ok (.ifCond .eq 13, 3) := by decide +kernel
theorem dX1_addPlayer_19 : decode cX1_addPlayer 19 = .ok (.new 53, 3) := by decide +kernel
theorem dX1_addPlayer_22 : decode cX1_addPlayer 22 = .ok (.dup, 1) := by decide +kernel
theorem dX1_addPlayer_23 : decode cX1_addPlayer 23 = .ok (.ldc 55, 2) := by decide +kernel
theorem dX1_addPlayer_25 : decode cX1_addPlayer 25 = .ok (.invokespecial 57, 3) := by decide +kernel
theorem dX1_addPlayer_28 : decode cX1_addPlayer 28 = .ok (.athrow, 1) := by decide +kernel
theorem dX1_addPlayer_29 : decode cX1_addPlayer 29 = .ok (.aload_n 0, 1) := by decide +kernel
theorem dX1_addPlayer_30 : decode cX1_addPlayer 30 = .ok (.getfield 26, 3) := by decide +kernel
theorem dX1_addPlayer_33 : decode cX1_addPlayer 33 = .ok (.istore_n 2, 1) := by decide +kernel
theorem dX1_addPlayer_34 : decode cX1_addPlayer 34 = .ok (.aload_n 0, 1) := by decide +kernel
theorem dX1_addPlayer_35 : decode cX1_addPlayer 35 = .ok (.dup, 1) := by decide +kernel
theorem dX1_addPlayer_36 : decode cX1_addPlayer 36 = .ok (.getfield 26, 3) := by decide +kernel
theorem dX1_addPlayer_39 : decode cX1_addPlayer 39 = .ok (.iconst 1, 1) := by decide +kernel
theorem dX1_addPlayer_40 : decode cX1_addPlayer 40 = .ok (.iadd, 1) := by decide +kernel
theorem dX1_addPlayer_41 : decode cX1_addPlayer 41 = .ok (.putfield 26, 3) := by decide +kernel
theorem dX1_addPlayer_44 : decode cX1_addPlayer 44 = .ok (.aload_n 0, 1) := by decide +kernel
theorem dX1_addPlayer_45 : decode cX1_addPlayer 45 = .ok (.aload_n 0, 1) := by decide +kernel
theorem dX1_addPlayer_46 : decode cX1_addPlayer 46 = .ok (.getfield 30, 3) := by decide +kernel
theorem dX1_addPlayer_49 : decode cX1_addPlayer 49 = .ok (.iload_n 1, 1) := by decide +kernel
theorem dX1_addPlayer_50 : decode cX1_addPlayer 50 = .ok (.iload_n 2, 1) := by decide +kernel
theorem dX1_addPlayer_51 : decode cX1_addPlayer 51 = .ok (.invokestatic 60, 3) := by decide +kernel
theorem dX1_addPlayer_54 : decode cX1_addPlayer 54 = .ok (.ishl, 1) := by decide +kernel
theorem dX1_addPlayer_55 : decode cX1_addPlayer 55 = .ok (.ior, 1) := by decide +kernel
theorem dX1_addPlayer_56 : decode cX1_addPlayer 56 = .ok (.putfield 30, 3) := by decide +kernel
theorem dX1_addPlayer_59 : decode cX1_addPlayer 59 = .ok (.aload_n 0, 1) := by decide +kernel
theorem dX1_addPlayer_60 : decode cX1_addPlayer 60 = .ok (.iload_n 2, 1) := by decide +kernel
theorem dX1_addPlayer_61 : decode cX1_addPlayer 61 = .ok (.invokevirtual 64, 3) := by decide +kernel
theorem dX1_addPlayer_64 : decode cX1_addPlayer 64 = .ok (.aload_n 0, 1) := by decide +kernel
theorem dX1_addPlayer_65 : decode cX1_addPlayer 65 = .ok (.iload_n 2, 1) := by decide +kernel
theorem dX1_addPlayer_66 : decode cX1_addPlayer 66 = .ok (.invokevirtual 67, 3) := by decide +kernel
theorem dX1_addPlayer_69 : decode cX1_addPlayer 69 = .ok (.iload_n 2, 1) := by decide +kernel
theorem dX1_addPlayer_70 : decode cX1_addPlayer 70 = .ok (.ireturn, 1) := by decide +kernel
theorem dX1_turnAway_0 : decode cX1_turnAway 0 = .ok (.aload_n 0, 1) := by decide +kernel
theorem dX1_turnAway_1 : decode cX1_turnAway 1 = .ok (.iload_n 1, 1) := by decide +kernel
theorem dX1_turnAway_2 : decode cX1_turnAway 2 = .ok (.iload_n 2, 1) := by decide +kernel
theorem dX1_turnAway_3 : decode cX1_turnAway 3 = .ok (.invokevirtual 70, 3) := by decide +kernel
theorem dX1_turnAway_6 : decode cX1_turnAway 6 = .ok (.aload_n 0, 1) := by decide +kernel
theorem dX1_turnAway_7 : decode cX1_turnAway 7 = .ok (.iload_n 1, 1) := by decide +kernel
theorem dX1_turnAway_8 : decode cX1_turnAway 8 = .ok (.aload_n 0, 1) := by decide +kernel
theorem dX1_turnAway_9 : decode cX1_turnAway 9 = .ok (.iload_n 1, 1) := by decide +kernel
theorem dX1_turnAway_10 : decode cX1_turnAway 10 = .ok (.invokevirtual 74, 3) := by decide +kernel
theorem dX1_turnAway_13 : decode cX1_turnAway 13 = .ok (.iload_n 2, 1) := by decide +kernel
theorem dX1_turnAway_14 : decode cX1_turnAway 14 = .ok (.invokestatic 77, 3) := by decide +kernel
theorem dX1_turnAway_17 : decode cX1_turnAway 17 = .ok (.ixor, 1) := by decide +kernel
theorem dX1_turnAway_18 : decode cX1_turnAway 18 = .ok (.invokevirtual 80, 3) := by decide +kernel
theorem dX1_turnAway_21 : decode cX1_turnAway 21 = .ok (.aload_n 0, 1) := by decide +kernel
theorem dX1_turnAway_22 : decode cX1_turnAway 22 = .ok (.iload_n 1, 1) := by decide +kernel
theorem dX1_turnAway_23 : decode cX1_turnAway 23 = .ok (.iload_n 2, 1) := by decide +kernel
theorem dX1_turnAway_24 : decode cX1_turnAway 24 = .ok (.invokevirtual 83, 3) := by decide +kernel
theorem dX1_turnAway_27 : decode cX1_turnAway 27 = .ok (.ireturn, 1) := by decide +kernel
theorem dX1_borrow_0 : decode cX1_borrow 0 = .ok (.aload_n 0, 1) := by decide +kernel
theorem dX1_borrow_1 : decode cX1_borrow 1 = .ok (.iload_n 1, 1) := by decide +kernel
theorem dX1_borrow_2 : decode cX1_borrow 2 = .ok (.iload_n 2, 1) := by decide +kernel
theorem dX1_borrow_3 : decode cX1_borrow 3 = .ok (.invokevirtual 70, 3) := by decide +kernel
theorem dX1_borrow_6 : decode cX1_borrow 6 = .ok (.aload_n 0, 1) := by decide +kernel
theorem dX1_borrow_7 : decode cX1_borrow 7 = .ok (.iconst 1, 1) := by decide +kernel
theorem dX1_borrow_8 : decode cX1_borrow 8 = .ok (.putfield 42, 3) := by decide +kernel
theorem dX1_borrow_11 : decode cX1_borrow 11 = .ok (.aload_n 0, 1) := by decide +kernel
theorem dX1_borrow_12 : decode cX1_borrow 12 = .ok (.aload_n 0, 1) := by decide +kernel
theorem dX1_borrow_13 : decode cX1_borrow 13 = .ok (.getfield 30, 3) := by decide +kernel
theorem dX1_borrow_16 : decode cX1_borrow 16 = .ok (.iload_n 1, 1) := by decide +kernel
theorem dX1_borrow_17 : decode cX1_borrow 17 = .ok (.iload_n 2, 1) := by decide +kernel
theorem dX1_borrow_18 : decode cX1_borrow 18 = .ok (.invokestatic 87, 3) := by decide +kernel
theorem dX1_borrow_21 : decode cX1_borrow 21 = .ok (.putfield 30, 3) := by decide +kernel
theorem dX1_borrow_24 : decode cX1_borrow 24 = .ok (.iconst 0, 1) := by decide +kernel
theorem dX1_borrow_25 : decode cX1_borrow 25 = .ok (.istore_n 3, 1) := by decide +kernel
theorem dX1_borrow_26 : decode cX1_borrow 26 = .ok (.iload_n 3, 1) := by decide +kernel
theorem dX1_borrow_27 : decode cX1_borrow 27 = .ok (.aload_n 0, 1) := by decide +kernel
theorem dX1_borrow_28 : decode cX1_borrow 28 = .ok (.getfield 10, 3) := by decide +kernel
theorem dX1_borrow_31 : decode cX1_borrow 31 = .ok (.invokevirtual 91, 3) := by decide +kernel
theorem dX1_borrow_34 : decode cX1_borrow 34 = .ok (.if_icmp .ge 30, 3) := by decide +kernel
theorem dX1_borrow_37 : decode cX1_borrow 37 = .ok (.aload_n 0, 1) := by decide +kernel
theorem dX1_borrow_38 : decode cX1_borrow 38 = .ok (.getfield 10, 3) := by decide +kernel
theorem dX1_borrow_41 : decode cX1_borrow 41 = .ok (.iload_n 3, 1) := by decide +kernel
theorem dX1_borrow_42 : decode cX1_borrow 42 = .ok (.aload_n 0, 1) := by decide +kernel
theorem dX1_borrow_43 : decode cX1_borrow 43 = .ok (.getfield 10, 3) := by decide +kernel
theorem dX1_borrow_46 : decode cX1_borrow 46 = .ok (.iload_n 3, 1) := by decide +kernel
theorem dX1_borrow_47 : decode cX1_borrow 47 = .ok (.invokevirtual 95, 3) := by decide +kernel
theorem dX1_borrow_50 : decode cX1_borrow 50 = .ok (.iload_n 1, 1) := by decide +kernel
theorem dX1_borrow_51 : decode cX1_borrow 51 = .ok (.iload_n 2, 1) := by decide +kernel
theorem dX1_borrow_52 : decode cX1_borrow 52 = .ok (.invokestatic 87, 3) := by decide +kernel
theorem dX1_borrow_55 : decode cX1_borrow 55 = .ok (.invokevirtual 98, 3) := by decide +kernel
theorem dX1_borrow_58 : decode cX1_borrow 58 = .ok (.iinc 3 1, 3) := by decide +kernel
theorem dX1_borrow_61 : decode cX1_borrow 61 = .ok (.goto (-35), 3) := by decide +kernel
theorem dX1_borrow_64 : decode cX1_borrow 64 = .ok (.aload_n 0, 1) := by decide +kernel
theorem dX1_borrow_65 : decode cX1_borrow 65 = .ok (.getfield 30, 3) := by decide +kernel
theorem dX1_borrow_68 : decode cX1_borrow 68 = .ok (.iload_n 1, 1) := by decide +kernel
theorem dX1_borrow_69 : decode cX1_borrow 69 = .ok (.invokestatic 101, 3) := by decide +kernel
theorem dX1_borrow_72 : decode cX1_borrow 72 = .ok (.ireturn, 1) := by decide +kernel
theorem dX1_takeTurn_0 : decode cX1_takeTurn 0 = .ok (.aload_n 0, 1) := by decide +kernel
theorem dX1_takeTurn_1 : decode cX1_takeTurn 1 = .ok (.invokevirtual 105, 3) := by decide +kernel
theorem dX1_takeTurn_4 : decode cX1_takeTurn 4 = .ok (.aload_n 0, 1) := by decide +kernel
theorem dX1_takeTurn_5 : decode cX1_takeTurn 5 = .ok (.getfield 33, 3) := by decide +kernel
theorem dX1_takeTurn_8 : decode cX1_takeTurn 8 = .ok (.istore_n 1, 1) := by decide +kernel
theorem dX1_takeTurn_9 : decode cX1_takeTurn 9 = .ok (.aload_n 0, 1) := by decide +kernel
theorem dX1_takeTurn_10 : decode cX1_takeTurn 10 = .ok (.aload_n 0, 1) := by decide +kernel
theorem dX1_takeTurn_11 : decode cX1_takeTurn 11 = .ok (.getfield 10, 3) := by decide +kernel
theorem dX1_takeTurn_14 : decode cX1_takeTurn 14 = .ok (.iload_n 1, 1) := by decide +kernel
theorem dX1_takeTurn_15 : decode cX1_takeTurn 15 = .ok (.invokevirtual 108, 3) := by decide +kernel
theorem dX1_takeTurn_18 : decode cX1_takeTurn 18 = .ok (.istore_n 2, 1) := by decide +kernel
theorem dX1_takeTurn_19 : decode cX1_takeTurn 19 = .ok (.aload_n 0, 1) := by decide +kernel
theorem dX1_takeTurn_20 : decode cX1_takeTurn 20 = .ok (.iconst 1, 1) := by decide +kernel
theorem dX1_takeTurn_21 : decode cX1_takeTurn 21 = .ok (.putfield 42, 3) := by decide +kernel
theorem dX1_takeTurn_24 : decode cX1_takeTurn 24 = .ok (.aload_n 0, 1) := by decide +kernel
theorem dX1_takeTurn_25 : decode cX1_takeTurn 25 = .ok (.aload_n 0, 1) := by decide +kernel
theorem dX1_takeTurn_26 : decode cX1_takeTurn 26 = .ok (.iload_n 1, 1) := by decide +kernel
theorem dX1_takeTurn_27 : decode cX1_takeTurn 27 = .ok (.invokevirtual 112, 3) := by decide +kernel
theorem dX1_takeTurn_30 : decode cX1_takeTurn 30 = .ok (.putfield 33, 3) := by decide +kernel
theorem dX1_takeTurn_33 : decode cX1_takeTurn 33 = .ok (.aload_n 0, 1) := by decide +kernel
theorem dX1_takeTurn_34 : decode cX1_takeTurn 34 = .ok (.dup, 1) := by decide +kernel
theorem dX1_takeTurn_35 : decode cX1_takeTurn 35 = .ok (.getfield 36, 3) := by decide +kernel
theorem dX1_takeTurn_38 : decode cX1_takeTurn 38 = .ok (.iconst 1, 1) := by decide +kernel
theorem dX1_takeTurn_39 : decode cX1_takeTurn 39 = .ok (.iadd, 1) := by decide +kernel
theorem dX1_takeTurn_40 : decode cX1_takeTurn 40 = .ok (.putfield 36, 3) := by decide +kernel
theorem dX1_takeTurn_43 : decode cX1_takeTurn 43 = .ok (.iload_n 2, 1) := by decide +kernel
theorem dX1_takeTurn_44 : decode cX1_takeTurn 44 = .ok (.ifCond .eq 12, 3) := by decide +kernel
theorem dX1_takeTurn_47 : decode cX1_takeTurn 47 = .ok (.aload_n 0, 1) := by decide +kernel
theorem dX1_takeTurn_48 : decode cX1_takeTurn 48 = .ok (.getfield 30, 3) := by decide +kernel
theorem dX1_takeTurn_51 : decode cX1_takeTurn 51 = .ok (.iload_n 1, 1) := by decide +kernel
theorem dX1_takeTurn_52 : decode cX1_takeTurn 52 = .ok (.invokestatic 101, 3) := by decide +kernel
theorem dX1_takeTurn_55 : decode cX1_takeTurn 55 = .ok (.ireturn, 1) := by decide +kernel
theorem dX1_takeTurn_56 : decode cX1_takeTurn 56 = .ok (.aload_n 0, 1) := by decide +kernel
theorem dX1_takeTurn_57 : decode cX1_takeTurn 57 = .ok (.dup, 1) := by decide +kernel
theorem dX1_takeTurn_58 : decode cX1_takeTurn 58 = .ok (.getfield 39, 3) := by decide +kernel
theorem dX1_takeTurn_61 : decode cX1_takeTurn 61 = .ok (.iconst 1, 1) := by decide +kernel
theorem dX1_takeTurn_62 : decode cX1_takeTurn 62 = .ok (.iadd, 1) := by decide +kernel
theorem dX1_takeTurn_63 : decode cX1_takeTurn 63 = .ok (.putfield 39, 3) := by decide +kernel
theorem dX1_takeTurn_66 : decode cX1_takeTurn 66 = .ok (.iconst (-1), 1) := by decide +kernel
theorem dX1_takeTurn_67 : decode cX1_takeTurn 67 = .ok (.ireturn, 1) := by decide +kernel
theorem dX1_sayAtLeast_0 : decode cX1_sayAtLeast 0 = .ok (.iload_n 1, 1) := by decide +kernel
theorem dX1_sayAtLeast_1 : decode cX1_sayAtLeast 1 = .ok (.invokestatic 50, 3) := by decide +kernel
theorem dX1_sayAtLeast_4 : decode cX1_sayAtLeast 4 = .ok (.iload_n 2, 1) := by decide +kernel
theorem dX1_sayAtLeast_5 : decode cX1_sayAtLeast 5 = .ok (.invokestatic 115, 3) := by decide +kernel
theorem dX1_sayAtLeast_8 : decode cX1_sayAtLeast 8 = .ok (.aload_n 0, 1) := by decide +kernel
theorem dX1_sayAtLeast_9 : decode cX1_sayAtLeast 9 = .ok (.iload_n 1, 1) := by decide +kernel
theorem dX1_sayAtLeast_10 : decode cX1_sayAtLeast 10 = .ok (.iload_n 2, 1) := by decide +kernel
theorem dX1_sayAtLeast_11 : decode cX1_sayAtLeast 11 = .ok (.iconst 5, 1) := by decide +kernel
theorem dX1_sayAtLeast_12 : decode cX1_sayAtLeast 12 = .ok (.invokevirtual 118, 3) := by decide +kernel
theorem dX1_sayAtLeast_15 : decode cX1_sayAtLeast 15 = .ok (.ireturn, 1) := by decide +kernel
theorem dX1_sayAtMost_0 : decode cX1_sayAtMost 0 = .ok (.iload_n 1, 1) := by decide +kernel
theorem dX1_sayAtMost_1 : decode cX1_sayAtMost 1 = .ok (.invokestatic 50, 3) := by decide +kernel
theorem dX1_sayAtMost_4 : decode cX1_sayAtMost 4 = .ok (.iload_n 2, 1) := by decide +kernel
theorem dX1_sayAtMost_5 : decode cX1_sayAtMost 5 = .ok (.invokestatic 115, 3) := by decide +kernel
theorem dX1_sayAtMost_8 : decode cX1_sayAtMost 8 = .ok (.aload_n 0, 1) := by decide +kernel
theorem dX1_sayAtMost_9 : decode cX1_sayAtMost 9 = .ok (.iload_n 1, 1) := by decide +kernel
theorem dX1_sayAtMost_10 : decode cX1_sayAtMost 10 = .ok (.iconst 0, 1) := by decide +kernel
theorem dX1_sayAtMost_11 : decode cX1_sayAtMost 11 = .ok (.iload_n 2, 1) := by decide +kernel
theorem dX1_sayAtMost_12 : decode cX1_sayAtMost 12 = .ok (.invokevirtual 118, 3) := by decide +kernel
theorem dX1_sayAtMost_15 : decode cX1_sayAtMost 15 = .ok (.ireturn, 1) := by decide +kernel
theorem dX1_begin_0 : decode cX1_begin 0 = .ok (.aload_n 0, 1) := by decide +kernel
theorem dX1_begin_1 : decode cX1_begin 1 = .ok (.getfield 10, 3) := by decide +kernel
theorem dX1_begin_4 : decode cX1_begin 4 = .ok (.invokevirtual 121, 3) := by decide +kernel
theorem dX1_begin_7 : decode cX1_begin 7 = .ok (.aload_n 0, 1) := by decide +kernel
theorem dX1_begin_8 : decode cX1_begin 8 = .ok (.getfield 10, 3) := by decide +kernel
theorem dX1_begin_11 : decode cX1_begin 11 = .ok (.iconst 0, 1) := by decide +kernel
theorem dX1_begin_12 : decode cX1_begin 12 = .ok (.invokevirtual 46, 3) := by decide +kernel
theorem dX1_begin_15 : decode cX1_begin 15 = .ok (.iconst 0, 1) := by decide +kernel
theorem dX1_begin_16 : decode cX1_begin 16 = .ok (.istore_n 1, 1) := by decide +kernel
theorem dX1_begin_17 : decode cX1_begin 17 = .ok (.iload_n 1, 1) := by decide +kernel
theorem dX1_begin_18 : decode cX1_begin 18 = .ok (.aload_n 0, 1) := by decide +kernel
theorem dX1_begin_19 : decode cX1_begin 19 = .ok (.getfield 26, 3) := by decide +kernel
theorem dX1_begin_22 : decode cX1_begin 22 = .ok (.if_icmp .ge 14, 3) := by decide +kernel
theorem dX1_begin_25 : decode cX1_begin 25 = .ok (.aload_n 0, 1) := by decide +kernel
theorem dX1_begin_26 : decode cX1_begin 26 = .ok (.iload_n 1, 1) := by decide +kernel
theorem dX1_begin_27 : decode cX1_begin 27 = .ok (.invokevirtual 67, 3) := by decide +kernel
theorem dX1_begin_30 : decode cX1_begin 30 = .ok (.iinc 1 1, 3) := by decide +kernel
theorem dX1_begin_33 : decode cX1_begin 33 = .ok (.goto (-16), 3) := by decide +kernel
theorem dX1_begin_36 : decode cX1_begin 36 = .ok (.aload_n 0, 1) := by decide +kernel
theorem dX1_begin_37 : decode cX1_begin 37 = .ok (.iconst 0, 1) := by decide +kernel
theorem dX1_begin_38 : decode cX1_begin 38 = .ok (.putfield 33, 3) := by decide +kernel
theorem dX1_begin_41 : decode cX1_begin 41 = .ok (.aload_n 0, 1) := by decide +kernel
theorem dX1_begin_42 : decode cX1_begin 42 = .ok (.iconst 0, 1) := by decide +kernel
theorem dX1_begin_43 : decode cX1_begin 43 = .ok (.putfield 36, 3) := by decide +kernel
theorem dX1_begin_46 : decode cX1_begin 46 = .ok (.aload_n 0, 1) := by decide +kernel
theorem dX1_begin_47 : decode cX1_begin 47 = .ok (.iconst 0, 1) := by decide +kernel
theorem dX1_begin_48 : decode cX1_begin 48 = .ok (.putfield 39, 3) := by decide +kernel
theorem dX1_begin_51 : decode cX1_begin 51 = .ok (.aload_n 0, 1) := by decide +kernel
theorem dX1_begin_52 : decode cX1_begin 52 = .ok (.iconst 0, 1) := by decide +kernel
theorem dX1_begin_53 : decode cX1_begin 53 = .ok (.putfield 42, 3) := by decide +kernel
theorem dX1_begin_56 : decode cX1_begin 56 = .ok (.aload_n 0, 1) := by decide +kernel
theorem dX1_begin_57 : decode cX1_begin 57 = .ok (.getfield 10, 3) := by decide +kernel
theorem dX1_begin_60 : decode cX1_begin 60 = .ok (.invokevirtual 91, 3) := by decide +kernel
theorem dX1_begin_63 : decode cX1_begin 63 = .ok (.ireturn, 1) := by decide +kernel
theorem dX1_players_0 : decode cX1_players 0 = .ok (.aload_n 0, 1) := by decide +kernel
theorem dX1_players_1 : decode cX1_players 1 = .ok (.getfield 26, 3) := by decide +kernel
theorem dX1_players_4 : decode cX1_players 4 = .ok (.ireturn, 1) := by decide +kernel
theorem dX1_turnsTaken_0 : decode cX1_turnsTaken 0 = .ok (.aload_n 0, 1) := by decide +kernel
theorem dX1_turnsTaken_1 : decode cX1_turnsTaken 1 = .ok (.getfield 36, 3) := by decide +kernel
theorem dX1_turnsTaken_4 : decode cX1_turnsTaken 4 = .ok (.ireturn, 1) := by decide +kernel
theorem dX1_silentTurns_0 : decode cX1_silentTurns 0 = .ok (.aload_n 0, 1) := by decide +kernel
theorem dX1_silentTurns_1 : decode cX1_silentTurns 1 = .ok (.getfield 39, 3) := by decide +kernel
theorem dX1_silentTurns_4 : decode cX1_silentTurns 4 = .ok (.ireturn, 1) := by decide +kernel
theorem dX1_playerInTurn_0 : decode cX1_playerInTurn 0 = .ok (.aload_n 0, 1) := by decide +kernel
theorem dX1_playerInTurn_1 : decode cX1_playerInTurn 1 = .ok (.getfield 26, 3) := by decide +kernel
theorem dX1_playerInTurn_4 : decode cX1_playerInTurn 4 = .ok (.ifCond .le 10, 3) := by decide +kernel
theorem dX1_playerInTurn_7 : decode cX1_playerInTurn 7 = .ok (.aload_n 0, 1) := by decide +kernel
theorem dX1_playerInTurn_8 : decode cX1_playerInTurn 8 = .ok (.getfield 33, 3) := by decide +kernel
theorem dX1_playerInTurn_11 : decode cX1_playerInTurn 11 = .ok (.goto 4, 3) := by decide +kernel
theorem dX1_playerInTurn_14 : decode cX1_playerInTurn 14 = .ok (.iconst (-1), 1) := by decide +kernel
theorem dX1_playerInTurn_15 : decode cX1_playerInTurn 15 = .ok (.ireturn, 1) := by decide +kernel
theorem dX1_hatOf_0 : decode cX1_hatOf 0 = .ok (.aload_n 0, 1) := by decide +kernel
theorem dX1_hatOf_1 : decode cX1_hatOf 1 = .ok (.iload_n 1, 1) := by decide +kernel
theorem dX1_hatOf_2 : decode cX1_hatOf 2 = .ok (.invokevirtual 124, 3) := by decide +kernel
theorem dX1_hatOf_5 : decode cX1_hatOf 5 = .ok (.aload_n 0, 1) := by decide +kernel
theorem dX1_hatOf_6 : decode cX1_hatOf 6 = .ok (.getfield 30, 3) := by decide +kernel
theorem dX1_hatOf_9 : decode cX1_hatOf 9 = .ok (.iload_n 1, 1) := by decide +kernel
theorem dX1_hatOf_10 : decode cX1_hatOf 10 = .ok (.invokestatic 101, 3) := by decide +kernel
theorem dX1_hatOf_13 : decode cX1_hatOf 13 = .ok (.ireturn, 1) := by decide +kernel
theorem dX1_sees_0 : decode cX1_sees 0 = .ok (.aload_n 0, 1) := by decide +kernel
theorem dX1_sees_1 : decode cX1_sees 1 = .ok (.iload_n 1, 1) := by decide +kernel
theorem dX1_sees_2 : decode cX1_sees 2 = .ok (.invokevirtual 124, 3) := by decide +kernel
theorem dX1_sees_5 : decode cX1_sees 5 = .ok (.aload_n 0, 1) := by decide +kernel
theorem dX1_sees_6 : decode cX1_sees 6 = .ok (.iload_n 2, 1) := by decide +kernel
theorem dX1_sees_7 : decode cX1_sees 7 = .ok (.invokevirtual 124, 3) := by decide +kernel
theorem dX1_sees_10 : decode cX1_sees 10 = .ok (.aload_n 0, 1) := by decide +kernel
theorem dX1_sees_11 : decode cX1_sees 11 = .ok (.iload_n 1, 1) := by decide +kernel
theorem dX1_sees_12 : decode cX1_sees 12 = .ok (.iload_n 2, 1) := by decide +kernel
theorem dX1_sees_13 : decode cX1_sees 13 = .ok (.invokevirtual 83, 3) := by decide +kernel
theorem dX1_sees_16 : decode cX1_sees 16 = .ok (.ireturn, 1) := by decide +kernel
theorem dX1_hatsOf_0 : decode cX1_hatsOf 0 = .ok (.iload_n 1, 1) := by decide +kernel
theorem dX1_hatsOf_1 : decode cX1_hatsOf 1 = .ok (.invokestatic 50, 3) := by decide +kernel
theorem dX1_hatsOf_4 : decode cX1_hatsOf 4 = .ok (.aload_n 0, 1) := by decide +kernel
theorem dX1_hatsOf_5 : decode cX1_hatsOf 5 = .ok (.aload_n 0, 1) := by decide +kernel
theorem dX1_hatsOf_6 : decode cX1_hatsOf 6 = .ok (.getfield 30, 3) := by decide +kernel
theorem dX1_hatsOf_9 : decode cX1_hatsOf 9 = .ok (.iload_n 1, 1) := by decide +kernel
theorem dX1_hatsOf_10 : decode cX1_hatsOf 10 = .ok (.invokevirtual 127, 3) := by decide +kernel
theorem dX1_hatsOf_13 : decode cX1_hatsOf 13 = .ok (.ireturn, 1) := by decide +kernel
theorem dX1_openWays_0 : decode cX1_openWays 0 = .ok (.aload_n 0, 1) := by decide +kernel
theorem dX1_openWays_1 : decode cX1_openWays 1 = .ok (.getfield 10, 3) := by decide +kernel
theorem dX1_openWays_4 : decode cX1_openWays 4 = .ok (.invokevirtual 91, 3) := by decide +kernel
theorem dX1_openWays_7 : decode cX1_openWays 7 = .ok (.ireturn, 1) := by decide +kernel
theorem dX1_openWaysWith_0 : decode cX1_openWaysWith 0 = .ok (.aload_n 0, 1) := by decide +kernel
theorem dX1_openWaysWith_1 : decode cX1_openWaysWith 1 = .ok (.iload_n 1, 1) := by decide +kernel
theorem dX1_openWaysWith_2 : decode cX1_openWaysWith 2 = .ok (.invokevirtual 124, 3) := by decide +kernel
theorem dX1_openWaysWith_5 : decode cX1_openWaysWith 5 = .ok (.iload_n 2, 1) := by decide +kernel
theorem dX1_openWaysWith_6 : decode cX1_openWaysWith 6 = .ok (.invokestatic 50, 3) := by decide +kernel
theorem dX1_openWaysWith_9 : decode cX1_openWaysWith 9 = .ok (.aload_n 0, 1) := by decide +kernel
theorem dX1_openWaysWith_10 : decode cX1_openWaysWith 10 = .ok (.iload_n 1, 1) := by decide +kernel
theorem dX1_openWaysWith_11 : decode cX1_openWaysWith 11 = .ok (.iload_n 2, 1) := by decide +kernel
theorem dX1_openWaysWith_12 : decode cX1_openWaysWith 12 = .ok (.invokevirtual 130, 3) := by decide +kernel
theorem dX1_openWaysWith_15 : decode cX1_openWaysWith 15 = .ok (.ireturn, 1) := by decide +kernel
theorem dX1_isKnownToAll_0 : decode cX1_isKnownToAll 0 = .ok (.aload_n 0, 1) := by decide +kernel
theorem dX1_isKnownToAll_1 : decode cX1_isKnownToAll 1 = .ok (.iload_n 1, 1) := by decide +kernel
theorem dX1_isKnownToAll_2 : decode cX1_isKnownToAll 2 = .ok (.invokevirtual 124, 3) := by decide +kernel
theorem dX1_isKnownToAll_5 : decode cX1_isKnownToAll 5 = .ok (.aload_n 0, 1) := by decide +kernel
theorem dX1_isKnownToAll_6 : decode cX1_isKnownToAll 6 = .ok (.iload_n 1, 1) := by decide +kernel
theorem dX1_isKnownToAll_7 : decode cX1_isKnownToAll 7 = .ok (.aload_n 0, 1) := by decide +kernel
theorem dX1_isKnownToAll_8 : decode cX1_isKnownToAll 8 = .ok (.getfield 30, 3) := by decide +kernel
theorem dX1_isKnownToAll_11 : decode cX1_isKnownToAll 11 = .ok (.iload_n 1, 1) := by decide +kernel
theorem dX1_isKnownToAll_12 : decode cX1_isKnownToAll 12 = .ok (.invokestatic 101, 3) := by decide +kernel
theorem dX1_isKnownToAll_15 : decode cX1_isKnownToAll 15 = .ok (.invokevirtual 130, 3) := by decide +kernel
theorem dX1_isKnownToAll_18 : decode cX1_isKnownToAll 18 = .ok (.aload_n 0, 1) := by decide +kernel
theorem dX1_isKnownToAll_19 : decode cX1_isKnownToAll 19 = .ok (.getfield 10, 3) := by decide +kernel
theorem dX1_isKnownToAll_22 : decode cX1_isKnownToAll 22 = .ok (.invokevirtual 91, 3) := by decide +kernel
theorem dX1_isKnownToAll_25 : decode cX1_isKnownToAll 25 = .ok (.if_icmp .ne 7, 3) := by decide +kernel
theorem dX1_isKnownToAll_28 : decode cX1_isKnownToAll 28 = .ok (.iconst 1, 1) := by decide +kernel
theorem dX1_isKnownToAll_29 : decode cX1_isKnownToAll 29 = .ok (.goto 4, 3) := by decide +kernel
theorem dX1_isKnownToAll_32 : decode cX1_isKnownToAll 32 = .ok (.iconst 0, 1) := by decide +kernel
theorem dX1_isKnownToAll_33 : decode cX1_isKnownToAll 33 = .ok (.ireturn, 1) := by decide +kernel
theorem dX1_possibleWays_0 : decode cX1_possibleWays 0 = .ok (.aload_n 0, 1) := by decide +kernel
theorem dX1_possibleWays_1 : decode cX1_possibleWays 1 = .ok (.iload_n 1, 1) := by decide +kernel
theorem dX1_possibleWays_2 : decode cX1_possibleWays 2 = .ok (.invokevirtual 124, 3) := by decide +kernel
theorem dX1_possibleWays_5 : decode cX1_possibleWays 5 = .ok (.aload_n 0, 1) := by decide +kernel
theorem dX1_possibleWays_6 : decode cX1_possibleWays 6 = .ok (.iload_n 1, 1) := by decide +kernel
theorem dX1_possibleWays_7 : decode cX1_possibleWays 7 = .ok (.invokevirtual 133, 3) := by decide +kernel
theorem dX1_possibleWays_10 : decode cX1_possibleWays 10 = .ok (.ireturn, 1) := by decide +kernel
theorem dX1_holdsPossible_0 : decode cX1_holdsPossible 0 = .ok (.aload_n 0, 1) := by decide +kernel
theorem dX1_holdsPossible_1 : decode cX1_holdsPossible 1 = .ok (.iload_n 1, 1) := by decide +kernel
theorem dX1_holdsPossible_2 : decode cX1_holdsPossible 2 = .ok (.invokevirtual 124, 3) := by decide +kernel
theorem dX1_holdsPossible_5 : decode cX1_holdsPossible 5 = .ok (.aload_n 0, 1) := by decide +kernel
theorem dX1_holdsPossible_6 : decode cX1_holdsPossible 6 = .ok (.iload_n 2, 1) := by decide +kernel
theorem dX1_holdsPossible_7 : decode cX1_holdsPossible 7 = .ok (.invokevirtual 124, 3) := by decide +kernel
theorem dX1_holdsPossible_10 : decode cX1_holdsPossible 10 = .ok (.iload_n 3, 1) := by decide +kernel
theorem dX1_holdsPossible_11 : decode cX1_holdsPossible 11 = .ok (.invokestatic 50, 3) := by decide +kernel
theorem dX1_holdsPossible_14 : decode cX1_holdsPossible 14 = .ok (.aload_n 0, 1) := by decide +kernel
theorem dX1_holdsPossible_15 : decode cX1_holdsPossible 15 = .ok (.aload_n 0, 1) := by decide +kernel
theorem dX1_holdsPossible_16 : decode cX1_holdsPossible 16 = .ok (.getfield 10, 3) := by decide +kernel
theorem dX1_holdsPossible_19 : decode cX1_holdsPossible 19 = .ok (.iload_n 1, 1) := by decide +kernel
theorem dX1_holdsPossible_20 : decode cX1_holdsPossible 20 = .ok (.iload_n 2, 1) := by decide +kernel
theorem dX1_holdsPossible_21 : decode cX1_holdsPossible 21 = .ok (.invokevirtual 136, 3) := by decide +kernel
theorem dX1_holdsPossible_24 : decode cX1_holdsPossible 24 = .ok (.iconst 1, 1) := by decide +kernel
theorem dX1_holdsPossible_25 : decode cX1_holdsPossible 25 = .ok (.iload_n 3, 1) := by decide +kernel
theorem dX1_holdsPossible_26 : decode cX1_holdsPossible 26 = .ok (.ishl, 1) := by decide +kernel
theorem dX1_holdsPossible_27 : decode cX1_holdsPossible 27 = .ok (.iand, 1) := by decide +kernel
theorem dX1_holdsPossible_28 : decode cX1_holdsPossible 28 = .ok (.ifCond .eq 7, 3) := by decide +kernel
theorem dX1_holdsPossible_31 : decode cX1_holdsPossible 31 = .ok (.iconst 1, 1) := by decide +kernel
theorem dX1_holdsPossible_32 : decode cX1_holdsPossible 32 = .ok (.goto 4, 3) := by decide +kernel
theorem dX1_holdsPossible_35 : decode cX1_holdsPossible 35 = .ok (.iconst 0, 1) := by decide +kernel
theorem dX1_holdsPossible_36 : decode cX1_holdsPossible 36 = .ok (.ireturn, 1) := by decide +kernel
theorem dX1_isCertain_0 : decode cX1_isCertain 0 = .ok (.aload_n 0, 1) := by decide +kernel
theorem dX1_isCertain_1 : decode cX1_isCertain 1 = .ok (.iload_n 1, 1) := by decide +kernel
theorem dX1_isCertain_2 : decode cX1_isCertain 2 = .ok (.invokevirtual 124, 3) := by decide +kernel
theorem dX1_isCertain_5 : decode cX1_isCertain 5 = .ok (.aload_n 0, 1) := by decide +kernel
theorem dX1_isCertain_6 : decode cX1_isCertain 6 = .ok (.aload_n 0, 1) := by decide +kernel
theorem dX1_isCertain_7 : decode cX1_isCertain 7 = .ok (.getfield 10, 3) := by decide +kernel
theorem dX1_isCertain_10 : decode cX1_isCertain 10 = .ok (.iload_n 1, 1) := by decide +kernel
theorem dX1_isCertain_11 : decode cX1_isCertain 11 = .ok (.invokevirtual 140, 3) := by decide +kernel
theorem dX1_isCertain_14 : decode cX1_isCertain 14 = .ok (.ireturn, 1) := by decide +kernel
theorem dX1_knowsHatOf_0 : decode cX1_knowsHatOf 0 = .ok (.aload_n 0, 1) := by decide +kernel
theorem dX1_knowsHatOf_1 : decode cX1_knowsHatOf 1 = .ok (.iload_n 1, 1) := by decide +kernel
theorem dX1_knowsHatOf_2 : decode cX1_knowsHatOf 2 = .ok (.invokevirtual 124, 3) := by decide +kernel
theorem dX1_knowsHatOf_5 : decode cX1_knowsHatOf 5 = .ok (.aload_n 0, 1) := by decide +kernel
theorem dX1_knowsHatOf_6 : decode cX1_knowsHatOf 6 = .ok (.iload_n 2, 1) := by decide +kernel
theorem dX1_knowsHatOf_7 : decode cX1_knowsHatOf 7 = .ok (.invokevirtual 124, 3) := by decide +kernel
theorem dX1_knowsHatOf_10 : decode cX1_knowsHatOf 10 = .ok (.aload_n 0, 1) := by decide +kernel
theorem dX1_knowsHatOf_11 : decode cX1_knowsHatOf 11 = .ok (.aload_n 0, 1) := by decide +kernel
theorem dX1_knowsHatOf_12 : decode cX1_knowsHatOf 12 = .ok (.getfield 10, 3) := by decide +kernel
theorem dX1_knowsHatOf_15 : decode cX1_knowsHatOf 15 = .ok (.iload_n 1, 1) := by decide +kernel
theorem dX1_knowsHatOf_16 : decode cX1_knowsHatOf 16 = .ok (.iload_n 2, 1) := by decide +kernel
theorem dX1_knowsHatOf_17 : decode cX1_knowsHatOf 17 = .ok (.invokevirtual 136, 3) := by decide +kernel
theorem dX1_knowsHatOf_20 : decode cX1_knowsHatOf 20 = .ok (.invokestatic 143, 3) := by decide +kernel
theorem dX1_knowsHatOf_23 : decode cX1_knowsHatOf 23 = .ok (.ireturn, 1) := by decide +kernel
theorem dX1_knowsCertain_0 : decode cX1_knowsCertain 0 = .ok (.aload_n 0, 1) := by decide +kernel
theorem dX1_knowsCertain_1 : decode cX1_knowsCertain 1 = .ok (.iload_n 1, 1) := by decide +kernel
theorem dX1_knowsCertain_2 : decode cX1_knowsCertain 2 = .ok (.invokevirtual 124, 3) := by decide +kernel
theorem dX1_knowsCertain_5 : decode cX1_knowsCertain 5 = .ok (.aload_n 0, 1) := by decide +kernel
theorem dX1_knowsCertain_6 : decode cX1_knowsCertain 6 = .ok (.iload_n 2, 1) := by decide +kernel
theorem dX1_knowsCertain_7 : decode cX1_knowsCertain 7 = .ok (.invokevirtual 124, 3) := by decide +kernel
theorem dX1_knowsCertain_10 : decode cX1_knowsCertain 10 = .ok (.aload_n 0, 1) := by decide +kernel
theorem dX1_knowsCertain_11 : decode cX1_knowsCertain 11 = .ok (.aload_n 0, 1) := by decide +kernel
theorem dX1_knowsCertain_12 : decode cX1_knowsCertain 12 = .ok (.getfield 10, 3) := by decide +kernel
theorem dX1_knowsCertain_15 : decode cX1_knowsCertain 15 = .ok (.iload_n 2, 1) := by decide +kernel
theorem dX1_knowsCertain_16 : decode cX1_knowsCertain 16 = .ok (.invokevirtual 147, 3) := by decide +kernel
theorem dX1_knowsCertain_19 : decode cX1_knowsCertain 19 = .ok (.aload_n 0, 1) := by decide +kernel
theorem dX1_knowsCertain_20 : decode cX1_knowsCertain 20 = .ok (.iload_n 1, 1) := by decide +kernel
theorem dX1_knowsCertain_21 : decode cX1_knowsCertain 21 = .ok (.invokevirtual 74, 3) := by decide +kernel
theorem dX1_knowsCertain_24 : decode cX1_knowsCertain 24 = .ok (.istore_n 3, 1) := by decide +kernel
theorem dX1_knowsCertain_25 : decode cX1_knowsCertain 25 = .ok (.iconst 0, 1) := by decide +kernel
theorem dX1_knowsCertain_26 : decode cX1_knowsCertain 26 = .ok (.istore 4, 2) := by decide +kernel
theorem dX1_knowsCertain_28 : decode cX1_knowsCertain 28 = .ok (.iload 4, 2) := by decide +kernel
theorem dX1_knowsCertain_30 : decode cX1_knowsCertain 30 = .ok (.aload_n 0, 1) := by decide +kernel
theorem dX1_knowsCertain_31 : decode cX1_knowsCertain 31 = .ok (.getfield 10, 3) := by decide +kernel
theorem dX1_knowsCertain_34 : decode cX1_knowsCertain 34 = .ok (.invokevirtual 91, 3) := by decide +kernel
theorem dX1_knowsCertain_37 : decode cX1_knowsCertain 37 = .ok (.if_icmp .ge 42, 3) := by decide +kernel
theorem dX1_knowsCertain_40 : decode cX1_knowsCertain 40 = .ok (.aload_n 0, 1) := by decide +kernel
theorem dX1_knowsCertain_41 : decode cX1_knowsCertain 41 = .ok (.getfield 10, 3) := by decide +kernel
theorem dX1_knowsCertain_44 : decode cX1_knowsCertain 44 = .ok (.iload 4, 2) := by decide +kernel
theorem dX1_knowsCertain_46 : decode cX1_knowsCertain 46 = .ok (.invokevirtual 95, 3) := by decide +kernel
theorem dX1_knowsCertain_49 : decode cX1_knowsCertain 49 = .ok (.istore 5, 2) := by decide +kernel
theorem dX1_knowsCertain_51 : decode cX1_knowsCertain 51 = .ok (.aload_n 0, 1) := by decide +kernel
theorem dX1_knowsCertain_52 : decode cX1_knowsCertain 52 = .ok (.iload 5, 2) := by decide +kernel
theorem dX1_knowsCertain_54 : decode cX1_knowsCertain 54 = .ok (.iload_n 3, 1) := by decide +kernel
theorem dX1_knowsCertain_55 : decode cX1_knowsCertain 55 = .ok (.invokevirtual 151, 3) := by decide +kernel
theorem dX1_knowsCertain_58 : decode cX1_knowsCertain 58 = .ok (.ifCond .eq 15, 3) := by decide +kernel
theorem dX1_knowsCertain_61 : decode cX1_knowsCertain 61 = .ok (.aload_n 0, 1) := by decide +kernel
theorem dX1_knowsCertain_62 : decode cX1_knowsCertain 62 = .ok (.iload 5, 2) := by decide +kernel
theorem dX1_knowsCertain_64 : decode cX1_knowsCertain 64 = .ok (.iload_n 2, 1) := by decide +kernel
theorem dX1_knowsCertain_65 : decode cX1_knowsCertain 65 = .ok (.invokevirtual 154, 3) := by decide +kernel
theorem dX1_knowsCertain_68 : decode cX1_knowsCertain 68 = .ok (.ifCond .ne 5, 3) := by decide +kernel
theorem dX1_knowsCertain_71 : decode cX1_knowsCertain 71 = .ok (.iconst 0, 1) := by decide +kernel
theorem dX1_knowsCertain_72 : decode cX1_knowsCertain 72 = .ok (.ireturn, 1) := by decide +kernel
theorem dX1_knowsCertain_73 : decode cX1_knowsCertain 73 = .ok (.iinc 4 1, 3) := by decide +kernel
theorem dX1_knowsCertain_76 : decode cX1_knowsCertain 76 = .ok (.goto (-48), 3) := by decide +kernel
theorem dX1_knowsCertain_79 : decode cX1_knowsCertain 79 = .ok (.iconst 1, 1) := by decide +kernel
theorem dX1_knowsCertain_80 : decode cX1_knowsCertain 80 = .ok (.ireturn, 1) := by decide +kernel
theorem dX1_certainPlayers_0 : decode cX1_certainPlayers 0 = .ok (.aload_n 0, 1) := by decide +kernel
theorem dX1_certainPlayers_1 : decode cX1_certainPlayers 1 = .ok (.aload_n 0, 1) := by decide +kernel
theorem dX1_certainPlayers_2 : decode cX1_certainPlayers 2 = .ok (.getfield 10, 3) := by decide +kernel
theorem dX1_certainPlayers_5 : decode cX1_certainPlayers 5 = .ok (.invokevirtual 157, 3) := by decide +kernel
theorem dX1_certainPlayers_8 : decode cX1_certainPlayers 8 = .ok (.ireturn, 1) := by decide +kernel
theorem dX1_certainIfTold_0 : decode cX1_certainIfTold 0 = .ok (.aload_n 0, 1) := by decide +kernel
theorem dX1_certainIfTold_1 : decode cX1_certainIfTold 1 = .ok (.iload_n 1, 1) := by decide +kernel
theorem dX1_certainIfTold_2 : decode cX1_certainIfTold 2 = .ok (.invokevirtual 124, 3) := by decide +kernel
theorem dX1_certainIfTold_5 : decode cX1_certainIfTold 5 = .ok (.aload_n 0, 1) := by decide +kernel
theorem dX1_certainIfTold_6 : decode cX1_certainIfTold 6 = .ok (.getfield 16, 3) := by decide +kernel
theorem dX1_certainIfTold_9 : decode cX1_certainIfTold 9 = .ok (.aload_n 0, 1) := by decide +kernel
theorem dX1_certainIfTold_10 : decode cX1_certainIfTold 10 = .ok (.getfield 10, 3) := by decide +kernel
theorem dX1_certainIfTold_13 : decode cX1_certainIfTold 13 = .ok (.invokevirtual 161, 3) := by decide +kernel
theorem dX1_certainIfTold_16 : decode cX1_certainIfTold 16 = .ok (.aload_n 0, 1) := by decide +kernel
theorem dX1_certainIfTold_17 : decode cX1_certainIfTold 17 = .ok (.getfield 16, 3) := by decide +kernel
theorem dX1_certainIfTold_20 : decode cX1_certainIfTold 20 = .ok (.iload_n 1, 1) := by decide +kernel
theorem dX1_certainIfTold_21 : decode cX1_certainIfTold 21 = .ok (.aload_n 0, 1) := by decide +kernel
theorem dX1_certainIfTold_22 : decode cX1_certainIfTold 22 = .ok (.getfield 30, 3) := by decide +kernel
theorem dX1_certainIfTold_25 : decode cX1_certainIfTold 25 = .ok (.iload_n 1, 1) := by decide +kernel
theorem dX1_certainIfTold_26 : decode cX1_certainIfTold 26 = .ok (.invokestatic 101, 3) := by decide +kernel
theorem dX1_certainIfTold_29 : decode cX1_certainIfTold 29 = .ok (.invokestatic 171, 3) := by decide +kernel
theorem dX1_certainIfTold_32 : decode cX1_certainIfTold 32 = .ok (.aload_n 0, 1) := by decide +kernel
theorem dX1_certainIfTold_33 : decode cX1_certainIfTold 33 = .ok (.aload_n 0, 1) := by decide +kernel
theorem dX1_certainIfTold_34 : decode cX1_certainIfTold 34 = .ok (.getfield 16, 3) := by decide +kernel
theorem dX1_certainIfTold_37 : decode cX1_certainIfTold 37 = .ok (.invokevirtual 157, 3) := by decide +kernel
theorem dX1_certainIfTold_40 : decode cX1_certainIfTold 40 = .ok (.ireturn, 1) := by decide +kernel
theorem dX1_meanPossible_0 : decode cX1_meanPossible 0 = .ok (.aload_n 0, 1) := by decide +kernel
theorem dX1_meanPossible_1 : decode cX1_meanPossible 1 = .ok (.getfield 26, 3) := by decide +kernel
theorem dX1_meanPossible_4 : decode cX1_meanPossible 4 = .ok (.ifCond .gt 5, 3) := by decide +kernel
theorem dX1_meanPossible_7 : decode cX1_meanPossible 7 = .ok (.dconst 0, 1) := by decide +kernel
theorem dX1_meanPossible_8 : decode cX1_meanPossible 8 = .ok (.dreturn, 1) := by decide +kernel
theorem dX1_meanPossible_9 : decode cX1_meanPossible 9 = .ok (.iconst 0, 1) := by decide +kernel
theorem dX1_meanPossible_10 : decode cX1_meanPossible 10 = .ok (.istore_n 1, 1) := by decide +kernel
theorem dX1_meanPossible_11 : decode cX1_meanPossible 11 = .ok (.iconst 0, 1) := by decide +kernel
theorem dX1_meanPossible_12 : decode cX1_meanPossible 12 = .ok (.istore_n 2, 1) := by decide +kernel
theorem dX1_meanPossible_13 : decode cX1_meanPossible 13 = .ok (.iload_n 2, 1) := by decide +kernel
theorem dX1_meanPossible_14 : decode cX1_meanPossible 14 = .ok (.aload_n 0, 1) := by decide +kernel
theorem dX1_meanPossible_15 : decode cX1_meanPossible 15 = .ok (.getfield 26, 3) := by decide +kernel
theorem dX1_meanPossible_18 : decode cX1_meanPossible 18 = .ok (.if_icmp .ge 17, 3) := by decide +kernel
theorem dX1_meanPossible_21 : decode cX1_meanPossible 21 = .ok (.iload_n 1, 1) := by decide +kernel
theorem dX1_meanPossible_22 : decode cX1_meanPossible 22 = .ok (.aload_n 0, 1) := by decide +kernel
theorem dX1_meanPossible_23 : decode cX1_meanPossible 23 = .ok (.iload_n 2, 1) := by decide +kernel
theorem dX1_meanPossible_24 : decode cX1_meanPossible 24 = .ok (.invokevirtual 133, 3) := by decide +kernel
theorem dX1_meanPossible_27 : decode cX1_meanPossible 27 = .ok (.iadd, 1) := by decide +kernel
theorem dX1_meanPossible_28 : decode cX1_meanPossible 28 = .ok (.istore_n 1, 1) := by decide +kernel
theorem dX1_meanPossible_29 : decode cX1_meanPossible 29 = .ok (.iinc 2 1, 3) := by decide +kernel
theorem dX1_meanPossible_32 : decode cX1_meanPossible 32 = .ok (.goto (-19), 3) := by decide +kernel
theorem dX1_meanPossible_35 : decode cX1_meanPossible 35 = .ok (.iload_n 1, 1) := by decide +kernel
theorem dX1_meanPossible_36 : decode cX1_meanPossible 36 = .ok (.i2d, 1) := by decide +kernel
theorem dX1_meanPossible_37 : decode cX1_meanPossible 37 = .ok (.aload_n 0, 1) := by decide +kernel
theorem dX1_meanPossible_38 : decode cX1_meanPossible 38 = .ok (.getfield 26, 3) := by decide +kernel
theorem dX1_meanPossible_41 : decode cX1_meanPossible 41 = .ok (.i2d, 1) := by decide +kernel
theorem dX1_meanPossible_42 : decode cX1_meanPossible 42 = .ok (.ddiv, 1) := by decide +kernel
theorem dX1_meanPossible_43 : decode cX1_meanPossible 43 = .ok (.dreturn, 1) := by decide +kernel
theorem dX1_requirePlayer_0 : decode cX1_requirePlayer 0 = .ok (.iload_n 1, 1) := by decide +kernel
theorem dX1_requirePlayer_1 : decode cX1_requirePlayer 1 = .ok (.ifCond .lt 11, 3) := by decide +kernel
theorem dX1_requirePlayer_4 : decode cX1_requirePlayer 4 = .ok (.iload_n 1, 1) := by decide +kernel
theorem dX1_requirePlayer_5 : decode cX1_requirePlayer 5 = .ok (.aload_n 0, 1) := by decide +kernel
theorem dX1_requirePlayer_6 : decode cX1_requirePlayer 6 = .ok (.getfield 26, 3) := by decide +kernel
theorem dX1_requirePlayer_9 : decode cX1_requirePlayer 9 = .ok (.if_icmp .lt 13, 3) := by decide +kernel
theorem dX1_requirePlayer_12 : decode cX1_requirePlayer 12 = .ok (.new 209, 3) := by decide +kernel
theorem dX1_requirePlayer_15 : decode cX1_requirePlayer 15 = .ok (.dup, 1) := by decide +kernel
theorem dX1_requirePlayer_16 : decode cX1_requirePlayer 16 = .ok (.ldc 211, 2) := by decide +kernel
theorem dX1_requirePlayer_18 : decode cX1_requirePlayer 18 = .ok (.invokespecial 213, 3) := by decide +kernel
theorem dX1_requirePlayer_21 : decode cX1_requirePlayer 21 = .ok (.athrow, 1) := by decide +kernel
theorem dX1_requirePlayer_22 : decode cX1_requirePlayer 22 = .ok (.return_, 1) := by decide +kernel
theorem dX1_requireTwoPlayers_0 : decode cX1_requireTwoPlayers 0 = .ok (.aload_n 0, 1) := by decide +kernel
theorem dX1_requireTwoPlayers_1 : decode cX1_requireTwoPlayers 1 = .ok (.iload_n 1, 1) := by decide +kernel
theorem dX1_requireTwoPlayers_2 : decode cX1_requireTwoPlayers 2 = .ok (.invokevirtual 124, 3) := by decide +kernel
theorem dX1_requireTwoPlayers_5 : decode cX1_requireTwoPlayers 5 = .ok (.aload_n 0, 1) := by decide +kernel
theorem dX1_requireTwoPlayers_6 : decode cX1_requireTwoPlayers 6 = .ok (.iload_n 2, 1) := by decide +kernel
theorem dX1_requireTwoPlayers_7 : decode cX1_requireTwoPlayers 7 = .ok (.invokevirtual 124, 3) := by decide +kernel
theorem dX1_requireTwoPlayers_10 : decode cX1_requireTwoPlayers 10 = .ok (.iload_n 1, 1) := by decide +kernel
theorem dX1_requireTwoPlayers_11 : decode cX1_requireTwoPlayers 11 = .ok (.iload_n 2, 1) := by decide +kernel
theorem dX1_requireTwoPlayers_12 : decode cX1_requireTwoPlayers 12 = .ok (.if_icmp .ne 13, 3) := by decide +kernel
theorem dX1_requireTwoPlayers_15 : decode cX1_requireTwoPlayers 15 = .ok (.new 214, 3) := by decide +kernel
theorem dX1_requireTwoPlayers_18 : decode cX1_requireTwoPlayers 18 = .ok (.dup, 1) := by decide +kernel
theorem dX1_requireTwoPlayers_19 : decode cX1_requireTwoPlayers 19 = .ok (.ldc 216, 2) := by decide +kernel
theorem dX1_requireTwoPlayers_21 : decode cX1_requireTwoPlayers 21 = .ok (.invokespecial 218, 3) := by decide +kernel
theorem dX1_requireTwoPlayers_24 : decode cX1_requireTwoPlayers 24 = .ok (.athrow, 1) := by decide +kernel
theorem dX1_requireTwoPlayers_25 : decode cX1_requireTwoPlayers 25 = .ok (.return_, 1) := by decide +kernel
theorem dX1_requireSomePlayer_0 : decode cX1_requireSomePlayer 0 = .ok (.aload_n 0, 1) := by decide +kernel
theorem dX1_requireSomePlayer_1 : decode cX1_requireSomePlayer 1 = .ok (.getfield 26, 3) := by decide +kernel
theorem dX1_requireSomePlayer_4 : decode cX1_requireSomePlayer 4 = .ok (.ifCond .gt 13, 3) := by decide +kernel
theorem dX1_requireSomePlayer_7 : decode cX1_requireSomePlayer 7 = .ok (.new 53, 3) := by decide +kernel
theorem dX1_requireSomePlayer_10 : decode cX1_requireSomePlayer 10 = .ok (.dup, 1) := by decide +kernel
theorem dX1_requireSomePlayer_11 : decode cX1_requireSomePlayer 11 = .ok (.ldc 219, 2) := by decide +kernel
theorem dX1_requireSomePlayer_13 : decode cX1_requireSomePlayer 13 = .ok (.invokespecial 57, 3) := by decide +kernel
theorem dX1_requireSomePlayer_16 : decode cX1_requireSomePlayer 16 = .ok (.athrow, 1) := by decide +kernel
theorem dX1_requireSomePlayer_17 : decode cX1_requireSomePlayer 17 = .ok (.return_, 1) := by decide +kernel
theorem dX1_requireColour_0 : decode cX1_requireColour 0 = .ok (.iload_n 0, 1) := by decide +kernel
theorem dX1_requireColour_1 : decode cX1_requireColour 1 = .ok (.ifCond .lt 8, 3) := by decide +kernel
theorem dX1_requireColour_4 : decode cX1_requireColour 4 = .ok (.iload_n 0, 1) := by decide +kernel
theorem dX1_requireColour_5 : decode cX1_requireColour 5 = .ok (.iconst 3, 1) := by decide +kernel
theorem dX1_requireColour_6 : decode cX1_requireColour 6 = .ok (.if_icmp .lt 13, 3) := by decide +kernel
theorem dX1_requireColour_9 : decode cX1_requireColour 9 = .ok (.new 209, 3) := by decide +kernel
theorem dX1_requireColour_12 : decode cX1_requireColour 12 = .ok (.dup, 1) := by decide +kernel
theorem dX1_requireColour_13 : decode cX1_requireColour 13 = .ok (.ldc 221, 2) := by decide +kernel
theorem dX1_requireColour_15 : decode cX1_requireColour 15 = .ok (.invokespecial 213, 3) := by decide +kernel
theorem dX1_requireColour_18 : decode cX1_requireColour 18 = .ok (.athrow, 1) := by decide +kernel
theorem dX1_requireColour_19 : decode cX1_requireColour 19 = .ok (.return_, 1) := by decide +kernel
theorem dX1_requireMany_0 : decode cX1_requireMany 0 = .ok (.iload_n 0, 1) := by decide +kernel
theorem dX1_requireMany_1 : decode cX1_requireMany 1 = .ok (.ifCond .lt 8, 3) := by decide +kernel
theorem dX1_requireMany_4 : decode cX1_requireMany 4 = .ok (.iload_n 0, 1) := by decide +kernel
theorem dX1_requireMany_5 : decode cX1_requireMany 5 = .ok (.iconst 5, 1) := by decide +kernel
theorem dX1_requireMany_6 : decode cX1_requireMany 6 = .ok (.if_icmp .le 13, 3) := by decide +kernel
theorem dX1_requireMany_9 : decode cX1_requireMany 9 = .ok (.new 214, 3) := by decide +kernel
theorem dX1_requireMany_12 : decode cX1_requireMany 12 = .ok (.dup, 1) := by decide +kernel
theorem dX1_requireMany_13 : decode cX1_requireMany 13 = .ok (.ldc 223, 2) := by decide +kernel
theorem dX1_requireMany_15 : decode cX1_requireMany 15 = .ok (.invokespecial 218, 3) := by decide +kernel
theorem dX1_requireMany_18 : decode cX1_requireMany 18 = .ok (.athrow, 1) := by decide +kernel
theorem dX1_requireMany_19 : decode cX1_requireMany 19 = .ok (.return_, 1) := by decide +kernel
theorem dX1_shiftOf_0 : decode cX1_shiftOf 0 = .ok (.iload_n 0, 1) := by decide +kernel
theorem dX1_shiftOf_1 : decode cX1_shiftOf 1 = .ok (.iconst 2, 1) := by decide +kernel
theorem dX1_shiftOf_2 : decode cX1_shiftOf 2 = .ok (.imul, 1) := by decide +kernel
theorem dX1_shiftOf_3 : decode cX1_shiftOf 3 = .ok (.ireturn, 1) := by decide +kernel
theorem dX1_hatMask_0 : decode cX1_hatMask 0 = .ok (.iconst 3, 1) := by decide +kernel
theorem dX1_hatMask_1 : decode cX1_hatMask 1 = .ok (.iload_n 0, 1) := by decide +kernel
theorem dX1_hatMask_2 : decode cX1_hatMask 2 = .ok (.invokestatic 60, 3) := by decide +kernel
theorem dX1_hatMask_5 : decode cX1_hatMask 5 = .ok (.ishl, 1) := by decide +kernel
theorem dX1_hatMask_6 : decode cX1_hatMask 6 = .ok (.ireturn, 1) := by decide +kernel
theorem dX1_colourIn_0 : decode cX1_colourIn 0 = .ok (.iload_n 0, 1) := by decide +kernel
theorem dX1_colourIn_1 : decode cX1_colourIn 1 = .ok (.iload_n 1, 1) := by decide +kernel
theorem dX1_colourIn_2 : decode cX1_colourIn 2 = .ok (.iconst 2, 1) := by decide +kernel
theorem dX1_colourIn_3 : decode cX1_colourIn 3 = .ok (.imul, 1) := by decide +kernel
theorem dX1_colourIn_4 : decode cX1_colourIn 4 = .ok (.ishr, 1) := by decide +kernel
theorem dX1_colourIn_5 : decode cX1_colourIn 5 = .ok (.iconst 3, 1) := by decide +kernel
theorem dX1_colourIn_6 : decode cX1_colourIn 6 = .ok (.iand, 1) := by decide +kernel
theorem dX1_colourIn_7 : decode cX1_colourIn 7 = .ok (.ireturn, 1) := by decide +kernel
theorem dX1_exchanged_0 : decode cX1_exchanged 0 = .ok (.iload_n 0, 1) := by decide +kernel
theorem dX1_exchanged_1 : decode cX1_exchanged 1 = .ok (.iload_n 1, 1) := by decide +kernel
theorem dX1_exchanged_2 : decode cX1_exchanged 2 = .ok (.invokestatic 101, 3) := by decide +kernel
theorem dX1_exchanged_5 : decode cX1_exchanged 5 = .ok (.iload_n 0, 1) := by decide +kernel
theorem dX1_exchanged_6 : decode cX1_exchanged 6 = .ok (.iload_n 2, 1) := by decide +kernel
theorem dX1_exchanged_7 : decode cX1_exchanged 7 = .ok (.invokestatic 101, 3) := by decide +kernel
theorem dX1_exchanged_10 : decode cX1_exchanged 10 = .ok (.ixor, 1) := by decide +kernel
theorem dX1_exchanged_11 : decode cX1_exchanged 11 = .ok (.istore_n 3, 1) := by decide +kernel
theorem dX1_exchanged_12 : decode cX1_exchanged 12 = .ok (.iload_n 0, 1) := by decide +kernel
theorem dX1_exchanged_13 : decode cX1_exchanged 13 = .ok (.iload_n 3, 1) := by decide +kernel
theorem dX1_exchanged_14 : decode cX1_exchanged 14 = .ok (.iload_n 1, 1) := by decide +kernel
theorem dX1_exchanged_15 : decode cX1_exchanged 15 = .ok (.invokestatic 60, 3) := by decide +kernel
theorem dX1_exchanged_18 : decode cX1_exchanged 18 = .ok (.ishl, 1) := by decide +kernel
theorem dX1_exchanged_19 : decode cX1_exchanged 19 = .ok (.ixor, 1) := by decide +kernel
theorem dX1_exchanged_20 : decode cX1_exchanged 20 = .ok (.iload_n 3, 1) := by decide +kernel
theorem dX1_exchanged_21 : decode cX1_exchanged 21 = .ok (.iload_n 2, 1) := by decide +kernel
theorem dX1_exchanged_22 : decode cX1_exchanged 22 = .ok (.invokestatic 60, 3) := by decide +kernel
theorem dX1_exchanged_25 : decode cX1_exchanged 25 = .ok (.ishl, 1) := by decide +kernel
theorem dX1_exchanged_26 : decode cX1_exchanged 26 = .ok (.ixor, 1) := by decide +kernel
theorem dX1_exchanged_27 : decode cX1_exchanged 27 = .ok (.ireturn, 1) := by decide +kernel
theorem dX1_hatsIn_0 : decode cX1_hatsIn 0 = .ok (.iconst 0, 1) := by decide +kernel
theorem dX1_hatsIn_1 : decode cX1_hatsIn 1 = .ok (.istore_n 3, 1) := by decide +kernel
theorem dX1_hatsIn_2 : decode cX1_hatsIn 2 = .ok (.iconst 0, 1) := by decide +kernel
theorem dX1_hatsIn_3 : decode cX1_hatsIn 3 = .ok (.istore 4, 2) := by decide +kernel
theorem dX1_hatsIn_5 : decode cX1_hatsIn 5 = .ok (.iload 4, 2) := by decide +kernel
theorem dX1_hatsIn_7 : decode cX1_hatsIn 7 = .ok (.aload_n 0, 1) := by decide +kernel
theorem dX1_hatsIn_8 : decode cX1_hatsIn 8 = .ok (.getfield 26, 3) := by decide +kernel
theorem dX1_hatsIn_11 : decode cX1_hatsIn 11 = .ok (.if_icmp .ge 22, 3) := by decide +kernel
theorem dX1_hatsIn_14 : decode cX1_hatsIn 14 = .ok (.iload_n 1, 1) := by decide +kernel
theorem dX1_hatsIn_15 : decode cX1_hatsIn 15 = .ok (.iload 4, 2) := by decide +kernel
theorem dX1_hatsIn_17 : decode cX1_hatsIn 17 = .ok (.invokestatic 101, 3) := by decide +kernel
theorem dX1_hatsIn_20 : decode cX1_hatsIn 20 = .ok (.iload_n 2, 1) := by decide +kernel
theorem dX1_hatsIn_21 : decode cX1_hatsIn 21 = .ok (.if_icmp .ne 6, 3) := by decide +kernel
theorem dX1_hatsIn_24 : decode cX1_hatsIn 24 = .ok (.iinc 3 1, 3) := by decide +kernel
theorem dX1_hatsIn_27 : decode cX1_hatsIn 27 = .ok (.iinc 4 1, 3) := by decide +kernel
theorem dX1_hatsIn_30 : decode cX1_hatsIn 30 = .ok (.goto (-25), 3) := by decide +kernel
theorem dX1_hatsIn_33 : decode cX1_hatsIn 33 = .ok (.iload_n 3, 1) := by decide +kernel
theorem dX1_hatsIn_34 : decode cX1_hatsIn 34 = .ok (.ireturn, 1) := by decide +kernel
theorem dX1_seenHatsOf_0 : decode cX1_seenHatsOf 0 = .ok (.iload_n 1, 1) := by decide +kernel
theorem dX1_seenHatsOf_1 : decode cX1_seenHatsOf 1 = .ok (.ifCond .lt 21, 3) := by decide +kernel
theorem dX1_seenHatsOf_4 : decode cX1_seenHatsOf 4 = .ok (.iload_n 1, 1) := by decide +kernel
theorem dX1_seenHatsOf_5 : decode cX1_seenHatsOf 5 = .ok (.aload_n 0, 1) := by decide +kernel
theorem dX1_seenHatsOf_6 : decode cX1_seenHatsOf 6 = .ok (.getfield 19, 3) := by decide +kernel
theorem dX1_seenHatsOf_9 : decode cX1_seenHatsOf 9 = .ok (.arraylength, 1) := by decide +kernel
theorem dX1_seenHatsOf_10 : decode cX1_seenHatsOf 10 = .ok (.if_icmp .ge 12, 3) := by decide +kernel
theorem dX1_seenHatsOf_13 : decode cX1_seenHatsOf 13 = .ok (.aload_n 0, 1) := by decide +kernel
theorem dX1_seenHatsOf_14 : decode cX1_seenHatsOf 14 = .ok (.getfield 19, 3) := by decide +kernel
theorem dX1_seenHatsOf_17 : decode cX1_seenHatsOf 17 = .ok (.iload_n 1, 1) := by decide +kernel
theorem dX1_seenHatsOf_18 : decode cX1_seenHatsOf 18 = .ok (.iaload, 1) := by decide +kernel
theorem dX1_seenHatsOf_19 : decode cX1_seenHatsOf 19 = .ok (.goto 4, 3) := by decide +kernel
theorem dX1_seenHatsOf_22 : decode cX1_seenHatsOf 22 = .ok (.iconst 0, 1) := by decide +kernel
theorem dX1_seenHatsOf_23 : decode cX1_seenHatsOf 23 = .ok (.ireturn, 1) := by decide +kernel
theorem dX1_setSeenHatsOf_0 : decode cX1_setSeenHatsOf 0 = .ok (.iload_n 1, 1) := by decide +kernel
theorem dX1_setSeenHatsOf_1 : decode cX1_setSeenHatsOf 1 = .ok (.ifCond .lt 19, 3) := by decide +kernel
theorem dX1_setSeenHatsOf_4 : decode cX1_setSeenHatsOf 4 = .ok (.iload_n 1, 1) := by decide +kernel
theorem dX1_setSeenHatsOf_5 : decode cX1_setSeenHatsOf 5 = .ok (.aload_n 0, 1) := by decide +kernel
theorem dX1_setSeenHatsOf_6 : decode cX1_setSeenHatsOf 6 = .ok (.getfield 19, 3) := by decide +kernel
theorem dX1_setSeenHatsOf_9 : decode cX1_setSeenHatsOf 9 = .ok (.arraylength, 1) := by decide +kernel
theorem dX1_setSeenHatsOf_10 : decode cX1_setSeenHatsOf 10 = .ok (.if_icmp .ge 10, 3) := by decide +kernel
theorem dX1_setSeenHatsOf_13 : decode cX1_setSeenHatsOf 13 = .ok (.aload_n 0, 1) := by decide +kernel
theorem dX1_setSeenHatsOf_14 : decode cX1_setSeenHatsOf 14 = .ok (.getfield 19, 3) := by decide +kernel
theorem dX1_setSeenHatsOf_17 : decode cX1_setSeenHatsOf 17 = .ok (.iload_n 1, 1) := by decide +kernel
theorem dX1_setSeenHatsOf_18 : decode cX1_setSeenHatsOf 18 = .ok (.iload_n 2, 1) := by decide +kernel
theorem dX1_setSeenHatsOf_19 : decode cX1_setSeenHatsOf 19 = .ok (.iastore, 1) := by decide +kernel
theorem dX1_setSeenHatsOf_20 : decode cX1_setSeenHatsOf 20 = .ok (.return_, 1) := by decide +kernel
theorem dX1_seesHat_0 : decode cX1_seesHat 0 = .ok (.aload_n 0, 1) := by decide +kernel
theorem dX1_seesHat_1 : decode cX1_seesHat 1 = .ok (.iload_n 1, 1) := by decide +kernel
theorem dX1_seesHat_2 : decode cX1_seesHat 2 = .ok (.invokevirtual 74, 3) := by decide +kernel
theorem dX1_seesHat_5 : decode cX1_seesHat 5 = .ok (.iload_n 2, 1) := by decide +kernel
theorem dX1_seesHat_6 : decode cX1_seesHat 6 = .ok (.invokestatic 77, 3) := by decide +kernel
theorem dX1_seesHat_9 : decode cX1_seesHat 9 = .ok (.iand, 1) := by decide +kernel
theorem dX1_seesHat_10 : decode cX1_seesHat 10 = .ok (.ifCond .eq 7, 3) := by decide +kernel
theorem dX1_seesHat_13 : decode cX1_seesHat 13 = .ok (.iconst 1, 1) := by decide +kernel
theorem dX1_seesHat_14 : decode cX1_seesHat 14 = .ok (.goto 4, 3) := by decide +kernel
theorem dX1_seesHat_17 : decode cX1_seesHat 17 = .ok (.iconst 0, 1) := by decide +kernel
theorem dX1_seesHat_18 : decode cX1_seesHat 18 = .ok (.ireturn, 1) := by decide +kernel
theorem dX1_lookAtEachOther_0 : decode cX1_lookAtEachOther 0 = .ok (.iconst 0, 1) := by decide +kernel
theorem dX1_lookAtEachOther_1 : decode cX1_lookAtEachOther 1 = .ok (.istore_n 2, 1) := by decide +kernel
theorem dX1_lookAtEachOther_2 : decode cX1_lookAtEachOther 2 = .ok (.iconst 0, 1) := by decide +kernel
theorem dX1_lookAtEachOther_3 : decode cX1_lookAtEachOther 3 = .ok (.istore_n 3, 1) := by decide +kernel
theorem dX1_lookAtEachOther_4 : decode cX1_lookAtEachOther 4 = .ok (.iload_n 3, 1) := by decide +kernel
theorem dX1_lookAtEachOther_5 : decode cX1_lookAtEachOther 5 = .ok (.iload_n 1, 1) := by decide +kernel
theorem dX1_lookAtEachOther_6 : decode cX1_lookAtEachOther 6 = .ok (.if_icmp .ge 31, 3) := by decide +kernel
theorem dX1_lookAtEachOther_9 : decode cX1_lookAtEachOther 9 = .ok (.aload_n 0, 1) := by decide +kernel
theorem dX1_lookAtEachOther_10 : decode cX1_lookAtEachOther 10 = .ok (.iload_n 3, 1) := by decide +kernel
theorem dX1_lookAtEachOther_11 : decode cX1_lookAtEachOther 11 = .ok (.aload_n 0, 1) := by decide +kernel
theorem dX1_lookAtEachOther_12 : decode cX1_lookAtEachOther 12 = .ok (.iload_n 3, 1) := by decide +kernel
theorem dX1_lookAtEachOther_13 : decode cX1_lookAtEachOther 13 = .ok (.invokevirtual 74, 3) := by decide +kernel
theorem dX1_lookAtEachOther_16 : decode cX1_lookAtEachOther 16 = .ok (.iload_n 1, 1) := by decide +kernel
theorem dX1_lookAtEachOther_17 : decode cX1_lookAtEachOther 17 = .ok (.invokestatic 77, 3) := by decide +kernel
theorem dX1_lookAtEachOther_20 : decode cX1_lookAtEachOther 20 = .ok (.ior, 1) := by decide +kernel
theorem dX1_lookAtEachOther_21 : decode cX1_lookAtEachOther 21 = .ok (.invokevirtual 80, 3) := by decide +kernel
theorem dX1_lookAtEachOther_24 : decode cX1_lookAtEachOther 24 = .ok (.iload_n 2, 1) := by decide +kernel
theorem dX1_lookAtEachOther_25 : decode cX1_lookAtEachOther 25 = .ok (.iload_n 3, 1) := by decide +kernel
theorem dX1_lookAtEachOther_26 : decode cX1_lookAtEachOther 26 = .ok (.invokestatic 77, 3) := by decide +kernel
theorem dX1_lookAtEachOther_29 : decode cX1_lookAtEachOther 29 = .ok (.ior, 1) := by decide +kernel
theorem dX1_lookAtEachOther_30 : decode cX1_lookAtEachOther 30 = .ok (.istore_n 2, 1) := by decide +kernel
theorem dX1_lookAtEachOther_31 : decode cX1_lookAtEachOther 31 = .ok (.iinc 3 1, 3) := by decide +kernel
theorem dX1_lookAtEachOther_34 : decode cX1_lookAtEachOther 34 = .ok (.goto (-30), 3) := by decide +kernel
theorem dX1_lookAtEachOther_37 : decode cX1_lookAtEachOther 37 = .ok (.aload_n 0, 1) := by decide +kernel
theorem dX1_lookAtEachOther_38 : decode cX1_lookAtEachOther 38 = .ok (.iload_n 1, 1) := by decide +kernel
theorem dX1_lookAtEachOther_39 : decode cX1_lookAtEachOther 39 = .ok (.iload_n 2, 1) := by decide +kernel
theorem dX1_lookAtEachOther_40 : decode cX1_lookAtEachOther 40 = .ok (.invokevirtual 80, 3) := by decide +kernel
theorem dX1_lookAtEachOther_43 : decode cX1_lookAtEachOther 43 = .ok (.return_, 1) := by decide +kernel
theorem dX1_viewOf_0 : decode cX1_viewOf 0 = .ok (.iload_n 1, 1) := by decide +kernel
theorem dX1_viewOf_1 : decode cX1_viewOf 1 = .ok (.aload_n 0, 1) := by decide +kernel
theorem dX1_viewOf_2 : decode cX1_viewOf 2 = .ok (.iload_n 2, 1) := by decide +kernel
theorem dX1_viewOf_3 : decode cX1_viewOf 3 = .ok (.invokevirtual 74, 3) := by decide +kernel
theorem dX1_viewOf_6 : decode cX1_viewOf 6 = .ok (.iand, 1) := by decide +kernel
theorem dX1_viewOf_7 : decode cX1_viewOf 7 = .ok (.sipush 1023, 3) := by decide +kernel
theorem dX1_viewOf_10 : decode cX1_viewOf 10 = .ok (.iand, 1) := by decide +kernel
theorem dX1_viewOf_11 : decode cX1_viewOf 11 = .ok (.ireturn, 1) := by decide +kernel
theorem dX1_agreesWithNow_0 : decode cX1_agreesWithNow 0 = .ok (.iload_n 1, 1) := by decide +kernel
theorem dX1_agreesWithNow_1 : decode cX1_agreesWithNow 1 = .ok (.aload_n 0, 1) := by decide +kernel
theorem dX1_agreesWithNow_2 : decode cX1_agreesWithNow 2 = .ok (.getfield 30, 3) := by decide +kernel
theorem dX1_agreesWithNow_5 : decode cX1_agreesWithNow 5 = .ok (.ixor, 1) := by decide +kernel
theorem dX1_agreesWithNow_6 : decode cX1_agreesWithNow 6 = .ok (.iload_n 2, 1) := by decide +kernel
theorem dX1_agreesWithNow_7 : decode cX1_agreesWithNow 7 = .ok (.iand, 1) := by decide +kernel
theorem dX1_agreesWithNow_8 : decode cX1_agreesWithNow 8 = .ok (.ifCond .ne 7, 3) := by decide +kernel
theorem dX1_agreesWithNow_11 : decode cX1_agreesWithNow 11 = .ok (.iconst 1, 1) := by decide +kernel
theorem dX1_agreesWithNow_12 : decode cX1_agreesWithNow 12 = .ok (.goto 4, 3) := by decide +kernel
theorem dX1_agreesWithNow_15 : decode cX1_agreesWithNow 15 = .ok (.iconst 0, 1) := by decide +kernel
theorem dX1_agreesWithNow_16 : decode cX1_agreesWithNow 16 = .ok (.ireturn, 1) := by decide +kernel
theorem dX1_openColoursOf_0 : decode cX1_openColoursOf 0 = .ok (.aload_n 0, 1) := by decide +kernel
theorem dX1_openColoursOf_1 : decode cX1_openColoursOf 1 = .ok (.getfield 10, 3) := by decide +kernel
theorem dX1_openColoursOf_4 : decode cX1_openColoursOf 4 = .ok (.invokevirtual 91, 3) := by decide +kernel
theorem dX1_openColoursOf_7 : decode cX1_openColoursOf 7 = .ok (.istore_n 2, 1) := by decide +kernel
theorem dX1_openColoursOf_8 : decode cX1_openColoursOf 8 = .ok (.iconst 1, 1) := by decide +kernel
theorem dX1_openColoursOf_9 : decode cX1_openColoursOf 9 = .ok (.istore_n 3, 1) := by decide +kernel
theorem dX1_openColoursOf_10 : decode cX1_openColoursOf 10 = .ok (.iload_n 3, 1) := by decide +kernel
theorem dX1_openColoursOf_11 : decode cX1_openColoursOf 11 = .ok (.iconst 3, 1) := by decide +kernel
theorem dX1_openColoursOf_12 : decode cX1_openColoursOf 12 = .ok (.if_icmp .ge 47, 3) := by decide +kernel
theorem dX1_openColoursOf_15 : decode cX1_openColoursOf 15 = .ok (.iconst 0, 1) := by decide +kernel
theorem dX1_openColoursOf_16 : decode cX1_openColoursOf 16 = .ok (.istore 4, 2) := by decide +kernel
theorem dX1_openColoursOf_18 : decode cX1_openColoursOf 18 = .ok (.iload 4, 2) := by decide +kernel
theorem dX1_openColoursOf_20 : decode cX1_openColoursOf 20 = .ok (.iload_n 2, 1) := by decide +kernel
theorem dX1_openColoursOf_21 : decode cX1_openColoursOf 21 = .ok (.if_icmp .ge 32, 3) := by decide +kernel
theorem dX1_openColoursOf_24 : decode cX1_openColoursOf 24 = .ok (.aload_n 0, 1) := by decide +kernel
theorem dX1_openColoursOf_25 : decode cX1_openColoursOf 25 = .ok (.getfield 10, 3) := by decide +kernel
theorem dX1_openColoursOf_28 : decode cX1_openColoursOf 28 = .ok (.aload_n 0, 1) := by decide +kernel
theorem dX1_openColoursOf_29 : decode cX1_openColoursOf 29 = .ok (.getfield 10, 3) := by decide +kernel
theorem dX1_openColoursOf_32 : decode cX1_openColoursOf 32 = .ok (.iload 4, 2) := by decide +kernel
theorem dX1_openColoursOf_34 : decode cX1_openColoursOf 34 = .ok (.invokevirtual 95, 3) := by decide +kernel
theorem dX1_openColoursOf_37 : decode cX1_openColoursOf 37 = .ok (.iload_n 3, 1) := by decide +kernel
theorem dX1_openColoursOf_38 : decode cX1_openColoursOf 38 = .ok (.iload_n 1, 1) := by decide +kernel
theorem dX1_openColoursOf_39 : decode cX1_openColoursOf 39 = .ok (.invokestatic 60, 3) := by decide +kernel
theorem dX1_openColoursOf_42 : decode cX1_openColoursOf 42 = .ok (.ishl, 1) := by decide +kernel
theorem dX1_openColoursOf_43 : decode cX1_openColoursOf 43 = .ok (.ior, 1) := by decide +kernel
theorem dX1_openColoursOf_44 : decode cX1_openColoursOf 44 = .ok (.invokevirtual 46, 3) := by decide +kernel
theorem dX1_openColoursOf_47 : decode cX1_openColoursOf 47 = .ok (.iinc 4 1, 3) := by decide +kernel
theorem dX1_openColoursOf_50 : decode cX1_openColoursOf 50 = .ok (.goto (-32), 3) := by decide +kernel
theorem dX1_openColoursOf_53 : decode cX1_openColoursOf 53 = .ok (.iinc 3 1, 3) := by decide +kernel
theorem dX1_openColoursOf_56 : decode cX1_openColoursOf 56 = .ok (.goto (-46), 3) := by decide +kernel
theorem dX1_openColoursOf_59 : decode cX1_openColoursOf 59 = .ok (.return_, 1) := by decide +kernel
theorem dX1_sayBetween_0 : decode cX1_sayBetween 0 = .ok (.aload_n 0, 1) := by decide +kernel
theorem dX1_sayBetween_1 : decode cX1_sayBetween 1 = .ok (.aload_n 0, 1) := by decide +kernel
theorem dX1_sayBetween_2 : decode cX1_sayBetween 2 = .ok (.getfield 30, 3) := by decide +kernel
theorem dX1_sayBetween_5 : decode cX1_sayBetween 5 = .ok (.iload_n 1, 1) := by decide +kernel
theorem dX1_sayBetween_6 : decode cX1_sayBetween 6 = .ok (.invokevirtual 127, 3) := by decide +kernel
theorem dX1_sayBetween_9 : decode cX1_sayBetween 9 = .ok (.istore 4, 2) := by decide +kernel
theorem dX1_sayBetween_11 : decode cX1_sayBetween 11 = .ok (.iload 4, 2) := by decide +kernel
theorem dX1_sayBetween_13 : decode cX1_sayBetween 13 = .ok (.iload_n 2, 1) := by decide +kernel
theorem dX1_sayBetween_14 : decode cX1_sayBetween 14 = .ok (.if_icmp .lt 9, 3) := by decide +kernel
theorem dX1_sayBetween_17 : decode cX1_sayBetween 17 = .ok (.iload 4, 2) := by decide +kernel
theorem dX1_sayBetween_19 : decode cX1_sayBetween 19 = .ok (.iload_n 3, 1) := by decide +kernel
theorem dX1_sayBetween_20 : decode cX1_sayBetween 20 = .ok (.if_icmp .le 13, 3) := by decide +kernel
theorem dX1_sayBetween_23 : decode cX1_sayBetween 23 = .ok (.new 53, 3) := by decide +kernel
theorem dX1_sayBetween_26 : decode cX1_sayBetween 26 = .ok (.dup, 1) := by decide +kernel
theorem dX1_sayBetween_27 : decode cX1_sayBetween 27 = .ok (.ldc 225, 2) := by decide +kernel
theorem dX1_sayBetween_29 : decode cX1_sayBetween 29 = .ok (.invokespecial 57, 3) := by decide +kernel
theorem dX1_sayBetween_32 : decode cX1_sayBetween 32 = .ok (.athrow, 1) := by decide +kernel
theorem dX1_sayBetween_33 : decode cX1_sayBetween 33 = .ok (.aload_n 0, 1) := by decide +kernel
theorem dX1_sayBetween_34 : decode cX1_sayBetween 34 = .ok (.aload_n 0, 1) := by decide +kernel
theorem dX1_sayBetween_35 : decode cX1_sayBetween 35 = .ok (.getfield 10, 3) := by decide +kernel
theorem dX1_sayBetween_38 : decode cX1_sayBetween 38 = .ok (.iload_n 1, 1) := by decide +kernel
theorem dX1_sayBetween_39 : decode cX1_sayBetween 39 = .ok (.iload_n 2, 1) := by decide +kernel
theorem dX1_sayBetween_40 : decode cX1_sayBetween 40 = .ok (.iload_n 3, 1) := by decide +kernel
theorem dX1_sayBetween_41 : decode cX1_sayBetween 41 = .ok (.invokevirtual 227, 3) := by decide +kernel
theorem dX1_sayBetween_44 : decode cX1_sayBetween 44 = .ok (.aload_n 0, 1) := by decide +kernel
theorem dX1_sayBetween_45 : decode cX1_sayBetween 45 = .ok (.iconst 1, 1) := by decide +kernel
theorem dX1_sayBetween_46 : decode cX1_sayBetween 46 = .ok (.putfield 42, 3) := by decide +kernel
theorem dX1_sayBetween_49 : decode cX1_sayBetween 49 = .ok (.aload_n 0, 1) := by decide +kernel
theorem dX1_sayBetween_50 : decode cX1_sayBetween 50 = .ok (.getfield 10, 3) := by decide +kernel
theorem dX1_sayBetween_53 : decode cX1_sayBetween 53 = .ok (.invokevirtual 91, 3) := by decide +kernel
theorem dX1_sayBetween_56 : decode cX1_sayBetween 56 = .ok (.ireturn, 1) := by decide +kernel
theorem dX1_keepWithHats_0 : decode cX1_keepWithHats 0 = .ok (.aload_n 1, 1) := by decide +kernel
theorem dX1_keepWithHats_1 : decode cX1_keepWithHats 1 = .ok (.invokevirtual 91, 3) := by decide +kernel
theorem dX1_keepWithHats_4 : decode cX1_keepWithHats 4 = .ok (.istore 5, 2) := by decide +kernel
theorem dX1_keepWithHats_6 : decode cX1_keepWithHats 6 = .ok (.aload_n 1, 1) := by decide +kernel
theorem dX1_keepWithHats_7 : decode cX1_keepWithHats 7 = .ok (.invokevirtual 121, 3) := by decide +kernel
theorem dX1_keepWithHats_10 : decode cX1_keepWithHats 10 = .ok (.iconst 0, 1) := by decide +kernel
theorem dX1_keepWithHats_11 : decode cX1_keepWithHats 11 = .ok (.istore 6, 2) := by decide +kernel
theorem dX1_keepWithHats_13 : decode cX1_keepWithHats 13 = .ok (.iload 6, 2) := by decide +kernel
theorem dX1_keepWithHats_15 : decode cX1_keepWithHats 15 = .ok (.iload 5, 2) := by decide +kernel
theorem dX1_keepWithHats_17 : decode cX1_keepWithHats 17 = .ok (.if_icmp .ge 45, 3) := by decide +kernel
theorem dX1_keepWithHats_20 : decode cX1_keepWithHats 20 = .ok (.aload_n 1, 1) := by decide +kernel
theorem dX1_keepWithHats_21 : decode cX1_keepWithHats 21 = .ok (.iload 6, 2) := by decide +kernel
theorem dX1_keepWithHats_23 : decode cX1_keepWithHats 23 = .ok (.invokevirtual 95, 3) := by decide +kernel
theorem dX1_keepWithHats_26 : decode cX1_keepWithHats 26 = .ok (.istore 7, 2) := by decide +kernel
theorem dX1_keepWithHats_28 : decode cX1_keepWithHats 28 = .ok (.aload_n 0, 1) := by decide +kernel
theorem dX1_keepWithHats_29 : decode cX1_keepWithHats 29 = .ok (.iload 7, 2) := by decide +kernel
theorem dX1_keepWithHats_31 : decode cX1_keepWithHats 31 = .ok (.iload_n 2, 1) := by decide +kernel
theorem dX1_keepWithHats_32 : decode cX1_keepWithHats 32 = .ok (.invokevirtual 127, 3) := by decide +kernel
theorem dX1_keepWithHats_35 : decode cX1_keepWithHats 35 = .ok (.istore 8, 2) := by decide +kernel
theorem dX1_keepWithHats_37 : decode cX1_keepWithHats 37 = .ok (.iload 8, 2) := by decide +kernel
theorem dX1_keepWithHats_39 : decode cX1_keepWithHats 39 = .ok (.iload_n 3, 1) := by decide +kernel
theorem dX1_keepWithHats_40 : decode cX1_keepWithHats 40 = .ok (.if_icmp .lt 16, 3) := by decide +kernel
theorem dX1_keepWithHats_43 : decode cX1_keepWithHats 43 = .ok (.iload 8, 2) := by decide +kernel
theorem dX1_keepWithHats_45 : decode cX1_keepWithHats 45 = .ok (.iload 4, 2) := by decide +kernel
theorem dX1_keepWithHats_47 : decode cX1_keepWithHats 47 = .ok (.if_icmp .gt 9, 3) := by decide +kernel
theorem dX1_keepWithHats_50 : decode cX1_keepWithHats 50 = .ok (.aload_n 1, 1) := by decide +kernel
theorem dX1_keepWithHats_51 : decode cX1_keepWithHats 51 = .ok (.iload 7, 2) := by decide +kernel
theorem dX1_keepWithHats_53 : decode cX1_keepWithHats 53 = .ok (.invokevirtual 46, 3) := by decide +kernel
theorem dX1_keepWithHats_56 : decode cX1_keepWithHats 56 = .ok (.iinc 6 1, 3) := by decide +kernel
theorem dX1_keepWithHats_59 : decode cX1_keepWithHats 59 = .ok (.goto (-46), 3) := by decide +kernel
theorem dX1_keepWithHats_62 : decode cX1_keepWithHats 62 = .ok (.return_, 1) := by decide +kernel
theorem dX1_keepWithHat_0 : decode cX1_keepWithHat 0 = .ok (.aload_n 0, 1) := by decide +kernel
theorem dX1_keepWithHat_1 : decode cX1_keepWithHat 1 = .ok (.invokevirtual 91, 3) := by decide +kernel
theorem dX1_keepWithHat_4 : decode cX1_keepWithHat 4 = .ok (.istore_n 3, 1) := by decide +kernel
theorem dX1_keepWithHat_5 : decode cX1_keepWithHat 5 = .ok (.aload_n 0, 1) := by decide +kernel
theorem dX1_keepWithHat_6 : decode cX1_keepWithHat 6 = .ok (.invokevirtual 121, 3) := by decide +kernel
theorem dX1_keepWithHat_9 : decode cX1_keepWithHat 9 = .ok (.iconst 0, 1) := by decide +kernel
theorem dX1_keepWithHat_10 : decode cX1_keepWithHat 10 = .ok (.istore 4, 2) := by decide +kernel
theorem dX1_keepWithHat_12 : decode cX1_keepWithHat 12 = .ok (.iload 4, 2) := by decide +kernel
theorem dX1_keepWithHat_14 : decode cX1_keepWithHat 14 = .ok (.iload_n 3, 1) := by decide +kernel
theorem dX1_keepWithHat_15 : decode cX1_keepWithHat 15 = .ok (.if_icmp .ge 33, 3) := by decide +kernel
theorem dX1_keepWithHat_18 : decode cX1_keepWithHat 18 = .ok (.aload_n 0, 1) := by decide +kernel
theorem dX1_keepWithHat_19 : decode cX1_keepWithHat 19 = .ok (.iload 4, 2) := by decide +kernel
theorem dX1_keepWithHat_21 : decode cX1_keepWithHat 21 = .ok (.invokevirtual 95, 3) := by decide +kernel
theorem dX1_keepWithHat_24 : decode cX1_keepWithHat 24 = .ok (.istore 5, 2) := by decide +kernel
theorem dX1_keepWithHat_26 : decode cX1_keepWithHat 26 = .ok (.iload 5, 2) := by decide +kernel
theorem dX1_keepWithHat_28 : decode cX1_keepWithHat 28 = .ok (.iload_n 1, 1) := by decide +kernel
theorem dX1_keepWithHat_29 : decode cX1_keepWithHat 29 = .ok (.invokestatic 101, 3) := by decide +kernel
theorem dX1_keepWithHat_32 : decode cX1_keepWithHat 32 = .ok (.iload_n 2, 1) := by decide +kernel
theorem dX1_keepWithHat_33 : decode cX1_keepWithHat 33 = .ok (.if_icmp .ne 9, 3) := by decide +kernel
theorem dX1_keepWithHat_36 : decode cX1_keepWithHat 36 = .ok (.aload_n 0, 1) := by decide +kernel
theorem dX1_keepWithHat_37 : decode cX1_keepWithHat 37 = .ok (.iload 5, 2) := by decide +kernel
theorem dX1_keepWithHat_39 : decode cX1_keepWithHat 39 = .ok (.invokevirtual 46, 3) := by decide +kernel
theorem dX1_keepWithHat_42 : decode cX1_keepWithHat 42 = .ok (.iinc 4 1, 3) := by decide +kernel
theorem dX1_keepWithHat_45 : decode cX1_keepWithHat 45 = .ok (.goto (-33), 3) := by decide +kernel
theorem dX1_keepWithHat_48 : decode cX1_keepWithHat 48 = .ok (.return_, 1) := by decide +kernel
theorem dX1_keepByCertainty_0 : decode cX1_keepByCertainty 0 = .ok (.aload_n 0, 1) := by decide +kernel
theorem dX1_keepByCertainty_1 : decode cX1_keepByCertainty 1 = .ok (.aload_n 1, 1) := by decide +kernel
theorem dX1_keepByCertainty_2 : decode cX1_keepByCertainty 2 = .ok (.iload_n 2, 1) := by decide +kernel
theorem dX1_keepByCertainty_3 : decode cX1_keepByCertainty 3 = .ok (.invokevirtual 147, 3) := by decide +kernel
theorem dX1_keepByCertainty_6 : decode cX1_keepByCertainty 6 = .ok (.aload_n 1, 1) := by decide +kernel
theorem dX1_keepByCertainty_7 : decode cX1_keepByCertainty 7 = .ok (.invokevirtual 91, 3) := by decide +kernel
theorem dX1_keepByCertainty_10 : decode cX1_keepByCertainty 10 = .ok (.istore 4, 2) := by decide +kernel
theorem dX1_keepByCertainty_12 : decode cX1_keepByCertainty 12 = .ok (.aload_n 1, 1) := by decide +kernel
theorem dX1_keepByCertainty_13 : decode cX1_keepByCertainty 13 = .ok (.invokevirtual 121, 3) := by decide +kernel
theorem dX1_keepByCertainty_16 : decode cX1_keepByCertainty 16 = .ok (.iconst 0, 1) := by decide +kernel
theorem dX1_keepByCertainty_17 : decode cX1_keepByCertainty 17 = .ok (.istore 5, 2) := by decide +kernel
theorem dX1_keepByCertainty_19 : decode cX1_keepByCertainty 19 = .ok (.iload 5, 2) := by decide +kernel
theorem dX1_keepByCertainty_21 : decode cX1_keepByCertainty 21 = .ok (.iload 4, 2) := by decide +kernel
theorem dX1_keepByCertainty_23 : decode cX1_keepByCertainty 23 = .ok (.if_icmp .ge 34, 3) := by decide +kernel
theorem dX1_keepByCertainty_26 : decode cX1_keepByCertainty 26 = .ok (.aload_n 1, 1) := by decide +kernel
theorem dX1_keepByCertainty_27 : decode cX1_keepByCertainty 27 = .ok (.iload 5, 2) := by decide +kernel
theorem dX1_keepByCertainty_29 : decode cX1_keepByCertainty 29 = .ok (.invokevirtual 95, 3) := by decide +kernel
theorem dX1_keepByCertainty_32 : decode cX1_keepByCertainty 32 = .ok (.istore 6, 2) := by decide +kernel
theorem dX1_keepByCertainty_34 : decode cX1_keepByCertainty 34 = .ok (.aload_n 0, 1) := by decide +kernel
theorem dX1_keepByCertainty_35 : decode cX1_keepByCertainty 35 = .ok (.iload 6, 2) := by decide +kernel
theorem dX1_keepByCertainty_37 : decode cX1_keepByCertainty 37 = .ok (.iload_n 2, 1) := by decide +kernel
theorem dX1_keepByCertainty_38 : decode cX1_keepByCertainty 38 = .ok (.invokevirtual 154, 3) := by decide +kernel
theorem dX1_keepByCertainty_41 : decode cX1_keepByCertainty 41 = .ok (.iload_n 3, 1) := by decide +kernel
theorem dX1_keepByCertainty_42 : decode cX1_keepByCertainty 42 = .ok (.if_icmp .ne 9, 3) := by decide +kernel
theorem dX1_keepByCertainty_45 : decode cX1_keepByCertainty 45 = .ok (.aload_n 1, 1) := by decide +kernel
theorem dX1_keepByCertainty_46 : decode cX1_keepByCertainty 46 = .ok (.iload 6, 2) := by decide +kernel
theorem dX1_keepByCertainty_48 : decode cX1_keepByCertainty 48 = .ok (.invokevirtual 46, 3) := by decide +kernel
theorem dX1_keepByCertainty_51 : decode cX1_keepByCertainty 51 = .ok (.iinc 5 1, 3) := by decide +kernel
theorem dX1_keepByCertainty_54 : decode cX1_keepByCertainty 54 = .ok (.goto (-35), 3) := by decide +kernel
theorem dX1_keepByCertainty_57 : decode cX1_keepByCertainty 57 = .ok (.return_, 1) := by decide +kernel
theorem dX1_countWithHat_0 : decode cX1_countWithHat 0 = .ok (.iconst 0, 1) := by decide +kernel
theorem dX1_countWithHat_1 : decode cX1_countWithHat 1 = .ok (.istore_n 3, 1) := by decide +kernel
theorem dX1_countWithHat_2 : decode cX1_countWithHat 2 = .ok (.iconst 0, 1) := by decide +kernel
theorem dX1_countWithHat_3 : decode cX1_countWithHat 3 = .ok (.istore 4, 2) := by decide +kernel
theorem dX1_countWithHat_5 : decode cX1_countWithHat 5 = .ok (.iload 4, 2) := by decide +kernel
theorem dX1_countWithHat_7 : decode cX1_countWithHat 7 = .ok (.aload_n 0, 1) := by decide +kernel
theorem dX1_countWithHat_8 : decode cX1_countWithHat 8 = .ok (.getfield 10, 3) := by decide +kernel
theorem dX1_countWithHat_11 : decode cX1_countWithHat 11 = .ok (.invokevirtual 91, 3) := by decide +kernel
theorem dX1_countWithHat_14 : decode cX1_countWithHat 14 = .ok (.if_icmp .ge 29, 3) := by decide +kernel
theorem dX1_countWithHat_17 : decode cX1_countWithHat 17 = .ok (.aload_n 0, 1) := by decide +kernel
theorem dX1_countWithHat_18 : decode cX1_countWithHat 18 = .ok (.getfield 10, 3) := by decide +kernel
theorem dX1_countWithHat_21 : decode cX1_countWithHat 21 = .ok (.iload 4, 2) := by decide +kernel
theorem dX1_countWithHat_23 : decode cX1_countWithHat 23 = .ok (.invokevirtual 95, 3) := by decide +kernel
theorem dX1_countWithHat_26 : decode cX1_countWithHat 26 = .ok (.iload_n 1, 1) := by decide +kernel
theorem dX1_countWithHat_27 : decode cX1_countWithHat 27 = .ok (.invokestatic 101, 3) := by decide +kernel
theorem dX1_countWithHat_30 : decode cX1_countWithHat 30 = .ok (.iload_n 2, 1) := by decide +kernel
theorem dX1_countWithHat_31 : decode cX1_countWithHat 31 = .ok (.if_icmp .ne 6, 3) := by decide +kernel
theorem dX1_countWithHat_34 : decode cX1_countWithHat 34 = .ok (.iinc 3 1, 3) := by decide +kernel
theorem dX1_countWithHat_37 : decode cX1_countWithHat 37 = .ok (.iinc 4 1, 3) := by decide +kernel
theorem dX1_countWithHat_40 : decode cX1_countWithHat 40 = .ok (.goto (-35), 3) := by decide +kernel
theorem dX1_countWithHat_43 : decode cX1_countWithHat 43 = .ok (.iload_n 3, 1) := by decide +kernel
theorem dX1_countWithHat_44 : decode cX1_countWithHat 44 = .ok (.ireturn, 1) := by decide +kernel
theorem dX1_countPossible_0 : decode cX1_countPossible 0 = .ok (.iconst 0, 1) := by decide +kernel
theorem dX1_countPossible_1 : decode cX1_countPossible 1 = .ok (.istore_n 2, 1) := by decide +kernel
theorem dX1_countPossible_2 : decode cX1_countPossible 2 = .ok (.aload_n 0, 1) := by decide +kernel
theorem dX1_countPossible_3 : decode cX1_countPossible 3 = .ok (.iload_n 1, 1) := by decide +kernel
theorem dX1_countPossible_4 : decode cX1_countPossible 4 = .ok (.invokevirtual 74, 3) := by decide +kernel
theorem dX1_countPossible_7 : decode cX1_countPossible 7 = .ok (.istore_n 3, 1) := by decide +kernel
theorem dX1_countPossible_8 : decode cX1_countPossible 8 = .ok (.iconst 0, 1) := by decide +kernel
theorem dX1_countPossible_9 : decode cX1_countPossible 9 = .ok (.istore 4, 2) := by decide +kernel
theorem dX1_countPossible_11 : decode cX1_countPossible 11 = .ok (.iload 4, 2) := by decide +kernel
theorem dX1_countPossible_13 : decode cX1_countPossible 13 = .ok (.aload_n 0, 1) := by decide +kernel
theorem dX1_countPossible_14 : decode cX1_countPossible 14 = .ok (.getfield 10, 3) := by decide +kernel
theorem dX1_countPossible_17 : decode cX1_countPossible 17 = .ok (.invokevirtual 91, 3) := by decide +kernel
theorem dX1_countPossible_20 : decode cX1_countPossible 20 = .ok (.if_icmp .ge 29, 3) := by decide +kernel
theorem dX1_countPossible_23 : decode cX1_countPossible 23 = .ok (.aload_n 0, 1) := by decide +kernel
theorem dX1_countPossible_24 : decode cX1_countPossible 24 = .ok (.aload_n 0, 1) := by decide +kernel
theorem dX1_countPossible_25 : decode cX1_countPossible 25 = .ok (.getfield 10, 3) := by decide +kernel
theorem dX1_countPossible_28 : decode cX1_countPossible 28 = .ok (.iload 4, 2) := by decide +kernel
theorem dX1_countPossible_30 : decode cX1_countPossible 30 = .ok (.invokevirtual 95, 3) := by decide +kernel
theorem dX1_countPossible_33 : decode cX1_countPossible 33 = .ok (.iload_n 3, 1) := by decide +kernel
theorem dX1_countPossible_34 : decode cX1_countPossible 34 = .ok (.invokevirtual 151, 3) := by decide +kernel
theorem dX1_countPossible_37 : decode cX1_countPossible 37 = .ok (.ifCond .eq 6, 3) := by decide +kernel
theorem dX1_countPossible_40 : decode cX1_countPossible 40 = .ok (.iinc 2 1, 3) := by decide +kernel
theorem dX1_countPossible_43 : decode cX1_countPossible 43 = .ok (.iinc 4 1, 3) := by decide +kernel
theorem dX1_countPossible_46 : decode cX1_countPossible 46 = .ok (.goto (-35), 3) := by decide +kernel
theorem dX1_countPossible_49 : decode cX1_countPossible 49 = .ok (.iload_n 2, 1) := by decide +kernel
theorem dX1_countPossible_50 : decode cX1_countPossible 50 = .ok (.ireturn, 1) := by decide +kernel
theorem dX1_possibleColours_0 : decode cX1_possibleColours 0 = .ok (.iconst 0, 1) := by decide +kernel
theorem dX1_possibleColours_1 : decode cX1_possibleColours 1 = .ok (.istore 4, 2) := by decide +kernel
theorem dX1_possibleColours_3 : decode cX1_possibleColours 3 = .ok (.aload_n 0, 1) := by decide +kernel
theorem dX1_possibleColours_4 : decode cX1_possibleColours 4 = .ok (.iload_n 2, 1) := by decide +kernel
theorem dX1_possibleColours_5 : decode cX1_possibleColours 5 = .ok (.invokevirtual 74, 3) := by decide +kernel
theorem dX1_possibleColours_8 : decode cX1_possibleColours 8 = .ok (.istore 5, 2) := by decide +kernel
theorem dX1_possibleColours_10 : decode cX1_possibleColours 10 = .ok (.iconst 0, 1) := by decide +kernel
theorem dX1_possibleColours_11 : decode cX1_possibleColours 11 = .ok (.istore 6, 2) := by decide +kernel
theorem dX1_possibleColours_13 : decode cX1_possibleColours 13 = .ok (.iload 6, 2) := by decide +kernel
theorem dX1_possibleColours_15 : decode cX1_possibleColours 15 = .ok (.aload_n 1, 1) := by decide +kernel
theorem dX1_possibleColours_16 : decode cX1_possibleColours 16 = .ok (.invokevirtual 91, 3) := by decide +kernel
theorem dX1_possibleColours_19 : decode cX1_possibleColours 19 = .ok (.if_icmp .ge 41, 3) := by decide +kernel
theorem dX1_possibleColours_22 : decode cX1_possibleColours 22 = .ok (.aload_n 1, 1) := by decide +kernel
theorem dX1_possibleColours_23 : decode cX1_possibleColours 23 = .ok (.iload 6, 2) := by decide +kernel
theorem dX1_possibleColours_25 : decode cX1_possibleColours 25 = .ok (.invokevirtual 95, 3) := by decide +kernel
theorem dX1_possibleColours_28 : decode cX1_possibleColours 28 = .ok (.istore 7, 2) := by decide +kernel
theorem dX1_possibleColours_30 : decode cX1_possibleColours 30 = .ok (.aload_n 0, 1) := by decide +kernel
theorem dX1_possibleColours_31 : decode cX1_possibleColours 31 = .ok (.iload 7, 2) := by decide +kernel
theorem dX1_possibleColours_33 : decode cX1_possibleColours 33 = .ok (.iload 5, 2) := by decide +kernel
theorem dX1_possibleColours_35 : decode cX1_possibleColours 35 = .ok (.invokevirtual 151, 3) := by decide +kernel
theorem dX1_possibleColours_38 : decode cX1_possibleColours 38 = .ok (.ifCond .eq 16, 3) := by decide +kernel
theorem dX1_possibleColours_41 : decode cX1_possibleColours 41 = .ok (.iload 4, 2) := by decide +kernel
theorem dX1_possibleColours_43 : decode cX1_possibleColours 43 = .ok (.iconst 1, 1) := by decide +kernel
theorem dX1_possibleColours_44 : decode cX1_possibleColours 44 = .ok (.iload 7, 2) := by decide +kernel
theorem dX1_possibleColours_46 : decode cX1_possibleColours 46 = .ok (.iload_n 3, 1) := by decide +kernel
theorem dX1_possibleColours_47 : decode cX1_possibleColours 47 = .ok (.invokestatic 101, 3) := by decide +kernel
theorem dX1_possibleColours_50 : decode cX1_possibleColours 50 = .ok (.ishl, 1) := by decide +kernel
theorem dX1_possibleColours_51 : decode cX1_possibleColours 51 = .ok (.ior, 1) := by decide +kernel
theorem dX1_possibleColours_52 : decode cX1_possibleColours 52 = .ok (.istore 4, 2) := by decide +kernel
theorem dX1_possibleColours_54 : decode cX1_possibleColours 54 = .ok (.iinc 6 1, 3) := by decide +kernel
theorem dX1_possibleColours_57 : decode cX1_possibleColours 57 = .ok (.goto (-44), 3) := by decide +kernel
theorem dX1_possibleColours_60 : decode cX1_possibleColours 60 = .ok (.iload 4, 2) := by decide +kernel
theorem dX1_possibleColours_62 : decode cX1_possibleColours 62 = .ok (.ireturn, 1) := by decide +kernel
theorem dX1_isOneColour_0 : decode cX1_isOneColour 0 = .ok (.iload_n 0, 1) := by decide +kernel
theorem dX1_isOneColour_1 : decode cX1_isOneColour 1 = .ok (.invokestatic 231, 3) := by decide +kernel
theorem dX1_isOneColour_4 : decode cX1_isOneColour 4 = .ok (.iconst 1, 1) := by decide +kernel
theorem dX1_isOneColour_5 : decode cX1_isOneColour 5 = .ok (.if_icmp .ne 7, 3) := by decide +kernel
theorem dX1_isOneColour_8 : decode cX1_isOneColour 8 = .ok (.iconst 1, 1) := by decide +kernel
theorem dX1_isOneColour_9 : decode cX1_isOneColour 9 = .ok (.goto 4, 3) := by decide +kernel
theorem dX1_isOneColour_12 : decode cX1_isOneColour 12 = .ok (.iconst 0, 1) := by decide +kernel
theorem dX1_isOneColour_13 : decode cX1_isOneColour 13 = .ok (.ireturn, 1) := by decide +kernel
theorem dX1_isCertainBy_0 : decode cX1_isCertainBy 0 = .ok (.aload_n 0, 1) := by decide +kernel
theorem dX1_isCertainBy_1 : decode cX1_isCertainBy 1 = .ok (.aload_n 1, 1) := by decide +kernel
theorem dX1_isCertainBy_2 : decode cX1_isCertainBy 2 = .ok (.iload_n 2, 1) := by decide +kernel
theorem dX1_isCertainBy_3 : decode cX1_isCertainBy 3 = .ok (.iload_n 2, 1) := by decide +kernel
theorem dX1_isCertainBy_4 : decode cX1_isCertainBy 4 = .ok (.invokevirtual 136, 3) := by decide +kernel
theorem dX1_isCertainBy_7 : decode cX1_isCertainBy 7 = .ok (.invokestatic 143, 3) := by decide +kernel
theorem dX1_isCertainBy_10 : decode cX1_isCertainBy 10 = .ok (.ireturn, 1) := by decide +kernel
theorem dX1_countCertain_0 : decode cX1_countCertain 0 = .ok (.iconst 0, 1) := by decide +kernel
theorem dX1_countCertain_1 : decode cX1_countCertain 1 = .ok (.istore_n 2, 1) := by decide +kernel
theorem dX1_countCertain_2 : decode cX1_countCertain 2 = .ok (.iconst 0, 1) := by decide +kernel
theorem dX1_countCertain_3 : decode cX1_countCertain 3 = .ok (.istore_n 3, 1) := by decide +kernel
theorem dX1_countCertain_4 : decode cX1_countCertain 4 = .ok (.iload_n 3, 1) := by decide +kernel
theorem dX1_countCertain_5 : decode cX1_countCertain 5 = .ok (.aload_n 0, 1) := by decide +kernel
theorem dX1_countCertain_6 : decode cX1_countCertain 6 = .ok (.getfield 26, 3) := by decide +kernel
theorem dX1_countCertain_9 : decode cX1_countCertain 9 = .ok (.if_icmp .ge 21, 3) := by decide +kernel
theorem dX1_countCertain_12 : decode cX1_countCertain 12 = .ok (.aload_n 0, 1) := by decide +kernel
theorem dX1_countCertain_13 : decode cX1_countCertain 13 = .ok (.aload_n 1, 1) := by decide +kernel
theorem dX1_countCertain_14 : decode cX1_countCertain 14 = .ok (.iload_n 3, 1) := by decide +kernel
theorem dX1_countCertain_15 : decode cX1_countCertain 15 = .ok (.invokevirtual 140, 3) := by decide +kernel
theorem dX1_countCertain_18 : decode cX1_countCertain 18 = .ok (.ifCond .eq 6, 3) := by decide +kernel
theorem dX1_countCertain_21 : decode cX1_countCertain 21 = .ok (.iinc 2 1, 3) := by decide +kernel
theorem dX1_countCertain_24 : decode cX1_countCertain 24 = .ok (.iinc 3 1, 3) := by decide +kernel
theorem dX1_countCertain_27 : decode cX1_countCertain 27 = .ok (.goto (-23), 3) := by decide +kernel
theorem dX1_countCertain_30 : decode cX1_countCertain 30 = .ok (.iload_n 2, 1) := by decide +kernel
theorem dX1_countCertain_31 : decode cX1_countCertain 31 = .ok (.ireturn, 1) := by decide +kernel
theorem dX1_noteOwnColours_0 : decode cX1_noteOwnColours 0 = .ok (.iconst 0, 1) := by decide +kernel
theorem dX1_noteOwnColours_1 : decode cX1_noteOwnColours 1 = .ok (.istore_n 3, 1) := by decide +kernel
theorem dX1_noteOwnColours_2 : decode cX1_noteOwnColours 2 = .ok (.iload_n 3, 1) := by decide +kernel
theorem dX1_noteOwnColours_3 : decode cX1_noteOwnColours 3 = .ok (.aload_n 1, 1) := by decide +kernel
theorem dX1_noteOwnColours_4 : decode cX1_noteOwnColours 4 = .ok (.invokevirtual 91, 3) := by decide +kernel
theorem dX1_noteOwnColours_7 : decode cX1_noteOwnColours 7 = .ok (.if_icmp .ge 24, 3) := by decide +kernel
theorem dX1_noteOwnColours_10 : decode cX1_noteOwnColours 10 = .ok (.aload_n 0, 1) := by decide +kernel
theorem dX1_noteOwnColours_11 : decode cX1_noteOwnColours 11 = .ok (.aload_n 0, 1) := by decide +kernel
theorem dX1_noteOwnColours_12 : decode cX1_noteOwnColours 12 = .ok (.aload_n 1, 1) := by decide +kernel
theorem dX1_noteOwnColours_13 : decode cX1_noteOwnColours 13 = .ok (.iload_n 3, 1) := by decide +kernel
theorem dX1_noteOwnColours_14 : decode cX1_noteOwnColours 14 = .ok (.invokevirtual 95, 3) := by decide +kernel
theorem dX1_noteOwnColours_17 : decode cX1_noteOwnColours 17 = .ok (.iload_n 2, 1) := by decide +kernel
theorem dX1_noteOwnColours_18 : decode cX1_noteOwnColours 18 = .ok (.invokevirtual 236, 3) := by decide +kernel
theorem dX1_noteOwnColours_21 : decode cX1_noteOwnColours 21 = .ok (.iconst 0, 1) := by decide +kernel
theorem dX1_noteOwnColours_22 : decode cX1_noteOwnColours 22 = .ok (.invokevirtual 239, 3) := by decide +kernel
theorem dX1_noteOwnColours_25 : decode cX1_noteOwnColours 25 = .ok (.iinc 3 1, 3) := by decide +kernel
theorem dX1_noteOwnColours_28 : decode cX1_noteOwnColours 28 = .ok (.goto (-26), 3) := by decide +kernel
theorem dX1_noteOwnColours_31 : decode cX1_noteOwnColours 31 = .ok (.iconst 0, 1) := by decide +kernel
theorem dX1_noteOwnColours_32 : decode cX1_noteOwnColours 32 = .ok (.istore_n 3, 1) := by decide +kernel
theorem dX1_noteOwnColours_33 : decode cX1_noteOwnColours 33 = .ok (.iload_n 3, 1) := by decide +kernel
theorem dX1_noteOwnColours_34 : decode cX1_noteOwnColours 34 = .ok (.aload_n 1, 1) := by decide +kernel
theorem dX1_noteOwnColours_35 : decode cX1_noteOwnColours 35 = .ok (.invokevirtual 91, 3) := by decide +kernel
theorem dX1_noteOwnColours_38 : decode cX1_noteOwnColours 38 = .ok (.if_icmp .ge 46, 3) := by decide +kernel
theorem dX1_noteOwnColours_41 : decode cX1_noteOwnColours 41 = .ok (.aload_n 1, 1) := by decide +kernel
theorem dX1_noteOwnColours_42 : decode cX1_noteOwnColours 42 = .ok (.iload_n 3, 1) := by decide +kernel
theorem dX1_noteOwnColours_43 : decode cX1_noteOwnColours 43 = .ok (.invokevirtual 95, 3) := by decide +kernel
theorem dX1_noteOwnColours_46 : decode cX1_noteOwnColours 46 = .ok (.istore 4, 2) := by decide +kernel
theorem dX1_noteOwnColours_48 : decode cX1_noteOwnColours 48 = .ok (.aload_n 0, 1) := by decide +kernel
theorem dX1_noteOwnColours_49 : decode cX1_noteOwnColours 49 = .ok (.iload 4, 2) := by decide +kernel
theorem dX1_noteOwnColours_51 : decode cX1_noteOwnColours 51 = .ok (.iload_n 2, 1) := by decide +kernel
theorem dX1_noteOwnColours_52 : decode cX1_noteOwnColours 52 = .ok (.invokevirtual 236, 3) := by decide +kernel
theorem dX1_noteOwnColours_55 : decode cX1_noteOwnColours 55 = .ok (.istore 5, 2) := by decide +kernel
theorem dX1_noteOwnColours_57 : decode cX1_noteOwnColours 57 = .ok (.aload_n 0, 1) := by decide +kernel
theorem dX1_noteOwnColours_58 : decode cX1_noteOwnColours 58 = .ok (.iload 5, 2) := by decide +kernel
theorem dX1_noteOwnColours_60 : decode cX1_noteOwnColours 60 = .ok (.aload_n 0, 1) := by decide +kernel
theorem dX1_noteOwnColours_61 : decode cX1_noteOwnColours 61 = .ok (.iload 5, 2) := by decide +kernel
theorem dX1_noteOwnColours_63 : decode cX1_noteOwnColours 63 = .ok (.invokevirtual 242, 3) := by decide +kernel
theorem dX1_noteOwnColours_66 : decode cX1_noteOwnColours 66 = .ok (.iconst 1, 1) := by decide +kernel
theorem dX1_noteOwnColours_67 : decode cX1_noteOwnColours 67 = .ok (.iload 4, 2) := by decide +kernel
theorem dX1_noteOwnColours_69 : decode cX1_noteOwnColours 69 = .ok (.iload_n 2, 1) := by decide +kernel
theorem dX1_noteOwnColours_70 : decode cX1_noteOwnColours 70 = .ok (.invokestatic 101, 3) := by decide +kernel
theorem dX1_noteOwnColours_73 : decode cX1_noteOwnColours 73 = .ok (.ishl, 1) := by decide +kernel
theorem dX1_noteOwnColours_74 : decode cX1_noteOwnColours 74 = .ok (.ior, 1) := by decide +kernel
theorem dX1_noteOwnColours_75 : decode cX1_noteOwnColours 75 = .ok (.invokevirtual 239, 3) := by decide +kernel
theorem dX1_noteOwnColours_78 : decode cX1_noteOwnColours 78 = .ok (.iinc 3 1, 3) := by decide +kernel
theorem dX1_noteOwnColours_81 : decode cX1_noteOwnColours 81 = .ok (.goto (-48), 3) := by decide +kernel
theorem dX1_noteOwnColours_84 : decode cX1_noteOwnColours 84 = .ok (.return_, 1) := by decide +kernel
theorem dX1_ownColours_0 : decode cX1_ownColours 0 = .ok (.iload_n 1, 1) := by decide +kernel
theorem dX1_ownColours_1 : decode cX1_ownColours 1 = .ok (.ifCond .lt 21, 3) := by decide +kernel
theorem dX1_ownColours_4 : decode cX1_ownColours 4 = .ok (.iload_n 1, 1) := by decide +kernel
theorem dX1_ownColours_5 : decode cX1_ownColours 5 = .ok (.aload_n 0, 1) := by decide +kernel
theorem dX1_ownColours_6 : decode cX1_ownColours 6 = .ok (.getfield 23, 3) := by decide +kernel
theorem dX1_ownColours_9 : decode cX1_ownColours 9 = .ok (.arraylength, 1) := by decide +kernel
theorem dX1_ownColours_10 : decode cX1_ownColours 10 = .ok (.if_icmp .ge 12, 3) := by decide +kernel
theorem dX1_ownColours_13 : decode cX1_ownColours 13 = .ok (.aload_n 0, 1) := by decide +kernel
theorem dX1_ownColours_14 : decode cX1_ownColours 14 = .ok (.getfield 23, 3) := by decide +kernel
theorem dX1_ownColours_17 : decode cX1_ownColours 17 = .ok (.iload_n 1, 1) := by decide +kernel
theorem dX1_ownColours_18 : decode cX1_ownColours 18 = .ok (.iaload, 1) := by decide +kernel
theorem dX1_ownColours_19 : decode cX1_ownColours 19 = .ok (.goto 4, 3) := by decide +kernel
theorem dX1_ownColours_22 : decode cX1_ownColours 22 = .ok (.iconst 0, 1) := by decide +kernel
theorem dX1_ownColours_23 : decode cX1_ownColours 23 = .ok (.ireturn, 1) := by decide +kernel
theorem dX1_setOwnColours_0 : decode cX1_setOwnColours 0 = .ok (.iload_n 1, 1) := by decide +kernel
theorem dX1_setOwnColours_1 : decode cX1_setOwnColours 1 = .ok (.ifCond .lt 19, 3) := by decide +kernel
theorem dX1_setOwnColours_4 : decode cX1_setOwnColours 4 = .ok (.iload_n 1, 1) := by decide +kernel
theorem dX1_setOwnColours_5 : decode cX1_setOwnColours 5 = .ok (.aload_n 0, 1) := by decide +kernel
theorem dX1_setOwnColours_6 : decode cX1_setOwnColours 6 = .ok (.getfield 23, 3) := by decide +kernel
theorem dX1_setOwnColours_9 : decode cX1_setOwnColours 9 = .ok (.arraylength, 1) := by decide +kernel
theorem dX1_setOwnColours_10 : decode cX1_setOwnColours 10 = .ok (.if_icmp .ge 10, 3) := by decide +kernel
theorem dX1_setOwnColours_13 : decode cX1_setOwnColours 13 = .ok (.aload_n 0, 1) := by decide +kernel
theorem dX1_setOwnColours_14 : decode cX1_setOwnColours 14 = .ok (.getfield 23, 3) := by decide +kernel
theorem dX1_setOwnColours_17 : decode cX1_setOwnColours 17 = .ok (.iload_n 1, 1) := by decide +kernel
theorem dX1_setOwnColours_18 : decode cX1_setOwnColours 18 = .ok (.iload_n 2, 1) := by decide +kernel
theorem dX1_setOwnColours_19 : decode cX1_setOwnColours 19 = .ok (.iastore, 1) := by decide +kernel
theorem dX1_setOwnColours_20 : decode cX1_setOwnColours 20 = .ok (.return_, 1) := by decide +kernel
theorem dX1_wouldBeCertain_0 : decode cX1_wouldBeCertain 0 = .ok (.aload_n 0, 1) := by decide +kernel
theorem dX1_wouldBeCertain_1 : decode cX1_wouldBeCertain 1 = .ok (.aload_n 0, 1) := by decide +kernel
theorem dX1_wouldBeCertain_2 : decode cX1_wouldBeCertain 2 = .ok (.iload_n 1, 1) := by decide +kernel
theorem dX1_wouldBeCertain_3 : decode cX1_wouldBeCertain 3 = .ok (.iload_n 2, 1) := by decide +kernel
theorem dX1_wouldBeCertain_4 : decode cX1_wouldBeCertain 4 = .ok (.invokevirtual 236, 3) := by decide +kernel
theorem dX1_wouldBeCertain_7 : decode cX1_wouldBeCertain 7 = .ok (.invokevirtual 242, 3) := by decide +kernel
theorem dX1_wouldBeCertain_10 : decode cX1_wouldBeCertain 10 = .ok (.invokestatic 143, 3) := by decide +kernel
theorem dX1_wouldBeCertain_13 : decode cX1_wouldBeCertain 13 = .ok (.ireturn, 1) := by decide +kernel
theorem dX1_playerAfter_0 : decode cX1_playerAfter 0 = .ok (.iload_n 1, 1) := by decide +kernel
theorem dX1_playerAfter_1 : decode cX1_playerAfter 1 = .ok (.iconst 1, 1) := by decide +kernel
theorem dX1_playerAfter_2 : decode cX1_playerAfter 2 = .ok (.iadd, 1) := by decide +kernel
theorem dX1_playerAfter_3 : decode cX1_playerAfter 3 = .ok (.aload_n 0, 1) := by decide +kernel
theorem dX1_playerAfter_4 : decode cX1_playerAfter 4 = .ok (.getfield 26, 3) := by decide +kernel
theorem dX1_playerAfter_7 : decode cX1_playerAfter 7 = .ok (.if_icmp .ge 9, 3) := by decide +kernel
theorem dX1_playerAfter_10 : decode cX1_playerAfter 10 = .ok (.iload_n 1, 1) := by decide +kernel
theorem dX1_playerAfter_11 : decode cX1_playerAfter 11 = .ok (.iconst 1, 1) := by decide +kernel
theorem dX1_playerAfter_12 : decode cX1_playerAfter 12 = .ok (.iadd, 1) := by decide +kernel
theorem dX1_playerAfter_13 : decode cX1_playerAfter 13 = .ok (.goto 4, 3) := by decide +kernel
theorem dX1_playerAfter_16 : decode cX1_playerAfter 16 = .ok (.iconst 0, 1) := by decide +kernel
theorem dX1_playerAfter_17 : decode cX1_playerAfter 17 = .ok (.ireturn, 1) := by decide +kernel
theorem dX1_passTurn_0 : decode cX1_passTurn 0 = .ok (.aload_n 0, 1) := by decide +kernel
theorem dX1_passTurn_1 : decode cX1_passTurn 1 = .ok (.aload_n 1, 1) := by decide +kernel
theorem dX1_passTurn_2 : decode cX1_passTurn 2 = .ok (.iload_n 2, 1) := by decide +kernel
theorem dX1_passTurn_3 : decode cX1_passTurn 3 = .ok (.invokevirtual 140, 3) := by decide +kernel
theorem dX1_passTurn_6 : decode cX1_passTurn 6 = .ok (.istore_n 3, 1) := by decide +kernel
theorem dX1_passTurn_7 : decode cX1_passTurn 7 = .ok (.aload_n 0, 1) := by decide +kernel
theorem dX1_passTurn_8 : decode cX1_passTurn 8 = .ok (.aload_n 1, 1) := by decide +kernel
theorem dX1_passTurn_9 : decode cX1_passTurn 9 = .ok (.iload_n 2, 1) := by decide +kernel
theorem dX1_passTurn_10 : decode cX1_passTurn 10 = .ok (.iload_n 3, 1) := by decide +kernel
theorem dX1_passTurn_11 : decode cX1_passTurn 11 = .ok (.invokevirtual 245, 3) := by decide +kernel
theorem dX1_passTurn_14 : decode cX1_passTurn 14 = .ok (.iload_n 3, 1) := by decide +kernel
theorem dX1_passTurn_15 : decode cX1_passTurn 15 = .ok (.ifCond .eq 16, 3) := by decide +kernel
theorem dX1_passTurn_18 : decode cX1_passTurn 18 = .ok (.aload_n 1, 1) := by decide +kernel
theorem dX1_passTurn_19 : decode cX1_passTurn 19 = .ok (.iload_n 2, 1) := by decide +kernel
theorem dX1_passTurn_20 : decode cX1_passTurn 20 = .ok (.aload_n 0, 1) := by decide +kernel
theorem dX1_passTurn_21 : decode cX1_passTurn 21 = .ok (.getfield 30, 3) := by decide +kernel
theorem dX1_passTurn_24 : decode cX1_passTurn 24 = .ok (.iload_n 2, 1) := by decide +kernel
theorem dX1_passTurn_25 : decode cX1_passTurn 25 = .ok (.invokestatic 101, 3) := by decide +kernel
theorem dX1_passTurn_28 : decode cX1_passTurn 28 = .ok (.invokestatic 171, 3) := by decide +kernel
theorem dX1_passTurn_31 : decode cX1_passTurn 31 = .ok (.iload_n 3, 1) := by decide +kernel
theorem dX1_passTurn_32 : decode cX1_passTurn 32 = .ok (.ireturn, 1) := by decide +kernel
theorem dX2_init_0 : decode cX2_init 0 = .ok (.aload_n 0, 1) := by decide +kernel
theorem dX2_init_1 : decode cX2_init 1 = .ok (.invokespecial 1, 3) := by decide +kernel
theorem dX2_init_4 : decode cX2_init 4 = .ok (.aload_n 0, 1) := by decide +kernel
theorem dX2_init_5 : decode cX2_init 5 = .ok (.iconst 0, 1) := by decide +kernel
theorem dX2_init_6 : decode cX2_init 6 = .ok (.newarray .int, 2) := by decide +kernel
theorem dX2_init_8 : decode cX2_init 8 = .ok (.putfield 7, 3) := by decide +kernel
theorem dX2_init_11 : decode cX2_init 11 = .ok (.aload_n 0, 1) := by decide +kernel
theorem dX2_init_12 : decode cX2_init 12 = .ok (.iconst 0, 1) := by decide +kernel
theorem dX2_init_13 : decode cX2_init 13 = .ok (.anewarray 13, 3) := by decide +kernel
theorem dX2_init_16 : decode cX2_init 16 = .ok (.putfield 15, 3) := by decide +kernel
theorem dX2_init_19 : decode cX2_init 19 = .ok (.aload_n 0, 1) := by decide +kernel
theorem dX2_init_20 : decode cX2_init 20 = .ok (.iconst 1, 1) := by decide +kernel
theorem dX2_init_21 : decode cX2_init 21 = .ok (.anewarray 19, 3) := by decide +kernel
theorem dX2_init_24 : decode cX2_init 24 = .ok (.dup, 1) := by decide +kernel
theorem dX2_init_25 : decode cX2_init 25 = .ok (.iconst 0, 1) := by decide +kernel
theorem dX2_init_26 : decode cX2_init 26 = .ok (.iconst 0, 1) := by decide +kernel
theorem dX2_init_27 : decode cX2_init 27 = .ok (.newarray .int, 2) := by decide +kernel
theorem dX2_init_29 : decode cX2_init 29 = .ok (.aastore, 1) := by decide +kernel
theorem dX2_init_30 : decode cX2_init 30 = .ok (.putfield 20, 3) := by decide +kernel
theorem dX2_init_33 : decode cX2_init 33 = .ok (.aload_n 0, 1) := by decide +kernel
theorem dX2_init_34 : decode cX2_init 34 = .ok (.iconst 1, 1) := by decide +kernel
theorem dX2_init_35 : decode cX2_init 35 = .ok (.newarray .boolean, 2) := by decide +kernel
theorem dX2_init_37 : decode cX2_init 37 = .ok (.dup, 1) := by decide +kernel
theorem dX2_init_38 : decode cX2_init 38 = .ok (.iconst 0, 1) := by decide +kernel
theorem dX2_init_39 : decode cX2_init 39 = .ok (.iconst 1, 1) := by decide +kernel
theorem dX2_init_40 : decode cX2_init 40 = .ok (.bastore, 1) := by decide +kernel
theorem dX2_init_41 : decode cX2_init 41 = .ok (.putfield 24, 3) := by decide +kernel
theorem dX2_init_44 : decode cX2_init 44 = .ok (.return_, 1) := by decide +kernel
theorem dX2_add_0 : decode cX2_add 0 = .ok (.aload_n 0, 1) := by decide +kernel
theorem dX2_add_1 : decode cX2_add 1 = .ok (.getfield 27, 3) := by decide +kernel
theorem dX2_add_4 : decode cX2_add 4 = .ok (.iconst 1, 1) := by decide +kernel
theorem dX2_add_5 : decode cX2_add 5 = .ok (.iadd, 1) := by decide +kernel
theorem dX2_add_6 : decode cX2_add 6 = .ok (.newarray .int, 2) := by decide +kernel
theorem dX2_add_8 : decode cX2_add 8 = .ok (.astore_n 2, 1) := by decide +kernel
theorem dX2_add_9 : decode cX2_add 9 = .ok (.iconst 0, 1) := by decide +kernel
theorem dX2_add_10 : decode cX2_add 10 = .ok (.istore_n 3, 1) := by decide +kernel
theorem dX2_add_11 : decode cX2_add 11 = .ok (.iload_n 3, 1) := by decide +kernel
theorem dX2_add_12 : decode cX2_add 12 = .ok (.aload_n 0, 1) := by decide +kernel
theorem dX2_add_13 : decode cX2_add 13 = .ok (.getfield 27, 3) := by decide +kernel
theorem dX2_add_16 : decode cX2_add 16 = .ok (.if_icmp .ge 18, 3) := by decide +kernel
theorem dX2_add_19 : decode cX2_add 19 = .ok (.aload_n 2, 1) := by decide +kernel
theorem dX2_add_20 : decode cX2_add 20 = .ok (.iload_n 3, 1) := by decide +kernel
theorem dX2_add_21 : decode cX2_add 21 = .ok (.aload_n 0, 1) := by decide +kernel
theorem dX2_add_22 : decode cX2_add 22 = .ok (.getfield 7, 3) := by decide +kernel
theorem dX2_add_25 : decode cX2_add 25 = .ok (.iload_n 3, 1) := by decide +kernel
theorem dX2_add_26 : decode cX2_add 26 = .ok (.iaload, 1) := by decide +kernel
theorem dX2_add_27 : decode cX2_add 27 = .ok (.iastore, 1) := by decide +kernel
theorem dX2_add_28 : decode cX2_add 28 = .ok (.iinc 3 1, 3) := by decide +kernel
theorem dX2_add_31 : decode cX2_add 31 = .ok (.goto (-20), 3) := by decide +kernel
theorem dX2_add_34 : decode cX2_add 34 = .ok (.aload_n 2, 1) := by decide +kernel
theorem dX2_add_35 : decode cX2_add 35 = .ok (.aload_n 0, 1) := by decide +kernel
theorem dX2_add_36 : decode cX2_add 36 = .ok (.getfield 27, 3) := by decide +kernel
theorem dX2_add_39 : decode cX2_add 39 = .ok (.iload_n 1, 1) := by decide +kernel
theorem dX2_add_40 : decode cX2_add 40 = .ok (.iastore, 1) := by decide +kernel
theorem dX2_add_41 : decode cX2_add 41 = .ok (.aload_n 0, 1) := by decide +kernel
theorem dX2_add_42 : decode cX2_add 42 = .ok (.aload_n 2, 1) := by decide +kernel
theorem dX2_add_43 : decode cX2_add 43 = .ok (.putfield 7, 3) := by decide +kernel
theorem dX2_add_46 : decode cX2_add 46 = .ok (.aload_n 0, 1) := by decide +kernel
theorem dX2_add_47 : decode cX2_add 47 = .ok (.getfield 27, 3) := by decide +kernel
theorem dX2_add_50 : decode cX2_add 50 = .ok (.iconst 1, 1) := by decide +kernel
theorem dX2_add_51 : decode cX2_add 51 = .ok (.iadd, 1) := by decide +kernel
theorem dX2_add_52 : decode cX2_add 52 = .ok (.aload_n 0, 1) := by decide +kernel
theorem dX2_add_53 : decode cX2_add 53 = .ok (.getfield 27, 3) := by decide +kernel
theorem dX2_add_56 : decode cX2_add 56 = .ok (.iconst 1, 1) := by decide +kernel
theorem dX2_add_57 : decode cX2_add 57 = .ok (.iadd, 1) := by decide +kernel
theorem dX2_add_58 : decode cX2_add 58 = .ok (.multianewarray 31 2, 4) := by decide +kernel
theorem dX2_add_62 : decode cX2_add 62 = .ok (.astore_n 3, 1) := by decide +kernel
theorem dX2_add_63 : decode cX2_add 63 = .ok (.iconst 0, 1) := by decide +kernel
theorem dX2_add_64 : decode cX2_add 64 = .ok (.istore 4, 2) := by decide +kernel
theorem dX2_add_66 : decode cX2_add 66 = .ok (.iload 4, 2) := by decide +kernel
theorem dX2_add_68 : decode cX2_add 68 = .ok (.aload_n 0, 1) := by decide +kernel
theorem dX2_add_69 : decode cX2_add 69 = .ok (.getfield 27, 3) := by decide +kernel
theorem dX2_add_72 : decode cX2_add 72 = .ok (.if_icmp .gt 77, 3) := by decide +kernel
theorem dX2_add_75 : decode cX2_add 75 = .ok (.iconst 0, 1) := by decide +kernel
theorem dX2_add_76 : decode cX2_add 76 = .ok (.istore 5, 2) := by decide +kernel
theorem dX2_add_78 : decode cX2_add 78 = .ok (.iload 5, 2) := by decide +kernel
theorem dX2_add_80 : decode cX2_add 80 = .ok (.aload_n 0, 1) := by decide +kernel
theorem dX2_add_81 : decode cX2_add 81 = .ok (.getfield 27, 3) := by decide +kernel
theorem dX2_add_84 : decode cX2_add 84 = .ok (.if_icmp .gt 59, 3) := by decide +kernel
theorem dX2_add_87 : decode cX2_add 87 = .ok (.aload_n 3, 1) := by decide +kernel
theorem dX2_add_88 : decode cX2_add 88 = .ok (.iload 4, 2) := by decide +kernel
theorem dX2_add_90 : decode cX2_add 90 = .ok (.aaload, 1) := by decide +kernel
theorem dX2_add_91 : decode cX2_add 91 = .ok (.iload 5, 2) := by decide +kernel
theorem dX2_add_93 : decode cX2_add 93 = .ok (.iload 4, 2) := by decide +kernel
theorem dX2_add_95 : decode cX2_add 95 = .ok (.iload 5, 2) := by decide +kernel
theorem dX2_add_97 : decode cX2_add 97 = .ok (.if_icmp .eq 38, 3) := by decide +kernel
theorem dX2_add_100 : decode cX2_add 100 = .ok (.iload 4, 2) := by decide +kernel
theorem dX2_add_102 : decode cX2_add 102 = .ok (.aload_n 0, 1) := by decide +kernel
theorem dX2_add_103 : decode cX2_add 103 = .ok (.getfield 27, 3) := by decide +kernel
theorem dX2_add_106 : decode cX2_add 106 = .ok (.if_icmp .eq 25, 3) := by decide +kernel
theorem dX2_add_109 : decode cX2_add 109 = .ok (.iload 5, 2) := by decide +kernel
theorem dX2_add_111 : decode cX2_add 111 = .ok (.aload_n 0, 1) := by decide +kernel
theorem dX2_add_112 : decode cX2_add 112 = .ok (.getfield 27, 3) := by decide +kernel
theorem dX2_add_115 : decode cX2_add 115 = .ok (.if_icmp .eq 16, 3) := by decide +kernel
theorem dX2_add_118 : decode cX2_add 118 = .ok (.aload_n 0, 1) := by decide +kernel
theorem dX2_add_119 : decode cX2_add 119 = .ok (.getfield 15, 3) := by decide +kernel
theorem dX2_add_122 : decode cX2_add 122 = .ok (.iload 4, 2) := by decide +kernel
theorem dX2_add_124 : decode cX2_add 124 = .ok (.aaload, 1) := by decide +kernel
theorem dX2_add_125 : decode cX2_add 125 = .ok (.iload 5, 2) := by decide +kernel
theorem dX2_add_127 : decode cX2_add 127 = .ok (.baload, 1) := by decide +kernel
theorem dX2_add_128 : decode cX2_add 128 = .ok (.ifCond .eq 7, 3) := by decide +kernel
theorem dX2_add_131 : decode cX2_add 131 = .ok (.iconst 1, 1) := by decide +kernel
theorem dX2_add_132 : decode cX2_add 132 = .ok (.goto 4, 3) := by decide +kernel
theorem dX2_add_135 : decode cX2_add 135 = .ok (.iconst 0, 1) := by decide +kernel
theorem dX2_add_136 : decode cX2_add 136 = .ok (.bastore, 1) := by decide +kernel
theorem dX2_add_137 : decode cX2_add 137 = .ok (.iinc 5 1, 3) := by decide +kernel
theorem dX2_add_140 : decode cX2_add 140 = .ok (.goto (-62), 3) := by decide +kernel
theorem dX2_add_143 : decode cX2_add 143 = .ok (.iinc 4 1, 3) := by decide +kernel
theorem dX2_add_146 : decode cX2_add 146 = .ok (.goto (-80), 3) := by decide +kernel
theorem dX2_add_149 : decode cX2_add 149 = .ok (.aload_n 0, 1) := by decide +kernel
theorem dX2_add_150 : decode cX2_add 150 = .ok (.aload_n 3, 1) := by decide +kernel
theorem dX2_add_151 : decode cX2_add 151 = .ok (.putfield 15, 3) := by decide +kernel
theorem dX2_add_154 : decode cX2_add 154 = .ok (.aload_n 0, 1) := by decide +kernel
theorem dX2_add_155 : decode cX2_add 155 = .ok (.dup, 1) := by decide +kernel
theorem dX2_add_156 : decode cX2_add 156 = .ok (.getfield 27, 3) := by decide +kernel
theorem dX2_add_159 : decode cX2_add 159 = .ok (.iconst 1, 1) := by decide +kernel
theorem dX2_add_160 : decode cX2_add 160 = .ok (.iadd, 1) := by decide +kernel
theorem dX2_add_161 : decode cX2_add 161 = .ok (.putfield 27, 3) := by decide +kernel
theorem dX2_add_164 : decode cX2_add 164 = .ok (.aload_n 0, 1) := by decide +kernel
theorem dX2_add_165 : decode cX2_add 165 = .ok (.invokevirtual 32, 3) := by decide +kernel
theorem dX2_add_168 : decode cX2_add 168 = .ok (.return_, 1) := by decide +kernel
theorem dX2_all_0 : decode cX2_all 0 = .ok (.iconst 1, 1) := by decide +kernel
theorem dX2_all_1 : decode cX2_all 1 = .ok (.istore_n 1, 1) := by decide +kernel
theorem dX2_all_2 : decode cX2_all 2 = .ok (.iconst 0, 1) := by decide +kernel
theorem dX2_all_3 : decode cX2_all 3 = .ok (.istore_n 2, 1) := by decide +kernel
theorem dX2_all_4 : decode cX2_all 4 = .ok (.iload_n 2, 1) := by decide +kernel
theorem dX2_all_5 : decode cX2_all 5 = .ok (.aload_n 0, 1) := by decide +kernel
theorem dX2_all_6 : decode cX2_all 6 = .ok (.getfield 27, 3) := by decide +kernel
theorem dX2_all_9 : decode cX2_all 9 = .ok (.if_icmp .ge 13, 3) := by decide +kernel
theorem dX2_all_12 : decode cX2_all 12 = .ok (.iload_n 1, 1) := by decide +kernel
theorem dX2_all_13 : decode cX2_all 13 = .ok (.iconst 3, 1) := by decide +kernel
theorem dX2_all_14 : decode cX2_all 14 = .ok (.imul, 1) := by decide +kernel
theorem dX2_all_15 : decode cX2_all 15 = .ok (.istore_n 1, 1) := by decide +kernel
theorem dX2_all_16 : decode cX2_all 16 = .ok (.iinc 2 1, 3) := by decide +kernel
theorem dX2_all_19 : decode cX2_all 19 = .ok (.goto (-15), 3) := by decide +kernel
theorem dX2_all_22 : decode cX2_all 22 = .ok (.aload_n 0, 1) := by decide +kernel
theorem dX2_all_23 : decode cX2_all 23 = .ok (.iload_n 1, 1) := by decide +kernel
theorem dX2_all_24 : decode cX2_all 24 = .ok (.aload_n 0, 1) := by decide +kernel
theorem dX2_all_25 : decode cX2_all 25 = .ok (.getfield 27, 3) := by decide +kernel
theorem dX2_all_28 : decode cX2_all 28 = .ok (.multianewarray 35 2, 4) := by decide +kernel
theorem dX2_all_32 : decode cX2_all 32 = .ok (.putfield 20, 3) := by decide +kernel
theorem dX2_all_35 : decode cX2_all 35 = .ok (.aload_n 0, 1) := by decide +kernel
theorem dX2_all_36 : decode cX2_all 36 = .ok (.iload_n 1, 1) := by decide +kernel
theorem dX2_all_37 : decode cX2_all 37 = .ok (.newarray .boolean, 2) := by decide +kernel
theorem dX2_all_39 : decode cX2_all 39 = .ok (.putfield 24, 3) := by decide +kernel
theorem dX2_all_42 : decode cX2_all 42 = .ok (.iconst 0, 1) := by decide +kernel
theorem dX2_all_43 : decode cX2_all 43 = .ok (.istore_n 2, 1) := by decide +kernel
theorem dX2_all_44 : decode cX2_all 44 = .ok (.iload_n 2, 1) := by decide +kernel
theorem dX2_all_45 : decode cX2_all 45 = .ok (.iload_n 1, 1) := by decide +kernel
theorem dX2_all_46 : decode cX2_all 46 = .ok (.if_icmp .ge 52, 3) := by decide +kernel
theorem dX2_all_49 : decode cX2_all 49 = .ok (.iload_n 2, 1) := by decide +kernel
theorem dX2_all_50 : decode cX2_all 50 = .ok (.istore_n 3, 1) := by decide +kernel
theorem dX2_all_51 : decode cX2_all 51 = .ok (.aload_n 0, 1) := by decide +kernel
theorem dX2_all_52 : decode cX2_all 52 = .ok (.getfield 24, 3) := by decide +kernel
theorem dX2_all_55 : decode cX2_all 55 = .ok (.iload_n 2, 1) := by decide +kernel
theorem dX2_all_56 : decode cX2_all 56 = .ok (.iconst 1, 1) := by decide +kernel
theorem dX2_all_57 : decode cX2_all 57 = .ok (.bastore, 1) := by decide +kernel
theorem dX2_all_58 : decode cX2_all 58 = .ok (.iconst 0, 1) := by decide +kernel
theorem dX2_all_59 : decode cX2_all 59 = .ok (.istore 4, 2) := by decide +kernel
theorem dX2_all_61 : decode cX2_all 61 = .ok (.iload 4, 2) := by decide +kernel
theorem dX2_all_63 : decode cX2_all 63 = .ok (.aload_n 0, 1) := by decide +kernel
theorem dX2_all_64 : decode cX2_all 64 = .ok (.getfield 27, 3) := by decide +kernel
theorem dX2_all_67 : decode cX2_all 67 = .ok (.if_icmp .ge 25, 3) := by decide +kernel
theorem dX2_all_70 : decode cX2_all 70 = .ok (.aload_n 0, 1) := by decide +kernel
theorem dX2_all_71 : decode cX2_all 71 = .ok (.getfield 20, 3) := by decide +kernel
theorem dX2_all_74 : decode cX2_all 74 = .ok (.iload_n 2, 1) := by decide +kernel
theorem dX2_all_75 : decode cX2_all 75 = .ok (.aaload, 1) := by decide +kernel
theorem dX2_all_76 : decode cX2_all 76 = .ok (.iload 4, 2) := by decide +kernel
theorem dX2_all_78 : decode cX2_all 78 = .ok (.iload_n 3, 1) := by decide +kernel
theorem dX2_all_79 : decode cX2_all 79 = .ok (.iconst 3, 1) := by decide +kernel
theorem dX2_all_80 : decode cX2_all 80 = .ok (.irem, 1) := by decide +kernel
theorem dX2_all_81 : decode cX2_all 81 = .ok (.iastore, 1) := by decide +kernel
theorem dX2_all_82 : decode cX2_all 82 = .ok (.iload_n 3, 1) := by decide +kernel
theorem dX2_all_83 : decode cX2_all 83 = .ok (.iconst 3, 1) := by decide +kernel
theorem dX2_all_84 : decode cX2_all 84 = .ok (.idiv, 1) := by decide +kernel
theorem dX2_all_85 : decode cX2_all 85 = .ok (.istore_n 3, 1) := by decide +kernel
theorem dX2_all_86 : decode cX2_all 86 = .ok (.iinc 4 1, 3) := by decide +kernel
theorem dX2_all_89 : decode cX2_all 89 = .ok (.goto (-28), 3) := by decide +kernel
theorem dX2_all_92 : decode cX2_all 92 = .ok (.iinc 2 1, 3) := by decide +kernel
theorem dX2_all_95 : decode cX2_all 95 = .ok (.goto (-51), 3) := by decide +kernel
theorem dX2_all_98 : decode cX2_all 98 = .ok (.return_, 1) := by decide +kernel
theorem dX2_agree_0 : decode cX2_agree 0 = .ok (.iconst 0, 1) := by decide +kernel
theorem dX2_agree_1 : decode cX2_agree 1 = .ok (.istore 4, 2) := by decide +kernel
theorem dX2_agree_3 : decode cX2_agree 3 = .ok (.iload 4, 2) := by decide +kernel
theorem dX2_agree_5 : decode cX2_agree 5 = .ok (.aload_n 0, 1) := by decide +kernel
theorem dX2_agree_6 : decode cX2_agree 6 = .ok (.getfield 27, 3) := by decide +kernel
theorem dX2_agree_9 : decode cX2_agree 9 = .ok (.if_icmp .ge 34, 3) := by decide +kernel
theorem dX2_agree_12 : decode cX2_agree 12 = .ok (.aload_n 0, 1) := by decide +kernel
theorem dX2_agree_13 : decode cX2_agree 13 = .ok (.getfield 15, 3) := by decide +kernel
theorem dX2_agree_16 : decode cX2_agree 16 = .ok (.iload_n 1, 1) := by decide +kernel
theorem dX2_agree_17 : decode cX2_agree 17 = .ok (.aaload, 1) := by decide +kernel
theorem dX2_agree_18 : decode cX2_agree 18 = .ok (.iload 4, 2) := by decide +kernel
theorem dX2_agree_20 : decode cX2_agree 20 = .ok (.baload, 1) := by decide +kernel
theorem dX2_agree_21 : decode cX2_agree 21 = .ok (.ifCond .eq 16, 3) := by decide +kernel
theorem dX2_agree_24 : decode cX2_agree 24 = .ok (.aload_n 2, 1) := by decide +kernel
theorem dX2_agree_25 : decode cX2_agree 25 = .ok (.iload 4, 2) := by decide +kernel
theorem dX2_agree_27 : decode cX2_agree 27 = .ok (.iaload, 1) := by decide +kernel
theorem dX2_agree_28 : decode cX2_agree 28 = .ok (.aload_n 3, 1) := by decide +kernel
theorem dX2_agree_29 : decode cX2_agree 29 = .ok (.iload 4, 2) := by decide +kernel
theorem dX2_agree_31 : decode cX2_agree 31 = .ok (.iaload, 1) := by decide +kernel
theorem dX2_agree_32 : decode cX2_agree 32 = .ok (.if_icmp .eq 5, 3) := by decide +kernel
theorem dX2_agree_35 : decode cX2_agree 35 = .ok (.iconst 0, 1) := by decide +kernel
theorem dX2_agree_36 : decode cX2_agree 36 = .ok (.ireturn, 1) := by decide +kernel
theorem dX2_agree_37 : decode cX2_agree 37 = .ok (.iinc 4 1, 3) := by decide +kernel
theorem dX2_agree_40 : decode cX2_agree 40 = .ok (.goto (-37), 3) := by decide +kernel
theorem dX2_agree_43 : decode cX2_agree 43 = .ok (.iconst 1, 1) := by decide +kernel
theorem dX2_agree_44 : decode cX2_agree 44 = .ok (.ireturn, 1) := by decide +kernel
theorem dX2_isSure_0 : decode cX2_isSure 0 = .ok (.iconst (-1), 1) := by decide +kernel
theorem dX2_isSure_1 : decode cX2_isSure 1 = .ok (.istore 4, 2) := by decide +kernel
theorem dX2_isSure_3 : decode cX2_isSure 3 = .ok (.iconst 0, 1) := by decide +kernel
theorem dX2_isSure_4 : decode cX2_isSure 4 = .ok (.istore 5, 2) := by decide +kernel
theorem dX2_isSure_6 : decode cX2_isSure 6 = .ok (.iload 5, 2) := by decide +kernel
theorem dX2_isSure_8 : decode cX2_isSure 8 = .ok (.aload_n 0, 1) := by decide +kernel
theorem dX2_isSure_9 : decode cX2_isSure 9 = .ok (.getfield 20, 3) := by decide +kernel
theorem dX2_isSure_12 : decode cX2_isSure 12 = .ok (.arraylength, 1) := by decide +kernel
theorem dX2_isSure_13 : decode cX2_isSure 13 = .ok (.if_icmp .ge 70, 3) := by decide +kernel
theorem dX2_isSure_16 : decode cX2_isSure 16 = .ok (.aload_n 0, 1) := by decide +kernel
theorem dX2_isSure_17 : decode cX2_isSure 17 = .ok (.getfield 24, 3) := by decide +kernel
theorem dX2_isSure_20 : decode cX2_isSure 20 = .ok (.iload 5, 2) := by decide +kernel
theorem dX2_isSure_22 : decode cX2_isSure 22 = .ok (.baload, 1) := by decide +kernel
theorem dX2_isSure_23 : decode cX2_isSure 23 = .ok (.ifCond .eq 54, 3) := by decide +kernel
theorem dX2_isSure_26 : decode cX2_isSure 26 = .ok (.aload_n 0, 1) := by decide +kernel
theorem dX2_isSure_27 : decode cX2_isSure 27 = .ok (.iload_n 1, 1) := by decide +kernel
theorem dX2_isSure_28 : decode cX2_isSure 28 = .ok (.aload_n 3, 1) := by decide +kernel
theorem dX2_isSure_29 : decode cX2_isSure 29 = .ok (.aload_n 0, 1) := by decide +kernel
theorem dX2_isSure_30 : decode cX2_isSure 30 = .ok (.getfield 20, 3) := by decide +kernel
theorem dX2_isSure_33 : decode cX2_isSure 33 = .ok (.iload 5, 2) := by decide +kernel
theorem dX2_isSure_35 : decode cX2_isSure 35 = .ok (.aaload, 1) := by decide +kernel
theorem dX2_isSure_36 : decode cX2_isSure 36 = .ok (.invokevirtual 36, 3) := by decide +kernel
theorem dX2_isSure_39 : decode cX2_isSure 39 = .ok (.ifCond .ne 6, 3) := by decide +kernel
theorem dX2_isSure_42 : decode cX2_isSure 42 = .ok (.goto 35, 3) := by decide +kernel
theorem dX2_isSure_45 : decode cX2_isSure 45 = .ok (.iload 4, 2) := by decide +kernel
theorem dX2_isSure_47 : decode cX2_isSure 47 = .ok (.ifCond .lt 19, 3) := by decide +kernel
theorem dX2_isSure_50 : decode cX2_isSure 50 = .ok (.iload 4, 2) := by decide +kernel
theorem dX2_isSure_52 : decode cX2_isSure 52 = .ok (.aload_n 0, 1) := by decide +kernel
theorem dX2_isSure_53 : decode cX2_isSure 53 = .ok (.getfield 20, 3) := by decide +kernel
theorem dX2_isSure_56 : decode cX2_isSure 56 = .ok (.iload 5, 2) := by decide +kernel
theorem dX2_isSure_58 : decode cX2_isSure 58 = .ok (.aaload, 1) := by decide +kernel
theorem dX2_isSure_59 : decode cX2_isSure 59 = .ok (.iload_n 2, 1) := by decide +kernel
theorem dX2_isSure_60 : decode cX2_isSure 60 = .ok (.iaload, 1) := by decide +kernel
theorem dX2_isSure_61 : decode cX2_isSure 61 = .ok (.if_icmp .eq 5, 3) := by decide +kernel
theorem dX2_isSure_64 : decode cX2_isSure 64 = .ok (.iconst 0, 1) := by decide +kernel
theorem dX2_isSure_65 : decode cX2_isSure 65 = .ok (.ireturn, 1) := by decide +kernel
theorem dX2_isSure_66 : decode cX2_isSure 66 = .ok (.aload_n 0, 1) := by decide +kernel
theorem dX2_isSure_67 : decode cX2_isSure 67 = .ok (.getfield 20, 3) := by decide +kernel
theorem dX2_isSure_70 : decode cX2_isSure 70 = .ok (.iload 5, 2) := by decide +kernel
theorem dX2_isSure_72 : decode cX2_isSure 72 = .ok (.aaload, 1) := by decide +kernel
theorem dX2_isSure_73 : decode cX2_isSure 73 = .ok (.iload_n 2, 1) := by decide +kernel
theorem dX2_isSure_74 : decode cX2_isSure 74 = .ok (.iaload, 1) := by decide +kernel
theorem dX2_isSure_75 : decode cX2_isSure 75 = .ok (.istore 4, 2) := by decide +kernel
theorem dX2_isSure_77 : decode cX2_isSure 77 = .ok (.iinc 5 1, 3) := by decide +kernel
theorem dX2_isSure_80 : decode cX2_isSure 80 = .ok (.goto (-74), 3) := by decide +kernel
theorem dX2_isSure_83 : decode cX2_isSure 83 = .ok (.iload 4, 2) := by decide +kernel
theorem dX2_isSure_85 : decode cX2_isSure 85 = .ok (.ifCond .lt 7, 3) := by decide +kernel
theorem dX2_isSure_88 : decode cX2_isSure 88 = .ok (.iconst 1, 1) := by decide +kernel
theorem dX2_isSure_89 : decode cX2_isSure 89 = .ok (.goto 4, 3) := by decide +kernel
theorem dX2_isSure_92 : decode cX2_isSure 92 = .ok (.iconst 0, 1) := by decide +kernel
theorem dX2_isSure_93 : decode cX2_isSure 93 = .ok (.ireturn, 1) := by decide +kernel
theorem dX2_turn_0 : decode cX2_turn 0 = .ok (.aload_n 0, 1) := by decide +kernel
theorem dX2_turn_1 : decode cX2_turn 1 = .ok (.getfield 40, 3) := by decide +kernel
theorem dX2_turn_4 : decode cX2_turn 4 = .ok (.aload_n 0, 1) := by decide +kernel
theorem dX2_turn_5 : decode cX2_turn 5 = .ok (.getfield 27, 3) := by decide +kernel
theorem dX2_turn_8 : decode cX2_turn 8 = .ok (.irem, 1) := by decide +kernel
theorem dX2_turn_9 : decode cX2_turn 9 = .ok (.istore_n 1, 1) := by decide +kernel
theorem dX2_turn_10 : decode cX2_turn 10 = .ok (.aload_n 0, 1) := by decide +kernel
theorem dX2_turn_11 : decode cX2_turn 11 = .ok (.iload_n 1, 1) := by decide +kernel
theorem dX2_turn_12 : decode cX2_turn 12 = .ok (.iload_n 1, 1) := by decide +kernel
theorem dX2_turn_13 : decode cX2_turn 13 = .ok (.aload_n 0, 1) := by decide +kernel
theorem dX2_turn_14 : decode cX2_turn 14 = .ok (.getfield 7, 3) := by decide +kernel
theorem dX2_turn_17 : decode cX2_turn 17 = .ok (.invokevirtual 43, 3) := by decide +kernel
theorem dX2_turn_20 : decode cX2_turn 20 = .ok (.istore_n 2, 1) := by decide +kernel
theorem dX2_turn_21 : decode cX2_turn 21 = .ok (.aload_n 0, 1) := by decide +kernel
theorem dX2_turn_22 : decode cX2_turn 22 = .ok (.getfield 24, 3) := by decide +kernel
theorem dX2_turn_25 : decode cX2_turn 25 = .ok (.arraylength, 1) := by decide +kernel
theorem dX2_turn_26 : decode cX2_turn 26 = .ok (.newarray .boolean, 2) := by decide +kernel
theorem dX2_turn_28 : decode cX2_turn 28 = .ok (.astore_n 3, 1) := by decide +kernel
theorem dX2_turn_29 : decode cX2_turn 29 = .ok (.iconst 0, 1) := by decide +kernel
theorem dX2_turn_30 : decode cX2_turn 30 = .ok (.istore 4, 2) := by decide +kernel
theorem dX2_turn_32 : decode cX2_turn 32 = .ok (.iload 4, 2) := by decide +kernel
theorem dX2_turn_34 : decode cX2_turn 34 = .ok (.aload_n 0, 1) := by decide +kernel
theorem dX2_turn_35 : decode cX2_turn 35 = .ok (.getfield 20, 3) := by decide +kernel
theorem dX2_turn_38 : decode cX2_turn 38 = .ok (.arraylength, 1) := by decide +kernel
theorem dX2_turn_39 : decode cX2_turn 39 = .ok (.if_icmp .ge 67, 3) := by decide +kernel
theorem dX2_turn_42 : decode cX2_turn 42 = .ok (.aload_n 3, 1) := by decide +kernel
theorem dX2_turn_43 : decode cX2_turn 43 = .ok (.iload 4, 2) := by decide +kernel
theorem dX2_turn_45 : decode cX2_turn 45 = .ok (.aload_n 0, 1) := by decide +kernel
theorem dX2_turn_46 : decode cX2_turn 46 = .ok (.getfield 24, 3) := by decide +kernel
theorem dX2_turn_49 : decode cX2_turn 49 = .ok (.iload 4, 2) := by decide +kernel
theorem dX2_turn_51 : decode cX2_turn 51 = .ok (.baload, 1) := by decide +kernel
theorem dX2_turn_52 : decode cX2_turn 52 = .ok (.ifCond .eq 46, 3) := by decide +kernel
theorem dX2_turn_55 : decode cX2_turn 55 = .ok (.aload_n 0, 1) := by decide +kernel
theorem dX2_turn_56 : decode cX2_turn 56 = .ok (.iload_n 1, 1) := by decide +kernel
theorem dX2_turn_57 : decode cX2_turn 57 = .ok (.iload_n 1, 1) := by decide +kernel
theorem dX2_turn_58 : decode cX2_turn 58 = .ok (.aload_n 0, 1) := by decide +kernel
theorem dX2_turn_59 : decode cX2_turn 59 = .ok (.getfield 20, 3) := by decide +kernel
theorem dX2_turn_62 : decode cX2_turn 62 = .ok (.iload 4, 2) := by decide +kernel
theorem dX2_turn_64 : decode cX2_turn 64 = .ok (.aaload, 1) := by decide +kernel
theorem dX2_turn_65 : decode cX2_turn 65 = .ok (.invokevirtual 43, 3) := by decide +kernel
theorem dX2_turn_68 : decode cX2_turn 68 = .ok (.iload_n 2, 1) := by decide +kernel
theorem dX2_turn_69 : decode cX2_turn 69 = .ok (.if_icmp .ne 29, 3) := by decide +kernel
theorem dX2_turn_72 : decode cX2_turn 72 = .ok (.iload_n 2, 1) := by decide +kernel
theorem dX2_turn_73 : decode cX2_turn 73 = .ok (.ifCond .eq 21, 3) := by decide +kernel
theorem dX2_turn_76 : decode cX2_turn 76 = .ok (.aload_n 0, 1) := by decide +kernel
theorem dX2_turn_77 : decode cX2_turn 77 = .ok (.getfield 20, 3) := by decide +kernel
theorem dX2_turn_80 : decode cX2_turn 80 = .ok (.iload 4, 2) := by decide +kernel
theorem dX2_turn_82 : decode cX2_turn 82 = .ok (.aaload, 1) := by decide +kernel
theorem dX2_turn_83 : decode cX2_turn 83 = .ok (.iload_n 1, 1) := by decide +kernel
theorem dX2_turn_84 : decode cX2_turn 84 = .ok (.iaload, 1) := by decide +kernel
theorem dX2_turn_85 : decode cX2_turn 85 = .ok (.aload_n 0, 1) := by decide +kernel
theorem dX2_turn_86 : decode cX2_turn 86 = .ok (.getfield 7, 3) := by decide +kernel
theorem dX2_turn_89 : decode cX2_turn 89 = .ok (.iload_n 1, 1) := by decide +kernel
theorem dX2_turn_90 : decode cX2_turn 90 = .ok (.iaload, 1) := by decide +kernel
theorem dX2_turn_91 : decode cX2_turn 91 = .ok (.if_icmp .ne 7, 3) := by decide +kernel
theorem dX2_turn_94 : decode cX2_turn 94 = .ok (.iconst 1, 1) := by decide +kernel
theorem dX2_turn_95 : decode cX2_turn 95 = .ok (.goto 4, 3) := by decide +kernel
theorem dX2_turn_98 : decode cX2_turn 98 = .ok (.iconst 0, 1) := by decide +kernel
theorem dX2_turn_99 : decode cX2_turn 99 = .ok (.bastore, 1) := by decide +kernel
theorem dX2_turn_100 : decode cX2_turn 100 = .ok (.iinc 4 1, 3) := by decide +kernel
theorem dX2_turn_103 : decode cX2_turn 103 = .ok (.goto (-71), 3) := by decide +kernel
theorem dX2_turn_106 : decode cX2_turn 106 = .ok (.aload_n 0, 1) := by decide +kernel
theorem dX2_turn_107 : decode cX2_turn 107 = .ok (.aload_n 3, 1) := by decide +kernel
theorem dX2_turn_108 : decode cX2_turn 108 = .ok (.putfield 24, 3) := by decide +kernel
theorem dX2_turn_111 : decode cX2_turn 111 = .ok (.aload_n 0, 1) := by decide +kernel
theorem dX2_turn_112 : decode cX2_turn 112 = .ok (.dup, 1) := by decide +kernel
theorem dX2_turn_113 : decode cX2_turn 113 = .ok (.getfield 40, 3) := by decide +kernel
theorem dX2_turn_116 : decode cX2_turn 116 = .ok (.iconst 1, 1) := by decide +kernel
theorem dX2_turn_117 : decode cX2_turn 117 = .ok (.iadd, 1) := by decide +kernel
theorem dX2_turn_118 : decode cX2_turn 118 = .ok (.putfield 40, 3) := by decide +kernel
theorem dX2_turn_121 : decode cX2_turn 121 = .ok (.aload_n 0, 1) := by decide +kernel
theorem dX2_turn_122 : decode cX2_turn 122 = .ok (.dup, 1) := by decide +kernel
theorem dX2_turn_123 : decode cX2_turn 123 = .ok (.getfield 47, 3) := by decide +kernel
theorem dX2_turn_126 : decode cX2_turn 126 = .ok (.iload_n 2, 1) := by decide +kernel
theorem dX2_turn_127 : decode cX2_turn 127 = .ok (.ifCond .eq 7, 3) := by decide +kernel
theorem dX2_turn_130 : decode cX2_turn 130 = .ok (.iconst 0, 1) := by decide +kernel
theorem dX2_turn_131 : decode cX2_turn 131 = .ok (.goto 4, 3) := by decide +kernel
theorem dX2_turn_134 : decode cX2_turn 134 = .ok (.iconst 1, 1) := by decide +kernel
theorem dX2_turn_135 : decode cX2_turn 135 = .ok (.iadd, 1) := by decide +kernel
theorem dX2_turn_136 : decode cX2_turn 136 = .ok (.putfield 47, 3) := by decide +kernel
theorem dX2_turn_139 : decode cX2_turn 139 = .ok (.aload_n 0, 1) := by decide +kernel
theorem dX2_turn_140 : decode cX2_turn 140 = .ok (.iconst 1, 1) := by decide +kernel
theorem dX2_turn_141 : decode cX2_turn 141 = .ok (.putfield 50, 3) := by decide +kernel
theorem dX2_turn_144 : decode cX2_turn 144 = .ok (.iload_n 2, 1) := by decide +kernel
theorem dX2_turn_145 : decode cX2_turn 145 = .ok (.ifCond .eq 12, 3) := by decide +kernel
theorem dX2_turn_148 : decode cX2_turn 148 = .ok (.aload_n 0, 1) := by decide +kernel
theorem dX2_turn_149 : decode cX2_turn 149 = .ok (.getfield 7, 3) := by decide +kernel
theorem dX2_turn_152 : decode cX2_turn 152 = .ok (.iload_n 1, 1) := by decide +kernel
theorem dX2_turn_153 : decode cX2_turn 153 = .ok (.iaload, 1) := by decide +kernel
theorem dX2_turn_154 : decode cX2_turn 154 = .ok (.goto 4, 3) := by decide +kernel
theorem dX2_turn_157 : decode cX2_turn 157 = .ok (.iconst (-1), 1) := by decide +kernel
theorem dX2_turn_158 : decode cX2_turn 158 = .ok (.ireturn, 1) := by decide +kernel
theorem dX2_have_0 : decode cX2_have 0 = .ok (.iconst 0, 1) := by decide +kernel
theorem dX2_have_1 : decode cX2_have 1 = .ok (.istore_n 3, 1) := by decide +kernel
theorem dX2_have_2 : decode cX2_have 2 = .ok (.aload_n 1, 1) := by decide +kernel
theorem dX2_have_3 : decode cX2_have 3 = .ok (.astore 4, 2) := by decide +kernel
theorem dX2_have_5 : decode cX2_have 5 = .ok (.aload 4, 2) := by decide +kernel
theorem dX2_have_7 : decode cX2_have 7 = .ok (.arraylength, 1) := by decide +kernel
theorem dX2_have_8 : decode cX2_have 8 = .ok (.istore 5, 2) := by decide +kernel
theorem dX2_have_10 : decode cX2_have 10 = .ok (.iconst 0, 1) := by decide +kernel
theorem dX2_have_11 : decode cX2_have 11 = .ok (.istore 6, 2) := by decide +kernel
theorem dX2_have_13 : decode cX2_have 13 = .ok (.iload 6, 2) := by decide +kernel
theorem dX2_have_15 : decode cX2_have 15 = .ok (.iload 5, 2) := by decide +kernel
theorem dX2_have_17 : decode cX2_have 17 = .ok (.if_icmp .ge 30, 3) := by decide +kernel
theorem dX2_have_20 : decode cX2_have 20 = .ok (.aload 4, 2) := by decide +kernel
theorem dX2_have_22 : decode cX2_have 22 = .ok (.iload 6, 2) := by decide +kernel
theorem dX2_have_24 : decode cX2_have 24 = .ok (.iaload, 1) := by decide +kernel
theorem dX2_have_25 : decode cX2_have 25 = .ok (.istore 7, 2) := by decide +kernel
theorem dX2_have_27 : decode cX2_have 27 = .ok (.iload_n 3, 1) := by decide +kernel
theorem dX2_have_28 : decode cX2_have 28 = .ok (.iload 7, 2) := by decide +kernel
theorem dX2_have_30 : decode cX2_have 30 = .ok (.iload_n 2, 1) := by decide +kernel
theorem dX2_have_31 : decode cX2_have 31 = .ok (.if_icmp .ne 7, 3) := by decide +kernel
theorem dX2_have_34 : decode cX2_have 34 = .ok (.iconst 1, 1) := by decide +kernel
theorem dX2_have_35 : decode cX2_have 35 = .ok (.goto 4, 3) := by decide +kernel
theorem dX2_have_38 : decode cX2_have 38 = .ok (.iconst 0, 1) := by decide +kernel
theorem dX2_have_39 : decode cX2_have 39 = .ok (.iadd, 1) := by decide +kernel
theorem dX2_have_40 : decode cX2_have 40 = .ok (.istore_n 3, 1) := by decide +kernel
theorem dX2_have_41 : decode cX2_have 41 = .ok (.iinc 6 1, 3) := by decide +kernel
theorem dX2_have_44 : decode cX2_have 44 = .ok (.goto (-31), 3) := by decide +kernel
theorem dX2_have_47 : decode cX2_have 47 = .ok (.iload_n 3, 1) := by decide +kernel
theorem dX2_have_48 : decode cX2_have 48 = .ok (.ireturn, 1) := by decide +kernel
theorem dX2_many_0 : decode cX2_many 0 = .ok (.iconst 0, 1) := by decide +kernel
theorem dX2_many_1 : decode cX2_many 1 = .ok (.istore_n 1, 1) := by decide +kernel
theorem dX2_many_2 : decode cX2_many 2 = .ok (.aload_n 0, 1) := by decide +kernel
theorem dX2_many_3 : decode cX2_many 3 = .ok (.getfield 24, 3) := by decide +kernel
theorem dX2_many_6 : decode cX2_many 6 = .ok (.astore_n 2, 1) := by decide +kernel
theorem dX2_many_7 : decode cX2_many 7 = .ok (.aload_n 2, 1) := by decide +kernel
theorem dX2_many_8 : decode cX2_many 8 = .ok (.arraylength, 1) := by decide +kernel
theorem dX2_many_9 : decode cX2_many 9 = .ok (.istore_n 3, 1) := by decide +kernel
theorem dX2_many_10 : decode cX2_many 10 = .ok (.iconst 0, 1) := by decide +kernel
theorem dX2_many_11 : decode cX2_many 11 = .ok (.istore 4, 2) := by decide +kernel
theorem dX2_many_13 : decode cX2_many 13 = .ok (.iload 4, 2) := by decide +kernel
theorem dX2_many_15 : decode cX2_many 15 = .ok (.iload_n 3, 1) := by decide +kernel
theorem dX2_many_16 : decode cX2_many 16 = .ok (.if_icmp .ge 28, 3) := by decide +kernel
theorem dX2_many_19 : decode cX2_many 19 = .ok (.aload_n 2, 1) := by decide +kernel
theorem dX2_many_20 : decode cX2_many 20 = .ok (.iload 4, 2) := by decide +kernel
theorem dX2_many_22 : decode cX2_many 22 = .ok (.baload, 1) := by decide +kernel
theorem dX2_many_23 : decode cX2_many 23 = .ok (.istore 5, 2) := by decide +kernel
theorem dX2_many_25 : decode cX2_many 25 = .ok (.iload_n 1, 1) := by decide +kernel
theorem dX2_many_26 : decode cX2_many 26 = .ok (.iload 5, 2) := by decide +kernel
theorem dX2_many_28 : decode cX2_many 28 = .ok (.ifCond .eq 7, 3) := by decide +kernel
theorem dX2_many_31 : decode cX2_many 31 = .ok (.iconst 1, 1) := by decide +kernel
theorem dX2_many_32 : decode cX2_many 32 = .ok (.goto 4, 3) := by decide +kernel
theorem dX2_many_35 : decode cX2_many 35 = .ok (.iconst 0, 1) := by decide +kernel
theorem dX2_many_36 : decode cX2_many 36 = .ok (.iadd, 1) := by decide +kernel
theorem dX2_many_37 : decode cX2_many 37 = .ok (.istore_n 1, 1) := by decide +kernel
theorem dX2_many_38 : decode cX2_many 38 = .ok (.iinc 4 1, 3) := by decide +kernel
theorem dX2_many_41 : decode cX2_many 41 = .ok (.goto (-28), 3) := by decide +kernel
theorem dX2_many_44 : decode cX2_many 44 = .ok (.iload_n 1, 1) := by decide +kernel
theorem dX2_many_45 : decode cX2_many 45 = .ok (.ireturn, 1) := by decide +kernel
theorem dX2_say_0 : decode cX2_say 0 = .ok (.iconst 0, 1) := by decide +kernel
theorem dX2_say_1 : decode cX2_say 1 = .ok (.istore 4, 2) := by decide +kernel
theorem dX2_say_3 : decode cX2_say 3 = .ok (.iload 4, 2) := by decide +kernel
theorem dX2_say_5 : decode cX2_say 5 = .ok (.aload_n 0, 1) := by decide +kernel
theorem dX2_say_6 : decode cX2_say 6 = .ok (.getfield 20, 3) := by decide +kernel
theorem dX2_say_9 : decode cX2_say 9 = .ok (.arraylength, 1) := by decide +kernel
theorem dX2_say_10 : decode cX2_say 10 = .ok (.if_icmp .ge 64, 3) := by decide +kernel
theorem dX2_say_13 : decode cX2_say 13 = .ok (.aload_n 0, 1) := by decide +kernel
theorem dX2_say_14 : decode cX2_say 14 = .ok (.aload_n 0, 1) := by decide +kernel
theorem dX2_say_15 : decode cX2_say 15 = .ok (.getfield 20, 3) := by decide +kernel
theorem dX2_say_18 : decode cX2_say 18 = .ok (.iload 4, 2) := by decide +kernel
theorem dX2_say_20 : decode cX2_say 20 = .ok (.aaload, 1) := by decide +kernel
theorem dX2_say_21 : decode cX2_say 21 = .ok (.iload_n 1, 1) := by decide +kernel
theorem dX2_say_22 : decode cX2_say 22 = .ok (.invokevirtual 54, 3) := by decide +kernel
theorem dX2_say_25 : decode cX2_say 25 = .ok (.istore 5, 2) := by decide +kernel
theorem dX2_say_27 : decode cX2_say 27 = .ok (.aload_n 0, 1) := by decide +kernel
theorem dX2_say_28 : decode cX2_say 28 = .ok (.getfield 24, 3) := by decide +kernel
theorem dX2_say_31 : decode cX2_say 31 = .ok (.iload 4, 2) := by decide +kernel
theorem dX2_say_33 : decode cX2_say 33 = .ok (.aload_n 0, 1) := by decide +kernel
theorem dX2_say_34 : decode cX2_say 34 = .ok (.getfield 24, 3) := by decide +kernel
theorem dX2_say_37 : decode cX2_say 37 = .ok (.iload 4, 2) := by decide +kernel
theorem dX2_say_39 : decode cX2_say 39 = .ok (.baload, 1) := by decide +kernel
theorem dX2_say_40 : decode cX2_say 40 = .ok (.ifCond .eq 26, 3) := by decide +kernel
theorem dX2_say_43 : decode cX2_say 43 = .ok (.iload_n 3, 1) := by decide +kernel
theorem dX2_say_44 : decode cX2_say 44 = .ok (.ifCond .eq 12, 3) := by decide +kernel
theorem dX2_say_47 : decode cX2_say 47 = .ok (.iload 5, 2) := by decide +kernel
theorem dX2_say_49 : decode cX2_say 49 = .ok (.iload_n 2, 1) := by decide +kernel
theorem dX2_say_50 : decode cX2_say 50 = .ok (.if_icmp .lt 16, 3) := by decide +kernel
theorem dX2_say_53 : decode cX2_say 53 = .ok (.goto 9, 3) := by decide +kernel
theorem dX2_say_56 : decode cX2_say 56 = .ok (.iload 5, 2) := by decide +kernel
theorem dX2_say_58 : decode cX2_say 58 = .ok (.iload_n 2, 1) := by decide +kernel
theorem dX2_say_59 : decode cX2_say 59 = .ok (.if_icmp .gt 7, 3) := by decide +kernel
theorem dX2_say_62 : decode cX2_say 62 = .ok (.iconst 1, 1) := by decide +kernel
theorem dX2_say_63 : decode cX2_say 63 = .ok (.goto 4, 3) := by decide +kernel
theorem dX2_say_66 : decode cX2_say 66 = .ok (.iconst 0, 1) := by decide +kernel
theorem dX2_say_67 : decode cX2_say 67 = .ok (.bastore, 1) := by decide +kernel
theorem dX2_say_68 : decode cX2_say 68 = .ok (.iinc 4 1, 3) := by decide +kernel
theorem dX2_say_71 : decode cX2_say 71 = .ok (.goto (-68), 3) := by decide +kernel
theorem dX2_say_74 : decode cX2_say 74 = .ok (.aload_n 0, 1) := by decide +kernel
theorem dX2_say_75 : decode cX2_say 75 = .ok (.iconst 1, 1) := by decide +kernel
theorem dX2_say_76 : decode cX2_say 76 = .ok (.putfield 50, 3) := by decide +kernel
theorem dX2_say_79 : decode cX2_say 79 = .ok (.aload_n 0, 1) := by decide +kernel
theorem dX2_say_80 : decode cX2_say 80 = .ok (.invokevirtual 58, 3) := by decide +kernel
theorem dX2_say_83 : decode cX2_say 83 = .ok (.ireturn, 1) := by decide +kernel
theorem dX2_borrow_0 : decode cX2_borrow 0 = .ok (.aload_n 0, 1) := by decide +kernel
theorem dX2_borrow_1 : decode cX2_borrow 1 = .ok (.getfield 20, 3) := by decide +kernel
theorem dX2_borrow_4 : decode cX2_borrow 4 = .ok (.astore_n 3, 1) := by decide +kernel
theorem dX2_borrow_5 : decode cX2_borrow 5 = .ok (.aload_n 3, 1) := by decide +kernel
theorem dX2_borrow_6 : decode cX2_borrow 6 = .ok (.arraylength, 1) := by decide +kernel
theorem dX2_borrow_7 : decode cX2_borrow 7 = .ok (.istore 4, 2) := by decide +kernel
theorem dX2_borrow_9 : decode cX2_borrow 9 = .ok (.iconst 0, 1) := by decide +kernel
theorem dX2_borrow_10 : decode cX2_borrow 10 = .ok (.istore 5, 2) := by decide +kernel
theorem dX2_borrow_12 : decode cX2_borrow 12 = .ok (.iload 5, 2) := by decide +kernel
theorem dX2_borrow_14 : decode cX2_borrow 14 = .ok (.iload 4, 2) := by decide +kernel
theorem dX2_borrow_16 : decode cX2_borrow 16 = .ok (.if_icmp .ge 35, 3) := by decide +kernel
theorem dX2_borrow_19 : decode cX2_borrow 19 = .ok (.aload_n 3, 1) := by decide +kernel
theorem dX2_borrow_20 : decode cX2_borrow 20 = .ok (.iload 5, 2) := by decide +kernel
theorem dX2_borrow_22 : decode cX2_borrow 22 = .ok (.aaload, 1) := by decide +kernel
theorem dX2_borrow_23 : decode cX2_borrow 23 = .ok (.astore 6, 2) := by decide +kernel
theorem dX2_borrow_25 : decode cX2_borrow 25 = .ok (.aload 6, 2) := by decide +kernel
theorem dX2_borrow_27 : decode cX2_borrow 27 = .ok (.iload_n 1, 1) := by decide +kernel
theorem dX2_borrow_28 : decode cX2_borrow 28 = .ok (.iaload, 1) := by decide +kernel
theorem dX2_borrow_29 : decode cX2_borrow 29 = .ok (.istore 7, 2) := by decide +kernel
theorem dX2_borrow_31 : decode cX2_borrow 31 = .ok (.aload 6, 2) := by decide +kernel
theorem dX2_borrow_33 : decode cX2_borrow 33 = .ok (.iload_n 1, 1) := by decide +kernel
theorem dX2_borrow_34 : decode cX2_borrow 34 = .ok (.aload 6, 2) := by decide +kernel
theorem dX2_borrow_36 : decode cX2_borrow 36 = .ok (.iload_n 2, 1) := by decide +kernel
theorem dX2_borrow_37 : decode cX2_borrow 37 = .ok (.iaload, 1) := by decide +kernel
theorem dX2_borrow_38 : decode cX2_borrow 38 = .ok (.iastore, 1) := by decide +kernel
theorem dX2_borrow_39 : decode cX2_borrow 39 = .ok (.aload 6, 2) := by decide +kernel
theorem dX2_borrow_41 : decode cX2_borrow 41 = .ok (.iload_n 2, 1) := by decide +kernel
theorem dX2_borrow_42 : decode cX2_borrow 42 = .ok (.iload 7, 2) := by decide +kernel
theorem dX2_borrow_44 : decode cX2_borrow 44 = .ok (.iastore, 1) := by decide +kernel
theorem dX2_borrow_45 : decode cX2_borrow 45 = .ok (.iinc 5 1, 3) := by decide +kernel
theorem dX2_borrow_48 : decode cX2_borrow 48 = .ok (.goto (-36), 3) := by decide +kernel
theorem dX2_borrow_51 : decode cX2_borrow 51 = .ok (.aload_n 0, 1) := by decide +kernel
theorem dX2_borrow_52 : decode cX2_borrow 52 = .ok (.getfield 7, 3) := by decide +kernel
theorem dX2_borrow_55 : decode cX2_borrow 55 = .ok (.iload_n 1, 1) := by decide +kernel
theorem dX2_borrow_56 : decode cX2_borrow 56 = .ok (.iaload, 1) := by decide +kernel
theorem dX2_borrow_57 : decode cX2_borrow 57 = .ok (.istore_n 3, 1) := by decide +kernel
theorem dX2_borrow_58 : decode cX2_borrow 58 = .ok (.aload_n 0, 1) := by decide +kernel
theorem dX2_borrow_59 : decode cX2_borrow 59 = .ok (.getfield 7, 3) := by decide +kernel
theorem dX2_borrow_62 : decode cX2_borrow 62 = .ok (.iload_n 1, 1) := by decide +kernel
theorem dX2_borrow_63 : decode cX2_borrow 63 = .ok (.aload_n 0, 1) := by decide +kernel
theorem dX2_borrow_64 : decode cX2_borrow 64 = .ok (.getfield 7, 3) := by decide +kernel
theorem dX2_borrow_67 : decode cX2_borrow 67 = .ok (.iload_n 2, 1) := by decide +kernel
theorem dX2_borrow_68 : decode cX2_borrow 68 = .ok (.iaload, 1) := by decide +kernel
theorem dX2_borrow_69 : decode cX2_borrow 69 = .ok (.iastore, 1) := by decide +kernel
theorem dX2_borrow_70 : decode cX2_borrow 70 = .ok (.aload_n 0, 1) := by decide +kernel
theorem dX2_borrow_71 : decode cX2_borrow 71 = .ok (.getfield 7, 3) := by decide +kernel
theorem dX2_borrow_74 : decode cX2_borrow 74 = .ok (.iload_n 2, 1) := by decide +kernel
theorem dX2_borrow_75 : decode cX2_borrow 75 = .ok (.iload_n 3, 1) := by decide +kernel
theorem dX2_borrow_76 : decode cX2_borrow 76 = .ok (.iastore, 1) := by decide +kernel
theorem dX2_borrow_77 : decode cX2_borrow 77 = .ok (.aload_n 0, 1) := by decide +kernel
theorem dX2_borrow_78 : decode cX2_borrow 78 = .ok (.iconst 1, 1) := by decide +kernel
theorem dX2_borrow_79 : decode cX2_borrow 79 = .ok (.putfield 50, 3) := by decide +kernel
theorem dX2_borrow_82 : decode cX2_borrow 82 = .ok (.return_, 1) := by decide +kernel
theorem dX2_certain_0 : decode cX2_certain 0 = .ok (.iconst 0, 1) := by decide +kernel
theorem dX2_certain_1 : decode cX2_certain 1 = .ok (.istore_n 1, 1) := by decide +kernel
theorem dX2_certain_2 : decode cX2_certain 2 = .ok (.iconst 0, 1) := by decide +kernel
theorem dX2_certain_3 : decode cX2_certain 3 = .ok (.istore_n 2, 1) := by decide +kernel
theorem dX2_certain_4 : decode cX2_certain 4 = .ok (.iload_n 2, 1) := by decide +kernel
theorem dX2_certain_5 : decode cX2_certain 5 = .ok (.aload_n 0, 1) := by decide +kernel
theorem dX2_certain_6 : decode cX2_certain 6 = .ok (.getfield 27, 3) := by decide +kernel
theorem dX2_certain_9 : decode cX2_certain 9 = .ok (.if_icmp .ge 30, 3) := by decide +kernel
theorem dX2_certain_12 : decode cX2_certain 12 = .ok (.iload_n 1, 1) := by decide +kernel
theorem dX2_certain_13 : decode cX2_certain 13 = .ok (.aload_n 0, 1) := by decide +kernel
theorem dX2_certain_14 : decode cX2_certain 14 = .ok (.iload_n 2, 1) := by decide +kernel
theorem dX2_certain_15 : decode cX2_certain 15 = .ok (.iload_n 2, 1) := by decide +kernel
theorem dX2_certain_16 : decode cX2_certain 16 = .ok (.aload_n 0, 1) := by decide +kernel
theorem dX2_certain_17 : decode cX2_certain 17 = .ok (.getfield 7, 3) := by decide +kernel
theorem dX2_certain_20 : decode cX2_certain 20 = .ok (.invokevirtual 43, 3) := by decide +kernel
theorem dX2_certain_23 : decode cX2_certain 23 = .ok (.ifCond .eq 7, 3) := by decide +kernel
theorem dX2_certain_26 : decode cX2_certain 26 = .ok (.iconst 1, 1) := by decide +kernel
theorem dX2_certain_27 : decode cX2_certain 27 = .ok (.goto 4, 3) := by decide +kernel
theorem dX2_certain_30 : decode cX2_certain 30 = .ok (.iconst 0, 1) := by decide +kernel
theorem dX2_certain_31 : decode cX2_certain 31 = .ok (.iadd, 1) := by decide +kernel
theorem dX2_certain_32 : decode cX2_certain 32 = .ok (.istore_n 1, 1) := by decide +kernel
theorem dX2_certain_33 : decode cX2_certain 33 = .ok (.iinc 2 1, 3) := by decide +kernel
theorem dX2_certain_36 : decode cX2_certain 36 = .ok (.goto (-32), 3) := by decide +kernel
theorem dX2_certain_39 : decode cX2_certain 39 = .ok (.iload_n 1, 1) := by decide +kernel
theorem dX2_certain_40 : decode cX2_certain 40 = .ok (.ireturn, 1) := by decide +kernel
theorem dX2_isSame_0 : decode cX2_isSame 0 = .ok (.aload_n 1, 1) := by decide +kernel
theorem dX2_isSame_1 : decode cX2_isSame 1 = .ok (.invokevirtual 68, 3) := by decide +kernel
theorem dX2_isSame_4 : decode cX2_isSame 4 = .ok (.aload_n 0, 1) := by decide +kernel
theorem dX2_isSame_5 : decode cX2_isSame 5 = .ok (.getfield 27, 3) := by decide +kernel
theorem dX2_isSame_8 : decode cX2_isSame 8 = .ok (.if_icmp .ne 74, 3) := by decide +kernel
theorem dX2_isSame_11 : decode cX2_isSame 11 = .ok (.aload_n 1, 1) := by decide +kernel
theorem dX2_isSame_12 : decode cX2_isSame 12 = .ok (.invokevirtual 73, 3) := by decide +kernel
theorem dX2_isSame_15 : decode cX2_isSame 15 = .ok (.aload_n 0, 1) := by decide +kernel
theorem dX2_isSame_16 : decode cX2_isSame 16 = .ok (.getfield 40, 3) := by decide +kernel
theorem dX2_isSame_19 : decode cX2_isSame 19 = .ok (.if_icmp .ne 63, 3) := by decide +kernel
theorem dX2_isSame_22 : decode cX2_isSame 22 = .ok (.aload_n 1, 1) := by decide +kernel
theorem dX2_isSame_23 : decode cX2_isSame 23 = .ok (.invokevirtual 76, 3) := by decide +kernel
theorem dX2_isSame_26 : decode cX2_isSame 26 = .ok (.aload_n 0, 1) := by decide +kernel
theorem dX2_isSame_27 : decode cX2_isSame 27 = .ok (.getfield 47, 3) := by decide +kernel
theorem dX2_isSame_30 : decode cX2_isSame 30 = .ok (.if_icmp .ne 52, 3) := by decide +kernel
theorem dX2_isSame_33 : decode cX2_isSame 33 = .ok (.aload_n 1, 1) := by decide +kernel
theorem dX2_isSame_34 : decode cX2_isSame 34 = .ok (.invokevirtual 79, 3) := by decide +kernel
theorem dX2_isSame_37 : decode cX2_isSame 37 = .ok (.aload_n 0, 1) := by decide +kernel
theorem dX2_isSame_38 : decode cX2_isSame 38 = .ok (.getfield 27, 3) := by decide +kernel
theorem dX2_isSame_41 : decode cX2_isSame 41 = .ok (.ifCond .ne 7, 3) := by decide +kernel
theorem dX2_isSame_44 : decode cX2_isSame 44 = .ok (.iconst (-1), 1) := by decide +kernel
theorem dX2_isSame_45 : decode cX2_isSame 45 = .ok (.goto 12, 3) := by decide +kernel
theorem dX2_isSame_48 : decode cX2_isSame 48 = .ok (.aload_n 0, 1) := by decide +kernel
theorem dX2_isSame_49 : decode cX2_isSame 49 = .ok (.getfield 40, 3) := by decide +kernel
theorem dX2_isSame_52 : decode cX2_isSame 52 = .ok (.aload_n 0, 1) := by decide +kernel
theorem dX2_isSame_53 : decode cX2_isSame 53 = .ok (.getfield 27, 3) := by decide +kernel
theorem dX2_isSame_56 : decode cX2_isSame 56 = .ok (.irem, 1) := by decide +kernel
theorem dX2_isSame_57 : decode cX2_isSame 57 = .ok (.if_icmp .ne 25, 3) := by decide +kernel
theorem dX2_isSame_60 : decode cX2_isSame 60 = .ok (.aload_n 1, 1) := by decide +kernel
theorem dX2_isSame_61 : decode cX2_isSame 61 = .ok (.invokevirtual 82, 3) := by decide +kernel
theorem dX2_isSame_64 : decode cX2_isSame 64 = .ok (.aload_n 0, 1) := by decide +kernel
theorem dX2_isSame_65 : decode cX2_isSame 65 = .ok (.invokevirtual 58, 3) := by decide +kernel
theorem dX2_isSame_68 : decode cX2_isSame 68 = .ok (.if_icmp .ne 14, 3) := by decide +kernel
theorem dX2_isSame_71 : decode cX2_isSame 71 = .ok (.aload_n 1, 1) := by decide +kernel
theorem dX2_isSame_72 : decode cX2_isSame 72 = .ok (.invokevirtual 85, 3) := by decide +kernel
theorem dX2_isSame_75 : decode cX2_isSame 75 = .ok (.aload_n 0, 1) := by decide +kernel
theorem dX2_isSame_76 : decode cX2_isSame 76 = .ok (.invokevirtual 88, 3) := by decide +kernel
theorem dX2_isSame_79 : decode cX2_isSame 79 = .ok (.if_icmp .eq 5, 3) := by decide +kernel
theorem dX2_isSame_82 : decode cX2_isSame 82 = .ok (.iconst 0, 1) := by decide +kernel
theorem dX2_isSame_83 : decode cX2_isSame 83 = .ok (.ireturn, 1) := by decide +kernel
theorem dX2_isSame_84 : decode cX2_isSame 84 = .ok (.iconst 0, 1) := by decide +kernel
theorem dX2_isSame_85 : decode cX2_isSame 85 = .ok (.istore_n 2, 1) := by decide +kernel
theorem dX2_isSame_86 : decode cX2_isSame 86 = .ok (.iconst 0, 1) := by decide +kernel
theorem dX2_isSame_87 : decode cX2_isSame 87 = .ok (.istore_n 3, 1) := by decide +kernel
theorem dX2_isSame_88 : decode cX2_isSame 88 = .ok (.iload_n 3, 1) := by decide +kernel
theorem dX2_isSame_89 : decode cX2_isSame 89 = .ok (.aload_n 0, 1) := by decide +kernel
theorem dX2_isSame_90 : decode cX2_isSame 90 = .ok (.getfield 27, 3) := by decide +kernel
theorem dX2_isSame_93 : decode cX2_isSame 93 = .ok (.if_icmp .ge 346, 3) := by decide +kernel
theorem dX2_isSame_96 : decode cX2_isSame 96 = .ok (.iconst 0, 1) := by decide +kernel
theorem dX2_isSame_97 : decode cX2_isSame 97 = .ok (.istore 4, 2) := by decide +kernel
theorem dX2_isSame_99 : decode cX2_isSame 99 = .ok (.iconst 3, 1) := by decide +kernel
theorem dX2_isSame_100 : decode cX2_isSame 100 = .ok (.newarray .int, 2) := by decide +kernel
theorem dX2_isSame_102 : decode cX2_isSame 102 = .ok (.astore 5, 2) := by decide +kernel
theorem dX2_isSame_104 : decode cX2_isSame 104 = .ok (.iconst 3, 1) := by decide +kernel
theorem dX2_isSame_105 : decode cX2_isSame 105 = .ok (.aload_n 0, 1) := by decide +kernel
theorem dX2_isSame_106 : decode cX2_isSame 106 = .ok (.getfield 27, 3) := by decide +kernel
theorem dX2_isSame_109 : decode cX2_isSame 109 = .ok (.imul, 1) := by decide +kernel
theorem dX2_isSame_110 : decode cX2_isSame 110 = .ok (.newarray .boolean, 2) := by decide +kernel
theorem dX2_isSame_112 : decode cX2_isSame 112 = .ok (.astore 6, 2) := by decide +kernel
theorem dX2_isSame_114 : decode cX2_isSame 114 = .ok (.iconst 0, 1) := by decide +kernel
theorem dX2_isSame_115 : decode cX2_isSame 115 = .ok (.istore 7, 2) := by decide +kernel
theorem dX2_isSame_117 : decode cX2_isSame 117 = .ok (.iload 7, 2) := by decide +kernel
theorem dX2_isSame_119 : decode cX2_isSame 119 = .ok (.aload_n 0, 1) := by decide +kernel
theorem dX2_isSame_120 : decode cX2_isSame 120 = .ok (.getfield 20, 3) := by decide +kernel
theorem dX2_isSame_123 : decode cX2_isSame 123 = .ok (.arraylength, 1) := by decide +kernel
theorem dX2_isSame_124 : decode cX2_isSame 124 = .ok (.if_icmp .ge 100, 3) := by decide +kernel
theorem dX2_isSame_127 : decode cX2_isSame 127 = .ok (.aload_n 0, 1) := by decide +kernel
theorem dX2_isSame_128 : decode cX2_isSame 128 = .ok (.getfield 24, 3) := by decide +kernel
theorem dX2_isSame_131 : decode cX2_isSame 131 = .ok (.iload 7, 2) := by decide +kernel
theorem dX2_isSame_133 : decode cX2_isSame 133 = .ok (.baload, 1) := by decide +kernel
theorem dX2_isSame_134 : decode cX2_isSame 134 = .ok (.ifCond .ne 6, 3) := by decide +kernel
theorem dX2_isSame_137 : decode cX2_isSame 137 = .ok (.goto 81, 3) := by decide +kernel
theorem dX2_isSame_140 : decode cX2_isSame 140 = .ok (.aload 5, 2) := by decide +kernel
theorem dX2_isSame_142 : decode cX2_isSame 142 = .ok (.aload_n 0, 1) := by decide +kernel
theorem dX2_isSame_143 : decode cX2_isSame 143 = .ok (.getfield 20, 3) := by decide +kernel
theorem dX2_isSame_146 : decode cX2_isSame 146 = .ok (.iload 7, 2) := by decide +kernel
theorem dX2_isSame_148 : decode cX2_isSame 148 = .ok (.aaload, 1) := by decide +kernel
theorem dX2_isSame_149 : decode cX2_isSame 149 = .ok (.iload_n 3, 1) := by decide +kernel
theorem dX2_isSame_150 : decode cX2_isSame 150 = .ok (.iaload, 1) := by decide +kernel
theorem dX2_isSame_151 : decode cX2_isSame 151 = .ok (.dup2, 1) := by decide +kernel
theorem dX2_isSame_152 : decode cX2_isSame 152 = .ok (.iaload, 1) := by decide +kernel
theorem dX2_isSame_153 : decode cX2_isSame 153 = .ok (.iconst 1, 1) := by decide +kernel
theorem dX2_isSame_154 : decode cX2_isSame 154 = .ok (.iadd, 1) := by decide +kernel
theorem dX2_isSame_155 : decode cX2_isSame 155 = .ok (.iastore, 1) := by decide +kernel
theorem dX2_isSame_156 : decode cX2_isSame 156 = .ok (.aload_n 0, 1) := by decide +kernel
theorem dX2_isSame_157 : decode cX2_isSame 157 = .ok (.iload_n 3, 1) := by decide +kernel
theorem dX2_isSame_158 : decode cX2_isSame 158 = .ok (.aload_n 0, 1) := by decide +kernel
theorem dX2_isSame_159 : decode cX2_isSame 159 = .ok (.getfield 7, 3) := by decide +kernel
theorem dX2_isSame_162 : decode cX2_isSame 162 = .ok (.aload_n 0, 1) := by decide +kernel
theorem dX2_isSame_163 : decode cX2_isSame 163 = .ok (.getfield 20, 3) := by decide +kernel
theorem dX2_isSame_166 : decode cX2_isSame 166 = .ok (.iload 7, 2) := by decide +kernel
theorem dX2_isSame_168 : decode cX2_isSame 168 = .ok (.aaload, 1) := by decide +kernel
theorem dX2_isSame_169 : decode cX2_isSame 169 = .ok (.invokevirtual 36, 3) := by decide +kernel
theorem dX2_isSame_172 : decode cX2_isSame 172 = .ok (.ifCond .ne 6, 3) := by decide +kernel
theorem dX2_isSame_175 : decode cX2_isSame 175 = .ok (.goto 43, 3) := by decide +kernel
theorem dX2_isSame_178 : decode cX2_isSame 178 = .ok (.iinc 4 1, 3) := by decide +kernel
theorem dX2_isSame_181 : decode cX2_isSame 181 = .ok (.iconst 0, 1) := by decide +kernel
theorem dX2_isSame_182 : decode cX2_isSame 182 = .ok (.istore 8, 2) := by decide +kernel
theorem dX2_isSame_184 : decode cX2_isSame 184 = .ok (.iload 8, 2) := by decide +kernel
theorem dX2_isSame_186 : decode cX2_isSame 186 = .ok (.aload_n 0, 1) := by decide +kernel
theorem dX2_isSame_187 : decode cX2_isSame 187 = .ok (.getfield 27, 3) := by decide +kernel
theorem dX2_isSame_190 : decode cX2_isSame 190 = .ok (.if_icmp .ge 28, 3) := by decide +kernel
theorem dX2_isSame_193 : decode cX2_isSame 193 = .ok (.aload 6, 2) := by decide +kernel
theorem dX2_isSame_195 : decode cX2_isSame 195 = .ok (.iconst 3, 1) := by decide +kernel
theorem dX2_isSame_196 : decode cX2_isSame 196 = .ok (.iload 8, 2) := by decide +kernel
theorem dX2_isSame_198 : decode cX2_isSame 198 = .ok (.imul, 1) := by decide +kernel
theorem dX2_isSame_199 : decode cX2_isSame 199 = .ok (.aload_n 0, 1) := by decide +kernel
theorem dX2_isSame_200 : decode cX2_isSame 200 = .ok (.getfield 20, 3) := by decide +kernel
theorem dX2_isSame_203 : decode cX2_isSame 203 = .ok (.iload 7, 2) := by decide +kernel
theorem dX2_isSame_205 : decode cX2_isSame 205 = .ok (.aaload, 1) := by decide +kernel
theorem dX2_isSame_206 : decode cX2_isSame 206 = .ok (.iload 8, 2) := by decide +kernel
theorem dX2_isSame_208 : decode cX2_isSame 208 = .ok (.iaload, 1) := by decide +kernel
theorem dX2_isSame_209 : decode cX2_isSame 209 = .ok (.iadd, 1) := by decide +kernel
theorem dX2_isSame_210 : decode cX2_isSame 210 = .ok (.iconst 1, 1) := by decide +kernel
theorem dX2_isSame_211 : decode cX2_isSame 211 = .ok (.bastore, 1) := by decide +kernel
theorem dX2_isSame_212 : decode cX2_isSame 212 = .ok (.iinc 8 1, 3) := by decide +kernel
theorem dX2_isSame_215 : decode cX2_isSame 215 = .ok (.goto (-31), 3) := by decide +kernel
theorem dX2_isSame_218 : decode cX2_isSame 218 = .ok (.iinc 7 1, 3) := by decide +kernel
theorem dX2_isSame_221 : decode cX2_isSame 221 = .ok (.goto (-104), 3) := by decide +kernel
theorem dX2_isSame_224 : decode cX2_isSame 224 = .ok (.iload_n 2, 1) := by decide +kernel
theorem dX2_isSame_225 : decode cX2_isSame 225 = .ok (.iload 4, 2) := by decide +kernel
theorem dX2_isSame_227 : decode cX2_isSame 227 = .ok (.iadd, 1) := by decide +kernel
theorem dX2_isSame_228 : decode cX2_isSame 228 = .ok (.istore_n 2, 1) := by decide +kernel
theorem dX2_isSame_229 : decode cX2_isSame 229 = .ok (.aload_n 1, 1) := by decide +kernel
theorem dX2_isSame_230 : decode cX2_isSame 230 = .ok (.iload_n 3, 1) := by decide +kernel
theorem dX2_isSame_231 : decode cX2_isSame 231 = .ok (.invokevirtual 91, 3) := by decide +kernel
theorem dX2_isSame_234 : decode cX2_isSame 234 = .ok (.aload_n 0, 1) := by decide +kernel
theorem dX2_isSame_235 : decode cX2_isSame 235 = .ok (.getfield 7, 3) := by decide +kernel
theorem dX2_isSame_238 : decode cX2_isSame 238 = .ok (.iload_n 3, 1) := by decide +kernel
theorem dX2_isSame_239 : decode cX2_isSame 239 = .ok (.iaload, 1) := by decide +kernel
theorem dX2_isSame_240 : decode cX2_isSame 240 = .ok (.if_icmp .ne 60, 3) := by decide +kernel
theorem dX2_isSame_243 : decode cX2_isSame 243 = .ok (.aload_n 1, 1) := by decide +kernel
theorem dX2_isSame_244 : decode cX2_isSame 244 = .ok (.iload_n 3, 1) := by decide +kernel
theorem dX2_isSame_245 : decode cX2_isSame 245 = .ok (.invokevirtual 95, 3) := by decide +kernel
theorem dX2_isSame_248 : decode cX2_isSame 248 = .ok (.iload 4, 2) := by decide +kernel
theorem dX2_isSame_250 : decode cX2_isSame 250 = .ok (.if_icmp .ne 50, 3) := by decide +kernel
theorem dX2_isSame_253 : decode cX2_isSame 253 = .ok (.aload_n 1, 1) := by decide +kernel
theorem dX2_isSame_254 : decode cX2_isSame 254 = .ok (.iload_n 3, 1) := by decide +kernel
theorem dX2_isSame_255 : decode cX2_isSame 255 = .ok (.invokevirtual 98, 3) := by decide +kernel
theorem dX2_isSame_258 : decode cX2_isSame 258 = .ok (.aload_n 0, 1) := by decide +kernel
theorem dX2_isSame_259 : decode cX2_isSame 259 = .ok (.iload_n 3, 1) := by decide +kernel
theorem dX2_isSame_260 : decode cX2_isSame 260 = .ok (.iload_n 3, 1) := by decide +kernel
theorem dX2_isSame_261 : decode cX2_isSame 261 = .ok (.aload_n 0, 1) := by decide +kernel
theorem dX2_isSame_262 : decode cX2_isSame 262 = .ok (.getfield 7, 3) := by decide +kernel
theorem dX2_isSame_265 : decode cX2_isSame 265 = .ok (.invokevirtual 43, 3) := by decide +kernel
theorem dX2_isSame_268 : decode cX2_isSame 268 = .ok (.if_icmp .ne 32, 3) := by decide +kernel
theorem dX2_isSame_271 : decode cX2_isSame 271 = .ok (.aload_n 1, 1) := by decide +kernel
theorem dX2_isSame_272 : decode cX2_isSame 272 = .ok (.iload_n 3, 1) := by decide +kernel
theorem dX2_isSame_273 : decode cX2_isSame 273 = .ok (.invokevirtual 102, 3) := by decide +kernel
theorem dX2_isSame_276 : decode cX2_isSame 276 = .ok (.aload 5, 2) := by decide +kernel
theorem dX2_isSame_278 : decode cX2_isSame 278 = .ok (.aload_n 0, 1) := by decide +kernel
theorem dX2_isSame_279 : decode cX2_isSame 279 = .ok (.getfield 7, 3) := by decide +kernel
theorem dX2_isSame_282 : decode cX2_isSame 282 = .ok (.iload_n 3, 1) := by decide +kernel
theorem dX2_isSame_283 : decode cX2_isSame 283 = .ok (.iaload, 1) := by decide +kernel
theorem dX2_isSame_284 : decode cX2_isSame 284 = .ok (.iaload, 1) := by decide +kernel
theorem dX2_isSame_285 : decode cX2_isSame 285 = .ok (.aload_n 0, 1) := by decide +kernel
theorem dX2_isSame_286 : decode cX2_isSame 286 = .ok (.invokevirtual 58, 3) := by decide +kernel
theorem dX2_isSame_289 : decode cX2_isSame 289 = .ok (.if_icmp .ne 7, 3) := by decide +kernel
theorem dX2_isSame_292 : decode cX2_isSame 292 = .ok (.iconst 1, 1) := by decide +kernel
theorem dX2_isSame_293 : decode cX2_isSame 293 = .ok (.goto 4, 3) := by decide +kernel
theorem dX2_isSame_296 : decode cX2_isSame 296 = .ok (.iconst 0, 1) := by decide +kernel
theorem dX2_isSame_297 : decode cX2_isSame 297 = .ok (.if_icmp .eq 5, 3) := by decide +kernel
theorem dX2_isSame_300 : decode cX2_isSame 300 = .ok (.iconst 0, 1) := by decide +kernel
theorem dX2_isSame_301 : decode cX2_isSame 301 = .ok (.ireturn, 1) := by decide +kernel
theorem dX2_isSame_302 : decode cX2_isSame 302 = .ok (.iconst 0, 1) := by decide +kernel
theorem dX2_isSame_303 : decode cX2_isSame 303 = .ok (.istore 7, 2) := by decide +kernel
theorem dX2_isSame_305 : decode cX2_isSame 305 = .ok (.iload 7, 2) := by decide +kernel
theorem dX2_isSame_307 : decode cX2_isSame 307 = .ok (.iconst 3, 1) := by decide +kernel
theorem dX2_isSame_308 : decode cX2_isSame 308 = .ok (.if_icmp .ge 26, 3) := by decide +kernel
theorem dX2_isSame_311 : decode cX2_isSame 311 = .ok (.aload_n 1, 1) := by decide +kernel
theorem dX2_isSame_312 : decode cX2_isSame 312 = .ok (.iload_n 3, 1) := by decide +kernel
theorem dX2_isSame_313 : decode cX2_isSame 313 = .ok (.iload 7, 2) := by decide +kernel
theorem dX2_isSame_315 : decode cX2_isSame 315 = .ok (.invokevirtual 105, 3) := by decide +kernel
theorem dX2_isSame_318 : decode cX2_isSame 318 = .ok (.aload 5, 2) := by decide +kernel
theorem dX2_isSame_320 : decode cX2_isSame 320 = .ok (.iload 7, 2) := by decide +kernel
theorem dX2_isSame_322 : decode cX2_isSame 322 = .ok (.iaload, 1) := by decide +kernel
theorem dX2_isSame_323 : decode cX2_isSame 323 = .ok (.if_icmp .eq 5, 3) := by decide +kernel
theorem dX2_isSame_326 : decode cX2_isSame 326 = .ok (.iconst 0, 1) := by decide +kernel
theorem dX2_isSame_327 : decode cX2_isSame 327 = .ok (.ireturn, 1) := by decide +kernel
theorem dX2_isSame_328 : decode cX2_isSame 328 = .ok (.iinc 7 1, 3) := by decide +kernel
theorem dX2_isSame_331 : decode cX2_isSame 331 = .ok (.goto (-26), 3) := by decide +kernel
theorem dX2_isSame_334 : decode cX2_isSame 334 = .ok (.iconst 0, 1) := by decide +kernel
theorem dX2_isSame_335 : decode cX2_isSame 335 = .ok (.istore 7, 2) := by decide +kernel
theorem dX2_isSame_337 : decode cX2_isSame 337 = .ok (.iload 7, 2) := by decide +kernel
theorem dX2_isSame_339 : decode cX2_isSame 339 = .ok (.aload_n 0, 1) := by decide +kernel
theorem dX2_isSame_340 : decode cX2_isSame 340 = .ok (.getfield 27, 3) := by decide +kernel
theorem dX2_isSame_343 : decode cX2_isSame 343 = .ok (.if_icmp .ge 90, 3) := by decide +kernel
theorem dX2_isSame_346 : decode cX2_isSame 346 = .ok (.aload_n 1, 1) := by decide +kernel
theorem dX2_isSame_347 : decode cX2_isSame 347 = .ok (.iload_n 3, 1) := by decide +kernel
theorem dX2_isSame_348 : decode cX2_isSame 348 = .ok (.iload 7, 2) := by decide +kernel
theorem dX2_isSame_350 : decode cX2_isSame 350 = .ok (.invokevirtual 109, 3) := by decide +kernel
theorem dX2_isSame_353 : decode cX2_isSame 353 = .ok (.aload_n 0, 1) := by decide +kernel
theorem dX2_isSame_354 : decode cX2_isSame 354 = .ok (.getfield 15, 3) := by decide +kernel
theorem dX2_isSame_357 : decode cX2_isSame 357 = .ok (.iload_n 3, 1) := by decide +kernel
theorem dX2_isSame_358 : decode cX2_isSame 358 = .ok (.aaload, 1) := by decide +kernel
theorem dX2_isSame_359 : decode cX2_isSame 359 = .ok (.iload 7, 2) := by decide +kernel
theorem dX2_isSame_361 : decode cX2_isSame 361 = .ok (.baload, 1) := by decide +kernel
theorem dX2_isSame_362 : decode cX2_isSame 362 = .ok (.if_icmp .ne 24, 3) := by decide +kernel
theorem dX2_isSame_365 : decode cX2_isSame 365 = .ok (.aload_n 1, 1) := by decide +kernel
theorem dX2_isSame_366 : decode cX2_isSame 366 = .ok (.iload_n 3, 1) := by decide +kernel
theorem dX2_isSame_367 : decode cX2_isSame 367 = .ok (.iload 7, 2) := by decide +kernel
theorem dX2_isSame_369 : decode cX2_isSame 369 = .ok (.invokevirtual 112, 3) := by decide +kernel
theorem dX2_isSame_372 : decode cX2_isSame 372 = .ok (.aload_n 0, 1) := by decide +kernel
theorem dX2_isSame_373 : decode cX2_isSame 373 = .ok (.iload_n 3, 1) := by decide +kernel
theorem dX2_isSame_374 : decode cX2_isSame 374 = .ok (.iload 7, 2) := by decide +kernel
theorem dX2_isSame_376 : decode cX2_isSame 376 = .ok (.aload_n 0, 1) := by decide +kernel
theorem dX2_isSame_377 : decode cX2_isSame 377 = .ok (.getfield 7, 3) := by decide +kernel
theorem dX2_isSame_380 : decode cX2_isSame 380 = .ok (.invokevirtual 43, 3) := by decide +kernel
theorem dX2_isSame_383 : decode cX2_isSame 383 = .ok (.if_icmp .eq 5, 3) := by decide +kernel
theorem dX2_isSame_386 : decode cX2_isSame 386 = .ok (.iconst 0, 1) := by decide +kernel
theorem dX2_isSame_387 : decode cX2_isSame 387 = .ok (.ireturn, 1) := by decide +kernel
theorem dX2_isSame_388 : decode cX2_isSame 388 = .ok (.iconst 0, 1) := by decide +kernel
theorem dX2_isSame_389 : decode cX2_isSame 389 = .ok (.istore 8, 2) := by decide +kernel
theorem dX2_isSame_391 : decode cX2_isSame 391 = .ok (.iload 8, 2) := by decide +kernel
theorem dX2_isSame_393 : decode cX2_isSame 393 = .ok (.iconst 3, 1) := by decide +kernel
theorem dX2_isSame_394 : decode cX2_isSame 394 = .ok (.if_icmp .ge 33, 3) := by decide +kernel
theorem dX2_isSame_397 : decode cX2_isSame 397 = .ok (.aload_n 1, 1) := by decide +kernel
theorem dX2_isSame_398 : decode cX2_isSame 398 = .ok (.iload_n 3, 1) := by decide +kernel
theorem dX2_isSame_399 : decode cX2_isSame 399 = .ok (.iload 7, 2) := by decide +kernel
theorem dX2_isSame_401 : decode cX2_isSame 401 = .ok (.iload 8, 2) := by decide +kernel
theorem dX2_isSame_403 : decode cX2_isSame 403 = .ok (.invokevirtual 115, 3) := by decide +kernel
theorem dX2_isSame_406 : decode cX2_isSame 406 = .ok (.aload 6, 2) := by decide +kernel
theorem dX2_isSame_408 : decode cX2_isSame 408 = .ok (.iconst 3, 1) := by decide +kernel
theorem dX2_isSame_409 : decode cX2_isSame 409 = .ok (.iload 7, 2) := by decide +kernel
theorem dX2_isSame_411 : decode cX2_isSame 411 = .ok (.imul, 1) := by decide +kernel
theorem dX2_isSame_412 : decode cX2_isSame 412 = .ok (.iload 8, 2) := by decide +kernel
theorem dX2_isSame_414 : decode cX2_isSame 414 = .ok (.iadd, 1) := by decide +kernel
theorem dX2_isSame_415 : decode cX2_isSame 415 = .ok (.baload, 1) := by decide +kernel
theorem dX2_isSame_416 : decode cX2_isSame 416 = .ok (.if_icmp .eq 5, 3) := by decide +kernel
theorem dX2_isSame_419 : decode cX2_isSame 419 = .ok (.iconst 0, 1) := by decide +kernel
theorem dX2_isSame_420 : decode cX2_isSame 420 = .ok (.ireturn, 1) := by decide +kernel
theorem dX2_isSame_421 : decode cX2_isSame 421 = .ok (.iinc 8 1, 3) := by decide +kernel
theorem dX2_isSame_424 : decode cX2_isSame 424 = .ok (.goto (-33), 3) := by decide +kernel
theorem dX2_isSame_427 : decode cX2_isSame 427 = .ok (.iinc 7 1, 3) := by decide +kernel
theorem dX2_isSame_430 : decode cX2_isSame 430 = .ok (.goto (-93), 3) := by decide +kernel
theorem dX2_isSame_433 : decode cX2_isSame 433 = .ok (.iinc 3 1, 3) := by decide +kernel
theorem dX2_isSame_436 : decode cX2_isSame 436 = .ok (.goto (-348), 3) := by decide +kernel
theorem dX2_isSame_439 : decode cX2_isSame 439 = .ok (.iconst 0, 1) := by decide +kernel
theorem dX2_isSame_440 : decode cX2_isSame 440 = .ok (.istore_n 3, 1) := by decide +kernel
theorem dX2_isSame_441 : decode cX2_isSame 441 = .ok (.iload_n 3, 1) := by decide +kernel
theorem dX2_isSame_442 : decode cX2_isSame 442 = .ok (.iconst 3, 1) := by decide +kernel
theorem dX2_isSame_443 : decode cX2_isSame 443 = .ok (.if_icmp .ge 28, 3) := by decide +kernel
theorem dX2_isSame_446 : decode cX2_isSame 446 = .ok (.aload_n 1, 1) := by decide +kernel
theorem dX2_isSame_447 : decode cX2_isSame 447 = .ok (.iload_n 3, 1) := by decide +kernel
theorem dX2_isSame_448 : decode cX2_isSame 448 = .ok (.invokevirtual 119, 3) := by decide +kernel
theorem dX2_isSame_451 : decode cX2_isSame 451 = .ok (.aload_n 0, 1) := by decide +kernel
theorem dX2_isSame_452 : decode cX2_isSame 452 = .ok (.aload_n 0, 1) := by decide +kernel
theorem dX2_isSame_453 : decode cX2_isSame 453 = .ok (.getfield 7, 3) := by decide +kernel
theorem dX2_isSame_456 : decode cX2_isSame 456 = .ok (.iload_n 3, 1) := by decide +kernel
theorem dX2_isSame_457 : decode cX2_isSame 457 = .ok (.invokevirtual 54, 3) := by decide +kernel
theorem dX2_isSame_460 : decode cX2_isSame 460 = .ok (.if_icmp .eq 5, 3) := by decide +kernel
theorem dX2_isSame_463 : decode cX2_isSame 463 = .ok (.iconst 0, 1) := by decide +kernel
theorem dX2_isSame_464 : decode cX2_isSame 464 = .ok (.ireturn, 1) := by decide +kernel
theorem dX2_isSame_465 : decode cX2_isSame 465 = .ok (.iinc 3 1, 3) := by decide +kernel
theorem dX2_isSame_468 : decode cX2_isSame 468 = .ok (.goto (-27), 3) := by decide +kernel
theorem dX2_isSame_471 : decode cX2_isSame 471 = .ok (.aload_n 1, 1) := by decide +kernel
theorem dX2_isSame_472 : decode cX2_isSame 472 = .ok (.invokevirtual 122, 3) := by decide +kernel
theorem dX2_isSame_475 : decode cX2_isSame 475 = .ok (.aload_n 0, 1) := by decide +kernel
theorem dX2_isSame_476 : decode cX2_isSame 476 = .ok (.getfield 27, 3) := by decide +kernel
theorem dX2_isSame_479 : decode cX2_isSame 479 = .ok (.ifCond .ne 7, 3) := by decide +kernel
theorem dX2_isSame_482 : decode cX2_isSame 482 = .ok (.dconst 0, 1) := by decide +kernel
theorem dX2_isSame_483 : decode cX2_isSame 483 = .ok (.goto 11, 3) := by decide +kernel
theorem dX2_isSame_486 : decode cX2_isSame 486 = .ok (.iload_n 2, 1) := by decide +kernel
theorem dX2_isSame_487 : decode cX2_isSame 487 = .ok (.i2d, 1) := by decide +kernel
theorem dX2_isSame_488 : decode cX2_isSame 488 = .ok (.aload_n 0, 1) := by decide +kernel
theorem dX2_isSame_489 : decode cX2_isSame 489 = .ok (.getfield 27, 3) := by decide +kernel
theorem dX2_isSame_492 : decode cX2_isSame 492 = .ok (.i2d, 1) := by decide +kernel
theorem dX2_isSame_493 : decode cX2_isSame 493 = .ok (.ddiv, 1) := by decide +kernel
theorem dX2_isSame_494 : decode cX2_isSame 494 = .ok (.dcmp .l, 1) := by decide +kernel
theorem dX2_isSame_495 : decode cX2_isSame 495 = .ok (.ifCond .ne 7, 3) := by decide +kernel
theorem dX2_isSame_498 : decode cX2_isSame 498 = .ok (.iconst 1, 1) := by decide +kernel
theorem dX2_isSame_499 : decode cX2_isSame 499 = .ok (.goto 4, 3) := by decide +kernel
theorem dX2_isSame_502 : decode cX2_isSame 502 = .ok (.iconst 0, 1) := by decide +kernel
theorem dX2_isSame_503 : decode cX2_isSame 503 = .ok (.ireturn, 1) := by decide +kernel
theorem dJ6_bitCount_0f7a4_0 : decode cJ6_bitCount_0f7a4 0 = .ok (.iload_n 0, 1) := by decide +kernel
theorem dJ6_bitCount_0f7a4_1 : decode cJ6_bitCount_0f7a4 1 = .ok (.iload_n 0, 1) := by decide +kernel
theorem dJ6_bitCount_0f7a4_2 : decode cJ6_bitCount_0f7a4 2 = .ok (.iconst 1, 1) := by decide +kernel
theorem dJ6_bitCount_0f7a4_3 : decode cJ6_bitCount_0f7a4 3 = .ok (.iushr, 1) := by decide +kernel
theorem dJ6_bitCount_0f7a4_4 : decode cJ6_bitCount_0f7a4 4 = .ok (.ldc_w 265, 3) := by decide +kernel
theorem dJ6_bitCount_0f7a4_7 : decode cJ6_bitCount_0f7a4 7 = .ok (.iand, 1) := by decide +kernel
theorem dJ6_bitCount_0f7a4_8 : decode cJ6_bitCount_0f7a4 8 = .ok (.isub, 1) := by decide +kernel
theorem dJ6_bitCount_0f7a4_9 : decode cJ6_bitCount_0f7a4 9 = .ok (.istore_n 0, 1) := by decide +kernel
theorem dJ6_bitCount_0f7a4_10 : decode cJ6_bitCount_0f7a4 10 = .ok (.iload_n 0, 1) := by decide +kernel
theorem dJ6_bitCount_0f7a4_11 : decode cJ6_bitCount_0f7a4 11 = .ok (.ldc_w 266, 3) := by decide +kernel
theorem dJ6_bitCount_0f7a4_14 : decode cJ6_bitCount_0f7a4 14 = .ok (.iand, 1) := by decide +kernel
theorem dJ6_bitCount_0f7a4_15 : decode cJ6_bitCount_0f7a4 15 = .ok (.iload_n 0, 1) := by decide +kernel
theorem dJ6_bitCount_0f7a4_16 : decode cJ6_bitCount_0f7a4 16 = .ok (.iconst 2, 1) := by decide +kernel
theorem dJ6_bitCount_0f7a4_17 : decode cJ6_bitCount_0f7a4 17 = .ok (.iushr, 1) := by decide +kernel
theorem dJ6_bitCount_0f7a4_18 : decode cJ6_bitCount_0f7a4 18 = .ok (.ldc_w 266, 3) := by decide +kernel
theorem dJ6_bitCount_0f7a4_21 : decode cJ6_bitCount_0f7a4 21 = .ok (.iand, 1) := by decide +kernel
theorem dJ6_bitCount_0f7a4_22 : decode cJ6_bitCount_0f7a4 22 = .ok (.iadd, 1) := by decide +kernel
theorem dJ6_bitCount_0f7a4_23 : decode cJ6_bitCount_0f7a4 23 = .ok (.istore_n 0, 1) := by decide +kernel
theorem dJ6_bitCount_0f7a4_24 : decode cJ6_bitCount_0f7a4 24 = .ok (.iload_n 0, 1) := by decide +kernel
theorem dJ6_bitCount_0f7a4_25 : decode cJ6_bitCount_0f7a4 25 = .ok (.iload_n 0, 1) := by decide +kernel
theorem dJ6_bitCount_0f7a4_26 : decode cJ6_bitCount_0f7a4 26 = .ok (.iconst 4, 1) := by decide +kernel
theorem dJ6_bitCount_0f7a4_27 : decode cJ6_bitCount_0f7a4 27 = .ok (.iushr, 1) := by decide +kernel
theorem dJ6_bitCount_0f7a4_28 : decode cJ6_bitCount_0f7a4 28 = .ok (.iadd, 1) := by decide +kernel
theorem dJ6_bitCount_0f7a4_29 : decode cJ6_bitCount_0f7a4 29 = .ok (.ldc_w 267, 3) := by decide +kernel
theorem dJ6_bitCount_0f7a4_32 : decode cJ6_bitCount_0f7a4 32 = .ok (.iand, 1) := by decide +kernel
theorem dJ6_bitCount_0f7a4_33 : decode cJ6_bitCount_0f7a4 33 = .ok (.istore_n 0, 1) := by decide +kernel
theorem dJ6_bitCount_0f7a4_34 : decode cJ6_bitCount_0f7a4 34 = .ok (.iload_n 0, 1) := by decide +kernel
theorem dJ6_bitCount_0f7a4_35 : decode cJ6_bitCount_0f7a4 35 = .ok (.iload_n 0, 1) := by decide +kernel
theorem dJ6_bitCount_0f7a4_36 : decode cJ6_bitCount_0f7a4 36 = .ok (.bipush 8, 2) := by decide +kernel
theorem dJ6_bitCount_0f7a4_38 : decode cJ6_bitCount_0f7a4 38 = .ok (.iushr, 1) := by decide +kernel
theorem dJ6_bitCount_0f7a4_39 : decode cJ6_bitCount_0f7a4 39 = .ok (.iadd, 1) := by decide +kernel
theorem dJ6_bitCount_0f7a4_40 : decode cJ6_bitCount_0f7a4 40 = .ok (.istore_n 0, 1) := by decide +kernel
theorem dJ6_bitCount_0f7a4_41 : decode cJ6_bitCount_0f7a4 41 = .ok (.iload_n 0, 1) := by decide +kernel
theorem dJ6_bitCount_0f7a4_42 : decode cJ6_bitCount_0f7a4 42 = .ok (.iload_n 0, 1) := by decide +kernel
theorem dJ6_bitCount_0f7a4_43 : decode cJ6_bitCount_0f7a4 43 = .ok (.bipush 16, 2) := by decide +kernel
theorem dJ6_bitCount_0f7a4_45 : decode cJ6_bitCount_0f7a4 45 = .ok (.iushr, 1) := by decide +kernel
theorem dJ6_bitCount_0f7a4_46 : decode cJ6_bitCount_0f7a4 46 = .ok (.iadd, 1) := by decide +kernel
theorem dJ6_bitCount_0f7a4_47 : decode cJ6_bitCount_0f7a4 47 = .ok (.istore_n 0, 1) := by decide +kernel
theorem dJ6_bitCount_0f7a4_48 : decode cJ6_bitCount_0f7a4 48 = .ok (.iload_n 0, 1) := by decide +kernel
theorem dJ6_bitCount_0f7a4_49 : decode cJ6_bitCount_0f7a4 49 = .ok (.bipush 63, 2) := by decide +kernel
theorem dJ6_bitCount_0f7a4_51 : decode cJ6_bitCount_0f7a4 51 = .ok (.iand, 1) := by decide +kernel
theorem dJ6_bitCount_0f7a4_52 : decode cJ6_bitCount_0f7a4 52 = .ok (.ireturn, 1) := by decide +kernel
theorem dJ9_max_7cf53_0 : decode cJ9_max_7cf53 0 = .ok (.iload_n 0, 1) := by decide +kernel
theorem dJ9_max_7cf53_1 : decode cJ9_max_7cf53 1 = .ok (.iload_n 1, 1) := by decide +kernel
theorem dJ9_max_7cf53_2 : decode cJ9_max_7cf53 2 = .ok (.if_icmp .lt 7, 3) := by decide +kernel
theorem dJ9_max_7cf53_5 : decode cJ9_max_7cf53 5 = .ok (.iload_n 0, 1) := by decide +kernel
theorem dJ9_max_7cf53_6 : decode cJ9_max_7cf53 6 = .ok (.goto 4, 3) := by decide +kernel
theorem dJ9_max_7cf53_9 : decode cJ9_max_7cf53 9 = .ok (.iload_n 1, 1) := by decide +kernel
theorem dJ9_max_7cf53_10 : decode cJ9_max_7cf53 10 = .ok (.ireturn, 1) := by decide +kernel
theorem dL_below_0 : decode cL_below 0 = .ok (.iload_n 0, 1) := by decide +kernel
theorem dL_below_1 : decode cL_below 1 = .ok (.ldc 7, 2) := by decide +kernel
theorem dL_below_3 : decode cL_below 3 = .ok (.iand, 1) := by decide +kernel
theorem dL_below_4 : decode cL_below 4 = .ok (.iload_n 1, 1) := by decide +kernel
theorem dL_below_5 : decode cL_below 5 = .ok (.irem, 1) := by decide +kernel
theorem dL_below_6 : decode cL_below 6 = .ok (.ireturn, 1) := by decide +kernel
theorem dL_cell_0 : decode cL_cell 0 = .ok (.iload_n 1, 1) := by decide +kernel
theorem dL_cell_1 : decode cL_cell 1 = .ok (.aload_n 0, 1) := by decide +kernel
theorem dL_cell_2 : decode cL_cell 2 = .ok (.arraylength, 1) := by decide +kernel
theorem dL_cell_3 : decode cL_cell 3 = .ok (.if_icmp .ge 9, 3) := by decide +kernel
theorem dL_cell_6 : decode cL_cell 6 = .ok (.aload_n 0, 1) := by decide +kernel
theorem dL_cell_7 : decode cL_cell 7 = .ok (.iload_n 1, 1) := by decide +kernel
theorem dL_cell_8 : decode cL_cell 8 = .ok (.iaload, 1) := by decide +kernel
theorem dL_cell_9 : decode cL_cell 9 = .ok (.goto 9, 3) := by decide +kernel
theorem dL_cell_12 : decode cL_cell 12 = .ok (.ldc 8, 2) := by decide +kernel
theorem dL_cell_14 : decode cL_cell 14 = .ok (.iload_n 1, 1) := by decide +kernel
theorem dL_cell_15 : decode cL_cell 15 = .ok (.iconst 3, 1) := by decide +kernel
theorem dL_cell_16 : decode cL_cell 16 = .ok (.iadd, 1) := by decide +kernel
theorem dL_cell_17 : decode cL_cell 17 = .ok (.imul, 1) := by decide +kernel
theorem dL_cell_18 : decode cL_cell 18 = .ok (.ireturn, 1) := by decide +kernel
theorem dL_act_0 : decode cL_act 0 = .ok (.aload_n 1, 1) := by decide +kernel
theorem dL_act_1 : decode cL_act 1 = .ok (.getfield 9, 3) := by decide +kernel
theorem dL_act_4 : decode cL_act 4 = .ok (.istore_n 3, 1) := by decide +kernel
theorem dL_act_5 : decode cL_act 5 = .ok (.iload_n 2, 1) := by decide +kernel
theorem dL_act_6 : decode cL_act 6 = .ok (.bipush 9, 2) := by decide +kernel
theorem dL_act_8 : decode cL_act 8 = .ok (.ishr, 1) := by decide +kernel
theorem dL_act_9 : decode cL_act 9 = .ok (.bipush 14, 2) := by decide +kernel
theorem dL_act_11 : decode cL_act 11 = .ok (.invokestatic 15, 3) := by decide +kernel
theorem dL_act_14 : decode cL_act 14 = .ok (.istore 4, 2) := by decide +kernel
theorem dL_act_16 : decode cL_act 16 = .ok (.iload_n 3, 1) := by decide +kernel
theorem dL_act_17 : decode cL_act 17 = .ok (.ifCond .eq 9, 3) := by decide +kernel
theorem dL_act_20 : decode cL_act 20 = .ok (.iload 4, 2) := by decide +kernel
theorem dL_act_22 : decode cL_act 22 = .ok (.iconst 3, 1) := by decide +kernel
theorem dL_act_23 : decode cL_act 23 = .ok (.if_icmp .ge 48, 3) := by decide +kernel
theorem dL_act_26 : decode cL_act 26 = .ok (.iload_n 3, 1) := by decide +kernel
theorem dL_act_27 : decode cL_act 27 = .ok (.iconst 5, 1) := by decide +kernel
theorem dL_act_28 : decode cL_act 28 = .ok (.if_icmp .eq 10, 3) := by decide +kernel
theorem dL_act_31 : decode cL_act 31 = .ok (.aload_n 1, 1) := by decide +kernel
theorem dL_act_32 : decode cL_act 32 = .ok (.getfield 21, 3) := by decide +kernel
theorem dL_act_35 : decode cL_act 35 = .ok (.ifCond .eq 5, 3) := by decide +kernel
theorem dL_act_38 : decode cL_act 38 = .ok (.iconst 1, 1) := by decide +kernel
theorem dL_act_39 : decode cL_act 39 = .ok (.ireturn, 1) := by decide +kernel
theorem dL_act_40 : decode cL_act 40 = .ok (.iload_n 2, 1) := by decide +kernel
theorem dL_act_41 : decode cL_act 41 = .ok (.iconst 2, 1) := by decide +kernel
theorem dL_act_42 : decode cL_act 42 = .ok (.ishr, 1) := by decide +kernel
theorem dL_act_43 : decode cL_act 43 = .ok (.iconst 3, 1) := by decide +kernel
theorem dL_act_44 : decode cL_act 44 = .ok (.invokestatic 15, 3) := by decide +kernel
theorem dL_act_47 : decode cL_act 47 = .ok (.istore 5, 2) := by decide +kernel
theorem dL_act_49 : decode cL_act 49 = .ok (.aload_n 1, 1) := by decide +kernel
theorem dL_act_50 : decode cL_act 50 = .ok (.iload 5, 2) := by decide +kernel
theorem dL_act_52 : decode cL_act 52 = .ok (.invokevirtual 25, 3) := by decide +kernel
theorem dL_act_55 : decode cL_act 55 = .ok (.aload_n 0, 1) := by decide +kernel
theorem dL_act_56 : decode cL_act 56 = .ok (.iload 5, 2) := by decide +kernel
theorem dL_act_58 : decode cL_act 58 = .ok (.invokevirtual 29, 3) := by decide +kernel
theorem dL_act_61 : decode cL_act 61 = .ok (.iload_n 3, 1) := by decide +kernel
theorem dL_act_62 : decode cL_act 62 = .ok (.if_icmp .ne 7, 3) := by decide +kernel
theorem dL_act_65 : decode cL_act 65 = .ok (.iconst 1, 1) := by decide +kernel
theorem dL_act_66 : decode cL_act 66 = .ok (.goto 4, 3) := by decide +kernel
theorem dL_act_69 : decode cL_act 69 = .ok (.iconst 0, 1) := by decide +kernel
theorem dL_act_70 : decode cL_act 70 = .ok (.ireturn, 1) := by decide +kernel
theorem dL_act_71 : decode cL_act 71 = .ok (.iload_n 2, 1) := by decide +kernel
theorem dL_act_72 : decode cL_act 72 = .ok (.iconst 1, 1) := by decide +kernel
theorem dL_act_73 : decode cL_act 73 = .ok (.ishr, 1) := by decide +kernel
theorem dL_act_74 : decode cL_act 74 = .ok (.iload_n 3, 1) := by decide +kernel
theorem dL_act_75 : decode cL_act 75 = .ok (.invokestatic 15, 3) := by decide +kernel
theorem dL_act_78 : decode cL_act 78 = .ok (.istore 5, 2) := by decide +kernel
theorem dL_act_80 : decode cL_act 80 = .ok (.iload 5, 2) := by decide +kernel
theorem dL_act_82 : decode cL_act 82 = .ok (.iconst 1, 1) := by decide +kernel
theorem dL_act_83 : decode cL_act 83 = .ok (.iadd, 1) := by decide +kernel
theorem dL_act_84 : decode cL_act 84 = .ok (.iload_n 2, 1) := by decide +kernel
theorem dL_act_85 : decode cL_act 85 = .ok (.iconst 3, 1) := by decide +kernel
theorem dL_act_86 : decode cL_act 86 = .ok (.ishr, 1) := by decide +kernel
theorem dL_act_87 : decode cL_act 87 = .ok (.iconst 1, 1) := by decide +kernel
theorem dL_act_88 : decode cL_act 88 = .ok (.iload_n 3, 1) := by decide +kernel
theorem dL_act_89 : decode cL_act 89 = .ok (.iconst 1, 1) := by decide +kernel
theorem dL_act_90 : decode cL_act 90 = .ok (.isub, 1) := by decide +kernel
theorem dL_act_91 : decode cL_act 91 = .ok (.invokestatic 35, 3) := by decide +kernel
theorem dL_act_94 : decode cL_act 94 = .ok (.invokestatic 15, 3) := by decide +kernel
theorem dL_act_97 : decode cL_act 97 = .ok (.iadd, 1) := by decide +kernel
theorem dL_act_98 : decode cL_act 98 = .ok (.iload_n 3, 1) := by decide +kernel
theorem dL_act_99 : decode cL_act 99 = .ok (.irem, 1) := by decide +kernel
theorem dL_act_100 : decode cL_act 100 = .ok (.istore 6, 2) := by decide +kernel
theorem dL_act_102 : decode cL_act 102 = .ok (.iload 4, 2) := by decide +kernel
theorem dL_act_104 : decode cL_act 104 = .ok (.tableswitch 316 3 9 #[44, 44, 106, 145, 145, 205, 269], 44) := by decide +kernel
theorem dL_act_148 : decode cL_act 148 = .ok (.iload_n 3, 1) := by decide +kernel
theorem dL_act_149 : decode cL_act 149 = .ok (.iconst 1, 1) := by decide +kernel
theorem dL_act_150 : decode cL_act 150 = .ok (.if_icmp .ne 5, 3) := by decide +kernel
theorem dL_act_153 : decode cL_act 153 = .ok (.iconst 1, 1) := by decide +kernel
theorem dL_act_154 : decode cL_act 154 = .ok (.ireturn, 1) := by decide +kernel
theorem dL_act_155 : decode cL_act 155 = .ok (.aload_n 1, 1) := by decide +kernel
theorem dL_act_156 : decode cL_act 156 = .ok (.getfield 40, 3) := by decide +kernel
theorem dL_act_159 : decode cL_act 159 = .ok (.iload 5, 2) := by decide +kernel
theorem dL_act_161 : decode cL_act 161 = .ok (.aaload, 1) := by decide +kernel
theorem dL_act_162 : decode cL_act 162 = .ok (.iload 6, 2) := by decide +kernel
theorem dL_act_164 : decode cL_act 164 = .ok (.aload_n 1, 1) := by decide +kernel
theorem dL_act_165 : decode cL_act 165 = .ok (.getfield 40, 3) := by decide +kernel
theorem dL_act_168 : decode cL_act 168 = .ok (.iload 5, 2) := by decide +kernel
theorem dL_act_170 : decode cL_act 170 = .ok (.aaload, 1) := by decide +kernel
theorem dL_act_171 : decode cL_act 171 = .ok (.iload 6, 2) := by decide +kernel
theorem dL_act_173 : decode cL_act 173 = .ok (.baload, 1) := by decide +kernel
theorem dL_act_174 : decode cL_act 174 = .ok (.ifCond .ne 7, 3) := by decide +kernel
theorem dL_act_177 : decode cL_act 177 = .ok (.iconst 1, 1) := by decide +kernel
theorem dL_act_178 : decode cL_act 178 = .ok (.goto 4, 3) := by decide +kernel
theorem dL_act_181 : decode cL_act 181 = .ok (.iconst 0, 1) := by decide +kernel
theorem dL_act_182 : decode cL_act 182 = .ok (.bastore, 1) := by decide +kernel
theorem dL_act_183 : decode cL_act 183 = .ok (.aload_n 0, 1) := by decide +kernel
theorem dL_act_184 : decode cL_act 184 = .ok (.iload 5, 2) := by decide +kernel
theorem dL_act_186 : decode cL_act 186 = .ok (.iload 6, 2) := by decide +kernel
theorem dL_act_188 : decode cL_act 188 = .ok (.invokevirtual 44, 3) := by decide +kernel
theorem dL_act_191 : decode cL_act 191 = .ok (.aload_n 1, 1) := by decide +kernel
theorem dL_act_192 : decode cL_act 192 = .ok (.getfield 40, 3) := by decide +kernel
theorem dL_act_195 : decode cL_act 195 = .ok (.iload 5, 2) := by decide +kernel
theorem dL_act_197 : decode cL_act 197 = .ok (.aaload, 1) := by decide +kernel
theorem dL_act_198 : decode cL_act 198 = .ok (.iload 6, 2) := by decide +kernel
theorem dL_act_200 : decode cL_act 200 = .ok (.baload, 1) := by decide +kernel
theorem dL_act_201 : decode cL_act 201 = .ok (.if_icmp .ne 7, 3) := by decide +kernel
theorem dL_act_204 : decode cL_act 204 = .ok (.iconst 1, 1) := by decide +kernel
theorem dL_act_205 : decode cL_act 205 = .ok (.goto 4, 3) := by decide +kernel
theorem dL_act_208 : decode cL_act 208 = .ok (.iconst 0, 1) := by decide +kernel
theorem dL_act_209 : decode cL_act 209 = .ok (.ireturn, 1) := by decide +kernel
theorem dL_act_210 : decode cL_act 210 = .ok (.iload_n 3, 1) := by decide +kernel
theorem dL_act_211 : decode cL_act 211 = .ok (.iconst 1, 1) := by decide +kernel
theorem dL_act_212 : decode cL_act 212 = .ok (.if_icmp .ne 5, 3) := by decide +kernel
theorem dL_act_215 : decode cL_act 215 = .ok (.iconst 1, 1) := by decide +kernel
theorem dL_act_216 : decode cL_act 216 = .ok (.ireturn, 1) := by decide +kernel
theorem dL_act_217 : decode cL_act 217 = .ok (.aload_n 1, 1) := by decide +kernel
theorem dL_act_218 : decode cL_act 218 = .ok (.iload 5, 2) := by decide +kernel
theorem dL_act_220 : decode cL_act 220 = .ok (.iload 6, 2) := by decide +kernel
theorem dL_act_222 : decode cL_act 222 = .ok (.invokevirtual 48, 3) := by decide +kernel
theorem dL_act_225 : decode cL_act 225 = .ok (.aload_n 0, 1) := by decide +kernel
theorem dL_act_226 : decode cL_act 226 = .ok (.iload 5, 2) := by decide +kernel
theorem dL_act_228 : decode cL_act 228 = .ok (.iload 6, 2) := by decide +kernel
theorem dL_act_230 : decode cL_act 230 = .ok (.invokevirtual 52, 3) := by decide +kernel
theorem dL_act_233 : decode cL_act 233 = .ok (.aload_n 1, 1) := by decide +kernel
theorem dL_act_234 : decode cL_act 234 = .ok (.getfield 54, 3) := by decide +kernel
theorem dL_act_237 : decode cL_act 237 = .ok (.iload 5, 2) := by decide +kernel
theorem dL_act_239 : decode cL_act 239 = .ok (.iaload, 1) := by decide +kernel
theorem dL_act_240 : decode cL_act 240 = .ok (.if_icmp .ne 7, 3) := by decide +kernel
theorem dL_act_243 : decode cL_act 243 = .ok (.iconst 1, 1) := by decide +kernel
theorem dL_act_244 : decode cL_act 244 = .ok (.goto 4, 3) := by decide +kernel
theorem dL_act_247 : decode cL_act 247 = .ok (.iconst 0, 1) := by decide +kernel
theorem dL_act_248 : decode cL_act 248 = .ok (.ireturn, 1) := by decide +kernel
theorem dL_act_249 : decode cL_act 249 = .ok (.iload_n 2, 1) := by decide +kernel
theorem dL_act_250 : decode cL_act 250 = .ok (.iconst 4, 1) := by decide +kernel
theorem dL_act_251 : decode cL_act 251 = .ok (.ishr, 1) := by decide +kernel
theorem dL_act_252 : decode cL_act 252 = .ok (.iconst 3, 1) := by decide +kernel
theorem dL_act_253 : decode cL_act 253 = .ok (.invokestatic 15, 3) := by decide +kernel
theorem dL_act_256 : decode cL_act 256 = .ok (.istore 7, 2) := by decide +kernel
theorem dL_act_258 : decode cL_act 258 = .ok (.aload_n 1, 1) := by decide +kernel
theorem dL_act_259 : decode cL_act 259 = .ok (.aload_n 1, 1) := by decide +kernel
theorem dL_act_260 : decode cL_act 260 = .ok (.getfield 54, 3) := by decide +kernel
theorem dL_act_263 : decode cL_act 263 = .ok (.iload 7, 2) := by decide +kernel
theorem dL_act_265 : decode cL_act 265 = .ok (.invokevirtual 58, 3) := by decide +kernel
theorem dL_act_268 : decode cL_act 268 = .ok (.istore 8, 2) := by decide +kernel
theorem dL_act_270 : decode cL_act 270 = .ok (.iload_n 2, 1) := by decide +kernel
theorem dL_act_271 : decode cL_act 271 = .ok (.bipush 6, 2) := by decide +kernel
theorem dL_act_273 : decode cL_act 273 = .ok (.ishr, 1) := by decide +kernel
theorem dL_act_274 : decode cL_act 274 = .ok (.iload 8, 2) := by decide +kernel
theorem dL_act_276 : decode cL_act 276 = .ok (.iconst 1, 1) := by decide +kernel
theorem dL_act_277 : decode cL_act 277 = .ok (.iadd, 1) := by decide +kernel
theorem dL_act_278 : decode cL_act 278 = .ok (.invokestatic 15, 3) := by decide +kernel
theorem dL_act_281 : decode cL_act 281 = .ok (.istore 9, 2) := by decide +kernel
theorem dL_act_283 : decode cL_act 283 = .ok (.aload_n 0, 1) := by decide +kernel
theorem dL_act_284 : decode cL_act 284 = .ok (.iload 7, 2) := by decide +kernel
theorem dL_act_286 : decode cL_act 286 = .ok (.iload 9, 2) := by decide +kernel
theorem dL_act_288 : decode cL_act 288 = .ok (.invokevirtual 62, 3) := by decide +kernel
theorem dL_act_291 : decode cL_act 291 = .ok (.aload_n 1, 1) := by decide +kernel
theorem dL_act_292 : decode cL_act 292 = .ok (.iload 7, 2) := by decide +kernel
theorem dL_act_294 : decode cL_act 294 = .ok (.iload 9, 2) := by decide +kernel
theorem dL_act_296 : decode cL_act 296 = .ok (.iconst 1, 1) := by decide +kernel
theorem dL_act_297 : decode cL_act 297 = .ok (.invokevirtual 65, 3) := by decide +kernel
theorem dL_act_300 : decode cL_act 300 = .ok (.if_icmp .ne 7, 3) := by decide +kernel
theorem dL_act_303 : decode cL_act 303 = .ok (.iconst 1, 1) := by decide +kernel
theorem dL_act_304 : decode cL_act 304 = .ok (.goto 4, 3) := by decide +kernel
theorem dL_act_307 : decode cL_act 307 = .ok (.iconst 0, 1) := by decide +kernel
theorem dL_act_308 : decode cL_act 308 = .ok (.ireturn, 1) := by decide +kernel
theorem dL_act_309 : decode cL_act 309 = .ok (.iload_n 2, 1) := by decide +kernel
theorem dL_act_310 : decode cL_act 310 = .ok (.iconst 4, 1) := by decide +kernel
theorem dL_act_311 : decode cL_act 311 = .ok (.ishr, 1) := by decide +kernel
theorem dL_act_312 : decode cL_act 312 = .ok (.iconst 3, 1) := by decide +kernel
theorem dL_act_313 : decode cL_act 313 = .ok (.invokestatic 15, 3) := by decide +kernel
theorem dL_act_316 : decode cL_act 316 = .ok (.istore 10, 2) := by decide +kernel
theorem dL_act_318 : decode cL_act 318 = .ok (.aload_n 1, 1) := by decide +kernel
theorem dL_act_319 : decode cL_act 319 = .ok (.aload_n 1, 1) := by decide +kernel
theorem dL_act_320 : decode cL_act 320 = .ok (.getfield 54, 3) := by decide +kernel
theorem dL_act_323 : decode cL_act 323 = .ok (.iload 10, 2) := by decide +kernel
theorem dL_act_325 : decode cL_act 325 = .ok (.invokevirtual 58, 3) := by decide +kernel
theorem dL_act_328 : decode cL_act 328 = .ok (.iload_n 2, 1) := by decide +kernel
theorem dL_act_329 : decode cL_act 329 = .ok (.bipush 6, 2) := by decide +kernel
theorem dL_act_331 : decode cL_act 331 = .ok (.ishr, 1) := by decide +kernel
theorem dL_act_332 : decode cL_act 332 = .ok (.iconst 2, 1) := by decide +kernel
theorem dL_act_333 : decode cL_act 333 = .ok (.invokestatic 15, 3) := by decide +kernel
theorem dL_act_336 : decode cL_act 336 = .ok (.iadd, 1) := by decide +kernel
theorem dL_act_337 : decode cL_act 337 = .ok (.istore 11, 2) := by decide +kernel
theorem dL_act_339 : decode cL_act 339 = .ok (.iload 11, 2) := by decide +kernel
theorem dL_act_341 : decode cL_act 341 = .ok (.iconst 5, 1) := by decide +kernel
theorem dL_act_342 : decode cL_act 342 = .ok (.if_icmp .le 5, 3) := by decide +kernel
theorem dL_act_345 : decode cL_act 345 = .ok (.iconst 1, 1) := by decide +kernel
theorem dL_act_346 : decode cL_act 346 = .ok (.ireturn, 1) := by decide +kernel
theorem dL_act_347 : decode cL_act 347 = .ok (.aload_n 0, 1) := by decide +kernel
theorem dL_act_348 : decode cL_act 348 = .ok (.iload 10, 2) := by decide +kernel
theorem dL_act_350 : decode cL_act 350 = .ok (.iload 11, 2) := by decide +kernel
theorem dL_act_352 : decode cL_act 352 = .ok (.invokevirtual 69, 3) := by decide +kernel
theorem dL_act_355 : decode cL_act 355 = .ok (.aload_n 1, 1) := by decide +kernel
theorem dL_act_356 : decode cL_act 356 = .ok (.iload 10, 2) := by decide +kernel
theorem dL_act_358 : decode cL_act 358 = .ok (.iload 11, 2) := by decide +kernel
theorem dL_act_360 : decode cL_act 360 = .ok (.iconst 0, 1) := by decide +kernel
theorem dL_act_361 : decode cL_act 361 = .ok (.invokevirtual 65, 3) := by decide +kernel
theorem dL_act_364 : decode cL_act 364 = .ok (.if_icmp .ne 7, 3) := by decide +kernel
theorem dL_act_367 : decode cL_act 367 = .ok (.iconst 1, 1) := by decide +kernel
theorem dL_act_368 : decode cL_act 368 = .ok (.goto 4, 3) := by decide +kernel
theorem dL_act_371 : decode cL_act 371 = .ok (.iconst 0, 1) := by decide +kernel
theorem dL_act_372 : decode cL_act 372 = .ok (.ireturn, 1) := by decide +kernel
theorem dL_act_373 : decode cL_act 373 = .ok (.iload_n 2, 1) := by decide +kernel
theorem dL_act_374 : decode cL_act 374 = .ok (.iconst 4, 1) := by decide +kernel
theorem dL_act_375 : decode cL_act 375 = .ok (.invokestatic 15, 3) := by decide +kernel
theorem dL_act_378 : decode cL_act 378 = .ok (.ifCond .le 5, 3) := by decide +kernel
theorem dL_act_381 : decode cL_act 381 = .ok (.iconst 1, 1) := by decide +kernel
theorem dL_act_382 : decode cL_act 382 = .ok (.ireturn, 1) := by decide +kernel
theorem dL_act_383 : decode cL_act 383 = .ok (.aload_n 1, 1) := by decide +kernel
theorem dL_act_384 : decode cL_act 384 = .ok (.invokevirtual 72, 3) := by decide +kernel
theorem dL_act_387 : decode cL_act 387 = .ok (.aload_n 1, 1) := by decide +kernel
theorem dL_act_388 : decode cL_act 388 = .ok (.iconst 0, 1) := by decide +kernel
theorem dL_act_389 : decode cL_act 389 = .ok (.putfield 75, 3) := by decide +kernel
theorem dL_act_392 : decode cL_act 392 = .ok (.aload_n 1, 1) := by decide +kernel
theorem dL_act_393 : decode cL_act 393 = .ok (.iconst 0, 1) := by decide +kernel
theorem dL_act_394 : decode cL_act 394 = .ok (.putfield 78, 3) := by decide +kernel
theorem dL_act_397 : decode cL_act 397 = .ok (.aload_n 1, 1) := by decide +kernel
theorem dL_act_398 : decode cL_act 398 = .ok (.iconst 0, 1) := by decide +kernel
theorem dL_act_399 : decode cL_act 399 = .ok (.putfield 21, 3) := by decide +kernel
theorem dL_act_402 : decode cL_act 402 = .ok (.aload_n 0, 1) := by decide +kernel
theorem dL_act_403 : decode cL_act 403 = .ok (.invokevirtual 81, 3) := by decide +kernel
theorem dL_act_406 : decode cL_act 406 = .ok (.aload_n 1, 1) := by decide +kernel
theorem dL_act_407 : decode cL_act 407 = .ok (.getfield 85, 3) := by decide +kernel
theorem dL_act_410 : decode cL_act 410 = .ok (.arraylength, 1) := by decide +kernel
theorem dL_act_411 : decode cL_act 411 = .ok (.if_icmp .ne 7, 3) := by decide +kernel
theorem dL_act_414 : decode cL_act 414 = .ok (.iconst 1, 1) := by decide +kernel
theorem dL_act_415 : decode cL_act 415 = .ok (.goto 4, 3) := by decide +kernel
theorem dL_act_418 : decode cL_act 418 = .ok (.iconst 0, 1) := by decide +kernel
theorem dL_act_419 : decode cL_act 419 = .ok (.ireturn, 1) := by decide +kernel
theorem dL_act_420 : decode cL_act 420 = .ok (.aload_n 0, 1) := by decide +kernel
theorem dL_act_421 : decode cL_act 421 = .ok (.invokevirtual 89, 3) := by decide +kernel
theorem dL_act_424 : decode cL_act 424 = .ok (.aload_n 1, 1) := by decide +kernel
theorem dL_act_425 : decode cL_act 425 = .ok (.invokevirtual 92, 3) := by decide +kernel
theorem dL_act_428 : decode cL_act 428 = .ok (.if_icmp .ne 7, 3) := by decide +kernel
theorem dL_act_431 : decode cL_act 431 = .ok (.iconst 1, 1) := by decide +kernel
theorem dL_act_432 : decode cL_act 432 = .ok (.goto 4, 3) := by decide +kernel
theorem dL_act_435 : decode cL_act 435 = .ok (.iconst 0, 1) := by decide +kernel
theorem dL_act_436 : decode cL_act 436 = .ok (.ireturn, 1) := by decide +kernel
theorem dL_build_0 : decode cL_build 0 = .ok (.new 10, 3) := by decide +kernel
theorem dL_build_3 : decode cL_build 3 = .ok (.dup, 1) := by decide +kernel
theorem dL_build_4 : decode cL_build 4 = .ok (.invokespecial 95, 3) := by decide +kernel
theorem dL_build_7 : decode cL_build 7 = .ok (.astore_n 2, 1) := by decide +kernel
theorem dL_build_8 : decode cL_build 8 = .ok (.iconst 1, 1) := by decide +kernel
theorem dL_build_9 : decode cL_build 9 = .ok (.aload_n 1, 1) := by decide +kernel
theorem dL_build_10 : decode cL_build 10 = .ok (.iconst 0, 1) := by decide +kernel
theorem dL_build_11 : decode cL_build 11 = .ok (.invokestatic 96, 3) := by decide +kernel
theorem dL_build_14 : decode cL_build 14 = .ok (.iconst 5, 1) := by decide +kernel
theorem dL_build_15 : decode cL_build 15 = .ok (.invokestatic 15, 3) := by decide +kernel
theorem dL_build_18 : decode cL_build 18 = .ok (.iadd, 1) := by decide +kernel
theorem dL_build_19 : decode cL_build 19 = .ok (.istore_n 3, 1) := by decide +kernel
theorem dL_build_20 : decode cL_build 20 = .ok (.iconst 0, 1) := by decide +kernel
theorem dL_build_21 : decode cL_build 21 = .ok (.istore 4, 2) := by decide +kernel
theorem dL_build_23 : decode cL_build 23 = .ok (.iload 4, 2) := by decide +kernel
theorem dL_build_25 : decode cL_build 25 = .ok (.iload_n 3, 1) := by decide +kernel
theorem dL_build_26 : decode cL_build 26 = .ok (.if_icmp .ge 43, 3) := by decide +kernel
theorem dL_build_29 : decode cL_build 29 = .ok (.aload_n 2, 1) := by decide +kernel
theorem dL_build_30 : decode cL_build 30 = .ok (.aload_n 1, 1) := by decide +kernel
theorem dL_build_31 : decode cL_build 31 = .ok (.iconst 1, 1) := by decide +kernel
theorem dL_build_32 : decode cL_build 32 = .ok (.iload 4, 2) := by decide +kernel
theorem dL_build_34 : decode cL_build 34 = .ok (.iadd, 1) := by decide +kernel
theorem dL_build_35 : decode cL_build 35 = .ok (.invokestatic 96, 3) := by decide +kernel
theorem dL_build_38 : decode cL_build 38 = .ok (.iconst 3, 1) := by decide +kernel
theorem dL_build_39 : decode cL_build 39 = .ok (.invokestatic 15, 3) := by decide +kernel
theorem dL_build_42 : decode cL_build 42 = .ok (.invokevirtual 25, 3) := by decide +kernel
theorem dL_build_45 : decode cL_build 45 = .ok (.aload_n 0, 1) := by decide +kernel
theorem dL_build_46 : decode cL_build 46 = .ok (.aload_n 2, 1) := by decide +kernel
theorem dL_build_47 : decode cL_build 47 = .ok (.getfield 54, 3) := by decide +kernel
theorem dL_build_50 : decode cL_build 50 = .ok (.iload 4, 2) := by decide +kernel
theorem dL_build_52 : decode cL_build 52 = .ok (.iaload, 1) := by decide +kernel
theorem dL_build_53 : decode cL_build 53 = .ok (.invokevirtual 29, 3) := by decide +kernel
theorem dL_build_56 : decode cL_build 56 = .ok (.iload 4, 2) := by decide +kernel
theorem dL_build_58 : decode cL_build 58 = .ok (.if_icmp .eq 5, 3) := by decide +kernel
theorem dL_build_61 : decode cL_build 61 = .ok (.aconst_null, 1) := by decide +kernel
theorem dL_build_62 : decode cL_build 62 = .ok (.areturn, 1) := by decide +kernel
theorem dL_build_63 : decode cL_build 63 = .ok (.iinc 4 1, 3) := by decide +kernel
theorem dL_build_66 : decode cL_build 66 = .ok (.goto (-43), 3) := by decide +kernel
theorem dL_build_69 : decode cL_build 69 = .ok (.aload_n 1, 1) := by decide +kernel
theorem dL_build_70 : decode cL_build 70 = .ok (.bipush 6, 2) := by decide +kernel
theorem dL_build_72 : decode cL_build 72 = .ok (.invokestatic 96, 3) := by decide +kernel
theorem dL_build_75 : decode cL_build 75 = .ok (.bipush 14, 2) := by decide +kernel
theorem dL_build_77 : decode cL_build 77 = .ok (.invokestatic 15, 3) := by decide +kernel
theorem dL_build_80 : decode cL_build 80 = .ok (.istore 4, 2) := by decide +kernel
theorem dL_build_82 : decode cL_build 82 = .ok (.iconst 0, 1) := by decide +kernel
theorem dL_build_83 : decode cL_build 83 = .ok (.istore 5, 2) := by decide +kernel
theorem dL_build_85 : decode cL_build 85 = .ok (.iload 5, 2) := by decide +kernel
theorem dL_build_87 : decode cL_build 87 = .ok (.iload 4, 2) := by decide +kernel
theorem dL_build_89 : decode cL_build 89 = .ok (.if_icmp .ge 38, 3) := by decide +kernel
theorem dL_build_92 : decode cL_build 92 = .ok (.aload_n 0, 1) := by decide +kernel
theorem dL_build_93 : decode cL_build 93 = .ok (.aload_n 2, 1) := by decide +kernel
theorem dL_build_94 : decode cL_build 94 = .ok (.aload_n 1, 1) := by decide +kernel
theorem dL_build_95 : decode cL_build 95 = .ok (.iload 5, 2) := by decide +kernel
theorem dL_build_97 : decode cL_build 97 = .ok (.bipush 7, 2) := by decide +kernel
theorem dL_build_99 : decode cL_build 99 = .ok (.iadd, 1) := by decide +kernel
theorem dL_build_100 : decode cL_build 100 = .ok (.bipush 16, 2) := by decide +kernel
theorem dL_build_102 : decode cL_build 102 = .ok (.irem, 1) := by decide +kernel
theorem dL_build_103 : decode cL_build 103 = .ok (.invokestatic 96, 3) := by decide +kernel
theorem dL_build_106 : decode cL_build 106 = .ok (.sipush 631, 3) := by decide +kernel
theorem dL_build_109 : decode cL_build 109 = .ok (.iload 5, 2) := by decide +kernel
theorem dL_build_111 : decode cL_build 111 = .ok (.imul, 1) := by decide +kernel
theorem dL_build_112 : decode cL_build 112 = .ok (.iadd, 1) := by decide +kernel
theorem dL_build_113 : decode cL_build 113 = .ok (.invokestatic 99, 3) := by decide +kernel
theorem dL_build_116 : decode cL_build 116 = .ok (.ifCond .ne 5, 3) := by decide +kernel
theorem dL_build_119 : decode cL_build 119 = .ok (.aconst_null, 1) := by decide +kernel
theorem dL_build_120 : decode cL_build 120 = .ok (.areturn, 1) := by decide +kernel
theorem dL_build_121 : decode cL_build 121 = .ok (.iinc 5 1, 3) := by decide +kernel
theorem dL_build_124 : decode cL_build 124 = .ok (.goto (-39), 3) := by decide +kernel
theorem dL_build_127 : decode cL_build 127 = .ok (.aload_n 2, 1) := by decide +kernel
theorem dL_build_128 : decode cL_build 128 = .ok (.areturn, 1) := by decide +kernel
theorem dL_law_0 : decode cL_law 0 = .ok (.new 30, 3) := by decide +kernel
theorem dL_law_3 : decode cL_law 3 = .ok (.dup, 1) := by decide +kernel
theorem dL_law_4 : decode cL_law 4 = .ok (.invokespecial 103, 3) := by decide +kernel
theorem dL_law_7 : decode cL_law 7 = .ok (.astore_n 1, 1) := by decide +kernel
theorem dL_law_8 : decode cL_law 8 = .ok (.aload_n 1, 1) := by decide +kernel
theorem dL_law_9 : decode cL_law 9 = .ok (.aload_n 0, 1) := by decide +kernel
theorem dL_law_10 : decode cL_law 10 = .ok (.invokestatic 104, 3) := by decide +kernel
theorem dL_law_13 : decode cL_law 13 = .ok (.astore_n 2, 1) := by decide +kernel
theorem dL_law_14 : decode cL_law 14 = .ok (.aload_n 2, 1) := by decide +kernel
theorem dL_law_15 : decode cL_law 15 = .ok (.ifnonnull 5, 3) := by decide +kernel
theorem dL_law_18 : decode cL_law 18 = .ok (.iconst 0, 1) := by decide +kernel
theorem dL_law_19 : decode cL_law 19 = .ok (.ireturn, 1) := by decide +kernel
theorem dL_law_20 : decode cL_law 20 = .ok (.iconst 0, 1) := by decide +kernel
theorem dL_law_21 : decode cL_law 21 = .ok (.istore_n 3, 1) := by decide +kernel
theorem dL_law_22 : decode cL_law 22 = .ok (.iload_n 3, 1) := by decide +kernel
theorem dL_law_23 : decode cL_law 23 = .ok (.bipush 16, 2) := by decide +kernel
theorem dL_law_25 : decode cL_law 25 = .ok (.if_icmp .ge 705, 3) := by decide +kernel
theorem dL_law_28 : decode cL_law 28 = .ok (.aload_n 0, 1) := by decide +kernel
theorem dL_law_29 : decode cL_law 29 = .ok (.iload_n 3, 1) := by decide +kernel
theorem dL_law_30 : decode cL_law 30 = .ok (.invokestatic 96, 3) := by decide +kernel
theorem dL_law_33 : decode cL_law 33 = .ok (.sipush 631, 3) := by decide +kernel
theorem dL_law_36 : decode cL_law 36 = .ok (.iload_n 3, 1) := by decide +kernel
theorem dL_law_37 : decode cL_law 37 = .ok (.imul, 1) := by decide +kernel
theorem dL_law_38 : decode cL_law 38 = .ok (.iadd, 1) := by decide +kernel
theorem dL_law_39 : decode cL_law 39 = .ok (.istore 4, 2) := by decide +kernel
theorem dL_law_41 : decode cL_law 41 = .ok (.aload_n 1, 1) := by decide +kernel
theorem dL_law_42 : decode cL_law 42 = .ok (.aload_n 2, 1) := by decide +kernel
theorem dL_law_43 : decode cL_law 43 = .ok (.iload 4, 2) := by decide +kernel
theorem dL_law_45 : decode cL_law 45 = .ok (.invokestatic 99, 3) := by decide +kernel
theorem dL_law_48 : decode cL_law 48 = .ok (.ifCond .ne 5, 3) := by decide +kernel
theorem dL_law_51 : decode cL_law 51 = .ok (.iconst 0, 1) := by decide +kernel
theorem dL_law_52 : decode cL_law 52 = .ok (.ireturn, 1) := by decide +kernel
theorem dL_law_53 : decode cL_law 53 = .ok (.aload_n 1, 1) := by decide +kernel
theorem dL_law_54 : decode cL_law 54 = .ok (.invokevirtual 108, 3) := by decide +kernel
theorem dL_law_57 : decode cL_law 57 = .ok (.istore 5, 2) := by decide +kernel
theorem dL_law_59 : decode cL_law 59 = .ok (.aload_n 1, 1) := by decide +kernel
theorem dL_law_60 : decode cL_law 60 = .ok (.invokevirtual 111, 3) := by decide +kernel
theorem dL_law_63 : decode cL_law 63 = .ok (.istore 6, 2) := by decide +kernel
theorem dL_law_65 : decode cL_law 65 = .ok (.iconst 0, 1) := by decide +kernel
theorem dL_law_66 : decode cL_law 66 = .ok (.istore 7, 2) := by decide +kernel
theorem dL_law_68 : decode cL_law 68 = .ok (.iconst 3, 1) := by decide +kernel
theorem dL_law_69 : decode cL_law 69 = .ok (.newarray .int, 2) := by decide +kernel
theorem dL_law_71 : decode cL_law 71 = .ok (.astore 8, 2) := by decide +kernel
theorem dL_law_73 : decode cL_law 73 = .ok (.iload 5, 2) := by decide +kernel
theorem dL_law_75 : decode cL_law 75 = .ok (.newarray .boolean, 2) := by decide +kernel
theorem dL_law_77 : decode cL_law 77 = .ok (.astore 9, 2) := by decide +kernel
theorem dL_law_79 : decode cL_law 79 = .ok (.iconst 0, 1) := by decide +kernel
theorem dL_law_80 : decode cL_law 80 = .ok (.istore 10, 2) := by decide +kernel
theorem dL_law_82 : decode cL_law 82 = .ok (.iload 10, 2) := by decide +kernel
theorem dL_law_84 : decode cL_law 84 = .ok (.iload 5, 2) := by decide +kernel
theorem dL_law_86 : decode cL_law 86 = .ok (.if_icmp .ge 419, 3) := by decide +kernel
theorem dL_law_89 : decode cL_law 89 = .ok (.aload_n 1, 1) := by decide +kernel
theorem dL_law_90 : decode cL_law 90 = .ok (.iload 10, 2) := by decide +kernel
theorem dL_law_92 : decode cL_law 92 = .ok (.invokevirtual 114, 3) := by decide +kernel
theorem dL_law_95 : decode cL_law 95 = .ok (.istore 11, 2) := by decide +kernel
theorem dL_law_97 : decode cL_law 97 = .ok (.aload 8, 2) := by decide +kernel
theorem dL_law_99 : decode cL_law 99 = .ok (.iload 11, 2) := by decide +kernel
theorem dL_law_101 : decode cL_law 101 = .ok (.dup2, 1) := by decide +kernel
theorem dL_law_102 : decode cL_law 102 = .ok (.iaload, 1) := by decide +kernel
theorem dL_law_103 : decode cL_law 103 = .ok (.iconst 1, 1) := by decide +kernel
theorem dL_law_104 : decode cL_law 104 = .ok (.iadd, 1) := by decide +kernel
theorem dL_law_105 : decode cL_law 105 = .ok (.iastore, 1) := by decide +kernel
theorem dL_law_106 : decode cL_law 106 = .ok (.iconst 0, 1) := by decide +kernel
theorem dL_law_107 : decode cL_law 107 = .ok (.istore 12, 2) := by decide +kernel
theorem dL_law_109 : decode cL_law 109 = .ok (.iconst 0, 1) := by decide +kernel
theorem dL_law_110 : decode cL_law 110 = .ok (.istore 13, 2) := by decide +kernel
theorem dL_law_112 : decode cL_law 112 = .ok (.iload 13, 2) := by decide +kernel
theorem dL_law_114 : decode cL_law 114 = .ok (.iconst 3, 1) := by decide +kernel
theorem dL_law_115 : decode cL_law 115 = .ok (.if_icmp .ge 22, 3) := by decide +kernel
theorem dL_law_118 : decode cL_law 118 = .ok (.iload 12, 2) := by decide +kernel
theorem dL_law_120 : decode cL_law 120 = .ok (.aload_n 1, 1) := by decide +kernel
theorem dL_law_121 : decode cL_law 121 = .ok (.iload 10, 2) := by decide +kernel
theorem dL_law_123 : decode cL_law 123 = .ok (.iload 13, 2) := by decide +kernel
theorem dL_law_125 : decode cL_law 125 = .ok (.invokevirtual 117, 3) := by decide +kernel
theorem dL_law_128 : decode cL_law 128 = .ok (.iadd, 1) := by decide +kernel
theorem dL_law_129 : decode cL_law 129 = .ok (.istore 12, 2) := by decide +kernel
theorem dL_law_131 : decode cL_law 131 = .ok (.iinc 13 1, 3) := by decide +kernel
theorem dL_law_134 : decode cL_law 134 = .ok (.goto (-22), 3) := by decide +kernel
theorem dL_law_137 : decode cL_law 137 = .ok (.aload_n 1, 1) := by decide +kernel
theorem dL_law_138 : decode cL_law 138 = .ok (.iload 10, 2) := by decide +kernel
theorem dL_law_140 : decode cL_law 140 = .ok (.invokevirtual 120, 3) := by decide +kernel
theorem dL_law_143 : decode cL_law 143 = .ok (.istore 13, 2) := by decide +kernel
theorem dL_law_145 : decode cL_law 145 = .ok (.aload 9, 2) := by decide +kernel
theorem dL_law_147 : decode cL_law 147 = .ok (.iload 10, 2) := by decide +kernel
theorem dL_law_149 : decode cL_law 149 = .ok (.aload_n 1, 1) := by decide +kernel
theorem dL_law_150 : decode cL_law 150 = .ok (.iload 10, 2) := by decide +kernel
theorem dL_law_152 : decode cL_law 152 = .ok (.invokevirtual 123, 3) := by decide +kernel
theorem dL_law_155 : decode cL_law 155 = .ok (.bastore, 1) := by decide +kernel
theorem dL_law_156 : decode cL_law 156 = .ok (.iload 7, 2) := by decide +kernel
theorem dL_law_158 : decode cL_law 158 = .ok (.aload 9, 2) := by decide +kernel
theorem dL_law_160 : decode cL_law 160 = .ok (.iload 10, 2) := by decide +kernel
theorem dL_law_162 : decode cL_law 162 = .ok (.baload, 1) := by decide +kernel
theorem dL_law_163 : decode cL_law 163 = .ok (.ifCond .eq 7, 3) := by decide +kernel
theorem dL_law_166 : decode cL_law 166 = .ok (.iconst 1, 1) := by decide +kernel
theorem dL_law_167 : decode cL_law 167 = .ok (.goto 4, 3) := by decide +kernel
theorem dL_law_170 : decode cL_law 170 = .ok (.iconst 0, 1) := by decide +kernel
theorem dL_law_171 : decode cL_law 171 = .ok (.iadd, 1) := by decide +kernel
theorem dL_law_172 : decode cL_law 172 = .ok (.istore 7, 2) := by decide +kernel
theorem dL_law_174 : decode cL_law 174 = .ok (.iload 12, 2) := by decide +kernel
theorem dL_law_176 : decode cL_law 176 = .ok (.iload 6, 2) := by decide +kernel
theorem dL_law_178 : decode cL_law 178 = .ok (.if_icmp .ne 118, 3) := by decide +kernel
theorem dL_law_181 : decode cL_law 181 = .ok (.aload_n 1, 1) := by decide +kernel
theorem dL_law_182 : decode cL_law 182 = .ok (.iload 10, 2) := by decide +kernel
theorem dL_law_184 : decode cL_law 184 = .ok (.iload 11, 2) := by decide +kernel
theorem dL_law_186 : decode cL_law 186 = .ok (.invokevirtual 117, 3) := by decide +kernel
theorem dL_law_189 : decode cL_law 189 = .ok (.iconst 1, 1) := by decide +kernel
theorem dL_law_190 : decode cL_law 190 = .ok (.if_icmp .lt 106, 3) := by decide +kernel
theorem dL_law_193 : decode cL_law 193 = .ok (.iload 13, 2) := by decide +kernel
theorem dL_law_195 : decode cL_law 195 = .ok (.iconst 1, 1) := by decide +kernel
theorem dL_law_196 : decode cL_law 196 = .ok (.if_icmp .lt 100, 3) := by decide +kernel
theorem dL_law_199 : decode cL_law 199 = .ok (.iload 13, 2) := by decide +kernel
theorem dL_law_201 : decode cL_law 201 = .ok (.iload 6, 2) := by decide +kernel
theorem dL_law_203 : decode cL_law 203 = .ok (.if_icmp .gt 93, 3) := by decide +kernel
theorem dL_law_206 : decode cL_law 206 = .ok (.aload_n 1, 1) := by decide +kernel
theorem dL_law_207 : decode cL_law 207 = .ok (.iload 10, 2) := by decide +kernel
theorem dL_law_209 : decode cL_law 209 = .ok (.invokevirtual 127, 3) := by decide +kernel
theorem dL_law_212 : decode cL_law 212 = .ok (.aload_n 1, 1) := by decide +kernel
theorem dL_law_213 : decode cL_law 213 = .ok (.iload 10, 2) := by decide +kernel
theorem dL_law_215 : decode cL_law 215 = .ok (.iload 11, 2) := by decide +kernel
theorem dL_law_217 : decode cL_law 217 = .ok (.invokevirtual 117, 3) := by decide +kernel
theorem dL_law_220 : decode cL_law 220 = .ok (.iload 6, 2) := by decide +kernel
theorem dL_law_222 : decode cL_law 222 = .ok (.if_icmp .ne 7, 3) := by decide +kernel
theorem dL_law_225 : decode cL_law 225 = .ok (.iconst 1, 1) := by decide +kernel
theorem dL_law_226 : decode cL_law 226 = .ok (.goto 4, 3) := by decide +kernel
theorem dL_law_229 : decode cL_law 229 = .ok (.iconst 0, 1) := by decide +kernel
theorem dL_law_230 : decode cL_law 230 = .ok (.if_icmp .ne 66, 3) := by decide +kernel
theorem dL_law_233 : decode cL_law 233 = .ok (.aload_n 1, 1) := by decide +kernel
theorem dL_law_234 : decode cL_law 234 = .ok (.iload 10, 2) := by decide +kernel
theorem dL_law_236 : decode cL_law 236 = .ok (.invokevirtual 127, 3) := by decide +kernel
theorem dL_law_239 : decode cL_law 239 = .ok (.ifCond .eq 11, 3) := by decide +kernel
theorem dL_law_242 : decode cL_law 242 = .ok (.aload 9, 2) := by decide +kernel
theorem dL_law_244 : decode cL_law 244 = .ok (.iload 10, 2) := by decide +kernel
theorem dL_law_246 : decode cL_law 246 = .ok (.baload, 1) := by decide +kernel
theorem dL_law_247 : decode cL_law 247 = .ok (.ifCond .eq 49, 3) := by decide +kernel
theorem dL_law_250 : decode cL_law 250 = .ok (.iload 13, 2) := by decide +kernel
theorem dL_law_252 : decode cL_law 252 = .ok (.iconst 1, 1) := by decide +kernel
theorem dL_law_253 : decode cL_law 253 = .ok (.if_icmp .ne 11, 3) := by decide +kernel
theorem dL_law_256 : decode cL_law 256 = .ok (.aload 9, 2) := by decide +kernel
theorem dL_law_258 : decode cL_law 258 = .ok (.iload 10, 2) := by decide +kernel
theorem dL_law_260 : decode cL_law 260 = .ok (.baload, 1) := by decide +kernel
theorem dL_law_261 : decode cL_law 261 = .ok (.ifCond .eq 35, 3) := by decide +kernel
theorem dL_law_264 : decode cL_law 264 = .ok (.aload_n 1, 1) := by decide +kernel
theorem dL_law_265 : decode cL_law 265 = .ok (.iload 10, 2) := by decide +kernel
theorem dL_law_267 : decode cL_law 267 = .ok (.iload 10, 2) := by decide +kernel
theorem dL_law_269 : decode cL_law 269 = .ok (.invokevirtual 130, 3) := by decide +kernel
theorem dL_law_272 : decode cL_law 272 = .ok (.aload 9, 2) := by decide +kernel
theorem dL_law_274 : decode cL_law 274 = .ok (.iload 10, 2) := by decide +kernel
theorem dL_law_276 : decode cL_law 276 = .ok (.baload, 1) := by decide +kernel
theorem dL_law_277 : decode cL_law 277 = .ok (.if_icmp .ne 19, 3) := by decide +kernel
theorem dL_law_280 : decode cL_law 280 = .ok (.aload_n 1, 1) := by decide +kernel
theorem dL_law_281 : decode cL_law 281 = .ok (.iload 10, 2) := by decide +kernel
theorem dL_law_283 : decode cL_law 283 = .ok (.iload 10, 2) := by decide +kernel
theorem dL_law_285 : decode cL_law 285 = .ok (.invokevirtual 133, 3) := by decide +kernel
theorem dL_law_288 : decode cL_law 288 = .ok (.aload 9, 2) := by decide +kernel
theorem dL_law_290 : decode cL_law 290 = .ok (.iload 10, 2) := by decide +kernel
theorem dL_law_292 : decode cL_law 292 = .ok (.baload, 1) := by decide +kernel
theorem dL_law_293 : decode cL_law 293 = .ok (.if_icmp .eq 5, 3) := by decide +kernel
theorem dL_law_296 : decode cL_law 296 = .ok (.iconst 0, 1) := by decide +kernel
theorem dL_law_297 : decode cL_law 297 = .ok (.ireturn, 1) := by decide +kernel
theorem dL_law_298 : decode cL_law 298 = .ok (.iconst 0, 1) := by decide +kernel
theorem dL_law_299 : decode cL_law 299 = .ok (.istore 14, 2) := by decide +kernel
theorem dL_law_301 : decode cL_law 301 = .ok (.iload 14, 2) := by decide +kernel
theorem dL_law_303 : decode cL_law 303 = .ok (.iload 5, 2) := by decide +kernel
theorem dL_law_305 : decode cL_law 305 = .ok (.if_icmp .ge 166, 3) := by decide +kernel
theorem dL_law_308 : decode cL_law 308 = .ok (.aload_n 1, 1) := by decide +kernel
theorem dL_law_309 : decode cL_law 309 = .ok (.iload 10, 2) := by decide +kernel
theorem dL_law_311 : decode cL_law 311 = .ok (.iload 14, 2) := by decide +kernel
theorem dL_law_313 : decode cL_law 313 = .ok (.invokevirtual 136, 3) := by decide +kernel
theorem dL_law_316 : decode cL_law 316 = .ok (.istore 15, 2) := by decide +kernel
theorem dL_law_318 : decode cL_law 318 = .ok (.iload 15, 2) := by decide +kernel
theorem dL_law_320 : decode cL_law 320 = .ok (.ifCond .eq 21, 3) := by decide +kernel
theorem dL_law_323 : decode cL_law 323 = .ok (.iload 10, 2) := by decide +kernel
theorem dL_law_325 : decode cL_law 325 = .ok (.iload 14, 2) := by decide +kernel
theorem dL_law_327 : decode cL_law 327 = .ok (.if_icmp .eq 71, 3) := by decide +kernel
theorem dL_law_330 : decode cL_law 330 = .ok (.aload_n 1, 1) := by decide +kernel
theorem dL_law_331 : decode cL_law 331 = .ok (.iload 10, 2) := by decide +kernel
theorem dL_law_333 : decode cL_law 333 = .ok (.iload 14, 2) := by decide +kernel
theorem dL_law_335 : decode cL_law 335 = .ok (.invokevirtual 130, 3) := by decide +kernel
theorem dL_law_338 : decode cL_law 338 = .ok (.ifCond .eq 60, 3) := by decide +kernel
theorem dL_law_341 : decode cL_law 341 = .ok (.aload_n 1, 1) := by decide +kernel
theorem dL_law_342 : decode cL_law 342 = .ok (.iload 10, 2) := by decide +kernel
theorem dL_law_344 : decode cL_law 344 = .ok (.iload 14, 2) := by decide +kernel
theorem dL_law_346 : decode cL_law 346 = .ok (.aload_n 1, 1) := by decide +kernel
theorem dL_law_347 : decode cL_law 347 = .ok (.iload 14, 2) := by decide +kernel
theorem dL_law_349 : decode cL_law 349 = .ok (.invokevirtual 114, 3) := by decide +kernel
theorem dL_law_352 : decode cL_law 352 = .ok (.invokevirtual 138, 3) := by decide +kernel
theorem dL_law_355 : decode cL_law 355 = .ok (.ifCond .eq 43, 3) := by decide +kernel
theorem dL_law_358 : decode cL_law 358 = .ok (.aload_n 1, 1) := by decide +kernel
theorem dL_law_359 : decode cL_law 359 = .ok (.iload 10, 2) := by decide +kernel
theorem dL_law_361 : decode cL_law 361 = .ok (.iload 14, 2) := by decide +kernel
theorem dL_law_363 : decode cL_law 363 = .ok (.invokevirtual 133, 3) := by decide +kernel
theorem dL_law_366 : decode cL_law 366 = .ok (.ifCond .eq 12, 3) := by decide +kernel
theorem dL_law_369 : decode cL_law 369 = .ok (.aload_n 1, 1) := by decide +kernel
theorem dL_law_370 : decode cL_law 370 = .ok (.iload 14, 2) := by decide +kernel
theorem dL_law_372 : decode cL_law 372 = .ok (.invokevirtual 123, 3) := by decide +kernel
theorem dL_law_375 : decode cL_law 375 = .ok (.ifCond .eq 23, 3) := by decide +kernel
theorem dL_law_378 : decode cL_law 378 = .ok (.aload_n 1, 1) := by decide +kernel
theorem dL_law_379 : decode cL_law 379 = .ok (.iload 14, 2) := by decide +kernel
theorem dL_law_381 : decode cL_law 381 = .ok (.invokevirtual 127, 3) := by decide +kernel
theorem dL_law_384 : decode cL_law 384 = .ok (.ifCond .eq 16, 3) := by decide +kernel
theorem dL_law_387 : decode cL_law 387 = .ok (.aload_n 1, 1) := by decide +kernel
theorem dL_law_388 : decode cL_law 388 = .ok (.iload 10, 2) := by decide +kernel
theorem dL_law_390 : decode cL_law 390 = .ok (.iload 14, 2) := by decide +kernel
theorem dL_law_392 : decode cL_law 392 = .ok (.invokevirtual 130, 3) := by decide +kernel
theorem dL_law_395 : decode cL_law 395 = .ok (.ifCond .ne 5, 3) := by decide +kernel
theorem dL_law_398 : decode cL_law 398 = .ok (.iconst 0, 1) := by decide +kernel
theorem dL_law_399 : decode cL_law 399 = .ok (.ireturn, 1) := by decide +kernel
theorem dL_law_400 : decode cL_law 400 = .ok (.iconst 0, 1) := by decide +kernel
theorem dL_law_401 : decode cL_law 401 = .ok (.istore 16, 2) := by decide +kernel
theorem dL_law_403 : decode cL_law 403 = .ok (.iconst 0, 1) := by decide +kernel
theorem dL_law_404 : decode cL_law 404 = .ok (.istore 17, 2) := by decide +kernel
theorem dL_law_406 : decode cL_law 406 = .ok (.iload 17, 2) := by decide +kernel
theorem dL_law_408 : decode cL_law 408 = .ok (.iconst 3, 1) := by decide +kernel
theorem dL_law_409 : decode cL_law 409 = .ok (.if_icmp .ge 32, 3) := by decide +kernel
theorem dL_law_412 : decode cL_law 412 = .ok (.iload 16, 2) := by decide +kernel
theorem dL_law_414 : decode cL_law 414 = .ok (.aload_n 1, 1) := by decide +kernel
theorem dL_law_415 : decode cL_law 415 = .ok (.iload 10, 2) := by decide +kernel
theorem dL_law_417 : decode cL_law 417 = .ok (.iload 14, 2) := by decide +kernel
theorem dL_law_419 : decode cL_law 419 = .ok (.iload 17, 2) := by decide +kernel
theorem dL_law_421 : decode cL_law 421 = .ok (.invokevirtual 138, 3) := by decide +kernel
theorem dL_law_424 : decode cL_law 424 = .ok (.ifCond .eq 7, 3) := by decide +kernel
theorem dL_law_427 : decode cL_law 427 = .ok (.iconst 1, 1) := by decide +kernel
theorem dL_law_428 : decode cL_law 428 = .ok (.goto 4, 3) := by decide +kernel
theorem dL_law_431 : decode cL_law 431 = .ok (.iconst 0, 1) := by decide +kernel
theorem dL_law_432 : decode cL_law 432 = .ok (.iadd, 1) := by decide +kernel
theorem dL_law_433 : decode cL_law 433 = .ok (.istore 16, 2) := by decide +kernel
theorem dL_law_435 : decode cL_law 435 = .ok (.iinc 17 1, 3) := by decide +kernel
theorem dL_law_438 : decode cL_law 438 = .ok (.goto (-32), 3) := by decide +kernel
theorem dL_law_441 : decode cL_law 441 = .ok (.aload_n 1, 1) := by decide +kernel
theorem dL_law_442 : decode cL_law 442 = .ok (.iload 10, 2) := by decide +kernel
theorem dL_law_444 : decode cL_law 444 = .ok (.iload 14, 2) := by decide +kernel
theorem dL_law_446 : decode cL_law 446 = .ok (.invokevirtual 130, 3) := by decide +kernel
theorem dL_law_449 : decode cL_law 449 = .ok (.iload 16, 2) := by decide +kernel
theorem dL_law_451 : decode cL_law 451 = .ok (.iconst 1, 1) := by decide +kernel
theorem dL_law_452 : decode cL_law 452 = .ok (.if_icmp .ne 7, 3) := by decide +kernel
theorem dL_law_455 : decode cL_law 455 = .ok (.iconst 1, 1) := by decide +kernel
theorem dL_law_456 : decode cL_law 456 = .ok (.goto 4, 3) := by decide +kernel
theorem dL_law_459 : decode cL_law 459 = .ok (.iconst 0, 1) := by decide +kernel
theorem dL_law_460 : decode cL_law 460 = .ok (.if_icmp .eq 5, 3) := by decide +kernel
theorem dL_law_463 : decode cL_law 463 = .ok (.iconst 0, 1) := by decide +kernel
theorem dL_law_464 : decode cL_law 464 = .ok (.ireturn, 1) := by decide +kernel
theorem dL_law_465 : decode cL_law 465 = .ok (.iinc 14 1, 3) := by decide +kernel
theorem dL_law_468 : decode cL_law 468 = .ok (.goto (-167), 3) := by decide +kernel
theorem dL_law_471 : decode cL_law 471 = .ok (.aload_n 1, 1) := by decide +kernel
theorem dL_law_472 : decode cL_law 472 = .ok (.iload 10, 2) := by decide +kernel
theorem dL_law_474 : decode cL_law 474 = .ok (.invokevirtual 142, 3) := by decide +kernel
theorem dL_law_477 : decode cL_law 477 = .ok (.istore 14, 2) := by decide +kernel
theorem dL_law_479 : decode cL_law 479 = .ok (.iload 14, 2) := by decide +kernel
theorem dL_law_481 : decode cL_law 481 = .ok (.iconst 1, 1) := by decide +kernel
theorem dL_law_482 : decode cL_law 482 = .ok (.iload 7, 2) := by decide +kernel
theorem dL_law_484 : decode cL_law 484 = .ok (.invokestatic 35, 3) := by decide +kernel
theorem dL_law_487 : decode cL_law 487 = .ok (.if_icmp .lt 10, 3) := by decide +kernel
theorem dL_law_490 : decode cL_law 490 = .ok (.iload 14, 2) := by decide +kernel
theorem dL_law_492 : decode cL_law 492 = .ok (.iload 5, 2) := by decide +kernel
theorem dL_law_494 : decode cL_law 494 = .ok (.if_icmp .le 5, 3) := by decide +kernel
theorem dL_law_497 : decode cL_law 497 = .ok (.iconst 0, 1) := by decide +kernel
theorem dL_law_498 : decode cL_law 498 = .ok (.ireturn, 1) := by decide +kernel
theorem dL_law_499 : decode cL_law 499 = .ok (.iinc 10 1, 3) := by decide +kernel
theorem dL_law_502 : decode cL_law 502 = .ok (.goto (-420), 3) := by decide +kernel
theorem dL_law_505 : decode cL_law 505 = .ok (.iconst 0, 1) := by decide +kernel
theorem dL_law_506 : decode cL_law 506 = .ok (.istore 10, 2) := by decide +kernel
theorem dL_law_508 : decode cL_law 508 = .ok (.iload 10, 2) := by decide +kernel
theorem dL_law_510 : decode cL_law 510 = .ok (.iconst 3, 1) := by decide +kernel
theorem dL_law_511 : decode cL_law 511 = .ok (.if_icmp .ge 25, 3) := by decide +kernel
theorem dL_law_514 : decode cL_law 514 = .ok (.aload_n 1, 1) := by decide +kernel
theorem dL_law_515 : decode cL_law 515 = .ok (.iload 10, 2) := by decide +kernel
theorem dL_law_517 : decode cL_law 517 = .ok (.invokevirtual 145, 3) := by decide +kernel
theorem dL_law_520 : decode cL_law 520 = .ok (.aload 8, 2) := by decide +kernel
theorem dL_law_522 : decode cL_law 522 = .ok (.iload 10, 2) := by decide +kernel
theorem dL_law_524 : decode cL_law 524 = .ok (.iaload, 1) := by decide +kernel
theorem dL_law_525 : decode cL_law 525 = .ok (.if_icmp .eq 5, 3) := by decide +kernel
theorem dL_law_528 : decode cL_law 528 = .ok (.iconst 0, 1) := by decide +kernel
theorem dL_law_529 : decode cL_law 529 = .ok (.ireturn, 1) := by decide +kernel
theorem dL_law_530 : decode cL_law 530 = .ok (.iinc 10 1, 3) := by decide +kernel
theorem dL_law_533 : decode cL_law 533 = .ok (.goto (-25), 3) := by decide +kernel
theorem dL_law_536 : decode cL_law 536 = .ok (.iload 7, 2) := by decide +kernel
theorem dL_law_538 : decode cL_law 538 = .ok (.aload_n 1, 1) := by decide +kernel
theorem dL_law_539 : decode cL_law 539 = .ok (.invokevirtual 148, 3) := by decide +kernel
theorem dL_law_542 : decode cL_law 542 = .ok (.if_icmp .ne 9, 3) := by decide +kernel
theorem dL_law_545 : decode cL_law 545 = .ok (.iload 6, 2) := by decide +kernel
theorem dL_law_547 : decode cL_law 547 = .ok (.iconst 1, 1) := by decide +kernel
theorem dL_law_548 : decode cL_law 548 = .ok (.if_icmp .ge 5, 3) := by decide +kernel
theorem dL_law_551 : decode cL_law 551 = .ok (.iconst 0, 1) := by decide +kernel
theorem dL_law_552 : decode cL_law 552 = .ok (.ireturn, 1) := by decide +kernel
theorem dL_law_553 : decode cL_law 553 = .ok (.aload_n 1, 1) := by decide +kernel
theorem dL_law_554 : decode cL_law 554 = .ok (.invokevirtual 151, 3) := by decide +kernel
theorem dL_law_557 : decode cL_law 557 = .ok (.istore 10, 2) := by decide +kernel
theorem dL_law_559 : decode cL_law 559 = .ok (.aload_n 1, 1) := by decide +kernel
theorem dL_law_560 : decode cL_law 560 = .ok (.invokevirtual 154, 3) := by decide +kernel
theorem dL_law_563 : decode cL_law 563 = .ok (.istore 11, 2) := by decide +kernel
theorem dL_law_565 : decode cL_law 565 = .ok (.aload_n 1, 1) := by decide +kernel
theorem dL_law_566 : decode cL_law 566 = .ok (.invokevirtual 157, 3) := by decide +kernel
theorem dL_law_569 : decode cL_law 569 = .ok (.istore 12, 2) := by decide +kernel
theorem dL_law_571 : decode cL_law 571 = .ok (.aload_n 1, 1) := by decide +kernel
theorem dL_law_572 : decode cL_law 572 = .ok (.invokevirtual 89, 3) := by decide +kernel
theorem dL_law_575 : decode cL_law 575 = .ok (.istore 13, 2) := by decide +kernel
theorem dL_law_577 : decode cL_law 577 = .ok (.aload_n 2, 1) := by decide +kernel
theorem dL_law_578 : decode cL_law 578 = .ok (.invokevirtual 92, 3) := by decide +kernel
theorem dL_law_581 : decode cL_law 581 = .ok (.iload 13, 2) := by decide +kernel
theorem dL_law_583 : decode cL_law 583 = .ok (.if_icmp .ne 88, 3) := by decide +kernel
theorem dL_law_586 : decode cL_law 586 = .ok (.iload 13, 2) := by decide +kernel
theorem dL_law_588 : decode cL_law 588 = .ok (.aload 9, 2) := by decide +kernel
theorem dL_law_590 : decode cL_law 590 = .ok (.iload 10, 2) := by decide +kernel
theorem dL_law_592 : decode cL_law 592 = .ok (.baload, 1) := by decide +kernel
theorem dL_law_593 : decode cL_law 593 = .ok (.ifCond .eq 12, 3) := by decide +kernel
theorem dL_law_596 : decode cL_law 596 = .ok (.aload_n 1, 1) := by decide +kernel
theorem dL_law_597 : decode cL_law 597 = .ok (.iload 10, 2) := by decide +kernel
theorem dL_law_599 : decode cL_law 599 = .ok (.invokevirtual 114, 3) := by decide +kernel
theorem dL_law_602 : decode cL_law 602 = .ok (.goto 4, 3) := by decide +kernel
theorem dL_law_605 : decode cL_law 605 = .ok (.iconst (-1), 1) := by decide +kernel
theorem dL_law_606 : decode cL_law 606 = .ok (.if_icmp .ne 65, 3) := by decide +kernel
theorem dL_law_609 : decode cL_law 609 = .ok (.aload_n 1, 1) := by decide +kernel
theorem dL_law_610 : decode cL_law 610 = .ok (.invokevirtual 157, 3) := by decide +kernel
theorem dL_law_613 : decode cL_law 613 = .ok (.iload 12, 2) := by decide +kernel
theorem dL_law_615 : decode cL_law 615 = .ok (.iconst 1, 1) := by decide +kernel
theorem dL_law_616 : decode cL_law 616 = .ok (.iadd, 1) := by decide +kernel
theorem dL_law_617 : decode cL_law 617 = .ok (.if_icmp .ne 54, 3) := by decide +kernel
theorem dL_law_620 : decode cL_law 620 = .ok (.aload_n 1, 1) := by decide +kernel
theorem dL_law_621 : decode cL_law 621 = .ok (.invokevirtual 154, 3) := by decide +kernel
theorem dL_law_624 : decode cL_law 624 = .ok (.iload 11, 2) := by decide +kernel
theorem dL_law_626 : decode cL_law 626 = .ok (.iload 13, 2) := by decide +kernel
theorem dL_law_628 : decode cL_law 628 = .ok (.ifCond .ge 7, 3) := by decide +kernel
theorem dL_law_631 : decode cL_law 631 = .ok (.iconst 1, 1) := by decide +kernel
theorem dL_law_632 : decode cL_law 632 = .ok (.goto 4, 3) := by decide +kernel
theorem dL_law_635 : decode cL_law 635 = .ok (.iconst 0, 1) := by decide +kernel
theorem dL_law_636 : decode cL_law 636 = .ok (.iadd, 1) := by decide +kernel
theorem dL_law_637 : decode cL_law 637 = .ok (.if_icmp .ne 34, 3) := by decide +kernel
theorem dL_law_640 : decode cL_law 640 = .ok (.aload_n 1, 1) := by decide +kernel
theorem dL_law_641 : decode cL_law 641 = .ok (.invokevirtual 151, 3) := by decide +kernel
theorem dL_law_644 : decode cL_law 644 = .ok (.iload 10, 2) := by decide +kernel
theorem dL_law_646 : decode cL_law 646 = .ok (.iconst 1, 1) := by decide +kernel
theorem dL_law_647 : decode cL_law 647 = .ok (.iadd, 1) := by decide +kernel
theorem dL_law_648 : decode cL_law 648 = .ok (.iload 5, 2) := by decide +kernel
theorem dL_law_650 : decode cL_law 650 = .ok (.irem, 1) := by decide +kernel
theorem dL_law_651 : decode cL_law 651 = .ok (.if_icmp .ne 20, 3) := by decide +kernel
theorem dL_law_654 : decode cL_law 654 = .ok (.aload_n 1, 1) := by decide +kernel
theorem dL_law_655 : decode cL_law 655 = .ok (.invokevirtual 111, 3) := by decide +kernel
theorem dL_law_658 : decode cL_law 658 = .ok (.iload 6, 2) := by decide +kernel
theorem dL_law_660 : decode cL_law 660 = .ok (.if_icmp .gt 11, 3) := by decide +kernel
theorem dL_law_663 : decode cL_law 663 = .ok (.aload_n 1, 1) := by decide +kernel
theorem dL_law_664 : decode cL_law 664 = .ok (.invokevirtual 111, 3) := by decide +kernel
theorem dL_law_667 : decode cL_law 667 = .ok (.iconst 1, 1) := by decide +kernel
theorem dL_law_668 : decode cL_law 668 = .ok (.if_icmp .ge 5, 3) := by decide +kernel
theorem dL_law_671 : decode cL_law 671 = .ok (.iconst 0, 1) := by decide +kernel
theorem dL_law_672 : decode cL_law 672 = .ok (.ireturn, 1) := by decide +kernel
theorem dL_law_673 : decode cL_law 673 = .ok (.iload 13, 2) := by decide +kernel
theorem dL_law_675 : decode cL_law 675 = .ok (.ifCond .lt 14, 3) := by decide +kernel
theorem dL_law_678 : decode cL_law 678 = .ok (.aload_n 1, 1) := by decide +kernel
theorem dL_law_679 : decode cL_law 679 = .ok (.iload 10, 2) := by decide +kernel
theorem dL_law_681 : decode cL_law 681 = .ok (.invokevirtual 127, 3) := by decide +kernel
theorem dL_law_684 : decode cL_law 684 = .ok (.ifCond .ne 5, 3) := by decide +kernel
theorem dL_law_687 : decode cL_law 687 = .ok (.iconst 0, 1) := by decide +kernel
theorem dL_law_688 : decode cL_law 688 = .ok (.ireturn, 1) := by decide +kernel
theorem dL_law_689 : decode cL_law 689 = .ok (.iconst 0, 1) := by decide +kernel
theorem dL_law_690 : decode cL_law 690 = .ok (.istore 14, 2) := by decide +kernel
theorem dL_law_692 : decode cL_law 692 = .ok (.iload 14, 2) := by decide +kernel
theorem dL_law_694 : decode cL_law 694 = .ok (.iload 5, 2) := by decide +kernel
theorem dL_law_696 : decode cL_law 696 = .ok (.if_icmp .ge 28, 3) := by decide +kernel
theorem dL_law_699 : decode cL_law 699 = .ok (.aload 9, 2) := by decide +kernel
theorem dL_law_701 : decode cL_law 701 = .ok (.iload 14, 2) := by decide +kernel
theorem dL_law_703 : decode cL_law 703 = .ok (.baload, 1) := by decide +kernel
theorem dL_law_704 : decode cL_law 704 = .ok (.ifCond .eq 14, 3) := by decide +kernel
theorem dL_law_707 : decode cL_law 707 = .ok (.aload_n 1, 1) := by decide +kernel
theorem dL_law_708 : decode cL_law 708 = .ok (.iload 14, 2) := by decide +kernel
theorem dL_law_710 : decode cL_law 710 = .ok (.invokevirtual 123, 3) := by decide +kernel
theorem dL_law_713 : decode cL_law 713 = .ok (.ifCond .ne 5, 3) := by decide +kernel
theorem dL_law_716 : decode cL_law 716 = .ok (.iconst 0, 1) := by decide +kernel
theorem dL_law_717 : decode cL_law 717 = .ok (.ireturn, 1) := by decide +kernel
theorem dL_law_718 : decode cL_law 718 = .ok (.iinc 14 1, 3) := by decide +kernel
theorem dL_law_721 : decode cL_law 721 = .ok (.goto (-29), 3) := by decide +kernel
theorem dL_law_724 : decode cL_law 724 = .ok (.iinc 3 1, 3) := by decide +kernel
theorem dL_law_727 : decode cL_law 727 = .ok (.goto (-705), 3) := by decide +kernel
theorem dL_law_730 : decode cL_law 730 = .ok (.aload_n 2, 1) := by decide +kernel
theorem dL_law_731 : decode cL_law 731 = .ok (.aload_n 1, 1) := by decide +kernel
theorem dL_law_732 : decode cL_law 732 = .ok (.invokevirtual 160, 3) := by decide +kernel
theorem dL_law_735 : decode cL_law 735 = .ok (.ireturn, 1) := by decide +kernel

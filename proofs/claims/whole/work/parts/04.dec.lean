theorem dX0_init_0 : decode cX0_init 0 = .ok (.aload_n 0, 1) := by decide +kernel
theorem dX0_init_1 : decode cX0_init 1 = .ok (.invokespecial 3, 3) := by decide +kernel
theorem dX0_init_4 : decode cX0_init 4 = .ok (.aload_n 0, 1) := by decide +kernel
theorem dX0_init_5 : decode cX0_init 5 = .ok (.sipush 243, 3) := by decide +kernel
theorem dX0_init_8 : decode cX0_init 8 = .ok (.newarray .int, 2) := by decide +kernel
theorem dX0_init_10 : decode cX0_init 10 = .ok (.putfield 9, 3) := by decide +kernel
theorem dX0_init_13 : decode cX0_init 13 = .ok (.aload_n 0, 1) := by decide +kernel
theorem dX0_init_14 : decode cX0_init 14 = .ok (.iconst 0, 1) := by decide +kernel
theorem dX0_init_15 : decode cX0_init 15 = .ok (.putfield 15, 3) := by decide +kernel
theorem dX0_init_18 : decode cX0_init 18 = .ok (.return_, 1) := by decide +kernel
theorem dX0_count_0 : decode cX0_count 0 = .ok (.aload_n 0, 1) := by decide +kernel
theorem dX0_count_1 : decode cX0_count 1 = .ok (.getfield 15, 3) := by decide +kernel
theorem dX0_count_4 : decode cX0_count 4 = .ok (.ireturn, 1) := by decide +kernel
theorem dX0_at_0 : decode cX0_at 0 = .ok (.iload_n 1, 1) := by decide +kernel
theorem dX0_at_1 : decode cX0_at 1 = .ok (.ifCond .lt 21, 3) := by decide +kernel
theorem dX0_at_4 : decode cX0_at 4 = .ok (.iload_n 1, 1) := by decide +kernel
theorem dX0_at_5 : decode cX0_at 5 = .ok (.aload_n 0, 1) := by decide +kernel
theorem dX0_at_6 : decode cX0_at 6 = .ok (.getfield 9, 3) := by decide +kernel
theorem dX0_at_9 : decode cX0_at 9 = .ok (.arraylength, 1) := by decide +kernel
theorem dX0_at_10 : decode cX0_at 10 = .ok (.if_icmp .ge 12, 3) := by decide +kernel
theorem dX0_at_13 : decode cX0_at 13 = .ok (.aload_n 0, 1) := by decide +kernel
theorem dX0_at_14 : decode cX0_at 14 = .ok (.getfield 9, 3) := by decide +kernel
theorem dX0_at_17 : decode cX0_at 17 = .ok (.iload_n 1, 1) := by decide +kernel
theorem dX0_at_18 : decode cX0_at 18 = .ok (.iaload, 1) := by decide +kernel
theorem dX0_at_19 : decode cX0_at 19 = .ok (.goto 4, 3) := by decide +kernel
theorem dX0_at_22 : decode cX0_at 22 = .ok (.iconst 0, 1) := by decide +kernel
theorem dX0_at_23 : decode cX0_at 23 = .ok (.ireturn, 1) := by decide +kernel
theorem dX0_add_0 : decode cX0_add 0 = .ok (.aload_n 0, 1) := by decide +kernel
theorem dX0_add_1 : decode cX0_add 1 = .ok (.getfield 15, 3) := by decide +kernel
theorem dX0_add_4 : decode cX0_add 4 = .ok (.ifCond .lt 35, 3) := by decide +kernel
theorem dX0_add_7 : decode cX0_add 7 = .ok (.aload_n 0, 1) := by decide +kernel
theorem dX0_add_8 : decode cX0_add 8 = .ok (.getfield 15, 3) := by decide +kernel
theorem dX0_add_11 : decode cX0_add 11 = .ok (.aload_n 0, 1) := by decide +kernel
theorem dX0_add_12 : decode cX0_add 12 = .ok (.getfield 9, 3) := by decide +kernel
theorem dX0_add_15 : decode cX0_add 15 = .ok (.arraylength, 1) := by decide +kernel
theorem dX0_add_16 : decode cX0_add 16 = .ok (.if_icmp .ge 23, 3) := by decide +kernel
theorem dX0_add_19 : decode cX0_add 19 = .ok (.aload_n 0, 1) := by decide +kernel
theorem dX0_add_20 : decode cX0_add 20 = .ok (.getfield 9, 3) := by decide +kernel
theorem dX0_add_23 : decode cX0_add 23 = .ok (.aload_n 0, 1) := by decide +kernel
theorem dX0_add_24 : decode cX0_add 24 = .ok (.getfield 15, 3) := by decide +kernel
theorem dX0_add_27 : decode cX0_add 27 = .ok (.iload_n 1, 1) := by decide +kernel
theorem dX0_add_28 : decode cX0_add 28 = .ok (.iastore, 1) := by decide +kernel
theorem dX0_add_29 : decode cX0_add 29 = .ok (.aload_n 0, 1) := by decide +kernel
theorem dX0_add_30 : decode cX0_add 30 = .ok (.dup, 1) := by decide +kernel
theorem dX0_add_31 : decode cX0_add 31 = .ok (.getfield 15, 3) := by decide +kernel
theorem dX0_add_34 : decode cX0_add 34 = .ok (.iconst 1, 1) := by decide +kernel
theorem dX0_add_35 : decode cX0_add 35 = .ok (.iadd, 1) := by decide +kernel
theorem dX0_add_36 : decode cX0_add 36 = .ok (.putfield 15, 3) := by decide +kernel
theorem dX0_add_39 : decode cX0_add 39 = .ok (.return_, 1) := by decide +kernel
theorem dX0_clear_0 : decode cX0_clear 0 = .ok (.aload_n 0, 1) := by decide +kernel
theorem dX0_clear_1 : decode cX0_clear 1 = .ok (.iconst 0, 1) := by decide +kernel
theorem dX0_clear_2 : decode cX0_clear 2 = .ok (.putfield 15, 3) := by decide +kernel
theorem dX0_clear_5 : decode cX0_clear 5 = .ok (.return_, 1) := by decide +kernel
theorem dX0_put_0 : decode cX0_put 0 = .ok (.iload_n 1, 1) := by decide +kernel
theorem dX0_put_1 : decode cX0_put 1 = .ok (.ifCond .lt 19, 3) := by decide +kernel
theorem dX0_put_4 : decode cX0_put 4 = .ok (.iload_n 1, 1) := by decide +kernel
theorem dX0_put_5 : decode cX0_put 5 = .ok (.aload_n 0, 1) := by decide +kernel
theorem dX0_put_6 : decode cX0_put 6 = .ok (.getfield 9, 3) := by decide +kernel
theorem dX0_put_9 : decode cX0_put 9 = .ok (.arraylength, 1) := by decide +kernel
theorem dX0_put_10 : decode cX0_put 10 = .ok (.if_icmp .ge 10, 3) := by decide +kernel
theorem dX0_put_13 : decode cX0_put 13 = .ok (.aload_n 0, 1) := by decide +kernel
theorem dX0_put_14 : decode cX0_put 14 = .ok (.getfield 9, 3) := by decide +kernel
theorem dX0_put_17 : decode cX0_put 17 = .ok (.iload_n 1, 1) := by decide +kernel
theorem dX0_put_18 : decode cX0_put 18 = .ok (.iload_n 2, 1) := by decide +kernel
theorem dX0_put_19 : decode cX0_put 19 = .ok (.iastore, 1) := by decide +kernel
theorem dX0_put_20 : decode cX0_put 20 = .ok (.return_, 1) := by decide +kernel
theorem dX0_copyFrom_0 : decode cX0_copyFrom 0 = .ok (.aload_n 0, 1) := by decide +kernel
theorem dX0_copyFrom_1 : decode cX0_copyFrom 1 = .ok (.invokevirtual 19, 3) := by decide +kernel
theorem dX0_copyFrom_4 : decode cX0_copyFrom 4 = .ok (.iconst 0, 1) := by decide +kernel
theorem dX0_copyFrom_5 : decode cX0_copyFrom 5 = .ok (.istore_n 2, 1) := by decide +kernel
theorem dX0_copyFrom_6 : decode cX0_copyFrom 6 = .ok (.iload_n 2, 1) := by decide +kernel
theorem dX0_copyFrom_7 : decode cX0_copyFrom 7 = .ok (.aload_n 1, 1) := by decide +kernel
theorem dX0_copyFrom_8 : decode cX0_copyFrom 8 = .ok (.invokevirtual 22, 3) := by decide +kernel
theorem dX0_copyFrom_11 : decode cX0_copyFrom 11 = .ok (.if_icmp .ge 18, 3) := by decide +kernel
theorem dX0_copyFrom_14 : decode cX0_copyFrom 14 = .ok (.aload_n 0, 1) := by decide +kernel
theorem dX0_copyFrom_15 : decode cX0_copyFrom 15 = .ok (.aload_n 1, 1) := by decide +kernel
theorem dX0_copyFrom_16 : decode cX0_copyFrom 16 = .ok (.iload_n 2, 1) := by decide +kernel
theorem dX0_copyFrom_17 : decode cX0_copyFrom 17 = .ok (.invokevirtual 25, 3) := by decide +kernel
theorem dX0_copyFrom_20 : decode cX0_copyFrom 20 = .ok (.invokevirtual 29, 3) := by decide +kernel
theorem dX0_copyFrom_23 : decode cX0_copyFrom 23 = .ok (.iinc 2 1, 3) := by decide +kernel
theorem dX0_copyFrom_26 : decode cX0_copyFrom 26 = .ok (.goto (-20), 3) := by decide +kernel
theorem dX0_copyFrom_29 : decode cX0_copyFrom 29 = .ok (.return_, 1) := by decide +kernel
theorem dX1_init_0 : decode cX1_init 0 = .ok (.aload_n 0, 1) := by decide +kernel
theorem dX1_init_1 : decode cX1_init 1 = .ok (.invokespecial 1, 3) := by decide +kernel
theorem dX1_init_4 : decode cX1_init 4 = .ok (.aload_n 0, 1) := by decide +kernel
theorem dX1_init_5 : decode cX1_init 5 = .ok (.new 7, 3) := by decide +kernel
theorem dX1_init_8 : decode cX1_init 8 = .ok (.dup, 1) := by decide +kernel
theorem dX1_init_9 : decode cX1_init 9 = .ok (.invokespecial 9, 3) := by decide +kernel
theorem dX1_init_12 : decode cX1_init 12 = .ok (.putfield 10, 3) := by decide +kernel
theorem dX1_init_15 : decode cX1_init 15 = .ok (.aload_n 0, 1) := by decide +kernel
theorem dX1_init_16 : decode cX1_init 16 = .ok (.new 7, 3) := by decide +kernel
theorem dX1_init_19 : decode cX1_init 19 = .ok (.dup, 1) := by decide +kernel
theorem dX1_init_20 : decode cX1_init 20 = .ok (.invokespecial 9, 3) := by decide +kernel
theorem dX1_init_23 : decode cX1_init 23 = .ok (.putfield 16, 3) := by decide +kernel
theorem dX1_init_26 : decode cX1_init 26 = .ok (.aload_n 0, 1) := by decide +kernel
theorem dX1_init_27 : decode cX1_init 27 = .ok (.iconst 5, 1) := by decide +kernel
theorem dX1_init_28 : decode cX1_init 28 = .ok (.newarray .int, 2) := by decide +kernel
theorem dX1_init_30 : decode cX1_init 30 = .ok (.putfield 19, 3) := by decide +kernel
theorem dX1_init_33 : decode cX1_init 33 = .ok (.aload_n 0, 1) := by decide +kernel
theorem dX1_init_34 : decode cX1_init 34 = .ok (.sipush 1024, 3) := by decide +kernel
theorem dX1_init_37 : decode cX1_init 37 = .ok (.newarray .int, 2) := by decide +kernel
theorem dX1_init_39 : decode cX1_init 39 = .ok (.putfield 23, 3) := by decide +kernel
theorem dX1_init_42 : decode cX1_init 42 = .ok (.aload_n 0, 1) := by decide +kernel
theorem dX1_init_43 : decode cX1_init 43 = .ok (.iconst 0, 1) := by decide +kernel
theorem dX1_init_44 : decode cX1_init 44 = .ok (.putfield 26, 3) := by decide +kernel
theorem dX1_init_47 : decode cX1_init 47 = .ok (.aload_n 0, 1) := by decide +kernel
theorem dX1_init_48 : decode cX1_init 48 = .ok (.iconst 0, 1) := by decide +kernel
theorem dX1_init_49 : decode cX1_init 49 = .ok (.putfield 30, 3) := by decide +kernel
theorem dX1_init_52 : decode cX1_init 52 = .ok (.aload_n 0, 1) := by decide +kernel
theorem dX1_init_53 : decode cX1_init 53 = .ok (.iconst 0, 1) := by decide +kernel
theorem dX1_init_54 : decode cX1_init 54 = .ok (.putfield 33, 3) := by decide +kernel
theorem dX1_init_57 : decode cX1_init 57 = .ok (.aload_n 0, 1) := by decide +kernel
theorem dX1_init_58 : decode cX1_init 58 = .ok (.iconst 0, 1) := by decide +kernel
theorem dX1_init_59 : decode cX1_init 59 = .ok (.putfield 36, 3) := by decide +kernel
theorem dX1_init_62 : decode cX1_init 62 = .ok (.aload_n 0, 1) := by decide +kernel
theorem dX1_init_63 : decode cX1_init 63 = .ok (.iconst 0, 1) := by decide +kernel
theorem dX1_init_64 : decode cX1_init 64 = .ok (.putfield 39, 3) := by decide +kernel
theorem dX1_init_67 : decode cX1_init 67 = .ok (.aload_n 0, 1) := by decide +kernel
theorem dX1_init_68 : decode cX1_init 68 = .ok (.iconst 0, 1) := by decide +kernel
theorem dX1_init_69 : decode cX1_init 69 = .ok (.putfield 42, 3) := by decide +kernel
theorem dX1_init_72 : decode cX1_init 72 = .ok (.aload_n 0, 1) := by decide +kernel
theorem dX1_init_73 : decode cX1_init 73 = .ok (.getfield 10, 3) := by decide +kernel
theorem dX1_init_76 : decode cX1_init 76 = .ok (.iconst 0, 1) := by decide +kernel
theorem dX1_init_77 : decode cX1_init 77 = .ok (.invokevirtual 46, 3) := by decide +kernel
theorem dX1_init_80 : decode cX1_init 80 = .ok (.return_, 1) := by decide +kernel
theorem dX1_addPlayer_0 : decode cX1_addPlayer 0 = .ok (.iload_n 1, 1) := by decide +kernel
theorem dX1_addPlayer_1 : decode cX1_addPlayer 1 = .ok (.invokestatic 50, 3) := by decide +kernel
theorem dX1_addPlayer_4 : decode cX1_addPlayer 4 = .ok (.aload_n 0, 1) := by decide +kernel
theorem dX1_addPlayer_5 : decode cX1_addPlayer 5 = .ok (.getfield 26, 3) := by decide +kernel
theorem dX1_addPlayer_8 : decode cX1_addPlayer 8 = .ok (.iconst 5, 1) := by decide +kernel
theorem dX1_addPlayer_9 : decode cX1_addPlayer 9 = .ok (.if_icmp .ge 10, 3) := by decide +kernel
theorem dX1_addPlayer_12 : decode cX1_addPlayer 12 = .ok (.aload_n 0, 1) := by decide +kernel
theorem dX1_addPlayer_13 : decode cX1_addPlayer 13 = .ok (.getfield 42, 3) := by decide +kernel
theorem dX1_addPlayer_16 : decode cX1_addPlayer 16 = .ok (.ifCond .eq 13, 3) := by decide +kernel
theorem dX1_addPlayer_19 : decode cX1_addPlayer 19 = .ok (.new 53, 3) := by decide +kernel
theorem dX1_addPlayer_22 : decode cX1_addPlayer 22 = .ok (.dup, 1) := by decide +kernel
theorem dX1_addPlayer_23 : decode cX1_addPlayer 23 = .ok (.ldc 55, 2) := by decide +kernel
theorem dX1_addPlayer_25 : decode cX1_addPlayer 25 = .ok (.invokespecial 57, 3) := by decide +kernel
theorem dX1_addPlayer_28 : decode cX1_addPlayer 28 = .ok (.athrow, 1) := by decide +kernel
theorem dX1_addPlayer_29 : decode cX1_addPlayer 29 = .ok (.aload_n 0, 1) := by decide +kernel
theorem dX1_addPlayer_30 : decode cX1_addPlayer 30 = .ok (.getfield 26, 3) := by decide +kernel
theorem dX1_addPlayer_33 : decode cX1_addPlayer 33 = .ok (.istore_n 2, 1) := by decide +kernel
theorem dX1_addPlayer_34 : decode cX1_addPlayer 34 = .ok (.aload_n 0, 1) := by decide +kernel
theorem dX1_addPlayer_35 : decode cX1_addPlayer 35 = .ok (.dup, 1) := by decide +kernel
theorem dX1_addPlayer_36 : decode cX1_addPlayer 36 = .ok (.getfield 26, 3) := by decide +kernel
theorem dX1_addPlayer_39 : decode cX1_addPlayer 39 = .ok (.iconst 1, 1) := by decide +kernel
theorem dX1_addPlayer_40 : decode cX1_addPlayer 40 = .ok (.iadd, 1) := by decide +kernel
theorem dX1_addPlayer_41 : decode cX1_addPlayer 41 = .ok (.putfield 26, 3) := by decide +kernel
theorem dX1_addPlayer_44 : decode cX1_addPlayer 44 = .ok (.aload_n 0, 1) := by decide +kernel
theorem dX1_addPlayer_45 : decode cX1_addPlayer 45 = .ok (.aload_n 0, 1) := by decide +kernel
theorem dX1_addPlayer_46 : decode cX1_addPlayer 46 = .ok (.getfield 30, 3) := by decide +kernel
theorem dX1_addPlayer_49 : decode cX1_addPlayer 49 = .ok (.iload_n 1, 1) := by decide +kernel
theorem dX1_addPlayer_50 : decode cX1_addPlayer 50 = .ok (.iload_n 2, 1) := by decide +kernel
theorem dX1_addPlayer_51 : decode cX1_addPlayer 51 = .ok (.invokestatic 60, 3) := by decide +kernel
theorem dX1_addPlayer_54 : decode cX1_addPlayer 54 = .ok (.ishl, 1) := by decide +kernel
theorem dX1_addPlayer_55 : decode cX1_addPlayer 55 = .ok (.ior, 1) := by decide +kernel
theorem dX1_addPlayer_56 : decode cX1_addPlayer 56 = .ok (.putfield 30, 3) := by decide +kernel
theorem dX1_addPlayer_59 : decode cX1_addPlayer 59 = .ok (.aload_n 0, 1) := by decide +kernel
theorem dX1_addPlayer_60 : decode cX1_addPlayer 60 = .ok (.iload_n 2, 1) := by decide +kernel
theorem dX1_addPlayer_61 : decode cX1_addPlayer 61 = .ok (.invokevirtual 64, 3) := by decide +kernel
theorem dX1_addPlayer_64 : decode cX1_addPlayer 64 = .ok (.aload_n 0, 1) := by decide +kernel
theorem dX1_addPlayer_65 : decode cX1_addPlayer 65 = .ok (.iload_n 2, 1) := by decide +kernel
theorem dX1_addPlayer_66 : decode cX1_addPlayer 66 = .ok (.invokevirtual 67, 3) := by decide +kernel
theorem dX1_addPlayer_69 : decode cX1_addPlayer 69 = .ok (.iload_n 2, 1) := by decide +kernel
theorem dX1_addPlayer_70 : decode cX1_addPlayer 70 = .ok (.ireturn, 1) := by decide +kernel
theorem dX1_turnAway_0 : decode cX1_turnAway 0 = .ok (.aload_n 0, 1) := by decide +kernel
theorem dX1_turnAway_1 : decode cX1_turnAway 1 = .ok (.iload_n 1, 1) := by decide +kernel
theorem dX1_turnAway_2 : decode cX1_turnAway 2 = .ok (.iload_n 2, 1) := by decide +kernel
theorem dX1_turnAway_3 : decode cX1_turnAway 3 = .ok (.invokevirtual 70, 3) := by decide +kernel
theorem dX1_turnAway_6 : decode cX1_turnAway 6 = .ok (.aload_n 0, 1) := by decide +kernel
theorem dX1_turnAway_7 : decode cX1_turnAway 7 = .ok (.iload_n 1, 1) := by decide +kernel
theorem dX1_turnAway_8 : decode cX1_turnAway 8 = .ok (.aload_n 0, 1) := by decide +kernel
theorem dX1_turnAway_9 : decode cX1_turnAway 9 = .ok (.iload_n 1, 1) := by decide +kernel
theorem dX1_turnAway_10 : decode cX1_turnAway 10 = .ok (.invokevirtual 74, 3) := by decide +kernel
theorem dX1_turnAway_13 : decode cX1_turnAway 13 = .ok (.iload_n 2, 1) := by decide +kernel
theorem dX1_turnAway_14 : decode cX1_turnAway 14 = .ok (.invokestatic 77, 3) := by decide +kernel
theorem dX1_turnAway_17 : decode cX1_turnAway 17 = .ok (.ixor, 1) := by decide +kernel
theorem dX1_turnAway_18 : decode cX1_turnAway 18 = .ok (.invokevirtual 80, 3) := by decide +kernel
theorem dX1_turnAway_21 : decode cX1_turnAway 21 = .ok (.aload_n 0, 1) := by decide +kernel
theorem dX1_turnAway_22 : decode cX1_turnAway 22 = .ok (.iload_n 1, 1) := by decide +kernel
theorem dX1_turnAway_23 : decode cX1_turnAway 23 = .ok (.iload_n 2, 1) := by decide +kernel
theorem dX1_turnAway_24 : decode cX1_turnAway 24 = .ok (.invokevirtual 83, 3) := by decide +kernel
theorem dX1_turnAway_27 : decode cX1_turnAway 27 = .ok (.ireturn, 1) := by decide +kernel
theorem dX1_borrow_0 : decode cX1_borrow 0 = .ok (.aload_n 0, 1) := by decide +kernel
theorem dX1_borrow_1 : decode cX1_borrow 1 = .ok (.iload_n 1, 1) := by decide +kernel
theorem dX1_borrow_2 : decode cX1_borrow 2 = .ok (.iload_n 2, 1) := by decide +kernel
theorem dX1_borrow_3 : decode cX1_borrow 3 = .ok (.invokevirtual 70, 3) := by decide +kernel
theorem dX1_borrow_6 : decode cX1_borrow 6 = .ok (.aload_n 0, 1) := by decide +kernel
theorem dX1_borrow_7 : decode cX1_borrow 7 = .ok (.iconst 1, 1) := by decide +kernel
theorem dX1_borrow_8 : decode cX1_borrow 8 = .ok (.putfield 42, 3) := by decide +kernel
theorem dX1_borrow_11 : decode cX1_borrow 11 = .ok (.aload_n 0, 1) := by decide +kernel
theorem dX1_borrow_12 : decode cX1_borrow 12 = .ok (.aload_n 0, 1) := by decide +kernel
theorem dX1_borrow_13 : decode cX1_borrow 13 = .ok (.getfield 30, 3) := by decide +kernel
theorem dX1_borrow_16 : decode cX1_borrow 16 = .ok (.iload_n 1, 1) := by decide +kernel
theorem dX1_borrow_17 : decode cX1_borrow 17 = .ok (.iload_n 2, 1) := by decide +kernel
theorem dX1_borrow_18 : decode cX1_borrow 18 = .ok (.invokestatic 87, 3) := by decide +kernel
theorem dX1_borrow_21 : decode cX1_borrow 21 = .ok (.putfield 30, 3) := by decide +kernel
theorem dX1_borrow_24 : decode cX1_borrow 24 = .ok (.iconst 0, 1) := by decide +kernel
theorem dX1_borrow_25 : decode cX1_borrow 25 = .ok (.istore_n 3, 1) := by decide +kernel
theorem dX1_borrow_26 : decode cX1_borrow 26 = .ok (.iload_n 3, 1) := by decide +kernel
theorem dX1_borrow_27 : decode cX1_borrow 27 = .ok (.aload_n 0, 1) := by decide +kernel
theorem dX1_borrow_28 : decode cX1_borrow 28 = .ok (.getfield 10, 3) := by decide +kernel
theorem dX1_borrow_31 : decode cX1_borrow 31 = .ok (.invokevirtual 91, 3) := by decide +kernel
theorem dX1_borrow_34 : decode cX1_borrow 34 = .ok (.if_icmp .ge 30, 3) := by decide +kernel
theorem dX1_borrow_37 : decode cX1_borrow 37 = .ok (.aload_n 0, 1) := by decide +kernel
theorem dX1_borrow_38 : decode cX1_borrow 38 = .ok (.getfield 10, 3) := by decide +kernel
theorem dX1_borrow_41 : decode cX1_borrow 41 = .ok (.iload_n 3, 1) := by decide +kernel
theorem dX1_borrow_42 : decode cX1_borrow 42 = .ok (.aload_n 0, 1) := by decide +kernel
theorem dX1_borrow_43 : decode cX1_borrow 43 = .ok (.getfield 10, 3) := by decide +kernel
theorem dX1_borrow_46 : decode cX1_borrow 46 = .ok (.iload_n 3, 1) := by decide +kernel
theorem dX1_borrow_47 : decode cX1_borrow 47 = .ok (.invokevirtual 95, 3) := by decide +kernel
theorem dX1_borrow_50 : decode cX1_borrow 50 = .ok (.iload_n 1, 1) := by decide +kernel
theorem dX1_borrow_51 : decode cX1_borrow 51 = .ok (.iload_n 2, 1) := by decide +kernel
theorem dX1_borrow_52 : decode cX1_borrow 52 = .ok (.invokestatic 87, 3) := by decide +kernel
theorem dX1_borrow_55 : decode cX1_borrow 55 = .ok (.invokevirtual 98, 3) := by decide +kernel
theorem dX1_borrow_58 : decode cX1_borrow 58 = .ok (.iinc 3 1, 3) := by decide +kernel
theorem dX1_borrow_61 : decode cX1_borrow 61 = .ok (.goto (-35), 3) := by decide +kernel
theorem dX1_borrow_64 : decode cX1_borrow 64 = .ok (.aload_n 0, 1) := by decide +kernel
theorem dX1_borrow_65 : decode cX1_borrow 65 = .ok (.getfield 30, 3) := by decide +kernel
theorem dX1_borrow_68 : decode cX1_borrow 68 = .ok (.iload_n 1, 1) := by decide +kernel
theorem dX1_borrow_69 : decode cX1_borrow 69 = .ok (.invokestatic 101, 3) := by decide +kernel
theorem dX1_borrow_72 : decode cX1_borrow 72 = .ok (.ireturn, 1) := by decide +kernel
theorem dX1_takeTurn_0 : decode cX1_takeTurn 0 = .ok (.aload_n 0, 1) := by decide +kernel
theorem dX1_takeTurn_1 : decode cX1_takeTurn 1 = .ok (.invokevirtual 105, 3) := by decide +kernel
theorem dX1_takeTurn_4 : decode cX1_takeTurn 4 = .ok (.aload_n 0, 1) := by decide +kernel
theorem dX1_takeTurn_5 : decode cX1_takeTurn 5 = .ok (.getfield 33, 3) := by decide +kernel
theorem dX1_takeTurn_8 : decode cX1_takeTurn 8 = .ok (.istore_n 1, 1) := by decide +kernel
theorem dX1_takeTurn_9 : decode cX1_takeTurn 9 = .ok (.aload_n 0, 1) := by decide +kernel
theorem dX1_takeTurn_10 : decode cX1_takeTurn 10 = .ok (.aload_n 0, 1) := by decide +kernel
theorem dX1_takeTurn_11 : decode cX1_takeTurn 11 = .ok (.getfield 10, 3) := by decide +kernel
theorem dX1_takeTurn_14 : decode cX1_takeTurn 14 = .ok (.iload_n 1, 1) := by decide +kernel
theorem dX1_takeTurn_15 : decode cX1_takeTurn 15 = .ok (.invokevirtual 108, 3) := by decide +kernel
theorem dX1_takeTurn_18 : decode cX1_takeTurn 18 = .ok (.istore_n 2, 1) := by decide +kernel
theorem dX1_takeTurn_19 : decode cX1_takeTurn 19 = .ok (.aload_n 0, 1) := by decide +kernel
theorem dX1_takeTurn_20 : decode cX1_takeTurn 20 = .ok (.iconst 1, 1) := by decide +kernel
theorem dX1_takeTurn_21 : decode cX1_takeTurn 21 = .ok (.putfield 42, 3) := by decide +kernel
theorem dX1_takeTurn_24 : decode cX1_takeTurn 24 = .ok (.aload_n 0, 1) := by decide +kernel
theorem dX1_takeTurn_25 : decode cX1_takeTurn 25 = .ok (.aload_n 0, 1) := by decide +kernel
theorem dX1_takeTurn_26 : decode cX1_takeTurn 26 = .ok (.iload_n 1, 1) := by decide +kernel
theorem dX1_takeTurn_27 : decode cX1_takeTurn 27 = .ok (.invokevirtual 112, 3) := by decide +kernel
theorem dX1_takeTurn_30 : decode cX1_takeTurn 30 = .ok (.putfield 33, 3) := by decide +kernel
theorem dX1_takeTurn_33 : decode cX1_takeTurn 33 = .ok (.aload_n 0, 1) := by decide +kernel
theorem dX1_takeTurn_34 : decode cX1_takeTurn 34 = .ok (.dup, 1) := by decide +kernel
theorem dX1_takeTurn_35 : decode cX1_takeTurn 35 = .ok (.getfield 36, 3) := by decide +kernel
theorem dX1_takeTurn_38 : decode cX1_takeTurn 38 = .ok (.iconst 1, 1) := by decide +kernel
theorem dX1_takeTurn_39 : decode cX1_takeTurn 39 = .ok (.iadd, 1) := by decide +kernel
theorem dX1_takeTurn_40 : decode cX1_takeTurn 40 = .ok (.putfield 36, 3) := by decide +kernel
theorem dX1_takeTurn_43 : decode cX1_takeTurn 43 = .ok (.iload_n 2, 1) := by decide +kernel
theorem dX1_takeTurn_44 : decode cX1_takeTurn 44 = .ok (.ifCond .eq 12, 3) := by decide +kernel
theorem dX1_takeTurn_47 : decode cX1_takeTurn 47 = .ok (.aload_n 0, 1) := by decide +kernel
theorem dX1_takeTurn_48 : decode cX1_takeTurn 48 = .ok (.getfield 30, 3) := by decide +kernel
theorem dX1_takeTurn_51 : decode cX1_takeTurn 51 = .ok (.iload_n 1, 1) := by decide +kernel
theorem dX1_takeTurn_52 : decode cX1_takeTurn 52 = .ok (.invokestatic 101, 3) := by decide +kernel
theorem dX1_takeTurn_55 : decode cX1_takeTurn 55 = .ok (.ireturn, 1) := by decide +kernel
theorem dX1_takeTurn_56 : decode cX1_takeTurn 56 = .ok (.aload_n 0, 1) := by decide +kernel
theorem dX1_takeTurn_57 : decode cX1_takeTurn 57 = .ok (.dup, 1) := by decide +kernel
theorem dX1_takeTurn_58 : decode cX1_takeTurn 58 = .ok (.getfield 39, 3) := by decide +kernel
theorem dX1_takeTurn_61 : decode cX1_takeTurn 61 = .ok (.iconst 1, 1) := by decide +kernel
theorem dX1_takeTurn_62 : decode cX1_takeTurn 62 = .ok (.iadd, 1) := by decide +kernel
theorem dX1_takeTurn_63 : decode cX1_takeTurn 63 = .ok (.putfield 39, 3) := by decide +kernel
theorem dX1_takeTurn_66 : decode cX1_takeTurn 66 = .ok (.iconst (-1), 1) := by decide +kernel
theorem dX1_takeTurn_67 : decode cX1_takeTurn 67 = .ok (.ireturn, 1) := by decide +kernel
theorem dX1_sayAtLeast_0 : decode cX1_sayAtLeast 0 = .ok (.iload_n 1, 1) := by decide +kernel
theorem dX1_sayAtLeast_1 : decode cX1_sayAtLeast 1 = .ok (.invokestatic 50, 3) := by decide +kernel
theorem dX1_sayAtLeast_4 : decode cX1_sayAtLeast 4 = .ok (.iload_n 2, 1) := by decide +kernel
theorem dX1_sayAtLeast_5 : decode cX1_sayAtLeast 5 = .ok (.invokestatic 115, 3) := by decide +kernel
theorem dX1_sayAtLeast_8 : decode cX1_sayAtLeast 8 = .ok (.aload_n 0, 1) := by decide +kernel
theorem dX1_sayAtLeast_9 : decode cX1_sayAtLeast 9 = .ok (.iload_n 1, 1) := by decide +kernel
theorem dX1_sayAtLeast_10 : decode cX1_sayAtLeast 10 = .ok (.iload_n 2, 1) := by decide +kernel
theorem dX1_sayAtLeast_11 : decode cX1_sayAtLeast 11 = .ok (.iconst 5, 1) := by decide +kernel
theorem dX1_sayAtLeast_12 : decode cX1_sayAtLeast 12 = .ok (.invokevirtual 118, 3) := by decide +kernel
theorem dX1_sayAtLeast_15 : decode cX1_sayAtLeast 15 = .ok (.ireturn, 1) := by decide +kernel
theorem dX1_sayAtMost_0 : decode cX1_sayAtMost 0 = .ok (.iload_n 1, 1) := by decide +kernel
theorem dX1_sayAtMost_1 : decode cX1_sayAtMost 1 = .ok (.invokestatic 50, 3) := by decide +kernel
theorem dX1_sayAtMost_4 : decode cX1_sayAtMost 4 = .ok (.iload_n 2, 1) := by decide +kernel
theorem dX1_sayAtMost_5 : decode cX1_sayAtMost 5 = .ok (.invokestatic 115, 3) := by decide +kernel
theorem dX1_sayAtMost_8 : decode cX1_sayAtMost 8 = .ok (.aload_n 0, 1) := by decide +kernel
theorem dX1_sayAtMost_9 : decode cX1_sayAtMost 9 = .ok (.iload_n 1, 1) := by decide +kernel
theorem dX1_sayAtMost_10 : decode cX1_sayAtMost 10 = .ok (.iconst 0, 1) := by decide +kernel
theorem dX1_sayAtMost_11 : decode cX1_sayAtMost 11 = .ok (.iload_n 2, 1) := by decide +kernel
theorem dX1_sayAtMost_12 : decode cX1_sayAtMost 12 = .ok (.invokevirtual 118, 3) := by decide +kernel
theorem dX1_sayAtMost_15 : decode cX1_sayAtMost 15 = .ok (.ireturn, 1) := by decide +kernel
theorem dX1_begin_0 : decode cX1_begin 0 = .ok (.aload_n 0, 1) := by decide +kernel
theorem dX1_begin_1 : decode cX1_begin 1 = .ok (.getfield 10, 3) := by decide +kernel
theorem dX1_begin_4 : decode cX1_begin 4 = .ok (.invokevirtual 121, 3) := by decide +kernel
theorem dX1_begin_7 : decode cX1_begin 7 = .ok (.aload_n 0, 1) := by decide +kernel
theorem dX1_begin_8 : decode cX1_begin 8 = .ok (.getfield 10, 3) := by decide +kernel
theorem dX1_begin_11 : decode cX1_begin 11 = .ok (.iconst 0, 1) := by decide +kernel
theorem dX1_begin_12 : decode cX1_begin 12 = .ok (.invokevirtual 46, 3) := by decide +kernel
theorem dX1_begin_15 : decode cX1_begin 15 = .ok (.iconst 0, 1) := by decide +kernel
theorem dX1_begin_16 : decode cX1_begin 16 = .ok (.istore_n 1, 1) := by decide +kernel
theorem dX1_begin_17 : decode cX1_begin 17 = .ok (.iload_n 1, 1) := by decide +kernel
theorem dX1_begin_18 : decode cX1_begin 18 = .ok (.aload_n 0, 1) := by decide +kernel
theorem dX1_begin_19 : decode cX1_begin 19 = .ok (.getfield 26, 3) := by decide +kernel
theorem dX1_begin_22 : decode cX1_begin 22 = .ok (.if_icmp .ge 14, 3) := by decide +kernel
theorem dX1_begin_25 : decode cX1_begin 25 = .ok (.aload_n 0, 1) := by decide +kernel
theorem dX1_begin_26 : decode cX1_begin 26 = .ok (.iload_n 1, 1) := by decide +kernel
theorem dX1_begin_27 : decode cX1_begin 27 = .ok (.invokevirtual 67, 3) := by decide +kernel
theorem dX1_begin_30 : decode cX1_begin 30 = .ok (.iinc 1 1, 3) := by decide +kernel
theorem dX1_begin_33 : decode cX1_begin 33 = .ok (.goto (-16), 3) := by decide +kernel
theorem dX1_begin_36 : decode cX1_begin 36 = .ok (.aload_n 0, 1) := by decide +kernel
theorem dX1_begin_37 : decode cX1_begin 37 = .ok (.iconst 0, 1) := by decide +kernel
theorem dX1_begin_38 : decode cX1_begin 38 = .ok (.putfield 33, 3) := by decide +kernel
theorem dX1_begin_41 : decode cX1_begin 41 = .ok (.aload_n 0, 1) := by decide +kernel
theorem dX1_begin_42 : decode cX1_begin 42 = .ok (.iconst 0, 1) := by decide +kernel
theorem dX1_begin_43 : decode cX1_begin 43 = .ok (.putfield 36, 3) := by decide +kernel
theorem dX1_begin_46 : decode cX1_begin 46 = .ok (.aload_n 0, 1) := by decide +kernel
theorem dX1_begin_47 : decode cX1_begin 47 = .ok (.iconst 0, 1) := by decide +kernel
theorem dX1_begin_48 : decode cX1_begin 48 = .ok (.putfield 39, 3) := by decide +kernel
theorem dX1_begin_51 : decode cX1_begin 51 = .ok (.aload_n 0, 1) := by decide +kernel
theorem dX1_begin_52 : decode cX1_begin 52 = .ok (.iconst 0, 1) := by decide +kernel
theorem dX1_begin_53 : decode cX1_begin 53 = .ok (.putfield 42, 3) := by decide +kernel
theorem dX1_begin_56 : decode cX1_begin 56 = .ok (.aload_n 0, 1) := by decide +kernel
theorem dX1_begin_57 : decode cX1_begin 57 = .ok (.getfield 10, 3) := by decide +kernel
theorem dX1_begin_60 : decode cX1_begin 60 = .ok (.invokevirtual 91, 3) := by decide +kernel
theorem dX1_begin_63 : decode cX1_begin 63 = .ok (.ireturn, 1) := by decide +kernel
theorem dX1_players_0 : decode cX1_players 0 = .ok (.aload_n 0, 1) := by decide +kernel
theorem dX1_players_1 : decode cX1_players 1 = .ok (.getfield 26, 3) := by decide +kernel
theorem dX1_players_4 : decode cX1_players 4 = .ok (.ireturn, 1) := by decide +kernel
theorem dX1_turnsTaken_0 : decode cX1_turnsTaken 0 = .ok (.aload_n 0, 1) := by decide +kernel
theorem dX1_turnsTaken_1 : decode cX1_turnsTaken 1 = .ok (.getfield 36, 3) := by decide +kernel
theorem dX1_turnsTaken_4 : decode cX1_turnsTaken 4 = .ok (.ireturn, 1) := by decide +kernel
theorem dX1_silentTurns_0 : decode cX1_silentTurns 0 = .ok (.aload_n 0, 1) := by decide +kernel
theorem dX1_silentTurns_1 : decode cX1_silentTurns 1 = .ok (.getfield 39, 3) := by decide +kernel
theorem dX1_silentTurns_4 : decode cX1_silentTurns 4 = .ok (.ireturn, 1) := by decide +kernel
theorem dX1_playerInTurn_0 : decode cX1_playerInTurn 0 = .ok (.aload_n 0, 1) := by decide +kernel
theorem dX1_playerInTurn_1 : decode cX1_playerInTurn 1 = .ok (.getfield 26, 3) := by decide +kernel
theorem dX1_playerInTurn_4 : decode cX1_playerInTurn 4 = .ok (.ifCond .le 10, 3) := by decide +kernel
theorem dX1_playerInTurn_7 : decode cX1_playerInTurn 7 = .ok (.aload_n 0, 1) := by decide +kernel
theorem dX1_playerInTurn_8 : decode cX1_playerInTurn 8 = .ok (.getfield 33, 3) := by decide +kernel
theorem dX1_playerInTurn_11 : decode cX1_playerInTurn 11 = .ok (.goto 4, 3) := by decide +kernel
theorem dX1_playerInTurn_14 : decode cX1_playerInTurn 14 = .ok (.iconst (-1), 1) := by decide +kernel
theorem dX1_playerInTurn_15 : decode cX1_playerInTurn 15 = .ok (.ireturn, 1) := by decide +kernel
theorem dX1_hatOf_0 : decode cX1_hatOf 0 = .ok (.aload_n 0, 1) := by decide +kernel
theorem dX1_hatOf_1 : decode cX1_hatOf 1 = .ok (.iload_n 1, 1) := by decide +kernel
theorem dX1_hatOf_2 : decode cX1_hatOf 2 = .ok (.invokevirtual 124, 3) := by decide +kernel
theorem dX1_hatOf_5 : decode cX1_hatOf 5 = .ok (.aload_n 0, 1) := by decide +kernel
theorem dX1_hatOf_6 : decode cX1_hatOf 6 = .ok (.getfield 30, 3) := by decide +kernel
theorem dX1_hatOf_9 : decode cX1_hatOf 9 = .ok (.iload_n 1, 1) := by decide +kernel
theorem dX1_hatOf_10 : decode cX1_hatOf 10 = .ok (.invokestatic 101, 3) := by decide +kernel
theorem dX1_hatOf_13 : decode cX1_hatOf 13 = .ok (.ireturn, 1) := by decide +kernel
theorem dX1_sees_0 : decode cX1_sees 0 = .ok (.aload_n 0, 1) := by decide +kernel
theorem dX1_sees_1 : decode cX1_sees 1 = .ok (.iload_n 1, 1) := by decide +kernel
theorem dX1_sees_2 : decode cX1_sees 2 = .ok (.invokevirtual 124, 3) := by decide +kernel
theorem dX1_sees_5 : decode cX1_sees 5 = .ok (.aload_n 0, 1) := by decide +kernel
theorem dX1_sees_6 : decode cX1_sees 6 = .ok (.iload_n 2, 1) := by decide +kernel
theorem dX1_sees_7 : decode cX1_sees 7 = .ok (.invokevirtual 124, 3) := by decide +kernel
theorem dX1_sees_10 : decode cX1_sees 10 = .ok (.aload_n 0, 1) := by decide +kernel
theorem dX1_sees_11 : decode cX1_sees 11 = .ok (.iload_n 1, 1) := by decide +kernel
theorem dX1_sees_12 : decode cX1_sees 12 = .ok (.iload_n 2, 1) := by decide +kernel
theorem dX1_sees_13 : decode cX1_sees 13 = .ok (.invokevirtual 83, 3) := by decide +kernel
theorem dX1_sees_16 : decode cX1_sees 16 = .ok (.ireturn, 1) := by decide +kernel
theorem dX1_hatsOf_0 : decode cX1_hatsOf 0 = .ok (.iload_n 1, 1) := by decide +kernel
theorem dX1_hatsOf_1 : decode cX1_hatsOf 1 = .ok (.invokestatic 50, 3) := by decide +kernel
theorem dX1_hatsOf_4 : decode cX1_hatsOf 4 = .ok (.aload_n 0, 1) := by decide +kernel
theorem dX1_hatsOf_5 : decode cX1_hatsOf 5 = .ok (.aload_n 0, 1) := by decide +kernel
theorem dX1_hatsOf_6 : decode cX1_hatsOf 6 = .ok (.getfield 30, 3) := by decide +kernel
theorem dX1_hatsOf_9 : decode cX1_hatsOf 9 = .ok (.iload_n 1, 1) := by decide +kernel
theorem dX1_hatsOf_10 : decode cX1_hatsOf 10 = .ok (.invokevirtual 127, 3) := by decide +kernel
theorem dX1_hatsOf_13 : decode cX1_hatsOf 13 = .ok (.ireturn, 1) := by decide +kernel
theorem dX1_openWays_0 : decode cX1_openWays 0 = .ok (.aload_n 0, 1) := by decide +kernel
theorem dX1_openWays_1 : decode cX1_openWays 1 = .ok (.getfield 10, 3) := by decide +kernel
theorem dX1_openWays_4 : decode cX1_openWays 4 = .ok (.invokevirtual 91, 3) := by decide +kernel
theorem dX1_openWays_7 : decode cX1_openWays 7 = .ok (.ireturn, 1) := by decide +kernel
theorem dX1_openWaysWith_0 : decode cX1_openWaysWith 0 = .ok (.aload_n 0, 1) := by decide +kernel
theorem dX1_openWaysWith_1 : decode cX1_openWaysWith 1 = .ok (.iload_n 1, 1) := by decide +kernel
theorem dX1_openWaysWith_2 : decode cX1_openWaysWith 2 = .ok (.invokevirtual 124, 3) := by decide +kernel
theorem dX1_openWaysWith_5 : decode cX1_openWaysWith 5 = .ok (.iload_n 2, 1) := by decide +kernel
theorem dX1_openWaysWith_6 : decode cX1_openWaysWith 6 = .ok (.invokestatic 50, 3) := by decide +kernel
theorem dX1_openWaysWith_9 : decode cX1_openWaysWith 9 = .ok (.aload_n 0, 1) := by decide +kernel
theorem dX1_openWaysWith_10 : decode cX1_openWaysWith 10 = .ok (.iload_n 1, 1) := by decide +kernel
theorem dX1_openWaysWith_11 : decode cX1_openWaysWith 11 = .ok (.iload_n 2, 1) := by decide +kernel
theorem dX1_openWaysWith_12 : decode cX1_openWaysWith 12 = .ok (.invokevirtual 130, 3) := by decide +kernel
theorem dX1_openWaysWith_15 : decode cX1_openWaysWith 15 = .ok (.ireturn, 1) := by decide +kernel
theorem dX1_isKnownToAll_0 : decode cX1_isKnownToAll 0 = .ok (.aload_n 0, 1) := by decide +kernel
theorem dX1_isKnownToAll_1 : decode cX1_isKnownToAll 1 = .ok (.iload_n 1, 1) := by decide +kernel
theorem dX1_isKnownToAll_2 : decode cX1_isKnownToAll 2 = .ok (.invokevirtual 124, 3) := by decide +kernel
theorem dX1_isKnownToAll_5 : decode cX1_isKnownToAll 5 = .ok (.aload_n 0, 1) := by decide +kernel
theorem dX1_isKnownToAll_6 : decode cX1_isKnownToAll 6 = .ok (.iload_n 1, 1) := by decide +kernel
theorem dX1_isKnownToAll_7 : decode cX1_isKnownToAll 7 = .ok (.aload_n 0, 1) := by decide +kernel
theorem dX1_isKnownToAll_8 : decode cX1_isKnownToAll 8 = .ok (.getfield 30, 3) := by decide +kernel
theorem dX1_isKnownToAll_11 : decode cX1_isKnownToAll 11 = .ok (.iload_n 1, 1) := by decide +kernel
theorem dX1_isKnownToAll_12 : decode cX1_isKnownToAll 12 = .ok (.invokestatic 101, 3) := by decide +kernel
theorem dX1_isKnownToAll_15 : decode cX1_isKnownToAll 15 = .ok (.invokevirtual 130, 3) := by decide +kernel
theorem dX1_isKnownToAll_18 : decode cX1_isKnownToAll 18 = .ok (.aload_n 0, 1) := by decide +kernel
theorem dX1_isKnownToAll_19 : decode cX1_isKnownToAll 19 = .ok (.getfield 10, 3) := by decide +kernel
theorem dX1_isKnownToAll_22 : decode cX1_isKnownToAll 22 = .ok (.invokevirtual 91, 3) := by decide +kernel
theorem dX1_isKnownToAll_25 : decode cX1_isKnownToAll 25 = .ok (.if_icmp .ne 7, 3) := by decide +kernel
theorem dX1_isKnownToAll_28 : decode cX1_isKnownToAll 28 = .ok (.iconst 1, 1) := by decide +kernel
theorem dX1_isKnownToAll_29 : decode cX1_isKnownToAll 29 = .ok (.goto 4, 3) := by decide +kernel
theorem dX1_isKnownToAll_32 : decode cX1_isKnownToAll 32 = .ok (.iconst 0, 1) := by decide +kernel
theorem dX1_isKnownToAll_33 : decode cX1_isKnownToAll 33 = .ok (.ireturn, 1) := by decide +kernel
theorem dX1_possibleWays_0 : decode cX1_possibleWays 0 = .ok (.aload_n 0, 1) := by decide +kernel
theorem dX1_possibleWays_1 : decode cX1_possibleWays 1 = .ok (.iload_n 1, 1) := by decide +kernel
theorem dX1_possibleWays_2 : decode cX1_possibleWays 2 = .ok (.invokevirtual 124, 3) := by decide +kernel
theorem dX1_possibleWays_5 : decode cX1_possibleWays 5 = .ok (.aload_n 0, 1) := by decide +kernel
theorem dX1_possibleWays_6 : decode cX1_possibleWays 6 = .ok (.iload_n 1, 1) := by decide +kernel
theorem dX1_possibleWays_7 : decode cX1_possibleWays 7 = .ok (.invokevirtual 133, 3) := by decide +kernel
theorem dX1_possibleWays_10 : decode cX1_possibleWays 10 = .ok (.ireturn, 1) := by decide +kernel
theorem dX1_holdsPossible_0 : decode cX1_holdsPossible 0 = .ok (.aload_n 0, 1) := by decide +kernel
theorem dX1_holdsPossible_1 : decode cX1_holdsPossible 1 = .ok (.iload_n 1, 1) := by decide +kernel
theorem dX1_holdsPossible_2 : decode cX1_holdsPossible 2 = .ok (.invokevirtual 124, 3) := by decide +kernel
theorem dX1_holdsPossible_5 : decode cX1_holdsPossible 5 = .ok (.aload_n 0, 1) := by decide +kernel
theorem dX1_holdsPossible_6 : decode cX1_holdsPossible 6 = .ok (.iload_n 2, 1) := by decide +kernel
theorem dX1_holdsPossible_7 : decode cX1_holdsPossible 7 = .ok (.invokevirtual 124, 3) := by decide +kernel
theorem dX1_holdsPossible_10 : decode cX1_holdsPossible 10 = .ok (.iload_n 3, 1) := by decide +kernel
theorem dX1_holdsPossible_11 : decode cX1_holdsPossible 11 = .ok (.invokestatic 50, 3) := by decide +kernel
theorem dX1_holdsPossible_14 : decode cX1_holdsPossible 14 = .ok (.aload_n 0, 1) := by decide +kernel
theorem dX1_holdsPossible_15 : decode cX1_holdsPossible 15 = .ok (.aload_n 0, 1) := by decide +kernel
theorem dX1_holdsPossible_16 : decode cX1_holdsPossible 16 = .ok (.getfield 10, 3) := by decide +kernel
theorem dX1_holdsPossible_19 : decode cX1_holdsPossible 19 = .ok (.iload_n 1, 1) := by decide +kernel
theorem dX1_holdsPossible_20 : decode cX1_holdsPossible 20 = .ok (.iload_n 2, 1) := by decide +kernel
theorem dX1_holdsPossible_21 : decode cX1_holdsPossible 21 = .ok (.invokevirtual 136, 3) := by decide +kernel
theorem dX1_holdsPossible_24 : decode cX1_holdsPossible 24 = .ok (.iconst 1, 1) := by decide +kernel
theorem dX1_holdsPossible_25 : decode cX1_holdsPossible 25 = .ok (.iload_n 3, 1) := by decide +kernel
theorem dX1_holdsPossible_26 : decode cX1_holdsPossible 26 = .ok (.ishl, 1) := by decide +kernel
theorem dX1_holdsPossible_27 : decode cX1_holdsPossible 27 = .ok (.iand, 1) := by decide +kernel
theorem dX1_holdsPossible_28 : decode cX1_holdsPossible 28 = .ok (.ifCond .eq 7, 3) := by decide +kernel
theorem dX1_holdsPossible_31 : decode cX1_holdsPossible 31 = .ok (.iconst 1, 1) := by decide +kernel
theorem dX1_holdsPossible_32 : decode cX1_holdsPossible 32 = .ok (.goto 4, 3) := by decide +kernel
theorem dX1_holdsPossible_35 : decode cX1_holdsPossible 35 = .ok (.iconst 0, 1) := by decide +kernel
theorem dX1_holdsPossible_36 : decode cX1_holdsPossible 36 = .ok (.ireturn, 1) := by decide +kernel
theorem dX1_isCertain_0 : decode cX1_isCertain 0 = .ok (.aload_n 0, 1) := by decide +kernel
theorem dX1_isCertain_1 : decode cX1_isCertain 1 = .ok (.iload_n 1, 1) := by decide +kernel
theorem dX1_isCertain_2 : decode cX1_isCertain 2 = .ok (.invokevirtual 124, 3) := by decide +kernel
theorem dX1_isCertain_5 : decode cX1_isCertain 5 = .ok (.aload_n 0, 1) := by decide +kernel
theorem dX1_isCertain_6 : decode cX1_isCertain 6 = .ok (.aload_n 0, 1) := by decide +kernel
theorem dX1_isCertain_7 : decode cX1_isCertain 7 = .ok (.getfield 10, 3) := by decide +kernel
theorem dX1_isCertain_10 : decode cX1_isCertain 10 = .ok (.iload_n 1, 1) := by decide +kernel
theorem dX1_isCertain_11 : decode cX1_isCertain 11 = .ok (.invokevirtual 140, 3) := by decide +kernel
theorem dX1_isCertain_14 : decode cX1_isCertain 14 = .ok (.ireturn, 1) := by decide +kernel
theorem dX1_knowsHatOf_0 : decode cX1_knowsHatOf 0 = .ok (.aload_n 0, 1) := by decide +kernel
theorem dX1_knowsHatOf_1 : decode cX1_knowsHatOf 1 = .ok (.iload_n 1, 1) := by decide +kernel
theorem dX1_knowsHatOf_2 : decode cX1_knowsHatOf 2 = .ok (.invokevirtual 124, 3) := by decide +kernel
theorem dX1_knowsHatOf_5 : decode cX1_knowsHatOf 5 = .ok (.aload_n 0, 1) := by decide +kernel
theorem dX1_knowsHatOf_6 : decode cX1_knowsHatOf 6 = .ok (.iload_n 2, 1) := by decide +kernel
theorem dX1_knowsHatOf_7 : decode cX1_knowsHatOf 7 = .ok (.invokevirtual 124, 3) := by decide +kernel
theorem dX1_knowsHatOf_10 : decode cX1_knowsHatOf 10 = .ok (.aload_n 0, 1) := by decide +kernel
theorem dX1_knowsHatOf_11 : decode cX1_knowsHatOf 11 = .ok (.aload_n 0, 1) := by decide +kernel
theorem dX1_knowsHatOf_12 : decode cX1_knowsHatOf 12 = .ok (.getfield 10, 3) := by decide +kernel
theorem dX1_knowsHatOf_15 : decode cX1_knowsHatOf 15 = .ok (.iload_n 1, 1) := by decide +kernel
theorem dX1_knowsHatOf_16 : decode cX1_knowsHatOf 16 = .ok (.iload_n 2, 1) := by decide +kernel
theorem dX1_knowsHatOf_17 : decode cX1_knowsHatOf 17 = .ok (.invokevirtual 136, 3) := by decide +kernel
theorem dX1_knowsHatOf_20 : decode cX1_knowsHatOf 20 = .ok (.invokestatic 143, 3) := by decide +kernel
theorem dX1_knowsHatOf_23 : decode cX1_knowsHatOf 23 = .ok (.ireturn, 1) := by decide +kernel
theorem dX1_knowsCertain_0 : decode cX1_knowsCertain 0 = .ok (.aload_n 0, 1) := by decide +kernel
theorem dX1_knowsCertain_1 : decode cX1_knowsCertain 1 = .ok (.iload_n 1, 1) := by decide +kernel
theorem dX1_knowsCertain_2 : decode cX1_knowsCertain 2 = .ok (.invokevirtual 124, 3) := by decide +kernel
theorem dX1_knowsCertain_5 : decode cX1_knowsCertain 5 = .ok (.aload_n 0, 1) := by decide +kernel
theorem dX1_knowsCertain_6 : decode cX1_knowsCertain 6 = .ok (.iload_n 2, 1) := by decide +kernel
theorem dX1_knowsCertain_7 : decode cX1_knowsCertain 7 = .ok (.invokevirtual 124, 3) := by decide +kernel
theorem dX1_knowsCertain_10 : decode cX1_knowsCertain 10 = .ok (.aload_n 0, 1) := by decide +kernel
theorem dX1_knowsCertain_11 : decode cX1_knowsCertain 11 = .ok (.aload_n 0, 1) := by decide +kernel
theorem dX1_knowsCertain_12 : decode cX1_knowsCertain 12 = .ok (.getfield 10, 3) := by decide +kernel
theorem dX1_knowsCertain_15 : decode cX1_knowsCertain 15 = .ok (.iload_n 2, 1) := by decide +kernel
theorem dX1_knowsCertain_16 : decode cX1_knowsCertain 16 = .ok (.invokevirtual 147, 3) := by decide +kernel
theorem dX1_knowsCertain_19 : decode cX1_knowsCertain 19 = .ok (.aload_n 0, 1) := by decide +kernel
theorem dX1_knowsCertain_20 : decode cX1_knowsCertain 20 = .ok (.iload_n 1, 1) := by decide +kernel
theorem dX1_knowsCertain_21 : decode cX1_knowsCertain 21 = .ok (.invokevirtual 74, 3) := by decide +kernel
theorem dX1_knowsCertain_24 : decode cX1_knowsCertain 24 = .ok (.istore_n 3, 1) := by decide +kernel
theorem dX1_knowsCertain_25 : decode cX1_knowsCertain 25 = .ok (.iconst 0, 1) := by decide +kernel
theorem dX1_knowsCertain_26 : decode cX1_knowsCertain 26 = .ok (.istore 4, 2) := by decide +kernel
theorem dX1_knowsCertain_28 : decode cX1_knowsCertain 28 = .ok (.iload 4, 2) := by decide +kernel
theorem dX1_knowsCertain_30 : decode cX1_knowsCertain 30 = .ok (.aload_n 0, 1) := by decide +kernel
theorem dX1_knowsCertain_31 : decode cX1_knowsCertain 31 = .ok (.getfield 10, 3) := by decide +kernel
theorem dX1_knowsCertain_34 : decode cX1_knowsCertain 34 = .ok (.invokevirtual 91, 3) := by decide +kernel
theorem dX1_knowsCertain_37 : decode cX1_knowsCertain 37 = .ok (.if_icmp .ge 42, 3) := by decide +kernel
theorem dX1_knowsCertain_40 : decode cX1_knowsCertain 40 = .ok (.aload_n 0, 1) := by decide +kernel
theorem dX1_knowsCertain_41 : decode cX1_knowsCertain 41 = .ok (.getfield 10, 3) := by decide +kernel
theorem dX1_knowsCertain_44 : decode cX1_knowsCertain 44 = .ok (.iload 4, 2) := by decide +kernel
theorem dX1_knowsCertain_46 : decode cX1_knowsCertain 46 = .ok (.invokevirtual 95, 3) := by decide +kernel
theorem dX1_knowsCertain_49 : decode cX1_knowsCertain 49 = .ok (.istore 5, 2) := by decide +kernel
theorem dX1_knowsCertain_51 : decode cX1_knowsCertain 51 = .ok (.aload_n 0, 1) := by decide +kernel
theorem dX1_knowsCertain_52 : decode cX1_knowsCertain 52 = .ok (.iload 5, 2) := by decide +kernel
theorem dX1_knowsCertain_54 : decode cX1_knowsCertain 54 = .ok (.iload_n 3, 1) := by decide +kernel
theorem dX1_knowsCertain_55 : decode cX1_knowsCertain 55 = .ok (.invokevirtual 151, 3) := by decide +kernel
theorem dX1_knowsCertain_58 : decode cX1_knowsCertain 58 = .ok (.ifCond .eq 15, 3) := by decide +kernel
theorem dX1_knowsCertain_61 : decode cX1_knowsCertain 61 = .ok (.aload_n 0, 1) := by decide +kernel
theorem dX1_knowsCertain_62 : decode cX1_knowsCertain 62 = .ok (.iload 5, 2) := by decide +kernel
theorem dX1_knowsCertain_64 : decode cX1_knowsCertain 64 = .ok (.iload_n 2, 1) := by decide +kernel
theorem dX1_knowsCertain_65 : decode cX1_knowsCertain 65 = .ok (.invokevirtual 154, 3) := by decide +kernel
theorem dX1_knowsCertain_68 : decode cX1_knowsCertain 68 = .ok (.ifCond .ne 5, 3) := by decide +kernel
theorem dX1_knowsCertain_71 : decode cX1_knowsCertain 71 = .ok (.iconst 0, 1) := by decide +kernel
theorem dX1_knowsCertain_72 : decode cX1_knowsCertain 72 = .ok (.ireturn, 1) := by decide +kernel
theorem dX1_knowsCertain_73 : decode cX1_knowsCertain 73 = .ok (.iinc 4 1, 3) := by decide +kernel
theorem dX1_knowsCertain_76 : decode cX1_knowsCertain 76 = .ok (.goto (-48), 3) := by decide +kernel
theorem dX1_knowsCertain_79 : decode cX1_knowsCertain 79 = .ok (.iconst 1, 1) := by decide +kernel
theorem dX1_knowsCertain_80 : decode cX1_knowsCertain 80 = .ok (.ireturn, 1) := by decide +kernel
theorem dX1_certainPlayers_0 : decode cX1_certainPlayers 0 = .ok (.aload_n 0, 1) := by decide +kernel
theorem dX1_certainPlayers_1 : decode cX1_certainPlayers 1 = .ok (.aload_n 0, 1) := by decide +kernel
theorem dX1_certainPlayers_2 : decode cX1_certainPlayers 2 = .ok (.getfield 10, 3) := by decide +kernel
theorem dX1_certainPlayers_5 : decode cX1_certainPlayers 5 = .ok (.invokevirtual 157, 3) := by decide +kernel
theorem dX1_certainPlayers_8 : decode cX1_certainPlayers 8 = .ok (.ireturn, 1) := by decide +kernel
theorem dX1_openAfterTurn_0 : decode cX1_openAfterTurn 0 = .ok (.aload_n 0, 1) := by decide +kernel
theorem dX1_openAfterTurn_1 : decode cX1_openAfterTurn 1 = .ok (.invokevirtual 105, 3) := by decide +kernel
theorem dX1_openAfterTurn_4 : decode cX1_openAfterTurn 4 = .ok (.aload_n 0, 1) := by decide +kernel
theorem dX1_openAfterTurn_5 : decode cX1_openAfterTurn 5 = .ok (.getfield 16, 3) := by decide +kernel
theorem dX1_openAfterTurn_8 : decode cX1_openAfterTurn 8 = .ok (.aload_n 0, 1) := by decide +kernel
theorem dX1_openAfterTurn_9 : decode cX1_openAfterTurn 9 = .ok (.getfield 10, 3) := by decide +kernel
theorem dX1_openAfterTurn_12 : decode cX1_openAfterTurn 12 = .ok (.invokevirtual 161, 3) := by decide +kernel
theorem dX1_openAfterTurn_15 : decode cX1_openAfterTurn 15 = .ok (.aload_n 0, 1) := by decide +kernel
theorem dX1_openAfterTurn_16 : decode cX1_openAfterTurn 16 = .ok (.aload_n 0, 1) := by decide +kernel
theorem dX1_openAfterTurn_17 : decode cX1_openAfterTurn 17 = .ok (.getfield 16, 3) := by decide +kernel
theorem dX1_openAfterTurn_20 : decode cX1_openAfterTurn 20 = .ok (.aload_n 0, 1) := by decide +kernel
theorem dX1_openAfterTurn_21 : decode cX1_openAfterTurn 21 = .ok (.getfield 33, 3) := by decide +kernel
theorem dX1_openAfterTurn_24 : decode cX1_openAfterTurn 24 = .ok (.invokevirtual 108, 3) := by decide +kernel
theorem dX1_openAfterTurn_27 : decode cX1_openAfterTurn 27 = .ok (.pop, 1) := by decide +kernel
theorem dX1_openAfterTurn_28 : decode cX1_openAfterTurn 28 = .ok (.aload_n 0, 1) := by decide +kernel
theorem dX1_openAfterTurn_29 : decode cX1_openAfterTurn 29 = .ok (.getfield 16, 3) := by decide +kernel
theorem dX1_openAfterTurn_32 : decode cX1_openAfterTurn 32 = .ok (.invokevirtual 91, 3) := by decide +kernel
theorem dX1_openAfterTurn_35 : decode cX1_openAfterTurn 35 = .ok (.ireturn, 1) := by decide +kernel
theorem dX1_turnsUntilCertain_0 : decode cX1_turnsUntilCertain 0 = .ok (.aload_n 0, 1) := by decide +kernel
theorem dX1_turnsUntilCertain_1 : decode cX1_turnsUntilCertain 1 = .ok (.iload_n 1, 1) := by decide +kernel
theorem dX1_turnsUntilCertain_2 : decode cX1_turnsUntilCertain 2 = .ok (.invokevirtual 124, 3) := by decide +kernel
theorem dX1_turnsUntilCertain_5 : decode cX1_turnsUntilCertain 5 = .ok (.aload_n 0, 1) := by decide +kernel
theorem dX1_turnsUntilCertain_6 : decode cX1_turnsUntilCertain 6 = .ok (.iload_n 1, 1) := by decide +kernel
theorem dX1_turnsUntilCertain_7 : decode cX1_turnsUntilCertain 7 = .ok (.iload_n 1, 1) := by decide +kernel
theorem dX1_turnsUntilCertain_8 : decode cX1_turnsUntilCertain 8 = .ok (.iconst 1, 1) := by decide +kernel
theorem dX1_turnsUntilCertain_9 : decode cX1_turnsUntilCertain 9 = .ok (.iadd, 1) := by decide +kernel
theorem dX1_turnsUntilCertain_10 : decode cX1_turnsUntilCertain 10 = .ok (.invokevirtual 165, 3) := by decide +kernel
theorem dX1_turnsUntilCertain_13 : decode cX1_turnsUntilCertain 13 = .ok (.ireturn, 1) := by decide +kernel
theorem dX1_turnsUntilAllCertain_0 : decode cX1_turnsUntilAllCertain 0 = .ok (.aload_n 0, 1) := by decide +kernel
theorem dX1_turnsUntilAllCertain_1 : decode cX1_turnsUntilAllCertain 1 = .ok (.iconst 0, 1) := by decide +kernel
theorem dX1_turnsUntilAllCertain_2 : decode cX1_turnsUntilAllCertain 2 = .ok (.aload_n 0, 1) := by decide +kernel
theorem dX1_turnsUntilAllCertain_3 : decode cX1_turnsUntilAllCertain 3 = .ok (.getfield 26, 3) := by decide +kernel
theorem dX1_turnsUntilAllCertain_6 : decode cX1_turnsUntilAllCertain 6 = .ok (.invokevirtual 165, 3) := by decide +kernel
theorem dX1_turnsUntilAllCertain_9 : decode cX1_turnsUntilAllCertain 9 = .ok (.ireturn, 1) := by decide +kernel
theorem dX1_bestToName_0 : decode cX1_bestToName 0 = .ok (.iconst (-1), 1) := by decide +kernel
theorem dX1_bestToName_1 : decode cX1_bestToName 1 = .ok (.istore_n 1, 1) := by decide +kernel
theorem dX1_bestToName_2 : decode cX1_bestToName 2 = .ok (.sipush 244, 3) := by decide +kernel
theorem dX1_bestToName_5 : decode cX1_bestToName 5 = .ok (.istore_n 2, 1) := by decide +kernel
theorem dX1_bestToName_6 : decode cX1_bestToName 6 = .ok (.iconst 0, 1) := by decide +kernel
theorem dX1_bestToName_7 : decode cX1_bestToName 7 = .ok (.istore_n 3, 1) := by decide +kernel
theorem dX1_bestToName_8 : decode cX1_bestToName 8 = .ok (.iload_n 3, 1) := by decide +kernel
theorem dX1_bestToName_9 : decode cX1_bestToName 9 = .ok (.iconst 3, 1) := by decide +kernel
theorem dX1_bestToName_10 : decode cX1_bestToName 10 = .ok (.if_icmp .ge 39, 3) := by decide +kernel
theorem dX1_bestToName_13 : decode cX1_bestToName 13 = .ok (.aload_n 0, 1) := by decide +kernel
theorem dX1_bestToName_14 : decode cX1_bestToName 14 = .ok (.iload_n 3, 1) := by decide +kernel
theorem dX1_bestToName_15 : decode cX1_bestToName 15 = .ok (.invokevirtual 168, 3) := by decide +kernel
theorem dX1_bestToName_18 : decode cX1_bestToName 18 = .ok (.istore 4, 2) := by decide +kernel
theorem dX1_bestToName_20 : decode cX1_bestToName 20 = .ok (.aload_n 0, 1) := by decide +kernel
theorem dX1_bestToName_21 : decode cX1_bestToName 21 = .ok (.aload_n 0, 1) := by decide +kernel
theorem dX1_bestToName_22 : decode cX1_bestToName 22 = .ok (.getfield 30, 3) := by decide +kernel
theorem dX1_bestToName_25 : decode cX1_bestToName 25 = .ok (.iload_n 3, 1) := by decide +kernel
theorem dX1_bestToName_26 : decode cX1_bestToName 26 = .ok (.invokevirtual 127, 3) := by decide +kernel
theorem dX1_bestToName_29 : decode cX1_bestToName 29 = .ok (.ifCond .le 14, 3) := by decide +kernel
theorem dX1_bestToName_32 : decode cX1_bestToName 32 = .ok (.iload 4, 2) := by decide +kernel
theorem dX1_bestToName_34 : decode cX1_bestToName 34 = .ok (.iload_n 2, 1) := by decide +kernel
theorem dX1_bestToName_35 : decode cX1_bestToName 35 = .ok (.if_icmp .ge 8, 3) := by decide +kernel
theorem dX1_bestToName_38 : decode cX1_bestToName 38 = .ok (.iload_n 3, 1) := by decide +kernel
theorem dX1_bestToName_39 : decode cX1_bestToName 39 = .ok (.istore_n 1, 1) := by decide +kernel
theorem dX1_bestToName_40 : decode cX1_bestToName 40 = .ok (.iload 4, 2) := by decide +kernel
theorem dX1_bestToName_42 : decode cX1_bestToName 42 = .ok (.istore_n 2, 1) := by decide +kernel
theorem dX1_bestToName_43 : decode cX1_bestToName 43 = .ok (.iinc 3 1, 3) := by decide +kernel
theorem dX1_bestToName_46 : decode cX1_bestToName 46 = .ok (.goto (-38), 3) := by decide +kernel
theorem dX1_bestToName_49 : decode cX1_bestToName 49 = .ok (.iload_n 1, 1) := by decide +kernel
theorem dX1_bestToName_50 : decode cX1_bestToName 50 = .ok (.ireturn, 1) := by decide +kernel
theorem dX1_certainIfTold_0 : decode cX1_certainIfTold 0 = .ok (.aload_n 0, 1) := by decide +kernel
theorem dX1_certainIfTold_1 : decode cX1_certainIfTold 1 = .ok (.iload_n 1, 1) := by decide +kernel
theorem dX1_certainIfTold_2 : decode cX1_certainIfTold 2 = .ok (.invokevirtual 124, 3) := by decide +kernel
theorem dX1_certainIfTold_5 : decode cX1_certainIfTold 5 = .ok (.aload_n 0, 1) := by decide +kernel
theorem dX1_certainIfTold_6 : decode cX1_certainIfTold 6 = .ok (.getfield 16, 3) := by decide +kernel
theorem dX1_certainIfTold_9 : decode cX1_certainIfTold 9 = .ok (.aload_n 0, 1) := by decide +kernel
theorem dX1_certainIfTold_10 : decode cX1_certainIfTold 10 = .ok (.getfield 10, 3) := by decide +kernel
theorem dX1_certainIfTold_13 : decode cX1_certainIfTold 13 = .ok (.invokevirtual 161, 3) := by decide +kernel
theorem dX1_certainIfTold_16 : decode cX1_certainIfTold 16 = .ok (.aload_n 0, 1) := by decide +kernel
theorem dX1_certainIfTold_17 : decode cX1_certainIfTold 17 = .ok (.getfield 16, 3) := by decide +kernel
theorem dX1_certainIfTold_20 : decode cX1_certainIfTold 20 = .ok (.iload_n 1, 1) := by decide +kernel
theorem dX1_certainIfTold_21 : decode cX1_certainIfTold 21 = .ok (.aload_n 0, 1) := by decide +kernel
theorem dX1_certainIfTold_22 : decode cX1_certainIfTold 22 = .ok (.getfield 30, 3) := by decide +kernel
theorem dX1_certainIfTold_25 : decode cX1_certainIfTold 25 = .ok (.iload_n 1, 1) := by decide +kernel
theorem dX1_certainIfTold_26 : decode cX1_certainIfTold 26 = .ok (.invokestatic 101, 3) := by decide +kernel
theorem dX1_certainIfTold_29 : decode cX1_certainIfTold 29 = .ok (.invokestatic 171, 3) := by decide +kernel
theorem dX1_certainIfTold_32 : decode cX1_certainIfTold 32 = .ok (.aload_n 0, 1) := by decide +kernel
theorem dX1_certainIfTold_33 : decode cX1_certainIfTold 33 = .ok (.aload_n 0, 1) := by decide +kernel
theorem dX1_certainIfTold_34 : decode cX1_certainIfTold 34 = .ok (.getfield 16, 3) := by decide +kernel
theorem dX1_certainIfTold_37 : decode cX1_certainIfTold 37 = .ok (.invokevirtual 157, 3) := by decide +kernel
theorem dX1_certainIfTold_40 : decode cX1_certainIfTold 40 = .ok (.ireturn, 1) := by decide +kernel
theorem dX1_meanPossible_0 : decode cX1_meanPossible 0 = .ok (.aload_n 0, 1) := by decide +kernel
theorem dX1_meanPossible_1 : decode cX1_meanPossible 1 = .ok (.getfield 26, 3) := by decide +kernel
theorem dX1_meanPossible_4 : decode cX1_meanPossible 4 = .ok (.ifCond .gt 5, 3) := by decide +kernel
theorem dX1_meanPossible_7 : decode cX1_meanPossible 7 = .ok (.dconst 0, 1) := by decide +kernel
theorem dX1_meanPossible_8 : decode cX1_meanPossible 8 = .ok (.dreturn, 1) := by decide +kernel
theorem dX1_meanPossible_9 : decode cX1_meanPossible 9 = .ok (.iconst 0, 1) := by decide +kernel
theorem dX1_meanPossible_10 : decode cX1_meanPossible 10 = .ok (.istore_n 1, 1) := by decide +kernel
theorem dX1_meanPossible_11 : decode cX1_meanPossible 11 = .ok (.iconst 0, 1) := by decide +kernel
theorem dX1_meanPossible_12 : decode cX1_meanPossible 12 = .ok (.istore_n 2, 1) := by decide +kernel
theorem dX1_meanPossible_13 : decode cX1_meanPossible 13 = .ok (.iload_n 2, 1) := by decide +kernel
theorem dX1_meanPossible_14 : decode cX1_meanPossible 14 = .ok (.aload_n 0, 1) := by decide +kernel
theorem dX1_meanPossible_15 : decode cX1_meanPossible 15 = .ok (.getfield 26, 3) := by decide +kernel
theorem dX1_meanPossible_18 : decode cX1_meanPossible 18 = .ok (.if_icmp .ge 17, 3) := by decide +kernel
theorem dX1_meanPossible_21 : decode cX1_meanPossible 21 = .ok (.iload_n 1, 1) := by decide +kernel
theorem dX1_meanPossible_22 : decode cX1_meanPossible 22 = .ok (.aload_n 0, 1) := by decide +kernel
theorem dX1_meanPossible_23 : decode cX1_meanPossible 23 = .ok (.iload_n 2, 1) := by decide +kernel
theorem dX1_meanPossible_24 : decode cX1_meanPossible 24 = .ok (.invokevirtual 133, 3) := by decide +kernel
theorem dX1_meanPossible_27 : decode cX1_meanPossible 27 = .ok (.iadd, 1) := by decide +kernel
theorem dX1_meanPossible_28 : decode cX1_meanPossible 28 = .ok (.istore_n 1, 1) := by decide +kernel
theorem dX1_meanPossible_29 : decode cX1_meanPossible 29 = .ok (.iinc 2 1, 3) := by decide +kernel
theorem dX1_meanPossible_32 : decode cX1_meanPossible 32 = .ok (.goto (-19), 3) := by decide +kernel
theorem dX1_meanPossible_35 : decode cX1_meanPossible 35 = .ok (.iload_n 1, 1) := by decide +kernel
theorem dX1_meanPossible_36 : decode cX1_meanPossible 36 = .ok (.i2d, 1) := by decide +kernel
theorem dX1_meanPossible_37 : decode cX1_meanPossible 37 = .ok (.aload_n 0, 1) := by decide +kernel
theorem dX1_meanPossible_38 : decode cX1_meanPossible 38 = .ok (.getfield 26, 3) := by decide +kernel
theorem dX1_meanPossible_41 : decode cX1_meanPossible 41 = .ok (.i2d, 1) := by decide +kernel
theorem dX1_meanPossible_42 : decode cX1_meanPossible 42 = .ok (.ddiv, 1) := by decide +kernel
theorem dX1_meanPossible_43 : decode cX1_meanPossible 43 = .ok (.dreturn, 1) := by decide +kernel
theorem dX1_digest_0 : decode cX1_digest 0 = .ok (.ldc2_w 175, 3) := by decide +kernel
theorem dX1_digest_3 : decode cX1_digest 3 = .ok (.lstore_n 1, 1) := by decide +kernel
theorem dX1_digest_4 : decode cX1_digest 4 = .ok (.lload_n 1, 1) := by decide +kernel
theorem dX1_digest_5 : decode cX1_digest 5 = .ok (.aload_n 0, 1) := by decide +kernel
theorem dX1_digest_6 : decode cX1_digest 6 = .ok (.invokevirtual 177, 3) := by decide +kernel
theorem dX1_digest_9 : decode cX1_digest 9 = .ok (.i2l, 1) := by decide +kernel
theorem dX1_digest_10 : decode cX1_digest 10 = .ok (.invokestatic 180, 3) := by decide +kernel
theorem dX1_digest_13 : decode cX1_digest 13 = .ok (.lstore_n 1, 1) := by decide +kernel
theorem dX1_digest_14 : decode cX1_digest 14 = .ok (.lload_n 1, 1) := by decide +kernel
theorem dX1_digest_15 : decode cX1_digest 15 = .ok (.aload_n 0, 1) := by decide +kernel
theorem dX1_digest_16 : decode cX1_digest 16 = .ok (.invokevirtual 184, 3) := by decide +kernel
theorem dX1_digest_19 : decode cX1_digest 19 = .ok (.i2l, 1) := by decide +kernel
theorem dX1_digest_20 : decode cX1_digest 20 = .ok (.invokestatic 180, 3) := by decide +kernel
theorem dX1_digest_23 : decode cX1_digest 23 = .ok (.lstore_n 1, 1) := by decide +kernel
theorem dX1_digest_24 : decode cX1_digest 24 = .ok (.lload_n 1, 1) := by decide +kernel
theorem dX1_digest_25 : decode cX1_digest 25 = .ok (.aload_n 0, 1) := by decide +kernel
theorem dX1_digest_26 : decode cX1_digest 26 = .ok (.invokevirtual 187, 3) := by decide +kernel
theorem dX1_digest_29 : decode cX1_digest 29 = .ok (.i2l, 1) := by decide +kernel
theorem dX1_digest_30 : decode cX1_digest 30 = .ok (.invokestatic 180, 3) := by decide +kernel
theorem dX1_digest_33 : decode cX1_digest 33 = .ok (.lstore_n 1, 1) := by decide +kernel
theorem dX1_digest_34 : decode cX1_digest 34 = .ok (.lload_n 1, 1) := by decide +kernel
theorem dX1_digest_35 : decode cX1_digest 35 = .ok (.aload_n 0, 1) := by decide +kernel
theorem dX1_digest_36 : decode cX1_digest 36 = .ok (.invokevirtual 190, 3) := by decide +kernel
theorem dX1_digest_39 : decode cX1_digest 39 = .ok (.i2l, 1) := by decide +kernel
theorem dX1_digest_40 : decode cX1_digest 40 = .ok (.invokestatic 180, 3) := by decide +kernel
theorem dX1_digest_43 : decode cX1_digest 43 = .ok (.lstore_n 1, 1) := by decide +kernel
theorem dX1_digest_44 : decode cX1_digest 44 = .ok (.lload_n 1, 1) := by decide +kernel
theorem dX1_digest_45 : decode cX1_digest 45 = .ok (.aload_n 0, 1) := by decide +kernel
theorem dX1_digest_46 : decode cX1_digest 46 = .ok (.invokevirtual 193, 3) := by decide +kernel
theorem dX1_digest_49 : decode cX1_digest 49 = .ok (.i2l, 1) := by decide +kernel
theorem dX1_digest_50 : decode cX1_digest 50 = .ok (.invokestatic 180, 3) := by decide +kernel
theorem dX1_digest_53 : decode cX1_digest 53 = .ok (.lstore_n 1, 1) := by decide +kernel
theorem dX1_digest_54 : decode cX1_digest 54 = .ok (.lload_n 1, 1) := by decide +kernel
theorem dX1_digest_55 : decode cX1_digest 55 = .ok (.aload_n 0, 1) := by decide +kernel
theorem dX1_digest_56 : decode cX1_digest 56 = .ok (.invokevirtual 196, 3) := by decide +kernel
theorem dX1_digest_59 : decode cX1_digest 59 = .ok (.i2l, 1) := by decide +kernel
theorem dX1_digest_60 : decode cX1_digest 60 = .ok (.invokestatic 180, 3) := by decide +kernel
theorem dX1_digest_63 : decode cX1_digest 63 = .ok (.lstore_n 1, 1) := by decide +kernel
theorem dX1_digest_64 : decode cX1_digest 64 = .ok (.lload_n 1, 1) := by decide +kernel
theorem dX1_digest_65 : decode cX1_digest 65 = .ok (.aload_n 0, 1) := by decide +kernel
theorem dX1_digest_66 : decode cX1_digest 66 = .ok (.invokevirtual 199, 3) := by decide +kernel
theorem dX1_digest_69 : decode cX1_digest 69 = .ok (.i2l, 1) := by decide +kernel
theorem dX1_digest_70 : decode cX1_digest 70 = .ok (.invokestatic 180, 3) := by decide +kernel
theorem dX1_digest_73 : decode cX1_digest 73 = .ok (.lstore_n 1, 1) := by decide +kernel
theorem dX1_digest_74 : decode cX1_digest 74 = .ok (.lload_n 1, 1) := by decide +kernel
theorem dX1_digest_75 : decode cX1_digest 75 = .ok (.aload_n 0, 1) := by decide +kernel
theorem dX1_digest_76 : decode cX1_digest 76 = .ok (.getfield 26, 3) := by decide +kernel
theorem dX1_digest_79 : decode cX1_digest 79 = .ok (.ifCond .le 11, 3) := by decide +kernel
theorem dX1_digest_82 : decode cX1_digest 82 = .ok (.aload_n 0, 1) := by decide +kernel
theorem dX1_digest_83 : decode cX1_digest 83 = .ok (.invokevirtual 202, 3) := by decide +kernel
theorem dX1_digest_86 : decode cX1_digest 86 = .ok (.i2l, 1) := by decide +kernel
theorem dX1_digest_87 : decode cX1_digest 87 = .ok (.goto 4, 3) := by decide +kernel
theorem dX1_digest_90 : decode cX1_digest 90 = .ok (.lconst 0, 1) := by decide +kernel
theorem dX1_digest_91 : decode cX1_digest 91 = .ok (.invokestatic 180, 3) := by decide +kernel
theorem dX1_digest_94 : decode cX1_digest 94 = .ok (.lstore_n 1, 1) := by decide +kernel
theorem dX1_digest_95 : decode cX1_digest 95 = .ok (.iconst 0, 1) := by decide +kernel
theorem dX1_digest_96 : decode cX1_digest 96 = .ok (.istore_n 3, 1) := by decide +kernel
theorem dX1_digest_97 : decode cX1_digest 97 = .ok (.iload_n 3, 1) := by decide +kernel
theorem dX1_digest_98 : decode cX1_digest 98 = .ok (.aload_n 0, 1) := by decide +kernel
theorem dX1_digest_99 : decode cX1_digest 99 = .ok (.getfield 26, 3) := by decide +kernel
theorem dX1_digest_102 : decode cX1_digest 102 = .ok (.if_icmp .ge 16, 3) := by decide +kernel
theorem dX1_digest_105 : decode cX1_digest 105 = .ok (.aload_n 0, 1) := by decide +kernel
theorem dX1_digest_106 : decode cX1_digest 106 = .ok (.lload_n 1, 1) := by decide +kernel
theorem dX1_digest_107 : decode cX1_digest 107 = .ok (.iload_n 3, 1) := by decide +kernel
theorem dX1_digest_108 : decode cX1_digest 108 = .ok (.invokevirtual 205, 3) := by decide +kernel
theorem dX1_digest_111 : decode cX1_digest 111 = .ok (.lstore_n 1, 1) := by decide +kernel
theorem dX1_digest_112 : decode cX1_digest 112 = .ok (.iinc 3 1, 3) := by decide +kernel
theorem dX1_digest_115 : decode cX1_digest 115 = .ok (.goto (-18), 3) := by decide +kernel
theorem dX1_digest_118 : decode cX1_digest 118 = .ok (.lload_n 1, 1) := by decide +kernel
theorem dX1_digest_119 : decode cX1_digest 119 = .ok (.lreturn, 1) := by decide +kernel
theorem dX1_requirePlayer_0 : decode cX1_requirePlayer 0 = .ok (.iload_n 1, 1) := by decide +kernel
theorem dX1_requirePlayer_1 : decode cX1_requirePlayer 1 = .ok (.ifCond .lt 11, 3) := by decide +kernel
theorem dX1_requirePlayer_4 : decode cX1_requirePlayer 4 = .ok (.iload_n 1, 1) := by decide +kernel
theorem dX1_requirePlayer_5 : decode cX1_requirePlayer 5 = .ok (.aload_n 0, 1) := by decide +kernel
theorem dX1_requirePlayer_6 : decode cX1_requirePlayer 6 = .ok (.getfield 26, 3) := by decide +kernel
theorem dX1_requirePlayer_9 : decode cX1_requirePlayer 9 = .ok (.if_icmp .lt 13, 3) := by decide +kernel
theorem dX1_requirePlayer_12 : decode cX1_requirePlayer 12 = .ok (.new 209, 3) := by decide +kernel
theorem dX1_requirePlayer_15 : decode cX1_requirePlayer 15 = .ok (.dup, 1) := by decide +kernel
theorem dX1_requirePlayer_16 : decode cX1_requirePlayer 16 = .ok (.ldc 211, 2) := by decide +kernel
theorem dX1_requirePlayer_18 : decode cX1_requirePlayer 18 = .ok (.invokespecial 213, 3) := by decide +kernel
theorem dX1_requirePlayer_21 : decode cX1_requirePlayer 21 = .ok (.athrow, 1) := by decide +kernel
theorem dX1_requirePlayer_22 : decode cX1_requirePlayer 22 = .ok (.return_, 1) := by decide +kernel
theorem dX1_requireTwoPlayers_0 : decode cX1_requireTwoPlayers 0 = .ok (.aload_n 0, 1) := by decide +kernel
theorem dX1_requireTwoPlayers_1 : decode cX1_requireTwoPlayers 1 = .ok (.iload_n 1, 1) := by decide +kernel
theorem dX1_requireTwoPlayers_2 : decode cX1_requireTwoPlayers 2 = .ok (.invokevirtual 124, 3) := by decide +kernel
theorem dX1_requireTwoPlayers_5 : decode cX1_requireTwoPlayers 5 = .ok (.aload_n 0, 1) := by decide +kernel
theorem dX1_requireTwoPlayers_6 : decode cX1_requireTwoPlayers 6 = .ok (.iload_n 2, 1) := by decide +kernel
theorem dX1_requireTwoPlayers_7 : decode cX1_requireTwoPlayers 7 = .ok (.invokevirtual 124, 3) := by decide +kernel
theorem dX1_requireTwoPlayers_10 : decode cX1_requireTwoPlayers 10 = .ok (.iload_n 1, 1) := by decide +kernel
theorem dX1_requireTwoPlayers_11 : decode cX1_requireTwoPlayers 11 = .ok (.iload_n 2, 1) := by decide +kernel
theorem dX1_requireTwoPlayers_12 : decode cX1_requireTwoPlayers 12 = .ok (.if_icmp .ne 13, 3) := by decide +kernel
theorem dX1_requireTwoPlayers_15 : decode cX1_requireTwoPlayers 15 = .ok (.new 214, 3) := by decide +kernel
theorem dX1_requireTwoPlayers_18 : decode cX1_requireTwoPlayers 18 = .ok (.dup, 1) := by decide +kernel
theorem dX1_requireTwoPlayers_19 : decode cX1_requireTwoPlayers 19 = .ok (.ldc 216, 2) := by decide +kernel
theorem dX1_requireTwoPlayers_21 : decode cX1_requireTwoPlayers 21 = .ok (.invokespecial 218, 3) := by decide +kernel
theorem dX1_requireTwoPlayers_24 : decode cX1_requireTwoPlayers 24 = .ok (.athrow, 1) := by decide +kernel
theorem dX1_requireTwoPlayers_25 : decode cX1_requireTwoPlayers 25 = .ok (.return_, 1) := by decide +kernel
theorem dX1_requireSomePlayer_0 : decode cX1_requireSomePlayer 0 = .ok (.aload_n 0, 1) := by decide +kernel
theorem dX1_requireSomePlayer_1 : decode cX1_requireSomePlayer 1 = .ok (.getfield 26, 3) := by decide +kernel
theorem dX1_requireSomePlayer_4 : decode cX1_requireSomePlayer 4 = .ok (.ifCond .gt 13, 3) := by decide +kernel
theorem dX1_requireSomePlayer_7 : decode cX1_requireSomePlayer 7 = .ok (.new 53, 3) := by decide +kernel
theorem dX1_requireSomePlayer_10 : decode cX1_requireSomePlayer 10 = .ok (.dup, 1) := by decide +kernel
theorem dX1_requireSomePlayer_11 : decode cX1_requireSomePlayer 11 = .ok (.ldc 219, 2) := by decide +kernel
theorem dX1_requireSomePlayer_13 : decode cX1_requireSomePlayer 13 = .ok (.invokespecial 57, 3) := by decide +kernel
theorem dX1_requireSomePlayer_16 : decode cX1_requireSomePlayer 16 = .ok (.athrow, 1) := by decide +kernel
theorem dX1_requireSomePlayer_17 : decode cX1_requireSomePlayer 17 = .ok (.return_, 1) := by decide +kernel
theorem dX1_requireColour_0 : decode cX1_requireColour 0 = .ok (.iload_n 0, 1) := by decide +kernel
theorem dX1_requireColour_1 : decode cX1_requireColour 1 = .ok (.ifCond .lt 8, 3) := by decide +kernel
theorem dX1_requireColour_4 : decode cX1_requireColour 4 = .ok (.iload_n 0, 1) := by decide +kernel
theorem dX1_requireColour_5 : decode cX1_requireColour 5 = .ok (.iconst 3, 1) := by decide +kernel
theorem dX1_requireColour_6 : decode cX1_requireColour 6 = .ok (.if_icmp .lt 13, 3) := by decide +kernel
theorem dX1_requireColour_9 : decode cX1_requireColour 9 = .ok (.new 209, 3) := by decide +kernel
theorem dX1_requireColour_12 : decode cX1_requireColour 12 = .ok (.dup, 1) := by decide +kernel
theorem dX1_requireColour_13 : decode cX1_requireColour 13 = .ok (.ldc 221, 2) := by decide +kernel
theorem dX1_requireColour_15 : decode cX1_requireColour 15 = .ok (.invokespecial 213, 3) := by decide +kernel
theorem dX1_requireColour_18 : decode cX1_requireColour 18 = .ok (.athrow, 1) := by decide +kernel
theorem dX1_requireColour_19 : decode cX1_requireColour 19 = .ok (.return_, 1) := by decide +kernel
theorem dX1_requireMany_0 : decode cX1_requireMany 0 = .ok (.iload_n 0, 1) := by decide +kernel
theorem dX1_requireMany_1 : decode cX1_requireMany 1 = .ok (.ifCond .lt 8, 3) := by decide +kernel
theorem dX1_requireMany_4 : decode cX1_requireMany 4 = .ok (.iload_n 0, 1) := by decide +kernel
theorem dX1_requireMany_5 : decode cX1_requireMany 5 = .ok (.iconst 5, 1) := by decide +kernel
theorem dX1_requireMany_6 : decode cX1_requireMany 6 = .ok (.if_icmp .le 13, 3) := by decide +kernel
theorem dX1_requireMany_9 : decode cX1_requireMany 9 = .ok (.new 214, 3) := by decide +kernel
theorem dX1_requireMany_12 : decode cX1_requireMany 12 = .ok (.dup, 1) := by decide +kernel
theorem dX1_requireMany_13 : decode cX1_requireMany 13 = .ok (.ldc 223, 2) := by decide +kernel
theorem dX1_requireMany_15 : decode cX1_requireMany 15 = .ok (.invokespecial 218, 3) := by decide +kernel
theorem dX1_requireMany_18 : decode cX1_requireMany 18 = .ok (.athrow, 1) := by decide +kernel
theorem dX1_requireMany_19 : decode cX1_requireMany 19 = .ok (.return_, 1) := by decide +kernel
theorem dX1_shiftOf_0 : decode cX1_shiftOf 0 = .ok (.iload_n 0, 1) := by decide +kernel
theorem dX1_shiftOf_1 : decode cX1_shiftOf 1 = .ok (.iconst 2, 1) := by decide +kernel
theorem dX1_shiftOf_2 : decode cX1_shiftOf 2 = .ok (.imul, 1) := by decide +kernel
theorem dX1_shiftOf_3 : decode cX1_shiftOf 3 = .ok (.ireturn, 1) := by decide +kernel
theorem dX1_hatMask_0 : decode cX1_hatMask 0 = .ok (.iconst 3, 1) := by decide +kernel
theorem dX1_hatMask_1 : decode cX1_hatMask 1 = .ok (.iload_n 0, 1) := by decide +kernel
theorem dX1_hatMask_2 : decode cX1_hatMask 2 = .ok (.invokestatic 60, 3) := by decide +kernel
theorem dX1_hatMask_5 : decode cX1_hatMask 5 = .ok (.ishl, 1) := by decide +kernel
theorem dX1_hatMask_6 : decode cX1_hatMask 6 = .ok (.ireturn, 1) := by decide +kernel
theorem dX1_colourIn_0 : decode cX1_colourIn 0 = .ok (.iload_n 0, 1) := by decide +kernel
theorem dX1_colourIn_1 : decode cX1_colourIn 1 = .ok (.iload_n 1, 1) := by decide +kernel
theorem dX1_colourIn_2 : decode cX1_colourIn 2 = .ok (.iconst 2, 1) := by decide +kernel
theorem dX1_colourIn_3 : decode cX1_colourIn 3 = .ok (.imul, 1) := by decide +kernel
theorem dX1_colourIn_4 : decode cX1_colourIn 4 = .ok (.ishr, 1) := by decide +kernel
theorem dX1_colourIn_5 : decode cX1_colourIn 5 = .ok (.iconst 3, 1) := by decide +kernel
theorem dX1_colourIn_6 : decode cX1_colourIn 6 = .ok (.iand, 1) := by decide +kernel
theorem dX1_colourIn_7 : decode cX1_colourIn 7 = .ok (.ireturn, 1) := by decide +kernel
theorem dX1_exchanged_0 : decode cX1_exchanged 0 = .ok (.iload_n 0, 1) := by decide +kernel
theorem dX1_exchanged_1 : decode cX1_exchanged 1 = .ok (.iload_n 1, 1) := by decide +kernel
theorem dX1_exchanged_2 : decode cX1_exchanged 2 = .ok (.invokestatic 101, 3) := by decide +kernel
theorem dX1_exchanged_5 : decode cX1_exchanged 5 = .ok (.iload_n 0, 1) := by decide +kernel
theorem dX1_exchanged_6 : decode cX1_exchanged 6 = .ok (.iload_n 2, 1) := by decide +kernel
theorem dX1_exchanged_7 : decode cX1_exchanged 7 = .ok (.invokestatic 101, 3) := by decide +kernel
theorem dX1_exchanged_10 : decode cX1_exchanged 10 = .ok (.ixor, 1) := by decide +kernel
theorem dX1_exchanged_11 : decode cX1_exchanged 11 = .ok (.istore_n 3, 1) := by decide +kernel
theorem dX1_exchanged_12 : decode cX1_exchanged 12 = .ok (.iload_n 0, 1) := by decide +kernel
theorem dX1_exchanged_13 : decode cX1_exchanged 13 = .ok (.iload_n 3, 1) := by decide +kernel
theorem dX1_exchanged_14 : decode cX1_exchanged 14 = .ok (.iload_n 1, 1) := by decide +kernel
theorem dX1_exchanged_15 : decode cX1_exchanged 15 = .ok (.invokestatic 60, 3) := by decide +kernel
theorem dX1_exchanged_18 : decode cX1_exchanged 18 = .ok (.ishl, 1) := by decide +kernel
theorem dX1_exchanged_19 : decode cX1_exchanged 19 = .ok (.ixor, 1) := by decide +kernel
theorem dX1_exchanged_20 : decode cX1_exchanged 20 = .ok (.iload_n 3, 1) := by decide +kernel
theorem dX1_exchanged_21 : decode cX1_exchanged 21 = .ok (.iload_n 2, 1) := by decide +kernel
theorem dX1_exchanged_22 : decode cX1_exchanged 22 = .ok (.invokestatic 60, 3) := by decide +kernel
theorem dX1_exchanged_25 : decode cX1_exchanged 25 = .ok (.ishl, 1) := by decide +kernel
theorem dX1_exchanged_26 : decode cX1_exchanged 26 = .ok (.ixor, 1) := by decide +kernel
theorem dX1_exchanged_27 : decode cX1_exchanged 27 = .ok (.ireturn, 1) := by decide +kernel
theorem dX1_hatsIn_0 : decode cX1_hatsIn 0 = .ok (.iconst 0, 1) := by decide +kernel
theorem dX1_hatsIn_1 : decode cX1_hatsIn 1 = .ok (.istore_n 3, 1) := by decide +kernel
theorem dX1_hatsIn_2 : decode cX1_hatsIn 2 = .ok (.iconst 0, 1) := by decide +kernel
theorem dX1_hatsIn_3 : decode cX1_hatsIn 3 = .ok (.istore 4, 2) := by decide +kernel
theorem dX1_hatsIn_5 : decode cX1_hatsIn 5 = .ok (.iload 4, 2) := by decide +kernel
theorem dX1_hatsIn_7 : decode cX1_hatsIn 7 = .ok (.aload_n 0, 1) := by decide +kernel
theorem dX1_hatsIn_8 : decode cX1_hatsIn 8 = .ok (.getfield 26, 3) := by decide +kernel
theorem dX1_hatsIn_11 : decode cX1_hatsIn 11 = .ok (.if_icmp .ge 22, 3) := by decide +kernel
theorem dX1_hatsIn_14 : decode cX1_hatsIn 14 = .ok (.iload_n 1, 1) := by decide +kernel
theorem dX1_hatsIn_15 : decode cX1_hatsIn 15 = .ok (.iload 4, 2) := by decide +kernel
theorem dX1_hatsIn_17 : decode cX1_hatsIn 17 = .ok (.invokestatic 101, 3) := by decide +kernel
theorem dX1_hatsIn_20 : decode cX1_hatsIn 20 = .ok (.iload_n 2, 1) := by decide +kernel
theorem dX1_hatsIn_21 : decode cX1_hatsIn 21 = .ok (.if_icmp .ne 6, 3) := by decide +kernel
theorem dX1_hatsIn_24 : decode cX1_hatsIn 24 = .ok (.iinc 3 1, 3) := by decide +kernel
theorem dX1_hatsIn_27 : decode cX1_hatsIn 27 = .ok (.iinc 4 1, 3) := by decide +kernel
theorem dX1_hatsIn_30 : decode cX1_hatsIn 30 = .ok (.goto (-25), 3) := by decide +kernel
theorem dX1_hatsIn_33 : decode cX1_hatsIn 33 = .ok (.iload_n 3, 1) := by decide +kernel
theorem dX1_hatsIn_34 : decode cX1_hatsIn 34 = .ok (.ireturn, 1) := by decide +kernel
theorem dX1_seenHatsOf_0 : decode cX1_seenHatsOf 0 = .ok (.iload_n 1, 1) := by decide +kernel
theorem dX1_seenHatsOf_1 : decode cX1_seenHatsOf 1 = .ok (.ifCond .lt 21, 3) := by decide +kernel
theorem dX1_seenHatsOf_4 : decode cX1_seenHatsOf 4 = .ok (.iload_n 1, 1) := by decide +kernel
theorem dX1_seenHatsOf_5 : decode cX1_seenHatsOf 5 = .ok (.aload_n 0, 1) := by decide +kernel
theorem dX1_seenHatsOf_6 : decode cX1_seenHatsOf 6 = .ok (.getfield 19, 3) := by decide +kernel
theorem dX1_seenHatsOf_9 : decode cX1_seenHatsOf 9 = .ok (.arraylength, 1) := by decide +kernel
theorem dX1_seenHatsOf_10 : decode cX1_seenHatsOf 10 = .ok (.if_icmp .ge 12, 3) := by decide +kernel
theorem dX1_seenHatsOf_13 : decode cX1_seenHatsOf 13 = .ok (.aload_n 0, 1) := by decide +kernel
theorem dX1_seenHatsOf_14 : decode cX1_seenHatsOf 14 = .ok (.getfield 19, 3) := by decide +kernel
theorem dX1_seenHatsOf_17 : decode cX1_seenHatsOf 17 = .ok (.iload_n 1, 1) := by decide +kernel
theorem dX1_seenHatsOf_18 : decode cX1_seenHatsOf 18 = .ok (.iaload, 1) := by decide +kernel
theorem dX1_seenHatsOf_19 : decode cX1_seenHatsOf 19 = .ok (.goto 4, 3) := by decide +kernel
theorem dX1_seenHatsOf_22 : decode cX1_seenHatsOf 22 = .ok (.iconst 0, 1) := by decide +kernel
theorem dX1_seenHatsOf_23 : decode cX1_seenHatsOf 23 = .ok (.ireturn, 1) := by decide +kernel
theorem dX1_setSeenHatsOf_0 : decode cX1_setSeenHatsOf 0 = .ok (.iload_n 1, 1) := by decide +kernel
theorem dX1_setSeenHatsOf_1 : decode cX1_setSeenHatsOf 1 = .ok (.ifCond .lt 19, 3) := by decide +kernel
theorem dX1_setSeenHatsOf_4 : decode cX1_setSeenHatsOf 4 = .ok (.iload_n 1, 1) := by decide +kernel
theorem dX1_setSeenHatsOf_5 : decode cX1_setSeenHatsOf 5 = .ok (.aload_n 0, 1) := by decide +kernel
theorem dX1_setSeenHatsOf_6 : decode cX1_setSeenHatsOf 6 = .ok (.getfield 19, 3) := by decide +kernel
theorem dX1_setSeenHatsOf_9 : decode cX1_setSeenHatsOf 9 = .ok (.arraylength, 1) := by decide +kernel
theorem dX1_setSeenHatsOf_10 : decode cX1_setSeenHatsOf 10 = .ok (.if_icmp .ge 10, 3) := by decide +kernel
theorem dX1_setSeenHatsOf_13 : decode cX1_setSeenHatsOf 13 = .ok (.aload_n 0, 1) := by decide +kernel
theorem dX1_setSeenHatsOf_14 : decode cX1_setSeenHatsOf 14 = .ok (.getfield 19, 3) := by decide +kernel
theorem dX1_setSeenHatsOf_17 : decode cX1_setSeenHatsOf 17 = .ok (.iload_n 1, 1) := by decide +kernel
theorem dX1_setSeenHatsOf_18 : decode cX1_setSeenHatsOf 18 = .ok (.iload_n 2, 1) := by decide +kernel
theorem dX1_setSeenHatsOf_19 : decode cX1_setSeenHatsOf 19 = .ok (.iastore, 1) := by decide +kernel
theorem dX1_setSeenHatsOf_20 : decode cX1_setSeenHatsOf 20 = .ok (.return_, 1) := by decide +kernel
theorem dX1_seesHat_0 : decode cX1_seesHat 0 = .ok (.aload_n 0, 1) := by decide +kernel
theorem dX1_seesHat_1 : decode cX1_seesHat 1 = .ok (.iload_n 1, 1) := by decide +kernel
theorem dX1_seesHat_2 : decode cX1_seesHat 2 = .ok (.invokevirtual 74, 3) := by decide +kernel
theorem dX1_seesHat_5 : decode cX1_seesHat 5 = .ok (.iload_n 2, 1) := by decide +kernel
theorem dX1_seesHat_6 : decode cX1_seesHat 6 = .ok (.invokestatic 77, 3) := by decide +kernel
theorem dX1_seesHat_9 : decode cX1_seesHat 9 = .ok (.iand, 1) := by decide +kernel
theorem dX1_seesHat_10 : decode cX1_seesHat 10 = .ok (.ifCond .eq 7, 3) := by decide +kernel
theorem dX1_seesHat_13 : decode cX1_seesHat 13 = .ok (.iconst 1, 1) := by decide +kernel
theorem dX1_seesHat_14 : decode cX1_seesHat 14 = .ok (.goto 4, 3) := by decide +kernel
theorem dX1_seesHat_17 : decode cX1_seesHat 17 = .ok (.iconst 0, 1) := by decide +kernel
theorem dX1_seesHat_18 : decode cX1_seesHat 18 = .ok (.ireturn, 1) := by decide +kernel
theorem dX1_lookAtEachOther_0 : decode cX1_lookAtEachOther 0 = .ok (.iconst 0, 1) := by decide +kernel
theorem dX1_lookAtEachOther_1 : decode cX1_lookAtEachOther 1 = .ok (.istore_n 2, 1) := by decide +kernel
theorem dX1_lookAtEachOther_2 : decode cX1_lookAtEachOther 2 = .ok (.iconst 0, 1) := by decide +kernel
theorem dX1_lookAtEachOther_3 : decode cX1_lookAtEachOther 3 = .ok (.istore_n 3, 1) := by decide +kernel
theorem dX1_lookAtEachOther_4 : decode cX1_lookAtEachOther 4 = .ok (.iload_n 3, 1) := by decide +kernel
theorem dX1_lookAtEachOther_5 : decode cX1_lookAtEachOther 5 = .ok (.iload_n 1, 1) := by decide +kernel
theorem dX1_lookAtEachOther_6 : decode cX1_lookAtEachOther 6 = .ok (.if_icmp .ge 31, 3) := by decide +kernel
theorem dX1_lookAtEachOther_9 : decode cX1_lookAtEachOther 9 = .ok (.aload_n 0, 1) := by decide +kernel
theorem dX1_lookAtEachOther_10 : decode cX1_lookAtEachOther 10 = .ok (.iload_n 3, 1) := by decide +kernel
theorem dX1_lookAtEachOther_11 : decode cX1_lookAtEachOther 11 = .ok (.aload_n 0, 1) := by decide +kernel
theorem dX1_lookAtEachOther_12 : decode cX1_lookAtEachOther 12 = .ok (.iload_n 3, 1) := by decide +kernel
theorem dX1_lookAtEachOther_13 : decode cX1_lookAtEachOther 13 = .ok (.invokevirtual 74, 3) := by decide +kernel
theorem dX1_lookAtEachOther_16 : decode cX1_lookAtEachOther 16 = .ok (.iload_n 1, 1) := by decide +kernel
theorem dX1_lookAtEachOther_17 : decode cX1_lookAtEachOther 17 = .ok (.invokestatic 77, 3) := by decide +kernel
theorem dX1_lookAtEachOther_20 : decode cX1_lookAtEachOther 20 = .ok (.ior, 1) := by decide +kernel
theorem dX1_lookAtEachOther_21 : decode cX1_lookAtEachOther 21 = .ok (.invokevirtual 80, 3) := by decide +kernel
theorem dX1_lookAtEachOther_24 : decode cX1_lookAtEachOther 24 = .ok (.iload_n 2, 1) := by decide +kernel
theorem dX1_lookAtEachOther_25 : decode cX1_lookAtEachOther 25 = .ok (.iload_n 3, 1) := by decide +kernel
theorem dX1_lookAtEachOther_26 : decode cX1_lookAtEachOther 26 = .ok (.invokestatic 77, 3) := by decide +kernel
theorem dX1_lookAtEachOther_29 : decode cX1_lookAtEachOther 29 = .ok (.ior, 1) := by decide +kernel
theorem dX1_lookAtEachOther_30 : decode cX1_lookAtEachOther 30 = .ok (.istore_n 2, 1) := by decide +kernel
theorem dX1_lookAtEachOther_31 : decode cX1_lookAtEachOther 31 = .ok (.iinc 3 1, 3) := by decide +kernel
theorem dX1_lookAtEachOther_34 : decode cX1_lookAtEachOther 34 = .ok (.goto (-30), 3) := by decide +kernel
theorem dX1_lookAtEachOther_37 : decode cX1_lookAtEachOther 37 = .ok (.aload_n 0, 1) := by decide +kernel
theorem dX1_lookAtEachOther_38 : decode cX1_lookAtEachOther 38 = .ok (.iload_n 1, 1) := by decide +kernel
theorem dX1_lookAtEachOther_39 : decode cX1_lookAtEachOther 39 = .ok (.iload_n 2, 1) := by decide +kernel
theorem dX1_lookAtEachOther_40 : decode cX1_lookAtEachOther 40 = .ok (.invokevirtual 80, 3) := by decide +kernel
theorem dX1_lookAtEachOther_43 : decode cX1_lookAtEachOther 43 = .ok (.return_, 1) := by decide +kernel
theorem dX1_viewOf_0 : decode cX1_viewOf 0 = .ok (.iload_n 1, 1) := by decide +kernel
theorem dX1_viewOf_1 : decode cX1_viewOf 1 = .ok (.aload_n 0, 1) := by decide +kernel
theorem dX1_viewOf_2 : decode cX1_viewOf 2 = .ok (.iload_n 2, 1) := by decide +kernel
theorem dX1_viewOf_3 : decode cX1_viewOf 3 = .ok (.invokevirtual 74, 3) := by decide +kernel
theorem dX1_viewOf_6 : decode cX1_viewOf 6 = .ok (.iand, 1) := by decide +kernel
theorem dX1_viewOf_7 : decode cX1_viewOf 7 = .ok (.sipush 1023, 3) := by decide +kernel
theorem dX1_viewOf_10 : decode cX1_viewOf 10 = .ok (.iand, 1) := by decide +kernel
theorem dX1_viewOf_11 : decode cX1_viewOf 11 = .ok (.ireturn, 1) := by decide +kernel
theorem dX1_agreesWithNow_0 : decode cX1_agreesWithNow 0 = .ok (.iload_n 1, 1) := by decide +kernel
theorem dX1_agreesWithNow_1 : decode cX1_agreesWithNow 1 = .ok (.aload_n 0, 1) := by decide +kernel
theorem dX1_agreesWithNow_2 : decode cX1_agreesWithNow 2 = .ok (.getfield 30, 3) := by decide +kernel
theorem dX1_agreesWithNow_5 : decode cX1_agreesWithNow 5 = .ok (.ixor, 1) := by decide +kernel
theorem dX1_agreesWithNow_6 : decode cX1_agreesWithNow 6 = .ok (.iload_n 2, 1) := by decide +kernel
theorem dX1_agreesWithNow_7 : decode cX1_agreesWithNow 7 = .ok (.iand, 1) := by decide +kernel
theorem dX1_agreesWithNow_8 : decode cX1_agreesWithNow 8 = .ok (.ifCond .ne 7, 3) := by decide +kernel
theorem dX1_agreesWithNow_11 : decode cX1_agreesWithNow 11 = .ok (.iconst 1, 1) := by decide +kernel
theorem dX1_agreesWithNow_12 : decode cX1_agreesWithNow 12 = .ok (.goto 4, 3) := by decide +kernel
theorem dX1_agreesWithNow_15 : decode cX1_agreesWithNow 15 = .ok (.iconst 0, 1) := by decide +kernel
theorem dX1_agreesWithNow_16 : decode cX1_agreesWithNow 16 = .ok (.ireturn, 1) := by decide +kernel
theorem dX1_openColoursOf_0 : decode cX1_openColoursOf 0 = .ok (.aload_n 0, 1) := by decide +kernel
theorem dX1_openColoursOf_1 : decode cX1_openColoursOf 1 = .ok (.getfield 10, 3) := by decide +kernel
theorem dX1_openColoursOf_4 : decode cX1_openColoursOf 4 = .ok (.invokevirtual 91, 3) := by decide +kernel
theorem dX1_openColoursOf_7 : decode cX1_openColoursOf 7 = .ok (.istore_n 2, 1) := by decide +kernel
theorem dX1_openColoursOf_8 : decode cX1_openColoursOf 8 = .ok (.iconst 1, 1) := by decide +kernel
theorem dX1_openColoursOf_9 : decode cX1_openColoursOf 9 = .ok (.istore_n 3, 1) := by decide +kernel
theorem dX1_openColoursOf_10 : decode cX1_openColoursOf 10 = .ok (.iload_n 3, 1) := by decide +kernel
theorem dX1_openColoursOf_11 : decode cX1_openColoursOf 11 = .ok (.iconst 3, 1) := by decide +kernel
theorem dX1_openColoursOf_12 : decode cX1_openColoursOf 12 = .ok (.if_icmp .ge 47, 3) := by decide +kernel
theorem dX1_openColoursOf_15 : decode cX1_openColoursOf 15 = .ok (.iconst 0, 1) := by decide +kernel
theorem dX1_openColoursOf_16 : decode cX1_openColoursOf 16 = .ok (.istore 4, 2) := by decide +kernel
theorem dX1_openColoursOf_18 : decode cX1_openColoursOf 18 = .ok (.iload 4, 2) := by decide +kernel
theorem dX1_openColoursOf_20 : decode cX1_openColoursOf 20 = .ok (.iload_n 2, 1) := by decide +kernel
theorem dX1_openColoursOf_21 : decode cX1_openColoursOf 21 = .ok (.if_icmp .ge 32, 3) := by decide +kernel
theorem dX1_openColoursOf_24 : decode cX1_openColoursOf 24 = .ok (.aload_n 0, 1) := by decide +kernel
theorem dX1_openColoursOf_25 : decode cX1_openColoursOf 25 = .ok (.getfield 10, 3) := by decide +kernel
theorem dX1_openColoursOf_28 : decode cX1_openColoursOf 28 = .ok (.aload_n 0, 1) := by decide +kernel
theorem dX1_openColoursOf_29 : decode cX1_openColoursOf 29 = .ok (.getfield 10, 3) := by decide +kernel
theorem dX1_openColoursOf_32 : decode cX1_openColoursOf 32 = .ok (.iload 4, 2) := by decide +kernel
theorem dX1_openColoursOf_34 : decode cX1_openColoursOf 34 = .ok (.invokevirtual 95, 3) := by decide +kernel
theorem dX1_openColoursOf_37 : decode cX1_openColoursOf 37 = .ok (.iload_n 3, 1) := by decide +kernel
theorem dX1_openColoursOf_38 : decode cX1_openColoursOf 38 = .ok (.iload_n 1, 1) := by decide +kernel
theorem dX1_openColoursOf_39 : decode cX1_openColoursOf 39 = .ok (.invokestatic 60, 3) := by decide +kernel
theorem dX1_openColoursOf_42 : decode cX1_openColoursOf 42 = .ok (.ishl, 1) := by decide +kernel
theorem dX1_openColoursOf_43 : decode cX1_openColoursOf 43 = .ok (.ior, 1) := by decide +kernel
theorem dX1_openColoursOf_44 : decode cX1_openColoursOf 44 = .ok (.invokevirtual 46, 3) := by decide +kernel
theorem dX1_openColoursOf_47 : decode cX1_openColoursOf 47 = .ok (.iinc 4 1, 3) := by decide +kernel
theorem dX1_openColoursOf_50 : decode cX1_openColoursOf 50 = .ok (.goto (-32), 3) := by decide +kernel
theorem dX1_openColoursOf_53 : decode cX1_openColoursOf 53 = .ok (.iinc 3 1, 3) := by decide +kernel
theorem dX1_openColoursOf_56 : decode cX1_openColoursOf 56 = .ok (.goto (-46), 3) := by decide +kernel
theorem dX1_openColoursOf_59 : decode cX1_openColoursOf 59 = .ok (.return_, 1) := by decide +kernel
theorem dX1_sayBetween_0 : decode cX1_sayBetween 0 = .ok (.aload_n 0, 1) := by decide +kernel
theorem dX1_sayBetween_1 : decode cX1_sayBetween 1 = .ok (.aload_n 0, 1) := by decide +kernel
theorem dX1_sayBetween_2 : decode cX1_sayBetween 2 = .ok (.getfield 30, 3) := by decide +kernel
theorem dX1_sayBetween_5 : decode cX1_sayBetween 5 = .ok (.iload_n 1, 1) := by decide +kernel
theorem dX1_sayBetween_6 : decode cX1_sayBetween 6 = .ok (.invokevirtual 127, 3) := by decide +kernel
theorem dX1_sayBetween_9 : decode cX1_sayBetween 9 = .ok (.istore 4, 2) := by decide +kernel
theorem dX1_sayBetween_11 : decode cX1_sayBetween 11 = .ok (.iload 4, 2) := by decide +kernel
theorem dX1_sayBetween_13 : decode cX1_sayBetween 13 = .ok (.iload_n 2, 1) := by decide +kernel
theorem dX1_sayBetween_14 : decode cX1_sayBetween 14 = .ok (.if_icmp .lt 9, 3) := by decide +kernel
theorem dX1_sayBetween_17 : decode cX1_sayBetween 17 = .ok (.iload 4, 2) := by decide +kernel
theorem dX1_sayBetween_19 : decode cX1_sayBetween 19 = .ok (.iload_n 3, 1) := by decide +kernel
theorem dX1_sayBetween_20 : decode cX1_sayBetween 20 = .ok (.if_icmp .le 13, 3) := by decide +kernel
theorem dX1_sayBetween_23 : decode cX1_sayBetween 23 = .ok (.new 53, 3) := by decide +kernel
theorem dX1_sayBetween_26 : decode cX1_sayBetween 26 = .ok (.dup, 1) := by decide +kernel
theorem dX1_sayBetween_27 : decode cX1_sayBetween 27 = .ok (.ldc 225, 2) := by decide +kernel
theorem dX1_sayBetween_29 : decode cX1_sayBetween 29 = .ok (.invokespecial 57, 3) := by decide +kernel
theorem dX1_sayBetween_32 : decode cX1_sayBetween 32 = .ok (.athrow, 1) := by decide +kernel
theorem dX1_sayBetween_33 : decode cX1_sayBetween 33 = .ok (.aload_n 0, 1) := by decide +kernel
theorem dX1_sayBetween_34 : decode cX1_sayBetween 34 = .ok (.aload_n 0, 1) := by decide +kernel
theorem dX1_sayBetween_35 : decode cX1_sayBetween 35 = .ok (.getfield 10, 3) := by decide +kernel
theorem dX1_sayBetween_38 : decode cX1_sayBetween 38 = .ok (.iload_n 1, 1) := by decide +kernel
theorem dX1_sayBetween_39 : decode cX1_sayBetween 39 = .ok (.iload_n 2, 1) := by decide +kernel
theorem dX1_sayBetween_40 : decode cX1_sayBetween 40 = .ok (.iload_n 3, 1) := by decide +kernel
theorem dX1_sayBetween_41 : decode cX1_sayBetween 41 = .ok (.invokevirtual 227, 3) := by decide +kernel
theorem dX1_sayBetween_44 : decode cX1_sayBetween 44 = .ok (.aload_n 0, 1) := by decide +kernel
theorem dX1_sayBetween_45 : decode cX1_sayBetween 45 = .ok (.iconst 1, 1) := by decide +kernel
theorem dX1_sayBetween_46 : decode cX1_sayBetween 46 = .ok (.putfield 42, 3) := by decide +kernel
theorem dX1_sayBetween_49 : decode cX1_sayBetween 49 = .ok (.aload_n 0, 1) := by decide +kernel
theorem dX1_sayBetween_50 : decode cX1_sayBetween 50 = .ok (.getfield 10, 3) := by decide +kernel
theorem dX1_sayBetween_53 : decode cX1_sayBetween 53 = .ok (.invokevirtual 91, 3) := by decide +kernel
theorem dX1_sayBetween_56 : decode cX1_sayBetween 56 = .ok (.ireturn, 1) := by decide +kernel
theorem dX1_keepWithHats_0 : decode cX1_keepWithHats 0 = .ok (.aload_n 1, 1) := by decide +kernel
theorem dX1_keepWithHats_1 : decode cX1_keepWithHats 1 = .ok (.invokevirtual 91, 3) := by decide +kernel
theorem dX1_keepWithHats_4 : decode cX1_keepWithHats 4 = .ok (.istore 5, 2) := by decide +kernel
theorem dX1_keepWithHats_6 : decode cX1_keepWithHats 6 = .ok (.aload_n 1, 1) := by decide +kernel
theorem dX1_keepWithHats_7 : decode cX1_keepWithHats 7 = .ok (.invokevirtual 121, 3) := by decide +kernel
theorem dX1_keepWithHats_10 : decode cX1_keepWithHats 10 = .ok (.iconst 0, 1) := by decide +kernel
theorem dX1_keepWithHats_11 : decode cX1_keepWithHats 11 = .ok (.istore 6, 2) := by decide +kernel
theorem dX1_keepWithHats_13 : decode cX1_keepWithHats 13 = .ok (.iload 6, 2) := by decide +kernel
theorem dX1_keepWithHats_15 : decode cX1_keepWithHats 15 = .ok (.iload 5, 2) := by decide +kernel
theorem dX1_keepWithHats_17 : decode cX1_keepWithHats 17 = .ok (.if_icmp .ge 45, 3) := by decide +kernel
theorem dX1_keepWithHats_20 : decode cX1_keepWithHats 20 = .ok (.aload_n 1, 1) := by decide +kernel
theorem dX1_keepWithHats_21 : decode cX1_keepWithHats 21 = .ok (.iload 6, 2) := by decide +kernel
theorem dX1_keepWithHats_23 : decode cX1_keepWithHats 23 = .ok (.invokevirtual 95, 3) := by decide +kernel
theorem dX1_keepWithHats_26 : decode cX1_keepWithHats 26 = .ok (.istore 7, 2) := by decide +kernel
theorem dX1_keepWithHats_28 : decode cX1_keepWithHats 28 = .ok (.aload_n 0, 1) := by decide +kernel
theorem dX1_keepWithHats_29 : decode cX1_keepWithHats 29 = .ok (.iload 7, 2) := by decide +kernel
theorem dX1_keepWithHats_31 : decode cX1_keepWithHats 31 = .ok (.iload_n 2, 1) := by decide +kernel
theorem dX1_keepWithHats_32 : decode cX1_keepWithHats 32 = .ok (.invokevirtual 127, 3) := by decide +kernel
theorem dX1_keepWithHats_35 : decode cX1_keepWithHats 35 = .ok (.istore 8, 2) := by decide +kernel
theorem dX1_keepWithHats_37 : decode cX1_keepWithHats 37 = .ok (.iload 8, 2) := by decide +kernel
theorem dX1_keepWithHats_39 : decode cX1_keepWithHats 39 = .ok (.iload_n 3, 1) := by decide +kernel
theorem dX1_keepWithHats_40 : decode cX1_keepWithHats 40 = .ok (.if_icmp .lt 16, 3) := by decide +kernel
theorem dX1_keepWithHats_43 : decode cX1_keepWithHats 43 = .ok (.iload 8, 2) := by decide +kernel
theorem dX1_keepWithHats_45 : decode cX1_keepWithHats 45 = .ok (.iload 4, 2) := by decide +kernel
theorem dX1_keepWithHats_47 : decode cX1_keepWithHats 47 = .ok (.if_icmp .gt 9, 3) := by decide +kernel
theorem dX1_keepWithHats_50 : decode cX1_keepWithHats 50 = .ok (.aload_n 1, 1) := by decide +kernel
theorem dX1_keepWithHats_51 : decode cX1_keepWithHats 51 = .ok (.iload 7, 2) := by decide +kernel
theorem dX1_keepWithHats_53 : decode cX1_keepWithHats 53 = .ok (.invokevirtual 46, 3) := by decide +kernel
theorem dX1_keepWithHats_56 : decode cX1_keepWithHats 56 = .ok (.iinc 6 1, 3) := by decide +kernel
theorem dX1_keepWithHats_59 : decode cX1_keepWithHats 59 = .ok (.goto (-46), 3) := by decide +kernel
theorem dX1_keepWithHats_62 : decode cX1_keepWithHats 62 = .ok (.return_, 1) := by decide +kernel
theorem dX1_keepWithHat_0 : decode cX1_keepWithHat 0 = .ok (.aload_n 0, 1) := by decide +kernel
theorem dX1_keepWithHat_1 : decode cX1_keepWithHat 1 = .ok (.invokevirtual 91, 3) := by decide +kernel
theorem dX1_keepWithHat_4 : decode cX1_keepWithHat 4 = .ok (.istore_n 3, 1) := by decide +kernel
theorem dX1_keepWithHat_5 : decode cX1_keepWithHat 5 = .ok (.aload_n 0, 1) := by decide +kernel
theorem dX1_keepWithHat_6 : decode cX1_keepWithHat 6 = .ok (.invokevirtual 121, 3) := by decide +kernel
theorem dX1_keepWithHat_9 : decode cX1_keepWithHat 9 = .ok (.iconst 0, 1) := by decide +kernel
theorem dX1_keepWithHat_10 : decode cX1_keepWithHat 10 = .ok (.istore 4, 2) := by decide +kernel
theorem dX1_keepWithHat_12 : decode cX1_keepWithHat 12 = .ok (.iload 4, 2) := by decide +kernel
theorem dX1_keepWithHat_14 : decode cX1_keepWithHat 14 = .ok (.iload_n 3, 1) := by decide +kernel
theorem dX1_keepWithHat_15 : decode cX1_keepWithHat 15 = .ok (.if_icmp .ge 33, 3) := by decide +kernel
theorem dX1_keepWithHat_18 : decode cX1_keepWithHat 18 = .ok (.aload_n 0, 1) := by decide +kernel
theorem dX1_keepWithHat_19 : decode cX1_keepWithHat 19 = .ok (.iload 4, 2) := by decide +kernel
theorem dX1_keepWithHat_21 : decode cX1_keepWithHat 21 = .ok (.invokevirtual 95, 3) := by decide +kernel
theorem dX1_keepWithHat_24 : decode cX1_keepWithHat 24 = .ok (.istore 5, 2) := by decide +kernel
theorem dX1_keepWithHat_26 : decode cX1_keepWithHat 26 = .ok (.iload 5, 2) := by decide +kernel
theorem dX1_keepWithHat_28 : decode cX1_keepWithHat 28 = .ok (.iload_n 1, 1) := by decide +kernel
theorem dX1_keepWithHat_29 : decode cX1_keepWithHat 29 = .ok (.invokestatic 101, 3) := by decide +kernel
theorem dX1_keepWithHat_32 : decode cX1_keepWithHat 32 = .ok (.iload_n 2, 1) := by decide +kernel
theorem dX1_keepWithHat_33 : decode cX1_keepWithHat 33 = .ok (.if_icmp .ne 9, 3) := by decide +kernel
theorem dX1_keepWithHat_36 : decode cX1_keepWithHat 36 = .ok (.aload_n 0, 1) := by decide +kernel
theorem dX1_keepWithHat_37 : decode cX1_keepWithHat 37 = .ok (.iload 5, 2) := by decide +kernel
theorem dX1_keepWithHat_39 : decode cX1_keepWithHat 39 = .ok (.invokevirtual 46, 3) := by decide +kernel
theorem dX1_keepWithHat_42 : decode cX1_keepWithHat 42 = .ok (.iinc 4 1, 3) := by decide +kernel
theorem dX1_keepWithHat_45 : decode cX1_keepWithHat 45 = .ok (.goto (-33), 3) := by decide +kernel
theorem dX1_keepWithHat_48 : decode cX1_keepWithHat 48 = .ok (.return_, 1) := by decide +kernel
theorem dX1_keepByCertainty_0 : decode cX1_keepByCertainty 0 = .ok (.aload_n 0, 1) := by decide +kernel
theorem dX1_keepByCertainty_1 : decode cX1_keepByCertainty 1 = .ok (.aload_n 1, 1) := by decide +kernel
theorem dX1_keepByCertainty_2 : decode cX1_keepByCertainty 2 = .ok (.iload_n 2, 1) := by decide +kernel
theorem dX1_keepByCertainty_3 : decode cX1_keepByCertainty 3 = .ok (.invokevirtual 147, 3) := by decide +kernel
theorem dX1_keepByCertainty_6 : decode cX1_keepByCertainty 6 = .ok (.aload_n 1, 1) := by decide +kernel
theorem dX1_keepByCertainty_7 : decode cX1_keepByCertainty 7 = .ok (.invokevirtual 91, 3) := by decide +kernel
theorem dX1_keepByCertainty_10 : decode cX1_keepByCertainty 10 = .ok (.istore 4, 2) := by decide +kernel
theorem dX1_keepByCertainty_12 : decode cX1_keepByCertainty 12 = .ok (.aload_n 1, 1) := by decide +kernel
theorem dX1_keepByCertainty_13 : decode cX1_keepByCertainty 13 = .ok (.invokevirtual 121, 3) := by decide +kernel
theorem dX1_keepByCertainty_16 : decode cX1_keepByCertainty 16 = .ok (.iconst 0, 1) := by decide +kernel
theorem dX1_keepByCertainty_17 : decode cX1_keepByCertainty 17 = .ok (.istore 5, 2) := by decide +kernel
theorem dX1_keepByCertainty_19 : decode cX1_keepByCertainty 19 = .ok (.iload 5, 2) := by decide +kernel
theorem dX1_keepByCertainty_21 : decode cX1_keepByCertainty 21 = .ok (.iload 4, 2) := by decide +kernel
theorem dX1_keepByCertainty_23 : decode cX1_keepByCertainty 23 = .ok (.if_icmp .ge 34, 3) := by decide +kernel
theorem dX1_keepByCertainty_26 : decode cX1_keepByCertainty 26 = .ok (.aload_n 1, 1) := by decide +kernel
theorem dX1_keepByCertainty_27 : decode cX1_keepByCertainty 27 = .ok (.iload 5, 2) := by decide +kernel
theorem dX1_keepByCertainty_29 : decode cX1_keepByCertainty 29 = .ok (.invokevirtual 95, 3) := by decide +kernel
theorem dX1_keepByCertainty_32 : decode cX1_keepByCertainty 32 = .ok (.istore 6, 2) := by decide +kernel
theorem dX1_keepByCertainty_34 : decode cX1_keepByCertainty 34 = .ok (.aload_n 0, 1) := by decide +kernel
theorem dX1_keepByCertainty_35 : decode cX1_keepByCertainty 35 = .ok (.iload 6, 2) := by decide +kernel
theorem dX1_keepByCertainty_37 : decode cX1_keepByCertainty 37 = .ok (.iload_n 2, 1) := by decide +kernel
theorem dX1_keepByCertainty_38 : decode cX1_keepByCertainty 38 = .ok (.invokevirtual 154, 3) := by decide +kernel
theorem dX1_keepByCertainty_41 : decode cX1_keepByCertainty 41 = .ok (.iload_n 3, 1) := by decide +kernel
theorem dX1_keepByCertainty_42 : decode cX1_keepByCertainty 42 = .ok (.if_icmp .ne 9, 3) := by decide +kernel
theorem dX1_keepByCertainty_45 : decode cX1_keepByCertainty 45 = .ok (.aload_n 1, 1) := by decide +kernel
theorem dX1_keepByCertainty_46 : decode cX1_keepByCertainty 46 = .ok (.iload 6, 2) := by decide +kernel
theorem dX1_keepByCertainty_48 : decode cX1_keepByCertainty 48 = .ok (.invokevirtual 46, 3) := by decide +kernel
theorem dX1_keepByCertainty_51 : decode cX1_keepByCertainty 51 = .ok (.iinc 5 1, 3) := by decide +kernel
theorem dX1_keepByCertainty_54 : decode cX1_keepByCertainty 54 = .ok (.goto (-35), 3) := by decide +kernel
theorem dX1_keepByCertainty_57 : decode cX1_keepByCertainty 57 = .ok (.return_, 1) := by decide +kernel
theorem dX1_countWithHat_0 : decode cX1_countWithHat 0 = .ok (.iconst 0, 1) := by decide +kernel
theorem dX1_countWithHat_1 : decode cX1_countWithHat 1 = .ok (.istore_n 3, 1) := by decide +kernel
theorem dX1_countWithHat_2 : decode cX1_countWithHat 2 = .ok (.iconst 0, 1) := by decide +kernel
theorem dX1_countWithHat_3 : decode cX1_countWithHat 3 = .ok (.istore 4, 2) := by decide +kernel
theorem dX1_countWithHat_5 : decode cX1_countWithHat 5 = .ok (.iload 4, 2) := by decide +kernel
theorem dX1_countWithHat_7 : decode cX1_countWithHat 7 = .ok (.aload_n 0, 1) := by decide +kernel
theorem dX1_countWithHat_8 : decode cX1_countWithHat 8 = .ok (.getfield 10, 3) := by decide +kernel
theorem dX1_countWithHat_11 : decode cX1_countWithHat 11 = .ok (.invokevirtual 91, 3) := by decide +kernel
theorem dX1_countWithHat_14 : decode cX1_countWithHat 14 = .ok (.if_icmp .ge 29, 3) := by decide +kernel
theorem dX1_countWithHat_17 : decode cX1_countWithHat 17 = .ok (.aload_n 0, 1) := by decide +kernel
theorem dX1_countWithHat_18 : decode cX1_countWithHat 18 = .ok (.getfield 10, 3) := by decide +kernel
theorem dX1_countWithHat_21 : decode cX1_countWithHat 21 = .ok (.iload 4, 2) := by decide +kernel
theorem dX1_countWithHat_23 : decode cX1_countWithHat 23 = .ok (.invokevirtual 95, 3) := by decide +kernel
theorem dX1_countWithHat_26 : decode cX1_countWithHat 26 = .ok (.iload_n 1, 1) := by decide +kernel
theorem dX1_countWithHat_27 : decode cX1_countWithHat 27 = .ok (.invokestatic 101, 3) := by decide +kernel
theorem dX1_countWithHat_30 : decode cX1_countWithHat 30 = .ok (.iload_n 2, 1) := by decide +kernel
theorem dX1_countWithHat_31 : decode cX1_countWithHat 31 = .ok (.if_icmp .ne 6, 3) := by decide +kernel
theorem dX1_countWithHat_34 : decode cX1_countWithHat 34 = .ok (.iinc 3 1, 3) := by decide +kernel
theorem dX1_countWithHat_37 : decode cX1_countWithHat 37 = .ok (.iinc 4 1, 3) := by decide +kernel
theorem dX1_countWithHat_40 : decode cX1_countWithHat 40 = .ok (.goto (-35), 3) := by decide +kernel
theorem dX1_countWithHat_43 : decode cX1_countWithHat 43 = .ok (.iload_n 3, 1) := by decide +kernel
theorem dX1_countWithHat_44 : decode cX1_countWithHat 44 = .ok (.ireturn, 1) := by decide +kernel
theorem dX1_countNaming_0 : decode cX1_countNaming 0 = .ok (.iconst 0, 1) := by decide +kernel
theorem dX1_countNaming_1 : decode cX1_countNaming 1 = .ok (.istore_n 2, 1) := by decide +kernel
theorem dX1_countNaming_2 : decode cX1_countNaming 2 = .ok (.iconst 0, 1) := by decide +kernel
theorem dX1_countNaming_3 : decode cX1_countNaming 3 = .ok (.istore_n 3, 1) := by decide +kernel
theorem dX1_countNaming_4 : decode cX1_countNaming 4 = .ok (.iload_n 3, 1) := by decide +kernel
theorem dX1_countNaming_5 : decode cX1_countNaming 5 = .ok (.aload_n 0, 1) := by decide +kernel
theorem dX1_countNaming_6 : decode cX1_countNaming 6 = .ok (.getfield 10, 3) := by decide +kernel
theorem dX1_countNaming_9 : decode cX1_countNaming 9 = .ok (.invokevirtual 91, 3) := by decide +kernel
theorem dX1_countNaming_12 : decode cX1_countNaming 12 = .ok (.if_icmp .ge 28, 3) := by decide +kernel
theorem dX1_countNaming_15 : decode cX1_countNaming 15 = .ok (.aload_n 0, 1) := by decide +kernel
theorem dX1_countNaming_16 : decode cX1_countNaming 16 = .ok (.aload_n 0, 1) := by decide +kernel
theorem dX1_countNaming_17 : decode cX1_countNaming 17 = .ok (.getfield 10, 3) := by decide +kernel
theorem dX1_countNaming_20 : decode cX1_countNaming 20 = .ok (.iload_n 3, 1) := by decide +kernel
theorem dX1_countNaming_21 : decode cX1_countNaming 21 = .ok (.invokevirtual 95, 3) := by decide +kernel
theorem dX1_countNaming_24 : decode cX1_countNaming 24 = .ok (.iload_n 1, 1) := by decide +kernel
theorem dX1_countNaming_25 : decode cX1_countNaming 25 = .ok (.invokevirtual 127, 3) := by decide +kernel
theorem dX1_countNaming_28 : decode cX1_countNaming 28 = .ok (.ifCond .le 6, 3) := by decide +kernel
theorem dX1_countNaming_31 : decode cX1_countNaming 31 = .ok (.iinc 2 1, 3) := by decide +kernel
theorem dX1_countNaming_34 : decode cX1_countNaming 34 = .ok (.iinc 3 1, 3) := by decide +kernel
theorem dX1_countNaming_37 : decode cX1_countNaming 37 = .ok (.goto (-33), 3) := by decide +kernel
theorem dX1_countNaming_40 : decode cX1_countNaming 40 = .ok (.iload_n 2, 1) := by decide +kernel
theorem dX1_countNaming_41 : decode cX1_countNaming 41 = .ok (.ireturn, 1) := by decide +kernel
theorem dX1_countPossible_0 : decode cX1_countPossible 0 = .ok (.iconst 0, 1) := by decide +kernel
theorem dX1_countPossible_1 : decode cX1_countPossible 1 = .ok (.istore_n 2, 1) := by decide +kernel
theorem dX1_countPossible_2 : decode cX1_countPossible 2 = .ok (.aload_n 0, 1) := by decide +kernel
theorem dX1_countPossible_3 : decode cX1_countPossible 3 = .ok (.iload_n 1, 1) := by decide +kernel
theorem dX1_countPossible_4 : decode cX1_countPossible 4 = .ok (.invokevirtual 74, 3) := by decide +kernel
theorem dX1_countPossible_7 : decode cX1_countPossible 7 = .ok (.istore_n 3, 1) := by decide +kernel
theorem dX1_countPossible_8 : decode cX1_countPossible 8 = .ok (.iconst 0, 1) := by decide +kernel
theorem dX1_countPossible_9 : decode cX1_countPossible 9 = .ok (.istore 4, 2) := by decide +kernel
theorem dX1_countPossible_11 : decode cX1_countPossible 11 = .ok (.iload 4, 2) := by decide +kernel
theorem dX1_countPossible_13 : decode cX1_countPossible 13 = .ok (.aload_n 0, 1) := by decide +kernel
theorem dX1_countPossible_14 : decode cX1_countPossible 14 = .ok (.getfield 10, 3) := by decide +kernel
theorem dX1_countPossible_17 : decode cX1_countPossible 17 = .ok (.invokevirtual 91, 3) := by decide +kernel
theorem dX1_countPossible_20 : decode cX1_countPossible 20 = .ok (.if_icmp .ge 29, 3) := by decide +kernel
theorem dX1_countPossible_23 : decode cX1_countPossible 23 = .ok (.aload_n 0, 1) := by decide +kernel
theorem dX1_countPossible_24 : decode cX1_countPossible 24 = .ok (.aload_n 0, 1) := by decide +kernel
theorem dX1_countPossible_25 : decode cX1_countPossible 25 = .ok (.getfield 10, 3) := by decide +kernel
theorem dX1_countPossible_28 : decode cX1_countPossible 28 = .ok (.iload 4, 2) := by decide +kernel
theorem dX1_countPossible_30 : decode cX1_countPossible 30 = .ok (.invokevirtual 95, 3) := by decide +kernel
theorem dX1_countPossible_33 : decode cX1_countPossible 33 = .ok (.iload_n 3, 1) := by decide +kernel
theorem dX1_countPossible_34 : decode cX1_countPossible 34 = .ok (.invokevirtual 151, 3) := by decide +kernel
theorem dX1_countPossible_37 : decode cX1_countPossible 37 = .ok (.ifCond .eq 6, 3) := by decide +kernel
theorem dX1_countPossible_40 : decode cX1_countPossible 40 = .ok (.iinc 2 1, 3) := by decide +kernel
theorem dX1_countPossible_43 : decode cX1_countPossible 43 = .ok (.iinc 4 1, 3) := by decide +kernel
theorem dX1_countPossible_46 : decode cX1_countPossible 46 = .ok (.goto (-35), 3) := by decide +kernel
theorem dX1_countPossible_49 : decode cX1_countPossible 49 = .ok (.iload_n 2, 1) := by decide +kernel
theorem dX1_countPossible_50 : decode cX1_countPossible 50 = .ok (.ireturn, 1) := by decide +kernel
theorem dX1_possibleColours_0 : decode cX1_possibleColours 0 = .ok (.iconst 0, 1) := by decide +kernel
theorem dX1_possibleColours_1 : decode cX1_possibleColours 1 = .ok (.istore 4, 2) := by decide +kernel
theorem dX1_possibleColours_3 : decode cX1_possibleColours 3 = .ok (.aload_n 0, 1) := by decide +kernel
theorem dX1_possibleColours_4 : decode cX1_possibleColours 4 = .ok (.iload_n 2, 1) := by decide +kernel
theorem dX1_possibleColours_5 : decode cX1_possibleColours 5 = .ok (.invokevirtual 74, 3) := by decide +kernel
theorem dX1_possibleColours_8 : decode cX1_possibleColours 8 = .ok (.istore 5, 2) := by decide +kernel
theorem dX1_possibleColours_10 : decode cX1_possibleColours 10 = .ok (.iconst 0, 1) := by decide +kernel
theorem dX1_possibleColours_11 : decode cX1_possibleColours 11 = .ok (.istore 6, 2) := by decide +kernel
theorem dX1_possibleColours_13 : decode cX1_possibleColours 13 = .ok (.iload 6, 2) := by decide +kernel
theorem dX1_possibleColours_15 : decode cX1_possibleColours 15 = .ok (.aload_n 1, 1) := by decide +kernel
theorem dX1_possibleColours_16 : decode cX1_possibleColours 16 = .ok (.invokevirtual 91, 3) := by decide +kernel
theorem dX1_possibleColours_19 : decode cX1_possibleColours 19 = .ok (.if_icmp .ge 41, 3) := by decide +kernel
theorem dX1_possibleColours_22 : decode cX1_possibleColours 22 = .ok (.aload_n 1, 1) := by decide +kernel
theorem dX1_possibleColours_23 : decode cX1_possibleColours 23 = .ok (.iload 6, 2) := by decide +kernel
theorem dX1_possibleColours_25 : decode cX1_possibleColours 25 = .ok (.invokevirtual 95, 3) := by decide +kernel
theorem dX1_possibleColours_28 : decode cX1_possibleColours 28 = .ok (.istore 7, 2) := by decide +kernel
theorem dX1_possibleColours_30 : decode cX1_possibleColours 30 = .ok (.aload_n 0, 1) := by decide +kernel
theorem dX1_possibleColours_31 : decode cX1_possibleColours 31 = .ok (.iload 7, 2) := by decide +kernel
theorem dX1_possibleColours_33 : decode cX1_possibleColours 33 = .ok (.iload 5, 2) := by decide +kernel
theorem dX1_possibleColours_35 : decode cX1_possibleColours 35 = .ok (.invokevirtual 151, 3) := by decide +kernel
theorem dX1_possibleColours_38 : decode cX1_possibleColours 38 = .ok (.ifCond .eq 16, 3) := by decide +kernel
theorem dX1_possibleColours_41 : decode cX1_possibleColours 41 = .ok (.iload 4, 2) := by decide +kernel
theorem dX1_possibleColours_43 : decode cX1_possibleColours 43 = .ok (.iconst 1, 1) := by decide +kernel
theorem dX1_possibleColours_44 : decode cX1_possibleColours 44 = .ok (.iload 7, 2) := by decide +kernel
theorem dX1_possibleColours_46 : decode cX1_possibleColours 46 = .ok (.iload_n 3, 1) := by decide +kernel
theorem dX1_possibleColours_47 : decode cX1_possibleColours 47 = .ok (.invokestatic 101, 3) := by decide +kernel
theorem dX1_possibleColours_50 : decode cX1_possibleColours 50 = .ok (.ishl, 1) := by decide +kernel
theorem dX1_possibleColours_51 : decode cX1_possibleColours 51 = .ok (.ior, 1) := by decide +kernel
theorem dX1_possibleColours_52 : decode cX1_possibleColours 52 = .ok (.istore 4, 2) := by decide +kernel
theorem dX1_possibleColours_54 : decode cX1_possibleColours 54 = .ok (.iinc 6 1, 3) := by decide +kernel
theorem dX1_possibleColours_57 : decode cX1_possibleColours 57 = .ok (.goto (-44), 3) := by decide +kernel
theorem dX1_possibleColours_60 : decode cX1_possibleColours 60 = .ok (.iload 4, 2) := by decide +kernel
theorem dX1_possibleColours_62 : decode cX1_possibleColours 62 = .ok (.ireturn, 1) := by decide +kernel
theorem dX1_isOneColour_0 : decode cX1_isOneColour 0 = .ok (.iload_n 0, 1) := by decide +kernel
theorem dX1_isOneColour_1 : decode cX1_isOneColour 1 = .ok (.invokestatic 231, 3) := by decide +kernel
theorem dX1_isOneColour_4 : decode cX1_isOneColour 4 = .ok (.iconst 1, 1) := by decide +kernel
theorem dX1_isOneColour_5 : decode cX1_isOneColour 5 = .ok (.if_icmp .ne 7, 3) := by decide +kernel
theorem dX1_isOneColour_8 : decode cX1_isOneColour 8 = .ok (.iconst 1, 1) := by decide +kernel
theorem dX1_isOneColour_9 : decode cX1_isOneColour 9 = .ok (.goto 4, 3) := by decide +kernel
theorem dX1_isOneColour_12 : decode cX1_isOneColour 12 = .ok (.iconst 0, 1) := by decide +kernel
theorem dX1_isOneColour_13 : decode cX1_isOneColour 13 = .ok (.ireturn, 1) := by decide +kernel
theorem dX1_isCertainBy_0 : decode cX1_isCertainBy 0 = .ok (.aload_n 0, 1) := by decide +kernel
theorem dX1_isCertainBy_1 : decode cX1_isCertainBy 1 = .ok (.aload_n 1, 1) := by decide +kernel
theorem dX1_isCertainBy_2 : decode cX1_isCertainBy 2 = .ok (.iload_n 2, 1) := by decide +kernel
theorem dX1_isCertainBy_3 : decode cX1_isCertainBy 3 = .ok (.iload_n 2, 1) := by decide +kernel
theorem dX1_isCertainBy_4 : decode cX1_isCertainBy 4 = .ok (.invokevirtual 136, 3) := by decide +kernel
theorem dX1_isCertainBy_7 : decode cX1_isCertainBy 7 = .ok (.invokestatic 143, 3) := by decide +kernel
theorem dX1_isCertainBy_10 : decode cX1_isCertainBy 10 = .ok (.ireturn, 1) := by decide +kernel
theorem dX1_countCertain_0 : decode cX1_countCertain 0 = .ok (.iconst 0, 1) := by decide +kernel
theorem dX1_countCertain_1 : decode cX1_countCertain 1 = .ok (.istore_n 2, 1) := by decide +kernel
theorem dX1_countCertain_2 : decode cX1_countCertain 2 = .ok (.iconst 0, 1) := by decide +kernel
theorem dX1_countCertain_3 : decode cX1_countCertain 3 = .ok (.istore_n 3, 1) := by decide +kernel
theorem dX1_countCertain_4 : decode cX1_countCertain 4 = .ok (.iload_n 3, 1) := by decide +kernel
theorem dX1_countCertain_5 : decode cX1_countCertain 5 = .ok (.aload_n 0, 1) := by decide +kernel
theorem dX1_countCertain_6 : decode cX1_countCertain 6 = .ok (.getfield 26, 3) := by decide +kernel
theorem dX1_countCertain_9 : decode cX1_countCertain 9 = .ok (.if_icmp .ge 21, 3) := by decide +kernel
theorem dX1_countCertain_12 : decode cX1_countCertain 12 = .ok (.aload_n 0, 1) := by decide +kernel
theorem dX1_countCertain_13 : decode cX1_countCertain 13 = .ok (.aload_n 1, 1) := by decide +kernel
theorem dX1_countCertain_14 : decode cX1_countCertain 14 = .ok (.iload_n 3, 1) := by decide +kernel
theorem dX1_countCertain_15 : decode cX1_countCertain 15 = .ok (.invokevirtual 140, 3) := by decide +kernel
theorem dX1_countCertain_18 : decode cX1_countCertain 18 = .ok (.ifCond .eq 6, 3) := by decide +kernel
theorem dX1_countCertain_21 : decode cX1_countCertain 21 = .ok (.iinc 2 1, 3) := by decide +kernel
theorem dX1_countCertain_24 : decode cX1_countCertain 24 = .ok (.iinc 3 1, 3) := by decide +kernel
theorem dX1_countCertain_27 : decode cX1_countCertain 27 = .ok (.goto (-23), 3) := by decide +kernel
theorem dX1_countCertain_30 : decode cX1_countCertain 30 = .ok (.iload_n 2, 1) := by decide +kernel
theorem dX1_countCertain_31 : decode cX1_countCertain 31 = .ok (.ireturn, 1) := by decide +kernel
theorem dX1_noteOwnColours_0 : decode cX1_noteOwnColours 0 = .ok (.iconst 0, 1) := by decide +kernel
theorem dX1_noteOwnColours_1 : decode cX1_noteOwnColours 1 = .ok (.istore_n 3, 1) := by decide +kernel
theorem dX1_noteOwnColours_2 : decode cX1_noteOwnColours 2 = .ok (.iload_n 3, 1) := by decide +kernel
theorem dX1_noteOwnColours_3 : decode cX1_noteOwnColours 3 = .ok (.aload_n 1, 1) := by decide +kernel
theorem dX1_noteOwnColours_4 : decode cX1_noteOwnColours 4 = .ok (.invokevirtual 91, 3) := by decide +kernel
theorem dX1_noteOwnColours_7 : decode cX1_noteOwnColours 7 = .ok (.if_icmp .ge 24, 3) := by decide +kernel
theorem dX1_noteOwnColours_10 : decode cX1_noteOwnColours 10 = .ok (.aload_n 0, 1) := by decide +kernel
theorem dX1_noteOwnColours_11 : decode cX1_noteOwnColours 11 = .ok (.aload_n 0, 1) := by decide +kernel
theorem dX1_noteOwnColours_12 : decode cX1_noteOwnColours 12 = .ok (.aload_n 1, 1) := by decide +kernel
theorem dX1_noteOwnColours_13 : decode cX1_noteOwnColours 13 = .ok (.iload_n 3, 1) := by decide +kernel
theorem dX1_noteOwnColours_14 : decode cX1_noteOwnColours 14 = .ok (.invokevirtual 95, 3) := by decide +kernel
theorem dX1_noteOwnColours_17 : decode cX1_noteOwnColours 17 = .ok (.iload_n 2, 1) := by decide +kernel
theorem dX1_noteOwnColours_18 : decode cX1_noteOwnColours 18 = .ok (.invokevirtual 236, 3) := by decide +kernel
theorem dX1_noteOwnColours_21 : decode cX1_noteOwnColours 21 = .ok (.iconst 0, 1) := by decide +kernel
theorem dX1_noteOwnColours_22 : decode cX1_noteOwnColours 22 = .ok (.invokevirtual 239, 3) := by decide +kernel
theorem dX1_noteOwnColours_25 : decode cX1_noteOwnColours 25 = .ok (.iinc 3 1, 3) := by decide +kernel
theorem dX1_noteOwnColours_28 : decode cX1_noteOwnColours 28 = .ok (.goto (-26), 3) := by decide +kernel
theorem dX1_noteOwnColours_31 : decode cX1_noteOwnColours 31 = .ok (.iconst 0, 1) := by decide +kernel
theorem dX1_noteOwnColours_32 : decode cX1_noteOwnColours 32 = .ok (.istore_n 3, 1) := by decide +kernel
theorem dX1_noteOwnColours_33 : decode cX1_noteOwnColours 33 = .ok (.iload_n 3, 1) := by decide +kernel
theorem dX1_noteOwnColours_34 : decode cX1_noteOwnColours 34 = .ok (.aload_n 1, 1) := by decide +kernel
theorem dX1_noteOwnColours_35 : decode cX1_noteOwnColours 35 = .ok (.invokevirtual 91, 3) := by decide +kernel
theorem dX1_noteOwnColours_38 : decode cX1_noteOwnColours 38 = .ok (.if_icmp .ge 46, 3) := by decide +kernel
theorem dX1_noteOwnColours_41 : decode cX1_noteOwnColours 41 = .ok (.aload_n 1, 1) := by decide +kernel
theorem dX1_noteOwnColours_42 : decode cX1_noteOwnColours 42 = .ok (.iload_n 3, 1) := by decide +kernel
theorem dX1_noteOwnColours_43 : decode cX1_noteOwnColours 43 = .ok (.invokevirtual 95, 3) := by decide +kernel
theorem dX1_noteOwnColours_46 : decode cX1_noteOwnColours 46 = .ok (.istore 4, 2) := by decide +kernel
theorem dX1_noteOwnColours_48 : decode cX1_noteOwnColours 48 = .ok (.aload_n 0, 1) := by decide +kernel
theorem dX1_noteOwnColours_49 : decode cX1_noteOwnColours 49 = .ok (.iload 4, 2) := by decide +kernel
theorem dX1_noteOwnColours_51 : decode cX1_noteOwnColours 51 = .ok (.iload_n 2, 1) := by decide +kernel
theorem dX1_noteOwnColours_52 : decode cX1_noteOwnColours 52 = .ok (.invokevirtual 236, 3) := by decide +kernel
theorem dX1_noteOwnColours_55 : decode cX1_noteOwnColours 55 = .ok (.istore 5, 2) := by decide +kernel
theorem dX1_noteOwnColours_57 : decode cX1_noteOwnColours 57 = .ok (.aload_n 0, 1) := by decide +kernel
theorem dX1_noteOwnColours_58 : decode cX1_noteOwnColours 58 = .ok (.iload 5, 2) := by decide +kernel
theorem dX1_noteOwnColours_60 : decode cX1_noteOwnColours 60 = .ok (.aload_n 0, 1) := by decide +kernel
theorem dX1_noteOwnColours_61 : decode cX1_noteOwnColours 61 = .ok (.iload 5, 2) := by decide +kernel
theorem dX1_noteOwnColours_63 : decode cX1_noteOwnColours 63 = .ok (.invokevirtual 242, 3) := by decide +kernel
theorem dX1_noteOwnColours_66 : decode cX1_noteOwnColours 66 = .ok (.iconst 1, 1) := by decide +kernel
theorem dX1_noteOwnColours_67 : decode cX1_noteOwnColours 67 = .ok (.iload 4, 2) := by decide +kernel
theorem dX1_noteOwnColours_69 : decode cX1_noteOwnColours 69 = .ok (.iload_n 2, 1) := by decide +kernel
theorem dX1_noteOwnColours_70 : decode cX1_noteOwnColours 70 = .ok (.invokestatic 101, 3) := by decide +kernel
theorem dX1_noteOwnColours_73 : decode cX1_noteOwnColours 73 = .ok (.ishl, 1) := by decide +kernel
theorem dX1_noteOwnColours_74 : decode cX1_noteOwnColours 74 = .ok (.ior, 1) := by decide +kernel
theorem dX1_noteOwnColours_75 : decode cX1_noteOwnColours 75 = .ok (.invokevirtual 239, 3) := by decide +kernel
theorem dX1_noteOwnColours_78 : decode cX1_noteOwnColours 78 = .ok (.iinc 3 1, 3) := by decide +kernel
theorem dX1_noteOwnColours_81 : decode cX1_noteOwnColours 81 = .ok (.goto (-48), 3) := by decide +kernel
theorem dX1_noteOwnColours_84 : decode cX1_noteOwnColours 84 = .ok (.return_, 1) := by decide +kernel
theorem dX1_ownColours_0 : decode cX1_ownColours 0 = .ok (.iload_n 1, 1) := by decide +kernel
theorem dX1_ownColours_1 : decode cX1_ownColours 1 = .ok (.ifCond .lt 21, 3) := by decide +kernel
theorem dX1_ownColours_4 : decode cX1_ownColours 4 = .ok (.iload_n 1, 1) := by decide +kernel
theorem dX1_ownColours_5 : decode cX1_ownColours 5 = .ok (.aload_n 0, 1) := by decide +kernel
theorem dX1_ownColours_6 : decode cX1_ownColours 6 = .ok (.getfield 23, 3) := by decide +kernel
theorem dX1_ownColours_9 : decode cX1_ownColours 9 = .ok (.arraylength, 1) := by decide +kernel
theorem dX1_ownColours_10 : decode cX1_ownColours 10 = .ok (.if_icmp .ge 12, 3) := by decide +kernel
theorem dX1_ownColours_13 : decode cX1_ownColours 13 = .ok (.aload_n 0, 1) := by decide +kernel
theorem dX1_ownColours_14 : decode cX1_ownColours 14 = .ok (.getfield 23, 3) := by decide +kernel
theorem dX1_ownColours_17 : decode cX1_ownColours 17 = .ok (.iload_n 1, 1) := by decide +kernel
theorem dX1_ownColours_18 : decode cX1_ownColours 18 = .ok (.iaload, 1) := by decide +kernel
theorem dX1_ownColours_19 : decode cX1_ownColours 19 = .ok (.goto 4, 3) := by decide +kernel
theorem dX1_ownColours_22 : decode cX1_ownColours 22 = .ok (.iconst 0, 1) := by decide +kernel
theorem dX1_ownColours_23 : decode cX1_ownColours 23 = .ok (.ireturn, 1) := by decide +kernel
theorem dX1_setOwnColours_0 : decode cX1_setOwnColours 0 = .ok (.iload_n 1, 1) := by decide +kernel
theorem dX1_setOwnColours_1 : decode cX1_setOwnColours 1 = .ok (.ifCond .lt 19, 3) := by decide +kernel
theorem dX1_setOwnColours_4 : decode cX1_setOwnColours 4 = .ok (.iload_n 1, 1) := by decide +kernel
theorem dX1_setOwnColours_5 : decode cX1_setOwnColours 5 = .ok (.aload_n 0, 1) := by decide +kernel
theorem dX1_setOwnColours_6 : decode cX1_setOwnColours 6 = .ok (.getfield 23, 3) := by decide +kernel
theorem dX1_setOwnColours_9 : decode cX1_setOwnColours 9 = .ok (.arraylength, 1) := by decide +kernel
theorem dX1_setOwnColours_10 : decode cX1_setOwnColours 10 = .ok (.if_icmp .ge 10, 3) := by decide +kernel
theorem dX1_setOwnColours_13 : decode cX1_setOwnColours 13 = .ok (.aload_n 0, 1) := by decide +kernel
theorem dX1_setOwnColours_14 : decode cX1_setOwnColours 14 = .ok (.getfield 23, 3) := by decide +kernel
theorem dX1_setOwnColours_17 : decode cX1_setOwnColours 17 = .ok (.iload_n 1, 1) := by decide +kernel
theorem dX1_setOwnColours_18 : decode cX1_setOwnColours 18 = .ok (.iload_n 2, 1) := by decide +kernel
theorem dX1_setOwnColours_19 : decode cX1_setOwnColours 19 = .ok (.iastore, 1) := by decide +kernel
theorem dX1_setOwnColours_20 : decode cX1_setOwnColours 20 = .ok (.return_, 1) := by decide +kernel
theorem dX1_wouldBeCertain_0 : decode cX1_wouldBeCertain 0 = .ok (.aload_n 0, 1) := by decide +kernel
theorem dX1_wouldBeCertain_1 : decode cX1_wouldBeCertain 1 = .ok (.aload_n 0, 1) := by decide +kernel
theorem dX1_wouldBeCertain_2 : decode cX1_wouldBeCertain 2 = .ok (.iload_n 1, 1) := by decide +kernel
theorem dX1_wouldBeCertain_3 : decode cX1_wouldBeCertain 3 = .ok (.iload_n 2, 1) := by decide +kernel
theorem dX1_wouldBeCertain_4 : decode cX1_wouldBeCertain 4 = .ok (.invokevirtual 236, 3) := by decide +kernel
theorem dX1_wouldBeCertain_7 : decode cX1_wouldBeCertain 7 = .ok (.invokevirtual 242, 3) := by decide +kernel
theorem dX1_wouldBeCertain_10 : decode cX1_wouldBeCertain 10 = .ok (.invokestatic 143, 3) := by decide +kernel
theorem dX1_wouldBeCertain_13 : decode cX1_wouldBeCertain 13 = .ok (.ireturn, 1) := by decide +kernel
theorem dX1_playerAfter_0 : decode cX1_playerAfter 0 = .ok (.iload_n 1, 1) := by decide +kernel
theorem dX1_playerAfter_1 : decode cX1_playerAfter 1 = .ok (.iconst 1, 1) := by decide +kernel
theorem dX1_playerAfter_2 : decode cX1_playerAfter 2 = .ok (.iadd, 1) := by decide +kernel
theorem dX1_playerAfter_3 : decode cX1_playerAfter 3 = .ok (.aload_n 0, 1) := by decide +kernel
theorem dX1_playerAfter_4 : decode cX1_playerAfter 4 = .ok (.getfield 26, 3) := by decide +kernel
theorem dX1_playerAfter_7 : decode cX1_playerAfter 7 = .ok (.if_icmp .ge 9, 3) := by decide +kernel
theorem dX1_playerAfter_10 : decode cX1_playerAfter 10 = .ok (.iload_n 1, 1) := by decide +kernel
theorem dX1_playerAfter_11 : decode cX1_playerAfter 11 = .ok (.iconst 1, 1) := by decide +kernel
theorem dX1_playerAfter_12 : decode cX1_playerAfter 12 = .ok (.iadd, 1) := by decide +kernel
theorem dX1_playerAfter_13 : decode cX1_playerAfter 13 = .ok (.goto 4, 3) := by decide +kernel
theorem dX1_playerAfter_16 : decode cX1_playerAfter 16 = .ok (.iconst 0, 1) := by decide +kernel
theorem dX1_playerAfter_17 : decode cX1_playerAfter 17 = .ok (.ireturn, 1) := by decide +kernel
theorem dX1_passTurn_0 : decode cX1_passTurn 0 = .ok (.aload_n 0, 1) := by decide +kernel
theorem dX1_passTurn_1 : decode cX1_passTurn 1 = .ok (.aload_n 1, 1) := by decide +kernel
theorem dX1_passTurn_2 : decode cX1_passTurn 2 = .ok (.iload_n 2, 1) := by decide +kernel
theorem dX1_passTurn_3 : decode cX1_passTurn 3 = .ok (.invokevirtual 140, 3) := by decide +kernel
theorem dX1_passTurn_6 : decode cX1_passTurn 6 = .ok (.istore_n 3, 1) := by decide +kernel
theorem dX1_passTurn_7 : decode cX1_passTurn 7 = .ok (.aload_n 0, 1) := by decide +kernel
theorem dX1_passTurn_8 : decode cX1_passTurn 8 = .ok (.aload_n 1, 1) := by decide +kernel
theorem dX1_passTurn_9 : decode cX1_passTurn 9 = .ok (.iload_n 2, 1) := by decide +kernel
theorem dX1_passTurn_10 : decode cX1_passTurn 10 = .ok (.iload_n 3, 1) := by decide +kernel
theorem dX1_passTurn_11 : decode cX1_passTurn 11 = .ok (.invokevirtual 245, 3) := by decide +kernel
theorem dX1_passTurn_14 : decode cX1_passTurn 14 = .ok (.iload_n 3, 1) := by decide +kernel
theorem dX1_passTurn_15 : decode cX1_passTurn 15 = .ok (.ifCond .eq 16, 3) := by decide +kernel
theorem dX1_passTurn_18 : decode cX1_passTurn 18 = .ok (.aload_n 1, 1) := by decide +kernel
theorem dX1_passTurn_19 : decode cX1_passTurn 19 = .ok (.iload_n 2, 1) := by decide +kernel
theorem dX1_passTurn_20 : decode cX1_passTurn 20 = .ok (.aload_n 0, 1) := by decide +kernel
theorem dX1_passTurn_21 : decode cX1_passTurn 21 = .ok (.getfield 30, 3) := by decide +kernel
theorem dX1_passTurn_24 : decode cX1_passTurn 24 = .ok (.iload_n 2, 1) := by decide +kernel
theorem dX1_passTurn_25 : decode cX1_passTurn 25 = .ok (.invokestatic 101, 3) := by decide +kernel
theorem dX1_passTurn_28 : decode cX1_passTurn 28 = .ok (.invokestatic 171, 3) := by decide +kernel
theorem dX1_passTurn_31 : decode cX1_passTurn 31 = .ok (.iload_n 3, 1) := by decide +kernel
theorem dX1_passTurn_32 : decode cX1_passTurn 32 = .ok (.ireturn, 1) := by decide +kernel
theorem dX1_turnsUntilAreCertain_0 : decode cX1_turnsUntilAreCertain 0 = .ok (.aload_n 0, 1) := by decide +kernel
theorem dX1_turnsUntilAreCertain_1 : decode cX1_turnsUntilAreCertain 1 = .ok (.getfield 16, 3) := by decide +kernel
theorem dX1_turnsUntilAreCertain_4 : decode cX1_turnsUntilAreCertain 4 = .ok (.aload_n 0, 1) := by decide +kernel
theorem dX1_turnsUntilAreCertain_5 : decode cX1_turnsUntilAreCertain 5 = .ok (.getfield 10, 3) := by decide +kernel
theorem dX1_turnsUntilAreCertain_8 : decode cX1_turnsUntilAreCertain 8 = .ok (.invokevirtual 161, 3) := by decide +kernel
theorem dX1_turnsUntilAreCertain_11 : decode cX1_turnsUntilAreCertain 11 = .ok (.aload_n 0, 1) := by decide +kernel
theorem dX1_turnsUntilAreCertain_12 : decode cX1_turnsUntilAreCertain 12 = .ok (.getfield 33, 3) := by decide +kernel
theorem dX1_turnsUntilAreCertain_15 : decode cX1_turnsUntilAreCertain 15 = .ok (.istore_n 3, 1) := by decide +kernel
theorem dX1_turnsUntilAreCertain_16 : decode cX1_turnsUntilAreCertain 16 = .ok (.iconst 0, 1) := by decide +kernel
theorem dX1_turnsUntilAreCertain_17 : decode cX1_turnsUntilAreCertain 17 = .ok (.istore 4, 2) := by decide +kernel
theorem dX1_turnsUntilAreCertain_19 : decode cX1_turnsUntilAreCertain 19 = .ok (.iload 4, 2) := by decide +kernel
theorem dX1_turnsUntilAreCertain_21 : decode cX1_turnsUntilAreCertain 21 = .ok (.bipush 40, 2) := by decide +kernel
theorem dX1_turnsUntilAreCertain_23 : decode cX1_turnsUntilAreCertain 23 = .ok (.if_icmp .ge 41, 3) := by decide +kernel
theorem dX1_turnsUntilAreCertain_26 : decode cX1_turnsUntilAreCertain 26 = .ok (.aload_n 0, 1) := by decide +kernel
theorem dX1_turnsUntilAreCertain_27 : decode cX1_turnsUntilAreCertain 27 = .ok (.aload_n 0, 1) := by decide +kernel
theorem dX1_turnsUntilAreCertain_28 : decode cX1_turnsUntilAreCertain 28 = .ok (.getfield 16, 3) := by decide +kernel
theorem dX1_turnsUntilAreCertain_31 : decode cX1_turnsUntilAreCertain 31 = .ok (.iload_n 1, 1) := by decide +kernel
theorem dX1_turnsUntilAreCertain_32 : decode cX1_turnsUntilAreCertain 32 = .ok (.iload_n 2, 1) := by decide +kernel
theorem dX1_turnsUntilAreCertain_33 : decode cX1_turnsUntilAreCertain 33 = .ok (.invokevirtual 249, 3) := by decide +kernel
theorem dX1_turnsUntilAreCertain_36 : decode cX1_turnsUntilAreCertain 36 = .ok (.ifCond .eq 6, 3) := by decide +kernel
theorem dX1_turnsUntilAreCertain_39 : decode cX1_turnsUntilAreCertain 39 = .ok (.iload 4, 2) := by decide +kernel
theorem dX1_turnsUntilAreCertain_41 : decode cX1_turnsUntilAreCertain 41 = .ok (.ireturn, 1) := by decide +kernel
theorem dX1_turnsUntilAreCertain_42 : decode cX1_turnsUntilAreCertain 42 = .ok (.aload_n 0, 1) := by decide +kernel
theorem dX1_turnsUntilAreCertain_43 : decode cX1_turnsUntilAreCertain 43 = .ok (.aload_n 0, 1) := by decide +kernel
theorem dX1_turnsUntilAreCertain_44 : decode cX1_turnsUntilAreCertain 44 = .ok (.getfield 16, 3) := by decide +kernel
theorem dX1_turnsUntilAreCertain_47 : decode cX1_turnsUntilAreCertain 47 = .ok (.iload_n 3, 1) := by decide +kernel
theorem dX1_turnsUntilAreCertain_48 : decode cX1_turnsUntilAreCertain 48 = .ok (.invokevirtual 108, 3) := by decide +kernel
theorem dX1_turnsUntilAreCertain_51 : decode cX1_turnsUntilAreCertain 51 = .ok (.pop, 1) := by decide +kernel
theorem dX1_turnsUntilAreCertain_52 : decode cX1_turnsUntilAreCertain 52 = .ok (.aload_n 0, 1) := by decide +kernel
theorem dX1_turnsUntilAreCertain_53 : decode cX1_turnsUntilAreCertain 53 = .ok (.iload_n 3, 1) := by decide +kernel
theorem dX1_turnsUntilAreCertain_54 : decode cX1_turnsUntilAreCertain 54 = .ok (.invokevirtual 112, 3) := by decide +kernel
theorem dX1_turnsUntilAreCertain_57 : decode cX1_turnsUntilAreCertain 57 = .ok (.istore_n 3, 1) := by decide +kernel
theorem dX1_turnsUntilAreCertain_58 : decode cX1_turnsUntilAreCertain 58 = .ok (.iinc 4 1, 3) := by decide +kernel
theorem dX1_turnsUntilAreCertain_61 : decode cX1_turnsUntilAreCertain 61 = .ok (.goto (-42), 3) := by decide +kernel
theorem dX1_turnsUntilAreCertain_64 : decode cX1_turnsUntilAreCertain 64 = .ok (.aload_n 0, 1) := by decide +kernel
theorem dX1_turnsUntilAreCertain_65 : decode cX1_turnsUntilAreCertain 65 = .ok (.aload_n 0, 1) := by decide +kernel
theorem dX1_turnsUntilAreCertain_66 : decode cX1_turnsUntilAreCertain 66 = .ok (.getfield 16, 3) := by decide +kernel
theorem dX1_turnsUntilAreCertain_69 : decode cX1_turnsUntilAreCertain 69 = .ok (.iload_n 1, 1) := by decide +kernel
theorem dX1_turnsUntilAreCertain_70 : decode cX1_turnsUntilAreCertain 70 = .ok (.iload_n 2, 1) := by decide +kernel
theorem dX1_turnsUntilAreCertain_71 : decode cX1_turnsUntilAreCertain 71 = .ok (.invokevirtual 249, 3) := by decide +kernel
theorem dX1_turnsUntilAreCertain_74 : decode cX1_turnsUntilAreCertain 74 = .ok (.ifCond .eq 8, 3) := by decide +kernel
theorem dX1_turnsUntilAreCertain_77 : decode cX1_turnsUntilAreCertain 77 = .ok (.bipush 40, 2) := by decide +kernel
theorem dX1_turnsUntilAreCertain_79 : decode cX1_turnsUntilAreCertain 79 = .ok (.goto 4, 3) := by decide +kernel
theorem dX1_turnsUntilAreCertain_82 : decode cX1_turnsUntilAreCertain 82 = .ok (.iconst (-1), 1) := by decide +kernel
theorem dX1_turnsUntilAreCertain_83 : decode cX1_turnsUntilAreCertain 83 = .ok (.ireturn, 1) := by decide +kernel
theorem dX1_areCertainBy_0 : decode cX1_areCertainBy 0 = .ok (.iload_n 2, 1) := by decide +kernel
theorem dX1_areCertainBy_1 : decode cX1_areCertainBy 1 = .ok (.istore 4, 2) := by decide +kernel
theorem dX1_areCertainBy_3 : decode cX1_areCertainBy 3 = .ok (.iload 4, 2) := by decide +kernel
theorem dX1_areCertainBy_5 : decode cX1_areCertainBy 5 = .ok (.iload_n 3, 1) := by decide +kernel
theorem dX1_areCertainBy_6 : decode cX1_areCertainBy 6 = .ok (.if_icmp .ge 21, 3) := by decide +kernel
theorem dX1_areCertainBy_9 : decode cX1_areCertainBy 9 = .ok (.aload_n 0, 1) := by decide +kernel
theorem dX1_areCertainBy_10 : decode cX1_areCertainBy 10 = .ok (.aload_n 1, 1) := by decide +kernel
theorem dX1_areCertainBy_11 : decode cX1_areCertainBy 11 = .ok (.iload 4, 2) := by decide +kernel
theorem dX1_areCertainBy_13 : decode cX1_areCertainBy 13 = .ok (.invokevirtual 140, 3) := by decide +kernel
theorem dX1_areCertainBy_16 : decode cX1_areCertainBy 16 = .ok (.ifCond .ne 5, 3) := by decide +kernel
theorem dX1_areCertainBy_19 : decode cX1_areCertainBy 19 = .ok (.iconst 0, 1) := by decide +kernel
theorem dX1_areCertainBy_20 : decode cX1_areCertainBy 20 = .ok (.ireturn, 1) := by decide +kernel
theorem dX1_areCertainBy_21 : decode cX1_areCertainBy 21 = .ok (.iinc 4 1, 3) := by decide +kernel
theorem dX1_areCertainBy_24 : decode cX1_areCertainBy 24 = .ok (.goto (-21), 3) := by decide +kernel
theorem dX1_areCertainBy_27 : decode cX1_areCertainBy 27 = .ok (.iconst 1, 1) := by decide +kernel
theorem dX1_areCertainBy_28 : decode cX1_areCertainBy 28 = .ok (.ireturn, 1) := by decide +kernel
theorem dX1_digested_0 : decode cX1_digested 0 = .ok (.lload_n 0, 1) := by decide +kernel
theorem dX1_digested_1 : decode cX1_digested 1 = .ok (.ldc2_w 253, 3) := by decide +kernel
theorem dX1_digested_4 : decode cX1_digested 4 = .ok (.lmul, 1) := by decide +kernel
theorem dX1_digested_5 : decode cX1_digested 5 = .ok (.lload_n 2, 1) := by decide +kernel
theorem dX1_digested_6 : decode cX1_digested 6 = .ok (.ladd, 1) := by decide +kernel
theorem dX1_digested_7 : decode cX1_digested 7 = .ok (.lreturn, 1) := by decide +kernel
theorem dX1_digested__0 : decode cX1_digested_ 0 = .ok (.lload_n 0, 1) := by decide +kernel
theorem dX1_digested__1 : decode cX1_digested_ 1 = .ok (.iload_n 2, 1) := by decide +kernel
theorem dX1_digested__2 : decode cX1_digested_ 2 = .ok (.ifCond .eq 7, 3) := by decide +kernel
theorem dX1_digested__5 : decode cX1_digested_ 5 = .ok (.lconst 1, 1) := by decide +kernel
theorem dX1_digested__6 : decode cX1_digested_ 6 = .ok (.goto 4, 3) := by decide +kernel
theorem dX1_digested__9 : decode cX1_digested_ 9 = .ok (.lconst 0, 1) := by decide +kernel
theorem dX1_digested__10 : decode cX1_digested_ 10 = .ok (.invokestatic 180, 3) := by decide +kernel
theorem dX1_digested__13 : decode cX1_digested_ 13 = .ok (.lreturn, 1) := by decide +kernel
theorem dX1_digestedPlayer_0 : decode cX1_digestedPlayer 0 = .ok (.lload_n 1, 1) := by decide +kernel
theorem dX1_digestedPlayer_1 : decode cX1_digestedPlayer 1 = .ok (.lstore 4, 2) := by decide +kernel
theorem dX1_digestedPlayer_3 : decode cX1_digestedPlayer 3 = .ok (.lload 4, 2) := by decide +kernel
theorem dX1_digestedPlayer_5 : decode cX1_digestedPlayer 5 = .ok (.aload_n 0, 1) := by decide +kernel
theorem dX1_digestedPlayer_6 : decode cX1_digestedPlayer 6 = .ok (.iload_n 3, 1) := by decide +kernel
theorem dX1_digestedPlayer_7 : decode cX1_digestedPlayer 7 = .ok (.invokevirtual 255, 3) := by decide +kernel
theorem dX1_digestedPlayer_10 : decode cX1_digestedPlayer 10 = .ok (.i2l, 1) := by decide +kernel
theorem dX1_digestedPlayer_11 : decode cX1_digestedPlayer 11 = .ok (.invokestatic 180, 3) := by decide +kernel
theorem dX1_digestedPlayer_14 : decode cX1_digestedPlayer 14 = .ok (.lstore 4, 2) := by decide +kernel
theorem dX1_digestedPlayer_16 : decode cX1_digestedPlayer 16 = .ok (.lload 4, 2) := by decide +kernel
theorem dX1_digestedPlayer_18 : decode cX1_digestedPlayer 18 = .ok (.aload_n 0, 1) := by decide +kernel
theorem dX1_digestedPlayer_19 : decode cX1_digestedPlayer 19 = .ok (.iload_n 3, 1) := by decide +kernel
theorem dX1_digestedPlayer_20 : decode cX1_digestedPlayer 20 = .ok (.invokevirtual 258, 3) := by decide +kernel
theorem dX1_digestedPlayer_23 : decode cX1_digestedPlayer 23 = .ok (.i2l, 1) := by decide +kernel
theorem dX1_digestedPlayer_24 : decode cX1_digestedPlayer 24 = .ok (.invokestatic 180, 3) := by decide +kernel
theorem dX1_digestedPlayer_27 : decode cX1_digestedPlayer 27 = .ok (.lstore 4, 2) := by decide +kernel
theorem dX1_digestedPlayer_29 : decode cX1_digestedPlayer 29 = .ok (.lload 4, 2) := by decide +kernel
theorem dX1_digestedPlayer_31 : decode cX1_digestedPlayer 31 = .ok (.aload_n 0, 1) := by decide +kernel
theorem dX1_digestedPlayer_32 : decode cX1_digestedPlayer 32 = .ok (.iload_n 3, 1) := by decide +kernel
theorem dX1_digestedPlayer_33 : decode cX1_digestedPlayer 33 = .ok (.invokevirtual 261, 3) := by decide +kernel
theorem dX1_digestedPlayer_36 : decode cX1_digestedPlayer 36 = .ok (.invokestatic 264, 3) := by decide +kernel
theorem dX1_digestedPlayer_39 : decode cX1_digestedPlayer 39 = .ok (.lstore 4, 2) := by decide +kernel
theorem dX1_digestedPlayer_41 : decode cX1_digestedPlayer 41 = .ok (.lload 4, 2) := by decide +kernel
theorem dX1_digestedPlayer_43 : decode cX1_digestedPlayer 43 = .ok (.aload_n 0, 1) := by decide +kernel
theorem dX1_digestedPlayer_44 : decode cX1_digestedPlayer 44 = .ok (.iload_n 3, 1) := by decide +kernel
theorem dX1_digestedPlayer_45 : decode cX1_digestedPlayer 45 = .ok (.invokevirtual 267, 3) := by decide +kernel
theorem dX1_digestedPlayer_48 : decode cX1_digestedPlayer 48 = .ok (.invokestatic 264, 3) := by decide +kernel
theorem dX1_digestedPlayer_51 : decode cX1_digestedPlayer 51 = .ok (.lstore 4, 2) := by decide +kernel
theorem dX1_digestedPlayer_53 : decode cX1_digestedPlayer 53 = .ok (.lload 4, 2) := by decide +kernel
theorem dX1_digestedPlayer_55 : decode cX1_digestedPlayer 55 = .ok (.aload_n 0, 1) := by decide +kernel
theorem dX1_digestedPlayer_56 : decode cX1_digestedPlayer 56 = .ok (.iload_n 3, 1) := by decide +kernel
theorem dX1_digestedPlayer_57 : decode cX1_digestedPlayer 57 = .ok (.invokevirtual 270, 3) := by decide +kernel
theorem dX1_digestedPlayer_60 : decode cX1_digestedPlayer 60 = .ok (.i2l, 1) := by decide +kernel
theorem dX1_digestedPlayer_61 : decode cX1_digestedPlayer 61 = .ok (.invokestatic 180, 3) := by decide +kernel
theorem dX1_digestedPlayer_64 : decode cX1_digestedPlayer 64 = .ok (.lstore 4, 2) := by decide +kernel
theorem dX1_digestedPlayer_66 : decode cX1_digestedPlayer 66 = .ok (.iconst 0, 1) := by decide +kernel
theorem dX1_digestedPlayer_67 : decode cX1_digestedPlayer 67 = .ok (.istore 6, 2) := by decide +kernel
theorem dX1_digestedPlayer_69 : decode cX1_digestedPlayer 69 = .ok (.iload 6, 2) := by decide +kernel
theorem dX1_digestedPlayer_71 : decode cX1_digestedPlayer 71 = .ok (.aload_n 0, 1) := by decide +kernel
theorem dX1_digestedPlayer_72 : decode cX1_digestedPlayer 72 = .ok (.getfield 26, 3) := by decide +kernel
theorem dX1_digestedPlayer_75 : decode cX1_digestedPlayer 75 = .ok (.if_icmp .ge 51, 3) := by decide +kernel
theorem dX1_digestedPlayer_78 : decode cX1_digestedPlayer 78 = .ok (.lload 4, 2) := by decide +kernel
theorem dX1_digestedPlayer_80 : decode cX1_digestedPlayer 80 = .ok (.aload_n 0, 1) := by decide +kernel
theorem dX1_digestedPlayer_81 : decode cX1_digestedPlayer 81 = .ok (.iload_n 3, 1) := by decide +kernel
theorem dX1_digestedPlayer_82 : decode cX1_digestedPlayer 82 = .ok (.iload 6, 2) := by decide +kernel
theorem dX1_digestedPlayer_84 : decode cX1_digestedPlayer 84 = .ok (.invokevirtual 273, 3) := by decide +kernel
theorem dX1_digestedPlayer_87 : decode cX1_digestedPlayer 87 = .ok (.invokestatic 264, 3) := by decide +kernel
theorem dX1_digestedPlayer_90 : decode cX1_digestedPlayer 90 = .ok (.lstore 4, 2) := by decide +kernel
theorem dX1_digestedPlayer_92 : decode cX1_digestedPlayer 92 = .ok (.lload 4, 2) := by decide +kernel
theorem dX1_digestedPlayer_94 : decode cX1_digestedPlayer 94 = .ok (.aload_n 0, 1) := by decide +kernel
theorem dX1_digestedPlayer_95 : decode cX1_digestedPlayer 95 = .ok (.iload_n 3, 1) := by decide +kernel
theorem dX1_digestedPlayer_96 : decode cX1_digestedPlayer 96 = .ok (.iload 6, 2) := by decide +kernel
theorem dX1_digestedPlayer_98 : decode cX1_digestedPlayer 98 = .ok (.invokevirtual 276, 3) := by decide +kernel
theorem dX1_digestedPlayer_101 : decode cX1_digestedPlayer 101 = .ok (.invokestatic 264, 3) := by decide +kernel
theorem dX1_digestedPlayer_104 : decode cX1_digestedPlayer 104 = .ok (.lstore 4, 2) := by decide +kernel
theorem dX1_digestedPlayer_106 : decode cX1_digestedPlayer 106 = .ok (.lload 4, 2) := by decide +kernel
theorem dX1_digestedPlayer_108 : decode cX1_digestedPlayer 108 = .ok (.aload_n 0, 1) := by decide +kernel
theorem dX1_digestedPlayer_109 : decode cX1_digestedPlayer 109 = .ok (.iload_n 3, 1) := by decide +kernel
theorem dX1_digestedPlayer_110 : decode cX1_digestedPlayer 110 = .ok (.iload 6, 2) := by decide +kernel
theorem dX1_digestedPlayer_112 : decode cX1_digestedPlayer 112 = .ok (.invokevirtual 279, 3) := by decide +kernel
theorem dX1_digestedPlayer_115 : decode cX1_digestedPlayer 115 = .ok (.invokestatic 264, 3) := by decide +kernel
theorem dX1_digestedPlayer_118 : decode cX1_digestedPlayer 118 = .ok (.lstore 4, 2) := by decide +kernel
theorem dX1_digestedPlayer_120 : decode cX1_digestedPlayer 120 = .ok (.iinc 6 1, 3) := by decide +kernel
theorem dX1_digestedPlayer_123 : decode cX1_digestedPlayer 123 = .ok (.goto (-54), 3) := by decide +kernel
theorem dX1_digestedPlayer_126 : decode cX1_digestedPlayer 126 = .ok (.lload 4, 2) := by decide +kernel
theorem dX1_digestedPlayer_128 : decode cX1_digestedPlayer 128 = .ok (.lreturn, 1) := by decide +kernel
theorem dX2_init_0 : decode cX2_init 0 = .ok (.aload_n 0, 1) := by decide +kernel
theorem dX2_init_1 : decode cX2_init 1 = .ok (.invokespecial 1, 3) := by decide +kernel
theorem dX2_init_4 : decode cX2_init 4 = .ok (.aload_n 0, 1) := by decide +kernel
theorem dX2_init_5 : decode cX2_init 5 = .ok (.iconst 5, 1) := by decide +kernel
theorem dX2_init_6 : decode cX2_init 6 = .ok (.newarray .int, 2) := by decide +kernel
theorem dX2_init_8 : decode cX2_init 8 = .ok (.putfield 9, 3) := by decide +kernel
theorem dX2_init_11 : decode cX2_init 11 = .ok (.aload_n 0, 1) := by decide +kernel
theorem dX2_init_12 : decode cX2_init 12 = .ok (.iconst 5, 1) := by decide +kernel
theorem dX2_init_13 : decode cX2_init 13 = .ok (.newarray .int, 2) := by decide +kernel
theorem dX2_init_15 : decode cX2_init 15 = .ok (.putfield 13, 3) := by decide +kernel
theorem dX2_init_18 : decode cX2_init 18 = .ok (.aload_n 0, 1) := by decide +kernel
theorem dX2_init_19 : decode cX2_init 19 = .ok (.sipush 243, 3) := by decide +kernel
theorem dX2_init_22 : decode cX2_init 22 = .ok (.newarray .boolean, 2) := by decide +kernel
theorem dX2_init_24 : decode cX2_init 24 = .ok (.putfield 16, 3) := by decide +kernel
theorem dX2_init_27 : decode cX2_init 27 = .ok (.aload_n 0, 1) := by decide +kernel
theorem dX2_init_28 : decode cX2_init 28 = .ok (.sipush 243, 3) := by decide +kernel
theorem dX2_init_31 : decode cX2_init 31 = .ok (.newarray .boolean, 2) := by decide +kernel
theorem dX2_init_33 : decode cX2_init 33 = .ok (.putfield 20, 3) := by decide +kernel
theorem dX2_init_36 : decode cX2_init 36 = .ok (.aload_n 0, 1) := by decide +kernel
theorem dX2_init_37 : decode cX2_init 37 = .ok (.sipush 243, 3) := by decide +kernel
theorem dX2_init_40 : decode cX2_init 40 = .ok (.newarray .boolean, 2) := by decide +kernel
theorem dX2_init_42 : decode cX2_init 42 = .ok (.putfield 23, 3) := by decide +kernel
theorem dX2_init_45 : decode cX2_init 45 = .ok (.aload_n 0, 1) := by decide +kernel
theorem dX2_init_46 : decode cX2_init 46 = .ok (.sipush 243, 3) := by decide +kernel
theorem dX2_init_49 : decode cX2_init 49 = .ok (.newarray .int, 2) := by decide +kernel
theorem dX2_init_51 : decode cX2_init 51 = .ok (.putfield 26, 3) := by decide +kernel
theorem dX2_init_54 : decode cX2_init 54 = .ok (.aload_n 0, 1) := by decide +kernel
theorem dX2_init_55 : decode cX2_init 55 = .ok (.getfield 16, 3) := by decide +kernel
theorem dX2_init_58 : decode cX2_init 58 = .ok (.iconst 0, 1) := by decide +kernel
theorem dX2_init_59 : decode cX2_init 59 = .ok (.iconst 1, 1) := by decide +kernel
theorem dX2_init_60 : decode cX2_init 60 = .ok (.bastore, 1) := by decide +kernel
theorem dX2_init_61 : decode cX2_init 61 = .ok (.return_, 1) := by decide +kernel
theorem dX2_thrown_0 : decode cX2_thrown 0 = .ok (.aload_n 0, 1) := by decide +kernel
theorem dX2_thrown_1 : decode cX2_thrown 1 = .ok (.getfield 29, 3) := by decide +kernel
theorem dX2_thrown_4 : decode cX2_thrown 4 = .ok (.ireturn, 1) := by decide +kernel
theorem dX2_fail_0 : decode cX2_fail 0 = .ok (.aload_n 0, 1) := by decide +kernel
theorem dX2_fail_1 : decode cX2_fail 1 = .ok (.iload_n 1, 1) := by decide +kernel
theorem dX2_fail_2 : decode cX2_fail 2 = .ok (.putfield 29, 3) := by decide +kernel
theorem dX2_fail_5 : decode cX2_fail 5 = .ok (.iconst 0, 1) := by decide +kernel
theorem dX2_fail_6 : decode cX2_fail 6 = .ok (.ireturn, 1) := by decide +kernel
theorem dX2_told_0 : decode cX2_told 0 = .ok (.aload_n 0, 1) := by decide +kernel
theorem dX2_told_1 : decode cX2_told 1 = .ok (.iconst 0, 1) := by decide +kernel
theorem dX2_told_2 : decode cX2_told 2 = .ok (.putfield 29, 3) := by decide +kernel
theorem dX2_told_5 : decode cX2_told 5 = .ok (.iload_n 1, 1) := by decide +kernel
theorem dX2_told_6 : decode cX2_told 6 = .ok (.ireturn, 1) := by decide +kernel
theorem dX2_isIn_0 : decode cX2_isIn 0 = .ok (.iload_n 0, 1) := by decide +kernel
theorem dX2_isIn_1 : decode cX2_isIn 1 = .ok (.iload_n 1, 1) := by decide +kernel
theorem dX2_isIn_2 : decode cX2_isIn 2 = .ok (.if_icmp .lt 12, 3) := by decide +kernel
theorem dX2_isIn_5 : decode cX2_isIn 5 = .ok (.iload_n 0, 1) := by decide +kernel
theorem dX2_isIn_6 : decode cX2_isIn 6 = .ok (.iload_n 2, 1) := by decide +kernel
theorem dX2_isIn_7 : decode cX2_isIn 7 = .ok (.if_icmp .gt 7, 3) := by decide +kernel
theorem dX2_isIn_10 : decode cX2_isIn 10 = .ok (.iconst 1, 1) := by decide +kernel
theorem dX2_isIn_11 : decode cX2_isIn 11 = .ok (.goto 4, 3) := by decide +kernel
theorem dX2_isIn_14 : decode cX2_isIn 14 = .ok (.iconst 0, 1) := by decide +kernel
theorem dX2_isIn_15 : decode cX2_isIn 15 = .ok (.ireturn, 1) := by decide +kernel
theorem dX2_isPlayer_0 : decode cX2_isPlayer 0 = .ok (.iload_n 1, 1) := by decide +kernel
theorem dX2_isPlayer_1 : decode cX2_isPlayer 1 = .ok (.iconst 0, 1) := by decide +kernel
theorem dX2_isPlayer_2 : decode cX2_isPlayer 2 = .ok (.aload_n 0, 1) := by decide +kernel
theorem dX2_isPlayer_3 : decode cX2_isPlayer 3 = .ok (.getfield 33, 3) := by decide +kernel
theorem dX2_isPlayer_6 : decode cX2_isPlayer 6 = .ok (.iconst 1, 1) := by decide +kernel
theorem dX2_isPlayer_7 : decode cX2_isPlayer 7 = .ok (.isub, 1) := by decide +kernel
theorem dX2_isPlayer_8 : decode cX2_isPlayer 8 = .ok (.invokestatic 36, 3) := by decide +kernel
theorem dX2_isPlayer_11 : decode cX2_isPlayer 11 = .ok (.ireturn, 1) := by decide +kernel
theorem dX2_isColour_0 : decode cX2_isColour 0 = .ok (.iload_n 0, 1) := by decide +kernel
theorem dX2_isColour_1 : decode cX2_isColour 1 = .ok (.iconst 0, 1) := by decide +kernel
theorem dX2_isColour_2 : decode cX2_isColour 2 = .ok (.iconst 2, 1) := by decide +kernel
theorem dX2_isColour_3 : decode cX2_isColour 3 = .ok (.invokestatic 36, 3) := by decide +kernel
theorem dX2_isColour_6 : decode cX2_isColour 6 = .ok (.ireturn, 1) := by decide +kernel
theorem dX2_ways_0 : decode cX2_ways 0 = .ok (.getstatic 40, 3) := by decide +kernel
theorem dX2_ways_3 : decode cX2_ways 3 = .ok (.aload_n 0, 1) := by decide +kernel
theorem dX2_ways_4 : decode cX2_ways 4 = .ok (.getfield 33, 3) := by decide +kernel
theorem dX2_ways_7 : decode cX2_ways 7 = .ok (.iaload, 1) := by decide +kernel
theorem dX2_ways_8 : decode cX2_ways 8 = .ok (.ireturn, 1) := by decide +kernel
theorem dX2_colour_0 : decode cX2_colour 0 = .ok (.iload_n 0, 1) := by decide +kernel
theorem dX2_colour_1 : decode cX2_colour 1 = .ok (.getstatic 40, 3) := by decide +kernel
theorem dX2_colour_4 : decode cX2_colour 4 = .ok (.iload_n 1, 1) := by decide +kernel
theorem dX2_colour_5 : decode cX2_colour 5 = .ok (.iaload, 1) := by decide +kernel
theorem dX2_colour_6 : decode cX2_colour 6 = .ok (.idiv, 1) := by decide +kernel
theorem dX2_colour_7 : decode cX2_colour 7 = .ok (.iconst 3, 1) := by decide +kernel
theorem dX2_colour_8 : decode cX2_colour 8 = .ok (.irem, 1) := by decide +kernel
theorem dX2_colour_9 : decode cX2_colour 9 = .ok (.ireturn, 1) := by decide +kernel
theorem dX2_real_0 : decode cX2_real 0 = .ok (.iconst 0, 1) := by decide +kernel
theorem dX2_real_1 : decode cX2_real 1 = .ok (.istore_n 1, 1) := by decide +kernel
theorem dX2_real_2 : decode cX2_real 2 = .ok (.iconst 0, 1) := by decide +kernel
theorem dX2_real_3 : decode cX2_real 3 = .ok (.istore_n 2, 1) := by decide +kernel
theorem dX2_real_4 : decode cX2_real 4 = .ok (.iload_n 2, 1) := by decide +kernel
theorem dX2_real_5 : decode cX2_real 5 = .ok (.aload_n 0, 1) := by decide +kernel
theorem dX2_real_6 : decode cX2_real 6 = .ok (.getfield 33, 3) := by decide +kernel
theorem dX2_real_9 : decode cX2_real 9 = .ok (.if_icmp .ge 24, 3) := by decide +kernel
theorem dX2_real_12 : decode cX2_real 12 = .ok (.iload_n 1, 1) := by decide +kernel
theorem dX2_real_13 : decode cX2_real 13 = .ok (.aload_n 0, 1) := by decide +kernel
theorem dX2_real_14 : decode cX2_real 14 = .ok (.getfield 9, 3) := by decide +kernel
theorem dX2_real_17 : decode cX2_real 17 = .ok (.iload_n 2, 1) := by decide +kernel
theorem dX2_real_18 : decode cX2_real 18 = .ok (.iaload, 1) := by decide +kernel
theorem dX2_real_19 : decode cX2_real 19 = .ok (.getstatic 40, 3) := by decide +kernel
theorem dX2_real_22 : decode cX2_real 22 = .ok (.iload_n 2, 1) := by decide +kernel
theorem dX2_real_23 : decode cX2_real 23 = .ok (.iaload, 1) := by decide +kernel
theorem dX2_real_24 : decode cX2_real 24 = .ok (.imul, 1) := by decide +kernel
theorem dX2_real_25 : decode cX2_real 25 = .ok (.iadd, 1) := by decide +kernel
theorem dX2_real_26 : decode cX2_real 26 = .ok (.istore_n 1, 1) := by decide +kernel
theorem dX2_real_27 : decode cX2_real 27 = .ok (.iinc 2 1, 3) := by decide +kernel
theorem dX2_real_30 : decode cX2_real 30 = .ok (.goto (-26), 3) := by decide +kernel
theorem dX2_real_33 : decode cX2_real 33 = .ok (.iload_n 1, 1) := by decide +kernel
theorem dX2_real_34 : decode cX2_real 34 = .ok (.ireturn, 1) := by decide +kernel
theorem dX2_sees_0 : decode cX2_sees 0 = .ok (.aload_n 0, 1) := by decide +kernel
theorem dX2_sees_1 : decode cX2_sees 1 = .ok (.getfield 13, 3) := by decide +kernel
theorem dX2_sees_4 : decode cX2_sees 4 = .ok (.iload_n 1, 1) := by decide +kernel
theorem dX2_sees_5 : decode cX2_sees 5 = .ok (.iaload, 1) := by decide +kernel
theorem dX2_sees_6 : decode cX2_sees 6 = .ok (.iload_n 2, 1) := by decide +kernel
theorem dX2_sees_7 : decode cX2_sees 7 = .ok (.ishr, 1) := by decide +kernel
theorem dX2_sees_8 : decode cX2_sees 8 = .ok (.iconst 1, 1) := by decide +kernel
theorem dX2_sees_9 : decode cX2_sees 9 = .ok (.iand, 1) := by decide +kernel
theorem dX2_sees_10 : decode cX2_sees 10 = .ok (.iconst 1, 1) := by decide +kernel
theorem dX2_sees_11 : decode cX2_sees 11 = .ok (.if_icmp .ne 12, 3) := by decide +kernel
theorem dX2_sees_14 : decode cX2_sees 14 = .ok (.iload_n 2, 1) := by decide +kernel
theorem dX2_sees_15 : decode cX2_sees 15 = .ok (.iload_n 3, 1) := by decide +kernel
theorem dX2_sees_16 : decode cX2_sees 16 = .ok (.if_icmp .eq 7, 3) := by decide +kernel
theorem dX2_sees_19 : decode cX2_sees 19 = .ok (.iconst 1, 1) := by decide +kernel
theorem dX2_sees_20 : decode cX2_sees 20 = .ok (.goto 4, 3) := by decide +kernel
theorem dX2_sees_23 : decode cX2_sees 23 = .ok (.iconst 0, 1) := by decide +kernel
theorem dX2_sees_24 : decode cX2_sees 24 = .ok (.ireturn, 1) := by decide +kernel
theorem dX2_view_0 : decode cX2_view 0 = .ok (.iconst 0, 1) := by decide +kernel
theorem dX2_view_1 : decode cX2_view 1 = .ok (.istore_n 3, 1) := by decide +kernel
theorem dX2_view_2 : decode cX2_view 2 = .ok (.iconst 0, 1) := by decide +kernel
theorem dX2_view_3 : decode cX2_view 3 = .ok (.istore 4, 2) := by decide +kernel
theorem dX2_view_5 : decode cX2_view 5 = .ok (.iload 4, 2) := by decide +kernel
theorem dX2_view_7 : decode cX2_view 7 = .ok (.aload_n 0, 1) := by decide +kernel
theorem dX2_view_8 : decode cX2_view 8 = .ok (.getfield 33, 3) := by decide +kernel
theorem dX2_view_11 : decode cX2_view 11 = .ok (.if_icmp .ge 36, 3) := by decide +kernel
theorem dX2_view_14 : decode cX2_view 14 = .ok (.aload_n 0, 1) := by decide +kernel
theorem dX2_view_15 : decode cX2_view 15 = .ok (.iload_n 1, 1) := by decide +kernel
theorem dX2_view_16 : decode cX2_view 16 = .ok (.iload 4, 2) := by decide +kernel
theorem dX2_view_18 : decode cX2_view 18 = .ok (.iload_n 1, 1) := by decide +kernel
theorem dX2_view_19 : decode cX2_view 19 = .ok (.invokevirtual 43, 3) := by decide +kernel
theorem dX2_view_22 : decode cX2_view 22 = .ok (.ifCond .eq 19, 3) := by decide +kernel
theorem dX2_view_25 : decode cX2_view 25 = .ok (.iload_n 3, 1) := by decide +kernel
theorem dX2_view_26 : decode cX2_view 26 = .ok (.iload_n 2, 1) := by decide +kernel
theorem dX2_view_27 : decode cX2_view 27 = .ok (.iload 4, 2) := by decide +kernel
theorem dX2_view_29 : decode cX2_view 29 = .ok (.invokestatic 46, 3) := by decide +kernel
theorem dX2_view_32 : decode cX2_view 32 = .ok (.getstatic 40, 3) := by decide +kernel
theorem dX2_view_35 : decode cX2_view 35 = .ok (.iload 4, 2) := by decide +kernel
theorem dX2_view_37 : decode cX2_view 37 = .ok (.iaload, 1) := by decide +kernel
theorem dX2_view_38 : decode cX2_view 38 = .ok (.imul, 1) := by decide +kernel
theorem dX2_view_39 : decode cX2_view 39 = .ok (.iadd, 1) := by decide +kernel
theorem dX2_view_40 : decode cX2_view 40 = .ok (.istore_n 3, 1) := by decide +kernel
theorem dX2_view_41 : decode cX2_view 41 = .ok (.iinc 4 1, 3) := by decide +kernel
theorem dX2_view_44 : decode cX2_view 44 = .ok (.goto (-39), 3) := by decide +kernel
theorem dX2_view_47 : decode cX2_view 47 = .ok (.iload_n 3, 1) := by decide +kernel
theorem dX2_view_48 : decode cX2_view 48 = .ok (.ireturn, 1) := by decide +kernel
theorem dX2_colours_0 : decode cX2_colours 0 = .ok (.aload_n 0, 1) := by decide +kernel
theorem dX2_colours_1 : decode cX2_colours 1 = .ok (.iload_n 1, 1) := by decide +kernel
theorem dX2_colours_2 : decode cX2_colours 2 = .ok (.iload_n 3, 1) := by decide +kernel
theorem dX2_colours_3 : decode cX2_colours 3 = .ok (.invokevirtual 50, 3) := by decide +kernel
theorem dX2_colours_6 : decode cX2_colours 6 = .ok (.istore 4, 2) := by decide +kernel
theorem dX2_colours_8 : decode cX2_colours 8 = .ok (.iconst 0, 1) := by decide +kernel
theorem dX2_colours_9 : decode cX2_colours 9 = .ok (.istore 5, 2) := by decide +kernel
theorem dX2_colours_11 : decode cX2_colours 11 = .ok (.iconst 0, 1) := by decide +kernel
theorem dX2_colours_12 : decode cX2_colours 12 = .ok (.istore 6, 2) := by decide +kernel
theorem dX2_colours_14 : decode cX2_colours 14 = .ok (.iload 6, 2) := by decide +kernel
theorem dX2_colours_16 : decode cX2_colours 16 = .ok (.aload_n 0, 1) := by decide +kernel
theorem dX2_colours_17 : decode cX2_colours 17 = .ok (.invokevirtual 53, 3) := by decide +kernel
theorem dX2_colours_20 : decode cX2_colours 20 = .ok (.if_icmp .ge 44, 3) := by decide +kernel
theorem dX2_colours_23 : decode cX2_colours 23 = .ok (.aload_n 0, 1) := by decide +kernel
theorem dX2_colours_24 : decode cX2_colours 24 = .ok (.getfield 16, 3) := by decide +kernel
theorem dX2_colours_27 : decode cX2_colours 27 = .ok (.iload 6, 2) := by decide +kernel
theorem dX2_colours_29 : decode cX2_colours 29 = .ok (.baload, 1) := by decide +kernel
theorem dX2_colours_30 : decode cX2_colours 30 = .ok (.ifCond .eq 28, 3) := by decide +kernel
theorem dX2_colours_33 : decode cX2_colours 33 = .ok (.aload_n 0, 1) := by decide +kernel
theorem dX2_colours_34 : decode cX2_colours 34 = .ok (.iload_n 1, 1) := by decide +kernel
theorem dX2_colours_35 : decode cX2_colours 35 = .ok (.iload 6, 2) := by decide +kernel
theorem dX2_colours_37 : decode cX2_colours 37 = .ok (.invokevirtual 50, 3) := by decide +kernel
theorem dX2_colours_40 : decode cX2_colours 40 = .ok (.iload 4, 2) := by decide +kernel
theorem dX2_colours_42 : decode cX2_colours 42 = .ok (.if_icmp .ne 16, 3) := by decide +kernel
theorem dX2_colours_45 : decode cX2_colours 45 = .ok (.iload 5, 2) := by decide +kernel
theorem dX2_colours_47 : decode cX2_colours 47 = .ok (.iconst 1, 1) := by decide +kernel
theorem dX2_colours_48 : decode cX2_colours 48 = .ok (.iload 6, 2) := by decide +kernel
theorem dX2_colours_50 : decode cX2_colours 50 = .ok (.iload_n 2, 1) := by decide +kernel
theorem dX2_colours_51 : decode cX2_colours 51 = .ok (.invokestatic 46, 3) := by decide +kernel
theorem dX2_colours_54 : decode cX2_colours 54 = .ok (.ishl, 1) := by decide +kernel
theorem dX2_colours_55 : decode cX2_colours 55 = .ok (.ior, 1) := by decide +kernel
theorem dX2_colours_56 : decode cX2_colours 56 = .ok (.istore 5, 2) := by decide +kernel
theorem dX2_colours_58 : decode cX2_colours 58 = .ok (.iinc 6 1, 3) := by decide +kernel
theorem dX2_colours_61 : decode cX2_colours 61 = .ok (.goto (-47), 3) := by decide +kernel
theorem dX2_colours_64 : decode cX2_colours 64 = .ok (.iload 5, 2) := by decide +kernel
theorem dX2_colours_66 : decode cX2_colours 66 = .ok (.ireturn, 1) := by decide +kernel
theorem dX2_isOne_0 : decode cX2_isOne 0 = .ok (.iload_n 0, 1) := by decide +kernel
theorem dX2_isOne_1 : decode cX2_isOne 1 = .ok (.iconst 1, 1) := by decide +kernel
theorem dX2_isOne_2 : decode cX2_isOne 2 = .ok (.if_icmp .eq 13, 3) := by decide +kernel
theorem dX2_isOne_5 : decode cX2_isOne 5 = .ok (.iload_n 0, 1) := by decide +kernel
theorem dX2_isOne_6 : decode cX2_isOne 6 = .ok (.iconst 2, 1) := by decide +kernel
theorem dX2_isOne_7 : decode cX2_isOne 7 = .ok (.if_icmp .eq 8, 3) := by decide +kernel
theorem dX2_isOne_10 : decode cX2_isOne 10 = .ok (.iload_n 0, 1) := by decide +kernel
theorem dX2_isOne_11 : decode cX2_isOne 11 = .ok (.iconst 4, 1) := by decide +kernel
theorem dX2_isOne_12 : decode cX2_isOne 12 = .ok (.if_icmp .ne 7, 3) := by decide +kernel
theorem dX2_isOne_15 : decode cX2_isOne 15 = .ok (.iconst 1, 1) := by decide +kernel
theorem dX2_isOne_16 : decode cX2_isOne 16 = .ok (.goto 4, 3) := by decide +kernel
theorem dX2_isOne_19 : decode cX2_isOne 19 = .ok (.iconst 0, 1) := by decide +kernel
theorem dX2_isOne_20 : decode cX2_isOne 20 = .ok (.ireturn, 1) := by decide +kernel
theorem dX2_look_0 : decode cX2_look 0 = .ok (.iconst 0, 1) := by decide +kernel
theorem dX2_look_1 : decode cX2_look 1 = .ok (.istore_n 2, 1) := by decide +kernel
theorem dX2_look_2 : decode cX2_look 2 = .ok (.iload_n 2, 1) := by decide +kernel
theorem dX2_look_3 : decode cX2_look 3 = .ok (.aload_n 0, 1) := by decide +kernel
theorem dX2_look_4 : decode cX2_look 4 = .ok (.invokevirtual 53, 3) := by decide +kernel
theorem dX2_look_7 : decode cX2_look 7 = .ok (.if_icmp .ge 16, 3) := by decide +kernel
theorem dX2_look_10 : decode cX2_look 10 = .ok (.aload_n 0, 1) := by decide +kernel
theorem dX2_look_11 : decode cX2_look 11 = .ok (.getfield 26, 3) := by decide +kernel
theorem dX2_look_14 : decode cX2_look 14 = .ok (.iload_n 2, 1) := by decide +kernel
theorem dX2_look_15 : decode cX2_look 15 = .ok (.iconst 0, 1) := by decide +kernel
theorem dX2_look_16 : decode cX2_look 16 = .ok (.iastore, 1) := by decide +kernel
theorem dX2_look_17 : decode cX2_look 17 = .ok (.iinc 2 1, 3) := by decide +kernel
theorem dX2_look_20 : decode cX2_look 20 = .ok (.goto (-18), 3) := by decide +kernel
theorem dX2_look_23 : decode cX2_look 23 = .ok (.iconst 0, 1) := by decide +kernel
theorem dX2_look_24 : decode cX2_look 24 = .ok (.istore_n 2, 1) := by decide +kernel
theorem dX2_look_25 : decode cX2_look 25 = .ok (.iload_n 2, 1) := by decide +kernel
theorem dX2_look_26 : decode cX2_look 26 = .ok (.aload_n 0, 1) := by decide +kernel
theorem dX2_look_27 : decode cX2_look 27 = .ok (.invokevirtual 53, 3) := by decide +kernel
theorem dX2_look_30 : decode cX2_look 30 = .ok (.if_icmp .ge 39, 3) := by decide +kernel
theorem dX2_look_33 : decode cX2_look 33 = .ok (.aload_n 0, 1) := by decide +kernel
theorem dX2_look_34 : decode cX2_look 34 = .ok (.getfield 16, 3) := by decide +kernel
theorem dX2_look_37 : decode cX2_look 37 = .ok (.iload_n 2, 1) := by decide +kernel
theorem dX2_look_38 : decode cX2_look 38 = .ok (.baload, 1) := by decide +kernel
theorem dX2_look_39 : decode cX2_look 39 = .ok (.ifCond .eq 24, 3) := by decide +kernel
theorem dX2_look_42 : decode cX2_look 42 = .ok (.aload_n 0, 1) := by decide +kernel
theorem dX2_look_43 : decode cX2_look 43 = .ok (.getfield 26, 3) := by decide +kernel
theorem dX2_look_46 : decode cX2_look 46 = .ok (.aload_n 0, 1) := by decide +kernel
theorem dX2_look_47 : decode cX2_look 47 = .ok (.iload_n 1, 1) := by decide +kernel
theorem dX2_look_48 : decode cX2_look 48 = .ok (.iload_n 2, 1) := by decide +kernel
theorem dX2_look_49 : decode cX2_look 49 = .ok (.invokevirtual 50, 3) := by decide +kernel
theorem dX2_look_52 : decode cX2_look 52 = .ok (.dup2, 1) := by decide +kernel
theorem dX2_look_53 : decode cX2_look 53 = .ok (.iaload, 1) := by decide +kernel
theorem dX2_look_54 : decode cX2_look 54 = .ok (.iconst 1, 1) := by decide +kernel
theorem dX2_look_55 : decode cX2_look 55 = .ok (.iload_n 2, 1) := by decide +kernel
theorem dX2_look_56 : decode cX2_look 56 = .ok (.iload_n 1, 1) := by decide +kernel
theorem dX2_look_57 : decode cX2_look 57 = .ok (.invokestatic 46, 3) := by decide +kernel
theorem dX2_look_60 : decode cX2_look 60 = .ok (.ishl, 1) := by decide +kernel
theorem dX2_look_61 : decode cX2_look 61 = .ok (.ior, 1) := by decide +kernel
theorem dX2_look_62 : decode cX2_look 62 = .ok (.iastore, 1) := by decide +kernel
theorem dX2_look_63 : decode cX2_look 63 = .ok (.iinc 2 1, 3) := by decide +kernel
theorem dX2_look_66 : decode cX2_look 66 = .ok (.goto (-41), 3) := by decide +kernel
theorem dX2_look_69 : decode cX2_look 69 = .ok (.return_, 1) := by decide +kernel
theorem dX2_certain_0 : decode cX2_certain 0 = .ok (.aload_n 0, 1) := by decide +kernel
theorem dX2_certain_1 : decode cX2_certain 1 = .ok (.getfield 26, 3) := by decide +kernel
theorem dX2_certain_4 : decode cX2_certain 4 = .ok (.aload_n 0, 1) := by decide +kernel
theorem dX2_certain_5 : decode cX2_certain 5 = .ok (.iload_n 1, 1) := by decide +kernel
theorem dX2_certain_6 : decode cX2_certain 6 = .ok (.iload_n 2, 1) := by decide +kernel
theorem dX2_certain_7 : decode cX2_certain 7 = .ok (.invokevirtual 50, 3) := by decide +kernel
theorem dX2_certain_10 : decode cX2_certain 10 = .ok (.iaload, 1) := by decide +kernel
theorem dX2_certain_11 : decode cX2_certain 11 = .ok (.invokestatic 57, 3) := by decide +kernel
theorem dX2_certain_14 : decode cX2_certain 14 = .ok (.ireturn, 1) := by decide +kernel
theorem dX2_certainNow_0 : decode cX2_certainNow 0 = .ok (.aload_n 0, 1) := by decide +kernel
theorem dX2_certainNow_1 : decode cX2_certainNow 1 = .ok (.iload_n 1, 1) := by decide +kernel
theorem dX2_certainNow_2 : decode cX2_certainNow 2 = .ok (.iload_n 1, 1) := by decide +kernel
theorem dX2_certainNow_3 : decode cX2_certainNow 3 = .ok (.aload_n 0, 1) := by decide +kernel
theorem dX2_certainNow_4 : decode cX2_certainNow 4 = .ok (.invokevirtual 61, 3) := by decide +kernel
theorem dX2_certainNow_7 : decode cX2_certainNow 7 = .ok (.invokevirtual 64, 3) := by decide +kernel
theorem dX2_certainNow_10 : decode cX2_certainNow 10 = .ok (.invokestatic 57, 3) := by decide +kernel
theorem dX2_certainNow_13 : decode cX2_certainNow 13 = .ok (.ireturn, 1) := by decide +kernel
theorem dX2_openNow_0 : decode cX2_openNow 0 = .ok (.iconst 0, 1) := by decide +kernel
theorem dX2_openNow_1 : decode cX2_openNow 1 = .ok (.istore_n 1, 1) := by decide +kernel
theorem dX2_openNow_2 : decode cX2_openNow 2 = .ok (.iconst 0, 1) := by decide +kernel
theorem dX2_openNow_3 : decode cX2_openNow 3 = .ok (.istore_n 2, 1) := by decide +kernel
theorem dX2_openNow_4 : decode cX2_openNow 4 = .ok (.iload_n 2, 1) := by decide +kernel
theorem dX2_openNow_5 : decode cX2_openNow 5 = .ok (.aload_n 0, 1) := by decide +kernel
theorem dX2_openNow_6 : decode cX2_openNow 6 = .ok (.invokevirtual 53, 3) := by decide +kernel
theorem dX2_openNow_9 : decode cX2_openNow 9 = .ok (.if_icmp .ge 26, 3) := by decide +kernel
theorem dX2_openNow_12 : decode cX2_openNow 12 = .ok (.iload_n 1, 1) := by decide +kernel
theorem dX2_openNow_13 : decode cX2_openNow 13 = .ok (.aload_n 0, 1) := by decide +kernel
theorem dX2_openNow_14 : decode cX2_openNow 14 = .ok (.getfield 16, 3) := by decide +kernel
theorem dX2_openNow_17 : decode cX2_openNow 17 = .ok (.iload_n 2, 1) := by decide +kernel
theorem dX2_openNow_18 : decode cX2_openNow 18 = .ok (.baload, 1) := by decide +kernel
theorem dX2_openNow_19 : decode cX2_openNow 19 = .ok (.ifCond .eq 7, 3) := by decide +kernel
theorem dX2_openNow_22 : decode cX2_openNow 22 = .ok (.iconst 1, 1) := by decide +kernel
theorem dX2_openNow_23 : decode cX2_openNow 23 = .ok (.goto 4, 3) := by decide +kernel
theorem dX2_openNow_26 : decode cX2_openNow 26 = .ok (.iconst 0, 1) := by decide +kernel
theorem dX2_openNow_27 : decode cX2_openNow 27 = .ok (.iadd, 1) := by decide +kernel
theorem dX2_openNow_28 : decode cX2_openNow 28 = .ok (.istore_n 1, 1) := by decide +kernel
theorem dX2_openNow_29 : decode cX2_openNow 29 = .ok (.iinc 2 1, 3) := by decide +kernel
theorem dX2_openNow_32 : decode cX2_openNow 32 = .ok (.goto (-28), 3) := by decide +kernel
theorem dX2_openNow_35 : decode cX2_openNow 35 = .ok (.iload_n 1, 1) := by decide +kernel
theorem dX2_openNow_36 : decode cX2_openNow 36 = .ok (.ireturn, 1) := by decide +kernel
theorem dX2_take_0 : decode cX2_take 0 = .ok (.aload_n 0, 1) := by decide +kernel
theorem dX2_take_1 : decode cX2_take 1 = .ok (.getfield 16, 3) := by decide +kernel
theorem dX2_take_4 : decode cX2_take 4 = .ok (.astore_n 1, 1) := by decide +kernel
theorem dX2_take_5 : decode cX2_take 5 = .ok (.aload_n 0, 1) := by decide +kernel
theorem dX2_take_6 : decode cX2_take 6 = .ok (.aload_n 0, 1) := by decide +kernel
theorem dX2_take_7 : decode cX2_take 7 = .ok (.getfield 20, 3) := by decide +kernel
theorem dX2_take_10 : decode cX2_take 10 = .ok (.putfield 16, 3) := by decide +kernel
theorem dX2_take_13 : decode cX2_take 13 = .ok (.aload_n 0, 1) := by decide +kernel
theorem dX2_take_14 : decode cX2_take 14 = .ok (.aload_n 1, 1) := by decide +kernel
theorem dX2_take_15 : decode cX2_take 15 = .ok (.putfield 20, 3) := by decide +kernel
theorem dX2_take_18 : decode cX2_take 18 = .ok (.return_, 1) := by decide +kernel
theorem dX2_turn_0 : decode cX2_turn 0 = .ok (.aload_n 0, 1) := by decide +kernel
theorem dX2_turn_1 : decode cX2_turn 1 = .ok (.iload_n 1, 1) := by decide +kernel
theorem dX2_turn_2 : decode cX2_turn 2 = .ok (.invokevirtual 68, 3) := by decide +kernel
theorem dX2_turn_5 : decode cX2_turn 5 = .ok (.aload_n 0, 1) := by decide +kernel
theorem dX2_turn_6 : decode cX2_turn 6 = .ok (.iload_n 1, 1) := by decide +kernel
theorem dX2_turn_7 : decode cX2_turn 7 = .ok (.iload_n 2, 1) := by decide +kernel
theorem dX2_turn_8 : decode cX2_turn 8 = .ok (.invokevirtual 72, 3) := by decide +kernel
theorem dX2_turn_11 : decode cX2_turn 11 = .ok (.istore_n 3, 1) := by decide +kernel
theorem dX2_turn_12 : decode cX2_turn 12 = .ok (.iload_n 2, 1) := by decide +kernel
theorem dX2_turn_13 : decode cX2_turn 13 = .ok (.iload_n 1, 1) := by decide +kernel
theorem dX2_turn_14 : decode cX2_turn 14 = .ok (.invokestatic 46, 3) := by decide +kernel
theorem dX2_turn_17 : decode cX2_turn 17 = .ok (.istore 4, 2) := by decide +kernel
theorem dX2_turn_19 : decode cX2_turn 19 = .ok (.iconst 0, 1) := by decide +kernel
theorem dX2_turn_20 : decode cX2_turn 20 = .ok (.istore 5, 2) := by decide +kernel
theorem dX2_turn_22 : decode cX2_turn 22 = .ok (.iload 5, 2) := by decide +kernel
theorem dX2_turn_24 : decode cX2_turn 24 = .ok (.aload_n 0, 1) := by decide +kernel
theorem dX2_turn_25 : decode cX2_turn 25 = .ok (.invokevirtual 53, 3) := by decide +kernel
theorem dX2_turn_28 : decode cX2_turn 28 = .ok (.if_icmp .ge 57, 3) := by decide +kernel
theorem dX2_turn_31 : decode cX2_turn 31 = .ok (.aload_n 0, 1) := by decide +kernel
theorem dX2_turn_32 : decode cX2_turn 32 = .ok (.getfield 20, 3) := by decide +kernel
theorem dX2_turn_35 : decode cX2_turn 35 = .ok (.iload 5, 2) := by decide +kernel
theorem dX2_turn_37 : decode cX2_turn 37 = .ok (.aload_n 0, 1) := by decide +kernel
theorem dX2_turn_38 : decode cX2_turn 38 = .ok (.getfield 16, 3) := by decide +kernel
theorem dX2_turn_41 : decode cX2_turn 41 = .ok (.iload 5, 2) := by decide +kernel
theorem dX2_turn_43 : decode cX2_turn 43 = .ok (.baload, 1) := by decide +kernel
theorem dX2_turn_44 : decode cX2_turn 44 = .ok (.ifCond .eq 33, 3) := by decide +kernel
theorem dX2_turn_47 : decode cX2_turn 47 = .ok (.aload_n 0, 1) := by decide +kernel
theorem dX2_turn_48 : decode cX2_turn 48 = .ok (.iload_n 1, 1) := by decide +kernel
theorem dX2_turn_49 : decode cX2_turn 49 = .ok (.iload 5, 2) := by decide +kernel
theorem dX2_turn_51 : decode cX2_turn 51 = .ok (.invokevirtual 72, 3) := by decide +kernel
theorem dX2_turn_54 : decode cX2_turn 54 = .ok (.iload_n 3, 1) := by decide +kernel
theorem dX2_turn_55 : decode cX2_turn 55 = .ok (.if_icmp .ne 22, 3) := by decide +kernel
theorem dX2_turn_58 : decode cX2_turn 58 = .ok (.iload_n 3, 1) := by decide +kernel
theorem dX2_turn_59 : decode cX2_turn 59 = .ok (.ifCond .eq 14, 3) := by decide +kernel
theorem dX2_turn_62 : decode cX2_turn 62 = .ok (.iload 5, 2) := by decide +kernel
theorem dX2_turn_64 : decode cX2_turn 64 = .ok (.iload_n 1, 1) := by decide +kernel
theorem dX2_turn_65 : decode cX2_turn 65 = .ok (.invokestatic 46, 3) := by decide +kernel
theorem dX2_turn_68 : decode cX2_turn 68 = .ok (.iload 4, 2) := by decide +kernel
theorem dX2_turn_70 : decode cX2_turn 70 = .ok (.if_icmp .ne 7, 3) := by decide +kernel
theorem dX2_turn_73 : decode cX2_turn 73 = .ok (.iconst 1, 1) := by decide +kernel
theorem dX2_turn_74 : decode cX2_turn 74 = .ok (.goto 4, 3) := by decide +kernel
theorem dX2_turn_77 : decode cX2_turn 77 = .ok (.iconst 0, 1) := by decide +kernel
theorem dX2_turn_78 : decode cX2_turn 78 = .ok (.bastore, 1) := by decide +kernel
theorem dX2_turn_79 : decode cX2_turn 79 = .ok (.iinc 5 1, 3) := by decide +kernel
theorem dX2_turn_82 : decode cX2_turn 82 = .ok (.goto (-60), 3) := by decide +kernel
theorem dX2_turn_85 : decode cX2_turn 85 = .ok (.aload_n 0, 1) := by decide +kernel
theorem dX2_turn_86 : decode cX2_turn 86 = .ok (.invokevirtual 76, 3) := by decide +kernel
theorem dX2_turn_89 : decode cX2_turn 89 = .ok (.iload_n 3, 1) := by decide +kernel
theorem dX2_turn_90 : decode cX2_turn 90 = .ok (.ifCond .eq 8, 3) := by decide +kernel
theorem dX2_turn_93 : decode cX2_turn 93 = .ok (.iload 4, 2) := by decide +kernel
theorem dX2_turn_95 : decode cX2_turn 95 = .ok (.goto 4, 3) := by decide +kernel
theorem dX2_turn_98 : decode cX2_turn 98 = .ok (.iconst (-1), 1) := by decide +kernel
theorem dX2_turn_99 : decode cX2_turn 99 = .ok (.ireturn, 1) := by decide +kernel
theorem dX2_keep_0 : decode cX2_keep 0 = .ok (.aload_n 0, 1) := by decide +kernel
theorem dX2_keep_1 : decode cX2_keep 1 = .ok (.getfield 16, 3) := by decide +kernel
theorem dX2_keep_4 : decode cX2_keep 4 = .ok (.iconst 0, 1) := by decide +kernel
theorem dX2_keep_5 : decode cX2_keep 5 = .ok (.aload_n 0, 1) := by decide +kernel
theorem dX2_keep_6 : decode cX2_keep 6 = .ok (.getfield 23, 3) := by decide +kernel
theorem dX2_keep_9 : decode cX2_keep 9 = .ok (.iconst 0, 1) := by decide +kernel
theorem dX2_keep_10 : decode cX2_keep 10 = .ok (.sipush 243, 3) := by decide +kernel
theorem dX2_keep_13 : decode cX2_keep 13 = .ok (.invokestatic 79, 3) := by decide +kernel
theorem dX2_keep_16 : decode cX2_keep 16 = .ok (.return_, 1) := by decide +kernel
theorem dX2_bringBack_0 : decode cX2_bringBack 0 = .ok (.aload_n 0, 1) := by decide +kernel
theorem dX2_bringBack_1 : decode cX2_bringBack 1 = .ok (.getfield 23, 3) := by decide +kernel
theorem dX2_bringBack_4 : decode cX2_bringBack 4 = .ok (.iconst 0, 1) := by decide +kernel
theorem dX2_bringBack_5 : decode cX2_bringBack 5 = .ok (.aload_n 0, 1) := by decide +kernel
theorem dX2_bringBack_6 : decode cX2_bringBack 6 = .ok (.getfield 16, 3) := by decide +kernel
theorem dX2_bringBack_9 : decode cX2_bringBack 9 = .ok (.iconst 0, 1) := by decide +kernel
theorem dX2_bringBack_10 : decode cX2_bringBack 10 = .ok (.sipush 243, 3) := by decide +kernel
theorem dX2_bringBack_13 : decode cX2_bringBack 13 = .ok (.invokestatic 79, 3) := by decide +kernel
theorem dX2_bringBack_16 : decode cX2_bringBack 16 = .ok (.return_, 1) := by decide +kernel
theorem dX2_openAll_0 : decode cX2_openAll 0 = .ok (.iconst 0, 1) := by decide +kernel
theorem dX2_openAll_1 : decode cX2_openAll 1 = .ok (.istore_n 1, 1) := by decide +kernel
theorem dX2_openAll_2 : decode cX2_openAll 2 = .ok (.iload_n 1, 1) := by decide +kernel
theorem dX2_openAll_3 : decode cX2_openAll 3 = .ok (.sipush 243, 3) := by decide +kernel
theorem dX2_openAll_6 : decode cX2_openAll 6 = .ok (.if_icmp .ge 28, 3) := by decide +kernel
theorem dX2_openAll_9 : decode cX2_openAll 9 = .ok (.aload_n 0, 1) := by decide +kernel
theorem dX2_openAll_10 : decode cX2_openAll 10 = .ok (.getfield 16, 3) := by decide +kernel
theorem dX2_openAll_13 : decode cX2_openAll 13 = .ok (.iload_n 1, 1) := by decide +kernel
theorem dX2_openAll_14 : decode cX2_openAll 14 = .ok (.iload_n 1, 1) := by decide +kernel
theorem dX2_openAll_15 : decode cX2_openAll 15 = .ok (.aload_n 0, 1) := by decide +kernel
theorem dX2_openAll_16 : decode cX2_openAll 16 = .ok (.invokevirtual 53, 3) := by decide +kernel
theorem dX2_openAll_19 : decode cX2_openAll 19 = .ok (.if_icmp .ge 7, 3) := by decide +kernel
theorem dX2_openAll_22 : decode cX2_openAll 22 = .ok (.iconst 1, 1) := by decide +kernel
theorem dX2_openAll_23 : decode cX2_openAll 23 = .ok (.goto 4, 3) := by decide +kernel
theorem dX2_openAll_26 : decode cX2_openAll 26 = .ok (.iconst 0, 1) := by decide +kernel
theorem dX2_openAll_27 : decode cX2_openAll 27 = .ok (.bastore, 1) := by decide +kernel
theorem dX2_openAll_28 : decode cX2_openAll 28 = .ok (.iinc 1 1, 3) := by decide +kernel
theorem dX2_openAll_31 : decode cX2_openAll 31 = .ok (.goto (-29), 3) := by decide +kernel
theorem dX2_openAll_34 : decode cX2_openAll 34 = .ok (.return_, 1) := by decide +kernel
theorem dX2_have_0 : decode cX2_have 0 = .ok (.iconst 0, 1) := by decide +kernel
theorem dX2_have_1 : decode cX2_have 1 = .ok (.istore_n 3, 1) := by decide +kernel
theorem dX2_have_2 : decode cX2_have 2 = .ok (.iconst 0, 1) := by decide +kernel
theorem dX2_have_3 : decode cX2_have 3 = .ok (.istore 4, 2) := by decide +kernel
theorem dX2_have_5 : decode cX2_have 5 = .ok (.iload 4, 2) := by decide +kernel
theorem dX2_have_7 : decode cX2_have 7 = .ok (.aload_n 0, 1) := by decide +kernel
theorem dX2_have_8 : decode cX2_have 8 = .ok (.getfield 33, 3) := by decide +kernel
theorem dX2_have_11 : decode cX2_have 11 = .ok (.if_icmp .ge 27, 3) := by decide +kernel
theorem dX2_have_14 : decode cX2_have 14 = .ok (.iload_n 3, 1) := by decide +kernel
theorem dX2_have_15 : decode cX2_have 15 = .ok (.iload_n 1, 1) := by decide +kernel
theorem dX2_have_16 : decode cX2_have 16 = .ok (.iload 4, 2) := by decide +kernel
theorem dX2_have_18 : decode cX2_have 18 = .ok (.invokestatic 46, 3) := by decide +kernel
theorem dX2_have_21 : decode cX2_have 21 = .ok (.iload_n 2, 1) := by decide +kernel
theorem dX2_have_22 : decode cX2_have 22 = .ok (.if_icmp .ne 7, 3) := by decide +kernel
theorem dX2_have_25 : decode cX2_have 25 = .ok (.iconst 1, 1) := by decide +kernel
theorem dX2_have_26 : decode cX2_have 26 = .ok (.goto 4, 3) := by decide +kernel
theorem dX2_have_29 : decode cX2_have 29 = .ok (.iconst 0, 1) := by decide +kernel
theorem dX2_have_30 : decode cX2_have 30 = .ok (.iadd, 1) := by decide +kernel
theorem dX2_have_31 : decode cX2_have 31 = .ok (.istore_n 3, 1) := by decide +kernel
theorem dX2_have_32 : decode cX2_have 32 = .ok (.iinc 4 1, 3) := by decide +kernel
theorem dX2_have_35 : decode cX2_have 35 = .ok (.goto (-30), 3) := by decide +kernel
theorem dX2_have_38 : decode cX2_have 38 = .ok (.iload_n 3, 1) := by decide +kernel
theorem dX2_have_39 : decode cX2_have 39 = .ok (.ireturn, 1) := by decide +kernel
theorem dX2_addPlayer_0 : decode cX2_addPlayer 0 = .ok (.aload_n 0, 1) := by decide +kernel
theorem dX2_addPlayer_1 : decode cX2_addPlayer 1 = .ok (.iconst 0, 1) := by decide +kernel
theorem dX2_addPlayer_2 : decode cX2_addPlayer 2 = .ok (.putfield 29, 3) := by decide +kernel
theorem dX2_addPlayer_5 : decode cX2_addPlayer 5 = .ok (.iload_n 1, 1) := by decide +kernel
theorem dX2_addPlayer_6 : decode cX2_addPlayer 6 = .ok (.invokestatic 85, 3) := by decide +kernel
theorem dX2_addPlayer_9 : decode cX2_addPlayer 9 = .ok (.ifCond .ne 9, 3) := by decide +kernel
theorem dX2_addPlayer_12 : decode cX2_addPlayer 12 = .ok (.aload_n 0, 1) := by decide +kernel
theorem dX2_addPlayer_13 : decode cX2_addPlayer 13 = .ok (.iconst 1, 1) := by decide +kernel
theorem dX2_addPlayer_14 : decode cX2_addPlayer 14 = .ok (.invokevirtual 88, 3) := by decide +kernel
theorem dX2_addPlayer_17 : decode cX2_addPlayer 17 = .ok (.ireturn, 1) := by decide +kernel
theorem dX2_addPlayer_18 : decode cX2_addPlayer 18 = .ok (.aload_n 0, 1) := by decide +kernel
theorem dX2_addPlayer_19 : decode cX2_addPlayer 19 = .ok (.getfield 33, 3) := by decide +kernel
theorem dX2_addPlayer_22 : decode cX2_addPlayer 22 = .ok (.iconst 5, 1) := by decide +kernel
theorem dX2_addPlayer_23 : decode cX2_addPlayer 23 = .ok (.if_icmp .eq 10, 3) := by decide +kernel
theorem dX2_addPlayer_26 : decode cX2_addPlayer 26 = .ok (.aload_n 0, 1) := by decide +kernel
theorem dX2_addPlayer_27 : decode cX2_addPlayer 27 = .ok (.getfield 92, 3) := by decide +kernel
theorem dX2_addPlayer_30 : decode cX2_addPlayer 30 = .ok (.ifCond .eq 9, 3) := by decide +kernel
theorem dX2_addPlayer_33 : decode cX2_addPlayer 33 = .ok (.aload_n 0, 1) := by decide +kernel
theorem dX2_addPlayer_34 : decode cX2_addPlayer 34 = .ok (.iconst 2, 1) := by decide +kernel
theorem dX2_addPlayer_35 : decode cX2_addPlayer 35 = .ok (.invokevirtual 88, 3) := by decide +kernel
theorem dX2_addPlayer_38 : decode cX2_addPlayer 38 = .ok (.ireturn, 1) := by decide +kernel
theorem dX2_addPlayer_39 : decode cX2_addPlayer 39 = .ok (.aload_n 0, 1) := by decide +kernel
theorem dX2_addPlayer_40 : decode cX2_addPlayer 40 = .ok (.getfield 9, 3) := by decide +kernel
theorem dX2_addPlayer_43 : decode cX2_addPlayer 43 = .ok (.aload_n 0, 1) := by decide +kernel
theorem dX2_addPlayer_44 : decode cX2_addPlayer 44 = .ok (.getfield 33, 3) := by decide +kernel
theorem dX2_addPlayer_47 : decode cX2_addPlayer 47 = .ok (.iload_n 1, 1) := by decide +kernel
theorem dX2_addPlayer_48 : decode cX2_addPlayer 48 = .ok (.iastore, 1) := by decide +kernel
theorem dX2_addPlayer_49 : decode cX2_addPlayer 49 = .ok (.iconst 0, 1) := by decide +kernel
theorem dX2_addPlayer_50 : decode cX2_addPlayer 50 = .ok (.istore_n 2, 1) := by decide +kernel
theorem dX2_addPlayer_51 : decode cX2_addPlayer 51 = .ok (.iload_n 2, 1) := by decide +kernel
theorem dX2_addPlayer_52 : decode cX2_addPlayer 52 = .ok (.aload_n 0, 1) := by decide +kernel
theorem dX2_addPlayer_53 : decode cX2_addPlayer 53 = .ok (.getfield 33, 3) := by decide +kernel
theorem dX2_addPlayer_56 : decode cX2_addPlayer 56 = .ok (.if_icmp .ge 24, 3) := by decide +kernel
theorem dX2_addPlayer_59 : decode cX2_addPlayer 59 = .ok (.aload_n 0, 1) := by decide +kernel
theorem dX2_addPlayer_60 : decode cX2_addPlayer 60 = .ok (.getfield 13, 3) := by decide +kernel
theorem dX2_addPlayer_63 : decode cX2_addPlayer 63 = .ok (.iload_n 2, 1) := by decide +kernel
theorem dX2_addPlayer_64 : decode cX2_addPlayer 64 = .ok (.dup2, 1) := by decide +kernel
theorem dX2_addPlayer_65 : decode cX2_addPlayer 65 = .ok (.iaload, 1) := by decide +kernel
theorem dX2_addPlayer_66 : decode cX2_addPlayer 66 = .ok (.iconst 1, 1) := by decide +kernel
theorem dX2_addPlayer_67 : decode cX2_addPlayer 67 = .ok (.aload_n 0, 1) := by decide +kernel
theorem dX2_addPlayer_68 : decode cX2_addPlayer 68 = .ok (.getfield 33, 3) := by decide +kernel
theorem dX2_addPlayer_71 : decode cX2_addPlayer 71 = .ok (.ishl, 1) := by decide +kernel
theorem dX2_addPlayer_72 : decode cX2_addPlayer 72 = .ok (.ior, 1) := by decide +kernel
theorem dX2_addPlayer_73 : decode cX2_addPlayer 73 = .ok (.iastore, 1) := by decide +kernel
theorem dX2_addPlayer_74 : decode cX2_addPlayer 74 = .ok (.iinc 2 1, 3) := by decide +kernel
theorem dX2_addPlayer_77 : decode cX2_addPlayer 77 = .ok (.goto (-26), 3) := by decide +kernel
theorem dX2_addPlayer_80 : decode cX2_addPlayer 80 = .ok (.aload_n 0, 1) := by decide +kernel
theorem dX2_addPlayer_81 : decode cX2_addPlayer 81 = .ok (.getfield 13, 3) := by decide +kernel
theorem dX2_addPlayer_84 : decode cX2_addPlayer 84 = .ok (.aload_n 0, 1) := by decide +kernel
theorem dX2_addPlayer_85 : decode cX2_addPlayer 85 = .ok (.getfield 33, 3) := by decide +kernel
theorem dX2_addPlayer_88 : decode cX2_addPlayer 88 = .ok (.iconst 1, 1) := by decide +kernel
theorem dX2_addPlayer_89 : decode cX2_addPlayer 89 = .ok (.aload_n 0, 1) := by decide +kernel
theorem dX2_addPlayer_90 : decode cX2_addPlayer 90 = .ok (.getfield 33, 3) := by decide +kernel
theorem dX2_addPlayer_93 : decode cX2_addPlayer 93 = .ok (.ishl, 1) := by decide +kernel
theorem dX2_addPlayer_94 : decode cX2_addPlayer 94 = .ok (.iconst 1, 1) := by decide +kernel
theorem dX2_addPlayer_95 : decode cX2_addPlayer 95 = .ok (.isub, 1) := by decide +kernel
theorem dX2_addPlayer_96 : decode cX2_addPlayer 96 = .ok (.iastore, 1) := by decide +kernel
theorem dX2_addPlayer_97 : decode cX2_addPlayer 97 = .ok (.aload_n 0, 1) := by decide +kernel
theorem dX2_addPlayer_98 : decode cX2_addPlayer 98 = .ok (.dup, 1) := by decide +kernel
theorem dX2_addPlayer_99 : decode cX2_addPlayer 99 = .ok (.getfield 33, 3) := by decide +kernel
theorem dX2_addPlayer_102 : decode cX2_addPlayer 102 = .ok (.iconst 1, 1) := by decide +kernel
theorem dX2_addPlayer_103 : decode cX2_addPlayer 103 = .ok (.iadd, 1) := by decide +kernel
theorem dX2_addPlayer_104 : decode cX2_addPlayer 104 = .ok (.putfield 33, 3) := by decide +kernel
theorem dX2_addPlayer_107 : decode cX2_addPlayer 107 = .ok (.aload_n 0, 1) := by decide +kernel
theorem dX2_addPlayer_108 : decode cX2_addPlayer 108 = .ok (.invokevirtual 96, 3) := by decide +kernel
theorem dX2_addPlayer_111 : decode cX2_addPlayer 111 = .ok (.aload_n 0, 1) := by decide +kernel
theorem dX2_addPlayer_112 : decode cX2_addPlayer 112 = .ok (.getfield 33, 3) := by decide +kernel
theorem dX2_addPlayer_115 : decode cX2_addPlayer 115 = .ok (.iconst 1, 1) := by decide +kernel
theorem dX2_addPlayer_116 : decode cX2_addPlayer 116 = .ok (.isub, 1) := by decide +kernel
theorem dX2_addPlayer_117 : decode cX2_addPlayer 117 = .ok (.ireturn, 1) := by decide +kernel
theorem dX2_areTwo_0 : decode cX2_areTwo 0 = .ok (.aload_n 0, 1) := by decide +kernel
theorem dX2_areTwo_1 : decode cX2_areTwo 1 = .ok (.aload_n 0, 1) := by decide +kernel
theorem dX2_areTwo_2 : decode cX2_areTwo 2 = .ok (.iload_n 1, 1) := by decide +kernel
theorem dX2_areTwo_3 : decode cX2_areTwo 3 = .ok (.invokevirtual 99, 3) := by decide +kernel
theorem dX2_areTwo_6 : decode cX2_areTwo 6 = .ok (.ifCond .eq 11, 3) := by decide +kernel
theorem dX2_areTwo_9 : decode cX2_areTwo 9 = .ok (.aload_n 0, 1) := by decide +kernel
theorem dX2_areTwo_10 : decode cX2_areTwo 10 = .ok (.iload_n 2, 1) := by decide +kernel
theorem dX2_areTwo_11 : decode cX2_areTwo 11 = .ok (.invokevirtual 99, 3) := by decide +kernel
theorem dX2_areTwo_14 : decode cX2_areTwo 14 = .ok (.ifCond .ne 7, 3) := by decide +kernel
theorem dX2_areTwo_17 : decode cX2_areTwo 17 = .ok (.iconst 1, 1) := by decide +kernel
theorem dX2_areTwo_18 : decode cX2_areTwo 18 = .ok (.goto 13, 3) := by decide +kernel
theorem dX2_areTwo_21 : decode cX2_areTwo 21 = .ok (.iload_n 1, 1) := by decide +kernel
theorem dX2_areTwo_22 : decode cX2_areTwo 22 = .ok (.iload_n 2, 1) := by decide +kernel
theorem dX2_areTwo_23 : decode cX2_areTwo 23 = .ok (.if_icmp .ne 7, 3) := by decide +kernel
theorem dX2_areTwo_26 : decode cX2_areTwo 26 = .ok (.iconst 2, 1) := by decide +kernel
theorem dX2_areTwo_27 : decode cX2_areTwo 27 = .ok (.goto 4, 3) := by decide +kernel
theorem dX2_areTwo_30 : decode cX2_areTwo 30 = .ok (.iconst 0, 1) := by decide +kernel
theorem dX2_areTwo_31 : decode cX2_areTwo 31 = .ok (.putfield 29, 3) := by decide +kernel
theorem dX2_areTwo_34 : decode cX2_areTwo 34 = .ok (.aload_n 0, 1) := by decide +kernel
theorem dX2_areTwo_35 : decode cX2_areTwo 35 = .ok (.getfield 29, 3) := by decide +kernel
theorem dX2_areTwo_38 : decode cX2_areTwo 38 = .ok (.ifCond .ne 7, 3) := by decide +kernel
theorem dX2_areTwo_41 : decode cX2_areTwo 41 = .ok (.iconst 1, 1) := by decide +kernel
theorem dX2_areTwo_42 : decode cX2_areTwo 42 = .ok (.goto 4, 3) := by decide +kernel
theorem dX2_areTwo_45 : decode cX2_areTwo 45 = .ok (.iconst 0, 1) := by decide +kernel
theorem dX2_areTwo_46 : decode cX2_areTwo 46 = .ok (.ireturn, 1) := by decide +kernel
theorem dX2_turnAway_0 : decode cX2_turnAway 0 = .ok (.aload_n 0, 1) := by decide +kernel
theorem dX2_turnAway_1 : decode cX2_turnAway 1 = .ok (.iload_n 1, 1) := by decide +kernel
theorem dX2_turnAway_2 : decode cX2_turnAway 2 = .ok (.iload_n 2, 1) := by decide +kernel
theorem dX2_turnAway_3 : decode cX2_turnAway 3 = .ok (.invokevirtual 102, 3) := by decide +kernel
theorem dX2_turnAway_6 : decode cX2_turnAway 6 = .ok (.ifCond .ne 5, 3) := by decide +kernel
theorem dX2_turnAway_9 : decode cX2_turnAway 9 = .ok (.iconst 0, 1) := by decide +kernel
theorem dX2_turnAway_10 : decode cX2_turnAway 10 = .ok (.ireturn, 1) := by decide +kernel
theorem dX2_turnAway_11 : decode cX2_turnAway 11 = .ok (.aload_n 0, 1) := by decide +kernel
theorem dX2_turnAway_12 : decode cX2_turnAway 12 = .ok (.getfield 13, 3) := by decide +kernel
theorem dX2_turnAway_15 : decode cX2_turnAway 15 = .ok (.iload_n 1, 1) := by decide +kernel
theorem dX2_turnAway_16 : decode cX2_turnAway 16 = .ok (.dup2, 1) := by decide +kernel
theorem dX2_turnAway_17 : decode cX2_turnAway 17 = .ok (.iaload, 1) := by decide +kernel
theorem dX2_turnAway_18 : decode cX2_turnAway 18 = .ok (.iconst 1, 1) := by decide +kernel
theorem dX2_turnAway_19 : decode cX2_turnAway 19 = .ok (.iload_n 2, 1) := by decide +kernel
theorem dX2_turnAway_20 : decode cX2_turnAway 20 = .ok (.ishl, 1) := by decide +kernel
theorem dX2_turnAway_21 : decode cX2_turnAway 21 = .ok (.ixor, 1) := by decide +kernel
theorem dX2_turnAway_22 : decode cX2_turnAway 22 = .ok (.iastore, 1) := by decide +kernel
theorem dX2_turnAway_23 : decode cX2_turnAway 23 = .ok (.aload_n 0, 1) := by decide +kernel
theorem dX2_turnAway_24 : decode cX2_turnAway 24 = .ok (.iload_n 1, 1) := by decide +kernel
theorem dX2_turnAway_25 : decode cX2_turnAway 25 = .ok (.iload_n 2, 1) := by decide +kernel
theorem dX2_turnAway_26 : decode cX2_turnAway 26 = .ok (.iload_n 1, 1) := by decide +kernel
theorem dX2_turnAway_27 : decode cX2_turnAway 27 = .ok (.invokevirtual 43, 3) := by decide +kernel
theorem dX2_turnAway_30 : decode cX2_turnAway 30 = .ok (.ireturn, 1) := by decide +kernel
theorem dX2_borrow_0 : decode cX2_borrow 0 = .ok (.aload_n 0, 1) := by decide +kernel
theorem dX2_borrow_1 : decode cX2_borrow 1 = .ok (.iload_n 1, 1) := by decide +kernel
theorem dX2_borrow_2 : decode cX2_borrow 2 = .ok (.iload_n 2, 1) := by decide +kernel
theorem dX2_borrow_3 : decode cX2_borrow 3 = .ok (.invokevirtual 102, 3) := by decide +kernel
theorem dX2_borrow_6 : decode cX2_borrow 6 = .ok (.ifCond .ne 5, 3) := by decide +kernel
theorem dX2_borrow_9 : decode cX2_borrow 9 = .ok (.iconst 0, 1) := by decide +kernel
theorem dX2_borrow_10 : decode cX2_borrow 10 = .ok (.ireturn, 1) := by decide +kernel
theorem dX2_borrow_11 : decode cX2_borrow 11 = .ok (.iconst 0, 1) := by decide +kernel
theorem dX2_borrow_12 : decode cX2_borrow 12 = .ok (.istore_n 3, 1) := by decide +kernel
theorem dX2_borrow_13 : decode cX2_borrow 13 = .ok (.iload_n 3, 1) := by decide +kernel
theorem dX2_borrow_14 : decode cX2_borrow 14 = .ok (.aload_n 0, 1) := by decide +kernel
theorem dX2_borrow_15 : decode cX2_borrow 15 = .ok (.invokevirtual 53, 3) := by decide +kernel
theorem dX2_borrow_18 : decode cX2_borrow 18 = .ok (.if_icmp .ge 52, 3) := by decide +kernel
theorem dX2_borrow_21 : decode cX2_borrow 21 = .ok (.iload_n 3, 1) := by decide +kernel
theorem dX2_borrow_22 : decode cX2_borrow 22 = .ok (.iload_n 2, 1) := by decide +kernel
theorem dX2_borrow_23 : decode cX2_borrow 23 = .ok (.invokestatic 46, 3) := by decide +kernel
theorem dX2_borrow_26 : decode cX2_borrow 26 = .ok (.iload_n 3, 1) := by decide +kernel
theorem dX2_borrow_27 : decode cX2_borrow 27 = .ok (.iload_n 1, 1) := by decide +kernel
theorem dX2_borrow_28 : decode cX2_borrow 28 = .ok (.invokestatic 46, 3) := by decide +kernel
theorem dX2_borrow_31 : decode cX2_borrow 31 = .ok (.isub, 1) := by decide +kernel
theorem dX2_borrow_32 : decode cX2_borrow 32 = .ok (.istore 4, 2) := by decide +kernel
theorem dX2_borrow_34 : decode cX2_borrow 34 = .ok (.aload_n 0, 1) := by decide +kernel
theorem dX2_borrow_35 : decode cX2_borrow 35 = .ok (.getfield 20, 3) := by decide +kernel
theorem dX2_borrow_38 : decode cX2_borrow 38 = .ok (.iload_n 3, 1) := by decide +kernel
theorem dX2_borrow_39 : decode cX2_borrow 39 = .ok (.aload_n 0, 1) := by decide +kernel
theorem dX2_borrow_40 : decode cX2_borrow 40 = .ok (.getfield 16, 3) := by decide +kernel
theorem dX2_borrow_43 : decode cX2_borrow 43 = .ok (.iload_n 3, 1) := by decide +kernel
theorem dX2_borrow_44 : decode cX2_borrow 44 = .ok (.iload 4, 2) := by decide +kernel
theorem dX2_borrow_46 : decode cX2_borrow 46 = .ok (.getstatic 40, 3) := by decide +kernel
theorem dX2_borrow_49 : decode cX2_borrow 49 = .ok (.iload_n 1, 1) := by decide +kernel
theorem dX2_borrow_50 : decode cX2_borrow 50 = .ok (.iaload, 1) := by decide +kernel
theorem dX2_borrow_51 : decode cX2_borrow 51 = .ok (.imul, 1) := by decide +kernel
theorem dX2_borrow_52 : decode cX2_borrow 52 = .ok (.iadd, 1) := by decide +kernel
theorem dX2_borrow_53 : decode cX2_borrow 53 = .ok (.iload 4, 2) := by decide +kernel
theorem dX2_borrow_55 : decode cX2_borrow 55 = .ok (.getstatic 40, 3) := by decide +kernel
theorem dX2_borrow_58 : decode cX2_borrow 58 = .ok (.iload_n 2, 1) := by decide +kernel
theorem dX2_borrow_59 : decode cX2_borrow 59 = .ok (.iaload, 1) := by decide +kernel
theorem dX2_borrow_60 : decode cX2_borrow 60 = .ok (.imul, 1) := by decide +kernel
theorem dX2_borrow_61 : decode cX2_borrow 61 = .ok (.isub, 1) := by decide +kernel
theorem dX2_borrow_62 : decode cX2_borrow 62 = .ok (.baload, 1) := by decide +kernel
theorem dX2_borrow_63 : decode cX2_borrow 63 = .ok (.bastore, 1) := by decide +kernel
theorem dX2_borrow_64 : decode cX2_borrow 64 = .ok (.iinc 3 1, 3) := by decide +kernel
theorem dX2_borrow_67 : decode cX2_borrow 67 = .ok (.goto (-54), 3) := by decide +kernel
theorem dX2_borrow_70 : decode cX2_borrow 70 = .ok (.aload_n 0, 1) := by decide +kernel
theorem dX2_borrow_71 : decode cX2_borrow 71 = .ok (.invokevirtual 76, 3) := by decide +kernel
theorem dX2_borrow_74 : decode cX2_borrow 74 = .ok (.aload_n 0, 1) := by decide +kernel
theorem dX2_borrow_75 : decode cX2_borrow 75 = .ok (.getfield 9, 3) := by decide +kernel
theorem dX2_borrow_78 : decode cX2_borrow 78 = .ok (.iload_n 1, 1) := by decide +kernel
theorem dX2_borrow_79 : decode cX2_borrow 79 = .ok (.iaload, 1) := by decide +kernel
theorem dX2_borrow_80 : decode cX2_borrow 80 = .ok (.istore_n 3, 1) := by decide +kernel
theorem dX2_borrow_81 : decode cX2_borrow 81 = .ok (.aload_n 0, 1) := by decide +kernel
theorem dX2_borrow_82 : decode cX2_borrow 82 = .ok (.getfield 9, 3) := by decide +kernel
theorem dX2_borrow_85 : decode cX2_borrow 85 = .ok (.iload_n 1, 1) := by decide +kernel
theorem dX2_borrow_86 : decode cX2_borrow 86 = .ok (.aload_n 0, 1) := by decide +kernel
theorem dX2_borrow_87 : decode cX2_borrow 87 = .ok (.getfield 9, 3) := by decide +kernel
theorem dX2_borrow_90 : decode cX2_borrow 90 = .ok (.iload_n 2, 1) := by decide +kernel
theorem dX2_borrow_91 : decode cX2_borrow 91 = .ok (.iaload, 1) := by decide +kernel
theorem dX2_borrow_92 : decode cX2_borrow 92 = .ok (.iastore, 1) := by decide +kernel
theorem dX2_borrow_93 : decode cX2_borrow 93 = .ok (.aload_n 0, 1) := by decide +kernel
theorem dX2_borrow_94 : decode cX2_borrow 94 = .ok (.getfield 9, 3) := by decide +kernel
theorem dX2_borrow_97 : decode cX2_borrow 97 = .ok (.iload_n 2, 1) := by decide +kernel
theorem dX2_borrow_98 : decode cX2_borrow 98 = .ok (.iload_n 3, 1) := by decide +kernel
theorem dX2_borrow_99 : decode cX2_borrow 99 = .ok (.iastore, 1) := by decide +kernel
theorem dX2_borrow_100 : decode cX2_borrow 100 = .ok (.aload_n 0, 1) := by decide +kernel
theorem dX2_borrow_101 : decode cX2_borrow 101 = .ok (.iconst 1, 1) := by decide +kernel
theorem dX2_borrow_102 : decode cX2_borrow 102 = .ok (.putfield 92, 3) := by decide +kernel
theorem dX2_borrow_105 : decode cX2_borrow 105 = .ok (.aload_n 0, 1) := by decide +kernel
theorem dX2_borrow_106 : decode cX2_borrow 106 = .ok (.getfield 9, 3) := by decide +kernel
theorem dX2_borrow_109 : decode cX2_borrow 109 = .ok (.iload_n 1, 1) := by decide +kernel
theorem dX2_borrow_110 : decode cX2_borrow 110 = .ok (.iaload, 1) := by decide +kernel
theorem dX2_borrow_111 : decode cX2_borrow 111 = .ok (.ireturn, 1) := by decide +kernel
theorem dX2_whose_0 : decode cX2_whose 0 = .ok (.aload_n 0, 1) := by decide +kernel
theorem dX2_whose_1 : decode cX2_whose 1 = .ok (.getfield 33, 3) := by decide +kernel
theorem dX2_whose_4 : decode cX2_whose 4 = .ok (.ifCond .ne 7, 3) := by decide +kernel
theorem dX2_whose_7 : decode cX2_whose 7 = .ok (.iconst (-1), 1) := by decide +kernel
theorem dX2_whose_8 : decode cX2_whose 8 = .ok (.goto 12, 3) := by decide +kernel
theorem dX2_whose_11 : decode cX2_whose 11 = .ok (.aload_n 0, 1) := by decide +kernel
theorem dX2_whose_12 : decode cX2_whose 12 = .ok (.getfield 105, 3) := by decide +kernel
theorem dX2_whose_15 : decode cX2_whose 15 = .ok (.aload_n 0, 1) := by decide +kernel
theorem dX2_whose_16 : decode cX2_whose 16 = .ok (.getfield 33, 3) := by decide +kernel
theorem dX2_whose_19 : decode cX2_whose 19 = .ok (.irem, 1) := by decide +kernel
theorem dX2_whose_20 : decode cX2_whose 20 = .ok (.ireturn, 1) := by decide +kernel
theorem dX2_takeTurn_0 : decode cX2_takeTurn 0 = .ok (.aload_n 0, 1) := by decide +kernel
theorem dX2_takeTurn_1 : decode cX2_takeTurn 1 = .ok (.iconst 0, 1) := by decide +kernel
theorem dX2_takeTurn_2 : decode cX2_takeTurn 2 = .ok (.putfield 29, 3) := by decide +kernel
theorem dX2_takeTurn_5 : decode cX2_takeTurn 5 = .ok (.aload_n 0, 1) := by decide +kernel
theorem dX2_takeTurn_6 : decode cX2_takeTurn 6 = .ok (.getfield 33, 3) := by decide +kernel
theorem dX2_takeTurn_9 : decode cX2_takeTurn 9 = .ok (.ifCond .ne 9, 3) := by decide +kernel
theorem dX2_takeTurn_12 : decode cX2_takeTurn 12 = .ok (.aload_n 0, 1) := by decide +kernel
theorem dX2_takeTurn_13 : decode cX2_takeTurn 13 = .ok (.iconst 1, 1) := by decide +kernel
theorem dX2_takeTurn_14 : decode cX2_takeTurn 14 = .ok (.invokevirtual 88, 3) := by decide +kernel
theorem dX2_takeTurn_17 : decode cX2_takeTurn 17 = .ok (.ireturn, 1) := by decide +kernel
theorem dX2_takeTurn_18 : decode cX2_takeTurn 18 = .ok (.aload_n 0, 1) := by decide +kernel
theorem dX2_takeTurn_19 : decode cX2_takeTurn 19 = .ok (.aload_n 0, 1) := by decide +kernel
theorem dX2_takeTurn_20 : decode cX2_takeTurn 20 = .ok (.invokevirtual 108, 3) := by decide +kernel
theorem dX2_takeTurn_23 : decode cX2_takeTurn 23 = .ok (.aload_n 0, 1) := by decide +kernel
theorem dX2_takeTurn_24 : decode cX2_takeTurn 24 = .ok (.invokevirtual 61, 3) := by decide +kernel
theorem dX2_takeTurn_27 : decode cX2_takeTurn 27 = .ok (.invokevirtual 111, 3) := by decide +kernel
theorem dX2_takeTurn_30 : decode cX2_takeTurn 30 = .ok (.istore_n 1, 1) := by decide +kernel
theorem dX2_takeTurn_31 : decode cX2_takeTurn 31 = .ok (.aload_n 0, 1) := by decide +kernel
theorem dX2_takeTurn_32 : decode cX2_takeTurn 32 = .ok (.dup, 1) := by decide +kernel
theorem dX2_takeTurn_33 : decode cX2_takeTurn 33 = .ok (.getfield 105, 3) := by decide +kernel
theorem dX2_takeTurn_36 : decode cX2_takeTurn 36 = .ok (.iconst 1, 1) := by decide +kernel
theorem dX2_takeTurn_37 : decode cX2_takeTurn 37 = .ok (.iadd, 1) := by decide +kernel
theorem dX2_takeTurn_38 : decode cX2_takeTurn 38 = .ok (.putfield 105, 3) := by decide +kernel
theorem dX2_takeTurn_41 : decode cX2_takeTurn 41 = .ok (.aload_n 0, 1) := by decide +kernel
theorem dX2_takeTurn_42 : decode cX2_takeTurn 42 = .ok (.dup, 1) := by decide +kernel
theorem dX2_takeTurn_43 : decode cX2_takeTurn 43 = .ok (.getfield 114, 3) := by decide +kernel
theorem dX2_takeTurn_46 : decode cX2_takeTurn 46 = .ok (.iload_n 1, 1) := by decide +kernel
theorem dX2_takeTurn_47 : decode cX2_takeTurn 47 = .ok (.iconst (-1), 1) := by decide +kernel
theorem dX2_takeTurn_48 : decode cX2_takeTurn 48 = .ok (.if_icmp .ne 7, 3) := by decide +kernel
theorem dX2_takeTurn_51 : decode cX2_takeTurn 51 = .ok (.iconst 1, 1) := by decide +kernel
theorem dX2_takeTurn_52 : decode cX2_takeTurn 52 = .ok (.goto 4, 3) := by decide +kernel
theorem dX2_takeTurn_55 : decode cX2_takeTurn 55 = .ok (.iconst 0, 1) := by decide +kernel
theorem dX2_takeTurn_56 : decode cX2_takeTurn 56 = .ok (.iadd, 1) := by decide +kernel
theorem dX2_takeTurn_57 : decode cX2_takeTurn 57 = .ok (.putfield 114, 3) := by decide +kernel
theorem dX2_takeTurn_60 : decode cX2_takeTurn 60 = .ok (.aload_n 0, 1) := by decide +kernel
theorem dX2_takeTurn_61 : decode cX2_takeTurn 61 = .ok (.iconst 1, 1) := by decide +kernel
theorem dX2_takeTurn_62 : decode cX2_takeTurn 62 = .ok (.putfield 92, 3) := by decide +kernel
theorem dX2_takeTurn_65 : decode cX2_takeTurn 65 = .ok (.iload_n 1, 1) := by decide +kernel
theorem dX2_takeTurn_66 : decode cX2_takeTurn 66 = .ok (.ireturn, 1) := by decide +kernel
theorem dX2_say_0 : decode cX2_say 0 = .ok (.aload_n 0, 1) := by decide +kernel
theorem dX2_say_1 : decode cX2_say 1 = .ok (.iload_n 1, 1) := by decide +kernel
theorem dX2_say_2 : decode cX2_say 2 = .ok (.invokestatic 85, 3) := by decide +kernel
theorem dX2_say_5 : decode cX2_say 5 = .ok (.ifCond .ne 7, 3) := by decide +kernel
theorem dX2_say_8 : decode cX2_say 8 = .ok (.iconst 1, 1) := by decide +kernel
theorem dX2_say_9 : decode cX2_say 9 = .ok (.goto 35, 3) := by decide +kernel
theorem dX2_say_12 : decode cX2_say 12 = .ok (.iload_n 2, 1) := by decide +kernel
theorem dX2_say_13 : decode cX2_say 13 = .ok (.iconst 0, 1) := by decide +kernel
theorem dX2_say_14 : decode cX2_say 14 = .ok (.iconst 5, 1) := by decide +kernel
theorem dX2_say_15 : decode cX2_say 15 = .ok (.invokestatic 36, 3) := by decide +kernel
theorem dX2_say_18 : decode cX2_say 18 = .ok (.ifCond .ne 7, 3) := by decide +kernel
theorem dX2_say_21 : decode cX2_say 21 = .ok (.iconst 2, 1) := by decide +kernel
theorem dX2_say_22 : decode cX2_say 22 = .ok (.goto 22, 3) := by decide +kernel
theorem dX2_say_25 : decode cX2_say 25 = .ok (.aload_n 0, 1) := by decide +kernel
theorem dX2_say_26 : decode cX2_say 26 = .ok (.aload_n 0, 1) := by decide +kernel
theorem dX2_say_27 : decode cX2_say 27 = .ok (.invokevirtual 61, 3) := by decide +kernel
theorem dX2_say_30 : decode cX2_say 30 = .ok (.iload_n 1, 1) := by decide +kernel
theorem dX2_say_31 : decode cX2_say 31 = .ok (.iload_n 2, 1) := by decide +kernel
theorem dX2_say_32 : decode cX2_say 32 = .ok (.iload_n 3, 1) := by decide +kernel
theorem dX2_say_33 : decode cX2_say 33 = .ok (.invokevirtual 117, 3) := by decide +kernel
theorem dX2_say_36 : decode cX2_say 36 = .ok (.ifCond .eq 7, 3) := by decide +kernel
theorem dX2_say_39 : decode cX2_say 39 = .ok (.iconst 0, 1) := by decide +kernel
theorem dX2_say_40 : decode cX2_say 40 = .ok (.goto 4, 3) := by decide +kernel
theorem dX2_say_43 : decode cX2_say 43 = .ok (.iconst 3, 1) := by decide +kernel
theorem dX2_say_44 : decode cX2_say 44 = .ok (.putfield 29, 3) := by decide +kernel
theorem dX2_say_47 : decode cX2_say 47 = .ok (.aload_n 0, 1) := by decide +kernel
theorem dX2_say_48 : decode cX2_say 48 = .ok (.getfield 29, 3) := by decide +kernel
theorem dX2_say_51 : decode cX2_say 51 = .ok (.ifCond .le 5, 3) := by decide +kernel
theorem dX2_say_54 : decode cX2_say 54 = .ok (.iconst 0, 1) := by decide +kernel
theorem dX2_say_55 : decode cX2_say 55 = .ok (.ireturn, 1) := by decide +kernel
theorem dX2_say_56 : decode cX2_say 56 = .ok (.iconst 0, 1) := by decide +kernel
theorem dX2_say_57 : decode cX2_say 57 = .ok (.istore 4, 2) := by decide +kernel
theorem dX2_say_59 : decode cX2_say 59 = .ok (.iload 4, 2) := by decide +kernel
theorem dX2_say_61 : decode cX2_say 61 = .ok (.aload_n 0, 1) := by decide +kernel
theorem dX2_say_62 : decode cX2_say 62 = .ok (.invokevirtual 53, 3) := by decide +kernel
theorem dX2_say_65 : decode cX2_say 65 = .ok (.if_icmp .ge 43, 3) := by decide +kernel
theorem dX2_say_68 : decode cX2_say 68 = .ok (.aload_n 0, 1) := by decide +kernel
theorem dX2_say_69 : decode cX2_say 69 = .ok (.getfield 16, 3) := by decide +kernel
theorem dX2_say_72 : decode cX2_say 72 = .ok (.iload 4, 2) := by decide +kernel
theorem dX2_say_74 : decode cX2_say 74 = .ok (.aload_n 0, 1) := by decide +kernel
theorem dX2_say_75 : decode cX2_say 75 = .ok (.getfield 16, 3) := by decide +kernel
theorem dX2_say_78 : decode cX2_say 78 = .ok (.iload 4, 2) := by decide +kernel
theorem dX2_say_80 : decode cX2_say 80 = .ok (.baload, 1) := by decide +kernel
theorem dX2_say_81 : decode cX2_say 81 = .ok (.ifCond .eq 19, 3) := by decide +kernel
theorem dX2_say_84 : decode cX2_say 84 = .ok (.aload_n 0, 1) := by decide +kernel
theorem dX2_say_85 : decode cX2_say 85 = .ok (.iload 4, 2) := by decide +kernel
theorem dX2_say_87 : decode cX2_say 87 = .ok (.iload_n 1, 1) := by decide +kernel
theorem dX2_say_88 : decode cX2_say 88 = .ok (.iload_n 2, 1) := by decide +kernel
theorem dX2_say_89 : decode cX2_say 89 = .ok (.iload_n 3, 1) := by decide +kernel
theorem dX2_say_90 : decode cX2_say 90 = .ok (.invokevirtual 117, 3) := by decide +kernel
theorem dX2_say_93 : decode cX2_say 93 = .ok (.ifCond .eq 7, 3) := by decide +kernel
theorem dX2_say_96 : decode cX2_say 96 = .ok (.iconst 1, 1) := by decide +kernel
theorem dX2_say_97 : decode cX2_say 97 = .ok (.goto 4, 3) := by decide +kernel
theorem dX2_say_100 : decode cX2_say 100 = .ok (.iconst 0, 1) := by decide +kernel
theorem dX2_say_101 : decode cX2_say 101 = .ok (.bastore, 1) := by decide +kernel
theorem dX2_say_102 : decode cX2_say 102 = .ok (.iinc 4 1, 3) := by decide +kernel
theorem dX2_say_105 : decode cX2_say 105 = .ok (.goto (-46), 3) := by decide +kernel
theorem dX2_say_108 : decode cX2_say 108 = .ok (.aload_n 0, 1) := by decide +kernel
theorem dX2_say_109 : decode cX2_say 109 = .ok (.iconst 1, 1) := by decide +kernel
theorem dX2_say_110 : decode cX2_say 110 = .ok (.putfield 92, 3) := by decide +kernel
theorem dX2_say_113 : decode cX2_say 113 = .ok (.aload_n 0, 1) := by decide +kernel
theorem dX2_say_114 : decode cX2_say 114 = .ok (.invokevirtual 121, 3) := by decide +kernel
theorem dX2_say_117 : decode cX2_say 117 = .ok (.ireturn, 1) := by decide +kernel
theorem dX2_is_0 : decode cX2_is 0 = .ok (.iload 4, 2) := by decide +kernel
theorem dX2_is_2 : decode cX2_is 2 = .ok (.ifCond .eq 21, 3) := by decide +kernel
theorem dX2_is_5 : decode cX2_is 5 = .ok (.aload_n 0, 1) := by decide +kernel
theorem dX2_is_6 : decode cX2_is 6 = .ok (.iload_n 1, 1) := by decide +kernel
theorem dX2_is_7 : decode cX2_is 7 = .ok (.iload_n 2, 1) := by decide +kernel
theorem dX2_is_8 : decode cX2_is 8 = .ok (.invokevirtual 124, 3) := by decide +kernel
theorem dX2_is_11 : decode cX2_is 11 = .ok (.iload_n 3, 1) := by decide +kernel
theorem dX2_is_12 : decode cX2_is 12 = .ok (.if_icmp .lt 7, 3) := by decide +kernel
theorem dX2_is_15 : decode cX2_is 15 = .ok (.iconst 1, 1) := by decide +kernel
theorem dX2_is_16 : decode cX2_is 16 = .ok (.goto 22, 3) := by decide +kernel
theorem dX2_is_19 : decode cX2_is 19 = .ok (.iconst 0, 1) := by decide +kernel
theorem dX2_is_20 : decode cX2_is 20 = .ok (.goto 18, 3) := by decide +kernel
theorem dX2_is_23 : decode cX2_is 23 = .ok (.aload_n 0, 1) := by decide +kernel
theorem dX2_is_24 : decode cX2_is 24 = .ok (.iload_n 1, 1) := by decide +kernel
theorem dX2_is_25 : decode cX2_is 25 = .ok (.iload_n 2, 1) := by decide +kernel
theorem dX2_is_26 : decode cX2_is 26 = .ok (.invokevirtual 124, 3) := by decide +kernel
theorem dX2_is_29 : decode cX2_is 29 = .ok (.iload_n 3, 1) := by decide +kernel
theorem dX2_is_30 : decode cX2_is 30 = .ok (.if_icmp .gt 7, 3) := by decide +kernel
theorem dX2_is_33 : decode cX2_is 33 = .ok (.iconst 1, 1) := by decide +kernel
theorem dX2_is_34 : decode cX2_is 34 = .ok (.goto 4, 3) := by decide +kernel
theorem dX2_is_37 : decode cX2_is 37 = .ok (.iconst 0, 1) := by decide +kernel
theorem dX2_is_38 : decode cX2_is 38 = .ok (.ireturn, 1) := by decide +kernel
theorem dX2_sayAtLeast_0 : decode cX2_sayAtLeast 0 = .ok (.aload_n 0, 1) := by decide +kernel
theorem dX2_sayAtLeast_1 : decode cX2_sayAtLeast 1 = .ok (.iload_n 1, 1) := by decide +kernel
theorem dX2_sayAtLeast_2 : decode cX2_sayAtLeast 2 = .ok (.iload_n 2, 1) := by decide +kernel
theorem dX2_sayAtLeast_3 : decode cX2_sayAtLeast 3 = .ok (.iconst 1, 1) := by decide +kernel
theorem dX2_sayAtLeast_4 : decode cX2_sayAtLeast 4 = .ok (.invokevirtual 127, 3) := by decide +kernel
theorem dX2_sayAtLeast_7 : decode cX2_sayAtLeast 7 = .ok (.ireturn, 1) := by decide +kernel
theorem dX2_sayAtMost_0 : decode cX2_sayAtMost 0 = .ok (.aload_n 0, 1) := by decide +kernel
theorem dX2_sayAtMost_1 : decode cX2_sayAtMost 1 = .ok (.iload_n 1, 1) := by decide +kernel
theorem dX2_sayAtMost_2 : decode cX2_sayAtMost 2 = .ok (.iload_n 2, 1) := by decide +kernel
theorem dX2_sayAtMost_3 : decode cX2_sayAtMost 3 = .ok (.iconst 0, 1) := by decide +kernel
theorem dX2_sayAtMost_4 : decode cX2_sayAtMost 4 = .ok (.invokevirtual 127, 3) := by decide +kernel
theorem dX2_sayAtMost_7 : decode cX2_sayAtMost 7 = .ok (.ireturn, 1) := by decide +kernel
theorem dX2_begin_0 : decode cX2_begin 0 = .ok (.aload_n 0, 1) := by decide +kernel
theorem dX2_begin_1 : decode cX2_begin 1 = .ok (.iconst 0, 1) := by decide +kernel
theorem dX2_begin_2 : decode cX2_begin 2 = .ok (.putfield 29, 3) := by decide +kernel
theorem dX2_begin_5 : decode cX2_begin 5 = .ok (.aload_n 0, 1) := by decide +kernel
theorem dX2_begin_6 : decode cX2_begin 6 = .ok (.iconst 0, 1) := by decide +kernel
theorem dX2_begin_7 : decode cX2_begin 7 = .ok (.putfield 105, 3) := by decide +kernel
theorem dX2_begin_10 : decode cX2_begin 10 = .ok (.aload_n 0, 1) := by decide +kernel
theorem dX2_begin_11 : decode cX2_begin 11 = .ok (.iconst 0, 1) := by decide +kernel
theorem dX2_begin_12 : decode cX2_begin 12 = .ok (.putfield 114, 3) := by decide +kernel
theorem dX2_begin_15 : decode cX2_begin 15 = .ok (.aload_n 0, 1) := by decide +kernel
theorem dX2_begin_16 : decode cX2_begin 16 = .ok (.iconst 0, 1) := by decide +kernel
theorem dX2_begin_17 : decode cX2_begin 17 = .ok (.putfield 92, 3) := by decide +kernel
theorem dX2_begin_20 : decode cX2_begin 20 = .ok (.aload_n 0, 1) := by decide +kernel
theorem dX2_begin_21 : decode cX2_begin 21 = .ok (.invokevirtual 96, 3) := by decide +kernel
theorem dX2_begin_24 : decode cX2_begin 24 = .ok (.aload_n 0, 1) := by decide +kernel
theorem dX2_begin_25 : decode cX2_begin 25 = .ok (.invokevirtual 53, 3) := by decide +kernel
theorem dX2_begin_28 : decode cX2_begin 28 = .ok (.ireturn, 1) := by decide +kernel
theorem dX2_players_0 : decode cX2_players 0 = .ok (.aload_n 0, 1) := by decide +kernel
theorem dX2_players_1 : decode cX2_players 1 = .ok (.aload_n 0, 1) := by decide +kernel
theorem dX2_players_2 : decode cX2_players 2 = .ok (.getfield 33, 3) := by decide +kernel
theorem dX2_players_5 : decode cX2_players 5 = .ok (.invokevirtual 131, 3) := by decide +kernel
theorem dX2_players_8 : decode cX2_players 8 = .ok (.ireturn, 1) := by decide +kernel
theorem dX2_turnsTaken_0 : decode cX2_turnsTaken 0 = .ok (.aload_n 0, 1) := by decide +kernel
theorem dX2_turnsTaken_1 : decode cX2_turnsTaken 1 = .ok (.aload_n 0, 1) := by decide +kernel
theorem dX2_turnsTaken_2 : decode cX2_turnsTaken 2 = .ok (.getfield 105, 3) := by decide +kernel
theorem dX2_turnsTaken_5 : decode cX2_turnsTaken 5 = .ok (.invokevirtual 131, 3) := by decide +kernel
theorem dX2_turnsTaken_8 : decode cX2_turnsTaken 8 = .ok (.ireturn, 1) := by decide +kernel
theorem dX2_silentTurns_0 : decode cX2_silentTurns 0 = .ok (.aload_n 0, 1) := by decide +kernel
theorem dX2_silentTurns_1 : decode cX2_silentTurns 1 = .ok (.aload_n 0, 1) := by decide +kernel
theorem dX2_silentTurns_2 : decode cX2_silentTurns 2 = .ok (.getfield 114, 3) := by decide +kernel
theorem dX2_silentTurns_5 : decode cX2_silentTurns 5 = .ok (.invokevirtual 131, 3) := by decide +kernel
theorem dX2_silentTurns_8 : decode cX2_silentTurns 8 = .ok (.ireturn, 1) := by decide +kernel
theorem dX2_playerInTurn_0 : decode cX2_playerInTurn 0 = .ok (.aload_n 0, 1) := by decide +kernel
theorem dX2_playerInTurn_1 : decode cX2_playerInTurn 1 = .ok (.aload_n 0, 1) := by decide +kernel
theorem dX2_playerInTurn_2 : decode cX2_playerInTurn 2 = .ok (.invokevirtual 108, 3) := by decide +kernel
theorem dX2_playerInTurn_5 : decode cX2_playerInTurn 5 = .ok (.invokevirtual 131, 3) := by decide +kernel
theorem dX2_playerInTurn_8 : decode cX2_playerInTurn 8 = .ok (.ireturn, 1) := by decide +kernel
theorem dX2_hatOf_0 : decode cX2_hatOf 0 = .ok (.aload_n 0, 1) := by decide +kernel
theorem dX2_hatOf_1 : decode cX2_hatOf 1 = .ok (.iconst 0, 1) := by decide +kernel
theorem dX2_hatOf_2 : decode cX2_hatOf 2 = .ok (.putfield 29, 3) := by decide +kernel
theorem dX2_hatOf_5 : decode cX2_hatOf 5 = .ok (.aload_n 0, 1) := by decide +kernel
theorem dX2_hatOf_6 : decode cX2_hatOf 6 = .ok (.iload_n 1, 1) := by decide +kernel
theorem dX2_hatOf_7 : decode cX2_hatOf 7 = .ok (.invokevirtual 99, 3) := by decide +kernel
theorem dX2_hatOf_10 : decode cX2_hatOf 10 = .ok (.ifCond .eq 12, 3) := by decide +kernel
theorem dX2_hatOf_13 : decode cX2_hatOf 13 = .ok (.aload_n 0, 1) := by decide +kernel
theorem dX2_hatOf_14 : decode cX2_hatOf 14 = .ok (.getfield 9, 3) := by decide +kernel
theorem dX2_hatOf_17 : decode cX2_hatOf 17 = .ok (.iload_n 1, 1) := by decide +kernel
theorem dX2_hatOf_18 : decode cX2_hatOf 18 = .ok (.iaload, 1) := by decide +kernel
theorem dX2_hatOf_19 : decode cX2_hatOf 19 = .ok (.goto 8, 3) := by decide +kernel
theorem dX2_hatOf_22 : decode cX2_hatOf 22 = .ok (.aload_n 0, 1) := by decide +kernel
theorem dX2_hatOf_23 : decode cX2_hatOf 23 = .ok (.iconst 1, 1) := by decide +kernel
theorem dX2_hatOf_24 : decode cX2_hatOf 24 = .ok (.invokevirtual 88, 3) := by decide +kernel
theorem dX2_hatOf_27 : decode cX2_hatOf 27 = .ok (.ireturn, 1) := by decide +kernel
theorem dX2_sees__0 : decode cX2_sees_ 0 = .ok (.aload_n 0, 1) := by decide +kernel
theorem dX2_sees__1 : decode cX2_sees_ 1 = .ok (.aload_n 0, 1) := by decide +kernel
theorem dX2_sees__2 : decode cX2_sees_ 2 = .ok (.iload_n 1, 1) := by decide +kernel
theorem dX2_sees__3 : decode cX2_sees_ 3 = .ok (.invokevirtual 99, 3) := by decide +kernel
theorem dX2_sees__6 : decode cX2_sees_ 6 = .ok (.ifCond .eq 15, 3) := by decide +kernel
theorem dX2_sees__9 : decode cX2_sees_ 9 = .ok (.aload_n 0, 1) := by decide +kernel
theorem dX2_sees__10 : decode cX2_sees_ 10 = .ok (.iload_n 2, 1) := by decide +kernel
theorem dX2_sees__11 : decode cX2_sees_ 11 = .ok (.invokevirtual 99, 3) := by decide +kernel
theorem dX2_sees__14 : decode cX2_sees_ 14 = .ok (.ifCond .eq 7, 3) := by decide +kernel
theorem dX2_sees__17 : decode cX2_sees_ 17 = .ok (.iconst 0, 1) := by decide +kernel
theorem dX2_sees__18 : decode cX2_sees_ 18 = .ok (.goto 4, 3) := by decide +kernel
theorem dX2_sees__21 : decode cX2_sees_ 21 = .ok (.iconst 1, 1) := by decide +kernel
theorem dX2_sees__22 : decode cX2_sees_ 22 = .ok (.putfield 29, 3) := by decide +kernel
theorem dX2_sees__25 : decode cX2_sees_ 25 = .ok (.aload_n 0, 1) := by decide +kernel
theorem dX2_sees__26 : decode cX2_sees_ 26 = .ok (.getfield 29, 3) := by decide +kernel
theorem dX2_sees__29 : decode cX2_sees_ 29 = .ok (.ifCond .ne 17, 3) := by decide +kernel
theorem dX2_sees__32 : decode cX2_sees_ 32 = .ok (.aload_n 0, 1) := by decide +kernel
theorem dX2_sees__33 : decode cX2_sees_ 33 = .ok (.iload_n 1, 1) := by decide +kernel
theorem dX2_sees__34 : decode cX2_sees_ 34 = .ok (.iload_n 2, 1) := by decide +kernel
theorem dX2_sees__35 : decode cX2_sees_ 35 = .ok (.iload_n 1, 1) := by decide +kernel
theorem dX2_sees__36 : decode cX2_sees_ 36 = .ok (.invokevirtual 43, 3) := by decide +kernel
theorem dX2_sees__39 : decode cX2_sees_ 39 = .ok (.ifCond .eq 7, 3) := by decide +kernel
theorem dX2_sees__42 : decode cX2_sees_ 42 = .ok (.iconst 1, 1) := by decide +kernel
theorem dX2_sees__43 : decode cX2_sees_ 43 = .ok (.goto 4, 3) := by decide +kernel
theorem dX2_sees__46 : decode cX2_sees_ 46 = .ok (.iconst 0, 1) := by decide +kernel
theorem dX2_sees__47 : decode cX2_sees_ 47 = .ok (.ireturn, 1) := by decide +kernel
theorem dX2_hatsOf_0 : decode cX2_hatsOf 0 = .ok (.aload_n 0, 1) := by decide +kernel
theorem dX2_hatsOf_1 : decode cX2_hatsOf 1 = .ok (.iconst 0, 1) := by decide +kernel
theorem dX2_hatsOf_2 : decode cX2_hatsOf 2 = .ok (.putfield 29, 3) := by decide +kernel
theorem dX2_hatsOf_5 : decode cX2_hatsOf 5 = .ok (.iload_n 1, 1) := by decide +kernel
theorem dX2_hatsOf_6 : decode cX2_hatsOf 6 = .ok (.invokestatic 85, 3) := by decide +kernel
theorem dX2_hatsOf_9 : decode cX2_hatsOf 9 = .ok (.ifCond .eq 15, 3) := by decide +kernel
theorem dX2_hatsOf_12 : decode cX2_hatsOf 12 = .ok (.aload_n 0, 1) := by decide +kernel
theorem dX2_hatsOf_13 : decode cX2_hatsOf 13 = .ok (.aload_n 0, 1) := by decide +kernel
theorem dX2_hatsOf_14 : decode cX2_hatsOf 14 = .ok (.invokevirtual 61, 3) := by decide +kernel
theorem dX2_hatsOf_17 : decode cX2_hatsOf 17 = .ok (.iload_n 1, 1) := by decide +kernel
theorem dX2_hatsOf_18 : decode cX2_hatsOf 18 = .ok (.invokevirtual 124, 3) := by decide +kernel
theorem dX2_hatsOf_21 : decode cX2_hatsOf 21 = .ok (.goto 8, 3) := by decide +kernel
theorem dX2_hatsOf_24 : decode cX2_hatsOf 24 = .ok (.aload_n 0, 1) := by decide +kernel
theorem dX2_hatsOf_25 : decode cX2_hatsOf 25 = .ok (.iconst 1, 1) := by decide +kernel
theorem dX2_hatsOf_26 : decode cX2_hatsOf 26 = .ok (.invokevirtual 88, 3) := by decide +kernel
theorem dX2_hatsOf_29 : decode cX2_hatsOf 29 = .ok (.ireturn, 1) := by decide +kernel
theorem dX2_openWays_0 : decode cX2_openWays 0 = .ok (.aload_n 0, 1) := by decide +kernel
theorem dX2_openWays_1 : decode cX2_openWays 1 = .ok (.aload_n 0, 1) := by decide +kernel
theorem dX2_openWays_2 : decode cX2_openWays 2 = .ok (.invokevirtual 121, 3) := by decide +kernel
theorem dX2_openWays_5 : decode cX2_openWays 5 = .ok (.invokevirtual 131, 3) := by decide +kernel
theorem dX2_openWays_8 : decode cX2_openWays 8 = .ok (.ireturn, 1) := by decide +kernel
theorem dX2_openWith_0 : decode cX2_openWith 0 = .ok (.iconst 0, 1) := by decide +kernel
theorem dX2_openWith_1 : decode cX2_openWith 1 = .ok (.istore_n 3, 1) := by decide +kernel
theorem dX2_openWith_2 : decode cX2_openWith 2 = .ok (.iconst 0, 1) := by decide +kernel
theorem dX2_openWith_3 : decode cX2_openWith 3 = .ok (.istore 4, 2) := by decide +kernel
theorem dX2_openWith_5 : decode cX2_openWith 5 = .ok (.iload 4, 2) := by decide +kernel
theorem dX2_openWith_7 : decode cX2_openWith 7 = .ok (.aload_n 0, 1) := by decide +kernel
theorem dX2_openWith_8 : decode cX2_openWith 8 = .ok (.invokevirtual 53, 3) := by decide +kernel
theorem dX2_openWith_11 : decode cX2_openWith 11 = .ok (.if_icmp .ge 37, 3) := by decide +kernel
theorem dX2_openWith_14 : decode cX2_openWith 14 = .ok (.iload_n 3, 1) := by decide +kernel
theorem dX2_openWith_15 : decode cX2_openWith 15 = .ok (.aload_n 0, 1) := by decide +kernel
theorem dX2_openWith_16 : decode cX2_openWith 16 = .ok (.getfield 16, 3) := by decide +kernel
theorem dX2_openWith_19 : decode cX2_openWith 19 = .ok (.iload 4, 2) := by decide +kernel
theorem dX2_openWith_21 : decode cX2_openWith 21 = .ok (.baload, 1) := by decide +kernel
theorem dX2_openWith_22 : decode cX2_openWith 22 = .ok (.ifCond .eq 17, 3) := by decide +kernel
theorem dX2_openWith_25 : decode cX2_openWith 25 = .ok (.iload 4, 2) := by decide +kernel
theorem dX2_openWith_27 : decode cX2_openWith 27 = .ok (.iload_n 1, 1) := by decide +kernel
theorem dX2_openWith_28 : decode cX2_openWith 28 = .ok (.invokestatic 46, 3) := by decide +kernel
theorem dX2_openWith_31 : decode cX2_openWith 31 = .ok (.iload_n 2, 1) := by decide +kernel
theorem dX2_openWith_32 : decode cX2_openWith 32 = .ok (.if_icmp .ne 7, 3) := by decide +kernel
theorem dX2_openWith_35 : decode cX2_openWith 35 = .ok (.iconst 1, 1) := by decide +kernel
theorem dX2_openWith_36 : decode cX2_openWith 36 = .ok (.goto 4, 3) := by decide +kernel
theorem dX2_openWith_39 : decode cX2_openWith 39 = .ok (.iconst 0, 1) := by decide +kernel
theorem dX2_openWith_40 : decode cX2_openWith 40 = .ok (.iadd, 1) := by decide +kernel
theorem dX2_openWith_41 : decode cX2_openWith 41 = .ok (.istore_n 3, 1) := by decide +kernel
theorem dX2_openWith_42 : decode cX2_openWith 42 = .ok (.iinc 4 1, 3) := by decide +kernel
theorem dX2_openWith_45 : decode cX2_openWith 45 = .ok (.goto (-40), 3) := by decide +kernel
theorem dX2_openWith_48 : decode cX2_openWith 48 = .ok (.iload_n 3, 1) := by decide +kernel
theorem dX2_openWith_49 : decode cX2_openWith 49 = .ok (.ireturn, 1) := by decide +kernel
theorem dX2_openWaysWith_0 : decode cX2_openWaysWith 0 = .ok (.aload_n 0, 1) := by decide +kernel
theorem dX2_openWaysWith_1 : decode cX2_openWaysWith 1 = .ok (.iconst 0, 1) := by decide +kernel
theorem dX2_openWaysWith_2 : decode cX2_openWaysWith 2 = .ok (.putfield 29, 3) := by decide +kernel
theorem dX2_openWaysWith_5 : decode cX2_openWaysWith 5 = .ok (.aload_n 0, 1) := by decide +kernel
theorem dX2_openWaysWith_6 : decode cX2_openWaysWith 6 = .ok (.iload_n 1, 1) := by decide +kernel
theorem dX2_openWaysWith_7 : decode cX2_openWaysWith 7 = .ok (.invokevirtual 99, 3) := by decide +kernel
theorem dX2_openWaysWith_10 : decode cX2_openWaysWith 10 = .ok (.ifCond .eq 19, 3) := by decide +kernel
theorem dX2_openWaysWith_13 : decode cX2_openWaysWith 13 = .ok (.iload_n 2, 1) := by decide +kernel
theorem dX2_openWaysWith_14 : decode cX2_openWaysWith 14 = .ok (.invokestatic 85, 3) := by decide +kernel
theorem dX2_openWaysWith_17 : decode cX2_openWaysWith 17 = .ok (.ifCond .eq 12, 3) := by decide +kernel
theorem dX2_openWaysWith_20 : decode cX2_openWaysWith 20 = .ok (.aload_n 0, 1) := by decide +kernel
theorem dX2_openWaysWith_21 : decode cX2_openWaysWith 21 = .ok (.iload_n 1, 1) := by decide +kernel
theorem dX2_openWaysWith_22 : decode cX2_openWaysWith 22 = .ok (.iload_n 2, 1) := by decide +kernel
theorem dX2_openWaysWith_23 : decode cX2_openWaysWith 23 = .ok (.invokevirtual 134, 3) := by decide +kernel
theorem dX2_openWaysWith_26 : decode cX2_openWaysWith 26 = .ok (.goto 8, 3) := by decide +kernel
theorem dX2_openWaysWith_29 : decode cX2_openWaysWith 29 = .ok (.aload_n 0, 1) := by decide +kernel
theorem dX2_openWaysWith_30 : decode cX2_openWaysWith 30 = .ok (.iconst 1, 1) := by decide +kernel
theorem dX2_openWaysWith_31 : decode cX2_openWaysWith 31 = .ok (.invokevirtual 88, 3) := by decide +kernel
theorem dX2_openWaysWith_34 : decode cX2_openWaysWith 34 = .ok (.ireturn, 1) := by decide +kernel
theorem dX2_known_0 : decode cX2_known 0 = .ok (.aload_n 0, 1) := by decide +kernel
theorem dX2_known_1 : decode cX2_known 1 = .ok (.iload_n 1, 1) := by decide +kernel
theorem dX2_known_2 : decode cX2_known 2 = .ok (.aload_n 0, 1) := by decide +kernel
theorem dX2_known_3 : decode cX2_known 3 = .ok (.getfield 9, 3) := by decide +kernel
theorem dX2_known_6 : decode cX2_known 6 = .ok (.iload_n 1, 1) := by decide +kernel
theorem dX2_known_7 : decode cX2_known 7 = .ok (.iaload, 1) := by decide +kernel
theorem dX2_known_8 : decode cX2_known 8 = .ok (.invokevirtual 134, 3) := by decide +kernel
theorem dX2_known_11 : decode cX2_known 11 = .ok (.aload_n 0, 1) := by decide +kernel
theorem dX2_known_12 : decode cX2_known 12 = .ok (.invokevirtual 121, 3) := by decide +kernel
theorem dX2_known_15 : decode cX2_known 15 = .ok (.if_icmp .ne 7, 3) := by decide +kernel
theorem dX2_known_18 : decode cX2_known 18 = .ok (.iconst 1, 1) := by decide +kernel
theorem dX2_known_19 : decode cX2_known 19 = .ok (.goto 4, 3) := by decide +kernel
theorem dX2_known_22 : decode cX2_known 22 = .ok (.iconst 0, 1) := by decide +kernel
theorem dX2_known_23 : decode cX2_known 23 = .ok (.ireturn, 1) := by decide +kernel
theorem dX2_isKnownToAll_0 : decode cX2_isKnownToAll 0 = .ok (.aload_n 0, 1) := by decide +kernel
theorem dX2_isKnownToAll_1 : decode cX2_isKnownToAll 1 = .ok (.aload_n 0, 1) := by decide +kernel
theorem dX2_isKnownToAll_2 : decode cX2_isKnownToAll 2 = .ok (.iload_n 1, 1) := by decide +kernel
theorem dX2_isKnownToAll_3 : decode cX2_isKnownToAll 3 = .ok (.invokevirtual 99, 3) := by decide +kernel
theorem dX2_isKnownToAll_6 : decode cX2_isKnownToAll 6 = .ok (.ifCond .eq 7, 3) := by decide +kernel
theorem dX2_isKnownToAll_9 : decode cX2_isKnownToAll 9 = .ok (.iconst 0, 1) := by decide +kernel
theorem dX2_isKnownToAll_10 : decode cX2_isKnownToAll 10 = .ok (.goto 4, 3) := by decide +kernel
theorem dX2_isKnownToAll_13 : decode cX2_isKnownToAll 13 = .ok (.iconst 1, 1) := by decide +kernel
theorem dX2_isKnownToAll_14 : decode cX2_isKnownToAll 14 = .ok (.putfield 29, 3) := by decide +kernel
theorem dX2_isKnownToAll_17 : decode cX2_isKnownToAll 17 = .ok (.aload_n 0, 1) := by decide +kernel
theorem dX2_isKnownToAll_18 : decode cX2_isKnownToAll 18 = .ok (.getfield 29, 3) := by decide +kernel
theorem dX2_isKnownToAll_21 : decode cX2_isKnownToAll 21 = .ok (.ifCond .ne 15, 3) := by decide +kernel
theorem dX2_isKnownToAll_24 : decode cX2_isKnownToAll 24 = .ok (.aload_n 0, 1) := by decide +kernel
theorem dX2_isKnownToAll_25 : decode cX2_isKnownToAll 25 = .ok (.iload_n 1, 1) := by decide +kernel
theorem dX2_isKnownToAll_26 : decode cX2_isKnownToAll 26 = .ok (.invokevirtual 137, 3) := by decide +kernel
theorem dX2_isKnownToAll_29 : decode cX2_isKnownToAll 29 = .ok (.ifCond .eq 7, 3) := by decide +kernel
theorem dX2_isKnownToAll_32 : decode cX2_isKnownToAll 32 = .ok (.iconst 1, 1) := by decide +kernel
theorem dX2_isKnownToAll_33 : decode cX2_isKnownToAll 33 = .ok (.goto 4, 3) := by decide +kernel
theorem dX2_isKnownToAll_36 : decode cX2_isKnownToAll 36 = .ok (.iconst 0, 1) := by decide +kernel
theorem dX2_isKnownToAll_37 : decode cX2_isKnownToAll 37 = .ok (.ireturn, 1) := by decide +kernel
theorem dX2_possible_0 : decode cX2_possible 0 = .ok (.aload_n 0, 1) := by decide +kernel
theorem dX2_possible_1 : decode cX2_possible 1 = .ok (.iload_n 1, 1) := by decide +kernel
theorem dX2_possible_2 : decode cX2_possible 2 = .ok (.aload_n 0, 1) := by decide +kernel
theorem dX2_possible_3 : decode cX2_possible 3 = .ok (.invokevirtual 61, 3) := by decide +kernel
theorem dX2_possible_6 : decode cX2_possible 6 = .ok (.invokevirtual 50, 3) := by decide +kernel
theorem dX2_possible_9 : decode cX2_possible 9 = .ok (.istore_n 2, 1) := by decide +kernel
theorem dX2_possible_10 : decode cX2_possible 10 = .ok (.iconst 0, 1) := by decide +kernel
theorem dX2_possible_11 : decode cX2_possible 11 = .ok (.istore_n 3, 1) := by decide +kernel
theorem dX2_possible_12 : decode cX2_possible 12 = .ok (.iconst 0, 1) := by decide +kernel
theorem dX2_possible_13 : decode cX2_possible 13 = .ok (.istore 4, 2) := by decide +kernel
theorem dX2_possible_15 : decode cX2_possible 15 = .ok (.iload 4, 2) := by decide +kernel
theorem dX2_possible_17 : decode cX2_possible 17 = .ok (.aload_n 0, 1) := by decide +kernel
theorem dX2_possible_18 : decode cX2_possible 18 = .ok (.invokevirtual 53, 3) := by decide +kernel
theorem dX2_possible_21 : decode cX2_possible 21 = .ok (.if_icmp .ge 38, 3) := by decide +kernel
theorem dX2_possible_24 : decode cX2_possible 24 = .ok (.iload_n 3, 1) := by decide +kernel
theorem dX2_possible_25 : decode cX2_possible 25 = .ok (.aload_n 0, 1) := by decide +kernel
theorem dX2_possible_26 : decode cX2_possible 26 = .ok (.getfield 16, 3) := by decide +kernel
theorem dX2_possible_29 : decode cX2_possible 29 = .ok (.iload 4, 2) := by decide +kernel
theorem dX2_possible_31 : decode cX2_possible 31 = .ok (.baload, 1) := by decide +kernel
theorem dX2_possible_32 : decode cX2_possible 32 = .ok (.ifCond .eq 18, 3) := by decide +kernel
theorem dX2_possible_35 : decode cX2_possible 35 = .ok (.aload_n 0, 1) := by decide +kernel
theorem dX2_possible_36 : decode cX2_possible 36 = .ok (.iload_n 1, 1) := by decide +kernel
theorem dX2_possible_37 : decode cX2_possible 37 = .ok (.iload 4, 2) := by decide +kernel
theorem dX2_possible_39 : decode cX2_possible 39 = .ok (.invokevirtual 50, 3) := by decide +kernel
theorem dX2_possible_42 : decode cX2_possible 42 = .ok (.iload_n 2, 1) := by decide +kernel
theorem dX2_possible_43 : decode cX2_possible 43 = .ok (.if_icmp .ne 7, 3) := by decide +kernel
theorem dX2_possible_46 : decode cX2_possible 46 = .ok (.iconst 1, 1) := by decide +kernel
theorem dX2_possible_47 : decode cX2_possible 47 = .ok (.goto 4, 3) := by decide +kernel
theorem dX2_possible_50 : decode cX2_possible 50 = .ok (.iconst 0, 1) := by decide +kernel
theorem dX2_possible_51 : decode cX2_possible 51 = .ok (.iadd, 1) := by decide +kernel
theorem dX2_possible_52 : decode cX2_possible 52 = .ok (.istore_n 3, 1) := by decide +kernel
theorem dX2_possible_53 : decode cX2_possible 53 = .ok (.iinc 4 1, 3) := by decide +kernel
theorem dX2_possible_56 : decode cX2_possible 56 = .ok (.goto (-41), 3) := by decide +kernel
theorem dX2_possible_59 : decode cX2_possible 59 = .ok (.iload_n 3, 1) := by decide +kernel
theorem dX2_possible_60 : decode cX2_possible 60 = .ok (.ireturn, 1) := by decide +kernel
theorem dX2_possibleWays_0 : decode cX2_possibleWays 0 = .ok (.aload_n 0, 1) := by decide +kernel
theorem dX2_possibleWays_1 : decode cX2_possibleWays 1 = .ok (.iconst 0, 1) := by decide +kernel
theorem dX2_possibleWays_2 : decode cX2_possibleWays 2 = .ok (.putfield 29, 3) := by decide +kernel
theorem dX2_possibleWays_5 : decode cX2_possibleWays 5 = .ok (.aload_n 0, 1) := by decide +kernel
theorem dX2_possibleWays_6 : decode cX2_possibleWays 6 = .ok (.iload_n 1, 1) := by decide +kernel
theorem dX2_possibleWays_7 : decode cX2_possibleWays 7 = .ok (.invokevirtual 99, 3) := by decide +kernel
theorem dX2_possibleWays_10 : decode cX2_possibleWays 10 = .ok (.ifCond .eq 11, 3) := by decide +kernel
theorem dX2_possibleWays_13 : decode cX2_possibleWays 13 = .ok (.aload_n 0, 1) := by decide +kernel
theorem dX2_possibleWays_14 : decode cX2_possibleWays 14 = .ok (.iload_n 1, 1) := by decide +kernel
theorem dX2_possibleWays_15 : decode cX2_possibleWays 15 = .ok (.invokevirtual 140, 3) := by decide +kernel
theorem dX2_possibleWays_18 : decode cX2_possibleWays 18 = .ok (.goto 8, 3) := by decide +kernel
theorem dX2_possibleWays_21 : decode cX2_possibleWays 21 = .ok (.aload_n 0, 1) := by decide +kernel
theorem dX2_possibleWays_22 : decode cX2_possibleWays 22 = .ok (.iconst 1, 1) := by decide +kernel
theorem dX2_possibleWays_23 : decode cX2_possibleWays 23 = .ok (.invokevirtual 88, 3) := by decide +kernel
theorem dX2_possibleWays_26 : decode cX2_possibleWays 26 = .ok (.ireturn, 1) := by decide +kernel
theorem dX2_holdsPossible_0 : decode cX2_holdsPossible 0 = .ok (.aload_n 0, 1) := by decide +kernel
theorem dX2_holdsPossible_1 : decode cX2_holdsPossible 1 = .ok (.aload_n 0, 1) := by decide +kernel
theorem dX2_holdsPossible_2 : decode cX2_holdsPossible 2 = .ok (.iload_n 1, 1) := by decide +kernel
theorem dX2_holdsPossible_3 : decode cX2_holdsPossible 3 = .ok (.invokevirtual 99, 3) := by decide +kernel
theorem dX2_holdsPossible_6 : decode cX2_holdsPossible 6 = .ok (.ifCond .eq 22, 3) := by decide +kernel
theorem dX2_holdsPossible_9 : decode cX2_holdsPossible 9 = .ok (.aload_n 0, 1) := by decide +kernel
theorem dX2_holdsPossible_10 : decode cX2_holdsPossible 10 = .ok (.iload_n 2, 1) := by decide +kernel
theorem dX2_holdsPossible_11 : decode cX2_holdsPossible 11 = .ok (.invokevirtual 99, 3) := by decide +kernel
theorem dX2_holdsPossible_14 : decode cX2_holdsPossible 14 = .ok (.ifCond .eq 14, 3) := by decide +kernel
theorem dX2_holdsPossible_17 : decode cX2_holdsPossible 17 = .ok (.iload_n 3, 1) := by decide +kernel
theorem dX2_holdsPossible_18 : decode cX2_holdsPossible 18 = .ok (.invokestatic 85, 3) := by decide +kernel
theorem dX2_holdsPossible_21 : decode cX2_holdsPossible 21 = .ok (.ifCond .eq 7, 3) := by decide +kernel
theorem dX2_holdsPossible_24 : decode cX2_holdsPossible 24 = .ok (.iconst 0, 1) := by decide +kernel
theorem dX2_holdsPossible_25 : decode cX2_holdsPossible 25 = .ok (.goto 4, 3) := by decide +kernel
theorem dX2_holdsPossible_28 : decode cX2_holdsPossible 28 = .ok (.iconst 1, 1) := by decide +kernel
theorem dX2_holdsPossible_29 : decode cX2_holdsPossible 29 = .ok (.putfield 29, 3) := by decide +kernel
theorem dX2_holdsPossible_32 : decode cX2_holdsPossible 32 = .ok (.aload_n 0, 1) := by decide +kernel
theorem dX2_holdsPossible_33 : decode cX2_holdsPossible 33 = .ok (.getfield 29, 3) := by decide +kernel
theorem dX2_holdsPossible_36 : decode cX2_holdsPossible 36 = .ok (.ifCond .ne 25, 3) := by decide +kernel
theorem dX2_holdsPossible_39 : decode cX2_holdsPossible 39 = .ok (.aload_n 0, 1) := by decide +kernel
theorem dX2_holdsPossible_40 : decode cX2_holdsPossible 40 = .ok (.iload_n 1, 1) := by decide +kernel
theorem dX2_holdsPossible_41 : decode cX2_holdsPossible 41 = .ok (.iload_n 2, 1) := by decide +kernel
theorem dX2_holdsPossible_42 : decode cX2_holdsPossible 42 = .ok (.aload_n 0, 1) := by decide +kernel
theorem dX2_holdsPossible_43 : decode cX2_holdsPossible 43 = .ok (.invokevirtual 61, 3) := by decide +kernel
theorem dX2_holdsPossible_46 : decode cX2_holdsPossible 46 = .ok (.invokevirtual 64, 3) := by decide +kernel
theorem dX2_holdsPossible_49 : decode cX2_holdsPossible 49 = .ok (.iload_n 3, 1) := by decide +kernel
theorem dX2_holdsPossible_50 : decode cX2_holdsPossible 50 = .ok (.ishr, 1) := by decide +kernel
theorem dX2_holdsPossible_51 : decode cX2_holdsPossible 51 = .ok (.iconst 1, 1) := by decide +kernel
theorem dX2_holdsPossible_52 : decode cX2_holdsPossible 52 = .ok (.iand, 1) := by decide +kernel
theorem dX2_holdsPossible_53 : decode cX2_holdsPossible 53 = .ok (.iconst 1, 1) := by decide +kernel
theorem dX2_holdsPossible_54 : decode cX2_holdsPossible 54 = .ok (.if_icmp .ne 7, 3) := by decide +kernel
theorem dX2_holdsPossible_57 : decode cX2_holdsPossible 57 = .ok (.iconst 1, 1) := by decide +kernel
theorem dX2_holdsPossible_58 : decode cX2_holdsPossible 58 = .ok (.goto 4, 3) := by decide +kernel
theorem dX2_holdsPossible_61 : decode cX2_holdsPossible 61 = .ok (.iconst 0, 1) := by decide +kernel
theorem dX2_holdsPossible_62 : decode cX2_holdsPossible 62 = .ok (.ireturn, 1) := by decide +kernel
theorem dX2_isCertain_0 : decode cX2_isCertain 0 = .ok (.aload_n 0, 1) := by decide +kernel
theorem dX2_isCertain_1 : decode cX2_isCertain 1 = .ok (.aload_n 0, 1) := by decide +kernel
theorem dX2_isCertain_2 : decode cX2_isCertain 2 = .ok (.iload_n 1, 1) := by decide +kernel
theorem dX2_isCertain_3 : decode cX2_isCertain 3 = .ok (.invokevirtual 99, 3) := by decide +kernel
theorem dX2_isCertain_6 : decode cX2_isCertain 6 = .ok (.ifCond .eq 7, 3) := by decide +kernel
theorem dX2_isCertain_9 : decode cX2_isCertain 9 = .ok (.iconst 0, 1) := by decide +kernel
theorem dX2_isCertain_10 : decode cX2_isCertain 10 = .ok (.goto 4, 3) := by decide +kernel
theorem dX2_isCertain_13 : decode cX2_isCertain 13 = .ok (.iconst 1, 1) := by decide +kernel
theorem dX2_isCertain_14 : decode cX2_isCertain 14 = .ok (.putfield 29, 3) := by decide +kernel
theorem dX2_isCertain_17 : decode cX2_isCertain 17 = .ok (.aload_n 0, 1) := by decide +kernel
theorem dX2_isCertain_18 : decode cX2_isCertain 18 = .ok (.getfield 29, 3) := by decide +kernel
theorem dX2_isCertain_21 : decode cX2_isCertain 21 = .ok (.ifCond .ne 15, 3) := by decide +kernel
theorem dX2_isCertain_24 : decode cX2_isCertain 24 = .ok (.aload_n 0, 1) := by decide +kernel
theorem dX2_isCertain_25 : decode cX2_isCertain 25 = .ok (.iload_n 1, 1) := by decide +kernel
theorem dX2_isCertain_26 : decode cX2_isCertain 26 = .ok (.invokevirtual 143, 3) := by decide +kernel
theorem dX2_isCertain_29 : decode cX2_isCertain 29 = .ok (.ifCond .eq 7, 3) := by decide +kernel
theorem dX2_isCertain_32 : decode cX2_isCertain 32 = .ok (.iconst 1, 1) := by decide +kernel
theorem dX2_isCertain_33 : decode cX2_isCertain 33 = .ok (.goto 4, 3) := by decide +kernel
theorem dX2_isCertain_36 : decode cX2_isCertain 36 = .ok (.iconst 0, 1) := by decide +kernel
theorem dX2_isCertain_37 : decode cX2_isCertain 37 = .ok (.ireturn, 1) := by decide +kernel
theorem dX2_knows_0 : decode cX2_knows 0 = .ok (.aload_n 0, 1) := by decide +kernel
theorem dX2_knows_1 : decode cX2_knows 1 = .ok (.iload_n 1, 1) := by decide +kernel
theorem dX2_knows_2 : decode cX2_knows 2 = .ok (.iload_n 2, 1) := by decide +kernel
theorem dX2_knows_3 : decode cX2_knows 3 = .ok (.aload_n 0, 1) := by decide +kernel
theorem dX2_knows_4 : decode cX2_knows 4 = .ok (.invokevirtual 61, 3) := by decide +kernel
theorem dX2_knows_7 : decode cX2_knows 7 = .ok (.invokevirtual 64, 3) := by decide +kernel
theorem dX2_knows_10 : decode cX2_knows 10 = .ok (.invokestatic 57, 3) := by decide +kernel
theorem dX2_knows_13 : decode cX2_knows 13 = .ok (.ireturn, 1) := by decide +kernel
theorem dX2_knowsHatOf_0 : decode cX2_knowsHatOf 0 = .ok (.aload_n 0, 1) := by decide +kernel
theorem dX2_knowsHatOf_1 : decode cX2_knowsHatOf 1 = .ok (.aload_n 0, 1) := by decide +kernel
theorem dX2_knowsHatOf_2 : decode cX2_knowsHatOf 2 = .ok (.iload_n 1, 1) := by decide +kernel
theorem dX2_knowsHatOf_3 : decode cX2_knowsHatOf 3 = .ok (.invokevirtual 99, 3) := by decide +kernel
theorem dX2_knowsHatOf_6 : decode cX2_knowsHatOf 6 = .ok (.ifCond .eq 15, 3) := by decide +kernel
theorem dX2_knowsHatOf_9 : decode cX2_knowsHatOf 9 = .ok (.aload_n 0, 1) := by decide +kernel
theorem dX2_knowsHatOf_10 : decode cX2_knowsHatOf 10 = .ok (.iload_n 2, 1) := by decide +kernel
theorem dX2_knowsHatOf_11 : decode cX2_knowsHatOf 11 = .ok (.invokevirtual 99, 3) := by decide +kernel
theorem dX2_knowsHatOf_14 : decode cX2_knowsHatOf 14 = .ok (.ifCond .eq 7, 3) := by decide +kernel
theorem dX2_knowsHatOf_17 : decode cX2_knowsHatOf 17 = .ok (.iconst 0, 1) := by decide +kernel
theorem dX2_knowsHatOf_18 : decode cX2_knowsHatOf 18 = .ok (.goto 4, 3) := by decide +kernel
theorem dX2_knowsHatOf_21 : decode cX2_knowsHatOf 21 = .ok (.iconst 1, 1) := by decide +kernel
theorem dX2_knowsHatOf_22 : decode cX2_knowsHatOf 22 = .ok (.putfield 29, 3) := by decide +kernel
theorem dX2_knowsHatOf_25 : decode cX2_knowsHatOf 25 = .ok (.aload_n 0, 1) := by decide +kernel
theorem dX2_knowsHatOf_26 : decode cX2_knowsHatOf 26 = .ok (.getfield 29, 3) := by decide +kernel
theorem dX2_knowsHatOf_29 : decode cX2_knowsHatOf 29 = .ok (.ifCond .ne 16, 3) := by decide +kernel
theorem dX2_knowsHatOf_32 : decode cX2_knowsHatOf 32 = .ok (.aload_n 0, 1) := by decide +kernel
theorem dX2_knowsHatOf_33 : decode cX2_knowsHatOf 33 = .ok (.iload_n 1, 1) := by decide +kernel
theorem dX2_knowsHatOf_34 : decode cX2_knowsHatOf 34 = .ok (.iload_n 2, 1) := by decide +kernel
theorem dX2_knowsHatOf_35 : decode cX2_knowsHatOf 35 = .ok (.invokevirtual 146, 3) := by decide +kernel
theorem dX2_knowsHatOf_38 : decode cX2_knowsHatOf 38 = .ok (.ifCond .eq 7, 3) := by decide +kernel
theorem dX2_knowsHatOf_41 : decode cX2_knowsHatOf 41 = .ok (.iconst 1, 1) := by decide +kernel
theorem dX2_knowsHatOf_42 : decode cX2_knowsHatOf 42 = .ok (.goto 4, 3) := by decide +kernel
theorem dX2_knowsHatOf_45 : decode cX2_knowsHatOf 45 = .ok (.iconst 0, 1) := by decide +kernel
theorem dX2_knowsHatOf_46 : decode cX2_knowsHatOf 46 = .ok (.ireturn, 1) := by decide +kernel
theorem dX2_sure_0 : decode cX2_sure 0 = .ok (.aload_n 0, 1) := by decide +kernel
theorem dX2_sure_1 : decode cX2_sure 1 = .ok (.iload_n 1, 1) := by decide +kernel
theorem dX2_sure_2 : decode cX2_sure 2 = .ok (.aload_n 0, 1) := by decide +kernel
theorem dX2_sure_3 : decode cX2_sure 3 = .ok (.invokevirtual 61, 3) := by decide +kernel
theorem dX2_sure_6 : decode cX2_sure 6 = .ok (.invokevirtual 50, 3) := by decide +kernel
theorem dX2_sure_9 : decode cX2_sure 9 = .ok (.istore_n 3, 1) := by decide +kernel
theorem dX2_sure_10 : decode cX2_sure 10 = .ok (.aload_n 0, 1) := by decide +kernel
theorem dX2_sure_11 : decode cX2_sure 11 = .ok (.iload_n 2, 1) := by decide +kernel
theorem dX2_sure_12 : decode cX2_sure 12 = .ok (.invokevirtual 68, 3) := by decide +kernel
theorem dX2_sure_15 : decode cX2_sure 15 = .ok (.iconst 0, 1) := by decide +kernel
theorem dX2_sure_16 : decode cX2_sure 16 = .ok (.istore 4, 2) := by decide +kernel
theorem dX2_sure_18 : decode cX2_sure 18 = .ok (.iload 4, 2) := by decide +kernel
theorem dX2_sure_20 : decode cX2_sure 20 = .ok (.aload_n 0, 1) := by decide +kernel
theorem dX2_sure_21 : decode cX2_sure 21 = .ok (.invokevirtual 53, 3) := by decide +kernel
theorem dX2_sure_24 : decode cX2_sure 24 = .ok (.if_icmp .ge 42, 3) := by decide +kernel
theorem dX2_sure_27 : decode cX2_sure 27 = .ok (.aload_n 0, 1) := by decide +kernel
theorem dX2_sure_28 : decode cX2_sure 28 = .ok (.getfield 16, 3) := by decide +kernel
theorem dX2_sure_31 : decode cX2_sure 31 = .ok (.iload 4, 2) := by decide +kernel
theorem dX2_sure_33 : decode cX2_sure 33 = .ok (.baload, 1) := by decide +kernel
theorem dX2_sure_34 : decode cX2_sure 34 = .ok (.ifCond .eq 26, 3) := by decide +kernel
theorem dX2_sure_37 : decode cX2_sure 37 = .ok (.aload_n 0, 1) := by decide +kernel
theorem dX2_sure_38 : decode cX2_sure 38 = .ok (.iload_n 1, 1) := by decide +kernel
theorem dX2_sure_39 : decode cX2_sure 39 = .ok (.iload 4, 2) := by decide +kernel
theorem dX2_sure_41 : decode cX2_sure 41 = .ok (.invokevirtual 50, 3) := by decide +kernel
theorem dX2_sure_44 : decode cX2_sure 44 = .ok (.iload_n 3, 1) := by decide +kernel
theorem dX2_sure_45 : decode cX2_sure 45 = .ok (.if_icmp .ne 15, 3) := by decide +kernel
theorem dX2_sure_48 : decode cX2_sure 48 = .ok (.aload_n 0, 1) := by decide +kernel
theorem dX2_sure_49 : decode cX2_sure 49 = .ok (.iload_n 2, 1) := by decide +kernel
theorem dX2_sure_50 : decode cX2_sure 50 = .ok (.iload 4, 2) := by decide +kernel
theorem dX2_sure_52 : decode cX2_sure 52 = .ok (.invokevirtual 72, 3) := by decide +kernel
theorem dX2_sure_55 : decode cX2_sure 55 = .ok (.ifCond .ne 5, 3) := by decide +kernel
theorem dX2_sure_58 : decode cX2_sure 58 = .ok (.iconst 0, 1) := by decide +kernel
theorem dX2_sure_59 : decode cX2_sure 59 = .ok (.ireturn, 1) := by decide +kernel
theorem dX2_sure_60 : decode cX2_sure 60 = .ok (.iinc 4 1, 3) := by decide +kernel
theorem dX2_sure_63 : decode cX2_sure 63 = .ok (.goto (-45), 3) := by decide +kernel
theorem dX2_sure_66 : decode cX2_sure 66 = .ok (.iconst 1, 1) := by decide +kernel
theorem dX2_sure_67 : decode cX2_sure 67 = .ok (.ireturn, 1) := by decide +kernel
theorem dX2_knowsCertain_0 : decode cX2_knowsCertain 0 = .ok (.aload_n 0, 1) := by decide +kernel
theorem dX2_knowsCertain_1 : decode cX2_knowsCertain 1 = .ok (.aload_n 0, 1) := by decide +kernel
theorem dX2_knowsCertain_2 : decode cX2_knowsCertain 2 = .ok (.iload_n 1, 1) := by decide +kernel
theorem dX2_knowsCertain_3 : decode cX2_knowsCertain 3 = .ok (.invokevirtual 99, 3) := by decide +kernel
theorem dX2_knowsCertain_6 : decode cX2_knowsCertain 6 = .ok (.ifCond .eq 15, 3) := by decide +kernel
theorem dX2_knowsCertain_9 : decode cX2_knowsCertain 9 = .ok (.aload_n 0, 1) := by decide +kernel
theorem dX2_knowsCertain_10 : decode cX2_knowsCertain 10 = .ok (.iload_n 2, 1) := by decide +kernel
theorem dX2_knowsCertain_11 : decode cX2_knowsCertain 11 = .ok (.invokevirtual 99, 3) := by decide +kernel
theorem dX2_knowsCertain_14 : decode cX2_knowsCertain 14 = .ok (.ifCond .eq 7, 3) := by decide +kernel
theorem dX2_knowsCertain_17 : decode cX2_knowsCertain 17 = .ok (.iconst 0, 1) := by decide +kernel
theorem dX2_knowsCertain_18 : decode cX2_knowsCertain 18 = .ok (.goto 4, 3) := by decide +kernel
theorem dX2_knowsCertain_21 : decode cX2_knowsCertain 21 = .ok (.iconst 1, 1) := by decide +kernel
theorem dX2_knowsCertain_22 : decode cX2_knowsCertain 22 = .ok (.putfield 29, 3) := by decide +kernel
theorem dX2_knowsCertain_25 : decode cX2_knowsCertain 25 = .ok (.aload_n 0, 1) := by decide +kernel
theorem dX2_knowsCertain_26 : decode cX2_knowsCertain 26 = .ok (.getfield 29, 3) := by decide +kernel
theorem dX2_knowsCertain_29 : decode cX2_knowsCertain 29 = .ok (.ifCond .ne 16, 3) := by decide +kernel
theorem dX2_knowsCertain_32 : decode cX2_knowsCertain 32 = .ok (.aload_n 0, 1) := by decide +kernel
theorem dX2_knowsCertain_33 : decode cX2_knowsCertain 33 = .ok (.iload_n 1, 1) := by decide +kernel
theorem dX2_knowsCertain_34 : decode cX2_knowsCertain 34 = .ok (.iload_n 2, 1) := by decide +kernel
theorem dX2_knowsCertain_35 : decode cX2_knowsCertain 35 = .ok (.invokevirtual 149, 3) := by decide +kernel
theorem dX2_knowsCertain_38 : decode cX2_knowsCertain 38 = .ok (.ifCond .eq 7, 3) := by decide +kernel
theorem dX2_knowsCertain_41 : decode cX2_knowsCertain 41 = .ok (.iconst 1, 1) := by decide +kernel
theorem dX2_knowsCertain_42 : decode cX2_knowsCertain 42 = .ok (.goto 4, 3) := by decide +kernel
theorem dX2_knowsCertain_45 : decode cX2_knowsCertain 45 = .ok (.iconst 0, 1) := by decide +kernel
theorem dX2_knowsCertain_46 : decode cX2_knowsCertain 46 = .ok (.ireturn, 1) := by decide +kernel
theorem dX2_many_0 : decode cX2_many 0 = .ok (.iconst 0, 1) := by decide +kernel
theorem dX2_many_1 : decode cX2_many 1 = .ok (.istore_n 1, 1) := by decide +kernel
theorem dX2_many_2 : decode cX2_many 2 = .ok (.iconst 0, 1) := by decide +kernel
theorem dX2_many_3 : decode cX2_many 3 = .ok (.istore_n 2, 1) := by decide +kernel
theorem dX2_many_4 : decode cX2_many 4 = .ok (.iload_n 2, 1) := by decide +kernel
theorem dX2_many_5 : decode cX2_many 5 = .ok (.aload_n 0, 1) := by decide +kernel
theorem dX2_many_6 : decode cX2_many 6 = .ok (.getfield 33, 3) := by decide +kernel
theorem dX2_many_9 : decode cX2_many 9 = .ok (.if_icmp .ge 25, 3) := by decide +kernel
theorem dX2_many_12 : decode cX2_many 12 = .ok (.iload_n 1, 1) := by decide +kernel
theorem dX2_many_13 : decode cX2_many 13 = .ok (.aload_n 0, 1) := by decide +kernel
theorem dX2_many_14 : decode cX2_many 14 = .ok (.iload_n 2, 1) := by decide +kernel
theorem dX2_many_15 : decode cX2_many 15 = .ok (.invokevirtual 143, 3) := by decide +kernel
theorem dX2_many_18 : decode cX2_many 18 = .ok (.ifCond .eq 7, 3) := by decide +kernel
theorem dX2_many_21 : decode cX2_many 21 = .ok (.iconst 1, 1) := by decide +kernel
theorem dX2_many_22 : decode cX2_many 22 = .ok (.goto 4, 3) := by decide +kernel
theorem dX2_many_25 : decode cX2_many 25 = .ok (.iconst 0, 1) := by decide +kernel
theorem dX2_many_26 : decode cX2_many 26 = .ok (.iadd, 1) := by decide +kernel
theorem dX2_many_27 : decode cX2_many 27 = .ok (.istore_n 1, 1) := by decide +kernel
theorem dX2_many_28 : decode cX2_many 28 = .ok (.iinc 2 1, 3) := by decide +kernel
theorem dX2_many_31 : decode cX2_many 31 = .ok (.goto (-27), 3) := by decide +kernel
theorem dX2_many_34 : decode cX2_many 34 = .ok (.iload_n 1, 1) := by decide +kernel
theorem dX2_many_35 : decode cX2_many 35 = .ok (.ireturn, 1) := by decide +kernel
theorem dX2_certainPlayers_0 : decode cX2_certainPlayers 0 = .ok (.aload_n 0, 1) := by decide +kernel
theorem dX2_certainPlayers_1 : decode cX2_certainPlayers 1 = .ok (.aload_n 0, 1) := by decide +kernel
theorem dX2_certainPlayers_2 : decode cX2_certainPlayers 2 = .ok (.invokevirtual 152, 3) := by decide +kernel
theorem dX2_certainPlayers_5 : decode cX2_certainPlayers 5 = .ok (.invokevirtual 131, 3) := by decide +kernel
theorem dX2_certainPlayers_8 : decode cX2_certainPlayers 8 = .ok (.ireturn, 1) := by decide +kernel
theorem dX2_after_0 : decode cX2_after 0 = .ok (.aload_n 0, 1) := by decide +kernel
theorem dX2_after_1 : decode cX2_after 1 = .ok (.getfield 33, 3) := by decide +kernel
theorem dX2_after_4 : decode cX2_after 4 = .ok (.ifCond .ne 5, 3) := by decide +kernel
theorem dX2_after_7 : decode cX2_after 7 = .ok (.iconst 0, 1) := by decide +kernel
theorem dX2_after_8 : decode cX2_after 8 = .ok (.ireturn, 1) := by decide +kernel
theorem dX2_after_9 : decode cX2_after 9 = .ok (.aload_n 0, 1) := by decide +kernel
theorem dX2_after_10 : decode cX2_after 10 = .ok (.invokevirtual 155, 3) := by decide +kernel
theorem dX2_after_13 : decode cX2_after 13 = .ok (.aload_n 0, 1) := by decide +kernel
theorem dX2_after_14 : decode cX2_after 14 = .ok (.aload_n 0, 1) := by decide +kernel
theorem dX2_after_15 : decode cX2_after 15 = .ok (.invokevirtual 108, 3) := by decide +kernel
theorem dX2_after_18 : decode cX2_after 18 = .ok (.aload_n 0, 1) := by decide +kernel
theorem dX2_after_19 : decode cX2_after 19 = .ok (.invokevirtual 61, 3) := by decide +kernel
theorem dX2_after_22 : decode cX2_after 22 = .ok (.invokevirtual 111, 3) := by decide +kernel
theorem dX2_after_25 : decode cX2_after 25 = .ok (.pop, 1) := by decide +kernel
theorem dX2_after_26 : decode cX2_after 26 = .ok (.aload_n 0, 1) := by decide +kernel
theorem dX2_after_27 : decode cX2_after 27 = .ok (.invokevirtual 121, 3) := by decide +kernel
theorem dX2_after_30 : decode cX2_after 30 = .ok (.istore_n 1, 1) := by decide +kernel
theorem dX2_after_31 : decode cX2_after 31 = .ok (.aload_n 0, 1) := by decide +kernel
theorem dX2_after_32 : decode cX2_after 32 = .ok (.invokevirtual 158, 3) := by decide +kernel
theorem dX2_after_35 : decode cX2_after 35 = .ok (.iload_n 1, 1) := by decide +kernel
theorem dX2_after_36 : decode cX2_after 36 = .ok (.ireturn, 1) := by decide +kernel
theorem dX2_openAfterTurn_0 : decode cX2_openAfterTurn 0 = .ok (.aload_n 0, 1) := by decide +kernel
theorem dX2_openAfterTurn_1 : decode cX2_openAfterTurn 1 = .ok (.iconst 0, 1) := by decide +kernel
theorem dX2_openAfterTurn_2 : decode cX2_openAfterTurn 2 = .ok (.putfield 29, 3) := by decide +kernel
theorem dX2_openAfterTurn_5 : decode cX2_openAfterTurn 5 = .ok (.aload_n 0, 1) := by decide +kernel
theorem dX2_openAfterTurn_6 : decode cX2_openAfterTurn 6 = .ok (.getfield 33, 3) := by decide +kernel
theorem dX2_openAfterTurn_9 : decode cX2_openAfterTurn 9 = .ok (.ifCond .ne 11, 3) := by decide +kernel
theorem dX2_openAfterTurn_12 : decode cX2_openAfterTurn 12 = .ok (.aload_n 0, 1) := by decide +kernel
theorem dX2_openAfterTurn_13 : decode cX2_openAfterTurn 13 = .ok (.iconst 1, 1) := by decide +kernel
theorem dX2_openAfterTurn_14 : decode cX2_openAfterTurn 14 = .ok (.invokevirtual 88, 3) := by decide +kernel
theorem dX2_openAfterTurn_17 : decode cX2_openAfterTurn 17 = .ok (.goto 7, 3) := by decide +kernel
theorem dX2_openAfterTurn_20 : decode cX2_openAfterTurn 20 = .ok (.aload_n 0, 1) := by decide +kernel
theorem dX2_openAfterTurn_21 : decode cX2_openAfterTurn 21 = .ok (.invokevirtual 161, 3) := by decide +kernel
theorem dX2_openAfterTurn_24 : decode cX2_openAfterTurn 24 = .ok (.ireturn, 1) := by decide +kernel
theorem dX2_until_0 : decode cX2_until 0 = .ok (.aload_n 0, 1) := by decide +kernel
theorem dX2_until_1 : decode cX2_until 1 = .ok (.invokevirtual 61, 3) := by decide +kernel
theorem dX2_until_4 : decode cX2_until 4 = .ok (.istore_n 2, 1) := by decide +kernel
theorem dX2_until_5 : decode cX2_until 5 = .ok (.aload_n 0, 1) := by decide +kernel
theorem dX2_until_6 : decode cX2_until 6 = .ok (.invokevirtual 155, 3) := by decide +kernel
theorem dX2_until_9 : decode cX2_until 9 = .ok (.iconst 0, 1) := by decide +kernel
theorem dX2_until_10 : decode cX2_until 10 = .ok (.istore_n 3, 1) := by decide +kernel
theorem dX2_until_11 : decode cX2_until 11 = .ok (.iload_n 3, 1) := by decide +kernel
theorem dX2_until_12 : decode cX2_until 12 = .ok (.bipush 40, 2) := by decide +kernel
theorem dX2_until_14 : decode cX2_until 14 = .ok (.if_icmp .gt 53, 3) := by decide +kernel
theorem dX2_until_17 : decode cX2_until 17 = .ok (.iload_n 1, 1) := by decide +kernel
theorem dX2_until_18 : decode cX2_until 18 = .ok (.iconst (-1), 1) := by decide +kernel
theorem dX2_until_19 : decode cX2_until 19 = .ok (.if_icmp .ne 17, 3) := by decide +kernel
theorem dX2_until_22 : decode cX2_until 22 = .ok (.aload_n 0, 1) := by decide +kernel
theorem dX2_until_23 : decode cX2_until 23 = .ok (.invokevirtual 152, 3) := by decide +kernel
theorem dX2_until_26 : decode cX2_until 26 = .ok (.aload_n 0, 1) := by decide +kernel
theorem dX2_until_27 : decode cX2_until 27 = .ok (.getfield 33, 3) := by decide +kernel
theorem dX2_until_30 : decode cX2_until 30 = .ok (.if_icmp .ne 14, 3) := by decide +kernel
theorem dX2_until_33 : decode cX2_until 33 = .ok (.goto 34, 3) := by decide +kernel
theorem dX2_until_36 : decode cX2_until 36 = .ok (.aload_n 0, 1) := by decide +kernel
theorem dX2_until_37 : decode cX2_until 37 = .ok (.iload_n 1, 1) := by decide +kernel
theorem dX2_until_38 : decode cX2_until 38 = .ok (.invokevirtual 143, 3) := by decide +kernel
theorem dX2_until_41 : decode cX2_until 41 = .ok (.ifCond .ne 26, 3) := by decide +kernel
theorem dX2_until_44 : decode cX2_until 44 = .ok (.aload_n 0, 1) := by decide +kernel
theorem dX2_until_45 : decode cX2_until 45 = .ok (.aload_n 0, 1) := by decide +kernel
theorem dX2_until_46 : decode cX2_until 46 = .ok (.getfield 105, 3) := by decide +kernel
theorem dX2_until_49 : decode cX2_until 49 = .ok (.iload_n 3, 1) := by decide +kernel
theorem dX2_until_50 : decode cX2_until 50 = .ok (.iadd, 1) := by decide +kernel
theorem dX2_until_51 : decode cX2_until 51 = .ok (.aload_n 0, 1) := by decide +kernel
theorem dX2_until_52 : decode cX2_until 52 = .ok (.getfield 33, 3) := by decide +kernel
theorem dX2_until_55 : decode cX2_until 55 = .ok (.irem, 1) := by decide +kernel
theorem dX2_until_56 : decode cX2_until 56 = .ok (.iload_n 2, 1) := by decide +kernel
theorem dX2_until_57 : decode cX2_until 57 = .ok (.invokevirtual 111, 3) := by decide +kernel
theorem dX2_until_60 : decode cX2_until 60 = .ok (.pop, 1) := by decide +kernel
theorem dX2_until_61 : decode cX2_until 61 = .ok (.iinc 3 1, 3) := by decide +kernel
theorem dX2_until_64 : decode cX2_until 64 = .ok (.goto (-53), 3) := by decide +kernel
theorem dX2_until_67 : decode cX2_until 67 = .ok (.aload_n 0, 1) := by decide +kernel
theorem dX2_until_68 : decode cX2_until 68 = .ok (.invokevirtual 158, 3) := by decide +kernel
theorem dX2_until_71 : decode cX2_until 71 = .ok (.iload_n 3, 1) := by decide +kernel
theorem dX2_until_72 : decode cX2_until 72 = .ok (.bipush 40, 2) := by decide +kernel
theorem dX2_until_74 : decode cX2_until 74 = .ok (.if_icmp .le 7, 3) := by decide +kernel
theorem dX2_until_77 : decode cX2_until 77 = .ok (.iconst (-1), 1) := by decide +kernel
theorem dX2_until_78 : decode cX2_until 78 = .ok (.goto 4, 3) := by decide +kernel
theorem dX2_until_81 : decode cX2_until 81 = .ok (.iload_n 3, 1) := by decide +kernel
theorem dX2_until_82 : decode cX2_until 82 = .ok (.ireturn, 1) := by decide +kernel
theorem dX2_turnsUntilCertain_0 : decode cX2_turnsUntilCertain 0 = .ok (.aload_n 0, 1) := by decide +kernel
theorem dX2_turnsUntilCertain_1 : decode cX2_turnsUntilCertain 1 = .ok (.iconst 0, 1) := by decide +kernel
theorem dX2_turnsUntilCertain_2 : decode cX2_turnsUntilCertain 2 = .ok (.putfield 29, 3) := by decide +kernel
theorem dX2_turnsUntilCertain_5 : decode cX2_turnsUntilCertain 5 = .ok (.aload_n 0, 1) := by decide +kernel
theorem dX2_turnsUntilCertain_6 : decode cX2_turnsUntilCertain 6 = .ok (.iload_n 1, 1) := by decide +kernel
theorem dX2_turnsUntilCertain_7 : decode cX2_turnsUntilCertain 7 = .ok (.invokevirtual 99, 3) := by decide +kernel
theorem dX2_turnsUntilCertain_10 : decode cX2_turnsUntilCertain 10 = .ok (.ifCond .eq 11, 3) := by decide +kernel
theorem dX2_turnsUntilCertain_13 : decode cX2_turnsUntilCertain 13 = .ok (.aload_n 0, 1) := by decide +kernel
theorem dX2_turnsUntilCertain_14 : decode cX2_turnsUntilCertain 14 = .ok (.iload_n 1, 1) := by decide +kernel
theorem dX2_turnsUntilCertain_15 : decode cX2_turnsUntilCertain 15 = .ok (.invokevirtual 164, 3) := by decide +kernel
theorem dX2_turnsUntilCertain_18 : decode cX2_turnsUntilCertain 18 = .ok (.goto 8, 3) := by decide +kernel
theorem dX2_turnsUntilCertain_21 : decode cX2_turnsUntilCertain 21 = .ok (.aload_n 0, 1) := by decide +kernel
theorem dX2_turnsUntilCertain_22 : decode cX2_turnsUntilCertain 22 = .ok (.iconst 1, 1) := by decide +kernel
theorem dX2_turnsUntilCertain_23 : decode cX2_turnsUntilCertain 23 = .ok (.invokevirtual 88, 3) := by decide +kernel
theorem dX2_turnsUntilCertain_26 : decode cX2_turnsUntilCertain 26 = .ok (.ireturn, 1) := by decide +kernel
theorem dX2_turnsUntilAllCertain_0 : decode cX2_turnsUntilAllCertain 0 = .ok (.aload_n 0, 1) := by decide +kernel
theorem dX2_turnsUntilAllCertain_1 : decode cX2_turnsUntilAllCertain 1 = .ok (.aload_n 0, 1) := by decide +kernel
theorem dX2_turnsUntilAllCertain_2 : decode cX2_turnsUntilAllCertain 2 = .ok (.iconst (-1), 1) := by decide +kernel
theorem dX2_turnsUntilAllCertain_3 : decode cX2_turnsUntilAllCertain 3 = .ok (.invokevirtual 164, 3) := by decide +kernel
theorem dX2_turnsUntilAllCertain_6 : decode cX2_turnsUntilAllCertain 6 = .ok (.invokevirtual 131, 3) := by decide +kernel
theorem dX2_turnsUntilAllCertain_9 : decode cX2_turnsUntilAllCertain 9 = .ok (.ireturn, 1) := by decide +kernel
theorem dX2_best_0 : decode cX2_best 0 = .ok (.iconst (-1), 1) := by decide +kernel
theorem dX2_best_1 : decode cX2_best 1 = .ok (.istore_n 1, 1) := by decide +kernel
theorem dX2_best_2 : decode cX2_best 2 = .ok (.sipush 244, 3) := by decide +kernel
theorem dX2_best_5 : decode cX2_best 5 = .ok (.istore_n 2, 1) := by decide +kernel
theorem dX2_best_6 : decode cX2_best 6 = .ok (.iconst 0, 1) := by decide +kernel
theorem dX2_best_7 : decode cX2_best 7 = .ok (.istore_n 3, 1) := by decide +kernel
theorem dX2_best_8 : decode cX2_best 8 = .ok (.iload_n 3, 1) := by decide +kernel
theorem dX2_best_9 : decode cX2_best 9 = .ok (.iconst 3, 1) := by decide +kernel
theorem dX2_best_10 : decode cX2_best 10 = .ok (.if_icmp .ge 89, 3) := by decide +kernel
theorem dX2_best_13 : decode cX2_best 13 = .ok (.aload_n 0, 1) := by decide +kernel
theorem dX2_best_14 : decode cX2_best 14 = .ok (.aload_n 0, 1) := by decide +kernel
theorem dX2_best_15 : decode cX2_best 15 = .ok (.invokevirtual 61, 3) := by decide +kernel
theorem dX2_best_18 : decode cX2_best 18 = .ok (.iload_n 3, 1) := by decide +kernel
theorem dX2_best_19 : decode cX2_best 19 = .ok (.invokevirtual 124, 3) := by decide +kernel
theorem dX2_best_22 : decode cX2_best 22 = .ok (.ifCond .ne 6, 3) := by decide +kernel
theorem dX2_best_25 : decode cX2_best 25 = .ok (.goto 68, 3) := by decide +kernel
theorem dX2_best_28 : decode cX2_best 28 = .ok (.iconst 0, 1) := by decide +kernel
theorem dX2_best_29 : decode cX2_best 29 = .ok (.istore 4, 2) := by decide +kernel
theorem dX2_best_31 : decode cX2_best 31 = .ok (.iconst 0, 1) := by decide +kernel
theorem dX2_best_32 : decode cX2_best 32 = .ok (.istore 5, 2) := by decide +kernel
theorem dX2_best_34 : decode cX2_best 34 = .ok (.iload 5, 2) := by decide +kernel
theorem dX2_best_36 : decode cX2_best 36 = .ok (.aload_n 0, 1) := by decide +kernel
theorem dX2_best_37 : decode cX2_best 37 = .ok (.invokevirtual 53, 3) := by decide +kernel
theorem dX2_best_40 : decode cX2_best 40 = .ok (.if_icmp .ge 39, 3) := by decide +kernel
theorem dX2_best_43 : decode cX2_best 43 = .ok (.iload 4, 2) := by decide +kernel
theorem dX2_best_45 : decode cX2_best 45 = .ok (.aload_n 0, 1) := by decide +kernel
theorem dX2_best_46 : decode cX2_best 46 = .ok (.getfield 16, 3) := by decide +kernel
theorem dX2_best_49 : decode cX2_best 49 = .ok (.iload 5, 2) := by decide +kernel
theorem dX2_best_51 : decode cX2_best 51 = .ok (.baload, 1) := by decide +kernel
theorem dX2_best_52 : decode cX2_best 52 = .ok (.ifCond .eq 17, 3) := by decide +kernel
theorem dX2_best_55 : decode cX2_best 55 = .ok (.aload_n 0, 1) := by decide +kernel
theorem dX2_best_56 : decode cX2_best 56 = .ok (.iload 5, 2) := by decide +kernel
theorem dX2_best_58 : decode cX2_best 58 = .ok (.iload_n 3, 1) := by decide +kernel
theorem dX2_best_59 : decode cX2_best 59 = .ok (.invokevirtual 124, 3) := by decide +kernel
theorem dX2_best_62 : decode cX2_best 62 = .ok (.ifCond .le 7, 3) := by decide +kernel
theorem dX2_best_65 : decode cX2_best 65 = .ok (.iconst 1, 1) := by decide +kernel
theorem dX2_best_66 : decode cX2_best 66 = .ok (.goto 4, 3) := by decide +kernel
theorem dX2_best_69 : decode cX2_best 69 = .ok (.iconst 0, 1) := by decide +kernel
theorem dX2_best_70 : decode cX2_best 70 = .ok (.iadd, 1) := by decide +kernel
theorem dX2_best_71 : decode cX2_best 71 = .ok (.istore 4, 2) := by decide +kernel
theorem dX2_best_73 : decode cX2_best 73 = .ok (.iinc 5 1, 3) := by decide +kernel
theorem dX2_best_76 : decode cX2_best 76 = .ok (.goto (-42), 3) := by decide +kernel
theorem dX2_best_79 : decode cX2_best 79 = .ok (.iload 4, 2) := by decide +kernel
theorem dX2_best_81 : decode cX2_best 81 = .ok (.iload_n 2, 1) := by decide +kernel
theorem dX2_best_82 : decode cX2_best 82 = .ok (.if_icmp .lt 6, 3) := by decide +kernel
theorem dX2_best_85 : decode cX2_best 85 = .ok (.goto 8, 3) := by decide +kernel
theorem dX2_best_88 : decode cX2_best 88 = .ok (.iload_n 3, 1) := by decide +kernel
theorem dX2_best_89 : decode cX2_best 89 = .ok (.istore_n 1, 1) := by decide +kernel
theorem dX2_best_90 : decode cX2_best 90 = .ok (.iload 4, 2) := by decide +kernel
theorem dX2_best_92 : decode cX2_best 92 = .ok (.istore_n 2, 1) := by decide +kernel
theorem dX2_best_93 : decode cX2_best 93 = .ok (.iinc 3 1, 3) := by decide +kernel
theorem dX2_best_96 : decode cX2_best 96 = .ok (.goto (-88), 3) := by decide +kernel
theorem dX2_best_99 : decode cX2_best 99 = .ok (.iload_n 1, 1) := by decide +kernel
theorem dX2_best_100 : decode cX2_best 100 = .ok (.ireturn, 1) := by decide +kernel
theorem dX2_bestToName_0 : decode cX2_bestToName 0 = .ok (.aload_n 0, 1) := by decide +kernel
theorem dX2_bestToName_1 : decode cX2_bestToName 1 = .ok (.aload_n 0, 1) := by decide +kernel
theorem dX2_bestToName_2 : decode cX2_bestToName 2 = .ok (.invokevirtual 167, 3) := by decide +kernel
theorem dX2_bestToName_5 : decode cX2_bestToName 5 = .ok (.invokevirtual 131, 3) := by decide +kernel
theorem dX2_bestToName_8 : decode cX2_bestToName 8 = .ok (.ireturn, 1) := by decide +kernel
theorem dX2_ifTold_0 : decode cX2_ifTold 0 = .ok (.aload_n 0, 1) := by decide +kernel
theorem dX2_ifTold_1 : decode cX2_ifTold 1 = .ok (.invokevirtual 155, 3) := by decide +kernel
theorem dX2_ifTold_4 : decode cX2_ifTold 4 = .ok (.iconst 0, 1) := by decide +kernel
theorem dX2_ifTold_5 : decode cX2_ifTold 5 = .ok (.istore_n 2, 1) := by decide +kernel
theorem dX2_ifTold_6 : decode cX2_ifTold 6 = .ok (.iload_n 2, 1) := by decide +kernel
theorem dX2_ifTold_7 : decode cX2_ifTold 7 = .ok (.aload_n 0, 1) := by decide +kernel
theorem dX2_ifTold_8 : decode cX2_ifTold 8 = .ok (.invokevirtual 53, 3) := by decide +kernel
theorem dX2_ifTold_11 : decode cX2_ifTold 11 = .ok (.if_icmp .ge 43, 3) := by decide +kernel
theorem dX2_ifTold_14 : decode cX2_ifTold 14 = .ok (.aload_n 0, 1) := by decide +kernel
theorem dX2_ifTold_15 : decode cX2_ifTold 15 = .ok (.getfield 16, 3) := by decide +kernel
theorem dX2_ifTold_18 : decode cX2_ifTold 18 = .ok (.iload_n 2, 1) := by decide +kernel
theorem dX2_ifTold_19 : decode cX2_ifTold 19 = .ok (.aload_n 0, 1) := by decide +kernel
theorem dX2_ifTold_20 : decode cX2_ifTold 20 = .ok (.getfield 16, 3) := by decide +kernel
theorem dX2_ifTold_23 : decode cX2_ifTold 23 = .ok (.iload_n 2, 1) := by decide +kernel
theorem dX2_ifTold_24 : decode cX2_ifTold 24 = .ok (.baload, 1) := by decide +kernel
theorem dX2_ifTold_25 : decode cX2_ifTold 25 = .ok (.ifCond .eq 21, 3) := by decide +kernel
theorem dX2_ifTold_28 : decode cX2_ifTold 28 = .ok (.iload_n 2, 1) := by decide +kernel
theorem dX2_ifTold_29 : decode cX2_ifTold 29 = .ok (.iload_n 1, 1) := by decide +kernel
theorem dX2_ifTold_30 : decode cX2_ifTold 30 = .ok (.invokestatic 46, 3) := by decide +kernel
theorem dX2_ifTold_33 : decode cX2_ifTold 33 = .ok (.aload_n 0, 1) := by decide +kernel
theorem dX2_ifTold_34 : decode cX2_ifTold 34 = .ok (.getfield 9, 3) := by decide +kernel
theorem dX2_ifTold_37 : decode cX2_ifTold 37 = .ok (.iload_n 1, 1) := by decide +kernel
theorem dX2_ifTold_38 : decode cX2_ifTold 38 = .ok (.iaload, 1) := by decide +kernel
theorem dX2_ifTold_39 : decode cX2_ifTold 39 = .ok (.if_icmp .ne 7, 3) := by decide +kernel
theorem dX2_ifTold_42 : decode cX2_ifTold 42 = .ok (.iconst 1, 1) := by decide +kernel
theorem dX2_ifTold_43 : decode cX2_ifTold 43 = .ok (.goto 4, 3) := by decide +kernel
theorem dX2_ifTold_46 : decode cX2_ifTold 46 = .ok (.iconst 0, 1) := by decide +kernel
theorem dX2_ifTold_47 : decode cX2_ifTold 47 = .ok (.bastore, 1) := by decide +kernel
theorem dX2_ifTold_48 : decode cX2_ifTold 48 = .ok (.iinc 2 1, 3) := by decide +kernel
theorem dX2_ifTold_51 : decode cX2_ifTold 51 = .ok (.goto (-45), 3) := by decide +kernel
theorem dX2_ifTold_54 : decode cX2_ifTold 54 = .ok (.aload_n 0, 1) := by decide +kernel
theorem dX2_ifTold_55 : decode cX2_ifTold 55 = .ok (.invokevirtual 152, 3) := by decide +kernel
theorem dX2_ifTold_58 : decode cX2_ifTold 58 = .ok (.istore_n 2, 1) := by decide +kernel
theorem dX2_ifTold_59 : decode cX2_ifTold 59 = .ok (.aload_n 0, 1) := by decide +kernel
theorem dX2_ifTold_60 : decode cX2_ifTold 60 = .ok (.invokevirtual 158, 3) := by decide +kernel
theorem dX2_ifTold_63 : decode cX2_ifTold 63 = .ok (.iload_n 2, 1) := by decide +kernel
theorem dX2_ifTold_64 : decode cX2_ifTold 64 = .ok (.ireturn, 1) := by decide +kernel
theorem dX2_certainIfTold_0 : decode cX2_certainIfTold 0 = .ok (.aload_n 0, 1) := by decide +kernel
theorem dX2_certainIfTold_1 : decode cX2_certainIfTold 1 = .ok (.iconst 0, 1) := by decide +kernel
theorem dX2_certainIfTold_2 : decode cX2_certainIfTold 2 = .ok (.putfield 29, 3) := by decide +kernel
theorem dX2_certainIfTold_5 : decode cX2_certainIfTold 5 = .ok (.aload_n 0, 1) := by decide +kernel
theorem dX2_certainIfTold_6 : decode cX2_certainIfTold 6 = .ok (.iload_n 1, 1) := by decide +kernel
theorem dX2_certainIfTold_7 : decode cX2_certainIfTold 7 = .ok (.invokevirtual 99, 3) := by decide +kernel
theorem dX2_certainIfTold_10 : decode cX2_certainIfTold 10 = .ok (.ifCond .eq 11, 3) := by decide +kernel
theorem dX2_certainIfTold_13 : decode cX2_certainIfTold 13 = .ok (.aload_n 0, 1) := by decide +kernel
theorem dX2_certainIfTold_14 : decode cX2_certainIfTold 14 = .ok (.iload_n 1, 1) := by decide +kernel
theorem dX2_certainIfTold_15 : decode cX2_certainIfTold 15 = .ok (.invokevirtual 170, 3) := by decide +kernel
theorem dX2_certainIfTold_18 : decode cX2_certainIfTold 18 = .ok (.goto 8, 3) := by decide +kernel
theorem dX2_certainIfTold_21 : decode cX2_certainIfTold 21 = .ok (.aload_n 0, 1) := by decide +kernel
theorem dX2_certainIfTold_22 : decode cX2_certainIfTold 22 = .ok (.iconst 1, 1) := by decide +kernel
theorem dX2_certainIfTold_23 : decode cX2_certainIfTold 23 = .ok (.invokevirtual 88, 3) := by decide +kernel
theorem dX2_certainIfTold_26 : decode cX2_certainIfTold 26 = .ok (.ireturn, 1) := by decide +kernel
theorem dX2_meanPossible_0 : decode cX2_meanPossible 0 = .ok (.aload_n 0, 1) := by decide +kernel
theorem dX2_meanPossible_1 : decode cX2_meanPossible 1 = .ok (.iconst 0, 1) := by decide +kernel
theorem dX2_meanPossible_2 : decode cX2_meanPossible 2 = .ok (.putfield 29, 3) := by decide +kernel
theorem dX2_meanPossible_5 : decode cX2_meanPossible 5 = .ok (.iconst 0, 1) := by decide +kernel
theorem dX2_meanPossible_6 : decode cX2_meanPossible 6 = .ok (.istore_n 1, 1) := by decide +kernel
theorem dX2_meanPossible_7 : decode cX2_meanPossible 7 = .ok (.iconst 0, 1) := by decide +kernel
theorem dX2_meanPossible_8 : decode cX2_meanPossible 8 = .ok (.istore_n 2, 1) := by decide +kernel
theorem dX2_meanPossible_9 : decode cX2_meanPossible 9 = .ok (.iload_n 2, 1) := by decide +kernel
theorem dX2_meanPossible_10 : decode cX2_meanPossible 10 = .ok (.aload_n 0, 1) := by decide +kernel
theorem dX2_meanPossible_11 : decode cX2_meanPossible 11 = .ok (.getfield 33, 3) := by decide +kernel
theorem dX2_meanPossible_14 : decode cX2_meanPossible 14 = .ok (.if_icmp .ge 17, 3) := by decide +kernel
theorem dX2_meanPossible_17 : decode cX2_meanPossible 17 = .ok (.iload_n 1, 1) := by decide +kernel
theorem dX2_meanPossible_18 : decode cX2_meanPossible 18 = .ok (.aload_n 0, 1) := by decide +kernel
theorem dX2_meanPossible_19 : decode cX2_meanPossible 19 = .ok (.iload_n 2, 1) := by decide +kernel
theorem dX2_meanPossible_20 : decode cX2_meanPossible 20 = .ok (.invokevirtual 140, 3) := by decide +kernel
theorem dX2_meanPossible_23 : decode cX2_meanPossible 23 = .ok (.iadd, 1) := by decide +kernel
theorem dX2_meanPossible_24 : decode cX2_meanPossible 24 = .ok (.istore_n 1, 1) := by decide +kernel
theorem dX2_meanPossible_25 : decode cX2_meanPossible 25 = .ok (.iinc 2 1, 3) := by decide +kernel
theorem dX2_meanPossible_28 : decode cX2_meanPossible 28 = .ok (.goto (-19), 3) := by decide +kernel
theorem dX2_meanPossible_31 : decode cX2_meanPossible 31 = .ok (.aload_n 0, 1) := by decide +kernel
theorem dX2_meanPossible_32 : decode cX2_meanPossible 32 = .ok (.getfield 33, 3) := by decide +kernel
theorem dX2_meanPossible_35 : decode cX2_meanPossible 35 = .ok (.ifCond .ne 7, 3) := by decide +kernel
theorem dX2_meanPossible_38 : decode cX2_meanPossible 38 = .ok (.dconst 0, 1) := by decide +kernel
theorem dX2_meanPossible_39 : decode cX2_meanPossible 39 = .ok (.goto 11, 3) := by decide +kernel
theorem dX2_meanPossible_42 : decode cX2_meanPossible 42 = .ok (.iload_n 1, 1) := by decide +kernel
theorem dX2_meanPossible_43 : decode cX2_meanPossible 43 = .ok (.i2d, 1) := by decide +kernel
theorem dX2_meanPossible_44 : decode cX2_meanPossible 44 = .ok (.aload_n 0, 1) := by decide +kernel
theorem dX2_meanPossible_45 : decode cX2_meanPossible 45 = .ok (.getfield 33, 3) := by decide +kernel
theorem dX2_meanPossible_48 : decode cX2_meanPossible 48 = .ok (.i2d, 1) := by decide +kernel
theorem dX2_meanPossible_49 : decode cX2_meanPossible 49 = .ok (.ddiv, 1) := by decide +kernel
theorem dX2_meanPossible_50 : decode cX2_meanPossible 50 = .ok (.dreturn, 1) := by decide +kernel
theorem dX2_digest_0 : decode cX2_digest 0 = .ok (.aload_n 0, 1) := by decide +kernel
theorem dX2_digest_1 : decode cX2_digest 1 = .ok (.iconst 0, 1) := by decide +kernel
theorem dX2_digest_2 : decode cX2_digest 2 = .ok (.putfield 29, 3) := by decide +kernel
theorem dX2_digest_5 : decode cX2_digest 5 = .ok (.bipush 8, 2) := by decide +kernel
theorem dX2_digest_7 : decode cX2_digest 7 = .ok (.newarray .int, 2) := by decide +kernel
theorem dX2_digest_9 : decode cX2_digest 9 = .ok (.dup, 1) := by decide +kernel
theorem dX2_digest_10 : decode cX2_digest 10 = .ok (.iconst 0, 1) := by decide +kernel
theorem dX2_digest_11 : decode cX2_digest 11 = .ok (.aload_n 0, 1) := by decide +kernel
theorem dX2_digest_12 : decode cX2_digest 12 = .ok (.getfield 33, 3) := by decide +kernel
theorem dX2_digest_15 : decode cX2_digest 15 = .ok (.iastore, 1) := by decide +kernel
theorem dX2_digest_16 : decode cX2_digest 16 = .ok (.dup, 1) := by decide +kernel
theorem dX2_digest_17 : decode cX2_digest 17 = .ok (.iconst 1, 1) := by decide +kernel
theorem dX2_digest_18 : decode cX2_digest 18 = .ok (.aload_n 0, 1) := by decide +kernel
theorem dX2_digest_19 : decode cX2_digest 19 = .ok (.getfield 105, 3) := by decide +kernel
theorem dX2_digest_22 : decode cX2_digest 22 = .ok (.iastore, 1) := by decide +kernel
theorem dX2_digest_23 : decode cX2_digest 23 = .ok (.dup, 1) := by decide +kernel
theorem dX2_digest_24 : decode cX2_digest 24 = .ok (.iconst 2, 1) := by decide +kernel
theorem dX2_digest_25 : decode cX2_digest 25 = .ok (.aload_n 0, 1) := by decide +kernel
theorem dX2_digest_26 : decode cX2_digest 26 = .ok (.getfield 114, 3) := by decide +kernel
theorem dX2_digest_29 : decode cX2_digest 29 = .ok (.iastore, 1) := by decide +kernel
theorem dX2_digest_30 : decode cX2_digest 30 = .ok (.dup, 1) := by decide +kernel
theorem dX2_digest_31 : decode cX2_digest 31 = .ok (.iconst 3, 1) := by decide +kernel
theorem dX2_digest_32 : decode cX2_digest 32 = .ok (.aload_n 0, 1) := by decide +kernel
theorem dX2_digest_33 : decode cX2_digest 33 = .ok (.invokevirtual 108, 3) := by decide +kernel
theorem dX2_digest_36 : decode cX2_digest 36 = .ok (.iastore, 1) := by decide +kernel
theorem dX2_digest_37 : decode cX2_digest 37 = .ok (.dup, 1) := by decide +kernel
theorem dX2_digest_38 : decode cX2_digest 38 = .ok (.iconst 4, 1) := by decide +kernel
theorem dX2_digest_39 : decode cX2_digest 39 = .ok (.aload_n 0, 1) := by decide +kernel
theorem dX2_digest_40 : decode cX2_digest 40 = .ok (.invokevirtual 121, 3) := by decide +kernel
theorem dX2_digest_43 : decode cX2_digest 43 = .ok (.iastore, 1) := by decide +kernel
theorem dX2_digest_44 : decode cX2_digest 44 = .ok (.dup, 1) := by decide +kernel
theorem dX2_digest_45 : decode cX2_digest 45 = .ok (.iconst 5, 1) := by decide +kernel
theorem dX2_digest_46 : decode cX2_digest 46 = .ok (.aload_n 0, 1) := by decide +kernel
theorem dX2_digest_47 : decode cX2_digest 47 = .ok (.invokevirtual 152, 3) := by decide +kernel
theorem dX2_digest_50 : decode cX2_digest 50 = .ok (.iastore, 1) := by decide +kernel
theorem dX2_digest_51 : decode cX2_digest 51 = .ok (.dup, 1) := by decide +kernel
theorem dX2_digest_52 : decode cX2_digest 52 = .ok (.bipush 6, 2) := by decide +kernel
theorem dX2_digest_54 : decode cX2_digest 54 = .ok (.aload_n 0, 1) := by decide +kernel
theorem dX2_digest_55 : decode cX2_digest 55 = .ok (.invokevirtual 167, 3) := by decide +kernel
theorem dX2_digest_58 : decode cX2_digest 58 = .ok (.iastore, 1) := by decide +kernel
theorem dX2_digest_59 : decode cX2_digest 59 = .ok (.dup, 1) := by decide +kernel
theorem dX2_digest_60 : decode cX2_digest 60 = .ok (.bipush 7, 2) := by decide +kernel
theorem dX2_digest_62 : decode cX2_digest 62 = .ok (.aload_n 0, 1) := by decide +kernel
theorem dX2_digest_63 : decode cX2_digest 63 = .ok (.invokevirtual 161, 3) := by decide +kernel
theorem dX2_digest_66 : decode cX2_digest 66 = .ok (.iastore, 1) := by decide +kernel
theorem dX2_digest_67 : decode cX2_digest 67 = .ok (.astore_n 1, 1) := by decide +kernel
theorem dX2_digest_68 : decode cX2_digest 68 = .ok (.ldc2_w 173, 3) := by decide +kernel
theorem dX2_digest_71 : decode cX2_digest 71 = .ok (.lstore_n 2, 1) := by decide +kernel
theorem dX2_digest_72 : decode cX2_digest 72 = .ok (.aload_n 1, 1) := by decide +kernel
theorem dX2_digest_73 : decode cX2_digest 73 = .ok (.astore 4, 2) := by decide +kernel
theorem dX2_digest_75 : decode cX2_digest 75 = .ok (.aload 4, 2) := by decide +kernel
theorem dX2_digest_77 : decode cX2_digest 77 = .ok (.arraylength, 1) := by decide +kernel
theorem dX2_digest_78 : decode cX2_digest 78 = .ok (.istore 5, 2) := by decide +kernel
theorem dX2_digest_80 : decode cX2_digest 80 = .ok (.iconst 0, 1) := by decide +kernel
theorem dX2_digest_81 : decode cX2_digest 81 = .ok (.istore 6, 2) := by decide +kernel
theorem dX2_digest_83 : decode cX2_digest 83 = .ok (.iload 6, 2) := by decide +kernel
theorem dX2_digest_85 : decode cX2_digest 85 = .ok (.iload 5, 2) := by decide +kernel
theorem dX2_digest_87 : decode cX2_digest 87 = .ok (.if_icmp .ge 26, 3) := by decide +kernel
theorem dX2_digest_90 : decode cX2_digest 90 = .ok (.aload 4, 2) := by decide +kernel
theorem dX2_digest_92 : decode cX2_digest 92 = .ok (.iload 6, 2) := by decide +kernel
theorem dX2_digest_94 : decode cX2_digest 94 = .ok (.iaload, 1) := by decide +kernel
theorem dX2_digest_95 : decode cX2_digest 95 = .ok (.istore 7, 2) := by decide +kernel
theorem dX2_digest_97 : decode cX2_digest 97 = .ok (.lload_n 2, 1) := by decide +kernel
theorem dX2_digest_98 : decode cX2_digest 98 = .ok (.ldc2_w 175, 3) := by decide +kernel
theorem dX2_digest_101 : decode cX2_digest 101 = .ok (.lmul, 1) := by decide +kernel
theorem dX2_digest_102 : decode cX2_digest 102 = .ok (.iload 7, 2) := by decide +kernel
theorem dX2_digest_104 : decode cX2_digest 104 = .ok (.i2l, 1) := by decide +kernel
theorem dX2_digest_105 : decode cX2_digest 105 = .ok (.ladd, 1) := by decide +kernel
theorem dX2_digest_106 : decode cX2_digest 106 = .ok (.lstore_n 2, 1) := by decide +kernel
theorem dX2_digest_107 : decode cX2_digest 107 = .ok (.iinc 6 1, 3) := by decide +kernel
theorem dX2_digest_110 : decode cX2_digest 110 = .ok (.goto (-27), 3) := by decide +kernel
theorem dX2_digest_113 : decode cX2_digest 113 = .ok (.iconst 0, 1) := by decide +kernel
theorem dX2_digest_114 : decode cX2_digest 114 = .ok (.istore 4, 2) := by decide +kernel
theorem dX2_digest_116 : decode cX2_digest 116 = .ok (.iload 4, 2) := by decide +kernel
theorem dX2_digest_118 : decode cX2_digest 118 = .ok (.aload_n 0, 1) := by decide +kernel
theorem dX2_digest_119 : decode cX2_digest 119 = .ok (.getfield 33, 3) := by decide +kernel
theorem dX2_digest_122 : decode cX2_digest 122 = .ok (.if_icmp .ge 210, 3) := by decide +kernel
theorem dX2_digest_125 : decode cX2_digest 125 = .ok (.iconst 5, 1) := by decide +kernel
theorem dX2_digest_126 : decode cX2_digest 126 = .ok (.newarray .int, 2) := by decide +kernel
theorem dX2_digest_128 : decode cX2_digest 128 = .ok (.dup, 1) := by decide +kernel
theorem dX2_digest_129 : decode cX2_digest 129 = .ok (.iconst 0, 1) := by decide +kernel
theorem dX2_digest_130 : decode cX2_digest 130 = .ok (.aload_n 0, 1) := by decide +kernel
theorem dX2_digest_131 : decode cX2_digest 131 = .ok (.getfield 9, 3) := by decide +kernel
theorem dX2_digest_134 : decode cX2_digest 134 = .ok (.iload 4, 2) := by decide +kernel
theorem dX2_digest_136 : decode cX2_digest 136 = .ok (.iaload, 1) := by decide +kernel
theorem dX2_digest_137 : decode cX2_digest 137 = .ok (.iastore, 1) := by decide +kernel
theorem dX2_digest_138 : decode cX2_digest 138 = .ok (.dup, 1) := by decide +kernel
theorem dX2_digest_139 : decode cX2_digest 139 = .ok (.iconst 1, 1) := by decide +kernel
theorem dX2_digest_140 : decode cX2_digest 140 = .ok (.aload_n 0, 1) := by decide +kernel
theorem dX2_digest_141 : decode cX2_digest 141 = .ok (.iload 4, 2) := by decide +kernel
theorem dX2_digest_143 : decode cX2_digest 143 = .ok (.invokevirtual 140, 3) := by decide +kernel
theorem dX2_digest_146 : decode cX2_digest 146 = .ok (.iastore, 1) := by decide +kernel
theorem dX2_digest_147 : decode cX2_digest 147 = .ok (.dup, 1) := by decide +kernel
theorem dX2_digest_148 : decode cX2_digest 148 = .ok (.iconst 2, 1) := by decide +kernel
theorem dX2_digest_149 : decode cX2_digest 149 = .ok (.aload_n 0, 1) := by decide +kernel
theorem dX2_digest_150 : decode cX2_digest 150 = .ok (.iload 4, 2) := by decide +kernel
theorem dX2_digest_152 : decode cX2_digest 152 = .ok (.invokevirtual 143, 3) := by decide +kernel
theorem dX2_digest_155 : decode cX2_digest 155 = .ok (.ifCond .eq 7, 3) := by decide +kernel
theorem dX2_digest_158 : decode cX2_digest 158 = .ok (.iconst 1, 1) := by decide +kernel
theorem dX2_digest_159 : decode cX2_digest 159 = .ok (.goto 4, 3) := by decide +kernel
theorem dX2_digest_162 : decode cX2_digest 162 = .ok (.iconst 0, 1) := by decide +kernel
theorem dX2_digest_163 : decode cX2_digest 163 = .ok (.iastore, 1) := by decide +kernel
theorem dX2_digest_164 : decode cX2_digest 164 = .ok (.dup, 1) := by decide +kernel
theorem dX2_digest_165 : decode cX2_digest 165 = .ok (.iconst 3, 1) := by decide +kernel
theorem dX2_digest_166 : decode cX2_digest 166 = .ok (.aload_n 0, 1) := by decide +kernel
theorem dX2_digest_167 : decode cX2_digest 167 = .ok (.iload 4, 2) := by decide +kernel
theorem dX2_digest_169 : decode cX2_digest 169 = .ok (.invokevirtual 137, 3) := by decide +kernel
theorem dX2_digest_172 : decode cX2_digest 172 = .ok (.ifCond .eq 7, 3) := by decide +kernel
theorem dX2_digest_175 : decode cX2_digest 175 = .ok (.iconst 1, 1) := by decide +kernel
theorem dX2_digest_176 : decode cX2_digest 176 = .ok (.goto 4, 3) := by decide +kernel
theorem dX2_digest_179 : decode cX2_digest 179 = .ok (.iconst 0, 1) := by decide +kernel
theorem dX2_digest_180 : decode cX2_digest 180 = .ok (.iastore, 1) := by decide +kernel
theorem dX2_digest_181 : decode cX2_digest 181 = .ok (.dup, 1) := by decide +kernel
theorem dX2_digest_182 : decode cX2_digest 182 = .ok (.iconst 4, 1) := by decide +kernel
theorem dX2_digest_183 : decode cX2_digest 183 = .ok (.aload_n 0, 1) := by decide +kernel
theorem dX2_digest_184 : decode cX2_digest 184 = .ok (.iload 4, 2) := by decide +kernel
theorem dX2_digest_186 : decode cX2_digest 186 = .ok (.invokevirtual 170, 3) := by decide +kernel
theorem dX2_digest_189 : decode cX2_digest 189 = .ok (.iastore, 1) := by decide +kernel
theorem dX2_digest_190 : decode cX2_digest 190 = .ok (.astore 5, 2) := by decide +kernel
theorem dX2_digest_192 : decode cX2_digest 192 = .ok (.aload 5, 2) := by decide +kernel
theorem dX2_digest_194 : decode cX2_digest 194 = .ok (.astore 6, 2) := by decide +kernel
theorem dX2_digest_196 : decode cX2_digest 196 = .ok (.aload 6, 2) := by decide +kernel
theorem dX2_digest_198 : decode cX2_digest 198 = .ok (.arraylength, 1) := by decide +kernel
theorem dX2_digest_199 : decode cX2_digest 199 = .ok (.istore 7, 2) := by decide +kernel
theorem dX2_digest_201 : decode cX2_digest 201 = .ok (.iconst 0, 1) := by decide +kernel
theorem dX2_digest_202 : decode cX2_digest 202 = .ok (.istore 8, 2) := by decide +kernel
theorem dX2_digest_204 : decode cX2_digest 204 = .ok (.iload 8, 2) := by decide +kernel
theorem dX2_digest_206 : decode cX2_digest 206 = .ok (.iload 7, 2) := by decide +kernel
theorem dX2_digest_208 : decode cX2_digest 208 = .ok (.if_icmp .ge 26, 3) := by decide +kernel
theorem dX2_digest_211 : decode cX2_digest 211 = .ok (.aload 6, 2) := by decide +kernel
theorem dX2_digest_213 : decode cX2_digest 213 = .ok (.iload 8, 2) := by decide +kernel
theorem dX2_digest_215 : decode cX2_digest 215 = .ok (.iaload, 1) := by decide +kernel
theorem dX2_digest_216 : decode cX2_digest 216 = .ok (.istore 9, 2) := by decide +kernel
theorem dX2_digest_218 : decode cX2_digest 218 = .ok (.lload_n 2, 1) := by decide +kernel
theorem dX2_digest_219 : decode cX2_digest 219 = .ok (.ldc2_w 175, 3) := by decide +kernel
theorem dX2_digest_222 : decode cX2_digest 222 = .ok (.lmul, 1) := by decide +kernel
theorem dX2_digest_223 : decode cX2_digest 223 = .ok (.iload 9, 2) := by decide +kernel
theorem dX2_digest_225 : decode cX2_digest 225 = .ok (.i2l, 1) := by decide +kernel
theorem dX2_digest_226 : decode cX2_digest 226 = .ok (.ladd, 1) := by decide +kernel
theorem dX2_digest_227 : decode cX2_digest 227 = .ok (.lstore_n 2, 1) := by decide +kernel
theorem dX2_digest_228 : decode cX2_digest 228 = .ok (.iinc 8 1, 3) := by decide +kernel
theorem dX2_digest_231 : decode cX2_digest 231 = .ok (.goto (-27), 3) := by decide +kernel
theorem dX2_digest_234 : decode cX2_digest 234 = .ok (.iconst 0, 1) := by decide +kernel
theorem dX2_digest_235 : decode cX2_digest 235 = .ok (.istore 6, 2) := by decide +kernel
theorem dX2_digest_237 : decode cX2_digest 237 = .ok (.iload 6, 2) := by decide +kernel
theorem dX2_digest_239 : decode cX2_digest 239 = .ok (.aload_n 0, 1) := by decide +kernel
theorem dX2_digest_240 : decode cX2_digest 240 = .ok (.getfield 33, 3) := by decide +kernel
theorem dX2_digest_243 : decode cX2_digest 243 = .ok (.if_icmp .ge 83, 3) := by decide +kernel
theorem dX2_digest_246 : decode cX2_digest 246 = .ok (.lload_n 2, 1) := by decide +kernel
theorem dX2_digest_247 : decode cX2_digest 247 = .ok (.ldc2_w 175, 3) := by decide +kernel
theorem dX2_digest_250 : decode cX2_digest 250 = .ok (.lmul, 1) := by decide +kernel
theorem dX2_digest_251 : decode cX2_digest 251 = .ok (.aload_n 0, 1) := by decide +kernel
theorem dX2_digest_252 : decode cX2_digest 252 = .ok (.iload 4, 2) := by decide +kernel
theorem dX2_digest_254 : decode cX2_digest 254 = .ok (.iload 6, 2) := by decide +kernel
theorem dX2_digest_256 : decode cX2_digest 256 = .ok (.iload 4, 2) := by decide +kernel
theorem dX2_digest_258 : decode cX2_digest 258 = .ok (.invokevirtual 43, 3) := by decide +kernel
theorem dX2_digest_261 : decode cX2_digest 261 = .ok (.ifCond .eq 7, 3) := by decide +kernel
theorem dX2_digest_264 : decode cX2_digest 264 = .ok (.iconst 1, 1) := by decide +kernel
theorem dX2_digest_265 : decode cX2_digest 265 = .ok (.goto 4, 3) := by decide +kernel
theorem dX2_digest_268 : decode cX2_digest 268 = .ok (.iconst 0, 1) := by decide +kernel
theorem dX2_digest_269 : decode cX2_digest 269 = .ok (.i2l, 1) := by decide +kernel
theorem dX2_digest_270 : decode cX2_digest 270 = .ok (.ladd, 1) := by decide +kernel
theorem dX2_digest_271 : decode cX2_digest 271 = .ok (.lstore_n 2, 1) := by decide +kernel
theorem dX2_digest_272 : decode cX2_digest 272 = .ok (.lload_n 2, 1) := by decide +kernel
theorem dX2_digest_273 : decode cX2_digest 273 = .ok (.ldc2_w 175, 3) := by decide +kernel
theorem dX2_digest_276 : decode cX2_digest 276 = .ok (.lmul, 1) := by decide +kernel
theorem dX2_digest_277 : decode cX2_digest 277 = .ok (.aload_n 0, 1) := by decide +kernel
theorem dX2_digest_278 : decode cX2_digest 278 = .ok (.iload 4, 2) := by decide +kernel
theorem dX2_digest_280 : decode cX2_digest 280 = .ok (.iload 6, 2) := by decide +kernel
theorem dX2_digest_282 : decode cX2_digest 282 = .ok (.invokevirtual 146, 3) := by decide +kernel
theorem dX2_digest_285 : decode cX2_digest 285 = .ok (.ifCond .eq 7, 3) := by decide +kernel
theorem dX2_digest_288 : decode cX2_digest 288 = .ok (.iconst 1, 1) := by decide +kernel
theorem dX2_digest_289 : decode cX2_digest 289 = .ok (.goto 4, 3) := by decide +kernel
theorem dX2_digest_292 : decode cX2_digest 292 = .ok (.iconst 0, 1) := by decide +kernel
theorem dX2_digest_293 : decode cX2_digest 293 = .ok (.i2l, 1) := by decide +kernel
theorem dX2_digest_294 : decode cX2_digest 294 = .ok (.ladd, 1) := by decide +kernel
theorem dX2_digest_295 : decode cX2_digest 295 = .ok (.lstore_n 2, 1) := by decide +kernel
theorem dX2_digest_296 : decode cX2_digest 296 = .ok (.lload_n 2, 1) := by decide +kernel
theorem dX2_digest_297 : decode cX2_digest 297 = .ok (.ldc2_w 175, 3) := by decide +kernel
theorem dX2_digest_300 : decode cX2_digest 300 = .ok (.lmul, 1) := by decide +kernel
theorem dX2_digest_301 : decode cX2_digest 301 = .ok (.aload_n 0, 1) := by decide +kernel
theorem dX2_digest_302 : decode cX2_digest 302 = .ok (.iload 4, 2) := by decide +kernel
theorem dX2_digest_304 : decode cX2_digest 304 = .ok (.iload 6, 2) := by decide +kernel
theorem dX2_digest_306 : decode cX2_digest 306 = .ok (.invokevirtual 149, 3) := by decide +kernel
theorem dX2_digest_309 : decode cX2_digest 309 = .ok (.ifCond .eq 7, 3) := by decide +kernel
theorem dX2_digest_312 : decode cX2_digest 312 = .ok (.iconst 1, 1) := by decide +kernel
theorem dX2_digest_313 : decode cX2_digest 313 = .ok (.goto 4, 3) := by decide +kernel
theorem dX2_digest_316 : decode cX2_digest 316 = .ok (.iconst 0, 1) := by decide +kernel
theorem dX2_digest_317 : decode cX2_digest 317 = .ok (.i2l, 1) := by decide +kernel
theorem dX2_digest_318 : decode cX2_digest 318 = .ok (.ladd, 1) := by decide +kernel
theorem dX2_digest_319 : decode cX2_digest 319 = .ok (.lstore_n 2, 1) := by decide +kernel
theorem dX2_digest_320 : decode cX2_digest 320 = .ok (.iinc 6 1, 3) := by decide +kernel
theorem dX2_digest_323 : decode cX2_digest 323 = .ok (.goto (-86), 3) := by decide +kernel
theorem dX2_digest_326 : decode cX2_digest 326 = .ok (.iinc 4 1, 3) := by decide +kernel
theorem dX2_digest_329 : decode cX2_digest 329 = .ok (.goto (-213), 3) := by decide +kernel
theorem dX2_digest_332 : decode cX2_digest 332 = .ok (.lload_n 2, 1) := by decide +kernel
theorem dX2_digest_333 : decode cX2_digest 333 = .ok (.lreturn, 1) := by decide +kernel
theorem dJ6_bitCount_0f7a4_0 : decode cJ6_bitCount_0f7a4 0 = .ok (.iload_n 0, 1) := by decide +kernel
theorem dJ6_bitCount_0f7a4_1 : decode cJ6_bitCount_0f7a4 1 = .ok (.iload_n 0, 1) := by decide +kernel
theorem dJ6_bitCount_0f7a4_2 : decode cJ6_bitCount_0f7a4 2 = .ok (.iconst 1, 1) := by decide +kernel
theorem dJ6_bitCount_0f7a4_3 : decode cJ6_bitCount_0f7a4 3 = .ok (.iushr, 1) := by decide +kernel
theorem dJ6_bitCount_0f7a4_4 : decode cJ6_bitCount_0f7a4 4 = .ok (.ldc_w 265, 3) := by decide +kernel
theorem dJ6_bitCount_0f7a4_7 : decode cJ6_bitCount_0f7a4 7 = .ok (.iand, 1) := by decide +kernel
theorem dJ6_bitCount_0f7a4_8 : decode cJ6_bitCount_0f7a4 8 = .ok (.isub, 1) := by decide +kernel
theorem dJ6_bitCount_0f7a4_9 : decode cJ6_bitCount_0f7a4 9 = .ok (.istore_n 0, 1) := by decide +kernel
theorem dJ6_bitCount_0f7a4_10 : decode cJ6_bitCount_0f7a4 10 = .ok (.iload_n 0, 1) := by decide +kernel
theorem dJ6_bitCount_0f7a4_11 : decode cJ6_bitCount_0f7a4 11 = .ok (.ldc_w 266, 3) := by decide +kernel
theorem dJ6_bitCount_0f7a4_14 : decode cJ6_bitCount_0f7a4 14 = .ok (.iand, 1) := by decide +kernel
theorem dJ6_bitCount_0f7a4_15 : decode cJ6_bitCount_0f7a4 15 = .ok (.iload_n 0, 1) := by decide +kernel
theorem dJ6_bitCount_0f7a4_16 : decode cJ6_bitCount_0f7a4 16 = .ok (.iconst 2, 1) := by decide +kernel
theorem dJ6_bitCount_0f7a4_17 : decode cJ6_bitCount_0f7a4 17 = .ok (.iushr, 1) := by decide +kernel
theorem dJ6_bitCount_0f7a4_18 : decode cJ6_bitCount_0f7a4 18 = .ok (.ldc_w 266, 3) := by decide +kernel
theorem dJ6_bitCount_0f7a4_21 : decode cJ6_bitCount_0f7a4 21 = .ok (.iand, 1) := by decide +kernel
theorem dJ6_bitCount_0f7a4_22 : decode cJ6_bitCount_0f7a4 22 = .ok (.iadd, 1) := by decide +kernel
theorem dJ6_bitCount_0f7a4_23 : decode cJ6_bitCount_0f7a4 23 = .ok (.istore_n 0, 1) := by decide +kernel
theorem dJ6_bitCount_0f7a4_24 : decode cJ6_bitCount_0f7a4 24 = .ok (.iload_n 0, 1) := by decide +kernel
theorem dJ6_bitCount_0f7a4_25 : decode cJ6_bitCount_0f7a4 25 = .ok (.iload_n 0, 1) := by decide +kernel
theorem dJ6_bitCount_0f7a4_26 : decode cJ6_bitCount_0f7a4 26 = .ok (.iconst 4, 1) := by decide +kernel
theorem dJ6_bitCount_0f7a4_27 : decode cJ6_bitCount_0f7a4 27 = .ok (.iushr, 1) := by decide +kernel
theorem dJ6_bitCount_0f7a4_28 : decode cJ6_bitCount_0f7a4 28 = .ok (.iadd, 1) := by decide +kernel
theorem dJ6_bitCount_0f7a4_29 : decode cJ6_bitCount_0f7a4 29 = .ok (.ldc_w 267, 3) := by decide +kernel
theorem dJ6_bitCount_0f7a4_32 : decode cJ6_bitCount_0f7a4 32 = .ok (.iand, 1) := by decide +kernel
theorem dJ6_bitCount_0f7a4_33 : decode cJ6_bitCount_0f7a4 33 = .ok (.istore_n 0, 1) := by decide +kernel
theorem dJ6_bitCount_0f7a4_34 : decode cJ6_bitCount_0f7a4 34 = .ok (.iload_n 0, 1) := by decide +kernel
theorem dJ6_bitCount_0f7a4_35 : decode cJ6_bitCount_0f7a4 35 = .ok (.iload_n 0, 1) := by decide +kernel
theorem dJ6_bitCount_0f7a4_36 : decode cJ6_bitCount_0f7a4 36 = .ok (.bipush 8, 2) := by decide +kernel
theorem dJ6_bitCount_0f7a4_38 : decode cJ6_bitCount_0f7a4 38 = .ok (.iushr, 1) := by decide +kernel
theorem dJ6_bitCount_0f7a4_39 : decode cJ6_bitCount_0f7a4 39 = .ok (.iadd, 1) := by decide +kernel
theorem dJ6_bitCount_0f7a4_40 : decode cJ6_bitCount_0f7a4 40 = .ok (.istore_n 0, 1) := by decide +kernel
theorem dJ6_bitCount_0f7a4_41 : decode cJ6_bitCount_0f7a4 41 = .ok (.iload_n 0, 1) := by decide +kernel
theorem dJ6_bitCount_0f7a4_42 : decode cJ6_bitCount_0f7a4 42 = .ok (.iload_n 0, 1) := by decide +kernel
theorem dJ6_bitCount_0f7a4_43 : decode cJ6_bitCount_0f7a4 43 = .ok (.bipush 16, 2) := by decide +kernel
theorem dJ6_bitCount_0f7a4_45 : decode cJ6_bitCount_0f7a4 45 = .ok (.iushr, 1) := by decide +kernel
theorem dJ6_bitCount_0f7a4_46 : decode cJ6_bitCount_0f7a4 46 = .ok (.iadd, 1) := by decide +kernel
theorem dJ6_bitCount_0f7a4_47 : decode cJ6_bitCount_0f7a4 47 = .ok (.istore_n 0, 1) := by decide +kernel
theorem dJ6_bitCount_0f7a4_48 : decode cJ6_bitCount_0f7a4 48 = .ok (.iload_n 0, 1) := by decide +kernel
theorem dJ6_bitCount_0f7a4_49 : decode cJ6_bitCount_0f7a4 49 = .ok (.bipush 63, 2) := by decide +kernel
theorem dJ6_bitCount_0f7a4_51 : decode cJ6_bitCount_0f7a4 51 = .ok (.iand, 1) := by decide +kernel
theorem dJ6_bitCount_0f7a4_52 : decode cJ6_bitCount_0f7a4 52 = .ok (.ireturn, 1) := by decide +kernel
theorem dL_addPlayer_0 : decode cL_addPlayer 0 = .ok (.aload_n 2, 1) := by decide +kernel
theorem dL_addPlayer_1 : decode cL_addPlayer 1 = .ok (.iconst 0, 1) := by decide +kernel
theorem dL_addPlayer_2 : decode cL_addPlayer 2 = .ok (.aload_n 0, 1) := by decide +kernel
theorem dL_addPlayer_3 : decode cL_addPlayer 3 = .ok (.iload_n 1, 1) := by decide +kernel
theorem dL_addPlayer_4 : decode cL_addPlayer 4 = .ok (.invokevirtual 7, 3) := by decide +kernel
theorem dL_addPlayer_7 : decode cL_addPlayer 7 = .ok (.i2l, 1) := by decide +kernel
theorem dL_addPlayer_8 : decode cL_addPlayer 8 = .ok (.lastore, 1) := by decide +kernel
theorem dL_addPlayer_9 : decode cL_addPlayer 9 = .ok (.goto 9, 3) := by decide +kernel
theorem dL_addPlayer_12 : decode cL_addPlayer 12 = .ok (.astore_n 3, 1) := by decide +kernel
theorem dL_addPlayer_13 : decode cL_addPlayer 13 = .ok (.iconst 1, 1) := by decide +kernel
theorem dL_addPlayer_14 : decode cL_addPlayer 14 = .ok (.ireturn, 1) := by decide +kernel
theorem dL_addPlayer_15 : decode cL_addPlayer 15 = .ok (.astore_n 3, 1) := by decide +kernel
theorem dL_addPlayer_16 : decode cL_addPlayer 16 = .ok (.iconst 2, 1) := by decide +kernel
theorem dL_addPlayer_17 : decode cL_addPlayer 17 = .ok (.ireturn, 1) := by decide +kernel
theorem dL_addPlayer_18 : decode cL_addPlayer 18 = .ok (.iconst 0, 1) := by decide +kernel
theorem dL_addPlayer_19 : decode cL_addPlayer 19 = .ok (.ireturn, 1) := by decide +kernel
theorem dL_turnAway_0 : decode cL_turnAway 0 = .ok (.aload_n 3, 1) := by decide +kernel
theorem dL_turnAway_1 : decode cL_turnAway 1 = .ok (.iconst 0, 1) := by decide +kernel
theorem dL_turnAway_2 : decode cL_turnAway 2 = .ok (.aload_n 0, 1) := by decide +kernel
theorem dL_turnAway_3 : decode cL_turnAway 3 = .ok (.iload_n 1, 1) := by decide +kernel
theorem dL_turnAway_4 : decode cL_turnAway 4 = .ok (.iload_n 2, 1) := by decide +kernel
theorem dL_turnAway_5 : decode cL_turnAway 5 = .ok (.invokevirtual 17, 3) := by decide +kernel
theorem dL_turnAway_8 : decode cL_turnAway 8 = .ok (.ifCond .eq 7, 3) := by decide +kernel
theorem dL_turnAway_11 : decode cL_turnAway 11 = .ok (.lconst 1, 1) := by decide +kernel
theorem dL_turnAway_12 : decode cL_turnAway 12 = .ok (.goto 4, 3) := by decide +kernel
theorem dL_turnAway_15 : decode cL_turnAway 15 = .ok (.lconst 0, 1) := by decide +kernel
theorem dL_turnAway_16 : decode cL_turnAway 16 = .ok (.lastore, 1) := by decide +kernel
theorem dL_turnAway_17 : decode cL_turnAway 17 = .ok (.goto 11, 3) := by decide +kernel
theorem dL_turnAway_20 : decode cL_turnAway 20 = .ok (.astore 4, 2) := by decide +kernel
theorem dL_turnAway_22 : decode cL_turnAway 22 = .ok (.iconst 1, 1) := by decide +kernel
theorem dL_turnAway_23 : decode cL_turnAway 23 = .ok (.ireturn, 1) := by decide +kernel
theorem dL_turnAway_24 : decode cL_turnAway 24 = .ok (.astore 4, 2) := by decide +kernel
theorem dL_turnAway_26 : decode cL_turnAway 26 = .ok (.iconst 2, 1) := by decide +kernel
theorem dL_turnAway_27 : decode cL_turnAway 27 = .ok (.ireturn, 1) := by decide +kernel
theorem dL_turnAway_28 : decode cL_turnAway 28 = .ok (.iconst 0, 1) := by decide +kernel
theorem dL_turnAway_29 : decode cL_turnAway 29 = .ok (.ireturn, 1) := by decide +kernel
theorem dL_borrow_0 : decode cL_borrow 0 = .ok (.aload_n 3, 1) := by decide +kernel
theorem dL_borrow_1 : decode cL_borrow 1 = .ok (.iconst 0, 1) := by decide +kernel
theorem dL_borrow_2 : decode cL_borrow 2 = .ok (.aload_n 0, 1) := by decide +kernel
theorem dL_borrow_3 : decode cL_borrow 3 = .ok (.iload_n 1, 1) := by decide +kernel
theorem dL_borrow_4 : decode cL_borrow 4 = .ok (.iload_n 2, 1) := by decide +kernel
theorem dL_borrow_5 : decode cL_borrow 5 = .ok (.invokevirtual 23, 3) := by decide +kernel
theorem dL_borrow_8 : decode cL_borrow 8 = .ok (.i2l, 1) := by decide +kernel
theorem dL_borrow_9 : decode cL_borrow 9 = .ok (.lastore, 1) := by decide +kernel
theorem dL_borrow_10 : decode cL_borrow 10 = .ok (.goto 11, 3) := by decide +kernel
theorem dL_borrow_13 : decode cL_borrow 13 = .ok (.astore 4, 2) := by decide +kernel
theorem dL_borrow_15 : decode cL_borrow 15 = .ok (.iconst 1, 1) := by decide +kernel
theorem dL_borrow_16 : decode cL_borrow 16 = .ok (.ireturn, 1) := by decide +kernel
theorem dL_borrow_17 : decode cL_borrow 17 = .ok (.astore 4, 2) := by decide +kernel
theorem dL_borrow_19 : decode cL_borrow 19 = .ok (.iconst 2, 1) := by decide +kernel
theorem dL_borrow_20 : decode cL_borrow 20 = .ok (.ireturn, 1) := by decide +kernel
theorem dL_borrow_21 : decode cL_borrow 21 = .ok (.iconst 0, 1) := by decide +kernel
theorem dL_borrow_22 : decode cL_borrow 22 = .ok (.ireturn, 1) := by decide +kernel
theorem dL_takeTurn_0 : decode cL_takeTurn 0 = .ok (.aload_n 1, 1) := by decide +kernel
theorem dL_takeTurn_1 : decode cL_takeTurn 1 = .ok (.iconst 0, 1) := by decide +kernel
theorem dL_takeTurn_2 : decode cL_takeTurn 2 = .ok (.aload_n 0, 1) := by decide +kernel
theorem dL_takeTurn_3 : decode cL_takeTurn 3 = .ok (.invokevirtual 27, 3) := by decide +kernel
theorem dL_takeTurn_6 : decode cL_takeTurn 6 = .ok (.i2l, 1) := by decide +kernel
theorem dL_takeTurn_7 : decode cL_takeTurn 7 = .ok (.lastore, 1) := by decide +kernel
theorem dL_takeTurn_8 : decode cL_takeTurn 8 = .ok (.goto 6, 3) := by decide +kernel
theorem dL_takeTurn_11 : decode cL_takeTurn 11 = .ok (.astore_n 2, 1) := by decide +kernel
theorem dL_takeTurn_12 : decode cL_takeTurn 12 = .ok (.iconst 1, 1) := by decide +kernel
theorem dL_takeTurn_13 : decode cL_takeTurn 13 = .ok (.ireturn, 1) := by decide +kernel
theorem dL_takeTurn_14 : decode cL_takeTurn 14 = .ok (.iconst 0, 1) := by decide +kernel
theorem dL_takeTurn_15 : decode cL_takeTurn 15 = .ok (.ireturn, 1) := by decide +kernel
theorem dL_sayAtLeast_0 : decode cL_sayAtLeast 0 = .ok (.aload_n 3, 1) := by decide +kernel
theorem dL_sayAtLeast_1 : decode cL_sayAtLeast 1 = .ok (.iconst 0, 1) := by decide +kernel
theorem dL_sayAtLeast_2 : decode cL_sayAtLeast 2 = .ok (.aload_n 0, 1) := by decide +kernel
theorem dL_sayAtLeast_3 : decode cL_sayAtLeast 3 = .ok (.iload_n 1, 1) := by decide +kernel
theorem dL_sayAtLeast_4 : decode cL_sayAtLeast 4 = .ok (.iload_n 2, 1) := by decide +kernel
theorem dL_sayAtLeast_5 : decode cL_sayAtLeast 5 = .ok (.invokevirtual 31, 3) := by decide +kernel
theorem dL_sayAtLeast_8 : decode cL_sayAtLeast 8 = .ok (.i2l, 1) := by decide +kernel
theorem dL_sayAtLeast_9 : decode cL_sayAtLeast 9 = .ok (.lastore, 1) := by decide +kernel
theorem dL_sayAtLeast_10 : decode cL_sayAtLeast 10 = .ok (.goto 15, 3) := by decide +kernel
theorem dL_sayAtLeast_13 : decode cL_sayAtLeast 13 = .ok (.astore 4, 2) := by decide +kernel
theorem dL_sayAtLeast_15 : decode cL_sayAtLeast 15 = .ok (.iconst 1, 1) := by decide +kernel
theorem dL_sayAtLeast_16 : decode cL_sayAtLeast 16 = .ok (.ireturn, 1) := by decide +kernel
theorem dL_sayAtLeast_17 : decode cL_sayAtLeast 17 = .ok (.astore 4, 2) := by decide +kernel
theorem dL_sayAtLeast_19 : decode cL_sayAtLeast 19 = .ok (.iconst 2, 1) := by decide +kernel
theorem dL_sayAtLeast_20 : decode cL_sayAtLeast 20 = .ok (.ireturn, 1) := by decide +kernel
theorem dL_sayAtLeast_21 : decode cL_sayAtLeast 21 = .ok (.astore 4, 2) := by decide +kernel
theorem dL_sayAtLeast_23 : decode cL_sayAtLeast 23 = .ok (.iconst 3, 1) := by decide +kernel
theorem dL_sayAtLeast_24 : decode cL_sayAtLeast 24 = .ok (.ireturn, 1) := by decide +kernel
theorem dL_sayAtLeast_25 : decode cL_sayAtLeast 25 = .ok (.iconst 0, 1) := by decide +kernel
theorem dL_sayAtLeast_26 : decode cL_sayAtLeast 26 = .ok (.ireturn, 1) := by decide +kernel
theorem dL_sayAtMost_0 : decode cL_sayAtMost 0 = .ok (.aload_n 3, 1) := by decide +kernel
theorem dL_sayAtMost_1 : decode cL_sayAtMost 1 = .ok (.iconst 0, 1) := by decide +kernel
theorem dL_sayAtMost_2 : decode cL_sayAtMost 2 = .ok (.aload_n 0, 1) := by decide +kernel
theorem dL_sayAtMost_3 : decode cL_sayAtMost 3 = .ok (.iload_n 1, 1) := by decide +kernel
theorem dL_sayAtMost_4 : decode cL_sayAtMost 4 = .ok (.iload_n 2, 1) := by decide +kernel
theorem dL_sayAtMost_5 : decode cL_sayAtMost 5 = .ok (.invokevirtual 34, 3) := by decide +kernel
theorem dL_sayAtMost_8 : decode cL_sayAtMost 8 = .ok (.i2l, 1) := by decide +kernel
theorem dL_sayAtMost_9 : decode cL_sayAtMost 9 = .ok (.lastore, 1) := by decide +kernel
theorem dL_sayAtMost_10 : decode cL_sayAtMost 10 = .ok (.goto 15, 3) := by decide +kernel
theorem dL_sayAtMost_13 : decode cL_sayAtMost 13 = .ok (.astore 4, 2) := by decide +kernel
theorem dL_sayAtMost_15 : decode cL_sayAtMost 15 = .ok (.iconst 1, 1) := by decide +kernel
theorem dL_sayAtMost_16 : decode cL_sayAtMost 16 = .ok (.ireturn, 1) := by decide +kernel
theorem dL_sayAtMost_17 : decode cL_sayAtMost 17 = .ok (.astore 4, 2) := by decide +kernel
theorem dL_sayAtMost_19 : decode cL_sayAtMost 19 = .ok (.iconst 2, 1) := by decide +kernel
theorem dL_sayAtMost_20 : decode cL_sayAtMost 20 = .ok (.ireturn, 1) := by decide +kernel
theorem dL_sayAtMost_21 : decode cL_sayAtMost 21 = .ok (.astore 4, 2) := by decide +kernel
theorem dL_sayAtMost_23 : decode cL_sayAtMost 23 = .ok (.iconst 3, 1) := by decide +kernel
theorem dL_sayAtMost_24 : decode cL_sayAtMost 24 = .ok (.ireturn, 1) := by decide +kernel
theorem dL_sayAtMost_25 : decode cL_sayAtMost 25 = .ok (.iconst 0, 1) := by decide +kernel
theorem dL_sayAtMost_26 : decode cL_sayAtMost 26 = .ok (.ireturn, 1) := by decide +kernel
theorem dL_hatOf_0 : decode cL_hatOf 0 = .ok (.aload_n 2, 1) := by decide +kernel
theorem dL_hatOf_1 : decode cL_hatOf 1 = .ok (.iconst 0, 1) := by decide +kernel
theorem dL_hatOf_2 : decode cL_hatOf 2 = .ok (.aload_n 0, 1) := by decide +kernel
theorem dL_hatOf_3 : decode cL_hatOf 3 = .ok (.iload_n 1, 1) := by decide +kernel
theorem dL_hatOf_4 : decode cL_hatOf 4 = .ok (.invokevirtual 37, 3) := by decide +kernel
theorem dL_hatOf_7 : decode cL_hatOf 7 = .ok (.i2l, 1) := by decide +kernel
theorem dL_hatOf_8 : decode cL_hatOf 8 = .ok (.lastore, 1) := by decide +kernel
theorem dL_hatOf_9 : decode cL_hatOf 9 = .ok (.goto 6, 3) := by decide +kernel
theorem dL_hatOf_12 : decode cL_hatOf 12 = .ok (.astore_n 3, 1) := by decide +kernel
theorem dL_hatOf_13 : decode cL_hatOf 13 = .ok (.iconst 1, 1) := by decide +kernel
theorem dL_hatOf_14 : decode cL_hatOf 14 = .ok (.ireturn, 1) := by decide +kernel
theorem dL_hatOf_15 : decode cL_hatOf 15 = .ok (.iconst 0, 1) := by decide +kernel
theorem dL_hatOf_16 : decode cL_hatOf 16 = .ok (.ireturn, 1) := by decide +kernel
theorem dL_sees_0 : decode cL_sees 0 = .ok (.aload_n 3, 1) := by decide +kernel
theorem dL_sees_1 : decode cL_sees 1 = .ok (.iconst 0, 1) := by decide +kernel
theorem dL_sees_2 : decode cL_sees 2 = .ok (.aload_n 0, 1) := by decide +kernel
theorem dL_sees_3 : decode cL_sees 3 = .ok (.iload_n 1, 1) := by decide +kernel
theorem dL_sees_4 : decode cL_sees 4 = .ok (.iload_n 2, 1) := by decide +kernel
theorem dL_sees_5 : decode cL_sees 5 = .ok (.invokevirtual 40, 3) := by decide +kernel
theorem dL_sees_8 : decode cL_sees 8 = .ok (.ifCond .eq 7, 3) := by decide +kernel
theorem dL_sees_11 : decode cL_sees 11 = .ok (.lconst 1, 1) := by decide +kernel
theorem dL_sees_12 : decode cL_sees 12 = .ok (.goto 4, 3) := by decide +kernel
theorem dL_sees_15 : decode cL_sees 15 = .ok (.lconst 0, 1) := by decide +kernel
theorem dL_sees_16 : decode cL_sees 16 = .ok (.lastore, 1) := by decide +kernel
theorem dL_sees_17 : decode cL_sees 17 = .ok (.goto 7, 3) := by decide +kernel
theorem dL_sees_20 : decode cL_sees 20 = .ok (.astore 4, 2) := by decide +kernel
theorem dL_sees_22 : decode cL_sees 22 = .ok (.iconst 1, 1) := by decide +kernel
theorem dL_sees_23 : decode cL_sees 23 = .ok (.ireturn, 1) := by decide +kernel
theorem dL_sees_24 : decode cL_sees 24 = .ok (.iconst 0, 1) := by decide +kernel
theorem dL_sees_25 : decode cL_sees 25 = .ok (.ireturn, 1) := by decide +kernel
theorem dL_hatsOf_0 : decode cL_hatsOf 0 = .ok (.aload_n 2, 1) := by decide +kernel
theorem dL_hatsOf_1 : decode cL_hatsOf 1 = .ok (.iconst 0, 1) := by decide +kernel
theorem dL_hatsOf_2 : decode cL_hatsOf 2 = .ok (.aload_n 0, 1) := by decide +kernel
theorem dL_hatsOf_3 : decode cL_hatsOf 3 = .ok (.iload_n 1, 1) := by decide +kernel
theorem dL_hatsOf_4 : decode cL_hatsOf 4 = .ok (.invokevirtual 43, 3) := by decide +kernel
theorem dL_hatsOf_7 : decode cL_hatsOf 7 = .ok (.i2l, 1) := by decide +kernel
theorem dL_hatsOf_8 : decode cL_hatsOf 8 = .ok (.lastore, 1) := by decide +kernel
theorem dL_hatsOf_9 : decode cL_hatsOf 9 = .ok (.goto 6, 3) := by decide +kernel
theorem dL_hatsOf_12 : decode cL_hatsOf 12 = .ok (.astore_n 3, 1) := by decide +kernel
theorem dL_hatsOf_13 : decode cL_hatsOf 13 = .ok (.iconst 1, 1) := by decide +kernel
theorem dL_hatsOf_14 : decode cL_hatsOf 14 = .ok (.ireturn, 1) := by decide +kernel
theorem dL_hatsOf_15 : decode cL_hatsOf 15 = .ok (.iconst 0, 1) := by decide +kernel
theorem dL_hatsOf_16 : decode cL_hatsOf 16 = .ok (.ireturn, 1) := by decide +kernel
theorem dL_openWaysWith_0 : decode cL_openWaysWith 0 = .ok (.aload_n 3, 1) := by decide +kernel
theorem dL_openWaysWith_1 : decode cL_openWaysWith 1 = .ok (.iconst 0, 1) := by decide +kernel
theorem dL_openWaysWith_2 : decode cL_openWaysWith 2 = .ok (.aload_n 0, 1) := by decide +kernel
theorem dL_openWaysWith_3 : decode cL_openWaysWith 3 = .ok (.iload_n 1, 1) := by decide +kernel
theorem dL_openWaysWith_4 : decode cL_openWaysWith 4 = .ok (.iload_n 2, 1) := by decide +kernel
theorem dL_openWaysWith_5 : decode cL_openWaysWith 5 = .ok (.invokevirtual 46, 3) := by decide +kernel
theorem dL_openWaysWith_8 : decode cL_openWaysWith 8 = .ok (.i2l, 1) := by decide +kernel
theorem dL_openWaysWith_9 : decode cL_openWaysWith 9 = .ok (.lastore, 1) := by decide +kernel
theorem dL_openWaysWith_10 : decode cL_openWaysWith 10 = .ok (.goto 7, 3) := by decide +kernel
theorem dL_openWaysWith_13 : decode cL_openWaysWith 13 = .ok (.astore 4, 2) := by decide +kernel
theorem dL_openWaysWith_15 : decode cL_openWaysWith 15 = .ok (.iconst 1, 1) := by decide +kernel
theorem dL_openWaysWith_16 : decode cL_openWaysWith 16 = .ok (.ireturn, 1) := by decide +kernel
theorem dL_openWaysWith_17 : decode cL_openWaysWith 17 = .ok (.iconst 0, 1) := by decide +kernel
theorem dL_openWaysWith_18 : decode cL_openWaysWith 18 = .ok (.ireturn, 1) := by decide +kernel
theorem dL_isKnownToAll_0 : decode cL_isKnownToAll 0 = .ok (.aload_n 2, 1) := by decide +kernel
theorem dL_isKnownToAll_1 : decode cL_isKnownToAll 1 = .ok (.iconst 0, 1) := by decide +kernel
theorem dL_isKnownToAll_2 : decode cL_isKnownToAll 2 = .ok (.aload_n 0, 1) := by decide +kernel
theorem dL_isKnownToAll_3 : decode cL_isKnownToAll 3 = .ok (.iload_n 1, 1) := by decide +kernel
theorem dL_isKnownToAll_4 : decode cL_isKnownToAll 4 = .ok (.invokevirtual 49, 3) := by decide +kernel
theorem dL_isKnownToAll_7 : decode cL_isKnownToAll 7 = .ok (.ifCond .eq 7, 3) := by decide +kernel
theorem dL_isKnownToAll_10 : decode cL_isKnownToAll 10 = .ok (.lconst 1, 1) := by decide +kernel
theorem dL_isKnownToAll_11 : decode cL_isKnownToAll 11 = .ok (.goto 4, 3) := by decide +kernel
theorem dL_isKnownToAll_14 : decode cL_isKnownToAll 14 = .ok (.lconst 0, 1) := by decide +kernel
theorem dL_isKnownToAll_15 : decode cL_isKnownToAll 15 = .ok (.lastore, 1) := by decide +kernel
theorem dL_isKnownToAll_16 : decode cL_isKnownToAll 16 = .ok (.goto 6, 3) := by decide +kernel
theorem dL_isKnownToAll_19 : decode cL_isKnownToAll 19 = .ok (.astore_n 3, 1) := by decide +kernel
theorem dL_isKnownToAll_20 : decode cL_isKnownToAll 20 = .ok (.iconst 1, 1) := by decide +kernel
theorem dL_isKnownToAll_21 : decode cL_isKnownToAll 21 = .ok (.ireturn, 1) := by decide +kernel
theorem dL_isKnownToAll_22 : decode cL_isKnownToAll 22 = .ok (.iconst 0, 1) := by decide +kernel
theorem dL_isKnownToAll_23 : decode cL_isKnownToAll 23 = .ok (.ireturn, 1) := by decide +kernel
theorem dL_possibleWays_0 : decode cL_possibleWays 0 = .ok (.aload_n 2, 1) := by decide +kernel
theorem dL_possibleWays_1 : decode cL_possibleWays 1 = .ok (.iconst 0, 1) := by decide +kernel
theorem dL_possibleWays_2 : decode cL_possibleWays 2 = .ok (.aload_n 0, 1) := by decide +kernel
theorem dL_possibleWays_3 : decode cL_possibleWays 3 = .ok (.iload_n 1, 1) := by decide +kernel
theorem dL_possibleWays_4 : decode cL_possibleWays 4 = .ok (.invokevirtual 53, 3) := by decide +kernel
theorem dL_possibleWays_7 : decode cL_possibleWays 7 = .ok (.i2l, 1) := by decide +kernel
theorem dL_possibleWays_8 : decode cL_possibleWays 8 = .ok (.lastore, 1) := by decide +kernel
theorem dL_possibleWays_9 : decode cL_possibleWays 9 = .ok (.goto 6, 3) := by decide +kernel
theorem dL_possibleWays_12 : decode cL_possibleWays 12 = .ok (.astore_n 3, 1) := by decide +kernel
theorem dL_possibleWays_13 : decode cL_possibleWays 13 = .ok (.iconst 1, 1) := by decide +kernel
theorem dL_possibleWays_14 : decode cL_possibleWays 14 = .ok (.ireturn, 1) := by decide +kernel
theorem dL_possibleWays_15 : decode cL_possibleWays 15 = .ok (.iconst 0, 1) := by decide +kernel
theorem dL_possibleWays_16 : decode cL_possibleWays 16 = .ok (.ireturn, 1) := by decide +kernel
theorem dL_holdsPossible_0 : decode cL_holdsPossible 0 = .ok (.aload 4, 2) := by decide +kernel
theorem dL_holdsPossible_2 : decode cL_holdsPossible 2 = .ok (.iconst 0, 1) := by decide +kernel
theorem dL_holdsPossible_3 : decode cL_holdsPossible 3 = .ok (.aload_n 0, 1) := by decide +kernel
theorem dL_holdsPossible_4 : decode cL_holdsPossible 4 = .ok (.iload_n 1, 1) := by decide +kernel
theorem dL_holdsPossible_5 : decode cL_holdsPossible 5 = .ok (.iload_n 2, 1) := by decide +kernel
theorem dL_holdsPossible_6 : decode cL_holdsPossible 6 = .ok (.iload_n 3, 1) := by decide +kernel
theorem dL_holdsPossible_7 : decode cL_holdsPossible 7 = .ok (.invokevirtual 56, 3) := by decide +kernel
theorem dL_holdsPossible_10 : decode cL_holdsPossible 10 = .ok (.ifCond .eq 7, 3) := by decide +kernel
theorem dL_holdsPossible_13 : decode cL_holdsPossible 13 = .ok (.lconst 1, 1) := by decide +kernel
theorem dL_holdsPossible_14 : decode cL_holdsPossible 14 = .ok (.goto 4, 3) := by decide +kernel
theorem dL_holdsPossible_17 : decode cL_holdsPossible 17 = .ok (.lconst 0, 1) := by decide +kernel
theorem dL_holdsPossible_18 : decode cL_holdsPossible 18 = .ok (.lastore, 1) := by decide +kernel
theorem dL_holdsPossible_19 : decode cL_holdsPossible 19 = .ok (.goto 7, 3) := by decide +kernel
theorem dL_holdsPossible_22 : decode cL_holdsPossible 22 = .ok (.astore 5, 2) := by decide +kernel
theorem dL_holdsPossible_24 : decode cL_holdsPossible 24 = .ok (.iconst 1, 1) := by decide +kernel
theorem dL_holdsPossible_25 : decode cL_holdsPossible 25 = .ok (.ireturn, 1) := by decide +kernel
theorem dL_holdsPossible_26 : decode cL_holdsPossible 26 = .ok (.iconst 0, 1) := by decide +kernel
theorem dL_holdsPossible_27 : decode cL_holdsPossible 27 = .ok (.ireturn, 1) := by decide +kernel
theorem dL_isCertain_0 : decode cL_isCertain 0 = .ok (.aload_n 2, 1) := by decide +kernel
theorem dL_isCertain_1 : decode cL_isCertain 1 = .ok (.iconst 0, 1) := by decide +kernel
theorem dL_isCertain_2 : decode cL_isCertain 2 = .ok (.aload_n 0, 1) := by decide +kernel
theorem dL_isCertain_3 : decode cL_isCertain 3 = .ok (.iload_n 1, 1) := by decide +kernel
theorem dL_isCertain_4 : decode cL_isCertain 4 = .ok (.invokevirtual 60, 3) := by decide +kernel
theorem dL_isCertain_7 : decode cL_isCertain 7 = .ok (.ifCond .eq 7, 3) := by decide +kernel
theorem dL_isCertain_10 : decode cL_isCertain 10 = .ok (.lconst 1, 1) := by decide +kernel
theorem dL_isCertain_11 : decode cL_isCertain 11 = .ok (.goto 4, 3) := by decide +kernel
theorem dL_isCertain_14 : decode cL_isCertain 14 = .ok (.lconst 0, 1) := by decide +kernel
theorem dL_isCertain_15 : decode cL_isCertain 15 = .ok (.lastore, 1) := by decide +kernel
theorem dL_isCertain_16 : decode cL_isCertain 16 = .ok (.goto 6, 3) := by decide +kernel
theorem dL_isCertain_19 : decode cL_isCertain 19 = .ok (.astore_n 3, 1) := by decide +kernel
theorem dL_isCertain_20 : decode cL_isCertain 20 = .ok (.iconst 1, 1) := by decide +kernel
theorem dL_isCertain_21 : decode cL_isCertain 21 = .ok (.ireturn, 1) := by decide +kernel
theorem dL_isCertain_22 : decode cL_isCertain 22 = .ok (.iconst 0, 1) := by decide +kernel
theorem dL_isCertain_23 : decode cL_isCertain 23 = .ok (.ireturn, 1) := by decide +kernel
theorem dL_knowsHatOf_0 : decode cL_knowsHatOf 0 = .ok (.aload_n 3, 1) := by decide +kernel
theorem dL_knowsHatOf_1 : decode cL_knowsHatOf 1 = .ok (.iconst 0, 1) := by decide +kernel
theorem dL_knowsHatOf_2 : decode cL_knowsHatOf 2 = .ok (.aload_n 0, 1) := by decide +kernel
theorem dL_knowsHatOf_3 : decode cL_knowsHatOf 3 = .ok (.iload_n 1, 1) := by decide +kernel
theorem dL_knowsHatOf_4 : decode cL_knowsHatOf 4 = .ok (.iload_n 2, 1) := by decide +kernel
theorem dL_knowsHatOf_5 : decode cL_knowsHatOf 5 = .ok (.invokevirtual 63, 3) := by decide +kernel
theorem dL_knowsHatOf_8 : decode cL_knowsHatOf 8 = .ok (.ifCond .eq 7, 3) := by decide +kernel
theorem dL_knowsHatOf_11 : decode cL_knowsHatOf 11 = .ok (.lconst 1, 1) := by decide +kernel
theorem dL_knowsHatOf_12 : decode cL_knowsHatOf 12 = .ok (.goto 4, 3) := by decide +kernel
theorem dL_knowsHatOf_15 : decode cL_knowsHatOf 15 = .ok (.lconst 0, 1) := by decide +kernel
theorem dL_knowsHatOf_16 : decode cL_knowsHatOf 16 = .ok (.lastore, 1) := by decide +kernel
theorem dL_knowsHatOf_17 : decode cL_knowsHatOf 17 = .ok (.goto 7, 3) := by decide +kernel
theorem dL_knowsHatOf_20 : decode cL_knowsHatOf 20 = .ok (.astore 4, 2) := by decide +kernel
theorem dL_knowsHatOf_22 : decode cL_knowsHatOf 22 = .ok (.iconst 1, 1) := by decide +kernel
theorem dL_knowsHatOf_23 : decode cL_knowsHatOf 23 = .ok (.ireturn, 1) := by decide +kernel
theorem dL_knowsHatOf_24 : decode cL_knowsHatOf 24 = .ok (.iconst 0, 1) := by decide +kernel
theorem dL_knowsHatOf_25 : decode cL_knowsHatOf 25 = .ok (.ireturn, 1) := by decide +kernel
theorem dL_knowsCertain_0 : decode cL_knowsCertain 0 = .ok (.aload_n 3, 1) := by decide +kernel
theorem dL_knowsCertain_1 : decode cL_knowsCertain 1 = .ok (.iconst 0, 1) := by decide +kernel
theorem dL_knowsCertain_2 : decode cL_knowsCertain 2 = .ok (.aload_n 0, 1) := by decide +kernel
theorem dL_knowsCertain_3 : decode cL_knowsCertain 3 = .ok (.iload_n 1, 1) := by decide +kernel
theorem dL_knowsCertain_4 : decode cL_knowsCertain 4 = .ok (.iload_n 2, 1) := by decide +kernel
theorem dL_knowsCertain_5 : decode cL_knowsCertain 5 = .ok (.invokevirtual 66, 3) := by decide +kernel
theorem dL_knowsCertain_8 : decode cL_knowsCertain 8 = .ok (.ifCond .eq 7, 3) := by decide +kernel
theorem dL_knowsCertain_11 : decode cL_knowsCertain 11 = .ok (.lconst 1, 1) := by decide +kernel
theorem dL_knowsCertain_12 : decode cL_knowsCertain 12 = .ok (.goto 4, 3) := by decide +kernel
theorem dL_knowsCertain_15 : decode cL_knowsCertain 15 = .ok (.lconst 0, 1) := by decide +kernel
theorem dL_knowsCertain_16 : decode cL_knowsCertain 16 = .ok (.lastore, 1) := by decide +kernel
theorem dL_knowsCertain_17 : decode cL_knowsCertain 17 = .ok (.goto 7, 3) := by decide +kernel
theorem dL_knowsCertain_20 : decode cL_knowsCertain 20 = .ok (.astore 4, 2) := by decide +kernel
theorem dL_knowsCertain_22 : decode cL_knowsCertain 22 = .ok (.iconst 1, 1) := by decide +kernel
theorem dL_knowsCertain_23 : decode cL_knowsCertain 23 = .ok (.ireturn, 1) := by decide +kernel
theorem dL_knowsCertain_24 : decode cL_knowsCertain 24 = .ok (.iconst 0, 1) := by decide +kernel
theorem dL_knowsCertain_25 : decode cL_knowsCertain 25 = .ok (.ireturn, 1) := by decide +kernel
theorem dL_openAfterTurn_0 : decode cL_openAfterTurn 0 = .ok (.aload_n 1, 1) := by decide +kernel
theorem dL_openAfterTurn_1 : decode cL_openAfterTurn 1 = .ok (.iconst 0, 1) := by decide +kernel
theorem dL_openAfterTurn_2 : decode cL_openAfterTurn 2 = .ok (.aload_n 0, 1) := by decide +kernel
theorem dL_openAfterTurn_3 : decode cL_openAfterTurn 3 = .ok (.invokevirtual 69, 3) := by decide +kernel
theorem dL_openAfterTurn_6 : decode cL_openAfterTurn 6 = .ok (.i2l, 1) := by decide +kernel
theorem dL_openAfterTurn_7 : decode cL_openAfterTurn 7 = .ok (.lastore, 1) := by decide +kernel
theorem dL_openAfterTurn_8 : decode cL_openAfterTurn 8 = .ok (.goto 6, 3) := by decide +kernel
theorem dL_openAfterTurn_11 : decode cL_openAfterTurn 11 = .ok (.astore_n 2, 1) := by decide +kernel
theorem dL_openAfterTurn_12 : decode cL_openAfterTurn 12 = .ok (.iconst 1, 1) := by decide +kernel
theorem dL_openAfterTurn_13 : decode cL_openAfterTurn 13 = .ok (.ireturn, 1) := by decide +kernel
theorem dL_openAfterTurn_14 : decode cL_openAfterTurn 14 = .ok (.iconst 0, 1) := by decide +kernel
theorem dL_openAfterTurn_15 : decode cL_openAfterTurn 15 = .ok (.ireturn, 1) := by decide +kernel
theorem dL_turnsUntilCertain_0 : decode cL_turnsUntilCertain 0 = .ok (.aload_n 2, 1) := by decide +kernel
theorem dL_turnsUntilCertain_1 : decode cL_turnsUntilCertain 1 = .ok (.iconst 0, 1) := by decide +kernel
theorem dL_turnsUntilCertain_2 : decode cL_turnsUntilCertain 2 = .ok (.aload_n 0, 1) := by decide +kernel
theorem dL_turnsUntilCertain_3 : decode cL_turnsUntilCertain 3 = .ok (.iload_n 1, 1) := by decide +kernel
theorem dL_turnsUntilCertain_4 : decode cL_turnsUntilCertain 4 = .ok (.invokevirtual 72, 3) := by decide +kernel
theorem dL_turnsUntilCertain_7 : decode cL_turnsUntilCertain 7 = .ok (.i2l, 1) := by decide +kernel
theorem dL_turnsUntilCertain_8 : decode cL_turnsUntilCertain 8 = .ok (.lastore, 1) := by decide +kernel
theorem dL_turnsUntilCertain_9 : decode cL_turnsUntilCertain 9 = .ok (.goto 6, 3) := by decide +kernel
theorem dL_turnsUntilCertain_12 : decode cL_turnsUntilCertain 12 = .ok (.astore_n 3, 1) := by decide +kernel
theorem dL_turnsUntilCertain_13 : decode cL_turnsUntilCertain 13 = .ok (.iconst 1, 1) := by decide +kernel
theorem dL_turnsUntilCertain_14 : decode cL_turnsUntilCertain 14 = .ok (.ireturn, 1) := by decide +kernel
theorem dL_turnsUntilCertain_15 : decode cL_turnsUntilCertain 15 = .ok (.iconst 0, 1) := by decide +kernel
theorem dL_turnsUntilCertain_16 : decode cL_turnsUntilCertain 16 = .ok (.ireturn, 1) := by decide +kernel
theorem dL_certainIfTold_0 : decode cL_certainIfTold 0 = .ok (.aload_n 2, 1) := by decide +kernel
theorem dL_certainIfTold_1 : decode cL_certainIfTold 1 = .ok (.iconst 0, 1) := by decide +kernel
theorem dL_certainIfTold_2 : decode cL_certainIfTold 2 = .ok (.aload_n 0, 1) := by decide +kernel
theorem dL_certainIfTold_3 : decode cL_certainIfTold 3 = .ok (.iload_n 1, 1) := by decide +kernel
theorem dL_certainIfTold_4 : decode cL_certainIfTold 4 = .ok (.invokevirtual 75, 3) := by decide +kernel
theorem dL_certainIfTold_7 : decode cL_certainIfTold 7 = .ok (.i2l, 1) := by decide +kernel
theorem dL_certainIfTold_8 : decode cL_certainIfTold 8 = .ok (.lastore, 1) := by decide +kernel
theorem dL_certainIfTold_9 : decode cL_certainIfTold 9 = .ok (.goto 6, 3) := by decide +kernel
theorem dL_certainIfTold_12 : decode cL_certainIfTold 12 = .ok (.astore_n 3, 1) := by decide +kernel
theorem dL_certainIfTold_13 : decode cL_certainIfTold 13 = .ok (.iconst 1, 1) := by decide +kernel
theorem dL_certainIfTold_14 : decode cL_certainIfTold 14 = .ok (.ireturn, 1) := by decide +kernel
theorem dL_certainIfTold_15 : decode cL_certainIfTold 15 = .ok (.iconst 0, 1) := by decide +kernel
theorem dL_certainIfTold_16 : decode cL_certainIfTold 16 = .ok (.ireturn, 1) := by decide +kernel
theorem dL_law_0 : decode cL_law 0 = .ok (.new 8, 3) := by decide +kernel
theorem dL_law_3 : decode cL_law 3 = .ok (.dup, 1) := by decide +kernel
theorem dL_law_4 : decode cL_law 4 = .ok (.invokespecial 78, 3) := by decide +kernel
theorem dL_law_7 : decode cL_law 7 = .ok (.astore_n 1, 1) := by decide +kernel
theorem dL_law_8 : decode cL_law 8 = .ok (.new 79, 3) := by decide +kernel
theorem dL_law_11 : decode cL_law 11 = .ok (.dup, 1) := by decide +kernel
theorem dL_law_12 : decode cL_law 12 = .ok (.invokespecial 81, 3) := by decide +kernel
theorem dL_law_15 : decode cL_law 15 = .ok (.astore_n 2, 1) := by decide +kernel
theorem dL_law_16 : decode cL_law 16 = .ok (.iconst 1, 1) := by decide +kernel
theorem dL_law_17 : decode cL_law 17 = .ok (.newarray .long, 2) := by decide +kernel
theorem dL_law_19 : decode cL_law 19 = .ok (.astore_n 3, 1) := by decide +kernel
theorem dL_law_20 : decode cL_law 20 = .ok (.iconst 0, 1) := by decide +kernel
theorem dL_law_21 : decode cL_law 21 = .ok (.istore 4, 2) := by decide +kernel
theorem dL_law_23 : decode cL_law 23 = .ok (.iload 4, 2) := by decide +kernel
theorem dL_law_25 : decode cL_law 25 = .ok (.aload_n 0, 1) := by decide +kernel
theorem dL_law_26 : decode cL_law 26 = .ok (.arraylength, 1) := by decide +kernel
theorem dL_law_27 : decode cL_law 27 = .ok (.iconst 4, 1) := by decide +kernel
theorem dL_law_28 : decode cL_law 28 = .ok (.isub, 1) := by decide +kernel
theorem dL_law_29 : decode cL_law 29 = .ok (.if_icmp .gt 1530, 3) := by decide +kernel
theorem dL_law_32 : decode cL_law 32 = .ok (.aload_n 0, 1) := by decide +kernel
theorem dL_law_33 : decode cL_law 33 = .ok (.iload 4, 2) := by decide +kernel
theorem dL_law_35 : decode cL_law 35 = .ok (.iaload, 1) := by decide +kernel
theorem dL_law_36 : decode cL_law 36 = .ok (.bipush 31, 2) := by decide +kernel
theorem dL_law_38 : decode cL_law 38 = .ok (.iand, 1) := by decide +kernel
theorem dL_law_39 : decode cL_law 39 = .ok (.tableswitch 1514 0 29 #[133, 189, 264, 332, 376, 444, 512, 525, 538, 551, 564, 577, 633, 708, 764, 777, 845, 908, 964, 1051, 1114, 1189, 1264, 1277, 1321, 1377, 1390, 1403, 1459, 1500], 133) := by decide +kernel
theorem dL_law_172 : decode cL_law 172 = .ok (.aload_n 1, 1) := by decide +kernel
theorem dL_law_173 : decode cL_law 173 = .ok (.aload_n 0, 1) := by decide +kernel
theorem dL_law_174 : decode cL_law 174 = .ok (.iload 4, 2) := by decide +kernel
theorem dL_law_176 : decode cL_law 176 = .ok (.iconst 1, 1) := by decide +kernel
theorem dL_law_177 : decode cL_law 177 = .ok (.iadd, 1) := by decide +kernel
theorem dL_law_178 : decode cL_law 178 = .ok (.iaload, 1) := by decide +kernel
theorem dL_law_179 : decode cL_law 179 = .ok (.aload_n 3, 1) := by decide +kernel
theorem dL_law_180 : decode cL_law 180 = .ok (.invokestatic 82, 3) := by decide +kernel
theorem dL_law_183 : decode cL_law 183 = .ok (.istore 5, 2) := by decide +kernel
theorem dL_law_185 : decode cL_law 185 = .ok (.aload_n 2, 1) := by decide +kernel
theorem dL_law_186 : decode cL_law 186 = .ok (.aload_n 0, 1) := by decide +kernel
theorem dL_law_187 : decode cL_law 187 = .ok (.iload 4, 2) := by decide +kernel
theorem dL_law_189 : decode cL_law 189 = .ok (.iconst 1, 1) := by decide +kernel
theorem dL_law_190 : decode cL_law 190 = .ok (.iadd, 1) := by decide +kernel
theorem dL_law_191 : decode cL_law 191 = .ok (.iaload, 1) := by decide +kernel
theorem dL_law_192 : decode cL_law 192 = .ok (.invokevirtual 87, 3) := by decide +kernel
theorem dL_law_195 : decode cL_law 195 = .ok (.istore 6, 2) := by decide +kernel
theorem dL_law_197 : decode cL_law 197 = .ok (.aload_n 2, 1) := by decide +kernel
theorem dL_law_198 : decode cL_law 198 = .ok (.invokevirtual 88, 3) := by decide +kernel
theorem dL_law_201 : decode cL_law 201 = .ok (.iload 5, 2) := by decide +kernel
theorem dL_law_203 : decode cL_law 203 = .ok (.if_icmp .eq 5, 3) := by decide +kernel
theorem dL_law_206 : decode cL_law 206 = .ok (.iconst 0, 1) := by decide +kernel
theorem dL_law_207 : decode cL_law 207 = .ok (.ireturn, 1) := by decide +kernel
theorem dL_law_208 : decode cL_law 208 = .ok (.iload 5, 2) := by decide +kernel
theorem dL_law_210 : decode cL_law 210 = .ok (.ifCond .ne 15, 3) := by decide +kernel
theorem dL_law_213 : decode cL_law 213 = .ok (.aload_n 3, 1) := by decide +kernel
theorem dL_law_214 : decode cL_law 214 = .ok (.iconst 0, 1) := by decide +kernel
theorem dL_law_215 : decode cL_law 215 = .ok (.laload, 1) := by decide +kernel
theorem dL_law_216 : decode cL_law 216 = .ok (.iload 6, 2) := by decide +kernel
theorem dL_law_218 : decode cL_law 218 = .ok (.i2l, 1) := by decide +kernel
theorem dL_law_219 : decode cL_law 219 = .ok (.lcmp, 1) := by decide +kernel
theorem dL_law_220 : decode cL_law 220 = .ok (.ifCond .eq 5, 3) := by decide +kernel
theorem dL_law_223 : decode cL_law 223 = .ok (.iconst 0, 1) := by decide +kernel
theorem dL_law_224 : decode cL_law 224 = .ok (.ireturn, 1) := by decide +kernel
theorem dL_law_225 : decode cL_law 225 = .ok (.goto 1328, 3) := by decide +kernel
theorem dL_law_228 : decode cL_law 228 = .ok (.aload_n 1, 1) := by decide +kernel
theorem dL_law_229 : decode cL_law 229 = .ok (.aload_n 0, 1) := by decide +kernel
theorem dL_law_230 : decode cL_law 230 = .ok (.iload 4, 2) := by decide +kernel
theorem dL_law_232 : decode cL_law 232 = .ok (.iconst 1, 1) := by decide +kernel
theorem dL_law_233 : decode cL_law 233 = .ok (.iadd, 1) := by decide +kernel
theorem dL_law_234 : decode cL_law 234 = .ok (.iaload, 1) := by decide +kernel
theorem dL_law_235 : decode cL_law 235 = .ok (.aload_n 0, 1) := by decide +kernel
theorem dL_law_236 : decode cL_law 236 = .ok (.iload 4, 2) := by decide +kernel
theorem dL_law_238 : decode cL_law 238 = .ok (.iconst 2, 1) := by decide +kernel
theorem dL_law_239 : decode cL_law 239 = .ok (.iadd, 1) := by decide +kernel
theorem dL_law_240 : decode cL_law 240 = .ok (.iaload, 1) := by decide +kernel
theorem dL_law_241 : decode cL_law 241 = .ok (.aload_n 3, 1) := by decide +kernel
theorem dL_law_242 : decode cL_law 242 = .ok (.invokestatic 91, 3) := by decide +kernel
theorem dL_law_245 : decode cL_law 245 = .ok (.istore 5, 2) := by decide +kernel
theorem dL_law_247 : decode cL_law 247 = .ok (.aload_n 2, 1) := by decide +kernel
theorem dL_law_248 : decode cL_law 248 = .ok (.aload_n 0, 1) := by decide +kernel
theorem dL_law_249 : decode cL_law 249 = .ok (.iload 4, 2) := by decide +kernel
theorem dL_law_251 : decode cL_law 251 = .ok (.iconst 1, 1) := by decide +kernel
theorem dL_law_252 : decode cL_law 252 = .ok (.iadd, 1) := by decide +kernel
theorem dL_law_253 : decode cL_law 253 = .ok (.iaload, 1) := by decide +kernel
theorem dL_law_254 : decode cL_law 254 = .ok (.aload_n 0, 1) := by decide +kernel
theorem dL_law_255 : decode cL_law 255 = .ok (.iload 4, 2) := by decide +kernel
theorem dL_law_257 : decode cL_law 257 = .ok (.iconst 2, 1) := by decide +kernel
theorem dL_law_258 : decode cL_law 258 = .ok (.iadd, 1) := by decide +kernel
theorem dL_law_259 : decode cL_law 259 = .ok (.iaload, 1) := by decide +kernel
theorem dL_law_260 : decode cL_law 260 = .ok (.invokevirtual 94, 3) := by decide +kernel
theorem dL_law_263 : decode cL_law 263 = .ok (.istore 6, 2) := by decide +kernel
theorem dL_law_265 : decode cL_law 265 = .ok (.aload_n 2, 1) := by decide +kernel
theorem dL_law_266 : decode cL_law 266 = .ok (.invokevirtual 88, 3) := by decide +kernel
theorem dL_law_269 : decode cL_law 269 = .ok (.iload 5, 2) := by decide +kernel
theorem dL_law_271 : decode cL_law 271 = .ok (.if_icmp .eq 5, 3) := by decide +kernel
theorem dL_law_274 : decode cL_law 274 = .ok (.iconst 0, 1) := by decide +kernel
theorem dL_law_275 : decode cL_law 275 = .ok (.ireturn, 1) := by decide +kernel
theorem dL_law_276 : decode cL_law 276 = .ok (.iload 5, 2) := by decide +kernel
theorem dL_law_278 : decode cL_law 278 = .ok (.ifCond .ne 22, 3) := by decide +kernel
theorem dL_law_281 : decode cL_law 281 = .ok (.aload_n 3, 1) := by decide +kernel
theorem dL_law_282 : decode cL_law 282 = .ok (.iconst 0, 1) := by decide +kernel
theorem dL_law_283 : decode cL_law 283 = .ok (.laload, 1) := by decide +kernel
theorem dL_law_284 : decode cL_law 284 = .ok (.iload 6, 2) := by decide +kernel
theorem dL_law_286 : decode cL_law 286 = .ok (.ifCond .eq 7, 3) := by decide +kernel
theorem dL_law_289 : decode cL_law 289 = .ok (.lconst 1, 1) := by decide +kernel
theorem dL_law_290 : decode cL_law 290 = .ok (.goto 4, 3) := by decide +kernel
theorem dL_law_293 : decode cL_law 293 = .ok (.lconst 0, 1) := by decide +kernel
theorem dL_law_294 : decode cL_law 294 = .ok (.lcmp, 1) := by decide +kernel
theorem dL_law_295 : decode cL_law 295 = .ok (.ifCond .eq 5, 3) := by decide +kernel
theorem dL_law_298 : decode cL_law 298 = .ok (.iconst 0, 1) := by decide +kernel
theorem dL_law_299 : decode cL_law 299 = .ok (.ireturn, 1) := by decide +kernel
theorem dL_law_300 : decode cL_law 300 = .ok (.goto 1253, 3) := by decide +kernel
theorem dL_law_303 : decode cL_law 303 = .ok (.aload_n 1, 1) := by decide +kernel
theorem dL_law_304 : decode cL_law 304 = .ok (.aload_n 0, 1) := by decide +kernel
theorem dL_law_305 : decode cL_law 305 = .ok (.iload 4, 2) := by decide +kernel
theorem dL_law_307 : decode cL_law 307 = .ok (.iconst 1, 1) := by decide +kernel
theorem dL_law_308 : decode cL_law 308 = .ok (.iadd, 1) := by decide +kernel
theorem dL_law_309 : decode cL_law 309 = .ok (.iaload, 1) := by decide +kernel
theorem dL_law_310 : decode cL_law 310 = .ok (.aload_n 0, 1) := by decide +kernel
theorem dL_law_311 : decode cL_law 311 = .ok (.iload 4, 2) := by decide +kernel
theorem dL_law_313 : decode cL_law 313 = .ok (.iconst 2, 1) := by decide +kernel
theorem dL_law_314 : decode cL_law 314 = .ok (.iadd, 1) := by decide +kernel
theorem dL_law_315 : decode cL_law 315 = .ok (.iaload, 1) := by decide +kernel
theorem dL_law_316 : decode cL_law 316 = .ok (.aload_n 3, 1) := by decide +kernel
theorem dL_law_317 : decode cL_law 317 = .ok (.invokestatic 95, 3) := by decide +kernel
theorem dL_law_320 : decode cL_law 320 = .ok (.istore 5, 2) := by decide +kernel
theorem dL_law_322 : decode cL_law 322 = .ok (.aload_n 2, 1) := by decide +kernel
theorem dL_law_323 : decode cL_law 323 = .ok (.aload_n 0, 1) := by decide +kernel
theorem dL_law_324 : decode cL_law 324 = .ok (.iload 4, 2) := by decide +kernel
theorem dL_law_326 : decode cL_law 326 = .ok (.iconst 1, 1) := by decide +kernel
theorem dL_law_327 : decode cL_law 327 = .ok (.iadd, 1) := by decide +kernel
theorem dL_law_328 : decode cL_law 328 = .ok (.iaload, 1) := by decide +kernel
theorem dL_law_329 : decode cL_law 329 = .ok (.aload_n 0, 1) := by decide +kernel
theorem dL_law_330 : decode cL_law 330 = .ok (.iload 4, 2) := by decide +kernel
theorem dL_law_332 : decode cL_law 332 = .ok (.iconst 2, 1) := by decide +kernel
theorem dL_law_333 : decode cL_law 333 = .ok (.iadd, 1) := by decide +kernel
theorem dL_law_334 : decode cL_law 334 = .ok (.iaload, 1) := by decide +kernel
theorem dL_law_335 : decode cL_law 335 = .ok (.invokevirtual 97, 3) := by decide +kernel
theorem dL_law_338 : decode cL_law 338 = .ok (.istore 6, 2) := by decide +kernel
theorem dL_law_340 : decode cL_law 340 = .ok (.aload_n 2, 1) := by decide +kernel
theorem dL_law_341 : decode cL_law 341 = .ok (.invokevirtual 88, 3) := by decide +kernel
theorem dL_law_344 : decode cL_law 344 = .ok (.iload 5, 2) := by decide +kernel
theorem dL_law_346 : decode cL_law 346 = .ok (.if_icmp .eq 5, 3) := by decide +kernel
theorem dL_law_349 : decode cL_law 349 = .ok (.iconst 0, 1) := by decide +kernel
theorem dL_law_350 : decode cL_law 350 = .ok (.ireturn, 1) := by decide +kernel
theorem dL_law_351 : decode cL_law 351 = .ok (.iload 5, 2) := by decide +kernel
theorem dL_law_353 : decode cL_law 353 = .ok (.ifCond .ne 15, 3) := by decide +kernel
theorem dL_law_356 : decode cL_law 356 = .ok (.aload_n 3, 1) := by decide +kernel
theorem dL_law_357 : decode cL_law 357 = .ok (.iconst 0, 1) := by decide +kernel
theorem dL_law_358 : decode cL_law 358 = .ok (.laload, 1) := by decide +kernel
theorem dL_law_359 : decode cL_law 359 = .ok (.iload 6, 2) := by decide +kernel
theorem dL_law_361 : decode cL_law 361 = .ok (.i2l, 1) := by decide +kernel
theorem dL_law_362 : decode cL_law 362 = .ok (.lcmp, 1) := by decide +kernel
theorem dL_law_363 : decode cL_law 363 = .ok (.ifCond .eq 5, 3) := by decide +kernel
theorem dL_law_366 : decode cL_law 366 = .ok (.iconst 0, 1) := by decide +kernel
theorem dL_law_367 : decode cL_law 367 = .ok (.ireturn, 1) := by decide +kernel
theorem dL_law_368 : decode cL_law 368 = .ok (.goto 1185, 3) := by decide +kernel
theorem dL_law_371 : decode cL_law 371 = .ok (.aload_n 1, 1) := by decide +kernel
theorem dL_law_372 : decode cL_law 372 = .ok (.aload_n 3, 1) := by decide +kernel
theorem dL_law_373 : decode cL_law 373 = .ok (.invokestatic 98, 3) := by decide +kernel
theorem dL_law_376 : decode cL_law 376 = .ok (.istore 5, 2) := by decide +kernel
theorem dL_law_378 : decode cL_law 378 = .ok (.aload_n 2, 1) := by decide +kernel
theorem dL_law_379 : decode cL_law 379 = .ok (.invokevirtual 101, 3) := by decide +kernel
theorem dL_law_382 : decode cL_law 382 = .ok (.istore 6, 2) := by decide +kernel
theorem dL_law_384 : decode cL_law 384 = .ok (.aload_n 2, 1) := by decide +kernel
theorem dL_law_385 : decode cL_law 385 = .ok (.invokevirtual 88, 3) := by decide +kernel
theorem dL_law_388 : decode cL_law 388 = .ok (.iload 5, 2) := by decide +kernel
theorem dL_law_390 : decode cL_law 390 = .ok (.if_icmp .eq 5, 3) := by decide +kernel
theorem dL_law_393 : decode cL_law 393 = .ok (.iconst 0, 1) := by decide +kernel
theorem dL_law_394 : decode cL_law 394 = .ok (.ireturn, 1) := by decide +kernel
theorem dL_law_395 : decode cL_law 395 = .ok (.iload 5, 2) := by decide +kernel
theorem dL_law_397 : decode cL_law 397 = .ok (.ifCond .ne 15, 3) := by decide +kernel
theorem dL_law_400 : decode cL_law 400 = .ok (.aload_n 3, 1) := by decide +kernel
theorem dL_law_401 : decode cL_law 401 = .ok (.iconst 0, 1) := by decide +kernel
theorem dL_law_402 : decode cL_law 402 = .ok (.laload, 1) := by decide +kernel
theorem dL_law_403 : decode cL_law 403 = .ok (.iload 6, 2) := by decide +kernel
theorem dL_law_405 : decode cL_law 405 = .ok (.i2l, 1) := by decide +kernel
theorem dL_law_406 : decode cL_law 406 = .ok (.lcmp, 1) := by decide +kernel
theorem dL_law_407 : decode cL_law 407 = .ok (.ifCond .eq 5, 3) := by decide +kernel
theorem dL_law_410 : decode cL_law 410 = .ok (.iconst 0, 1) := by decide +kernel
theorem dL_law_411 : decode cL_law 411 = .ok (.ireturn, 1) := by decide +kernel
theorem dL_law_412 : decode cL_law 412 = .ok (.goto 1141, 3) := by decide +kernel
theorem dL_law_415 : decode cL_law 415 = .ok (.aload_n 1, 1) := by decide +kernel
theorem dL_law_416 : decode cL_law 416 = .ok (.aload_n 0, 1) := by decide +kernel
theorem dL_law_417 : decode cL_law 417 = .ok (.iload 4, 2) := by decide +kernel
theorem dL_law_419 : decode cL_law 419 = .ok (.iconst 1, 1) := by decide +kernel
theorem dL_law_420 : decode cL_law 420 = .ok (.iadd, 1) := by decide +kernel
theorem dL_law_421 : decode cL_law 421 = .ok (.iaload, 1) := by decide +kernel
theorem dL_law_422 : decode cL_law 422 = .ok (.aload_n 0, 1) := by decide +kernel
theorem dL_law_423 : decode cL_law 423 = .ok (.iload 4, 2) := by decide +kernel
theorem dL_law_425 : decode cL_law 425 = .ok (.iconst 2, 1) := by decide +kernel
theorem dL_law_426 : decode cL_law 426 = .ok (.iadd, 1) := by decide +kernel
theorem dL_law_427 : decode cL_law 427 = .ok (.iaload, 1) := by decide +kernel
theorem dL_law_428 : decode cL_law 428 = .ok (.aload_n 3, 1) := by decide +kernel
theorem dL_law_429 : decode cL_law 429 = .ok (.invokestatic 102, 3) := by decide +kernel
theorem dL_law_432 : decode cL_law 432 = .ok (.istore 5, 2) := by decide +kernel
theorem dL_law_434 : decode cL_law 434 = .ok (.aload_n 2, 1) := by decide +kernel
theorem dL_law_435 : decode cL_law 435 = .ok (.aload_n 0, 1) := by decide +kernel
theorem dL_law_436 : decode cL_law 436 = .ok (.iload 4, 2) := by decide +kernel
theorem dL_law_438 : decode cL_law 438 = .ok (.iconst 1, 1) := by decide +kernel
theorem dL_law_439 : decode cL_law 439 = .ok (.iadd, 1) := by decide +kernel
theorem dL_law_440 : decode cL_law 440 = .ok (.iaload, 1) := by decide +kernel
theorem dL_law_441 : decode cL_law 441 = .ok (.aload_n 0, 1) := by decide +kernel
theorem dL_law_442 : decode cL_law 442 = .ok (.iload 4, 2) := by decide +kernel
theorem dL_law_444 : decode cL_law 444 = .ok (.iconst 2, 1) := by decide +kernel
theorem dL_law_445 : decode cL_law 445 = .ok (.iadd, 1) := by decide +kernel
theorem dL_law_446 : decode cL_law 446 = .ok (.iaload, 1) := by decide +kernel
theorem dL_law_447 : decode cL_law 447 = .ok (.invokevirtual 104, 3) := by decide +kernel
theorem dL_law_450 : decode cL_law 450 = .ok (.istore 6, 2) := by decide +kernel
theorem dL_law_452 : decode cL_law 452 = .ok (.aload_n 2, 1) := by decide +kernel
theorem dL_law_453 : decode cL_law 453 = .ok (.invokevirtual 88, 3) := by decide +kernel
theorem dL_law_456 : decode cL_law 456 = .ok (.iload 5, 2) := by decide +kernel
theorem dL_law_458 : decode cL_law 458 = .ok (.if_icmp .eq 5, 3) := by decide +kernel
theorem dL_law_461 : decode cL_law 461 = .ok (.iconst 0, 1) := by decide +kernel
theorem dL_law_462 : decode cL_law 462 = .ok (.ireturn, 1) := by decide +kernel
theorem dL_law_463 : decode cL_law 463 = .ok (.iload 5, 2) := by decide +kernel
theorem dL_law_465 : decode cL_law 465 = .ok (.ifCond .ne 15, 3) := by decide +kernel
theorem dL_law_468 : decode cL_law 468 = .ok (.aload_n 3, 1) := by decide +kernel
theorem dL_law_469 : decode cL_law 469 = .ok (.iconst 0, 1) := by decide +kernel
theorem dL_law_470 : decode cL_law 470 = .ok (.laload, 1) := by decide +kernel
theorem dL_law_471 : decode cL_law 471 = .ok (.iload 6, 2) := by decide +kernel
theorem dL_law_473 : decode cL_law 473 = .ok (.i2l, 1) := by decide +kernel
theorem dL_law_474 : decode cL_law 474 = .ok (.lcmp, 1) := by decide +kernel
theorem dL_law_475 : decode cL_law 475 = .ok (.ifCond .eq 5, 3) := by decide +kernel
theorem dL_law_478 : decode cL_law 478 = .ok (.iconst 0, 1) := by decide +kernel
theorem dL_law_479 : decode cL_law 479 = .ok (.ireturn, 1) := by decide +kernel
theorem dL_law_480 : decode cL_law 480 = .ok (.goto 1073, 3) := by decide +kernel
theorem dL_law_483 : decode cL_law 483 = .ok (.aload_n 1, 1) := by decide +kernel
theorem dL_law_484 : decode cL_law 484 = .ok (.aload_n 0, 1) := by decide +kernel
theorem dL_law_485 : decode cL_law 485 = .ok (.iload 4, 2) := by decide +kernel
theorem dL_law_487 : decode cL_law 487 = .ok (.iconst 1, 1) := by decide +kernel
theorem dL_law_488 : decode cL_law 488 = .ok (.iadd, 1) := by decide +kernel
theorem dL_law_489 : decode cL_law 489 = .ok (.iaload, 1) := by decide +kernel
theorem dL_law_490 : decode cL_law 490 = .ok (.aload_n 0, 1) := by decide +kernel
theorem dL_law_491 : decode cL_law 491 = .ok (.iload 4, 2) := by decide +kernel
theorem dL_law_493 : decode cL_law 493 = .ok (.iconst 2, 1) := by decide +kernel
theorem dL_law_494 : decode cL_law 494 = .ok (.iadd, 1) := by decide +kernel
theorem dL_law_495 : decode cL_law 495 = .ok (.iaload, 1) := by decide +kernel
theorem dL_law_496 : decode cL_law 496 = .ok (.aload_n 3, 1) := by decide +kernel
theorem dL_law_497 : decode cL_law 497 = .ok (.invokestatic 105, 3) := by decide +kernel
theorem dL_law_500 : decode cL_law 500 = .ok (.istore 5, 2) := by decide +kernel
theorem dL_law_502 : decode cL_law 502 = .ok (.aload_n 2, 1) := by decide +kernel
theorem dL_law_503 : decode cL_law 503 = .ok (.aload_n 0, 1) := by decide +kernel
theorem dL_law_504 : decode cL_law 504 = .ok (.iload 4, 2) := by decide +kernel
theorem dL_law_506 : decode cL_law 506 = .ok (.iconst 1, 1) := by decide +kernel
theorem dL_law_507 : decode cL_law 507 = .ok (.iadd, 1) := by decide +kernel
theorem dL_law_508 : decode cL_law 508 = .ok (.iaload, 1) := by decide +kernel
theorem dL_law_509 : decode cL_law 509 = .ok (.aload_n 0, 1) := by decide +kernel
theorem dL_law_510 : decode cL_law 510 = .ok (.iload 4, 2) := by decide +kernel
theorem dL_law_512 : decode cL_law 512 = .ok (.iconst 2, 1) := by decide +kernel
theorem dL_law_513 : decode cL_law 513 = .ok (.iadd, 1) := by decide +kernel
theorem dL_law_514 : decode cL_law 514 = .ok (.iaload, 1) := by decide +kernel
theorem dL_law_515 : decode cL_law 515 = .ok (.invokevirtual 107, 3) := by decide +kernel
theorem dL_law_518 : decode cL_law 518 = .ok (.istore 6, 2) := by decide +kernel
theorem dL_law_520 : decode cL_law 520 = .ok (.aload_n 2, 1) := by decide +kernel
theorem dL_law_521 : decode cL_law 521 = .ok (.invokevirtual 88, 3) := by decide +kernel
theorem dL_law_524 : decode cL_law 524 = .ok (.iload 5, 2) := by decide +kernel
theorem dL_law_526 : decode cL_law 526 = .ok (.if_icmp .eq 5, 3) := by decide +kernel
theorem dL_law_529 : decode cL_law 529 = .ok (.iconst 0, 1) := by decide +kernel
theorem dL_law_530 : decode cL_law 530 = .ok (.ireturn, 1) := by decide +kernel
theorem dL_law_531 : decode cL_law 531 = .ok (.iload 5, 2) := by decide +kernel
theorem dL_law_533 : decode cL_law 533 = .ok (.ifCond .ne 15, 3) := by decide +kernel
theorem dL_law_536 : decode cL_law 536 = .ok (.aload_n 3, 1) := by decide +kernel
theorem dL_law_537 : decode cL_law 537 = .ok (.iconst 0, 1) := by decide +kernel
theorem dL_law_538 : decode cL_law 538 = .ok (.laload, 1) := by decide +kernel
theorem dL_law_539 : decode cL_law 539 = .ok (.iload 6, 2) := by decide +kernel
theorem dL_law_541 : decode cL_law 541 = .ok (.i2l, 1) := by decide +kernel
theorem dL_law_542 : decode cL_law 542 = .ok (.lcmp, 1) := by decide +kernel
theorem dL_law_543 : decode cL_law 543 = .ok (.ifCond .eq 5, 3) := by decide +kernel
theorem dL_law_546 : decode cL_law 546 = .ok (.iconst 0, 1) := by decide +kernel
theorem dL_law_547 : decode cL_law 547 = .ok (.ireturn, 1) := by decide +kernel
theorem dL_law_548 : decode cL_law 548 = .ok (.goto 1005, 3) := by decide +kernel
theorem dL_law_551 : decode cL_law 551 = .ok (.aload_n 1, 1) := by decide +kernel
theorem dL_law_552 : decode cL_law 552 = .ok (.invokevirtual 108, 3) := by decide +kernel
theorem dL_law_555 : decode cL_law 555 = .ok (.aload_n 2, 1) := by decide +kernel
theorem dL_law_556 : decode cL_law 556 = .ok (.invokevirtual 111, 3) := by decide +kernel
theorem dL_law_559 : decode cL_law 559 = .ok (.if_icmp .eq 994, 3) := by decide +kernel
theorem dL_law_562 : decode cL_law 562 = .ok (.iconst 0, 1) := by decide +kernel
theorem dL_law_563 : decode cL_law 563 = .ok (.ireturn, 1) := by decide +kernel
theorem dL_law_564 : decode cL_law 564 = .ok (.aload_n 1, 1) := by decide +kernel
theorem dL_law_565 : decode cL_law 565 = .ok (.invokevirtual 112, 3) := by decide +kernel
theorem dL_law_568 : decode cL_law 568 = .ok (.aload_n 2, 1) := by decide +kernel
theorem dL_law_569 : decode cL_law 569 = .ok (.invokevirtual 115, 3) := by decide +kernel
theorem dL_law_572 : decode cL_law 572 = .ok (.if_icmp .eq 981, 3) := by decide +kernel
theorem dL_law_575 : decode cL_law 575 = .ok (.iconst 0, 1) := by decide +kernel
theorem dL_law_576 : decode cL_law 576 = .ok (.ireturn, 1) := by decide +kernel
theorem dL_law_577 : decode cL_law 577 = .ok (.aload_n 1, 1) := by decide +kernel
theorem dL_law_578 : decode cL_law 578 = .ok (.invokevirtual 116, 3) := by decide +kernel
theorem dL_law_581 : decode cL_law 581 = .ok (.aload_n 2, 1) := by decide +kernel
theorem dL_law_582 : decode cL_law 582 = .ok (.invokevirtual 119, 3) := by decide +kernel
theorem dL_law_585 : decode cL_law 585 = .ok (.if_icmp .eq 968, 3) := by decide +kernel
theorem dL_law_588 : decode cL_law 588 = .ok (.iconst 0, 1) := by decide +kernel
theorem dL_law_589 : decode cL_law 589 = .ok (.ireturn, 1) := by decide +kernel
theorem dL_law_590 : decode cL_law 590 = .ok (.aload_n 1, 1) := by decide +kernel
theorem dL_law_591 : decode cL_law 591 = .ok (.invokevirtual 120, 3) := by decide +kernel
theorem dL_law_594 : decode cL_law 594 = .ok (.aload_n 2, 1) := by decide +kernel
theorem dL_law_595 : decode cL_law 595 = .ok (.invokevirtual 123, 3) := by decide +kernel
theorem dL_law_598 : decode cL_law 598 = .ok (.if_icmp .eq 955, 3) := by decide +kernel
theorem dL_law_601 : decode cL_law 601 = .ok (.iconst 0, 1) := by decide +kernel
theorem dL_law_602 : decode cL_law 602 = .ok (.ireturn, 1) := by decide +kernel
theorem dL_law_603 : decode cL_law 603 = .ok (.aload_n 1, 1) := by decide +kernel
theorem dL_law_604 : decode cL_law 604 = .ok (.invokevirtual 124, 3) := by decide +kernel
theorem dL_law_607 : decode cL_law 607 = .ok (.aload_n 2, 1) := by decide +kernel
theorem dL_law_608 : decode cL_law 608 = .ok (.invokevirtual 127, 3) := by decide +kernel
theorem dL_law_611 : decode cL_law 611 = .ok (.if_icmp .eq 942, 3) := by decide +kernel
theorem dL_law_614 : decode cL_law 614 = .ok (.iconst 0, 1) := by decide +kernel
theorem dL_law_615 : decode cL_law 615 = .ok (.ireturn, 1) := by decide +kernel
theorem dL_law_616 : decode cL_law 616 = .ok (.aload_n 1, 1) := by decide +kernel
theorem dL_law_617 : decode cL_law 617 = .ok (.aload_n 0, 1) := by decide +kernel
theorem dL_law_618 : decode cL_law 618 = .ok (.iload 4, 2) := by decide +kernel
theorem dL_law_620 : decode cL_law 620 = .ok (.iconst 1, 1) := by decide +kernel
theorem dL_law_621 : decode cL_law 621 = .ok (.iadd, 1) := by decide +kernel
theorem dL_law_622 : decode cL_law 622 = .ok (.iaload, 1) := by decide +kernel
theorem dL_law_623 : decode cL_law 623 = .ok (.aload_n 3, 1) := by decide +kernel
theorem dL_law_624 : decode cL_law 624 = .ok (.invokestatic 128, 3) := by decide +kernel
theorem dL_law_627 : decode cL_law 627 = .ok (.istore 5, 2) := by decide +kernel
theorem dL_law_629 : decode cL_law 629 = .ok (.aload_n 2, 1) := by decide +kernel
theorem dL_law_630 : decode cL_law 630 = .ok (.aload_n 0, 1) := by decide +kernel
theorem dL_law_631 : decode cL_law 631 = .ok (.iload 4, 2) := by decide +kernel
theorem dL_law_633 : decode cL_law 633 = .ok (.iconst 1, 1) := by decide +kernel
theorem dL_law_634 : decode cL_law 634 = .ok (.iadd, 1) := by decide +kernel
theorem dL_law_635 : decode cL_law 635 = .ok (.iaload, 1) := by decide +kernel
theorem dL_law_636 : decode cL_law 636 = .ok (.invokevirtual 130, 3) := by decide +kernel
theorem dL_law_639 : decode cL_law 639 = .ok (.istore 6, 2) := by decide +kernel
theorem dL_law_641 : decode cL_law 641 = .ok (.aload_n 2, 1) := by decide +kernel
theorem dL_law_642 : decode cL_law 642 = .ok (.invokevirtual 88, 3) := by decide +kernel
theorem dL_law_645 : decode cL_law 645 = .ok (.iload 5, 2) := by decide +kernel
theorem dL_law_647 : decode cL_law 647 = .ok (.if_icmp .eq 5, 3) := by decide +kernel
theorem dL_law_650 : decode cL_law 650 = .ok (.iconst 0, 1) := by decide +kernel
theorem dL_law_651 : decode cL_law 651 = .ok (.ireturn, 1) := by decide +kernel
theorem dL_law_652 : decode cL_law 652 = .ok (.iload 5, 2) := by decide +kernel
theorem dL_law_654 : decode cL_law 654 = .ok (.ifCond .ne 15, 3) := by decide +kernel
theorem dL_law_657 : decode cL_law 657 = .ok (.aload_n 3, 1) := by decide +kernel
theorem dL_law_658 : decode cL_law 658 = .ok (.iconst 0, 1) := by decide +kernel
theorem dL_law_659 : decode cL_law 659 = .ok (.laload, 1) := by decide +kernel
theorem dL_law_660 : decode cL_law 660 = .ok (.iload 6, 2) := by decide +kernel
theorem dL_law_662 : decode cL_law 662 = .ok (.i2l, 1) := by decide +kernel
theorem dL_law_663 : decode cL_law 663 = .ok (.lcmp, 1) := by decide +kernel
theorem dL_law_664 : decode cL_law 664 = .ok (.ifCond .eq 5, 3) := by decide +kernel
theorem dL_law_667 : decode cL_law 667 = .ok (.iconst 0, 1) := by decide +kernel
theorem dL_law_668 : decode cL_law 668 = .ok (.ireturn, 1) := by decide +kernel
theorem dL_law_669 : decode cL_law 669 = .ok (.goto 884, 3) := by decide +kernel
theorem dL_law_672 : decode cL_law 672 = .ok (.aload_n 1, 1) := by decide +kernel
theorem dL_law_673 : decode cL_law 673 = .ok (.aload_n 0, 1) := by decide +kernel
theorem dL_law_674 : decode cL_law 674 = .ok (.iload 4, 2) := by decide +kernel
theorem dL_law_676 : decode cL_law 676 = .ok (.iconst 1, 1) := by decide +kernel
theorem dL_law_677 : decode cL_law 677 = .ok (.iadd, 1) := by decide +kernel
theorem dL_law_678 : decode cL_law 678 = .ok (.iaload, 1) := by decide +kernel
theorem dL_law_679 : decode cL_law 679 = .ok (.aload_n 0, 1) := by decide +kernel
theorem dL_law_680 : decode cL_law 680 = .ok (.iload 4, 2) := by decide +kernel
theorem dL_law_682 : decode cL_law 682 = .ok (.iconst 2, 1) := by decide +kernel
theorem dL_law_683 : decode cL_law 683 = .ok (.iadd, 1) := by decide +kernel
theorem dL_law_684 : decode cL_law 684 = .ok (.iaload, 1) := by decide +kernel
theorem dL_law_685 : decode cL_law 685 = .ok (.aload_n 3, 1) := by decide +kernel
theorem dL_law_686 : decode cL_law 686 = .ok (.invokestatic 131, 3) := by decide +kernel
theorem dL_law_689 : decode cL_law 689 = .ok (.istore 5, 2) := by decide +kernel
theorem dL_law_691 : decode cL_law 691 = .ok (.aload_n 2, 1) := by decide +kernel
theorem dL_law_692 : decode cL_law 692 = .ok (.aload_n 0, 1) := by decide +kernel
theorem dL_law_693 : decode cL_law 693 = .ok (.iload 4, 2) := by decide +kernel
theorem dL_law_695 : decode cL_law 695 = .ok (.iconst 1, 1) := by decide +kernel
theorem dL_law_696 : decode cL_law 696 = .ok (.iadd, 1) := by decide +kernel
theorem dL_law_697 : decode cL_law 697 = .ok (.iaload, 1) := by decide +kernel
theorem dL_law_698 : decode cL_law 698 = .ok (.aload_n 0, 1) := by decide +kernel
theorem dL_law_699 : decode cL_law 699 = .ok (.iload 4, 2) := by decide +kernel
theorem dL_law_701 : decode cL_law 701 = .ok (.iconst 2, 1) := by decide +kernel
theorem dL_law_702 : decode cL_law 702 = .ok (.iadd, 1) := by decide +kernel
theorem dL_law_703 : decode cL_law 703 = .ok (.iaload, 1) := by decide +kernel
theorem dL_law_704 : decode cL_law 704 = .ok (.invokevirtual 133, 3) := by decide +kernel
theorem dL_law_707 : decode cL_law 707 = .ok (.istore 6, 2) := by decide +kernel
theorem dL_law_709 : decode cL_law 709 = .ok (.aload_n 2, 1) := by decide +kernel
theorem dL_law_710 : decode cL_law 710 = .ok (.invokevirtual 88, 3) := by decide +kernel
theorem dL_law_713 : decode cL_law 713 = .ok (.iload 5, 2) := by decide +kernel
theorem dL_law_715 : decode cL_law 715 = .ok (.if_icmp .eq 5, 3) := by decide +kernel
theorem dL_law_718 : decode cL_law 718 = .ok (.iconst 0, 1) := by decide +kernel
theorem dL_law_719 : decode cL_law 719 = .ok (.ireturn, 1) := by decide +kernel
theorem dL_law_720 : decode cL_law 720 = .ok (.iload 5, 2) := by decide +kernel
theorem dL_law_722 : decode cL_law 722 = .ok (.ifCond .ne 22, 3) := by decide +kernel
theorem dL_law_725 : decode cL_law 725 = .ok (.aload_n 3, 1) := by decide +kernel
theorem dL_law_726 : decode cL_law 726 = .ok (.iconst 0, 1) := by decide +kernel
theorem dL_law_727 : decode cL_law 727 = .ok (.laload, 1) := by decide +kernel
theorem dL_law_728 : decode cL_law 728 = .ok (.iload 6, 2) := by decide +kernel
theorem dL_law_730 : decode cL_law 730 = .ok (.ifCond .eq 7, 3) := by decide +kernel
theorem dL_law_733 : decode cL_law 733 = .ok (.lconst 1, 1) := by decide +kernel
theorem dL_law_734 : decode cL_law 734 = .ok (.goto 4, 3) := by decide +kernel
theorem dL_law_737 : decode cL_law 737 = .ok (.lconst 0, 1) := by decide +kernel
theorem dL_law_738 : decode cL_law 738 = .ok (.lcmp, 1) := by decide +kernel
theorem dL_law_739 : decode cL_law 739 = .ok (.ifCond .eq 5, 3) := by decide +kernel
theorem dL_law_742 : decode cL_law 742 = .ok (.iconst 0, 1) := by decide +kernel
theorem dL_law_743 : decode cL_law 743 = .ok (.ireturn, 1) := by decide +kernel
theorem dL_law_744 : decode cL_law 744 = .ok (.goto 809, 3) := by decide +kernel
theorem dL_law_747 : decode cL_law 747 = .ok (.aload_n 1, 1) := by decide +kernel
theorem dL_law_748 : decode cL_law 748 = .ok (.aload_n 0, 1) := by decide +kernel
theorem dL_law_749 : decode cL_law 749 = .ok (.iload 4, 2) := by decide +kernel
theorem dL_law_751 : decode cL_law 751 = .ok (.iconst 1, 1) := by decide +kernel
theorem dL_law_752 : decode cL_law 752 = .ok (.iadd, 1) := by decide +kernel
theorem dL_law_753 : decode cL_law 753 = .ok (.iaload, 1) := by decide +kernel
theorem dL_law_754 : decode cL_law 754 = .ok (.aload_n 3, 1) := by decide +kernel
theorem dL_law_755 : decode cL_law 755 = .ok (.invokestatic 134, 3) := by decide +kernel
theorem dL_law_758 : decode cL_law 758 = .ok (.istore 5, 2) := by decide +kernel
theorem dL_law_760 : decode cL_law 760 = .ok (.aload_n 2, 1) := by decide +kernel
theorem dL_law_761 : decode cL_law 761 = .ok (.aload_n 0, 1) := by decide +kernel
theorem dL_law_762 : decode cL_law 762 = .ok (.iload 4, 2) := by decide +kernel
theorem dL_law_764 : decode cL_law 764 = .ok (.iconst 1, 1) := by decide +kernel
theorem dL_law_765 : decode cL_law 765 = .ok (.iadd, 1) := by decide +kernel
theorem dL_law_766 : decode cL_law 766 = .ok (.iaload, 1) := by decide +kernel
theorem dL_law_767 : decode cL_law 767 = .ok (.invokevirtual 136, 3) := by decide +kernel
theorem dL_law_770 : decode cL_law 770 = .ok (.istore 6, 2) := by decide +kernel
theorem dL_law_772 : decode cL_law 772 = .ok (.aload_n 2, 1) := by decide +kernel
theorem dL_law_773 : decode cL_law 773 = .ok (.invokevirtual 88, 3) := by decide +kernel
theorem dL_law_776 : decode cL_law 776 = .ok (.iload 5, 2) := by decide +kernel
theorem dL_law_778 : decode cL_law 778 = .ok (.if_icmp .eq 5, 3) := by decide +kernel
theorem dL_law_781 : decode cL_law 781 = .ok (.iconst 0, 1) := by decide +kernel
theorem dL_law_782 : decode cL_law 782 = .ok (.ireturn, 1) := by decide +kernel
theorem dL_law_783 : decode cL_law 783 = .ok (.iload 5, 2) := by decide +kernel
theorem dL_law_785 : decode cL_law 785 = .ok (.ifCond .ne 15, 3) := by decide +kernel
theorem dL_law_788 : decode cL_law 788 = .ok (.aload_n 3, 1) := by decide +kernel
theorem dL_law_789 : decode cL_law 789 = .ok (.iconst 0, 1) := by decide +kernel
theorem dL_law_790 : decode cL_law 790 = .ok (.laload, 1) := by decide +kernel
theorem dL_law_791 : decode cL_law 791 = .ok (.iload 6, 2) := by decide +kernel
theorem dL_law_793 : decode cL_law 793 = .ok (.i2l, 1) := by decide +kernel
theorem dL_law_794 : decode cL_law 794 = .ok (.lcmp, 1) := by decide +kernel
theorem dL_law_795 : decode cL_law 795 = .ok (.ifCond .eq 5, 3) := by decide +kernel
theorem dL_law_798 : decode cL_law 798 = .ok (.iconst 0, 1) := by decide +kernel
theorem dL_law_799 : decode cL_law 799 = .ok (.ireturn, 1) := by decide +kernel
theorem dL_law_800 : decode cL_law 800 = .ok (.goto 753, 3) := by decide +kernel
theorem dL_law_803 : decode cL_law 803 = .ok (.aload_n 1, 1) := by decide +kernel
theorem dL_law_804 : decode cL_law 804 = .ok (.invokevirtual 137, 3) := by decide +kernel
theorem dL_law_807 : decode cL_law 807 = .ok (.aload_n 2, 1) := by decide +kernel
theorem dL_law_808 : decode cL_law 808 = .ok (.invokevirtual 140, 3) := by decide +kernel
theorem dL_law_811 : decode cL_law 811 = .ok (.if_icmp .eq 742, 3) := by decide +kernel
theorem dL_law_814 : decode cL_law 814 = .ok (.iconst 0, 1) := by decide +kernel
theorem dL_law_815 : decode cL_law 815 = .ok (.ireturn, 1) := by decide +kernel
theorem dL_law_816 : decode cL_law 816 = .ok (.aload_n 1, 1) := by decide +kernel
theorem dL_law_817 : decode cL_law 817 = .ok (.aload_n 0, 1) := by decide +kernel
theorem dL_law_818 : decode cL_law 818 = .ok (.iload 4, 2) := by decide +kernel
theorem dL_law_820 : decode cL_law 820 = .ok (.iconst 1, 1) := by decide +kernel
theorem dL_law_821 : decode cL_law 821 = .ok (.iadd, 1) := by decide +kernel
theorem dL_law_822 : decode cL_law 822 = .ok (.iaload, 1) := by decide +kernel
theorem dL_law_823 : decode cL_law 823 = .ok (.aload_n 0, 1) := by decide +kernel
theorem dL_law_824 : decode cL_law 824 = .ok (.iload 4, 2) := by decide +kernel
theorem dL_law_826 : decode cL_law 826 = .ok (.iconst 2, 1) := by decide +kernel
theorem dL_law_827 : decode cL_law 827 = .ok (.iadd, 1) := by decide +kernel
theorem dL_law_828 : decode cL_law 828 = .ok (.iaload, 1) := by decide +kernel
theorem dL_law_829 : decode cL_law 829 = .ok (.aload_n 3, 1) := by decide +kernel
theorem dL_law_830 : decode cL_law 830 = .ok (.invokestatic 141, 3) := by decide +kernel
theorem dL_law_833 : decode cL_law 833 = .ok (.istore 5, 2) := by decide +kernel
theorem dL_law_835 : decode cL_law 835 = .ok (.aload_n 2, 1) := by decide +kernel
theorem dL_law_836 : decode cL_law 836 = .ok (.aload_n 0, 1) := by decide +kernel
theorem dL_law_837 : decode cL_law 837 = .ok (.iload 4, 2) := by decide +kernel
theorem dL_law_839 : decode cL_law 839 = .ok (.iconst 1, 1) := by decide +kernel
theorem dL_law_840 : decode cL_law 840 = .ok (.iadd, 1) := by decide +kernel
theorem dL_law_841 : decode cL_law 841 = .ok (.iaload, 1) := by decide +kernel
theorem dL_law_842 : decode cL_law 842 = .ok (.aload_n 0, 1) := by decide +kernel
theorem dL_law_843 : decode cL_law 843 = .ok (.iload 4, 2) := by decide +kernel
theorem dL_law_845 : decode cL_law 845 = .ok (.iconst 2, 1) := by decide +kernel
theorem dL_law_846 : decode cL_law 846 = .ok (.iadd, 1) := by decide +kernel
theorem dL_law_847 : decode cL_law 847 = .ok (.iaload, 1) := by decide +kernel
theorem dL_law_848 : decode cL_law 848 = .ok (.invokevirtual 143, 3) := by decide +kernel
theorem dL_law_851 : decode cL_law 851 = .ok (.istore 6, 2) := by decide +kernel
theorem dL_law_853 : decode cL_law 853 = .ok (.aload_n 2, 1) := by decide +kernel
theorem dL_law_854 : decode cL_law 854 = .ok (.invokevirtual 88, 3) := by decide +kernel
theorem dL_law_857 : decode cL_law 857 = .ok (.iload 5, 2) := by decide +kernel
theorem dL_law_859 : decode cL_law 859 = .ok (.if_icmp .eq 5, 3) := by decide +kernel
theorem dL_law_862 : decode cL_law 862 = .ok (.iconst 0, 1) := by decide +kernel
theorem dL_law_863 : decode cL_law 863 = .ok (.ireturn, 1) := by decide +kernel
theorem dL_law_864 : decode cL_law 864 = .ok (.iload 5, 2) := by decide +kernel
theorem dL_law_866 : decode cL_law 866 = .ok (.ifCond .ne 15, 3) := by decide +kernel
theorem dL_law_869 : decode cL_law 869 = .ok (.aload_n 3, 1) := by decide +kernel
theorem dL_law_870 : decode cL_law 870 = .ok (.iconst 0, 1) := by decide +kernel
theorem dL_law_871 : decode cL_law 871 = .ok (.laload, 1) := by decide +kernel
theorem dL_law_872 : decode cL_law 872 = .ok (.iload 6, 2) := by decide +kernel
theorem dL_law_874 : decode cL_law 874 = .ok (.i2l, 1) := by decide +kernel
theorem dL_law_875 : decode cL_law 875 = .ok (.lcmp, 1) := by decide +kernel
theorem dL_law_876 : decode cL_law 876 = .ok (.ifCond .eq 5, 3) := by decide +kernel
theorem dL_law_879 : decode cL_law 879 = .ok (.iconst 0, 1) := by decide +kernel
theorem dL_law_880 : decode cL_law 880 = .ok (.ireturn, 1) := by decide +kernel
theorem dL_law_881 : decode cL_law 881 = .ok (.goto 672, 3) := by decide +kernel
theorem dL_law_884 : decode cL_law 884 = .ok (.aload_n 1, 1) := by decide +kernel
theorem dL_law_885 : decode cL_law 885 = .ok (.aload_n 0, 1) := by decide +kernel
theorem dL_law_886 : decode cL_law 886 = .ok (.iload 4, 2) := by decide +kernel
theorem dL_law_888 : decode cL_law 888 = .ok (.iconst 1, 1) := by decide +kernel
theorem dL_law_889 : decode cL_law 889 = .ok (.iadd, 1) := by decide +kernel
theorem dL_law_890 : decode cL_law 890 = .ok (.iaload, 1) := by decide +kernel
theorem dL_law_891 : decode cL_law 891 = .ok (.aload_n 3, 1) := by decide +kernel
theorem dL_law_892 : decode cL_law 892 = .ok (.invokestatic 144, 3) := by decide +kernel
theorem dL_law_895 : decode cL_law 895 = .ok (.istore 5, 2) := by decide +kernel
theorem dL_law_897 : decode cL_law 897 = .ok (.aload_n 2, 1) := by decide +kernel
theorem dL_law_898 : decode cL_law 898 = .ok (.aload_n 0, 1) := by decide +kernel
theorem dL_law_899 : decode cL_law 899 = .ok (.iload 4, 2) := by decide +kernel
theorem dL_law_901 : decode cL_law 901 = .ok (.iconst 1, 1) := by decide +kernel
theorem dL_law_902 : decode cL_law 902 = .ok (.iadd, 1) := by decide +kernel
theorem dL_law_903 : decode cL_law 903 = .ok (.iaload, 1) := by decide +kernel
theorem dL_law_904 : decode cL_law 904 = .ok (.invokevirtual 146, 3) := by decide +kernel
theorem dL_law_907 : decode cL_law 907 = .ok (.istore 6, 2) := by decide +kernel
theorem dL_law_909 : decode cL_law 909 = .ok (.aload_n 2, 1) := by decide +kernel
theorem dL_law_910 : decode cL_law 910 = .ok (.invokevirtual 88, 3) := by decide +kernel
theorem dL_law_913 : decode cL_law 913 = .ok (.iload 5, 2) := by decide +kernel
theorem dL_law_915 : decode cL_law 915 = .ok (.if_icmp .eq 5, 3) := by decide +kernel
theorem dL_law_918 : decode cL_law 918 = .ok (.iconst 0, 1) := by decide +kernel
theorem dL_law_919 : decode cL_law 919 = .ok (.ireturn, 1) := by decide +kernel
theorem dL_law_920 : decode cL_law 920 = .ok (.iload 5, 2) := by decide +kernel
theorem dL_law_922 : decode cL_law 922 = .ok (.ifCond .ne 22, 3) := by decide +kernel
theorem dL_law_925 : decode cL_law 925 = .ok (.aload_n 3, 1) := by decide +kernel
theorem dL_law_926 : decode cL_law 926 = .ok (.iconst 0, 1) := by decide +kernel
theorem dL_law_927 : decode cL_law 927 = .ok (.laload, 1) := by decide +kernel
theorem dL_law_928 : decode cL_law 928 = .ok (.iload 6, 2) := by decide +kernel
theorem dL_law_930 : decode cL_law 930 = .ok (.ifCond .eq 7, 3) := by decide +kernel
theorem dL_law_933 : decode cL_law 933 = .ok (.lconst 1, 1) := by decide +kernel
theorem dL_law_934 : decode cL_law 934 = .ok (.goto 4, 3) := by decide +kernel
theorem dL_law_937 : decode cL_law 937 = .ok (.lconst 0, 1) := by decide +kernel
theorem dL_law_938 : decode cL_law 938 = .ok (.lcmp, 1) := by decide +kernel
theorem dL_law_939 : decode cL_law 939 = .ok (.ifCond .eq 5, 3) := by decide +kernel
theorem dL_law_942 : decode cL_law 942 = .ok (.iconst 0, 1) := by decide +kernel
theorem dL_law_943 : decode cL_law 943 = .ok (.ireturn, 1) := by decide +kernel
theorem dL_law_944 : decode cL_law 944 = .ok (.goto 609, 3) := by decide +kernel
theorem dL_law_947 : decode cL_law 947 = .ok (.aload_n 1, 1) := by decide +kernel
theorem dL_law_948 : decode cL_law 948 = .ok (.aload_n 0, 1) := by decide +kernel
theorem dL_law_949 : decode cL_law 949 = .ok (.iload 4, 2) := by decide +kernel
theorem dL_law_951 : decode cL_law 951 = .ok (.iconst 1, 1) := by decide +kernel
theorem dL_law_952 : decode cL_law 952 = .ok (.iadd, 1) := by decide +kernel
theorem dL_law_953 : decode cL_law 953 = .ok (.iaload, 1) := by decide +kernel
theorem dL_law_954 : decode cL_law 954 = .ok (.aload_n 3, 1) := by decide +kernel
theorem dL_law_955 : decode cL_law 955 = .ok (.invokestatic 147, 3) := by decide +kernel
theorem dL_law_958 : decode cL_law 958 = .ok (.istore 5, 2) := by decide +kernel
theorem dL_law_960 : decode cL_law 960 = .ok (.aload_n 2, 1) := by decide +kernel
theorem dL_law_961 : decode cL_law 961 = .ok (.aload_n 0, 1) := by decide +kernel
theorem dL_law_962 : decode cL_law 962 = .ok (.iload 4, 2) := by decide +kernel
theorem dL_law_964 : decode cL_law 964 = .ok (.iconst 1, 1) := by decide +kernel
theorem dL_law_965 : decode cL_law 965 = .ok (.iadd, 1) := by decide +kernel
theorem dL_law_966 : decode cL_law 966 = .ok (.iaload, 1) := by decide +kernel
theorem dL_law_967 : decode cL_law 967 = .ok (.invokevirtual 149, 3) := by decide +kernel
theorem dL_law_970 : decode cL_law 970 = .ok (.istore 6, 2) := by decide +kernel
theorem dL_law_972 : decode cL_law 972 = .ok (.aload_n 2, 1) := by decide +kernel
theorem dL_law_973 : decode cL_law 973 = .ok (.invokevirtual 88, 3) := by decide +kernel
theorem dL_law_976 : decode cL_law 976 = .ok (.iload 5, 2) := by decide +kernel
theorem dL_law_978 : decode cL_law 978 = .ok (.if_icmp .eq 5, 3) := by decide +kernel
theorem dL_law_981 : decode cL_law 981 = .ok (.iconst 0, 1) := by decide +kernel
theorem dL_law_982 : decode cL_law 982 = .ok (.ireturn, 1) := by decide +kernel
theorem dL_law_983 : decode cL_law 983 = .ok (.iload 5, 2) := by decide +kernel
theorem dL_law_985 : decode cL_law 985 = .ok (.ifCond .ne 15, 3) := by decide +kernel
theorem dL_law_988 : decode cL_law 988 = .ok (.aload_n 3, 1) := by decide +kernel
theorem dL_law_989 : decode cL_law 989 = .ok (.iconst 0, 1) := by decide +kernel
theorem dL_law_990 : decode cL_law 990 = .ok (.laload, 1) := by decide +kernel
theorem dL_law_991 : decode cL_law 991 = .ok (.iload 6, 2) := by decide +kernel
theorem dL_law_993 : decode cL_law 993 = .ok (.i2l, 1) := by decide +kernel
theorem dL_law_994 : decode cL_law 994 = .ok (.lcmp, 1) := by decide +kernel
theorem dL_law_995 : decode cL_law 995 = .ok (.ifCond .eq 5, 3) := by decide +kernel
theorem dL_law_998 : decode cL_law 998 = .ok (.iconst 0, 1) := by decide +kernel
theorem dL_law_999 : decode cL_law 999 = .ok (.ireturn, 1) := by decide +kernel
theorem dL_law_1000 : decode cL_law 1000 = .ok (.goto 553, 3) := by decide +kernel
theorem dL_law_1003 : decode cL_law 1003 = .ok (.aload_n 1, 1) := by decide +kernel
theorem dL_law_1004 : decode cL_law 1004 = .ok (.aload_n 0, 1) := by decide +kernel
theorem dL_law_1005 : decode cL_law 1005 = .ok (.iload 4, 2) := by decide +kernel
theorem dL_law_1007 : decode cL_law 1007 = .ok (.iconst 1, 1) := by decide +kernel
theorem dL_law_1008 : decode cL_law 1008 = .ok (.iadd, 1) := by decide +kernel
theorem dL_law_1009 : decode cL_law 1009 = .ok (.iaload, 1) := by decide +kernel
theorem dL_law_1010 : decode cL_law 1010 = .ok (.aload_n 0, 1) := by decide +kernel
theorem dL_law_1011 : decode cL_law 1011 = .ok (.iload 4, 2) := by decide +kernel
theorem dL_law_1013 : decode cL_law 1013 = .ok (.iconst 2, 1) := by decide +kernel
theorem dL_law_1014 : decode cL_law 1014 = .ok (.iadd, 1) := by decide +kernel
theorem dL_law_1015 : decode cL_law 1015 = .ok (.iaload, 1) := by decide +kernel
theorem dL_law_1016 : decode cL_law 1016 = .ok (.aload_n 0, 1) := by decide +kernel
theorem dL_law_1017 : decode cL_law 1017 = .ok (.iload 4, 2) := by decide +kernel
theorem dL_law_1019 : decode cL_law 1019 = .ok (.iconst 3, 1) := by decide +kernel
theorem dL_law_1020 : decode cL_law 1020 = .ok (.iadd, 1) := by decide +kernel
theorem dL_law_1021 : decode cL_law 1021 = .ok (.iaload, 1) := by decide +kernel
theorem dL_law_1022 : decode cL_law 1022 = .ok (.aload_n 3, 1) := by decide +kernel
theorem dL_law_1023 : decode cL_law 1023 = .ok (.invokestatic 150, 3) := by decide +kernel
theorem dL_law_1026 : decode cL_law 1026 = .ok (.istore 5, 2) := by decide +kernel
theorem dL_law_1028 : decode cL_law 1028 = .ok (.aload_n 2, 1) := by decide +kernel
theorem dL_law_1029 : decode cL_law 1029 = .ok (.aload_n 0, 1) := by decide +kernel
theorem dL_law_1030 : decode cL_law 1030 = .ok (.iload 4, 2) := by decide +kernel
theorem dL_law_1032 : decode cL_law 1032 = .ok (.iconst 1, 1) := by decide +kernel
theorem dL_law_1033 : decode cL_law 1033 = .ok (.iadd, 1) := by decide +kernel
theorem dL_law_1034 : decode cL_law 1034 = .ok (.iaload, 1) := by decide +kernel
theorem dL_law_1035 : decode cL_law 1035 = .ok (.aload_n 0, 1) := by decide +kernel
theorem dL_law_1036 : decode cL_law 1036 = .ok (.iload 4, 2) := by decide +kernel
theorem dL_law_1038 : decode cL_law 1038 = .ok (.iconst 2, 1) := by decide +kernel
theorem dL_law_1039 : decode cL_law 1039 = .ok (.iadd, 1) := by decide +kernel
theorem dL_law_1040 : decode cL_law 1040 = .ok (.iaload, 1) := by decide +kernel
theorem dL_law_1041 : decode cL_law 1041 = .ok (.aload_n 0, 1) := by decide +kernel
theorem dL_law_1042 : decode cL_law 1042 = .ok (.iload 4, 2) := by decide +kernel
theorem dL_law_1044 : decode cL_law 1044 = .ok (.iconst 3, 1) := by decide +kernel
theorem dL_law_1045 : decode cL_law 1045 = .ok (.iadd, 1) := by decide +kernel
theorem dL_law_1046 : decode cL_law 1046 = .ok (.iaload, 1) := by decide +kernel
theorem dL_law_1047 : decode cL_law 1047 = .ok (.invokevirtual 153, 3) := by decide +kernel
theorem dL_law_1050 : decode cL_law 1050 = .ok (.istore 6, 2) := by decide +kernel
theorem dL_law_1052 : decode cL_law 1052 = .ok (.aload_n 2, 1) := by decide +kernel
theorem dL_law_1053 : decode cL_law 1053 = .ok (.invokevirtual 88, 3) := by decide +kernel
theorem dL_law_1056 : decode cL_law 1056 = .ok (.iload 5, 2) := by decide +kernel
theorem dL_law_1058 : decode cL_law 1058 = .ok (.if_icmp .eq 5, 3) := by decide +kernel
theorem dL_law_1061 : decode cL_law 1061 = .ok (.iconst 0, 1) := by decide +kernel
theorem dL_law_1062 : decode cL_law 1062 = .ok (.ireturn, 1) := by decide +kernel
theorem dL_law_1063 : decode cL_law 1063 = .ok (.iload 5, 2) := by decide +kernel
theorem dL_law_1065 : decode cL_law 1065 = .ok (.ifCond .ne 22, 3) := by decide +kernel
theorem dL_law_1068 : decode cL_law 1068 = .ok (.aload_n 3, 1) := by decide +kernel
theorem dL_law_1069 : decode cL_law 1069 = .ok (.iconst 0, 1) := by decide +kernel
theorem dL_law_1070 : decode cL_law 1070 = .ok (.laload, 1) := by decide +kernel
theorem dL_law_1071 : decode cL_law 1071 = .ok (.iload 6, 2) := by decide +kernel
theorem dL_law_1073 : decode cL_law 1073 = .ok (.ifCond .eq 7, 3) := by decide +kernel
theorem dL_law_1076 : decode cL_law 1076 = .ok (.lconst 1, 1) := by decide +kernel
theorem dL_law_1077 : decode cL_law 1077 = .ok (.goto 4, 3) := by decide +kernel
theorem dL_law_1080 : decode cL_law 1080 = .ok (.lconst 0, 1) := by decide +kernel
theorem dL_law_1081 : decode cL_law 1081 = .ok (.lcmp, 1) := by decide +kernel
theorem dL_law_1082 : decode cL_law 1082 = .ok (.ifCond .eq 5, 3) := by decide +kernel
theorem dL_law_1085 : decode cL_law 1085 = .ok (.iconst 0, 1) := by decide +kernel
theorem dL_law_1086 : decode cL_law 1086 = .ok (.ireturn, 1) := by decide +kernel
theorem dL_law_1087 : decode cL_law 1087 = .ok (.goto 466, 3) := by decide +kernel
theorem dL_law_1090 : decode cL_law 1090 = .ok (.aload_n 1, 1) := by decide +kernel
theorem dL_law_1091 : decode cL_law 1091 = .ok (.aload_n 0, 1) := by decide +kernel
theorem dL_law_1092 : decode cL_law 1092 = .ok (.iload 4, 2) := by decide +kernel
theorem dL_law_1094 : decode cL_law 1094 = .ok (.iconst 1, 1) := by decide +kernel
theorem dL_law_1095 : decode cL_law 1095 = .ok (.iadd, 1) := by decide +kernel
theorem dL_law_1096 : decode cL_law 1096 = .ok (.iaload, 1) := by decide +kernel
theorem dL_law_1097 : decode cL_law 1097 = .ok (.aload_n 3, 1) := by decide +kernel
theorem dL_law_1098 : decode cL_law 1098 = .ok (.invokestatic 154, 3) := by decide +kernel
theorem dL_law_1101 : decode cL_law 1101 = .ok (.istore 5, 2) := by decide +kernel
theorem dL_law_1103 : decode cL_law 1103 = .ok (.aload_n 2, 1) := by decide +kernel
theorem dL_law_1104 : decode cL_law 1104 = .ok (.aload_n 0, 1) := by decide +kernel
theorem dL_law_1105 : decode cL_law 1105 = .ok (.iload 4, 2) := by decide +kernel
theorem dL_law_1107 : decode cL_law 1107 = .ok (.iconst 1, 1) := by decide +kernel
theorem dL_law_1108 : decode cL_law 1108 = .ok (.iadd, 1) := by decide +kernel
theorem dL_law_1109 : decode cL_law 1109 = .ok (.iaload, 1) := by decide +kernel
theorem dL_law_1110 : decode cL_law 1110 = .ok (.invokevirtual 156, 3) := by decide +kernel
theorem dL_law_1113 : decode cL_law 1113 = .ok (.istore 6, 2) := by decide +kernel
theorem dL_law_1115 : decode cL_law 1115 = .ok (.aload_n 2, 1) := by decide +kernel
theorem dL_law_1116 : decode cL_law 1116 = .ok (.invokevirtual 88, 3) := by decide +kernel
theorem dL_law_1119 : decode cL_law 1119 = .ok (.iload 5, 2) := by decide +kernel
theorem dL_law_1121 : decode cL_law 1121 = .ok (.if_icmp .eq 5, 3) := by decide +kernel
theorem dL_law_1124 : decode cL_law 1124 = .ok (.iconst 0, 1) := by decide +kernel
theorem dL_law_1125 : decode cL_law 1125 = .ok (.ireturn, 1) := by decide +kernel
theorem dL_law_1126 : decode cL_law 1126 = .ok (.iload 5, 2) := by decide +kernel
theorem dL_law_1128 : decode cL_law 1128 = .ok (.ifCond .ne 22, 3) := by decide +kernel
theorem dL_law_1131 : decode cL_law 1131 = .ok (.aload_n 3, 1) := by decide +kernel
theorem dL_law_1132 : decode cL_law 1132 = .ok (.iconst 0, 1) := by decide +kernel
theorem dL_law_1133 : decode cL_law 1133 = .ok (.laload, 1) := by decide +kernel
theorem dL_law_1134 : decode cL_law 1134 = .ok (.iload 6, 2) := by decide +kernel
theorem dL_law_1136 : decode cL_law 1136 = .ok (.ifCond .eq 7, 3) := by decide +kernel
theorem dL_law_1139 : decode cL_law 1139 = .ok (.lconst 1, 1) := by decide +kernel
theorem dL_law_1140 : decode cL_law 1140 = .ok (.goto 4, 3) := by decide +kernel
theorem dL_law_1143 : decode cL_law 1143 = .ok (.lconst 0, 1) := by decide +kernel
theorem dL_law_1144 : decode cL_law 1144 = .ok (.lcmp, 1) := by decide +kernel
theorem dL_law_1145 : decode cL_law 1145 = .ok (.ifCond .eq 5, 3) := by decide +kernel
theorem dL_law_1148 : decode cL_law 1148 = .ok (.iconst 0, 1) := by decide +kernel
theorem dL_law_1149 : decode cL_law 1149 = .ok (.ireturn, 1) := by decide +kernel
theorem dL_law_1150 : decode cL_law 1150 = .ok (.goto 403, 3) := by decide +kernel
theorem dL_law_1153 : decode cL_law 1153 = .ok (.aload_n 1, 1) := by decide +kernel
theorem dL_law_1154 : decode cL_law 1154 = .ok (.aload_n 0, 1) := by decide +kernel
theorem dL_law_1155 : decode cL_law 1155 = .ok (.iload 4, 2) := by decide +kernel
theorem dL_law_1157 : decode cL_law 1157 = .ok (.iconst 1, 1) := by decide +kernel
theorem dL_law_1158 : decode cL_law 1158 = .ok (.iadd, 1) := by decide +kernel
theorem dL_law_1159 : decode cL_law 1159 = .ok (.iaload, 1) := by decide +kernel
theorem dL_law_1160 : decode cL_law 1160 = .ok (.aload_n 0, 1) := by decide +kernel
theorem dL_law_1161 : decode cL_law 1161 = .ok (.iload 4, 2) := by decide +kernel
theorem dL_law_1163 : decode cL_law 1163 = .ok (.iconst 2, 1) := by decide +kernel
theorem dL_law_1164 : decode cL_law 1164 = .ok (.iadd, 1) := by decide +kernel
theorem dL_law_1165 : decode cL_law 1165 = .ok (.iaload, 1) := by decide +kernel
theorem dL_law_1166 : decode cL_law 1166 = .ok (.aload_n 3, 1) := by decide +kernel
theorem dL_law_1167 : decode cL_law 1167 = .ok (.invokestatic 157, 3) := by decide +kernel
theorem dL_law_1170 : decode cL_law 1170 = .ok (.istore 5, 2) := by decide +kernel
theorem dL_law_1172 : decode cL_law 1172 = .ok (.aload_n 2, 1) := by decide +kernel
theorem dL_law_1173 : decode cL_law 1173 = .ok (.aload_n 0, 1) := by decide +kernel
theorem dL_law_1174 : decode cL_law 1174 = .ok (.iload 4, 2) := by decide +kernel
theorem dL_law_1176 : decode cL_law 1176 = .ok (.iconst 1, 1) := by decide +kernel
theorem dL_law_1177 : decode cL_law 1177 = .ok (.iadd, 1) := by decide +kernel
theorem dL_law_1178 : decode cL_law 1178 = .ok (.iaload, 1) := by decide +kernel
theorem dL_law_1179 : decode cL_law 1179 = .ok (.aload_n 0, 1) := by decide +kernel
theorem dL_law_1180 : decode cL_law 1180 = .ok (.iload 4, 2) := by decide +kernel
theorem dL_law_1182 : decode cL_law 1182 = .ok (.iconst 2, 1) := by decide +kernel
theorem dL_law_1183 : decode cL_law 1183 = .ok (.iadd, 1) := by decide +kernel
theorem dL_law_1184 : decode cL_law 1184 = .ok (.iaload, 1) := by decide +kernel
theorem dL_law_1185 : decode cL_law 1185 = .ok (.invokevirtual 159, 3) := by decide +kernel
theorem dL_law_1188 : decode cL_law 1188 = .ok (.istore 6, 2) := by decide +kernel
theorem dL_law_1190 : decode cL_law 1190 = .ok (.aload_n 2, 1) := by decide +kernel
theorem dL_law_1191 : decode cL_law 1191 = .ok (.invokevirtual 88, 3) := by decide +kernel
theorem dL_law_1194 : decode cL_law 1194 = .ok (.iload 5, 2) := by decide +kernel
theorem dL_law_1196 : decode cL_law 1196 = .ok (.if_icmp .eq 5, 3) := by decide +kernel
theorem dL_law_1199 : decode cL_law 1199 = .ok (.iconst 0, 1) := by decide +kernel
theorem dL_law_1200 : decode cL_law 1200 = .ok (.ireturn, 1) := by decide +kernel
theorem dL_law_1201 : decode cL_law 1201 = .ok (.iload 5, 2) := by decide +kernel
theorem dL_law_1203 : decode cL_law 1203 = .ok (.ifCond .ne 22, 3) := by decide +kernel
theorem dL_law_1206 : decode cL_law 1206 = .ok (.aload_n 3, 1) := by decide +kernel
theorem dL_law_1207 : decode cL_law 1207 = .ok (.iconst 0, 1) := by decide +kernel
theorem dL_law_1208 : decode cL_law 1208 = .ok (.laload, 1) := by decide +kernel
theorem dL_law_1209 : decode cL_law 1209 = .ok (.iload 6, 2) := by decide +kernel
theorem dL_law_1211 : decode cL_law 1211 = .ok (.ifCond .eq 7, 3) := by decide +kernel
theorem dL_law_1214 : decode cL_law 1214 = .ok (.lconst 1, 1) := by decide +kernel
theorem dL_law_1215 : decode cL_law 1215 = .ok (.goto 4, 3) := by decide +kernel
theorem dL_law_1218 : decode cL_law 1218 = .ok (.lconst 0, 1) := by decide +kernel
theorem dL_law_1219 : decode cL_law 1219 = .ok (.lcmp, 1) := by decide +kernel
theorem dL_law_1220 : decode cL_law 1220 = .ok (.ifCond .eq 5, 3) := by decide +kernel
theorem dL_law_1223 : decode cL_law 1223 = .ok (.iconst 0, 1) := by decide +kernel
theorem dL_law_1224 : decode cL_law 1224 = .ok (.ireturn, 1) := by decide +kernel
theorem dL_law_1225 : decode cL_law 1225 = .ok (.goto 328, 3) := by decide +kernel
theorem dL_law_1228 : decode cL_law 1228 = .ok (.aload_n 1, 1) := by decide +kernel
theorem dL_law_1229 : decode cL_law 1229 = .ok (.aload_n 0, 1) := by decide +kernel
theorem dL_law_1230 : decode cL_law 1230 = .ok (.iload 4, 2) := by decide +kernel
theorem dL_law_1232 : decode cL_law 1232 = .ok (.iconst 1, 1) := by decide +kernel
theorem dL_law_1233 : decode cL_law 1233 = .ok (.iadd, 1) := by decide +kernel
theorem dL_law_1234 : decode cL_law 1234 = .ok (.iaload, 1) := by decide +kernel
theorem dL_law_1235 : decode cL_law 1235 = .ok (.aload_n 0, 1) := by decide +kernel
theorem dL_law_1236 : decode cL_law 1236 = .ok (.iload 4, 2) := by decide +kernel
theorem dL_law_1238 : decode cL_law 1238 = .ok (.iconst 2, 1) := by decide +kernel
theorem dL_law_1239 : decode cL_law 1239 = .ok (.iadd, 1) := by decide +kernel
theorem dL_law_1240 : decode cL_law 1240 = .ok (.iaload, 1) := by decide +kernel
theorem dL_law_1241 : decode cL_law 1241 = .ok (.aload_n 3, 1) := by decide +kernel
theorem dL_law_1242 : decode cL_law 1242 = .ok (.invokestatic 160, 3) := by decide +kernel
theorem dL_law_1245 : decode cL_law 1245 = .ok (.istore 5, 2) := by decide +kernel
theorem dL_law_1247 : decode cL_law 1247 = .ok (.aload_n 2, 1) := by decide +kernel
theorem dL_law_1248 : decode cL_law 1248 = .ok (.aload_n 0, 1) := by decide +kernel
theorem dL_law_1249 : decode cL_law 1249 = .ok (.iload 4, 2) := by decide +kernel
theorem dL_law_1251 : decode cL_law 1251 = .ok (.iconst 1, 1) := by decide +kernel
theorem dL_law_1252 : decode cL_law 1252 = .ok (.iadd, 1) := by decide +kernel
theorem dL_law_1253 : decode cL_law 1253 = .ok (.iaload, 1) := by decide +kernel
theorem dL_law_1254 : decode cL_law 1254 = .ok (.aload_n 0, 1) := by decide +kernel
theorem dL_law_1255 : decode cL_law 1255 = .ok (.iload 4, 2) := by decide +kernel
theorem dL_law_1257 : decode cL_law 1257 = .ok (.iconst 2, 1) := by decide +kernel
theorem dL_law_1258 : decode cL_law 1258 = .ok (.iadd, 1) := by decide +kernel
theorem dL_law_1259 : decode cL_law 1259 = .ok (.iaload, 1) := by decide +kernel
theorem dL_law_1260 : decode cL_law 1260 = .ok (.invokevirtual 162, 3) := by decide +kernel
theorem dL_law_1263 : decode cL_law 1263 = .ok (.istore 6, 2) := by decide +kernel
theorem dL_law_1265 : decode cL_law 1265 = .ok (.aload_n 2, 1) := by decide +kernel
theorem dL_law_1266 : decode cL_law 1266 = .ok (.invokevirtual 88, 3) := by decide +kernel
theorem dL_law_1269 : decode cL_law 1269 = .ok (.iload 5, 2) := by decide +kernel
theorem dL_law_1271 : decode cL_law 1271 = .ok (.if_icmp .eq 5, 3) := by decide +kernel
theorem dL_law_1274 : decode cL_law 1274 = .ok (.iconst 0, 1) := by decide +kernel
theorem dL_law_1275 : decode cL_law 1275 = .ok (.ireturn, 1) := by decide +kernel
theorem dL_law_1276 : decode cL_law 1276 = .ok (.iload 5, 2) := by decide +kernel
theorem dL_law_1278 : decode cL_law 1278 = .ok (.ifCond .ne 22, 3) := by decide +kernel
theorem dL_law_1281 : decode cL_law 1281 = .ok (.aload_n 3, 1) := by decide +kernel
theorem dL_law_1282 : decode cL_law 1282 = .ok (.iconst 0, 1) := by decide +kernel
theorem dL_law_1283 : decode cL_law 1283 = .ok (.laload, 1) := by decide +kernel
theorem dL_law_1284 : decode cL_law 1284 = .ok (.iload 6, 2) := by decide +kernel
theorem dL_law_1286 : decode cL_law 1286 = .ok (.ifCond .eq 7, 3) := by decide +kernel
theorem dL_law_1289 : decode cL_law 1289 = .ok (.lconst 1, 1) := by decide +kernel
theorem dL_law_1290 : decode cL_law 1290 = .ok (.goto 4, 3) := by decide +kernel
theorem dL_law_1293 : decode cL_law 1293 = .ok (.lconst 0, 1) := by decide +kernel
theorem dL_law_1294 : decode cL_law 1294 = .ok (.lcmp, 1) := by decide +kernel
theorem dL_law_1295 : decode cL_law 1295 = .ok (.ifCond .eq 5, 3) := by decide +kernel
theorem dL_law_1298 : decode cL_law 1298 = .ok (.iconst 0, 1) := by decide +kernel
theorem dL_law_1299 : decode cL_law 1299 = .ok (.ireturn, 1) := by decide +kernel
theorem dL_law_1300 : decode cL_law 1300 = .ok (.goto 253, 3) := by decide +kernel
theorem dL_law_1303 : decode cL_law 1303 = .ok (.aload_n 1, 1) := by decide +kernel
theorem dL_law_1304 : decode cL_law 1304 = .ok (.invokevirtual 163, 3) := by decide +kernel
theorem dL_law_1307 : decode cL_law 1307 = .ok (.aload_n 2, 1) := by decide +kernel
theorem dL_law_1308 : decode cL_law 1308 = .ok (.invokevirtual 166, 3) := by decide +kernel
theorem dL_law_1311 : decode cL_law 1311 = .ok (.if_icmp .eq 242, 3) := by decide +kernel
theorem dL_law_1314 : decode cL_law 1314 = .ok (.iconst 0, 1) := by decide +kernel
theorem dL_law_1315 : decode cL_law 1315 = .ok (.ireturn, 1) := by decide +kernel
theorem dL_law_1316 : decode cL_law 1316 = .ok (.aload_n 1, 1) := by decide +kernel
theorem dL_law_1317 : decode cL_law 1317 = .ok (.aload_n 3, 1) := by decide +kernel
theorem dL_law_1318 : decode cL_law 1318 = .ok (.invokestatic 167, 3) := by decide +kernel
theorem dL_law_1321 : decode cL_law 1321 = .ok (.istore 5, 2) := by decide +kernel
theorem dL_law_1323 : decode cL_law 1323 = .ok (.aload_n 2, 1) := by decide +kernel
theorem dL_law_1324 : decode cL_law 1324 = .ok (.invokevirtual 169, 3) := by decide +kernel
theorem dL_law_1327 : decode cL_law 1327 = .ok (.istore 6, 2) := by decide +kernel
theorem dL_law_1329 : decode cL_law 1329 = .ok (.aload_n 2, 1) := by decide +kernel
theorem dL_law_1330 : decode cL_law 1330 = .ok (.invokevirtual 88, 3) := by decide +kernel
theorem dL_law_1333 : decode cL_law 1333 = .ok (.iload 5, 2) := by decide +kernel
theorem dL_law_1335 : decode cL_law 1335 = .ok (.if_icmp .eq 5, 3) := by decide +kernel
theorem dL_law_1338 : decode cL_law 1338 = .ok (.iconst 0, 1) := by decide +kernel
theorem dL_law_1339 : decode cL_law 1339 = .ok (.ireturn, 1) := by decide +kernel
theorem dL_law_1340 : decode cL_law 1340 = .ok (.iload 5, 2) := by decide +kernel
theorem dL_law_1342 : decode cL_law 1342 = .ok (.ifCond .ne 15, 3) := by decide +kernel
theorem dL_law_1345 : decode cL_law 1345 = .ok (.aload_n 3, 1) := by decide +kernel
theorem dL_law_1346 : decode cL_law 1346 = .ok (.iconst 0, 1) := by decide +kernel
theorem dL_law_1347 : decode cL_law 1347 = .ok (.laload, 1) := by decide +kernel
theorem dL_law_1348 : decode cL_law 1348 = .ok (.iload 6, 2) := by decide +kernel
theorem dL_law_1350 : decode cL_law 1350 = .ok (.i2l, 1) := by decide +kernel
theorem dL_law_1351 : decode cL_law 1351 = .ok (.lcmp, 1) := by decide +kernel
theorem dL_law_1352 : decode cL_law 1352 = .ok (.ifCond .eq 5, 3) := by decide +kernel
theorem dL_law_1355 : decode cL_law 1355 = .ok (.iconst 0, 1) := by decide +kernel
theorem dL_law_1356 : decode cL_law 1356 = .ok (.ireturn, 1) := by decide +kernel
theorem dL_law_1357 : decode cL_law 1357 = .ok (.goto 196, 3) := by decide +kernel
theorem dL_law_1360 : decode cL_law 1360 = .ok (.aload_n 1, 1) := by decide +kernel
theorem dL_law_1361 : decode cL_law 1361 = .ok (.aload_n 0, 1) := by decide +kernel
theorem dL_law_1362 : decode cL_law 1362 = .ok (.iload 4, 2) := by decide +kernel
theorem dL_law_1364 : decode cL_law 1364 = .ok (.iconst 1, 1) := by decide +kernel
theorem dL_law_1365 : decode cL_law 1365 = .ok (.iadd, 1) := by decide +kernel
theorem dL_law_1366 : decode cL_law 1366 = .ok (.iaload, 1) := by decide +kernel
theorem dL_law_1367 : decode cL_law 1367 = .ok (.aload_n 3, 1) := by decide +kernel
theorem dL_law_1368 : decode cL_law 1368 = .ok (.invokestatic 170, 3) := by decide +kernel
theorem dL_law_1371 : decode cL_law 1371 = .ok (.istore 5, 2) := by decide +kernel
theorem dL_law_1373 : decode cL_law 1373 = .ok (.aload_n 2, 1) := by decide +kernel
theorem dL_law_1374 : decode cL_law 1374 = .ok (.aload_n 0, 1) := by decide +kernel
theorem dL_law_1375 : decode cL_law 1375 = .ok (.iload 4, 2) := by decide +kernel
theorem dL_law_1377 : decode cL_law 1377 = .ok (.iconst 1, 1) := by decide +kernel
theorem dL_law_1378 : decode cL_law 1378 = .ok (.iadd, 1) := by decide +kernel
theorem dL_law_1379 : decode cL_law 1379 = .ok (.iaload, 1) := by decide +kernel
theorem dL_law_1380 : decode cL_law 1380 = .ok (.invokevirtual 172, 3) := by decide +kernel
theorem dL_law_1383 : decode cL_law 1383 = .ok (.istore 6, 2) := by decide +kernel
theorem dL_law_1385 : decode cL_law 1385 = .ok (.aload_n 2, 1) := by decide +kernel
theorem dL_law_1386 : decode cL_law 1386 = .ok (.invokevirtual 88, 3) := by decide +kernel
theorem dL_law_1389 : decode cL_law 1389 = .ok (.iload 5, 2) := by decide +kernel
theorem dL_law_1391 : decode cL_law 1391 = .ok (.if_icmp .eq 5, 3) := by decide +kernel
theorem dL_law_1394 : decode cL_law 1394 = .ok (.iconst 0, 1) := by decide +kernel
theorem dL_law_1395 : decode cL_law 1395 = .ok (.ireturn, 1) := by decide +kernel
theorem dL_law_1396 : decode cL_law 1396 = .ok (.iload 5, 2) := by decide +kernel
theorem dL_law_1398 : decode cL_law 1398 = .ok (.ifCond .ne 15, 3) := by decide +kernel
theorem dL_law_1401 : decode cL_law 1401 = .ok (.aload_n 3, 1) := by decide +kernel
theorem dL_law_1402 : decode cL_law 1402 = .ok (.iconst 0, 1) := by decide +kernel
theorem dL_law_1403 : decode cL_law 1403 = .ok (.laload, 1) := by decide +kernel
theorem dL_law_1404 : decode cL_law 1404 = .ok (.iload 6, 2) := by decide +kernel
theorem dL_law_1406 : decode cL_law 1406 = .ok (.i2l, 1) := by decide +kernel
theorem dL_law_1407 : decode cL_law 1407 = .ok (.lcmp, 1) := by decide +kernel
theorem dL_law_1408 : decode cL_law 1408 = .ok (.ifCond .eq 5, 3) := by decide +kernel
theorem dL_law_1411 : decode cL_law 1411 = .ok (.iconst 0, 1) := by decide +kernel
theorem dL_law_1412 : decode cL_law 1412 = .ok (.ireturn, 1) := by decide +kernel
theorem dL_law_1413 : decode cL_law 1413 = .ok (.goto 140, 3) := by decide +kernel
theorem dL_law_1416 : decode cL_law 1416 = .ok (.aload_n 1, 1) := by decide +kernel
theorem dL_law_1417 : decode cL_law 1417 = .ok (.invokevirtual 173, 3) := by decide +kernel
theorem dL_law_1420 : decode cL_law 1420 = .ok (.aload_n 2, 1) := by decide +kernel
theorem dL_law_1421 : decode cL_law 1421 = .ok (.invokevirtual 176, 3) := by decide +kernel
theorem dL_law_1424 : decode cL_law 1424 = .ok (.if_icmp .eq 129, 3) := by decide +kernel
theorem dL_law_1427 : decode cL_law 1427 = .ok (.iconst 0, 1) := by decide +kernel
theorem dL_law_1428 : decode cL_law 1428 = .ok (.ireturn, 1) := by decide +kernel
theorem dL_law_1429 : decode cL_law 1429 = .ok (.aload_n 1, 1) := by decide +kernel
theorem dL_law_1430 : decode cL_law 1430 = .ok (.invokevirtual 177, 3) := by decide +kernel
theorem dL_law_1433 : decode cL_law 1433 = .ok (.aload_n 2, 1) := by decide +kernel
theorem dL_law_1434 : decode cL_law 1434 = .ok (.invokevirtual 180, 3) := by decide +kernel
theorem dL_law_1437 : decode cL_law 1437 = .ok (.if_icmp .eq 116, 3) := by decide +kernel
theorem dL_law_1440 : decode cL_law 1440 = .ok (.iconst 0, 1) := by decide +kernel
theorem dL_law_1441 : decode cL_law 1441 = .ok (.ireturn, 1) := by decide +kernel
theorem dL_law_1442 : decode cL_law 1442 = .ok (.aload_n 1, 1) := by decide +kernel
theorem dL_law_1443 : decode cL_law 1443 = .ok (.aload_n 0, 1) := by decide +kernel
theorem dL_law_1444 : decode cL_law 1444 = .ok (.iload 4, 2) := by decide +kernel
theorem dL_law_1446 : decode cL_law 1446 = .ok (.iconst 1, 1) := by decide +kernel
theorem dL_law_1447 : decode cL_law 1447 = .ok (.iadd, 1) := by decide +kernel
theorem dL_law_1448 : decode cL_law 1448 = .ok (.iaload, 1) := by decide +kernel
theorem dL_law_1449 : decode cL_law 1449 = .ok (.aload_n 3, 1) := by decide +kernel
theorem dL_law_1450 : decode cL_law 1450 = .ok (.invokestatic 181, 3) := by decide +kernel
theorem dL_law_1453 : decode cL_law 1453 = .ok (.istore 5, 2) := by decide +kernel
theorem dL_law_1455 : decode cL_law 1455 = .ok (.aload_n 2, 1) := by decide +kernel
theorem dL_law_1456 : decode cL_law 1456 = .ok (.aload_n 0, 1) := by decide +kernel
theorem dL_law_1457 : decode cL_law 1457 = .ok (.iload 4, 2) := by decide +kernel
theorem dL_law_1459 : decode cL_law 1459 = .ok (.iconst 1, 1) := by decide +kernel
theorem dL_law_1460 : decode cL_law 1460 = .ok (.iadd, 1) := by decide +kernel
theorem dL_law_1461 : decode cL_law 1461 = .ok (.iaload, 1) := by decide +kernel
theorem dL_law_1462 : decode cL_law 1462 = .ok (.invokevirtual 183, 3) := by decide +kernel
theorem dL_law_1465 : decode cL_law 1465 = .ok (.istore 6, 2) := by decide +kernel
theorem dL_law_1467 : decode cL_law 1467 = .ok (.aload_n 2, 1) := by decide +kernel
theorem dL_law_1468 : decode cL_law 1468 = .ok (.invokevirtual 88, 3) := by decide +kernel
theorem dL_law_1471 : decode cL_law 1471 = .ok (.iload 5, 2) := by decide +kernel
theorem dL_law_1473 : decode cL_law 1473 = .ok (.if_icmp .eq 5, 3) := by decide +kernel
theorem dL_law_1476 : decode cL_law 1476 = .ok (.iconst 0, 1) := by decide +kernel
theorem dL_law_1477 : decode cL_law 1477 = .ok (.ireturn, 1) := by decide +kernel
theorem dL_law_1478 : decode cL_law 1478 = .ok (.iload 5, 2) := by decide +kernel
theorem dL_law_1480 : decode cL_law 1480 = .ok (.ifCond .ne 15, 3) := by decide +kernel
theorem dL_law_1483 : decode cL_law 1483 = .ok (.aload_n 3, 1) := by decide +kernel
theorem dL_law_1484 : decode cL_law 1484 = .ok (.iconst 0, 1) := by decide +kernel
theorem dL_law_1485 : decode cL_law 1485 = .ok (.laload, 1) := by decide +kernel
theorem dL_law_1486 : decode cL_law 1486 = .ok (.iload 6, 2) := by decide +kernel
theorem dL_law_1488 : decode cL_law 1488 = .ok (.i2l, 1) := by decide +kernel
theorem dL_law_1489 : decode cL_law 1489 = .ok (.lcmp, 1) := by decide +kernel
theorem dL_law_1490 : decode cL_law 1490 = .ok (.ifCond .eq 5, 3) := by decide +kernel
theorem dL_law_1493 : decode cL_law 1493 = .ok (.iconst 0, 1) := by decide +kernel
theorem dL_law_1494 : decode cL_law 1494 = .ok (.ireturn, 1) := by decide +kernel
theorem dL_law_1495 : decode cL_law 1495 = .ok (.goto 58, 3) := by decide +kernel
theorem dL_law_1498 : decode cL_law 1498 = .ok (.aload_n 1, 1) := by decide +kernel
theorem dL_law_1499 : decode cL_law 1499 = .ok (.invokevirtual 184, 3) := by decide +kernel
theorem dL_law_1502 : decode cL_law 1502 = .ok (.dstore 5, 2) := by decide +kernel
theorem dL_law_1504 : decode cL_law 1504 = .ok (.aload_n 2, 1) := by decide +kernel
theorem dL_law_1505 : decode cL_law 1505 = .ok (.invokevirtual 188, 3) := by decide +kernel
theorem dL_law_1508 : decode cL_law 1508 = .ok (.dstore 7, 2) := by decide +kernel
theorem dL_law_1510 : decode cL_law 1510 = .ok (.dload 5, 2) := by decide +kernel
theorem dL_law_1512 : decode cL_law 1512 = .ok (.dload 7, 2) := by decide +kernel
theorem dL_law_1514 : decode cL_law 1514 = .ok (.dcmp .l, 1) := by decide +kernel
theorem dL_law_1515 : decode cL_law 1515 = .ok (.ifCond .eq 21, 3) := by decide +kernel
theorem dL_law_1518 : decode cL_law 1518 = .ok (.dload 5, 2) := by decide +kernel
theorem dL_law_1520 : decode cL_law 1520 = .ok (.dload 5, 2) := by decide +kernel
theorem dL_law_1522 : decode cL_law 1522 = .ok (.dcmp .l, 1) := by decide +kernel
theorem dL_law_1523 : decode cL_law 1523 = .ok (.ifCond .eq 11, 3) := by decide +kernel
theorem dL_law_1526 : decode cL_law 1526 = .ok (.dload 7, 2) := by decide +kernel
theorem dL_law_1528 : decode cL_law 1528 = .ok (.dload 7, 2) := by decide +kernel
theorem dL_law_1530 : decode cL_law 1530 = .ok (.dcmp .l, 1) := by decide +kernel
theorem dL_law_1531 : decode cL_law 1531 = .ok (.ifCond .ne 5, 3) := by decide +kernel
theorem dL_law_1534 : decode cL_law 1534 = .ok (.iconst 0, 1) := by decide +kernel
theorem dL_law_1535 : decode cL_law 1535 = .ok (.ireturn, 1) := by decide +kernel
theorem dL_law_1536 : decode cL_law 1536 = .ok (.goto 17, 3) := by decide +kernel
theorem dL_law_1539 : decode cL_law 1539 = .ok (.aload_n 1, 1) := by decide +kernel
theorem dL_law_1540 : decode cL_law 1540 = .ok (.invokevirtual 189, 3) := by decide +kernel
theorem dL_law_1543 : decode cL_law 1543 = .ok (.aload_n 2, 1) := by decide +kernel
theorem dL_law_1544 : decode cL_law 1544 = .ok (.invokevirtual 193, 3) := by decide +kernel
theorem dL_law_1547 : decode cL_law 1547 = .ok (.lcmp, 1) := by decide +kernel
theorem dL_law_1548 : decode cL_law 1548 = .ok (.ifCond .eq 5, 3) := by decide +kernel
theorem dL_law_1551 : decode cL_law 1551 = .ok (.iconst 0, 1) := by decide +kernel
theorem dL_law_1552 : decode cL_law 1552 = .ok (.ireturn, 1) := by decide +kernel
theorem dL_law_1553 : decode cL_law 1553 = .ok (.iinc 4 4, 3) := by decide +kernel
theorem dL_law_1556 : decode cL_law 1556 = .ok (.goto (-1533), 3) := by decide +kernel
theorem dL_law_1559 : decode cL_law 1559 = .ok (.iconst 1, 1) := by decide +kernel
theorem dL_law_1560 : decode cL_law 1560 = .ok (.ireturn, 1) := by decide +kernel

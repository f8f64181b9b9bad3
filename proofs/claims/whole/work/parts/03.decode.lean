theorem dX0_init_0 : decode cX0_init 0 = .ok (.aload_n 0, 1) := by decide +kernel
theorem dX0_init_1 : decode cX0_init 1 = .ok (.invokespecial 3, 3) := by decide +kernel
theorem dX0_init_4 : decode cX0_init 4 = .ok (.aload_n 0, 1) := by decide +kernel
theorem dX0_init_5 : decode cX0_init 5 = .ok (.bipush 14, 2) := by decide +kernel
theorem dX0_init_7 : decode cX0_init 7 = .ok (.anewarray 9, 3) := by decide +kernel
theorem dX0_init_10 : decode cX0_init 10 = .ok (.putfield 11, 3) := by decide +kernel
theorem dX0_init_13 : decode cX0_init 13 = .ok (.iconst 0, 1) := by decide +kernel
theorem dX0_init_14 : decode cX0_init 14 = .ok (.istore_n 2, 1) := by decide +kernel
theorem dX0_init_15 : decode cX0_init 15 = .ok (.iload_n 2, 1) := by decide +kernel
theorem dX0_init_16 : decode cX0_init 16 = .ok (.bipush 14, 2) := by decide +kernel
theorem dX0_init_18 : decode cX0_init 18 = .ok (.if_icmp .ge 23, 3) := by decide +kernel
theorem dX0_init_21 : decode cX0_init 21 = .ok (.aload_n 0, 1) := by decide +kernel
theorem dX0_init_22 : decode cX0_init 22 = .ok (.getfield 11, 3) := by decide +kernel
theorem dX0_init_25 : decode cX0_init 25 = .ok (.iload_n 2, 1) := by decide +kernel
theorem dX0_init_26 : decode cX0_init 26 = .ok (.new 9, 3) := by decide +kernel
theorem dX0_init_29 : decode cX0_init 29 = .ok (.dup, 1) := by decide +kernel
theorem dX0_init_30 : decode cX0_init 30 = .ok (.aload_n 1, 1) := by decide +kernel
theorem dX0_init_31 : decode cX0_init 31 = .ok (.invokespecial 17, 3) := by decide +kernel
theorem dX0_init_34 : decode cX0_init 34 = .ok (.aastore, 1) := by decide +kernel
theorem dX0_init_35 : decode cX0_init 35 = .ok (.iinc 2 1, 3) := by decide +kernel
theorem dX0_init_38 : decode cX0_init 38 = .ok (.goto (-23), 3) := by decide +kernel
theorem dX0_init_41 : decode cX0_init 41 = .ok (.return_, 1) := by decide +kernel
theorem dX0_forgetAll_0 : decode cX0_forgetAll 0 = .ok (.aload_n 0, 1) := by decide +kernel
theorem dX0_forgetAll_1 : decode cX0_forgetAll 1 = .ok (.iconst 0, 1) := by decide +kernel
theorem dX0_forgetAll_2 : decode cX0_forgetAll 2 = .ok (.putfield 20, 3) := by decide +kernel
theorem dX0_forgetAll_5 : decode cX0_forgetAll 5 = .ok (.return_, 1) := by decide +kernel
theorem dX0_remember_0 : decode cX0_remember 0 = .ok (.aload_n 0, 1) := by decide +kernel
theorem dX0_remember_1 : decode cX0_remember 1 = .ok (.getfield 20, 3) := by decide +kernel
theorem dX0_remember_4 : decode cX0_remember 4 = .ok (.bipush 14, 2) := by decide +kernel
theorem dX0_remember_6 : decode cX0_remember 6 = .ok (.if_icmp .lt 7, 3) := by decide +kernel
theorem dX0_remember_9 : decode cX0_remember 9 = .ok (.aload_n 0, 1) := by decide +kernel
theorem dX0_remember_10 : decode cX0_remember 10 = .ok (.invokevirtual 24, 3) := by decide +kernel
theorem dX0_remember_13 : decode cX0_remember 13 = .ok (.aload_n 0, 1) := by decide +kernel
theorem dX0_remember_14 : decode cX0_remember 14 = .ok (.getfield 11, 3) := by decide +kernel
theorem dX0_remember_17 : decode cX0_remember 17 = .ok (.aload_n 0, 1) := by decide +kernel
theorem dX0_remember_18 : decode cX0_remember 18 = .ok (.getfield 20, 3) := by decide +kernel
theorem dX0_remember_21 : decode cX0_remember 21 = .ok (.aaload, 1) := by decide +kernel
theorem dX0_remember_22 : decode cX0_remember 22 = .ok (.aload_n 1, 1) := by decide +kernel
theorem dX0_remember_23 : decode cX0_remember 23 = .ok (.invokevirtual 27, 3) := by decide +kernel
theorem dX0_remember_26 : decode cX0_remember 26 = .ok (.aload_n 0, 1) := by decide +kernel
theorem dX0_remember_27 : decode cX0_remember 27 = .ok (.dup, 1) := by decide +kernel
theorem dX0_remember_28 : decode cX0_remember 28 = .ok (.getfield 20, 3) := by decide +kernel
theorem dX0_remember_31 : decode cX0_remember 31 = .ok (.iconst 1, 1) := by decide +kernel
theorem dX0_remember_32 : decode cX0_remember 32 = .ok (.iadd, 1) := by decide +kernel
theorem dX0_remember_33 : decode cX0_remember 33 = .ok (.putfield 20, 3) := by decide +kernel
theorem dX0_remember_36 : decode cX0_remember 36 = .ok (.return_, 1) := by decide +kernel
theorem dX0_forgetFirst_0 : decode cX0_forgetFirst 0 = .ok (.aload_n 0, 1) := by decide +kernel
theorem dX0_forgetFirst_1 : decode cX0_forgetFirst 1 = .ok (.getfield 11, 3) := by decide +kernel
theorem dX0_forgetFirst_4 : decode cX0_forgetFirst 4 = .ok (.iconst 0, 1) := by decide +kernel
theorem dX0_forgetFirst_5 : decode cX0_forgetFirst 5 = .ok (.aaload, 1) := by decide +kernel
theorem dX0_forgetFirst_6 : decode cX0_forgetFirst 6 = .ok (.astore_n 1, 1) := by decide +kernel
theorem dX0_forgetFirst_7 : decode cX0_forgetFirst 7 = .ok (.iconst 1, 1) := by decide +kernel
theorem dX0_forgetFirst_8 : decode cX0_forgetFirst 8 = .ok (.istore_n 2, 1) := by decide +kernel
theorem dX0_forgetFirst_9 : decode cX0_forgetFirst 9 = .ok (.iload_n 2, 1) := by decide +kernel
theorem dX0_forgetFirst_10 : decode cX0_forgetFirst 10 = .ok (.bipush 14, 2) := by decide +kernel
theorem dX0_forgetFirst_12 : decode cX0_forgetFirst 12 = .ok (.if_icmp .ge 23, 3) := by decide +kernel
theorem dX0_forgetFirst_15 : decode cX0_forgetFirst 15 = .ok (.aload_n 0, 1) := by decide +kernel
theorem dX0_forgetFirst_16 : decode cX0_forgetFirst 16 = .ok (.getfield 11, 3) := by decide +kernel
theorem dX0_forgetFirst_19 : decode cX0_forgetFirst 19 = .ok (.iload_n 2, 1) := by decide +kernel
theorem dX0_forgetFirst_20 : decode cX0_forgetFirst 20 = .ok (.iconst 1, 1) := by decide +kernel
theorem dX0_forgetFirst_21 : decode cX0_forgetFirst 21 = .ok (.isub, 1) := by decide +kernel
theorem dX0_forgetFirst_22 : decode cX0_forgetFirst 22 = .ok (.aload_n 0, 1) := by decide +kernel
theorem dX0_forgetFirst_23 : decode cX0_forgetFirst 23 = .ok (.getfield 11, 3) := by decide +kernel
theorem dX0_forgetFirst_26 : decode cX0_forgetFirst 26 = .ok (.iload_n 2, 1) := by decide +kernel
theorem dX0_forgetFirst_27 : decode cX0_forgetFirst 27 = .ok (.aaload, 1) := by decide +kernel
theorem dX0_forgetFirst_28 : decode cX0_forgetFirst 28 = .ok (.aastore, 1) := by decide +kernel
theorem dX0_forgetFirst_29 : decode cX0_forgetFirst 29 = .ok (.iinc 2 1, 3) := by decide +kernel
theorem dX0_forgetFirst_32 : decode cX0_forgetFirst 32 = .ok (.goto (-23), 3) := by decide +kernel
theorem dX0_forgetFirst_35 : decode cX0_forgetFirst 35 = .ok (.aload_n 0, 1) := by decide +kernel
theorem dX0_forgetFirst_36 : decode cX0_forgetFirst 36 = .ok (.getfield 11, 3) := by decide +kernel
theorem dX0_forgetFirst_39 : decode cX0_forgetFirst 39 = .ok (.bipush 13, 2) := by decide +kernel
theorem dX0_forgetFirst_41 : decode cX0_forgetFirst 41 = .ok (.aload_n 1, 1) := by decide +kernel
theorem dX0_forgetFirst_42 : decode cX0_forgetFirst 42 = .ok (.aastore, 1) := by decide +kernel
theorem dX0_forgetFirst_43 : decode cX0_forgetFirst 43 = .ok (.aload_n 0, 1) := by decide +kernel
theorem dX0_forgetFirst_44 : decode cX0_forgetFirst 44 = .ok (.bipush 13, 2) := by decide +kernel
theorem dX0_forgetFirst_46 : decode cX0_forgetFirst 46 = .ok (.putfield 20, 3) := by decide +kernel
theorem dX0_forgetFirst_49 : decode cX0_forgetFirst 49 = .ok (.return_, 1) := by decide +kernel
theorem dX0_takeBack_0 : decode cX0_takeBack 0 = .ok (.aload_n 0, 1) := by decide +kernel
theorem dX0_takeBack_1 : decode cX0_takeBack 1 = .ok (.getfield 20, 3) := by decide +kernel
theorem dX0_takeBack_4 : decode cX0_takeBack 4 = .ok (.ifCond .le 26, 3) := by decide +kernel
theorem dX0_takeBack_7 : decode cX0_takeBack 7 = .ok (.aload_n 0, 1) := by decide +kernel
theorem dX0_takeBack_8 : decode cX0_takeBack 8 = .ok (.dup, 1) := by decide +kernel
theorem dX0_takeBack_9 : decode cX0_takeBack 9 = .ok (.getfield 20, 3) := by decide +kernel
theorem dX0_takeBack_12 : decode cX0_takeBack 12 = .ok (.iconst 1, 1) := by decide +kernel
theorem dX0_takeBack_13 : decode cX0_takeBack 13 = .ok (.isub, 1) := by decide +kernel
theorem dX0_takeBack_14 : decode cX0_takeBack 14 = .ok (.putfield 20, 3) := by decide +kernel
theorem dX0_takeBack_17 : decode cX0_takeBack 17 = .ok (.aload_n 1, 1) := by decide +kernel
theorem dX0_takeBack_18 : decode cX0_takeBack 18 = .ok (.aload_n 0, 1) := by decide +kernel
theorem dX0_takeBack_19 : decode cX0_takeBack 19 = .ok (.getfield 11, 3) := by decide +kernel
theorem dX0_takeBack_22 : decode cX0_takeBack 22 = .ok (.aload_n 0, 1) := by decide +kernel
theorem dX0_takeBack_23 : decode cX0_takeBack 23 = .ok (.getfield 20, 3) := by decide +kernel
theorem dX0_takeBack_26 : decode cX0_takeBack 26 = .ok (.aaload, 1) := by decide +kernel
theorem dX0_takeBack_27 : decode cX0_takeBack 27 = .ok (.invokevirtual 27, 3) := by decide +kernel
theorem dX0_takeBack_30 : decode cX0_takeBack 30 = .ok (.return_, 1) := by decide +kernel
theorem dX1_init_0 : decode cX1_init 0 = .ok (.aload_n 0, 1) := by decide +kernel
theorem dX1_init_1 : decode cX1_init 1 = .ok (.invokespecial 3, 3) := by decide +kernel
theorem dX1_init_4 : decode cX1_init 4 = .ok (.aload_n 0, 1) := by decide +kernel
theorem dX1_init_5 : decode cX1_init 5 = .ok (.iconst 5, 1) := by decide +kernel
theorem dX1_init_6 : decode cX1_init 6 = .ok (.newarray .int, 2) := by decide +kernel
theorem dX1_init_8 : decode cX1_init 8 = .ok (.putfield 9, 3) := by decide +kernel
theorem dX1_init_11 : decode cX1_init 11 = .ok (.aload_n 0, 1) := by decide +kernel
theorem dX1_init_12 : decode cX1_init 12 = .ok (.iconst 5, 1) := by decide +kernel
theorem dX1_init_13 : decode cX1_init 13 = .ok (.newarray .int, 2) := by decide +kernel
theorem dX1_init_15 : decode cX1_init 15 = .ok (.putfield 15, 3) := by decide +kernel
theorem dX1_init_18 : decode cX1_init 18 = .ok (.aload_n 0, 1) := by decide +kernel
theorem dX1_init_19 : decode cX1_init 19 = .ok (.iconst 5, 1) := by decide +kernel
theorem dX1_init_20 : decode cX1_init 20 = .ok (.newarray .int, 2) := by decide +kernel
theorem dX1_init_22 : decode cX1_init 22 = .ok (.putfield 18, 3) := by decide +kernel
theorem dX1_init_25 : decode cX1_init 25 = .ok (.aload_n 0, 1) := by decide +kernel
theorem dX1_init_26 : decode cX1_init 26 = .ok (.aload_n 1, 1) := by decide +kernel
theorem dX1_init_27 : decode cX1_init 27 = .ok (.putfield 21, 3) := by decide +kernel
theorem dX1_init_30 : decode cX1_init 30 = .ok (.return_, 1) := by decide +kernel
theorem dX1_begin_0 : decode cX1_begin 0 = .ok (.iconst 0, 1) := by decide +kernel
theorem dX1_begin_1 : decode cX1_begin 1 = .ok (.istore_n 1, 1) := by decide +kernel
theorem dX1_begin_2 : decode cX1_begin 2 = .ok (.iload_n 1, 1) := by decide +kernel
theorem dX1_begin_3 : decode cX1_begin 3 = .ok (.aload_n 0, 1) := by decide +kernel
theorem dX1_begin_4 : decode cX1_begin 4 = .ok (.getfield 21, 3) := by decide +kernel
theorem dX1_begin_7 : decode cX1_begin 7 = .ok (.getfield 25, 3) := by decide +kernel
theorem dX1_begin_10 : decode cX1_begin 10 = .ok (.if_icmp .ge 38, 3) := by decide +kernel
theorem dX1_begin_13 : decode cX1_begin 13 = .ok (.aload_n 0, 1) := by decide +kernel
theorem dX1_begin_14 : decode cX1_begin 14 = .ok (.getfield 9, 3) := by decide +kernel
theorem dX1_begin_17 : decode cX1_begin 17 = .ok (.iload_n 1, 1) := by decide +kernel
theorem dX1_begin_18 : decode cX1_begin 18 = .ok (.aload_n 0, 1) := by decide +kernel
theorem dX1_begin_19 : decode cX1_begin 19 = .ok (.getfield 21, 3) := by decide +kernel
theorem dX1_begin_22 : decode cX1_begin 22 = .ok (.getfield 31, 3) := by decide +kernel
theorem dX1_begin_25 : decode cX1_begin 25 = .ok (.iload_n 1, 1) := by decide +kernel
theorem dX1_begin_26 : decode cX1_begin 26 = .ok (.iaload, 1) := by decide +kernel
theorem dX1_begin_27 : decode cX1_begin 27 = .ok (.iastore, 1) := by decide +kernel
theorem dX1_begin_28 : decode cX1_begin 28 = .ok (.aload_n 0, 1) := by decide +kernel
theorem dX1_begin_29 : decode cX1_begin 29 = .ok (.iload_n 1, 1) := by decide +kernel
theorem dX1_begin_30 : decode cX1_begin 30 = .ok (.aload_n 0, 1) := by decide +kernel
theorem dX1_begin_31 : decode cX1_begin 31 = .ok (.getfield 21, 3) := by decide +kernel
theorem dX1_begin_34 : decode cX1_begin 34 = .ok (.getfield 34, 3) := by decide +kernel
theorem dX1_begin_37 : decode cX1_begin 37 = .ok (.iload_n 1, 1) := by decide +kernel
theorem dX1_begin_38 : decode cX1_begin 38 = .ok (.iaload, 1) := by decide +kernel
theorem dX1_begin_39 : decode cX1_begin 39 = .ok (.invokevirtual 37, 3) := by decide +kernel
theorem dX1_begin_42 : decode cX1_begin 42 = .ok (.iinc 1 1, 3) := by decide +kernel
theorem dX1_begin_45 : decode cX1_begin 45 = .ok (.goto (-43), 3) := by decide +kernel
theorem dX1_begin_48 : decode cX1_begin 48 = .ok (.aload_n 0, 1) := by decide +kernel
theorem dX1_begin_49 : decode cX1_begin 49 = .ok (.iconst 1, 1) := by decide +kernel
theorem dX1_begin_50 : decode cX1_begin 50 = .ok (.aload_n 0, 1) := by decide +kernel
theorem dX1_begin_51 : decode cX1_begin 51 = .ok (.getfield 21, 3) := by decide +kernel
theorem dX1_begin_54 : decode cX1_begin 54 = .ok (.getfield 41, 3) := by decide +kernel
theorem dX1_begin_57 : decode cX1_begin 57 = .ok (.ishl, 1) := by decide +kernel
theorem dX1_begin_58 : decode cX1_begin 58 = .ok (.iconst 1, 1) := by decide +kernel
theorem dX1_begin_59 : decode cX1_begin 59 = .ok (.isub, 1) := by decide +kernel
theorem dX1_begin_60 : decode cX1_begin 60 = .ok (.putfield 44, 3) := by decide +kernel
theorem dX1_begin_63 : decode cX1_begin 63 = .ok (.aload_n 0, 1) := by decide +kernel
theorem dX1_begin_64 : decode cX1_begin 64 = .ok (.iconst 0, 1) := by decide +kernel
theorem dX1_begin_65 : decode cX1_begin 65 = .ok (.putfield 47, 3) := by decide +kernel
theorem dX1_begin_68 : decode cX1_begin 68 = .ok (.return_, 1) := by decide +kernel
theorem dX1_become_0 : decode cX1_become 0 = .ok (.aload_n 1, 1) := by decide +kernel
theorem dX1_become_1 : decode cX1_become 1 = .ok (.getfield 9, 3) := by decide +kernel
theorem dX1_become_4 : decode cX1_become 4 = .ok (.iconst 0, 1) := by decide +kernel
theorem dX1_become_5 : decode cX1_become 5 = .ok (.aload_n 0, 1) := by decide +kernel
theorem dX1_become_6 : decode cX1_become 6 = .ok (.getfield 9, 3) := by decide +kernel
theorem dX1_become_9 : decode cX1_become 9 = .ok (.iconst 0, 1) := by decide +kernel
theorem dX1_become_10 : decode cX1_become 10 = .ok (.iconst 5, 1) := by decide +kernel
theorem dX1_become_11 : decode cX1_become 11 = .ok (.invokestatic 50, 3) := by decide +kernel
theorem dX1_become_14 : decode cX1_become 14 = .ok (.aload_n 1, 1) := by decide +kernel
theorem dX1_become_15 : decode cX1_become 15 = .ok (.getfield 15, 3) := by decide +kernel
theorem dX1_become_18 : decode cX1_become 18 = .ok (.iconst 0, 1) := by decide +kernel
theorem dX1_become_19 : decode cX1_become 19 = .ok (.aload_n 0, 1) := by decide +kernel
theorem dX1_become_20 : decode cX1_become 20 = .ok (.getfield 15, 3) := by decide +kernel
theorem dX1_become_23 : decode cX1_become 23 = .ok (.iconst 0, 1) := by decide +kernel
theorem dX1_become_24 : decode cX1_become 24 = .ok (.iconst 5, 1) := by decide +kernel
theorem dX1_become_25 : decode cX1_become 25 = .ok (.invokestatic 50, 3) := by decide +kernel
theorem dX1_become_28 : decode cX1_become 28 = .ok (.aload_n 1, 1) := by decide +kernel
theorem dX1_become_29 : decode cX1_become 29 = .ok (.getfield 18, 3) := by decide +kernel
theorem dX1_become_32 : decode cX1_become 32 = .ok (.iconst 0, 1) := by decide +kernel
theorem dX1_become_33 : decode cX1_become 33 = .ok (.aload_n 0, 1) := by decide +kernel
theorem dX1_become_34 : decode cX1_become 34 = .ok (.getfield 18, 3) := by decide +kernel
theorem dX1_become_37 : decode cX1_become 37 = .ok (.iconst 0, 1) := by decide +kernel
theorem dX1_become_38 : decode cX1_become 38 = .ok (.iconst 5, 1) := by decide +kernel
theorem dX1_become_39 : decode cX1_become 39 = .ok (.invokestatic 50, 3) := by decide +kernel
theorem dX1_become_42 : decode cX1_become 42 = .ok (.aload_n 0, 1) := by decide +kernel
theorem dX1_become_43 : decode cX1_become 43 = .ok (.aload_n 1, 1) := by decide +kernel
theorem dX1_become_44 : decode cX1_become 44 = .ok (.getfield 44, 3) := by decide +kernel
theorem dX1_become_47 : decode cX1_become 47 = .ok (.putfield 44, 3) := by decide +kernel
theorem dX1_become_50 : decode cX1_become 50 = .ok (.aload_n 0, 1) := by decide +kernel
theorem dX1_become_51 : decode cX1_become 51 = .ok (.aload_n 1, 1) := by decide +kernel
theorem dX1_become_52 : decode cX1_become 52 = .ok (.getfield 47, 3) := by decide +kernel
theorem dX1_become_55 : decode cX1_become 55 = .ok (.putfield 47, 3) := by decide +kernel
theorem dX1_become_58 : decode cX1_become 58 = .ok (.return_, 1) := by decide +kernel
theorem dX1_isOnDuty_0 : decode cX1_isOnDuty 0 = .ok (.aload_n 0, 1) := by decide +kernel
theorem dX1_isOnDuty_1 : decode cX1_isOnDuty 1 = .ok (.getfield 44, 3) := by decide +kernel
theorem dX1_isOnDuty_4 : decode cX1_isOnDuty 4 = .ok (.iconst 1, 1) := by decide +kernel
theorem dX1_isOnDuty_5 : decode cX1_isOnDuty 5 = .ok (.iload_n 1, 1) := by decide +kernel
theorem dX1_isOnDuty_6 : decode cX1_isOnDuty 6 = .ok (.ishl, 1) := by decide +kernel
theorem dX1_isOnDuty_7 : decode cX1_isOnDuty 7 = .ok (.iand, 1) := by decide +kernel
theorem dX1_isOnDuty_8 : decode cX1_isOnDuty 8 = .ok (.ifCond .eq 7, 3) := by decide +kernel
theorem dX1_isOnDuty_11 : decode cX1_isOnDuty 11 = .ok (.iconst 1, 1) := by decide +kernel
theorem dX1_isOnDuty_12 : decode cX1_isOnDuty 12 = .ok (.goto 4, 3) := by decide +kernel
theorem dX1_isOnDuty_15 : decode cX1_isOnDuty 15 = .ok (.iconst 0, 1) := by decide +kernel
theorem dX1_isOnDuty_16 : decode cX1_isOnDuty 16 = .ok (.ireturn, 1) := by decide +kernel
theorem dX1_turn_0 : decode cX1_turn 0 = .ok (.aload_n 0, 1) := by decide +kernel
theorem dX1_turn_1 : decode cX1_turn 1 = .ok (.dup, 1) := by decide +kernel
theorem dX1_turn_2 : decode cX1_turn 2 = .ok (.getfield 44, 3) := by decide +kernel
theorem dX1_turn_5 : decode cX1_turn 5 = .ok (.iconst 1, 1) := by decide +kernel
theorem dX1_turn_6 : decode cX1_turn 6 = .ok (.iload_n 1, 1) := by decide +kernel
theorem dX1_turn_7 : decode cX1_turn 7 = .ok (.ishl, 1) := by decide +kernel
theorem dX1_turn_8 : decode cX1_turn 8 = .ok (.ixor, 1) := by decide +kernel
theorem dX1_turn_9 : decode cX1_turn 9 = .ok (.putfield 44, 3) := by decide +kernel
theorem dX1_turn_12 : decode cX1_turn 12 = .ok (.return_, 1) := by decide +kernel
theorem dX1_lasts_0 : decode cX1_lasts 0 = .ok (.aload_n 0, 1) := by decide +kernel
theorem dX1_lasts_1 : decode cX1_lasts 1 = .ok (.getfield 21, 3) := by decide +kernel
theorem dX1_lasts_4 : decode cX1_lasts 4 = .ok (.getfield 56, 3) := by decide +kernel
theorem dX1_lasts_7 : decode cX1_lasts 7 = .ok (.aload_n 0, 1) := by decide +kernel
theorem dX1_lasts_8 : decode cX1_lasts 8 = .ok (.getfield 9, 3) := by decide +kernel
theorem dX1_lasts_11 : decode cX1_lasts 11 = .ok (.iload_n 1, 1) := by decide +kernel
theorem dX1_lasts_12 : decode cX1_lasts 12 = .ok (.iaload, 1) := by decide +kernel
theorem dX1_lasts_13 : decode cX1_lasts 13 = .ok (.iaload, 1) := by decide +kernel
theorem dX1_lasts_14 : decode cX1_lasts 14 = .ok (.istore_n 2, 1) := by decide +kernel
theorem dX1_lasts_15 : decode cX1_lasts 15 = .ok (.aload_n 0, 1) := by decide +kernel
theorem dX1_lasts_16 : decode cX1_lasts 16 = .ok (.getfield 21, 3) := by decide +kernel
theorem dX1_lasts_19 : decode cX1_lasts 19 = .ok (.getfield 59, 3) := by decide +kernel
theorem dX1_lasts_22 : decode cX1_lasts 22 = .ok (.iload_n 1, 1) := by decide +kernel
theorem dX1_lasts_23 : decode cX1_lasts 23 = .ok (.iaload, 1) := by decide +kernel
theorem dX1_lasts_24 : decode cX1_lasts 24 = .ok (.iconst 2, 1) := by decide +kernel
theorem dX1_lasts_25 : decode cX1_lasts 25 = .ok (.if_icmp .ne 14, 3) := by decide +kernel
theorem dX1_lasts_28 : decode cX1_lasts 28 = .ok (.iload_n 2, 1) := by decide +kernel
theorem dX1_lasts_29 : decode cX1_lasts 29 = .ok (.iconst 1, 1) := by decide +kernel
theorem dX1_lasts_30 : decode cX1_lasts 30 = .ok (.if_icmp .le 9, 3) := by decide +kernel
theorem dX1_lasts_33 : decode cX1_lasts 33 = .ok (.iload_n 2, 1) := by decide +kernel
theorem dX1_lasts_34 : decode cX1_lasts 34 = .ok (.iconst 2, 1) := by decide +kernel
theorem dX1_lasts_35 : decode cX1_lasts 35 = .ok (.idiv, 1) := by decide +kernel
theorem dX1_lasts_36 : decode cX1_lasts 36 = .ok (.goto 4, 3) := by decide +kernel
theorem dX1_lasts_39 : decode cX1_lasts 39 = .ok (.iload_n 2, 1) := by decide +kernel
theorem dX1_lasts_40 : decode cX1_lasts 40 = .ok (.ireturn, 1) := by decide +kernel
theorem dX1_knowing_0 : decode cX1_knowing 0 = .ok (.iconst 0, 1) := by decide +kernel
theorem dX1_knowing_1 : decode cX1_knowing 1 = .ok (.istore_n 1, 1) := by decide +kernel
theorem dX1_knowing_2 : decode cX1_knowing 2 = .ok (.iconst 0, 1) := by decide +kernel
theorem dX1_knowing_3 : decode cX1_knowing 3 = .ok (.istore_n 2, 1) := by decide +kernel
theorem dX1_knowing_4 : decode cX1_knowing 4 = .ok (.iload_n 2, 1) := by decide +kernel
theorem dX1_knowing_5 : decode cX1_knowing 5 = .ok (.aload_n 0, 1) := by decide +kernel
theorem dX1_knowing_6 : decode cX1_knowing 6 = .ok (.getfield 21, 3) := by decide +kernel
theorem dX1_knowing_9 : decode cX1_knowing 9 = .ok (.getfield 25, 3) := by decide +kernel
theorem dX1_knowing_12 : decode cX1_knowing 12 = .ok (.if_icmp .ge 26, 3) := by decide +kernel
theorem dX1_knowing_15 : decode cX1_knowing 15 = .ok (.aload_n 0, 1) := by decide +kernel
theorem dX1_knowing_16 : decode cX1_knowing 16 = .ok (.getfield 15, 3) := by decide +kernel
theorem dX1_knowing_19 : decode cX1_knowing 19 = .ok (.iload_n 2, 1) := by decide +kernel
theorem dX1_knowing_20 : decode cX1_knowing 20 = .ok (.iaload, 1) := by decide +kernel
theorem dX1_knowing_21 : decode cX1_knowing 21 = .ok (.bipush (-9), 2) := by decide +kernel
theorem dX1_knowing_23 : decode cX1_knowing 23 = .ok (.if_icmp .eq 9, 3) := by decide +kernel
theorem dX1_knowing_26 : decode cX1_knowing 26 = .ok (.iload_n 1, 1) := by decide +kernel
theorem dX1_knowing_27 : decode cX1_knowing 27 = .ok (.iconst 1, 1) := by decide +kernel
theorem dX1_knowing_28 : decode cX1_knowing 28 = .ok (.iload_n 2, 1) := by decide +kernel
theorem dX1_knowing_29 : decode cX1_knowing 29 = .ok (.ishl, 1) := by decide +kernel
theorem dX1_knowing_30 : decode cX1_knowing 30 = .ok (.ior, 1) := by decide +kernel
theorem dX1_knowing_31 : decode cX1_knowing 31 = .ok (.istore_n 1, 1) := by decide +kernel
theorem dX1_knowing_32 : decode cX1_knowing 32 = .ok (.iinc 2 1, 3) := by decide +kernel
theorem dX1_knowing_35 : decode cX1_knowing 35 = .ok (.goto (-31), 3) := by decide +kernel
theorem dX1_knowing_38 : decode cX1_knowing 38 = .ok (.iload_n 1, 1) := by decide +kernel
theorem dX1_knowing_39 : decode cX1_knowing 39 = .ok (.ireturn, 1) := by decide +kernel
theorem dX1_knowingFirst_0 : decode cX1_knowingFirst 0 = .ok (.iconst 0, 1) := by decide +kernel
theorem dX1_knowingFirst_1 : decode cX1_knowingFirst 1 = .ok (.istore_n 1, 1) := by decide +kernel
theorem dX1_knowingFirst_2 : decode cX1_knowingFirst 2 = .ok (.iconst 0, 1) := by decide +kernel
theorem dX1_knowingFirst_3 : decode cX1_knowingFirst 3 = .ok (.istore_n 2, 1) := by decide +kernel
theorem dX1_knowingFirst_4 : decode cX1_knowingFirst 4 = .ok (.iload_n 2, 1) := by decide +kernel
theorem dX1_knowingFirst_5 : decode cX1_knowingFirst 5 = .ok (.aload_n 0, 1) := by decide +kernel
theorem dX1_knowingFirst_6 : decode cX1_knowingFirst 6 = .ok (.getfield 21, 3) := by decide +kernel
theorem dX1_knowingFirst_9 : decode cX1_knowingFirst 9 = .ok (.getfield 25, 3) := by decide +kernel
theorem dX1_knowingFirst_12 : decode cX1_knowingFirst 12 = .ok (.if_icmp .ge 33, 3) := by decide +kernel
theorem dX1_knowingFirst_15 : decode cX1_knowingFirst 15 = .ok (.aload_n 0, 1) := by decide +kernel
theorem dX1_knowingFirst_16 : decode cX1_knowingFirst 16 = .ok (.getfield 15, 3) := by decide +kernel
theorem dX1_knowingFirst_19 : decode cX1_knowingFirst 19 = .ok (.iload_n 2, 1) := by decide +kernel
theorem dX1_knowingFirst_20 : decode cX1_knowingFirst 20 = .ok (.iaload, 1) := by decide +kernel
theorem dX1_knowingFirst_21 : decode cX1_knowingFirst 21 = .ok (.aload_n 0, 1) := by decide +kernel
theorem dX1_knowingFirst_22 : decode cX1_knowingFirst 22 = .ok (.getfield 21, 3) := by decide +kernel
theorem dX1_knowingFirst_25 : decode cX1_knowingFirst 25 = .ok (.getfield 34, 3) := by decide +kernel
theorem dX1_knowingFirst_28 : decode cX1_knowingFirst 28 = .ok (.iload_n 2, 1) := by decide +kernel
theorem dX1_knowingFirst_29 : decode cX1_knowingFirst 29 = .ok (.iaload, 1) := by decide +kernel
theorem dX1_knowingFirst_30 : decode cX1_knowingFirst 30 = .ok (.if_icmp .ne 9, 3) := by decide +kernel
theorem dX1_knowingFirst_33 : decode cX1_knowingFirst 33 = .ok (.iload_n 1, 1) := by decide +kernel
theorem dX1_knowingFirst_34 : decode cX1_knowingFirst 34 = .ok (.iconst 1, 1) := by decide +kernel
theorem dX1_knowingFirst_35 : decode cX1_knowingFirst 35 = .ok (.iload_n 2, 1) := by decide +kernel
theorem dX1_knowingFirst_36 : decode cX1_knowingFirst 36 = .ok (.ishl, 1) := by decide +kernel
theorem dX1_knowingFirst_37 : decode cX1_knowingFirst 37 = .ok (.ior, 1) := by decide +kernel
theorem dX1_knowingFirst_38 : decode cX1_knowingFirst 38 = .ok (.istore_n 1, 1) := by decide +kernel
theorem dX1_knowingFirst_39 : decode cX1_knowingFirst 39 = .ok (.iinc 2 1, 3) := by decide +kernel
theorem dX1_knowingFirst_42 : decode cX1_knowingFirst 42 = .ok (.goto (-38), 3) := by decide +kernel
theorem dX1_knowingFirst_45 : decode cX1_knowingFirst 45 = .ok (.iload_n 1, 1) := by decide +kernel
theorem dX1_knowingFirst_46 : decode cX1_knowingFirst 46 = .ok (.ireturn, 1) := by decide +kernel
theorem dX1_fishIn_0 : decode cX1_fishIn 0 = .ok (.iconst 0, 1) := by decide +kernel
theorem dX1_fishIn_1 : decode cX1_fishIn 1 = .ok (.istore_n 2, 1) := by decide +kernel
theorem dX1_fishIn_2 : decode cX1_fishIn 2 = .ok (.iconst 0, 1) := by decide +kernel
theorem dX1_fishIn_3 : decode cX1_fishIn 3 = .ok (.istore_n 3, 1) := by decide +kernel
theorem dX1_fishIn_4 : decode cX1_fishIn 4 = .ok (.iload_n 3, 1) := by decide +kernel
theorem dX1_fishIn_5 : decode cX1_fishIn 5 = .ok (.aload_n 0, 1) := by decide +kernel
theorem dX1_fishIn_6 : decode cX1_fishIn 6 = .ok (.getfield 21, 3) := by decide +kernel
theorem dX1_fishIn_9 : decode cX1_fishIn 9 = .ok (.getfield 25, 3) := by decide +kernel
theorem dX1_fishIn_12 : decode cX1_fishIn 12 = .ok (.if_icmp .ge 25, 3) := by decide +kernel
theorem dX1_fishIn_15 : decode cX1_fishIn 15 = .ok (.aload_n 0, 1) := by decide +kernel
theorem dX1_fishIn_16 : decode cX1_fishIn 16 = .ok (.getfield 9, 3) := by decide +kernel
theorem dX1_fishIn_19 : decode cX1_fishIn 19 = .ok (.iload_n 3, 1) := by decide +kernel
theorem dX1_fishIn_20 : decode cX1_fishIn 20 = .ok (.iaload, 1) := by decide +kernel
theorem dX1_fishIn_21 : decode cX1_fishIn 21 = .ok (.iload_n 1, 1) := by decide +kernel
theorem dX1_fishIn_22 : decode cX1_fishIn 22 = .ok (.if_icmp .ne 9, 3) := by decide +kernel
theorem dX1_fishIn_25 : decode cX1_fishIn 25 = .ok (.iload_n 2, 1) := by decide +kernel
theorem dX1_fishIn_26 : decode cX1_fishIn 26 = .ok (.iconst 1, 1) := by decide +kernel
theorem dX1_fishIn_27 : decode cX1_fishIn 27 = .ok (.iload_n 3, 1) := by decide +kernel
theorem dX1_fishIn_28 : decode cX1_fishIn 28 = .ok (.ishl, 1) := by decide +kernel
theorem dX1_fishIn_29 : decode cX1_fishIn 29 = .ok (.ior, 1) := by decide +kernel
theorem dX1_fishIn_30 : decode cX1_fishIn 30 = .ok (.istore_n 2, 1) := by decide +kernel
theorem dX1_fishIn_31 : decode cX1_fishIn 31 = .ok (.iinc 3 1, 3) := by decide +kernel
theorem dX1_fishIn_34 : decode cX1_fishIn 34 = .ok (.goto (-30), 3) := by decide +kernel
theorem dX1_fishIn_37 : decode cX1_fishIn 37 = .ok (.iload_n 2, 1) := by decide +kernel
theorem dX1_fishIn_38 : decode cX1_fishIn 38 = .ok (.ireturn, 1) := by decide +kernel
theorem dX1_lipsNextAt_0 : decode cX1_lipsNextAt 0 = .ok (.iconst 0, 1) := by decide +kernel
theorem dX1_lipsNextAt_1 : decode cX1_lipsNextAt 1 = .ok (.istore_n 2, 1) := by decide +kernel
theorem dX1_lipsNextAt_2 : decode cX1_lipsNextAt 2 = .ok (.iconst 0, 1) := by decide +kernel
theorem dX1_lipsNextAt_3 : decode cX1_lipsNextAt 3 = .ok (.istore_n 3, 1) := by decide +kernel
theorem dX1_lipsNextAt_4 : decode cX1_lipsNextAt 4 = .ok (.iload_n 3, 1) := by decide +kernel
theorem dX1_lipsNextAt_5 : decode cX1_lipsNextAt 5 = .ok (.aload_n 0, 1) := by decide +kernel
theorem dX1_lipsNextAt_6 : decode cX1_lipsNextAt 6 = .ok (.getfield 21, 3) := by decide +kernel
theorem dX1_lipsNextAt_9 : decode cX1_lipsNextAt 9 = .ok (.getfield 41, 3) := by decide +kernel
theorem dX1_lipsNextAt_12 : decode cX1_lipsNextAt 12 = .ok (.if_icmp .ge 24, 3) := by decide +kernel
theorem dX1_lipsNextAt_15 : decode cX1_lipsNextAt 15 = .ok (.aload_n 0, 1) := by decide +kernel
theorem dX1_lipsNextAt_16 : decode cX1_lipsNextAt 16 = .ok (.iload_n 3, 1) := by decide +kernel
theorem dX1_lipsNextAt_17 : decode cX1_lipsNextAt 17 = .ok (.invokevirtual 62, 3) := by decide +kernel
theorem dX1_lipsNextAt_20 : decode cX1_lipsNextAt 20 = .ok (.iload_n 1, 1) := by decide +kernel
theorem dX1_lipsNextAt_21 : decode cX1_lipsNextAt 21 = .ok (.if_icmp .ne 9, 3) := by decide +kernel
theorem dX1_lipsNextAt_24 : decode cX1_lipsNextAt 24 = .ok (.iload_n 2, 1) := by decide +kernel
theorem dX1_lipsNextAt_25 : decode cX1_lipsNextAt 25 = .ok (.iconst 1, 1) := by decide +kernel
theorem dX1_lipsNextAt_26 : decode cX1_lipsNextAt 26 = .ok (.iload_n 3, 1) := by decide +kernel
theorem dX1_lipsNextAt_27 : decode cX1_lipsNextAt 27 = .ok (.ishl, 1) := by decide +kernel
theorem dX1_lipsNextAt_28 : decode cX1_lipsNextAt 28 = .ok (.ior, 1) := by decide +kernel
theorem dX1_lipsNextAt_29 : decode cX1_lipsNextAt 29 = .ok (.istore_n 2, 1) := by decide +kernel
theorem dX1_lipsNextAt_30 : decode cX1_lipsNextAt 30 = .ok (.iinc 3 1, 3) := by decide +kernel
theorem dX1_lipsNextAt_33 : decode cX1_lipsNextAt 33 = .ok (.goto (-29), 3) := by decide +kernel
theorem dX1_lipsNextAt_36 : decode cX1_lipsNextAt 36 = .ok (.iload_n 2, 1) := by decide +kernel
theorem dX1_lipsNextAt_37 : decode cX1_lipsNextAt 37 = .ok (.ireturn, 1) := by decide +kernel
theorem dX1_roundOf_0 : decode cX1_roundOf 0 = .ok (.aload_n 0, 1) := by decide +kernel
theorem dX1_roundOf_1 : decode cX1_roundOf 1 = .ok (.getfield 21, 3) := by decide +kernel
theorem dX1_roundOf_4 : decode cX1_roundOf 4 = .ok (.getfield 66, 3) := by decide +kernel
theorem dX1_roundOf_7 : decode cX1_roundOf 7 = .ok (.ifCond .le 30, 3) := by decide +kernel
theorem dX1_roundOf_10 : decode cX1_roundOf 10 = .ok (.aload_n 0, 1) := by decide +kernel
theorem dX1_roundOf_11 : decode cX1_roundOf 11 = .ok (.getfield 21, 3) := by decide +kernel
theorem dX1_roundOf_14 : decode cX1_roundOf 14 = .ok (.getfield 69, 3) := by decide +kernel
theorem dX1_roundOf_17 : decode cX1_roundOf 17 = .ok (.iload_n 1, 1) := by decide +kernel
theorem dX1_roundOf_18 : decode cX1_roundOf 18 = .ok (.iaload, 1) := by decide +kernel
theorem dX1_roundOf_19 : decode cX1_roundOf 19 = .ok (.aload_n 0, 1) := by decide +kernel
theorem dX1_roundOf_20 : decode cX1_roundOf 20 = .ok (.getfield 47, 3) := by decide +kernel
theorem dX1_roundOf_23 : decode cX1_roundOf 23 = .ok (.iadd, 1) := by decide +kernel
theorem dX1_roundOf_24 : decode cX1_roundOf 24 = .ok (.aload_n 0, 1) := by decide +kernel
theorem dX1_roundOf_25 : decode cX1_roundOf 25 = .ok (.getfield 21, 3) := by decide +kernel
theorem dX1_roundOf_28 : decode cX1_roundOf 28 = .ok (.getfield 66, 3) := by decide +kernel
theorem dX1_roundOf_31 : decode cX1_roundOf 31 = .ok (.invokestatic 72, 3) := by decide +kernel
theorem dX1_roundOf_34 : decode cX1_roundOf 34 = .ok (.goto 5, 3) := by decide +kernel
theorem dX1_roundOf_37 : decode cX1_roundOf 37 = .ok (.bipush (-9), 2) := by decide +kernel
theorem dX1_roundOf_39 : decode cX1_roundOf 39 = .ok (.ireturn, 1) := by decide +kernel
theorem dX1_canMove_0 : decode cX1_canMove 0 = .ok (.aload_n 0, 1) := by decide +kernel
theorem dX1_canMove_1 : decode cX1_canMove 1 = .ok (.getfield 9, 3) := by decide +kernel
theorem dX1_canMove_4 : decode cX1_canMove 4 = .ok (.iload_n 1, 1) := by decide +kernel
theorem dX1_canMove_5 : decode cX1_canMove 5 = .ok (.iaload, 1) := by decide +kernel
theorem dX1_canMove_6 : decode cX1_canMove 6 = .ok (.iload_n 2, 1) := by decide +kernel
theorem dX1_canMove_7 : decode cX1_canMove 7 = .ok (.if_icmp .eq 19, 3) := by decide +kernel
theorem dX1_canMove_10 : decode cX1_canMove 10 = .ok (.aload_n 0, 1) := by decide +kernel
theorem dX1_canMove_11 : decode cX1_canMove 11 = .ok (.iload_n 2, 1) := by decide +kernel
theorem dX1_canMove_12 : decode cX1_canMove 12 = .ok (.invokevirtual 78, 3) := by decide +kernel
theorem dX1_canMove_15 : decode cX1_canMove 15 = .ok (.invokestatic 81, 3) := by decide +kernel
theorem dX1_canMove_18 : decode cX1_canMove 18 = .ok (.iconst 3, 1) := by decide +kernel
theorem dX1_canMove_19 : decode cX1_canMove 19 = .ok (.if_icmp .ge 7, 3) := by decide +kernel
theorem dX1_canMove_22 : decode cX1_canMove 22 = .ok (.iconst 1, 1) := by decide +kernel
theorem dX1_canMove_23 : decode cX1_canMove 23 = .ok (.goto 4, 3) := by decide +kernel
theorem dX1_canMove_26 : decode cX1_canMove 26 = .ok (.iconst 0, 1) := by decide +kernel
theorem dX1_canMove_27 : decode cX1_canMove 27 = .ok (.ireturn, 1) := by decide +kernel
theorem dX1_put_0 : decode cX1_put 0 = .ok (.aload_n 0, 1) := by decide +kernel
theorem dX1_put_1 : decode cX1_put 1 = .ok (.getfield 9, 3) := by decide +kernel
theorem dX1_put_4 : decode cX1_put 4 = .ok (.iload_n 1, 1) := by decide +kernel
theorem dX1_put_5 : decode cX1_put 5 = .ok (.iload_n 2, 1) := by decide +kernel
theorem dX1_put_6 : decode cX1_put 6 = .ok (.iastore, 1) := by decide +kernel
theorem dX1_put_7 : decode cX1_put 7 = .ok (.aload_n 0, 1) := by decide +kernel
theorem dX1_put_8 : decode cX1_put 8 = .ok (.getfield 18, 3) := by decide +kernel
theorem dX1_put_11 : decode cX1_put 11 = .ok (.iload_n 1, 1) := by decide +kernel
theorem dX1_put_12 : decode cX1_put 12 = .ok (.aload_n 0, 1) := by decide +kernel
theorem dX1_put_13 : decode cX1_put 13 = .ok (.getfield 18, 3) := by decide +kernel
theorem dX1_put_16 : decode cX1_put 16 = .ok (.iload_n 1, 1) := by decide +kernel
theorem dX1_put_17 : decode cX1_put 17 = .ok (.iaload, 1) := by decide +kernel
theorem dX1_put_18 : decode cX1_put 18 = .ok (.aload_n 0, 1) := by decide +kernel
theorem dX1_put_19 : decode cX1_put 19 = .ok (.iload_n 1, 1) := by decide +kernel
theorem dX1_put_20 : decode cX1_put 20 = .ok (.invokevirtual 86, 3) := by decide +kernel
theorem dX1_put_23 : decode cX1_put 23 = .ok (.invokestatic 89, 3) := by decide +kernel
theorem dX1_put_26 : decode cX1_put 26 = .ok (.iastore, 1) := by decide +kernel
theorem dX1_put_27 : decode cX1_put 27 = .ok (.return_, 1) := by decide +kernel
theorem dX1_changeWater_0 : decode cX1_changeWater 0 = .ok (.iconst 0, 1) := by decide +kernel
theorem dX1_changeWater_1 : decode cX1_changeWater 1 = .ok (.istore_n 2, 1) := by decide +kernel
theorem dX1_changeWater_2 : decode cX1_changeWater 2 = .ok (.iconst 0, 1) := by decide +kernel
theorem dX1_changeWater_3 : decode cX1_changeWater 3 = .ok (.istore_n 3, 1) := by decide +kernel
theorem dX1_changeWater_4 : decode cX1_changeWater 4 = .ok (.iload_n 3, 1) := by decide +kernel
theorem dX1_changeWater_5 : decode cX1_changeWater 5 = .ok (.aload_n 0, 1) := by decide +kernel
theorem dX1_changeWater_6 : decode cX1_changeWater 6 = .ok (.getfield 21, 3) := by decide +kernel
theorem dX1_changeWater_9 : decode cX1_changeWater 9 = .ok (.getfield 25, 3) := by decide +kernel
theorem dX1_changeWater_12 : decode cX1_changeWater 12 = .ok (.if_icmp .ge 51, 3) := by decide +kernel
theorem dX1_changeWater_15 : decode cX1_changeWater 15 = .ok (.aload_n 0, 1) := by decide +kernel
theorem dX1_changeWater_16 : decode cX1_changeWater 16 = .ok (.getfield 9, 3) := by decide +kernel
theorem dX1_changeWater_19 : decode cX1_changeWater 19 = .ok (.iload_n 3, 1) := by decide +kernel
theorem dX1_changeWater_20 : decode cX1_changeWater 20 = .ok (.iaload, 1) := by decide +kernel
theorem dX1_changeWater_21 : decode cX1_changeWater 21 = .ok (.iload_n 1, 1) := by decide +kernel
theorem dX1_changeWater_22 : decode cX1_changeWater 22 = .ok (.if_icmp .ne 35, 3) := by decide +kernel
theorem dX1_changeWater_25 : decode cX1_changeWater 25 = .ok (.aload_n 0, 1) := by decide +kernel
theorem dX1_changeWater_26 : decode cX1_changeWater 26 = .ok (.getfield 21, 3) := by decide +kernel
theorem dX1_changeWater_29 : decode cX1_changeWater 29 = .ok (.getfield 59, 3) := by decide +kernel
theorem dX1_changeWater_32 : decode cX1_changeWater 32 = .ok (.iload_n 3, 1) := by decide +kernel
theorem dX1_changeWater_33 : decode cX1_changeWater 33 = .ok (.iaload, 1) := by decide +kernel
theorem dX1_changeWater_34 : decode cX1_changeWater 34 = .ok (.iconst 1, 1) := by decide +kernel
theorem dX1_changeWater_35 : decode cX1_changeWater 35 = .ok (.if_icmp .eq 22, 3) := by decide +kernel
theorem dX1_changeWater_38 : decode cX1_changeWater 38 = .ok (.aload_n 0, 1) := by decide +kernel
theorem dX1_changeWater_39 : decode cX1_changeWater 39 = .ok (.getfield 15, 3) := by decide +kernel
theorem dX1_changeWater_42 : decode cX1_changeWater 42 = .ok (.iload_n 3, 1) := by decide +kernel
theorem dX1_changeWater_43 : decode cX1_changeWater 43 = .ok (.iaload, 1) := by decide +kernel
theorem dX1_changeWater_44 : decode cX1_changeWater 44 = .ok (.bipush (-9), 2) := by decide +kernel
theorem dX1_changeWater_46 : decode cX1_changeWater 46 = .ok (.if_icmp .eq 11, 3) := by decide +kernel
theorem dX1_changeWater_49 : decode cX1_changeWater 49 = .ok (.aload_n 0, 1) := by decide +kernel
theorem dX1_changeWater_50 : decode cX1_changeWater 50 = .ok (.iload_n 3, 1) := by decide +kernel
theorem dX1_changeWater_51 : decode cX1_changeWater 51 = .ok (.invokevirtual 92, 3) := by decide +kernel
theorem dX1_changeWater_54 : decode cX1_changeWater 54 = .ok (.iinc 2 1, 3) := by decide +kernel
theorem dX1_changeWater_57 : decode cX1_changeWater 57 = .ok (.iinc 3 1, 3) := by decide +kernel
theorem dX1_changeWater_60 : decode cX1_changeWater 60 = .ok (.goto (-56), 3) := by decide +kernel
theorem dX1_changeWater_63 : decode cX1_changeWater 63 = .ok (.iload_n 2, 1) := by decide +kernel
theorem dX1_changeWater_64 : decode cX1_changeWater 64 = .ok (.ireturn, 1) := by decide +kernel
theorem dX1_forget_0 : decode cX1_forget 0 = .ok (.aload_n 0, 1) := by decide +kernel
theorem dX1_forget_1 : decode cX1_forget 1 = .ok (.getfield 15, 3) := by decide +kernel
theorem dX1_forget_4 : decode cX1_forget 4 = .ok (.iload_n 1, 1) := by decide +kernel
theorem dX1_forget_5 : decode cX1_forget 5 = .ok (.bipush (-9), 2) := by decide +kernel
theorem dX1_forget_7 : decode cX1_forget 7 = .ok (.iastore, 1) := by decide +kernel
theorem dX1_forget_8 : decode cX1_forget 8 = .ok (.aload_n 0, 1) := by decide +kernel
theorem dX1_forget_9 : decode cX1_forget 9 = .ok (.getfield 18, 3) := by decide +kernel
theorem dX1_forget_12 : decode cX1_forget 12 = .ok (.iload_n 1, 1) := by decide +kernel
theorem dX1_forget_13 : decode cX1_forget 13 = .ok (.iconst 0, 1) := by decide +kernel
theorem dX1_forget_14 : decode cX1_forget 14 = .ok (.iastore, 1) := by decide +kernel
theorem dX1_forget_15 : decode cX1_forget 15 = .ok (.return_, 1) := by decide +kernel
theorem dX1_learn_0 : decode cX1_learn 0 = .ok (.aload_n 0, 1) := by decide +kernel
theorem dX1_learn_1 : decode cX1_learn 1 = .ok (.getfield 15, 3) := by decide +kernel
theorem dX1_learn_4 : decode cX1_learn 4 = .ok (.iload_n 1, 1) := by decide +kernel
theorem dX1_learn_5 : decode cX1_learn 5 = .ok (.iload_n 2, 1) := by decide +kernel
theorem dX1_learn_6 : decode cX1_learn 6 = .ok (.iastore, 1) := by decide +kernel
theorem dX1_learn_7 : decode cX1_learn 7 = .ok (.aload_n 0, 1) := by decide +kernel
theorem dX1_learn_8 : decode cX1_learn 8 = .ok (.getfield 18, 3) := by decide +kernel
theorem dX1_learn_11 : decode cX1_learn 11 = .ok (.iload_n 1, 1) := by decide +kernel
theorem dX1_learn_12 : decode cX1_learn 12 = .ok (.aload_n 0, 1) := by decide +kernel
theorem dX1_learn_13 : decode cX1_learn 13 = .ok (.iload_n 1, 1) := by decide +kernel
theorem dX1_learn_14 : decode cX1_learn 14 = .ok (.invokevirtual 86, 3) := by decide +kernel
theorem dX1_learn_17 : decode cX1_learn 17 = .ok (.iastore, 1) := by decide +kernel
theorem dX1_learn_18 : decode cX1_learn 18 = .ok (.return_, 1) := by decide +kernel
theorem dX1_passHour_0 : decode cX1_passHour 0 = .ok (.aload_n 0, 1) := by decide +kernel
theorem dX1_passHour_1 : decode cX1_passHour 1 = .ok (.invokevirtual 96, 3) := by decide +kernel
theorem dX1_passHour_4 : decode cX1_passHour 4 = .ok (.iconst 0, 1) := by decide +kernel
theorem dX1_passHour_5 : decode cX1_passHour 5 = .ok (.istore_n 1, 1) := by decide +kernel
theorem dX1_passHour_6 : decode cX1_passHour 6 = .ok (.iload_n 1, 1) := by decide +kernel
theorem dX1_passHour_7 : decode cX1_passHour 7 = .ok (.aload_n 0, 1) := by decide +kernel
theorem dX1_passHour_8 : decode cX1_passHour 8 = .ok (.getfield 21, 3) := by decide +kernel
theorem dX1_passHour_11 : decode cX1_passHour 11 = .ok (.getfield 41, 3) := by decide +kernel
theorem dX1_passHour_14 : decode cX1_passHour 14 = .ok (.if_icmp .ge 22, 3) := by decide +kernel
theorem dX1_passHour_17 : decode cX1_passHour 17 = .ok (.aload_n 0, 1) := by decide +kernel
theorem dX1_passHour_18 : decode cX1_passHour 18 = .ok (.iload_n 1, 1) := by decide +kernel
theorem dX1_passHour_19 : decode cX1_passHour 19 = .ok (.invokevirtual 99, 3) := by decide +kernel
theorem dX1_passHour_22 : decode cX1_passHour 22 = .ok (.ifCond .eq 8, 3) := by decide +kernel
theorem dX1_passHour_25 : decode cX1_passHour 25 = .ok (.aload_n 0, 1) := by decide +kernel
theorem dX1_passHour_26 : decode cX1_passHour 26 = .ok (.iload_n 1, 1) := by decide +kernel
theorem dX1_passHour_27 : decode cX1_passHour 27 = .ok (.invokevirtual 103, 3) := by decide +kernel
theorem dX1_passHour_30 : decode cX1_passHour 30 = .ok (.iinc 1 1, 3) := by decide +kernel
theorem dX1_passHour_33 : decode cX1_passHour 33 = .ok (.goto (-27), 3) := by decide +kernel
theorem dX1_passHour_36 : decode cX1_passHour 36 = .ok (.iconst 0, 1) := by decide +kernel
theorem dX1_passHour_37 : decode cX1_passHour 37 = .ok (.istore_n 1, 1) := by decide +kernel
theorem dX1_passHour_38 : decode cX1_passHour 38 = .ok (.iload_n 1, 1) := by decide +kernel
theorem dX1_passHour_39 : decode cX1_passHour 39 = .ok (.aload_n 0, 1) := by decide +kernel
theorem dX1_passHour_40 : decode cX1_passHour 40 = .ok (.getfield 21, 3) := by decide +kernel
theorem dX1_passHour_43 : decode cX1_passHour 43 = .ok (.getfield 25, 3) := by decide +kernel
theorem dX1_passHour_46 : decode cX1_passHour 46 = .ok (.if_icmp .ge 27, 3) := by decide +kernel
theorem dX1_passHour_49 : decode cX1_passHour 49 = .ok (.aload_n 0, 1) := by decide +kernel
theorem dX1_passHour_50 : decode cX1_passHour 50 = .ok (.getfield 21, 3) := by decide +kernel
theorem dX1_passHour_53 : decode cX1_passHour 53 = .ok (.getfield 59, 3) := by decide +kernel
theorem dX1_passHour_56 : decode cX1_passHour 56 = .ok (.iload_n 1, 1) := by decide +kernel
theorem dX1_passHour_57 : decode cX1_passHour 57 = .ok (.iaload, 1) := by decide +kernel
theorem dX1_passHour_58 : decode cX1_passHour 58 = .ok (.iconst 3, 1) := by decide +kernel
theorem dX1_passHour_59 : decode cX1_passHour 59 = .ok (.if_icmp .ne 8, 3) := by decide +kernel
theorem dX1_passHour_62 : decode cX1_passHour 62 = .ok (.aload_n 0, 1) := by decide +kernel
theorem dX1_passHour_63 : decode cX1_passHour 63 = .ok (.iload_n 1, 1) := by decide +kernel
theorem dX1_passHour_64 : decode cX1_passHour 64 = .ok (.invokevirtual 106, 3) := by decide +kernel
theorem dX1_passHour_67 : decode cX1_passHour 67 = .ok (.iinc 1 1, 3) := by decide +kernel
theorem dX1_passHour_70 : decode cX1_passHour 70 = .ok (.goto (-32), 3) := by decide +kernel
theorem dX1_passHour_73 : decode cX1_passHour 73 = .ok (.aload_n 0, 1) := by decide +kernel
theorem dX1_passHour_74 : decode cX1_passHour 74 = .ok (.dup, 1) := by decide +kernel
theorem dX1_passHour_75 : decode cX1_passHour 75 = .ok (.getfield 47, 3) := by decide +kernel
theorem dX1_passHour_78 : decode cX1_passHour 78 = .ok (.iconst 1, 1) := by decide +kernel
theorem dX1_passHour_79 : decode cX1_passHour 79 = .ok (.iadd, 1) := by decide +kernel
theorem dX1_passHour_80 : decode cX1_passHour 80 = .ok (.putfield 47, 3) := by decide +kernel
theorem dX1_passHour_83 : decode cX1_passHour 83 = .ok (.return_, 1) := by decide +kernel
theorem dX1_fade_0 : decode cX1_fade 0 = .ok (.iconst 0, 1) := by decide +kernel
theorem dX1_fade_1 : decode cX1_fade 1 = .ok (.istore_n 1, 1) := by decide +kernel
theorem dX1_fade_2 : decode cX1_fade 2 = .ok (.iload_n 1, 1) := by decide +kernel
theorem dX1_fade_3 : decode cX1_fade 3 = .ok (.aload_n 0, 1) := by decide +kernel
theorem dX1_fade_4 : decode cX1_fade 4 = .ok (.getfield 21, 3) := by decide +kernel
theorem dX1_fade_7 : decode cX1_fade 7 = .ok (.getfield 25, 3) := by decide +kernel
theorem dX1_fade_10 : decode cX1_fade 10 = .ok (.if_icmp .ge 57, 3) := by decide +kernel
theorem dX1_fade_13 : decode cX1_fade 13 = .ok (.aload_n 0, 1) := by decide +kernel
theorem dX1_fade_14 : decode cX1_fade 14 = .ok (.getfield 15, 3) := by decide +kernel
theorem dX1_fade_17 : decode cX1_fade 17 = .ok (.iload_n 1, 1) := by decide +kernel
theorem dX1_fade_18 : decode cX1_fade 18 = .ok (.iaload, 1) := by decide +kernel
theorem dX1_fade_19 : decode cX1_fade 19 = .ok (.bipush (-9), 2) := by decide +kernel
theorem dX1_fade_21 : decode cX1_fade 21 = .ok (.if_icmp .eq 40, 3) := by decide +kernel
theorem dX1_fade_24 : decode cX1_fade 24 = .ok (.aload_n 0, 1) := by decide +kernel
theorem dX1_fade_25 : decode cX1_fade 25 = .ok (.getfield 21, 3) := by decide +kernel
theorem dX1_fade_28 : decode cX1_fade 28 = .ok (.getfield 59, 3) := by decide +kernel
theorem dX1_fade_31 : decode cX1_fade 31 = .ok (.iload_n 1, 1) := by decide +kernel
theorem dX1_fade_32 : decode cX1_fade 32 = .ok (.iaload, 1) := by decide +kernel
theorem dX1_fade_33 : decode cX1_fade 33 = .ok (.iconst 1, 1) := by decide +kernel
theorem dX1_fade_34 : decode cX1_fade 34 = .ok (.if_icmp .eq 27, 3) := by decide +kernel
theorem dX1_fade_37 : decode cX1_fade 37 = .ok (.aload_n 0, 1) := by decide +kernel
theorem dX1_fade_38 : decode cX1_fade 38 = .ok (.getfield 18, 3) := by decide +kernel
theorem dX1_fade_41 : decode cX1_fade 41 = .ok (.iload_n 1, 1) := by decide +kernel
theorem dX1_fade_42 : decode cX1_fade 42 = .ok (.dup2, 1) := by decide +kernel
theorem dX1_fade_43 : decode cX1_fade 43 = .ok (.iaload, 1) := by decide +kernel
theorem dX1_fade_44 : decode cX1_fade 44 = .ok (.iconst 1, 1) := by decide +kernel
theorem dX1_fade_45 : decode cX1_fade 45 = .ok (.isub, 1) := by decide +kernel
theorem dX1_fade_46 : decode cX1_fade 46 = .ok (.iastore, 1) := by decide +kernel
theorem dX1_fade_47 : decode cX1_fade 47 = .ok (.aload_n 0, 1) := by decide +kernel
theorem dX1_fade_48 : decode cX1_fade 48 = .ok (.getfield 18, 3) := by decide +kernel
theorem dX1_fade_51 : decode cX1_fade 51 = .ok (.iload_n 1, 1) := by decide +kernel
theorem dX1_fade_52 : decode cX1_fade 52 = .ok (.iaload, 1) := by decide +kernel
theorem dX1_fade_53 : decode cX1_fade 53 = .ok (.ifCond .gt 8, 3) := by decide +kernel
theorem dX1_fade_56 : decode cX1_fade 56 = .ok (.aload_n 0, 1) := by decide +kernel
theorem dX1_fade_57 : decode cX1_fade 57 = .ok (.iload_n 1, 1) := by decide +kernel
theorem dX1_fade_58 : decode cX1_fade 58 = .ok (.invokevirtual 92, 3) := by decide +kernel
theorem dX1_fade_61 : decode cX1_fade 61 = .ok (.iinc 1 1, 3) := by decide +kernel
theorem dX1_fade_64 : decode cX1_fade 64 = .ok (.goto (-62), 3) := by decide +kernel
theorem dX1_fade_67 : decode cX1_fade 67 = .ok (.return_, 1) := by decide +kernel
theorem dX1_goRound_0 : decode cX1_goRound 0 = .ok (.aload_n 0, 1) := by decide +kernel
theorem dX1_goRound_1 : decode cX1_goRound 1 = .ok (.iload_n 1, 1) := by decide +kernel
theorem dX1_goRound_2 : decode cX1_goRound 2 = .ok (.invokevirtual 62, 3) := by decide +kernel
theorem dX1_goRound_5 : decode cX1_goRound 5 = .ok (.istore_n 2, 1) := by decide +kernel
theorem dX1_goRound_6 : decode cX1_goRound 6 = .ok (.iconst 0, 1) := by decide +kernel
theorem dX1_goRound_7 : decode cX1_goRound 7 = .ok (.istore_n 3, 1) := by decide +kernel
theorem dX1_goRound_8 : decode cX1_goRound 8 = .ok (.iload_n 3, 1) := by decide +kernel
theorem dX1_goRound_9 : decode cX1_goRound 9 = .ok (.aload_n 0, 1) := by decide +kernel
theorem dX1_goRound_10 : decode cX1_goRound 10 = .ok (.getfield 21, 3) := by decide +kernel
theorem dX1_goRound_13 : decode cX1_goRound 13 = .ok (.getfield 25, 3) := by decide +kernel
theorem dX1_goRound_16 : decode cX1_goRound 16 = .ok (.if_icmp .ge 69, 3) := by decide +kernel
theorem dX1_goRound_19 : decode cX1_goRound 19 = .ok (.aload_n 0, 1) := by decide +kernel
theorem dX1_goRound_20 : decode cX1_goRound 20 = .ok (.getfield 9, 3) := by decide +kernel
theorem dX1_goRound_23 : decode cX1_goRound 23 = .ok (.iload_n 3, 1) := by decide +kernel
theorem dX1_goRound_24 : decode cX1_goRound 24 = .ok (.iaload, 1) := by decide +kernel
theorem dX1_goRound_25 : decode cX1_goRound 25 = .ok (.iload_n 2, 1) := by decide +kernel
theorem dX1_goRound_26 : decode cX1_goRound 26 = .ok (.if_icmp .ne 53, 3) := by decide +kernel
theorem dX1_goRound_29 : decode cX1_goRound 29 = .ok (.aload_n 0, 1) := by decide +kernel
theorem dX1_goRound_30 : decode cX1_goRound 30 = .ok (.getfield 15, 3) := by decide +kernel
theorem dX1_goRound_33 : decode cX1_goRound 33 = .ok (.iload_n 3, 1) := by decide +kernel
theorem dX1_goRound_34 : decode cX1_goRound 34 = .ok (.iaload, 1) := by decide +kernel
theorem dX1_goRound_35 : decode cX1_goRound 35 = .ok (.bipush (-9), 2) := by decide +kernel
theorem dX1_goRound_37 : decode cX1_goRound 37 = .ok (.if_icmp .ne 31, 3) := by decide +kernel
theorem dX1_goRound_40 : decode cX1_goRound 40 = .ok (.aload_n 0, 1) := by decide +kernel
theorem dX1_goRound_41 : decode cX1_goRound 41 = .ok (.getfield 15, 3) := by decide +kernel
theorem dX1_goRound_44 : decode cX1_goRound 44 = .ok (.iload_n 3, 1) := by decide +kernel
theorem dX1_goRound_45 : decode cX1_goRound 45 = .ok (.aload_n 0, 1) := by decide +kernel
theorem dX1_goRound_46 : decode cX1_goRound 46 = .ok (.getfield 21, 3) := by decide +kernel
theorem dX1_goRound_49 : decode cX1_goRound 49 = .ok (.getfield 34, 3) := by decide +kernel
theorem dX1_goRound_52 : decode cX1_goRound 52 = .ok (.iload_n 3, 1) := by decide +kernel
theorem dX1_goRound_53 : decode cX1_goRound 53 = .ok (.iaload, 1) := by decide +kernel
theorem dX1_goRound_54 : decode cX1_goRound 54 = .ok (.aload_n 0, 1) := by decide +kernel
theorem dX1_goRound_55 : decode cX1_goRound 55 = .ok (.getfield 21, 3) := by decide +kernel
theorem dX1_goRound_58 : decode cX1_goRound 58 = .ok (.getfield 109, 3) := by decide +kernel
theorem dX1_goRound_61 : decode cX1_goRound 61 = .ok (.iload_n 1, 1) := by decide +kernel
theorem dX1_goRound_62 : decode cX1_goRound 62 = .ok (.iaload, 1) := by decide +kernel
theorem dX1_goRound_63 : decode cX1_goRound 63 = .ok (.iadd, 1) := by decide +kernel
theorem dX1_goRound_64 : decode cX1_goRound 64 = .ok (.bipush 10, 2) := by decide +kernel
theorem dX1_goRound_66 : decode cX1_goRound 66 = .ok (.irem, 1) := by decide +kernel
theorem dX1_goRound_67 : decode cX1_goRound 67 = .ok (.iastore, 1) := by decide +kernel
theorem dX1_goRound_68 : decode cX1_goRound 68 = .ok (.aload_n 0, 1) := by decide +kernel
theorem dX1_goRound_69 : decode cX1_goRound 69 = .ok (.getfield 18, 3) := by decide +kernel
theorem dX1_goRound_72 : decode cX1_goRound 72 = .ok (.iload_n 3, 1) := by decide +kernel
theorem dX1_goRound_73 : decode cX1_goRound 73 = .ok (.aload_n 0, 1) := by decide +kernel
theorem dX1_goRound_74 : decode cX1_goRound 74 = .ok (.iload_n 3, 1) := by decide +kernel
theorem dX1_goRound_75 : decode cX1_goRound 75 = .ok (.invokevirtual 86, 3) := by decide +kernel
theorem dX1_goRound_78 : decode cX1_goRound 78 = .ok (.iastore, 1) := by decide +kernel
theorem dX1_goRound_79 : decode cX1_goRound 79 = .ok (.iinc 3 1, 3) := by decide +kernel
theorem dX1_goRound_82 : decode cX1_goRound 82 = .ok (.goto (-74), 3) := by decide +kernel
theorem dX1_goRound_85 : decode cX1_goRound 85 = .ok (.return_, 1) := by decide +kernel
theorem dX1_hearOthers_0 : decode cX1_hearOthers 0 = .ok (.iconst 0, 1) := by decide +kernel
theorem dX1_hearOthers_1 : decode cX1_hearOthers 1 = .ok (.istore_n 2, 1) := by decide +kernel
theorem dX1_hearOthers_2 : decode cX1_hearOthers 2 = .ok (.iconst 0, 1) := by decide +kernel
theorem dX1_hearOthers_3 : decode cX1_hearOthers 3 = .ok (.istore_n 3, 1) := by decide +kernel
theorem dX1_hearOthers_4 : decode cX1_hearOthers 4 = .ok (.iconst 0, 1) := by decide +kernel
theorem dX1_hearOthers_5 : decode cX1_hearOthers 5 = .ok (.istore 4, 2) := by decide +kernel
theorem dX1_hearOthers_7 : decode cX1_hearOthers 7 = .ok (.iload 4, 2) := by decide +kernel
theorem dX1_hearOthers_9 : decode cX1_hearOthers 9 = .ok (.aload_n 0, 1) := by decide +kernel
theorem dX1_hearOthers_10 : decode cX1_hearOthers 10 = .ok (.getfield 21, 3) := by decide +kernel
theorem dX1_hearOthers_13 : decode cX1_hearOthers 13 = .ok (.getfield 25, 3) := by decide +kernel
theorem dX1_hearOthers_16 : decode cX1_hearOthers 16 = .ok (.if_icmp .ge 55, 3) := by decide +kernel
theorem dX1_hearOthers_19 : decode cX1_hearOthers 19 = .ok (.iload 4, 2) := by decide +kernel
theorem dX1_hearOthers_21 : decode cX1_hearOthers 21 = .ok (.iload_n 1, 1) := by decide +kernel
theorem dX1_hearOthers_22 : decode cX1_hearOthers 22 = .ok (.if_icmp .eq 43, 3) := by decide +kernel
theorem dX1_hearOthers_25 : decode cX1_hearOthers 25 = .ok (.aload_n 0, 1) := by decide +kernel
theorem dX1_hearOthers_26 : decode cX1_hearOthers 26 = .ok (.getfield 9, 3) := by decide +kernel
theorem dX1_hearOthers_29 : decode cX1_hearOthers 29 = .ok (.iload 4, 2) := by decide +kernel
theorem dX1_hearOthers_31 : decode cX1_hearOthers 31 = .ok (.iaload, 1) := by decide +kernel
theorem dX1_hearOthers_32 : decode cX1_hearOthers 32 = .ok (.aload_n 0, 1) := by decide +kernel
theorem dX1_hearOthers_33 : decode cX1_hearOthers 33 = .ok (.getfield 9, 3) := by decide +kernel
theorem dX1_hearOthers_36 : decode cX1_hearOthers 36 = .ok (.iload_n 1, 1) := by decide +kernel
theorem dX1_hearOthers_37 : decode cX1_hearOthers 37 = .ok (.iaload, 1) := by decide +kernel
theorem dX1_hearOthers_38 : decode cX1_hearOthers 38 = .ok (.if_icmp .ne 27, 3) := by decide +kernel
theorem dX1_hearOthers_41 : decode cX1_hearOthers 41 = .ok (.aload_n 0, 1) := by decide +kernel
theorem dX1_hearOthers_42 : decode cX1_hearOthers 42 = .ok (.getfield 15, 3) := by decide +kernel
theorem dX1_hearOthers_45 : decode cX1_hearOthers 45 = .ok (.iload 4, 2) := by decide +kernel
theorem dX1_hearOthers_47 : decode cX1_hearOthers 47 = .ok (.iaload, 1) := by decide +kernel
theorem dX1_hearOthers_48 : decode cX1_hearOthers 48 = .ok (.bipush (-9), 2) := by decide +kernel
theorem dX1_hearOthers_50 : decode cX1_hearOthers 50 = .ok (.if_icmp .eq 15, 3) := by decide +kernel
theorem dX1_hearOthers_53 : decode cX1_hearOthers 53 = .ok (.iload_n 2, 1) := by decide +kernel
theorem dX1_hearOthers_54 : decode cX1_hearOthers 54 = .ok (.aload_n 0, 1) := by decide +kernel
theorem dX1_hearOthers_55 : decode cX1_hearOthers 55 = .ok (.getfield 15, 3) := by decide +kernel
theorem dX1_hearOthers_58 : decode cX1_hearOthers 58 = .ok (.iload 4, 2) := by decide +kernel
theorem dX1_hearOthers_60 : decode cX1_hearOthers 60 = .ok (.iaload, 1) := by decide +kernel
theorem dX1_hearOthers_61 : decode cX1_hearOthers 61 = .ok (.iadd, 1) := by decide +kernel
theorem dX1_hearOthers_62 : decode cX1_hearOthers 62 = .ok (.istore_n 2, 1) := by decide +kernel
theorem dX1_hearOthers_63 : decode cX1_hearOthers 63 = .ok (.iconst 1, 1) := by decide +kernel
theorem dX1_hearOthers_64 : decode cX1_hearOthers 64 = .ok (.istore_n 3, 1) := by decide +kernel
theorem dX1_hearOthers_65 : decode cX1_hearOthers 65 = .ok (.iinc 4 1, 3) := by decide +kernel
theorem dX1_hearOthers_68 : decode cX1_hearOthers 68 = .ok (.goto (-61), 3) := by decide +kernel
theorem dX1_hearOthers_71 : decode cX1_hearOthers 71 = .ok (.iload_n 3, 1) := by decide +kernel
theorem dX1_hearOthers_72 : decode cX1_hearOthers 72 = .ok (.ifCond .eq 12, 3) := by decide +kernel
theorem dX1_hearOthers_75 : decode cX1_hearOthers 75 = .ok (.aload_n 0, 1) := by decide +kernel
theorem dX1_hearOthers_76 : decode cX1_hearOthers 76 = .ok (.iload_n 1, 1) := by decide +kernel
theorem dX1_hearOthers_77 : decode cX1_hearOthers 77 = .ok (.iload_n 2, 1) := by decide +kernel
theorem dX1_hearOthers_78 : decode cX1_hearOthers 78 = .ok (.bipush 10, 2) := by decide +kernel
theorem dX1_hearOthers_80 : decode cX1_hearOthers 80 = .ok (.irem, 1) := by decide +kernel
theorem dX1_hearOthers_81 : decode cX1_hearOthers 81 = .ok (.invokevirtual 37, 3) := by decide +kernel
theorem dX1_hearOthers_84 : decode cX1_hearOthers 84 = .ok (.return_, 1) := by decide +kernel
theorem dX2_init_0 : decode cX2_init 0 = .ok (.aload_n 0, 1) := by decide +kernel
theorem dX2_init_1 : decode cX2_init 1 = .ok (.invokespecial 3, 3) := by decide +kernel
theorem dX2_init_4 : decode cX2_init 4 = .ok (.aload_n 0, 1) := by decide +kernel
theorem dX2_init_5 : decode cX2_init 5 = .ok (.iconst 5, 1) := by decide +kernel
theorem dX2_init_6 : decode cX2_init 6 = .ok (.newarray .int, 2) := by decide +kernel
theorem dX2_init_8 : decode cX2_init 8 = .ok (.putfield 9, 3) := by decide +kernel
theorem dX2_init_11 : decode cX2_init 11 = .ok (.aload_n 0, 1) := by decide +kernel
theorem dX2_init_12 : decode cX2_init 12 = .ok (.bipush 25, 2) := by decide +kernel
theorem dX2_init_14 : decode cX2_init 14 = .ok (.newarray .int, 2) := by decide +kernel
theorem dX2_init_16 : decode cX2_init 16 = .ok (.putfield 15, 3) := by decide +kernel
theorem dX2_init_19 : decode cX2_init 19 = .ok (.aload_n 0, 1) := by decide +kernel
theorem dX2_init_20 : decode cX2_init 20 = .ok (.bipush 25, 2) := by decide +kernel
theorem dX2_init_22 : decode cX2_init 22 = .ok (.newarray .int, 2) := by decide +kernel
theorem dX2_init_24 : decode cX2_init 24 = .ok (.putfield 18, 3) := by decide +kernel
theorem dX2_init_27 : decode cX2_init 27 = .ok (.aload_n 0, 1) := by decide +kernel
theorem dX2_init_28 : decode cX2_init 28 = .ok (.aload_n 1, 1) := by decide +kernel
theorem dX2_init_29 : decode cX2_init 29 = .ok (.putfield 21, 3) := by decide +kernel
theorem dX2_init_32 : decode cX2_init 32 = .ok (.aload_n 0, 1) := by decide +kernel
theorem dX2_init_33 : decode cX2_init 33 = .ok (.aload_n 2, 1) := by decide +kernel
theorem dX2_init_34 : decode cX2_init 34 = .ok (.putfield 25, 3) := by decide +kernel
theorem dX2_init_37 : decode cX2_init 37 = .ok (.aload_n 0, 1) := by decide +kernel
theorem dX2_init_38 : decode cX2_init 38 = .ok (.new 29, 3) := by decide +kernel
theorem dX2_init_41 : decode cX2_init 41 = .ok (.dup, 1) := by decide +kernel
theorem dX2_init_42 : decode cX2_init 42 = .ok (.aload_n 1, 1) := by decide +kernel
theorem dX2_init_43 : decode cX2_init 43 = .ok (.invokespecial 31, 3) := by decide +kernel
theorem dX2_init_46 : decode cX2_init 46 = .ok (.putfield 34, 3) := by decide +kernel
theorem dX2_init_49 : decode cX2_init 49 = .ok (.return_, 1) := by decide +kernel
theorem dX2_startTrial_0 : decode cX2_startTrial 0 = .ok (.aload_n 0, 1) := by decide +kernel
theorem dX2_startTrial_1 : decode cX2_startTrial 1 = .ok (.getfield 34, 3) := by decide +kernel
theorem dX2_startTrial_4 : decode cX2_startTrial 4 = .ok (.aload_n 0, 1) := by decide +kernel
theorem dX2_startTrial_5 : decode cX2_startTrial 5 = .ok (.getfield 25, 3) := by decide +kernel
theorem dX2_startTrial_8 : decode cX2_startTrial 8 = .ok (.invokevirtual 37, 3) := by decide +kernel
theorem dX2_startTrial_11 : decode cX2_startTrial 11 = .ok (.return_, 1) := by decide +kernel
theorem dX2_passHours_0 : decode cX2_passHours 0 = .ok (.iconst 0, 1) := by decide +kernel
theorem dX2_passHours_1 : decode cX2_passHours 1 = .ok (.istore_n 2, 1) := by decide +kernel
theorem dX2_passHours_2 : decode cX2_passHours 2 = .ok (.iload_n 2, 1) := by decide +kernel
theorem dX2_passHours_3 : decode cX2_passHours 3 = .ok (.iload_n 1, 1) := by decide +kernel
theorem dX2_passHours_4 : decode cX2_passHours 4 = .ok (.if_icmp .ge 16, 3) := by decide +kernel
theorem dX2_passHours_7 : decode cX2_passHours 7 = .ok (.aload_n 0, 1) := by decide +kernel
theorem dX2_passHours_8 : decode cX2_passHours 8 = .ok (.getfield 34, 3) := by decide +kernel
theorem dX2_passHours_11 : decode cX2_passHours 11 = .ok (.invokevirtual 41, 3) := by decide +kernel
theorem dX2_passHours_14 : decode cX2_passHours 14 = .ok (.iinc 2 1, 3) := by decide +kernel
theorem dX2_passHours_17 : decode cX2_passHours 17 = .ok (.goto (-15), 3) := by decide +kernel
theorem dX2_passHours_20 : decode cX2_passHours 20 = .ok (.return_, 1) := by decide +kernel
theorem dX2_watch_0 : decode cX2_watch 0 = .ok (.iconst 0, 1) := by decide +kernel
theorem dX2_watch_1 : decode cX2_watch 1 = .ok (.istore_n 1, 1) := by decide +kernel
theorem dX2_watch_2 : decode cX2_watch 2 = .ok (.iload_n 1, 1) := by decide +kernel
theorem dX2_watch_3 : decode cX2_watch 3 = .ok (.aload_n 0, 1) := by decide +kernel
theorem dX2_watch_4 : decode cX2_watch 4 = .ok (.getfield 21, 3) := by decide +kernel
theorem dX2_watch_7 : decode cX2_watch 7 = .ok (.getfield 44, 3) := by decide +kernel
theorem dX2_watch_10 : decode cX2_watch 10 = .ok (.if_icmp .ge 16, 3) := by decide +kernel
theorem dX2_watch_13 : decode cX2_watch 13 = .ok (.aload_n 0, 1) := by decide +kernel
theorem dX2_watch_14 : decode cX2_watch 14 = .ok (.getfield 9, 3) := by decide +kernel
theorem dX2_watch_17 : decode cX2_watch 17 = .ok (.iload_n 1, 1) := by decide +kernel
theorem dX2_watch_18 : decode cX2_watch 18 = .ok (.iconst 0, 1) := by decide +kernel
theorem dX2_watch_19 : decode cX2_watch 19 = .ok (.iastore, 1) := by decide +kernel
theorem dX2_watch_20 : decode cX2_watch 20 = .ok (.iinc 1 1, 3) := by decide +kernel
theorem dX2_watch_23 : decode cX2_watch 23 = .ok (.goto (-21), 3) := by decide +kernel
theorem dX2_watch_26 : decode cX2_watch 26 = .ok (.iconst 0, 1) := by decide +kernel
theorem dX2_watch_27 : decode cX2_watch 27 = .ok (.istore_n 1, 1) := by decide +kernel
theorem dX2_watch_28 : decode cX2_watch 28 = .ok (.iload_n 1, 1) := by decide +kernel
theorem dX2_watch_29 : decode cX2_watch 29 = .ok (.bipush 12, 2) := by decide +kernel
theorem dX2_watch_31 : decode cX2_watch 31 = .ok (.if_icmp .ge 59, 3) := by decide +kernel
theorem dX2_watch_34 : decode cX2_watch 34 = .ok (.aload_n 0, 1) := by decide +kernel
theorem dX2_watch_35 : decode cX2_watch 35 = .ok (.getfield 34, 3) := by decide +kernel
theorem dX2_watch_38 : decode cX2_watch 38 = .ok (.invokevirtual 41, 3) := by decide +kernel
theorem dX2_watch_41 : decode cX2_watch 41 = .ok (.iconst 0, 1) := by decide +kernel
theorem dX2_watch_42 : decode cX2_watch 42 = .ok (.istore_n 2, 1) := by decide +kernel
theorem dX2_watch_43 : decode cX2_watch 43 = .ok (.iload_n 2, 1) := by decide +kernel
theorem dX2_watch_44 : decode cX2_watch 44 = .ok (.aload_n 0, 1) := by decide +kernel
theorem dX2_watch_45 : decode cX2_watch 45 = .ok (.getfield 21, 3) := by decide +kernel
theorem dX2_watch_48 : decode cX2_watch 48 = .ok (.getfield 44, 3) := by decide +kernel
theorem dX2_watch_51 : decode cX2_watch 51 = .ok (.if_icmp .ge 33, 3) := by decide +kernel
theorem dX2_watch_54 : decode cX2_watch 54 = .ok (.aload_n 0, 1) := by decide +kernel
theorem dX2_watch_55 : decode cX2_watch 55 = .ok (.getfield 34, 3) := by decide +kernel
theorem dX2_watch_58 : decode cX2_watch 58 = .ok (.getfield 50, 3) := by decide +kernel
theorem dX2_watch_61 : decode cX2_watch 61 = .ok (.iload_n 2, 1) := by decide +kernel
theorem dX2_watch_62 : decode cX2_watch 62 = .ok (.iaload, 1) := by decide +kernel
theorem dX2_watch_63 : decode cX2_watch 63 = .ok (.bipush (-9), 2) := by decide +kernel
theorem dX2_watch_65 : decode cX2_watch 65 = .ok (.if_icmp .eq 13, 3) := by decide +kernel
theorem dX2_watch_68 : decode cX2_watch 68 = .ok (.aload_n 0, 1) := by decide +kernel
theorem dX2_watch_69 : decode cX2_watch 69 = .ok (.getfield 9, 3) := by decide +kernel
theorem dX2_watch_72 : decode cX2_watch 72 = .ok (.iload_n 2, 1) := by decide +kernel
theorem dX2_watch_73 : decode cX2_watch 73 = .ok (.dup2, 1) := by decide +kernel
theorem dX2_watch_74 : decode cX2_watch 74 = .ok (.iaload, 1) := by decide +kernel
theorem dX2_watch_75 : decode cX2_watch 75 = .ok (.iconst 1, 1) := by decide +kernel
theorem dX2_watch_76 : decode cX2_watch 76 = .ok (.iadd, 1) := by decide +kernel
theorem dX2_watch_77 : decode cX2_watch 77 = .ok (.iastore, 1) := by decide +kernel
theorem dX2_watch_78 : decode cX2_watch 78 = .ok (.iinc 2 1, 3) := by decide +kernel
theorem dX2_watch_81 : decode cX2_watch 81 = .ok (.goto (-38), 3) := by decide +kernel
theorem dX2_watch_84 : decode cX2_watch 84 = .ok (.iinc 1 1, 3) := by decide +kernel
theorem dX2_watch_87 : decode cX2_watch 87 = .ok (.goto (-59), 3) := by decide +kernel
theorem dX2_watch_90 : decode cX2_watch 90 = .ok (.return_, 1) := by decide +kernel
theorem dX2_knownIn_0 : decode cX2_knownIn 0 = .ok (.aload_n 0, 1) := by decide +kernel
theorem dX2_knownIn_1 : decode cX2_knownIn 1 = .ok (.invokevirtual 53, 3) := by decide +kernel
theorem dX2_knownIn_4 : decode cX2_knownIn 4 = .ok (.aload_n 0, 1) := by decide +kernel
theorem dX2_knownIn_5 : decode cX2_knownIn 5 = .ok (.iload_n 2, 1) := by decide +kernel
theorem dX2_knownIn_6 : decode cX2_knownIn 6 = .ok (.invokevirtual 56, 3) := by decide +kernel
theorem dX2_knownIn_9 : decode cX2_knownIn 9 = .ok (.aload_n 0, 1) := by decide +kernel
theorem dX2_knownIn_10 : decode cX2_knownIn 10 = .ok (.getfield 34, 3) := by decide +kernel
theorem dX2_knownIn_13 : decode cX2_knownIn 13 = .ok (.getfield 50, 3) := by decide +kernel
theorem dX2_knownIn_16 : decode cX2_knownIn 16 = .ok (.iload_n 1, 1) := by decide +kernel
theorem dX2_knownIn_17 : decode cX2_knownIn 17 = .ok (.iaload, 1) := by decide +kernel
theorem dX2_knownIn_18 : decode cX2_knownIn 18 = .ok (.ireturn, 1) := by decide +kernel
theorem dX2_lostIn_0 : decode cX2_lostIn 0 = .ok (.aload_n 0, 1) := by decide +kernel
theorem dX2_lostIn_1 : decode cX2_lostIn 1 = .ok (.invokevirtual 53, 3) := by decide +kernel
theorem dX2_lostIn_4 : decode cX2_lostIn 4 = .ok (.iconst 0, 1) := by decide +kernel
theorem dX2_lostIn_5 : decode cX2_lostIn 5 = .ok (.istore_n 2, 1) := by decide +kernel
theorem dX2_lostIn_6 : decode cX2_lostIn 6 = .ok (.iload_n 2, 1) := by decide +kernel
theorem dX2_lostIn_7 : decode cX2_lostIn 7 = .ok (.bipush 20, 2) := by decide +kernel
theorem dX2_lostIn_9 : decode cX2_lostIn 9 = .ok (.if_icmp .gt 32, 3) := by decide +kernel
theorem dX2_lostIn_12 : decode cX2_lostIn 12 = .ok (.aload_n 0, 1) := by decide +kernel
theorem dX2_lostIn_13 : decode cX2_lostIn 13 = .ok (.getfield 34, 3) := by decide +kernel
theorem dX2_lostIn_16 : decode cX2_lostIn 16 = .ok (.getfield 50, 3) := by decide +kernel
theorem dX2_lostIn_19 : decode cX2_lostIn 19 = .ok (.iload_n 1, 1) := by decide +kernel
theorem dX2_lostIn_20 : decode cX2_lostIn 20 = .ok (.iaload, 1) := by decide +kernel
theorem dX2_lostIn_21 : decode cX2_lostIn 21 = .ok (.bipush (-9), 2) := by decide +kernel
theorem dX2_lostIn_23 : decode cX2_lostIn 23 = .ok (.if_icmp .ne 5, 3) := by decide +kernel
theorem dX2_lostIn_26 : decode cX2_lostIn 26 = .ok (.iload_n 2, 1) := by decide +kernel
theorem dX2_lostIn_27 : decode cX2_lostIn 27 = .ok (.ireturn, 1) := by decide +kernel
theorem dX2_lostIn_28 : decode cX2_lostIn 28 = .ok (.aload_n 0, 1) := by decide +kernel
theorem dX2_lostIn_29 : decode cX2_lostIn 29 = .ok (.getfield 34, 3) := by decide +kernel
theorem dX2_lostIn_32 : decode cX2_lostIn 32 = .ok (.invokevirtual 41, 3) := by decide +kernel
theorem dX2_lostIn_35 : decode cX2_lostIn 35 = .ok (.iinc 2 1, 3) := by decide +kernel
theorem dX2_lostIn_38 : decode cX2_lostIn 38 = .ok (.goto (-32), 3) := by decide +kernel
theorem dX2_lostIn_41 : decode cX2_lostIn 41 = .ok (.bipush (-9), 2) := by decide +kernel
theorem dX2_lostIn_43 : decode cX2_lostIn 43 = .ok (.ireturn, 1) := by decide +kernel
theorem dX2_fewestLips_0 : decode cX2_fewestLips 0 = .ok (.bipush (-9), 2) := by decide +kernel
theorem dX2_fewestLips_2 : decode cX2_fewestLips 2 = .ok (.istore_n 1, 1) := by decide +kernel
theorem dX2_fewestLips_3 : decode cX2_fewestLips 3 = .ok (.iconst 0, 1) := by decide +kernel
theorem dX2_fewestLips_4 : decode cX2_fewestLips 4 = .ok (.istore_n 2, 1) := by decide +kernel
theorem dX2_fewestLips_5 : decode cX2_fewestLips 5 = .ok (.iload_n 2, 1) := by decide +kernel
theorem dX2_fewestLips_6 : decode cX2_fewestLips 6 = .ok (.iconst 1, 1) := by decide +kernel
theorem dX2_fewestLips_7 : decode cX2_fewestLips 7 = .ok (.aload_n 0, 1) := by decide +kernel
theorem dX2_fewestLips_8 : decode cX2_fewestLips 8 = .ok (.getfield 21, 3) := by decide +kernel
theorem dX2_fewestLips_11 : decode cX2_fewestLips 11 = .ok (.getfield 60, 3) := by decide +kernel
theorem dX2_fewestLips_14 : decode cX2_fewestLips 14 = .ok (.ishl, 1) := by decide +kernel
theorem dX2_fewestLips_15 : decode cX2_fewestLips 15 = .ok (.if_icmp .ge 46, 3) := by decide +kernel
theorem dX2_fewestLips_18 : decode cX2_fewestLips 18 = .ok (.iload_n 1, 1) := by decide +kernel
theorem dX2_fewestLips_19 : decode cX2_fewestLips 19 = .ok (.bipush (-9), 2) := by decide +kernel
theorem dX2_fewestLips_21 : decode cX2_fewestLips 21 = .ok (.if_icmp .eq 14, 3) := by decide +kernel
theorem dX2_fewestLips_24 : decode cX2_fewestLips 24 = .ok (.iload_n 2, 1) := by decide +kernel
theorem dX2_fewestLips_25 : decode cX2_fewestLips 25 = .ok (.invokestatic 63, 3) := by decide +kernel
theorem dX2_fewestLips_28 : decode cX2_fewestLips 28 = .ok (.iload_n 1, 1) := by decide +kernel
theorem dX2_fewestLips_29 : decode cX2_fewestLips 29 = .ok (.invokestatic 63, 3) := by decide +kernel
theorem dX2_fewestLips_32 : decode cX2_fewestLips 32 = .ok (.if_icmp .ge 7, 3) := by decide +kernel
theorem dX2_fewestLips_35 : decode cX2_fewestLips 35 = .ok (.iconst 1, 1) := by decide +kernel
theorem dX2_fewestLips_36 : decode cX2_fewestLips 36 = .ok (.goto 4, 3) := by decide +kernel
theorem dX2_fewestLips_39 : decode cX2_fewestLips 39 = .ok (.iconst 0, 1) := by decide +kernel
theorem dX2_fewestLips_40 : decode cX2_fewestLips 40 = .ok (.istore_n 3, 1) := by decide +kernel
theorem dX2_fewestLips_41 : decode cX2_fewestLips 41 = .ok (.iload_n 3, 1) := by decide +kernel
theorem dX2_fewestLips_42 : decode cX2_fewestLips 42 = .ok (.ifCond .eq 13, 3) := by decide +kernel
theorem dX2_fewestLips_45 : decode cX2_fewestLips 45 = .ok (.aload_n 0, 1) := by decide +kernel
theorem dX2_fewestLips_46 : decode cX2_fewestLips 46 = .ok (.iload_n 2, 1) := by decide +kernel
theorem dX2_fewestLips_47 : decode cX2_fewestLips 47 = .ok (.invokevirtual 69, 3) := by decide +kernel
theorem dX2_fewestLips_50 : decode cX2_fewestLips 50 = .ok (.ifCond .eq 5, 3) := by decide +kernel
theorem dX2_fewestLips_53 : decode cX2_fewestLips 53 = .ok (.iload_n 2, 1) := by decide +kernel
theorem dX2_fewestLips_54 : decode cX2_fewestLips 54 = .ok (.istore_n 1, 1) := by decide +kernel
theorem dX2_fewestLips_55 : decode cX2_fewestLips 55 = .ok (.iinc 2 1, 3) := by decide +kernel
theorem dX2_fewestLips_58 : decode cX2_fewestLips 58 = .ok (.goto (-53), 3) := by decide +kernel
theorem dX2_fewestLips_61 : decode cX2_fewestLips 61 = .ok (.iload_n 1, 1) := by decide +kernel
theorem dX2_fewestLips_62 : decode cX2_fewestLips 62 = .ok (.ireturn, 1) := by decide +kernel
theorem dX2_nothingIsLostBy_0 : decode cX2_nothingIsLostBy 0 = .ok (.aload_n 0, 1) := by decide +kernel
theorem dX2_nothingIsLostBy_1 : decode cX2_nothingIsLostBy 1 = .ok (.invokevirtual 53, 3) := by decide +kernel
theorem dX2_nothingIsLostBy_4 : decode cX2_nothingIsLostBy 4 = .ok (.aload_n 0, 1) := by decide +kernel
theorem dX2_nothingIsLostBy_5 : decode cX2_nothingIsLostBy 5 = .ok (.getfield 34, 3) := by decide +kernel
theorem dX2_nothingIsLostBy_8 : decode cX2_nothingIsLostBy 8 = .ok (.iload_n 1, 1) := by decide +kernel
theorem dX2_nothingIsLostBy_9 : decode cX2_nothingIsLostBy 9 = .ok (.putfield 73, 3) := by decide +kernel
theorem dX2_nothingIsLostBy_12 : decode cX2_nothingIsLostBy 12 = .ok (.aload_n 0, 1) := by decide +kernel
theorem dX2_nothingIsLostBy_13 : decode cX2_nothingIsLostBy 13 = .ok (.invokevirtual 76, 3) := by decide +kernel
theorem dX2_nothingIsLostBy_16 : decode cX2_nothingIsLostBy 16 = .ok (.iconst 0, 1) := by decide +kernel
theorem dX2_nothingIsLostBy_17 : decode cX2_nothingIsLostBy 17 = .ok (.istore_n 2, 1) := by decide +kernel
theorem dX2_nothingIsLostBy_18 : decode cX2_nothingIsLostBy 18 = .ok (.iload_n 2, 1) := by decide +kernel
theorem dX2_nothingIsLostBy_19 : decode cX2_nothingIsLostBy 19 = .ok (.aload_n 0, 1) := by decide +kernel
theorem dX2_nothingIsLostBy_20 : decode cX2_nothingIsLostBy 20 = .ok (.getfield 21, 3) := by decide +kernel
theorem dX2_nothingIsLostBy_23 : decode cX2_nothingIsLostBy 23 = .ok (.getfield 44, 3) := by decide +kernel
theorem dX2_nothingIsLostBy_26 : decode cX2_nothingIsLostBy 26 = .ok (.if_icmp .ge 22, 3) := by decide +kernel
theorem dX2_nothingIsLostBy_29 : decode cX2_nothingIsLostBy 29 = .ok (.aload_n 0, 1) := by decide +kernel
theorem dX2_nothingIsLostBy_30 : decode cX2_nothingIsLostBy 30 = .ok (.getfield 9, 3) := by decide +kernel
theorem dX2_nothingIsLostBy_33 : decode cX2_nothingIsLostBy 33 = .ok (.iload_n 2, 1) := by decide +kernel
theorem dX2_nothingIsLostBy_34 : decode cX2_nothingIsLostBy 34 = .ok (.iaload, 1) := by decide +kernel
theorem dX2_nothingIsLostBy_35 : decode cX2_nothingIsLostBy 35 = .ok (.bipush 12, 2) := by decide +kernel
theorem dX2_nothingIsLostBy_37 : decode cX2_nothingIsLostBy 37 = .ok (.if_icmp .ge 5, 3) := by decide +kernel
theorem dX2_nothingIsLostBy_40 : decode cX2_nothingIsLostBy 40 = .ok (.iconst 0, 1) := by decide +kernel
theorem dX2_nothingIsLostBy_41 : decode cX2_nothingIsLostBy 41 = .ok (.ireturn, 1) := by decide +kernel
theorem dX2_nothingIsLostBy_42 : decode cX2_nothingIsLostBy 42 = .ok (.iinc 2 1, 3) := by decide +kernel
theorem dX2_nothingIsLostBy_45 : decode cX2_nothingIsLostBy 45 = .ok (.goto (-27), 3) := by decide +kernel
theorem dX2_nothingIsLostBy_48 : decode cX2_nothingIsLostBy 48 = .ok (.iconst 1, 1) := by decide +kernel
theorem dX2_nothingIsLostBy_49 : decode cX2_nothingIsLostBy 49 = .ok (.ireturn, 1) := by decide +kernel
theorem dX2_keptIn_0 : decode cX2_keptIn 0 = .ok (.aload_n 0, 1) := by decide +kernel
theorem dX2_keptIn_1 : decode cX2_keptIn 1 = .ok (.invokevirtual 53, 3) := by decide +kernel
theorem dX2_keptIn_4 : decode cX2_keptIn 4 = .ok (.aload_n 0, 1) := by decide +kernel
theorem dX2_keptIn_5 : decode cX2_keptIn 5 = .ok (.getfield 34, 3) := by decide +kernel
theorem dX2_keptIn_8 : decode cX2_keptIn 8 = .ok (.iload_n 1, 1) := by decide +kernel
theorem dX2_keptIn_9 : decode cX2_keptIn 9 = .ok (.iload_n 2, 1) := by decide +kernel
theorem dX2_keptIn_10 : decode cX2_keptIn 10 = .ok (.invokevirtual 79, 3) := by decide +kernel
theorem dX2_keptIn_13 : decode cX2_keptIn 13 = .ok (.aload_n 0, 1) := by decide +kernel
theorem dX2_keptIn_14 : decode cX2_keptIn 14 = .ok (.invokevirtual 76, 3) := by decide +kernel
theorem dX2_keptIn_17 : decode cX2_keptIn 17 = .ok (.aload_n 0, 1) := by decide +kernel
theorem dX2_keptIn_18 : decode cX2_keptIn 18 = .ok (.getfield 9, 3) := by decide +kernel
theorem dX2_keptIn_21 : decode cX2_keptIn 21 = .ok (.iload_n 1, 1) := by decide +kernel
theorem dX2_keptIn_22 : decode cX2_keptIn 22 = .ok (.iaload, 1) := by decide +kernel
theorem dX2_keptIn_23 : decode cX2_keptIn 23 = .ok (.ireturn, 1) := by decide +kernel
theorem dX2_bestBowl_0 : decode cX2_bestBowl 0 = .ok (.iconst 0, 1) := by decide +kernel
theorem dX2_bestBowl_1 : decode cX2_bestBowl 1 = .ok (.istore_n 2, 1) := by decide +kernel
theorem dX2_bestBowl_2 : decode cX2_bestBowl 2 = .ok (.iconst (-1), 1) := by decide +kernel
theorem dX2_bestBowl_3 : decode cX2_bestBowl 3 = .ok (.istore_n 3, 1) := by decide +kernel
theorem dX2_bestBowl_4 : decode cX2_bestBowl 4 = .ok (.iconst 0, 1) := by decide +kernel
theorem dX2_bestBowl_5 : decode cX2_bestBowl 5 = .ok (.istore 4, 2) := by decide +kernel
theorem dX2_bestBowl_7 : decode cX2_bestBowl 7 = .ok (.iload 4, 2) := by decide +kernel
theorem dX2_bestBowl_9 : decode cX2_bestBowl 9 = .ok (.aload_n 0, 1) := by decide +kernel
theorem dX2_bestBowl_10 : decode cX2_bestBowl 10 = .ok (.getfield 21, 3) := by decide +kernel
theorem dX2_bestBowl_13 : decode cX2_bestBowl 13 = .ok (.getfield 83, 3) := by decide +kernel
theorem dX2_bestBowl_16 : decode cX2_bestBowl 16 = .ok (.if_icmp .ge 30, 3) := by decide +kernel
theorem dX2_bestBowl_19 : decode cX2_bestBowl 19 = .ok (.aload_n 0, 1) := by decide +kernel
theorem dX2_bestBowl_20 : decode cX2_bestBowl 20 = .ok (.iload_n 1, 1) := by decide +kernel
theorem dX2_bestBowl_21 : decode cX2_bestBowl 21 = .ok (.iload 4, 2) := by decide +kernel
theorem dX2_bestBowl_23 : decode cX2_bestBowl 23 = .ok (.invokevirtual 86, 3) := by decide +kernel
theorem dX2_bestBowl_26 : decode cX2_bestBowl 26 = .ok (.istore 5, 2) := by decide +kernel
theorem dX2_bestBowl_28 : decode cX2_bestBowl 28 = .ok (.iload 5, 2) := by decide +kernel
theorem dX2_bestBowl_30 : decode cX2_bestBowl 30 = .ok (.iload_n 3, 1) := by decide +kernel
theorem dX2_bestBowl_31 : decode cX2_bestBowl 31 = .ok (.if_icmp .le 9, 3) := by decide +kernel
theorem dX2_bestBowl_34 : decode cX2_bestBowl 34 = .ok (.iload 5, 2) := by decide +kernel
theorem dX2_bestBowl_36 : decode cX2_bestBowl 36 = .ok (.istore_n 3, 1) := by decide +kernel
theorem dX2_bestBowl_37 : decode cX2_bestBowl 37 = .ok (.iload 4, 2) := by decide +kernel
theorem dX2_bestBowl_39 : decode cX2_bestBowl 39 = .ok (.istore_n 2, 1) := by decide +kernel
theorem dX2_bestBowl_40 : decode cX2_bestBowl 40 = .ok (.iinc 4 1, 3) := by decide +kernel
theorem dX2_bestBowl_43 : decode cX2_bestBowl 43 = .ok (.goto (-36), 3) := by decide +kernel
theorem dX2_bestBowl_46 : decode cX2_bestBowl 46 = .ok (.iload_n 2, 1) := by decide +kernel
theorem dX2_bestBowl_47 : decode cX2_bestBowl 47 = .ok (.ireturn, 1) := by decide +kernel
theorem dX2_firstWrong_0 : decode cX2_firstWrong 0 = .ok (.aload_n 0, 1) := by decide +kernel
theorem dX2_firstWrong_1 : decode cX2_firstWrong 1 = .ok (.invokevirtual 53, 3) := by decide +kernel
theorem dX2_firstWrong_4 : decode cX2_firstWrong 4 = .ok (.iconst 0, 1) := by decide +kernel
theorem dX2_firstWrong_5 : decode cX2_firstWrong 5 = .ok (.istore 4, 2) := by decide +kernel
theorem dX2_firstWrong_7 : decode cX2_firstWrong 7 = .ok (.iload 4, 2) := by decide +kernel
theorem dX2_firstWrong_9 : decode cX2_firstWrong 9 = .ok (.iload_n 1, 1) := by decide +kernel
theorem dX2_firstWrong_10 : decode cX2_firstWrong 10 = .ok (.if_icmp .ge 29, 3) := by decide +kernel
theorem dX2_firstWrong_13 : decode cX2_firstWrong 13 = .ok (.aload_n 0, 1) := by decide +kernel
theorem dX2_firstWrong_14 : decode cX2_firstWrong 14 = .ok (.iload_n 1, 1) := by decide +kernel
theorem dX2_firstWrong_15 : decode cX2_firstWrong 15 = .ok (.iconst 1, 1) := by decide +kernel
theorem dX2_firstWrong_16 : decode cX2_firstWrong 16 = .ok (.isub, 1) := by decide +kernel
theorem dX2_firstWrong_17 : decode cX2_firstWrong 17 = .ok (.iload 4, 2) := by decide +kernel
theorem dX2_firstWrong_19 : decode cX2_firstWrong 19 = .ok (.isub, 1) := by decide +kernel
theorem dX2_firstWrong_20 : decode cX2_firstWrong 20 = .ok (.lload_n 2, 1) := by decide +kernel
theorem dX2_firstWrong_21 : decode cX2_firstWrong 21 = .ok (.invokestatic 90, 3) := by decide +kernel
theorem dX2_firstWrong_24 : decode cX2_firstWrong 24 = .ok (.invokevirtual 94, 3) := by decide +kernel
theorem dX2_firstWrong_27 : decode cX2_firstWrong 27 = .ok (.ifCond .ne 6, 3) := by decide +kernel
theorem dX2_firstWrong_30 : decode cX2_firstWrong 30 = .ok (.iload 4, 2) := by decide +kernel
theorem dX2_firstWrong_32 : decode cX2_firstWrong 32 = .ok (.ireturn, 1) := by decide +kernel
theorem dX2_firstWrong_33 : decode cX2_firstWrong 33 = .ok (.iinc 4 1, 3) := by decide +kernel
theorem dX2_firstWrong_36 : decode cX2_firstWrong 36 = .ok (.goto (-29), 3) := by decide +kernel
theorem dX2_firstWrong_39 : decode cX2_firstWrong 39 = .ok (.bipush (-9), 2) := by decide +kernel
theorem dX2_firstWrong_41 : decode cX2_firstWrong 41 = .ok (.ireturn, 1) := by decide +kernel
theorem dX2_doingAheadOf_0 : decode cX2_doingAheadOf 0 = .ok (.lload_n 1, 1) := by decide +kernel
theorem dX2_doingAheadOf_1 : decode cX2_doingAheadOf 1 = .ok (.lstore_n 3, 1) := by decide +kernel
theorem dX2_doingAheadOf_2 : decode cX2_doingAheadOf 2 = .ok (.iconst 0, 1) := by decide +kernel
theorem dX2_doingAheadOf_3 : decode cX2_doingAheadOf 3 = .ok (.istore 5, 2) := by decide +kernel
theorem dX2_doingAheadOf_5 : decode cX2_doingAheadOf 5 = .ok (.iload 5, 2) := by decide +kernel
theorem dX2_doingAheadOf_7 : decode cX2_doingAheadOf 7 = .ok (.iload_n 0, 1) := by decide +kernel
theorem dX2_doingAheadOf_8 : decode cX2_doingAheadOf 8 = .ok (.if_icmp .ge 15, 3) := by decide +kernel
theorem dX2_doingAheadOf_11 : decode cX2_doingAheadOf 11 = .ok (.lload_n 3, 1) := by decide +kernel
theorem dX2_doingAheadOf_12 : decode cX2_doingAheadOf 12 = .ok (.ldc2_w 97, 3) := by decide +kernel
theorem dX2_doingAheadOf_15 : decode cX2_doingAheadOf 15 = .ok (.ldiv, 1) := by decide +kernel
theorem dX2_doingAheadOf_16 : decode cX2_doingAheadOf 16 = .ok (.lstore_n 3, 1) := by decide +kernel
theorem dX2_doingAheadOf_17 : decode cX2_doingAheadOf 17 = .ok (.iinc 5 1, 3) := by decide +kernel
theorem dX2_doingAheadOf_20 : decode cX2_doingAheadOf 20 = .ok (.goto (-15), 3) := by decide +kernel
theorem dX2_doingAheadOf_23 : decode cX2_doingAheadOf 23 = .ok (.lload_n 3, 1) := by decide +kernel
theorem dX2_doingAheadOf_24 : decode cX2_doingAheadOf 24 = .ok (.ldc2_w 97, 3) := by decide +kernel
theorem dX2_doingAheadOf_27 : decode cX2_doingAheadOf 27 = .ok (.lrem, 1) := by decide +kernel
theorem dX2_doingAheadOf_28 : decode cX2_doingAheadOf 28 = .ok (.l2i, 1) := by decide +kernel
theorem dX2_doingAheadOf_29 : decode cX2_doingAheadOf 29 = .ok (.ireturn, 1) := by decide +kernel
theorem dX2_happens_0 : decode cX2_happens 0 = .ok (.iload_n 1, 1) := by decide +kernel
theorem dX2_happens_1 : decode cX2_happens 1 = .ok (.bipush 10, 2) := by decide +kernel
theorem dX2_happens_3 : decode cX2_happens 3 = .ok (.idiv, 1) := by decide +kernel
theorem dX2_happens_4 : decode cX2_happens 4 = .ok (.bipush 10, 2) := by decide +kernel
theorem dX2_happens_6 : decode cX2_happens 6 = .ok (.irem, 1) := by decide +kernel
theorem dX2_happens_7 : decode cX2_happens 7 = .ok (.istore_n 2, 1) := by decide +kernel
theorem dX2_happens_8 : decode cX2_happens 8 = .ok (.iload_n 1, 1) := by decide +kernel
theorem dX2_happens_9 : decode cX2_happens 9 = .ok (.bipush 10, 2) := by decide +kernel
theorem dX2_happens_11 : decode cX2_happens 11 = .ok (.irem, 1) := by decide +kernel
theorem dX2_happens_12 : decode cX2_happens 12 = .ok (.istore_n 3, 1) := by decide +kernel
theorem dX2_happens_13 : decode cX2_happens 13 = .ok (.iload_n 1, 1) := by decide +kernel
theorem dX2_happens_14 : decode cX2_happens 14 = .ok (.bipush 100, 2) := by decide +kernel
theorem dX2_happens_16 : decode cX2_happens 16 = .ok (.idiv, 1) := by decide +kernel
theorem dX2_happens_17 : decode cX2_happens 17 = .ok (.tableswitch 136 0 5 #[39, 56, 63, 81, 88, 106], 39) := by decide +kernel
theorem dX2_happens_56 : decode cX2_happens 56 = .ok (.iload_n 1, 1) := by decide +kernel
theorem dX2_happens_57 : decode cX2_happens 57 = .ok (.ifCond .ne 14, 3) := by decide +kernel
theorem dX2_happens_60 : decode cX2_happens 60 = .ok (.aload_n 0, 1) := by decide +kernel
theorem dX2_happens_61 : decode cX2_happens 61 = .ok (.invokevirtual 99, 3) := by decide +kernel
theorem dX2_happens_64 : decode cX2_happens 64 = .ok (.ifCond .eq 7, 3) := by decide +kernel
theorem dX2_happens_67 : decode cX2_happens 67 = .ok (.iconst 1, 1) := by decide +kernel
theorem dX2_happens_68 : decode cX2_happens 68 = .ok (.goto 4, 3) := by decide +kernel
theorem dX2_happens_71 : decode cX2_happens 71 = .ok (.iconst 0, 1) := by decide +kernel
theorem dX2_happens_72 : decode cX2_happens 72 = .ok (.ireturn, 1) := by decide +kernel
theorem dX2_happens_73 : decode cX2_happens 73 = .ok (.aload_n 0, 1) := by decide +kernel
theorem dX2_happens_74 : decode cX2_happens 74 = .ok (.iload_n 2, 1) := by decide +kernel
theorem dX2_happens_75 : decode cX2_happens 75 = .ok (.iload_n 3, 1) := by decide +kernel
theorem dX2_happens_76 : decode cX2_happens 76 = .ok (.invokevirtual 103, 3) := by decide +kernel
theorem dX2_happens_79 : decode cX2_happens 79 = .ok (.ireturn, 1) := by decide +kernel
theorem dX2_happens_80 : decode cX2_happens 80 = .ok (.iload_n 2, 1) := by decide +kernel
theorem dX2_happens_81 : decode cX2_happens 81 = .ok (.ifCond .ne 15, 3) := by decide +kernel
theorem dX2_happens_84 : decode cX2_happens 84 = .ok (.aload_n 0, 1) := by decide +kernel
theorem dX2_happens_85 : decode cX2_happens 85 = .ok (.iload_n 3, 1) := by decide +kernel
theorem dX2_happens_86 : decode cX2_happens 86 = .ok (.invokevirtual 107, 3) := by decide +kernel
theorem dX2_happens_89 : decode cX2_happens 89 = .ok (.ifCond .eq 7, 3) := by decide +kernel
theorem dX2_happens_92 : decode cX2_happens 92 = .ok (.iconst 1, 1) := by decide +kernel
theorem dX2_happens_93 : decode cX2_happens 93 = .ok (.goto 4, 3) := by decide +kernel
theorem dX2_happens_96 : decode cX2_happens 96 = .ok (.iconst 0, 1) := by decide +kernel
theorem dX2_happens_97 : decode cX2_happens 97 = .ok (.ireturn, 1) := by decide +kernel
theorem dX2_happens_98 : decode cX2_happens 98 = .ok (.aload_n 0, 1) := by decide +kernel
theorem dX2_happens_99 : decode cX2_happens 99 = .ok (.iload_n 2, 1) := by decide +kernel
theorem dX2_happens_100 : decode cX2_happens 100 = .ok (.iload_n 3, 1) := by decide +kernel
theorem dX2_happens_101 : decode cX2_happens 101 = .ok (.invokevirtual 110, 3) := by decide +kernel
theorem dX2_happens_104 : decode cX2_happens 104 = .ok (.ireturn, 1) := by decide +kernel
theorem dX2_happens_105 : decode cX2_happens 105 = .ok (.iload_n 2, 1) := by decide +kernel
theorem dX2_happens_106 : decode cX2_happens 106 = .ok (.ifCond .ne 15, 3) := by decide +kernel
theorem dX2_happens_109 : decode cX2_happens 109 = .ok (.aload_n 0, 1) := by decide +kernel
theorem dX2_happens_110 : decode cX2_happens 110 = .ok (.iload_n 3, 1) := by decide +kernel
theorem dX2_happens_111 : decode cX2_happens 111 = .ok (.invokevirtual 113, 3) := by decide +kernel
theorem dX2_happens_114 : decode cX2_happens 114 = .ok (.ifCond .eq 7, 3) := by decide +kernel
theorem dX2_happens_117 : decode cX2_happens 117 = .ok (.iconst 1, 1) := by decide +kernel
theorem dX2_happens_118 : decode cX2_happens 118 = .ok (.goto 4, 3) := by decide +kernel
theorem dX2_happens_121 : decode cX2_happens 121 = .ok (.iconst 0, 1) := by decide +kernel
theorem dX2_happens_122 : decode cX2_happens 122 = .ok (.ireturn, 1) := by decide +kernel
theorem dX2_happens_123 : decode cX2_happens 123 = .ok (.aload_n 0, 1) := by decide +kernel
theorem dX2_happens_124 : decode cX2_happens 124 = .ok (.getfield 21, 3) := by decide +kernel
theorem dX2_happens_127 : decode cX2_happens 127 = .ok (.iload_n 2, 1) := by decide +kernel
theorem dX2_happens_128 : decode cX2_happens 128 = .ok (.invokevirtual 116, 3) := by decide +kernel
theorem dX2_happens_131 : decode cX2_happens 131 = .ok (.ifCond .eq 20, 3) := by decide +kernel
theorem dX2_happens_134 : decode cX2_happens 134 = .ok (.aload_n 0, 1) := by decide +kernel
theorem dX2_happens_135 : decode cX2_happens 135 = .ok (.getfield 34, 3) := by decide +kernel
theorem dX2_happens_138 : decode cX2_happens 138 = .ok (.getfield 50, 3) := by decide +kernel
theorem dX2_happens_141 : decode cX2_happens 141 = .ok (.iload_n 2, 1) := by decide +kernel
theorem dX2_happens_142 : decode cX2_happens 142 = .ok (.iaload, 1) := by decide +kernel
theorem dX2_happens_143 : decode cX2_happens 143 = .ok (.iload_n 3, 1) := by decide +kernel
theorem dX2_happens_144 : decode cX2_happens 144 = .ok (.if_icmp .ne 7, 3) := by decide +kernel
theorem dX2_happens_147 : decode cX2_happens 147 = .ok (.iconst 1, 1) := by decide +kernel
theorem dX2_happens_148 : decode cX2_happens 148 = .ok (.goto 4, 3) := by decide +kernel
theorem dX2_happens_151 : decode cX2_happens 151 = .ok (.iconst 0, 1) := by decide +kernel
theorem dX2_happens_152 : decode cX2_happens 152 = .ok (.ireturn, 1) := by decide +kernel
theorem dX2_happens_153 : decode cX2_happens 153 = .ok (.iconst 0, 1) := by decide +kernel
theorem dX2_happens_154 : decode cX2_happens 154 = .ok (.ireturn, 1) := by decide +kernel
theorem dX2_hourPasses_0 : decode cX2_hourPasses 0 = .ok (.aload_n 0, 1) := by decide +kernel
theorem dX2_hourPasses_1 : decode cX2_hourPasses 1 = .ok (.getfield 34, 3) := by decide +kernel
theorem dX2_hourPasses_4 : decode cX2_hourPasses 4 = .ok (.invokevirtual 41, 3) := by decide +kernel
theorem dX2_hourPasses_7 : decode cX2_hourPasses 7 = .ok (.iconst 1, 1) := by decide +kernel
theorem dX2_hourPasses_8 : decode cX2_hourPasses 8 = .ok (.ireturn, 1) := by decide +kernel
theorem dX2_isMoved_0 : decode cX2_isMoved 0 = .ok (.aload_n 0, 1) := by decide +kernel
theorem dX2_isMoved_1 : decode cX2_isMoved 1 = .ok (.getfield 21, 3) := by decide +kernel
theorem dX2_isMoved_4 : decode cX2_isMoved 4 = .ok (.iload_n 1, 1) := by decide +kernel
theorem dX2_isMoved_5 : decode cX2_isMoved 5 = .ok (.invokevirtual 116, 3) := by decide +kernel
theorem dX2_isMoved_8 : decode cX2_isMoved 8 = .ok (.ifCond .eq 30, 3) := by decide +kernel
theorem dX2_isMoved_11 : decode cX2_isMoved 11 = .ok (.aload_n 0, 1) := by decide +kernel
theorem dX2_isMoved_12 : decode cX2_isMoved 12 = .ok (.getfield 21, 3) := by decide +kernel
theorem dX2_isMoved_15 : decode cX2_isMoved 15 = .ok (.iload_n 2, 1) := by decide +kernel
theorem dX2_isMoved_16 : decode cX2_isMoved 16 = .ok (.invokevirtual 119, 3) := by decide +kernel
theorem dX2_isMoved_19 : decode cX2_isMoved 19 = .ok (.ifCond .eq 19, 3) := by decide +kernel
theorem dX2_isMoved_22 : decode cX2_isMoved 22 = .ok (.aload_n 0, 1) := by decide +kernel
theorem dX2_isMoved_23 : decode cX2_isMoved 23 = .ok (.getfield 34, 3) := by decide +kernel
theorem dX2_isMoved_26 : decode cX2_isMoved 26 = .ok (.iload_n 1, 1) := by decide +kernel
theorem dX2_isMoved_27 : decode cX2_isMoved 27 = .ok (.iload_n 2, 1) := by decide +kernel
theorem dX2_isMoved_28 : decode cX2_isMoved 28 = .ok (.invokevirtual 122, 3) := by decide +kernel
theorem dX2_isMoved_31 : decode cX2_isMoved 31 = .ok (.ifCond .eq 7, 3) := by decide +kernel
theorem dX2_isMoved_34 : decode cX2_isMoved 34 = .ok (.iconst 1, 1) := by decide +kernel
theorem dX2_isMoved_35 : decode cX2_isMoved 35 = .ok (.goto 4, 3) := by decide +kernel
theorem dX2_isMoved_38 : decode cX2_isMoved 38 = .ok (.iconst 0, 1) := by decide +kernel
theorem dX2_isMoved_39 : decode cX2_isMoved 39 = .ok (.istore_n 3, 1) := by decide +kernel
theorem dX2_isMoved_40 : decode cX2_isMoved 40 = .ok (.iload_n 3, 1) := by decide +kernel
theorem dX2_isMoved_41 : decode cX2_isMoved 41 = .ok (.ifCond .eq 12, 3) := by decide +kernel
theorem dX2_isMoved_44 : decode cX2_isMoved 44 = .ok (.aload_n 0, 1) := by decide +kernel
theorem dX2_isMoved_45 : decode cX2_isMoved 45 = .ok (.getfield 34, 3) := by decide +kernel
theorem dX2_isMoved_48 : decode cX2_isMoved 48 = .ok (.iload_n 1, 1) := by decide +kernel
theorem dX2_isMoved_49 : decode cX2_isMoved 49 = .ok (.iload_n 2, 1) := by decide +kernel
theorem dX2_isMoved_50 : decode cX2_isMoved 50 = .ok (.invokevirtual 79, 3) := by decide +kernel
theorem dX2_isMoved_53 : decode cX2_isMoved 53 = .ok (.iload_n 3, 1) := by decide +kernel
theorem dX2_isMoved_54 : decode cX2_isMoved 54 = .ok (.ireturn, 1) := by decide +kernel
theorem dX2_waterIsChanged_0 : decode cX2_waterIsChanged 0 = .ok (.aload_n 0, 1) := by decide +kernel
theorem dX2_waterIsChanged_1 : decode cX2_waterIsChanged 1 = .ok (.getfield 21, 3) := by decide +kernel
theorem dX2_waterIsChanged_4 : decode cX2_waterIsChanged 4 = .ok (.iload_n 1, 1) := by decide +kernel
theorem dX2_waterIsChanged_5 : decode cX2_waterIsChanged 5 = .ok (.invokevirtual 119, 3) := by decide +kernel
theorem dX2_waterIsChanged_8 : decode cX2_waterIsChanged 8 = .ok (.istore_n 2, 1) := by decide +kernel
theorem dX2_waterIsChanged_9 : decode cX2_waterIsChanged 9 = .ok (.iload_n 2, 1) := by decide +kernel
theorem dX2_waterIsChanged_10 : decode cX2_waterIsChanged 10 = .ok (.ifCond .eq 12, 3) := by decide +kernel
theorem dX2_waterIsChanged_13 : decode cX2_waterIsChanged 13 = .ok (.aload_n 0, 1) := by decide +kernel
theorem dX2_waterIsChanged_14 : decode cX2_waterIsChanged 14 = .ok (.getfield 34, 3) := by decide +kernel
theorem dX2_waterIsChanged_17 : decode cX2_waterIsChanged 17 = .ok (.iload_n 1, 1) := by decide +kernel
theorem dX2_waterIsChanged_18 : decode cX2_waterIsChanged 18 = .ok (.invokevirtual 125, 3) := by decide +kernel
theorem dX2_waterIsChanged_21 : decode cX2_waterIsChanged 21 = .ok (.pop, 1) := by decide +kernel
theorem dX2_waterIsChanged_22 : decode cX2_waterIsChanged 22 = .ok (.iload_n 2, 1) := by decide +kernel
theorem dX2_waterIsChanged_23 : decode cX2_waterIsChanged 23 = .ok (.ireturn, 1) := by decide +kernel
theorem dX2_isTold_0 : decode cX2_isTold 0 = .ok (.aload_n 0, 1) := by decide +kernel
theorem dX2_isTold_1 : decode cX2_isTold 1 = .ok (.getfield 21, 3) := by decide +kernel
theorem dX2_isTold_4 : decode cX2_isTold 4 = .ok (.iload_n 1, 1) := by decide +kernel
theorem dX2_isTold_5 : decode cX2_isTold 5 = .ok (.invokevirtual 116, 3) := by decide +kernel
theorem dX2_isTold_8 : decode cX2_isTold 8 = .ok (.istore_n 3, 1) := by decide +kernel
theorem dX2_isTold_9 : decode cX2_isTold 9 = .ok (.iload_n 3, 1) := by decide +kernel
theorem dX2_isTold_10 : decode cX2_isTold 10 = .ok (.ifCond .eq 12, 3) := by decide +kernel
theorem dX2_isTold_13 : decode cX2_isTold 13 = .ok (.aload_n 0, 1) := by decide +kernel
theorem dX2_isTold_14 : decode cX2_isTold 14 = .ok (.getfield 34, 3) := by decide +kernel
theorem dX2_isTold_17 : decode cX2_isTold 17 = .ok (.iload_n 1, 1) := by decide +kernel
theorem dX2_isTold_18 : decode cX2_isTold 18 = .ok (.iload_n 2, 1) := by decide +kernel
theorem dX2_isTold_19 : decode cX2_isTold 19 = .ok (.invokevirtual 128, 3) := by decide +kernel
theorem dX2_isTold_22 : decode cX2_isTold 22 = .ok (.iload_n 3, 1) := by decide +kernel
theorem dX2_isTold_23 : decode cX2_isTold 23 = .ok (.ireturn, 1) := by decide +kernel
theorem dX2_dutyTurns_0 : decode cX2_dutyTurns 0 = .ok (.aload_n 0, 1) := by decide +kernel
theorem dX2_dutyTurns_1 : decode cX2_dutyTurns 1 = .ok (.getfield 21, 3) := by decide +kernel
theorem dX2_dutyTurns_4 : decode cX2_dutyTurns 4 = .ok (.iload_n 1, 1) := by decide +kernel
theorem dX2_dutyTurns_5 : decode cX2_dutyTurns 5 = .ok (.invokevirtual 131, 3) := by decide +kernel
theorem dX2_dutyTurns_8 : decode cX2_dutyTurns 8 = .ok (.istore_n 2, 1) := by decide +kernel
theorem dX2_dutyTurns_9 : decode cX2_dutyTurns 9 = .ok (.iload_n 2, 1) := by decide +kernel
theorem dX2_dutyTurns_10 : decode cX2_dutyTurns 10 = .ok (.ifCond .eq 11, 3) := by decide +kernel
theorem dX2_dutyTurns_13 : decode cX2_dutyTurns 13 = .ok (.aload_n 0, 1) := by decide +kernel
theorem dX2_dutyTurns_14 : decode cX2_dutyTurns 14 = .ok (.getfield 34, 3) := by decide +kernel
theorem dX2_dutyTurns_17 : decode cX2_dutyTurns 17 = .ok (.iload_n 1, 1) := by decide +kernel
theorem dX2_dutyTurns_18 : decode cX2_dutyTurns 18 = .ok (.invokevirtual 134, 3) := by decide +kernel
theorem dX2_dutyTurns_21 : decode cX2_dutyTurns 21 = .ok (.iload_n 2, 1) := by decide +kernel
theorem dX2_dutyTurns_22 : decode cX2_dutyTurns 22 = .ok (.ireturn, 1) := by decide +kernel
theorem dX2_shareOf_0 : decode cX2_shareOf 0 = .ok (.aload_n 0, 1) := by decide +kernel
theorem dX2_shareOf_1 : decode cX2_shareOf 1 = .ok (.getfield 25, 3) := by decide +kernel
theorem dX2_shareOf_4 : decode cX2_shareOf 4 = .ok (.iload_n 1, 1) := by decide +kernel
theorem dX2_shareOf_5 : decode cX2_shareOf 5 = .ok (.invokevirtual 137, 3) := by decide +kernel
theorem dX2_shareOf_8 : decode cX2_shareOf 8 = .ok (.ifCond .ne 10, 3) := by decide +kernel
theorem dX2_shareOf_11 : decode cX2_shareOf 11 = .ok (.iconst 0, 1) := by decide +kernel
theorem dX2_shareOf_12 : decode cX2_shareOf 12 = .ok (.iconst 1, 1) := by decide +kernel
theorem dX2_shareOf_13 : decode cX2_shareOf 13 = .ok (.iload_n 2, 1) := by decide +kernel
theorem dX2_shareOf_14 : decode cX2_shareOf 14 = .ok (.invokestatic 140, 3) := by decide +kernel
theorem dX2_shareOf_17 : decode cX2_shareOf 17 = .ok (.ireturn, 1) := by decide +kernel
theorem dX2_shareOf_18 : decode cX2_shareOf 18 = .ok (.aload_n 0, 1) := by decide +kernel
theorem dX2_shareOf_19 : decode cX2_shareOf 19 = .ok (.getfield 25, 3) := by decide +kernel
theorem dX2_shareOf_22 : decode cX2_shareOf 22 = .ok (.getfield 73, 3) := by decide +kernel
theorem dX2_shareOf_25 : decode cX2_shareOf 25 = .ok (.iconst 1, 1) := by decide +kernel
theorem dX2_shareOf_26 : decode cX2_shareOf 26 = .ok (.iload_n 1, 1) := by decide +kernel
theorem dX2_shareOf_27 : decode cX2_shareOf 27 = .ok (.ishl, 1) := by decide +kernel
theorem dX2_shareOf_28 : decode cX2_shareOf 28 = .ok (.iconst (-1), 1) := by decide +kernel
theorem dX2_shareOf_29 : decode cX2_shareOf 29 = .ok (.ixor, 1) := by decide +kernel
theorem dX2_shareOf_30 : decode cX2_shareOf 30 = .ok (.iand, 1) := by decide +kernel
theorem dX2_shareOf_31 : decode cX2_shareOf 31 = .ok (.istore_n 3, 1) := by decide +kernel
theorem dX2_shareOf_32 : decode cX2_shareOf 32 = .ok (.iload_n 3, 1) := by decide +kernel
theorem dX2_shareOf_33 : decode cX2_shareOf 33 = .ok (.invokestatic 63, 3) := by decide +kernel
theorem dX2_shareOf_36 : decode cX2_shareOf 36 = .ok (.iconst 3, 1) := by decide +kernel
theorem dX2_shareOf_37 : decode cX2_shareOf 37 = .ok (.invokestatic 144, 3) := by decide +kernel
theorem dX2_shareOf_40 : decode cX2_shareOf 40 = .ok (.istore 4, 2) := by decide +kernel
theorem dX2_shareOf_42 : decode cX2_shareOf 42 = .ok (.iconst 0, 1) := by decide +kernel
theorem dX2_shareOf_43 : decode cX2_shareOf 43 = .ok (.istore 5, 2) := by decide +kernel
theorem dX2_shareOf_45 : decode cX2_shareOf 45 = .ok (.iconst 0, 1) := by decide +kernel
theorem dX2_shareOf_46 : decode cX2_shareOf 46 = .ok (.istore 6, 2) := by decide +kernel
theorem dX2_shareOf_48 : decode cX2_shareOf 48 = .ok (.iload 6, 2) := by decide +kernel
theorem dX2_shareOf_50 : decode cX2_shareOf 50 = .ok (.iconst 1, 1) := by decide +kernel
theorem dX2_shareOf_51 : decode cX2_shareOf 51 = .ok (.aload_n 0, 1) := by decide +kernel
theorem dX2_shareOf_52 : decode cX2_shareOf 52 = .ok (.getfield 21, 3) := by decide +kernel
theorem dX2_shareOf_55 : decode cX2_shareOf 55 = .ok (.getfield 60, 3) := by decide +kernel
theorem dX2_shareOf_58 : decode cX2_shareOf 58 = .ok (.ishl, 1) := by decide +kernel
theorem dX2_shareOf_59 : decode cX2_shareOf 59 = .ok (.if_icmp .ge 73, 3) := by decide +kernel
theorem dX2_shareOf_62 : decode cX2_shareOf 62 = .ok (.iload 6, 2) := by decide +kernel
theorem dX2_shareOf_64 : decode cX2_shareOf 64 = .ok (.iload_n 3, 1) := by decide +kernel
theorem dX2_shareOf_65 : decode cX2_shareOf 65 = .ok (.iconst (-1), 1) := by decide +kernel
theorem dX2_shareOf_66 : decode cX2_shareOf 66 = .ok (.ixor, 1) := by decide +kernel
theorem dX2_shareOf_67 : decode cX2_shareOf 67 = .ok (.iand, 1) := by decide +kernel
theorem dX2_shareOf_68 : decode cX2_shareOf 68 = .ok (.ifCond .ne 58, 3) := by decide +kernel
theorem dX2_shareOf_71 : decode cX2_shareOf 71 = .ok (.iload 6, 2) := by decide +kernel
theorem dX2_shareOf_73 : decode cX2_shareOf 73 = .ok (.invokestatic 63, 3) := by decide +kernel
theorem dX2_shareOf_76 : decode cX2_shareOf 76 = .ok (.iload 4, 2) := by decide +kernel
theorem dX2_shareOf_78 : decode cX2_shareOf 78 = .ok (.invokestatic 144, 3) := by decide +kernel
theorem dX2_shareOf_81 : decode cX2_shareOf 81 = .ok (.istore 7, 2) := by decide +kernel
theorem dX2_shareOf_83 : decode cX2_shareOf 83 = .ok (.getstatic 149, 3) := by decide +kernel
theorem dX2_shareOf_86 : decode cX2_shareOf 86 = .ok (.iload 7, 2) := by decide +kernel
theorem dX2_shareOf_88 : decode cX2_shareOf 88 = .ok (.iaload, 1) := by decide +kernel
theorem dX2_shareOf_89 : decode cX2_shareOf 89 = .ok (.getstatic 149, 3) := by decide +kernel
theorem dX2_shareOf_92 : decode cX2_shareOf 92 = .ok (.iload 4, 2) := by decide +kernel
theorem dX2_shareOf_94 : decode cX2_shareOf 94 = .ok (.iload 7, 2) := by decide +kernel
theorem dX2_shareOf_96 : decode cX2_shareOf 96 = .ok (.isub, 1) := by decide +kernel
theorem dX2_shareOf_97 : decode cX2_shareOf 97 = .ok (.iaload, 1) := by decide +kernel
theorem dX2_shareOf_98 : decode cX2_shareOf 98 = .ok (.imul, 1) := by decide +kernel
theorem dX2_shareOf_99 : decode cX2_shareOf 99 = .ok (.istore 8, 2) := by decide +kernel
theorem dX2_shareOf_101 : decode cX2_shareOf 101 = .ok (.iload 5, 2) := by decide +kernel
theorem dX2_shareOf_103 : decode cX2_shareOf 103 = .ok (.iload 8, 2) := by decide +kernel
theorem dX2_shareOf_105 : decode cX2_shareOf 105 = .ok (.aload_n 0, 1) := by decide +kernel
theorem dX2_shareOf_106 : decode cX2_shareOf 106 = .ok (.iload 6, 2) := by decide +kernel
theorem dX2_shareOf_108 : decode cX2_shareOf 108 = .ok (.iconst 1, 1) := by decide +kernel
theorem dX2_shareOf_109 : decode cX2_shareOf 109 = .ok (.iload_n 1, 1) := by decide +kernel
theorem dX2_shareOf_110 : decode cX2_shareOf 110 = .ok (.ishl, 1) := by decide +kernel
theorem dX2_shareOf_111 : decode cX2_shareOf 111 = .ok (.ior, 1) := by decide +kernel
theorem dX2_shareOf_112 : decode cX2_shareOf 112 = .ok (.invokevirtual 152, 3) := by decide +kernel
theorem dX2_shareOf_115 : decode cX2_shareOf 115 = .ok (.aload_n 0, 1) := by decide +kernel
theorem dX2_shareOf_116 : decode cX2_shareOf 116 = .ok (.iload 6, 2) := by decide +kernel
theorem dX2_shareOf_118 : decode cX2_shareOf 118 = .ok (.invokevirtual 152, 3) := by decide +kernel
theorem dX2_shareOf_121 : decode cX2_shareOf 121 = .ok (.isub, 1) := by decide +kernel
theorem dX2_shareOf_122 : decode cX2_shareOf 122 = .ok (.imul, 1) := by decide +kernel
theorem dX2_shareOf_123 : decode cX2_shareOf 123 = .ok (.iadd, 1) := by decide +kernel
theorem dX2_shareOf_124 : decode cX2_shareOf 124 = .ok (.istore 5, 2) := by decide +kernel
theorem dX2_shareOf_126 : decode cX2_shareOf 126 = .ok (.iinc 6 1, 3) := by decide +kernel
theorem dX2_shareOf_129 : decode cX2_shareOf 129 = .ok (.goto (-81), 3) := by decide +kernel
theorem dX2_shareOf_132 : decode cX2_shareOf 132 = .ok (.iload 5, 2) := by decide +kernel
theorem dX2_shareOf_134 : decode cX2_shareOf 134 = .ok (.getstatic 149, 3) := by decide +kernel
theorem dX2_shareOf_137 : decode cX2_shareOf 137 = .ok (.iload 4, 2) := by decide +kernel
theorem dX2_shareOf_139 : decode cX2_shareOf 139 = .ok (.iconst 1, 1) := by decide +kernel
theorem dX2_shareOf_140 : decode cX2_shareOf 140 = .ok (.iadd, 1) := by decide +kernel
theorem dX2_shareOf_141 : decode cX2_shareOf 141 = .ok (.iaload, 1) := by decide +kernel
theorem dX2_shareOf_142 : decode cX2_shareOf 142 = .ok (.iload_n 2, 1) := by decide +kernel
theorem dX2_shareOf_143 : decode cX2_shareOf 143 = .ok (.invokestatic 140, 3) := by decide +kernel
theorem dX2_shareOf_146 : decode cX2_shareOf 146 = .ok (.ireturn, 1) := by decide +kernel
theorem dX2_knowersBy_0 : decode cX2_knowersBy 0 = .ok (.aload_n 0, 1) := by decide +kernel
theorem dX2_knowersBy_1 : decode cX2_knowersBy 1 = .ok (.invokevirtual 53, 3) := by decide +kernel
theorem dX2_knowersBy_4 : decode cX2_knowersBy 4 = .ok (.aload_n 0, 1) := by decide +kernel
theorem dX2_knowersBy_5 : decode cX2_knowersBy 5 = .ok (.getfield 34, 3) := by decide +kernel
theorem dX2_knowersBy_8 : decode cX2_knowersBy 8 = .ok (.iload_n 1, 1) := by decide +kernel
theorem dX2_knowersBy_9 : decode cX2_knowersBy 9 = .ok (.putfield 73, 3) := by decide +kernel
theorem dX2_knowersBy_12 : decode cX2_knowersBy 12 = .ok (.aload_n 0, 1) := by decide +kernel
theorem dX2_knowersBy_13 : decode cX2_knowersBy 13 = .ok (.bipush 12, 2) := by decide +kernel
theorem dX2_knowersBy_15 : decode cX2_knowersBy 15 = .ok (.invokevirtual 56, 3) := by decide +kernel
theorem dX2_knowersBy_18 : decode cX2_knowersBy 18 = .ok (.aload_n 0, 1) := by decide +kernel
theorem dX2_knowersBy_19 : decode cX2_knowersBy 19 = .ok (.getfield 34, 3) := by decide +kernel
theorem dX2_knowersBy_22 : decode cX2_knowersBy 22 = .ok (.invokevirtual 155, 3) := by decide +kernel
theorem dX2_knowersBy_25 : decode cX2_knowersBy 25 = .ok (.invokestatic 63, 3) := by decide +kernel
theorem dX2_knowersBy_28 : decode cX2_knowersBy 28 = .ok (.ireturn, 1) := by decide +kernel
theorem dX2_weighPairs_0 : decode cX2_weighPairs 0 = .ok (.iconst 0, 1) := by decide +kernel
theorem dX2_weighPairs_1 : decode cX2_weighPairs 1 = .ok (.istore_n 3, 1) := by decide +kernel
theorem dX2_weighPairs_2 : decode cX2_weighPairs 2 = .ok (.iload_n 3, 1) := by decide +kernel
theorem dX2_weighPairs_3 : decode cX2_weighPairs 3 = .ok (.aload_n 0, 1) := by decide +kernel
theorem dX2_weighPairs_4 : decode cX2_weighPairs 4 = .ok (.getfield 21, 3) := by decide +kernel
theorem dX2_weighPairs_7 : decode cX2_weighPairs 7 = .ok (.getfield 83, 3) := by decide +kernel
theorem dX2_weighPairs_10 : decode cX2_weighPairs 10 = .ok (.if_icmp .ge 110, 3) := by decide +kernel
theorem dX2_weighPairs_13 : decode cX2_weighPairs 13 = .ok (.iconst 0, 1) := by decide +kernel
theorem dX2_weighPairs_14 : decode cX2_weighPairs 14 = .ok (.istore 4, 2) := by decide +kernel
theorem dX2_weighPairs_16 : decode cX2_weighPairs 16 = .ok (.iload 4, 2) := by decide +kernel
theorem dX2_weighPairs_18 : decode cX2_weighPairs 18 = .ok (.aload_n 0, 1) := by decide +kernel
theorem dX2_weighPairs_19 : decode cX2_weighPairs 19 = .ok (.getfield 21, 3) := by decide +kernel
theorem dX2_weighPairs_22 : decode cX2_weighPairs 22 = .ok (.getfield 83, 3) := by decide +kernel
theorem dX2_weighPairs_25 : decode cX2_weighPairs 25 = .ok (.if_icmp .ge 89, 3) := by decide +kernel
theorem dX2_weighPairs_28 : decode cX2_weighPairs 28 = .ok (.aload_n 0, 1) := by decide +kernel
theorem dX2_weighPairs_29 : decode cX2_weighPairs 29 = .ok (.invokevirtual 53, 3) := by decide +kernel
theorem dX2_weighPairs_32 : decode cX2_weighPairs 32 = .ok (.aload_n 0, 1) := by decide +kernel
theorem dX2_weighPairs_33 : decode cX2_weighPairs 33 = .ok (.getfield 34, 3) := by decide +kernel
theorem dX2_weighPairs_36 : decode cX2_weighPairs 36 = .ok (.iload_n 1, 1) := by decide +kernel
theorem dX2_weighPairs_37 : decode cX2_weighPairs 37 = .ok (.iload_n 3, 1) := by decide +kernel
theorem dX2_weighPairs_38 : decode cX2_weighPairs 38 = .ok (.invokevirtual 79, 3) := by decide +kernel
theorem dX2_weighPairs_41 : decode cX2_weighPairs 41 = .ok (.aload_n 0, 1) := by decide +kernel
theorem dX2_weighPairs_42 : decode cX2_weighPairs 42 = .ok (.getfield 34, 3) := by decide +kernel
theorem dX2_weighPairs_45 : decode cX2_weighPairs 45 = .ok (.iload_n 2, 1) := by decide +kernel
theorem dX2_weighPairs_46 : decode cX2_weighPairs 46 = .ok (.iload 4, 2) := by decide +kernel
theorem dX2_weighPairs_48 : decode cX2_weighPairs 48 = .ok (.invokevirtual 79, 3) := by decide +kernel
theorem dX2_weighPairs_51 : decode cX2_weighPairs 51 = .ok (.aload_n 0, 1) := by decide +kernel
theorem dX2_weighPairs_52 : decode cX2_weighPairs 52 = .ok (.invokevirtual 76, 3) := by decide +kernel
theorem dX2_weighPairs_55 : decode cX2_weighPairs 55 = .ok (.iload_n 3, 1) := by decide +kernel
theorem dX2_weighPairs_56 : decode cX2_weighPairs 56 = .ok (.iload 4, 2) := by decide +kernel
theorem dX2_weighPairs_58 : decode cX2_weighPairs 58 = .ok (.if_icmp .ne 7, 3) := by decide +kernel
theorem dX2_weighPairs_61 : decode cX2_weighPairs 61 = .ok (.iconst 0, 1) := by decide +kernel
theorem dX2_weighPairs_62 : decode cX2_weighPairs 62 = .ok (.goto 4, 3) := by decide +kernel
theorem dX2_weighPairs_65 : decode cX2_weighPairs 65 = .ok (.iconst 2, 1) := by decide +kernel
theorem dX2_weighPairs_66 : decode cX2_weighPairs 66 = .ok (.istore 5, 2) := by decide +kernel
theorem dX2_weighPairs_68 : decode cX2_weighPairs 68 = .ok (.aload_n 0, 1) := by decide +kernel
theorem dX2_weighPairs_69 : decode cX2_weighPairs 69 = .ok (.getfield 15, 3) := by decide +kernel
theorem dX2_weighPairs_72 : decode cX2_weighPairs 72 = .ok (.iconst 5, 1) := by decide +kernel
theorem dX2_weighPairs_73 : decode cX2_weighPairs 73 = .ok (.iload_n 3, 1) := by decide +kernel
theorem dX2_weighPairs_74 : decode cX2_weighPairs 74 = .ok (.imul, 1) := by decide +kernel
theorem dX2_weighPairs_75 : decode cX2_weighPairs 75 = .ok (.iload 4, 2) := by decide +kernel
theorem dX2_weighPairs_77 : decode cX2_weighPairs 77 = .ok (.iadd, 1) := by decide +kernel
theorem dX2_weighPairs_78 : decode cX2_weighPairs 78 = .ok (.aload_n 0, 1) := by decide +kernel
theorem dX2_weighPairs_79 : decode cX2_weighPairs 79 = .ok (.getfield 9, 3) := by decide +kernel
theorem dX2_weighPairs_82 : decode cX2_weighPairs 82 = .ok (.iload_n 1, 1) := by decide +kernel
theorem dX2_weighPairs_83 : decode cX2_weighPairs 83 = .ok (.iaload, 1) := by decide +kernel
theorem dX2_weighPairs_84 : decode cX2_weighPairs 84 = .ok (.iload 5, 2) := by decide +kernel
theorem dX2_weighPairs_86 : decode cX2_weighPairs 86 = .ok (.iadd, 1) := by decide +kernel
theorem dX2_weighPairs_87 : decode cX2_weighPairs 87 = .ok (.iastore, 1) := by decide +kernel
theorem dX2_weighPairs_88 : decode cX2_weighPairs 88 = .ok (.aload_n 0, 1) := by decide +kernel
theorem dX2_weighPairs_89 : decode cX2_weighPairs 89 = .ok (.getfield 18, 3) := by decide +kernel
theorem dX2_weighPairs_92 : decode cX2_weighPairs 92 = .ok (.iconst 5, 1) := by decide +kernel
theorem dX2_weighPairs_93 : decode cX2_weighPairs 93 = .ok (.iload_n 3, 1) := by decide +kernel
theorem dX2_weighPairs_94 : decode cX2_weighPairs 94 = .ok (.imul, 1) := by decide +kernel
theorem dX2_weighPairs_95 : decode cX2_weighPairs 95 = .ok (.iload 4, 2) := by decide +kernel
theorem dX2_weighPairs_97 : decode cX2_weighPairs 97 = .ok (.iadd, 1) := by decide +kernel
theorem dX2_weighPairs_98 : decode cX2_weighPairs 98 = .ok (.aload_n 0, 1) := by decide +kernel
theorem dX2_weighPairs_99 : decode cX2_weighPairs 99 = .ok (.getfield 9, 3) := by decide +kernel
theorem dX2_weighPairs_102 : decode cX2_weighPairs 102 = .ok (.iload_n 2, 1) := by decide +kernel
theorem dX2_weighPairs_103 : decode cX2_weighPairs 103 = .ok (.iaload, 1) := by decide +kernel
theorem dX2_weighPairs_104 : decode cX2_weighPairs 104 = .ok (.iload 5, 2) := by decide +kernel
theorem dX2_weighPairs_106 : decode cX2_weighPairs 106 = .ok (.iadd, 1) := by decide +kernel
theorem dX2_weighPairs_107 : decode cX2_weighPairs 107 = .ok (.iastore, 1) := by decide +kernel
theorem dX2_weighPairs_108 : decode cX2_weighPairs 108 = .ok (.iinc 4 1, 3) := by decide +kernel
theorem dX2_weighPairs_111 : decode cX2_weighPairs 111 = .ok (.goto (-95), 3) := by decide +kernel
theorem dX2_weighPairs_114 : decode cX2_weighPairs 114 = .ok (.iinc 3 1, 3) := by decide +kernel
theorem dX2_weighPairs_117 : decode cX2_weighPairs 117 = .ok (.goto (-115), 3) := by decide +kernel
theorem dX2_weighPairs_120 : decode cX2_weighPairs 120 = .ok (.return_, 1) := by decide +kernel
theorem dX2_restCount_0 : decode cX2_restCount 0 = .ok (.iconst 0, 1) := by decide +kernel
theorem dX2_restCount_1 : decode cX2_restCount 1 = .ok (.istore_n 1, 1) := by decide +kernel
theorem dX2_restCount_2 : decode cX2_restCount 2 = .ok (.iconst 0, 1) := by decide +kernel
theorem dX2_restCount_3 : decode cX2_restCount 3 = .ok (.istore_n 2, 1) := by decide +kernel
theorem dX2_restCount_4 : decode cX2_restCount 4 = .ok (.iload_n 2, 1) := by decide +kernel
theorem dX2_restCount_5 : decode cX2_restCount 5 = .ok (.aload_n 0, 1) := by decide +kernel
theorem dX2_restCount_6 : decode cX2_restCount 6 = .ok (.getfield 21, 3) := by decide +kernel
theorem dX2_restCount_9 : decode cX2_restCount 9 = .ok (.getfield 83, 3) := by decide +kernel
theorem dX2_restCount_12 : decode cX2_restCount 12 = .ok (.if_icmp .ge 40, 3) := by decide +kernel
theorem dX2_restCount_15 : decode cX2_restCount 15 = .ok (.iconst 0, 1) := by decide +kernel
theorem dX2_restCount_16 : decode cX2_restCount 16 = .ok (.istore_n 3, 1) := by decide +kernel
theorem dX2_restCount_17 : decode cX2_restCount 17 = .ok (.iload_n 3, 1) := by decide +kernel
theorem dX2_restCount_18 : decode cX2_restCount 18 = .ok (.aload_n 0, 1) := by decide +kernel
theorem dX2_restCount_19 : decode cX2_restCount 19 = .ok (.getfield 21, 3) := by decide +kernel
theorem dX2_restCount_22 : decode cX2_restCount 22 = .ok (.getfield 83, 3) := by decide +kernel
theorem dX2_restCount_25 : decode cX2_restCount 25 = .ok (.if_icmp .ge 21, 3) := by decide +kernel
theorem dX2_restCount_28 : decode cX2_restCount 28 = .ok (.aload_n 0, 1) := by decide +kernel
theorem dX2_restCount_29 : decode cX2_restCount 29 = .ok (.iload_n 2, 1) := by decide +kernel
theorem dX2_restCount_30 : decode cX2_restCount 30 = .ok (.iload_n 3, 1) := by decide +kernel
theorem dX2_restCount_31 : decode cX2_restCount 31 = .ok (.invokevirtual 159, 3) := by decide +kernel
theorem dX2_restCount_34 : decode cX2_restCount 34 = .ok (.ifCond .eq 6, 3) := by decide +kernel
theorem dX2_restCount_37 : decode cX2_restCount 37 = .ok (.iinc 1 1, 3) := by decide +kernel
theorem dX2_restCount_40 : decode cX2_restCount 40 = .ok (.iinc 3 1, 3) := by decide +kernel
theorem dX2_restCount_43 : decode cX2_restCount 43 = .ok (.goto (-26), 3) := by decide +kernel
theorem dX2_restCount_46 : decode cX2_restCount 46 = .ok (.iinc 2 1, 3) := by decide +kernel
theorem dX2_restCount_49 : decode cX2_restCount 49 = .ok (.goto (-45), 3) := by decide +kernel
theorem dX2_restCount_52 : decode cX2_restCount 52 = .ok (.iload_n 1, 1) := by decide +kernel
theorem dX2_restCount_53 : decode cX2_restCount 53 = .ok (.ireturn, 1) := by decide +kernel
theorem dX2_firstRest_0 : decode cX2_firstRest 0 = .ok (.iconst 0, 1) := by decide +kernel
theorem dX2_firstRest_1 : decode cX2_firstRest 1 = .ok (.istore_n 1, 1) := by decide +kernel
theorem dX2_firstRest_2 : decode cX2_firstRest 2 = .ok (.iload_n 1, 1) := by decide +kernel
theorem dX2_firstRest_3 : decode cX2_firstRest 3 = .ok (.aload_n 0, 1) := by decide +kernel
theorem dX2_firstRest_4 : decode cX2_firstRest 4 = .ok (.getfield 21, 3) := by decide +kernel
theorem dX2_firstRest_7 : decode cX2_firstRest 7 = .ok (.getfield 83, 3) := by decide +kernel
theorem dX2_firstRest_10 : decode cX2_firstRest 10 = .ok (.if_icmp .ge 44, 3) := by decide +kernel
theorem dX2_firstRest_13 : decode cX2_firstRest 13 = .ok (.iconst 0, 1) := by decide +kernel
theorem dX2_firstRest_14 : decode cX2_firstRest 14 = .ok (.istore_n 2, 1) := by decide +kernel
theorem dX2_firstRest_15 : decode cX2_firstRest 15 = .ok (.iload_n 2, 1) := by decide +kernel
theorem dX2_firstRest_16 : decode cX2_firstRest 16 = .ok (.aload_n 0, 1) := by decide +kernel
theorem dX2_firstRest_17 : decode cX2_firstRest 17 = .ok (.getfield 21, 3) := by decide +kernel
theorem dX2_firstRest_20 : decode cX2_firstRest 20 = .ok (.getfield 83, 3) := by decide +kernel
theorem dX2_firstRest_23 : decode cX2_firstRest 23 = .ok (.if_icmp .ge 25, 3) := by decide +kernel
theorem dX2_firstRest_26 : decode cX2_firstRest 26 = .ok (.aload_n 0, 1) := by decide +kernel
theorem dX2_firstRest_27 : decode cX2_firstRest 27 = .ok (.iload_n 1, 1) := by decide +kernel
theorem dX2_firstRest_28 : decode cX2_firstRest 28 = .ok (.iload_n 2, 1) := by decide +kernel
theorem dX2_firstRest_29 : decode cX2_firstRest 29 = .ok (.invokevirtual 159, 3) := by decide +kernel
theorem dX2_firstRest_32 : decode cX2_firstRest 32 = .ok (.ifCond .eq 10, 3) := by decide +kernel
theorem dX2_firstRest_35 : decode cX2_firstRest 35 = .ok (.bipush 10, 2) := by decide +kernel
theorem dX2_firstRest_37 : decode cX2_firstRest 37 = .ok (.iload_n 1, 1) := by decide +kernel
theorem dX2_firstRest_38 : decode cX2_firstRest 38 = .ok (.imul, 1) := by decide +kernel
theorem dX2_firstRest_39 : decode cX2_firstRest 39 = .ok (.iload_n 2, 1) := by decide +kernel
theorem dX2_firstRest_40 : decode cX2_firstRest 40 = .ok (.iadd, 1) := by decide +kernel
theorem dX2_firstRest_41 : decode cX2_firstRest 41 = .ok (.ireturn, 1) := by decide +kernel
theorem dX2_firstRest_42 : decode cX2_firstRest 42 = .ok (.iinc 2 1, 3) := by decide +kernel
theorem dX2_firstRest_45 : decode cX2_firstRest 45 = .ok (.goto (-30), 3) := by decide +kernel
theorem dX2_firstRest_48 : decode cX2_firstRest 48 = .ok (.iinc 1 1, 3) := by decide +kernel
theorem dX2_firstRest_51 : decode cX2_firstRest 51 = .ok (.goto (-49), 3) := by decide +kernel
theorem dX2_firstRest_54 : decode cX2_firstRest 54 = .ok (.bipush (-9), 2) := by decide +kernel
theorem dX2_firstRest_56 : decode cX2_firstRest 56 = .ok (.ireturn, 1) := by decide +kernel
theorem dX2_isRest_0 : decode cX2_isRest 0 = .ok (.iconst 5, 1) := by decide +kernel
theorem dX2_isRest_1 : decode cX2_isRest 1 = .ok (.iload_n 1, 1) := by decide +kernel
theorem dX2_isRest_2 : decode cX2_isRest 2 = .ok (.imul, 1) := by decide +kernel
theorem dX2_isRest_3 : decode cX2_isRest 3 = .ok (.iload_n 2, 1) := by decide +kernel
theorem dX2_isRest_4 : decode cX2_isRest 4 = .ok (.iadd, 1) := by decide +kernel
theorem dX2_isRest_5 : decode cX2_isRest 5 = .ok (.istore_n 3, 1) := by decide +kernel
theorem dX2_isRest_6 : decode cX2_isRest 6 = .ok (.iconst 0, 1) := by decide +kernel
theorem dX2_isRest_7 : decode cX2_isRest 7 = .ok (.istore 4, 2) := by decide +kernel
theorem dX2_isRest_9 : decode cX2_isRest 9 = .ok (.iload 4, 2) := by decide +kernel
theorem dX2_isRest_11 : decode cX2_isRest 11 = .ok (.aload_n 0, 1) := by decide +kernel
theorem dX2_isRest_12 : decode cX2_isRest 12 = .ok (.getfield 21, 3) := by decide +kernel
theorem dX2_isRest_15 : decode cX2_isRest 15 = .ok (.getfield 83, 3) := by decide +kernel
theorem dX2_isRest_18 : decode cX2_isRest 18 = .ok (.if_icmp .ge 51, 3) := by decide +kernel
theorem dX2_isRest_21 : decode cX2_isRest 21 = .ok (.aload_n 0, 1) := by decide +kernel
theorem dX2_isRest_22 : decode cX2_isRest 22 = .ok (.getfield 15, 3) := by decide +kernel
theorem dX2_isRest_25 : decode cX2_isRest 25 = .ok (.iconst 5, 1) := by decide +kernel
theorem dX2_isRest_26 : decode cX2_isRest 26 = .ok (.iload 4, 2) := by decide +kernel
theorem dX2_isRest_28 : decode cX2_isRest 28 = .ok (.imul, 1) := by decide +kernel
theorem dX2_isRest_29 : decode cX2_isRest 29 = .ok (.iload_n 2, 1) := by decide +kernel
theorem dX2_isRest_30 : decode cX2_isRest 30 = .ok (.iadd, 1) := by decide +kernel
theorem dX2_isRest_31 : decode cX2_isRest 31 = .ok (.iaload, 1) := by decide +kernel
theorem dX2_isRest_32 : decode cX2_isRest 32 = .ok (.aload_n 0, 1) := by decide +kernel
theorem dX2_isRest_33 : decode cX2_isRest 33 = .ok (.getfield 15, 3) := by decide +kernel
theorem dX2_isRest_36 : decode cX2_isRest 36 = .ok (.iload_n 3, 1) := by decide +kernel
theorem dX2_isRest_37 : decode cX2_isRest 37 = .ok (.iaload, 1) := by decide +kernel
theorem dX2_isRest_38 : decode cX2_isRest 38 = .ok (.if_icmp .gt 23, 3) := by decide +kernel
theorem dX2_isRest_41 : decode cX2_isRest 41 = .ok (.aload_n 0, 1) := by decide +kernel
theorem dX2_isRest_42 : decode cX2_isRest 42 = .ok (.getfield 18, 3) := by decide +kernel
theorem dX2_isRest_45 : decode cX2_isRest 45 = .ok (.iconst 5, 1) := by decide +kernel
theorem dX2_isRest_46 : decode cX2_isRest 46 = .ok (.iload_n 1, 1) := by decide +kernel
theorem dX2_isRest_47 : decode cX2_isRest 47 = .ok (.imul, 1) := by decide +kernel
theorem dX2_isRest_48 : decode cX2_isRest 48 = .ok (.iload 4, 2) := by decide +kernel
theorem dX2_isRest_50 : decode cX2_isRest 50 = .ok (.iadd, 1) := by decide +kernel
theorem dX2_isRest_51 : decode cX2_isRest 51 = .ok (.iaload, 1) := by decide +kernel
theorem dX2_isRest_52 : decode cX2_isRest 52 = .ok (.aload_n 0, 1) := by decide +kernel
theorem dX2_isRest_53 : decode cX2_isRest 53 = .ok (.getfield 18, 3) := by decide +kernel
theorem dX2_isRest_56 : decode cX2_isRest 56 = .ok (.iload_n 3, 1) := by decide +kernel
theorem dX2_isRest_57 : decode cX2_isRest 57 = .ok (.iaload, 1) := by decide +kernel
theorem dX2_isRest_58 : decode cX2_isRest 58 = .ok (.if_icmp .le 5, 3) := by decide +kernel
theorem dX2_isRest_61 : decode cX2_isRest 61 = .ok (.iconst 0, 1) := by decide +kernel
theorem dX2_isRest_62 : decode cX2_isRest 62 = .ok (.ireturn, 1) := by decide +kernel
theorem dX2_isRest_63 : decode cX2_isRest 63 = .ok (.iinc 4 1, 3) := by decide +kernel
theorem dX2_isRest_66 : decode cX2_isRest 66 = .ok (.goto (-57), 3) := by decide +kernel
theorem dX2_isRest_69 : decode cX2_isRest 69 = .ok (.iconst 1, 1) := by decide +kernel
theorem dX2_isRest_70 : decode cX2_isRest 70 = .ok (.ireturn, 1) := by decide +kernel
theorem dX2_chanceOfFirst_0 : decode cX2_chanceOfFirst 0 = .ok (.iconst 0, 1) := by decide +kernel
theorem dX2_chanceOfFirst_1 : decode cX2_chanceOfFirst 1 = .ok (.istore 5, 2) := by decide +kernel
theorem dX2_chanceOfFirst_3 : decode cX2_chanceOfFirst 3 = .ok (.iconst 0, 1) := by decide +kernel
theorem dX2_chanceOfFirst_4 : decode cX2_chanceOfFirst 4 = .ok (.istore 6, 2) := by decide +kernel
theorem dX2_chanceOfFirst_6 : decode cX2_chanceOfFirst 6 = .ok (.iconst 0, 1) := by decide +kernel
theorem dX2_chanceOfFirst_7 : decode cX2_chanceOfFirst 7 = .ok (.istore 7, 2) := by decide +kernel
theorem dX2_chanceOfFirst_9 : decode cX2_chanceOfFirst 9 = .ok (.iload 7, 2) := by decide +kernel
theorem dX2_chanceOfFirst_11 : decode cX2_chanceOfFirst 11 = .ok (.iconst 1, 1) := by decide +kernel
theorem dX2_chanceOfFirst_12 : decode cX2_chanceOfFirst 12 = .ok (.aload_n 0, 1) := by decide +kernel
theorem dX2_chanceOfFirst_13 : decode cX2_chanceOfFirst 13 = .ok (.getfield 21, 3) := by decide +kernel
theorem dX2_chanceOfFirst_16 : decode cX2_chanceOfFirst 16 = .ok (.getfield 60, 3) := by decide +kernel
theorem dX2_chanceOfFirst_19 : decode cX2_chanceOfFirst 19 = .ok (.ishl, 1) := by decide +kernel
theorem dX2_chanceOfFirst_20 : decode cX2_chanceOfFirst 20 = .ok (.if_icmp .ge 62, 3) := by decide +kernel
theorem dX2_chanceOfFirst_23 : decode cX2_chanceOfFirst 23 = .ok (.iload 7, 2) := by decide +kernel
theorem dX2_chanceOfFirst_25 : decode cX2_chanceOfFirst 25 = .ok (.aload_n 0, 1) := by decide +kernel
theorem dX2_chanceOfFirst_26 : decode cX2_chanceOfFirst 26 = .ok (.getfield 25, 3) := by decide +kernel
theorem dX2_chanceOfFirst_29 : decode cX2_chanceOfFirst 29 = .ok (.getfield 73, 3) := by decide +kernel
theorem dX2_chanceOfFirst_32 : decode cX2_chanceOfFirst 32 = .ok (.iconst (-1), 1) := by decide +kernel
theorem dX2_chanceOfFirst_33 : decode cX2_chanceOfFirst 33 = .ok (.ixor, 1) := by decide +kernel
theorem dX2_chanceOfFirst_34 : decode cX2_chanceOfFirst 34 = .ok (.iand, 1) := by decide +kernel
theorem dX2_chanceOfFirst_35 : decode cX2_chanceOfFirst 35 = .ok (.ifCond .ne 41, 3) := by decide +kernel
theorem dX2_chanceOfFirst_38 : decode cX2_chanceOfFirst 38 = .ok (.aload_n 0, 1) := by decide +kernel
theorem dX2_chanceOfFirst_39 : decode cX2_chanceOfFirst 39 = .ok (.iload 7, 2) := by decide +kernel
theorem dX2_chanceOfFirst_41 : decode cX2_chanceOfFirst 41 = .ok (.iload_n 3, 1) := by decide +kernel
theorem dX2_chanceOfFirst_42 : decode cX2_chanceOfFirst 42 = .ok (.invokevirtual 162, 3) := by decide +kernel
theorem dX2_chanceOfFirst_45 : decode cX2_chanceOfFirst 45 = .ok (.istore 8, 2) := by decide +kernel
theorem dX2_chanceOfFirst_47 : decode cX2_chanceOfFirst 47 = .ok (.iload 6, 2) := by decide +kernel
theorem dX2_chanceOfFirst_49 : decode cX2_chanceOfFirst 49 = .ok (.iload 8, 2) := by decide +kernel
theorem dX2_chanceOfFirst_51 : decode cX2_chanceOfFirst 51 = .ok (.iadd, 1) := by decide +kernel
theorem dX2_chanceOfFirst_52 : decode cX2_chanceOfFirst 52 = .ok (.istore 6, 2) := by decide +kernel
theorem dX2_chanceOfFirst_54 : decode cX2_chanceOfFirst 54 = .ok (.iload 5, 2) := by decide +kernel
theorem dX2_chanceOfFirst_56 : decode cX2_chanceOfFirst 56 = .ok (.aload_n 0, 1) := by decide +kernel
theorem dX2_chanceOfFirst_57 : decode cX2_chanceOfFirst 57 = .ok (.iload 7, 2) := by decide +kernel
theorem dX2_chanceOfFirst_59 : decode cX2_chanceOfFirst 59 = .ok (.iload_n 1, 1) := by decide +kernel
theorem dX2_chanceOfFirst_60 : decode cX2_chanceOfFirst 60 = .ok (.iload_n 2, 1) := by decide +kernel
theorem dX2_chanceOfFirst_61 : decode cX2_chanceOfFirst 61 = .ok (.invokevirtual 165, 3) := by decide +kernel
theorem dX2_chanceOfFirst_64 : decode cX2_chanceOfFirst 64 = .ok (.ifCond .eq 8, 3) := by decide +kernel
theorem dX2_chanceOfFirst_67 : decode cX2_chanceOfFirst 67 = .ok (.iload 8, 2) := by decide +kernel
theorem dX2_chanceOfFirst_69 : decode cX2_chanceOfFirst 69 = .ok (.goto 4, 3) := by decide +kernel
theorem dX2_chanceOfFirst_72 : decode cX2_chanceOfFirst 72 = .ok (.iconst 0, 1) := by decide +kernel
theorem dX2_chanceOfFirst_73 : decode cX2_chanceOfFirst 73 = .ok (.iadd, 1) := by decide +kernel
theorem dX2_chanceOfFirst_74 : decode cX2_chanceOfFirst 74 = .ok (.istore 5, 2) := by decide +kernel
theorem dX2_chanceOfFirst_76 : decode cX2_chanceOfFirst 76 = .ok (.iinc 7 1, 3) := by decide +kernel
theorem dX2_chanceOfFirst_79 : decode cX2_chanceOfFirst 79 = .ok (.goto (-70), 3) := by decide +kernel
theorem dX2_chanceOfFirst_82 : decode cX2_chanceOfFirst 82 = .ok (.iload 5, 2) := by decide +kernel
theorem dX2_chanceOfFirst_84 : decode cX2_chanceOfFirst 84 = .ok (.iload 6, 2) := by decide +kernel
theorem dX2_chanceOfFirst_86 : decode cX2_chanceOfFirst 86 = .ok (.iload 4, 2) := by decide +kernel
theorem dX2_chanceOfFirst_88 : decode cX2_chanceOfFirst 88 = .ok (.invokestatic 140, 3) := by decide +kernel
theorem dX2_chanceOfFirst_91 : decode cX2_chanceOfFirst 91 = .ok (.ireturn, 1) := by decide +kernel
theorem dX2_weightOf_0 : decode cX2_weightOf 0 = .ok (.iconst 1, 1) := by decide +kernel
theorem dX2_weightOf_1 : decode cX2_weightOf 1 = .ok (.istore_n 3, 1) := by decide +kernel
theorem dX2_weightOf_2 : decode cX2_weightOf 2 = .ok (.iconst 0, 1) := by decide +kernel
theorem dX2_weightOf_3 : decode cX2_weightOf 3 = .ok (.istore 4, 2) := by decide +kernel
theorem dX2_weightOf_5 : decode cX2_weightOf 5 = .ok (.iload 4, 2) := by decide +kernel
theorem dX2_weightOf_7 : decode cX2_weightOf 7 = .ok (.aload_n 0, 1) := by decide +kernel
theorem dX2_weightOf_8 : decode cX2_weightOf 8 = .ok (.getfield 21, 3) := by decide +kernel
theorem dX2_weightOf_11 : decode cX2_weightOf 11 = .ok (.getfield 60, 3) := by decide +kernel
theorem dX2_weightOf_14 : decode cX2_weightOf 14 = .ok (.if_icmp .ge 41, 3) := by decide +kernel
theorem dX2_weightOf_17 : decode cX2_weightOf 17 = .ok (.aload_n 0, 1) := by decide +kernel
theorem dX2_weightOf_18 : decode cX2_weightOf 18 = .ok (.getfield 25, 3) := by decide +kernel
theorem dX2_weightOf_21 : decode cX2_weightOf 21 = .ok (.iload 4, 2) := by decide +kernel
theorem dX2_weightOf_23 : decode cX2_weightOf 23 = .ok (.invokevirtual 137, 3) := by decide +kernel
theorem dX2_weightOf_26 : decode cX2_weightOf 26 = .ok (.ifCond .eq 23, 3) := by decide +kernel
theorem dX2_weightOf_29 : decode cX2_weightOf 29 = .ok (.iload_n 3, 1) := by decide +kernel
theorem dX2_weightOf_30 : decode cX2_weightOf 30 = .ok (.iload_n 1, 1) := by decide +kernel
theorem dX2_weightOf_31 : decode cX2_weightOf 31 = .ok (.iconst 1, 1) := by decide +kernel
theorem dX2_weightOf_32 : decode cX2_weightOf 32 = .ok (.iload 4, 2) := by decide +kernel
theorem dX2_weightOf_34 : decode cX2_weightOf 34 = .ok (.ishl, 1) := by decide +kernel
theorem dX2_weightOf_35 : decode cX2_weightOf 35 = .ok (.iand, 1) := by decide +kernel
theorem dX2_weightOf_36 : decode cX2_weightOf 36 = .ok (.ifCond .eq 10, 3) := by decide +kernel
theorem dX2_weightOf_39 : decode cX2_weightOf 39 = .ok (.bipush 10, 2) := by decide +kernel
theorem dX2_weightOf_41 : decode cX2_weightOf 41 = .ok (.iload_n 2, 1) := by decide +kernel
theorem dX2_weightOf_42 : decode cX2_weightOf 42 = .ok (.isub, 1) := by decide +kernel
theorem dX2_weightOf_43 : decode cX2_weightOf 43 = .ok (.goto 4, 3) := by decide +kernel
theorem dX2_weightOf_46 : decode cX2_weightOf 46 = .ok (.iload_n 2, 1) := by decide +kernel
theorem dX2_weightOf_47 : decode cX2_weightOf 47 = .ok (.imul, 1) := by decide +kernel
theorem dX2_weightOf_48 : decode cX2_weightOf 48 = .ok (.istore_n 3, 1) := by decide +kernel
theorem dX2_weightOf_49 : decode cX2_weightOf 49 = .ok (.iinc 4 1, 3) := by decide +kernel
theorem dX2_weightOf_52 : decode cX2_weightOf 52 = .ok (.goto (-47), 3) := by decide +kernel
theorem dX2_weightOf_55 : decode cX2_weightOf 55 = .ok (.iload_n 3, 1) := by decide +kernel
theorem dX2_weightOf_56 : decode cX2_weightOf 56 = .ok (.ireturn, 1) := by decide +kernel
theorem dX2_knowsFirstBy_0 : decode cX2_knowsFirstBy 0 = .ok (.aload_n 0, 1) := by decide +kernel
theorem dX2_knowsFirstBy_1 : decode cX2_knowsFirstBy 1 = .ok (.invokevirtual 53, 3) := by decide +kernel
theorem dX2_knowsFirstBy_4 : decode cX2_knowsFirstBy 4 = .ok (.aload_n 0, 1) := by decide +kernel
theorem dX2_knowsFirstBy_5 : decode cX2_knowsFirstBy 5 = .ok (.getfield 34, 3) := by decide +kernel
theorem dX2_knowsFirstBy_8 : decode cX2_knowsFirstBy 8 = .ok (.iload_n 1, 1) := by decide +kernel
theorem dX2_knowsFirstBy_9 : decode cX2_knowsFirstBy 9 = .ok (.putfield 73, 3) := by decide +kernel
theorem dX2_knowsFirstBy_12 : decode cX2_knowsFirstBy 12 = .ok (.aload_n 0, 1) := by decide +kernel
theorem dX2_knowsFirstBy_13 : decode cX2_knowsFirstBy 13 = .ok (.iload_n 3, 1) := by decide +kernel
theorem dX2_knowsFirstBy_14 : decode cX2_knowsFirstBy 14 = .ok (.invokevirtual 56, 3) := by decide +kernel
theorem dX2_knowsFirstBy_17 : decode cX2_knowsFirstBy 17 = .ok (.aload_n 0, 1) := by decide +kernel
theorem dX2_knowsFirstBy_18 : decode cX2_knowsFirstBy 18 = .ok (.getfield 34, 3) := by decide +kernel
theorem dX2_knowsFirstBy_21 : decode cX2_knowsFirstBy 21 = .ok (.getfield 50, 3) := by decide +kernel
theorem dX2_knowsFirstBy_24 : decode cX2_knowsFirstBy 24 = .ok (.iload_n 2, 1) := by decide +kernel
theorem dX2_knowsFirstBy_25 : decode cX2_knowsFirstBy 25 = .ok (.iaload, 1) := by decide +kernel
theorem dX2_knowsFirstBy_26 : decode cX2_knowsFirstBy 26 = .ok (.aload_n 0, 1) := by decide +kernel
theorem dX2_knowsFirstBy_27 : decode cX2_knowsFirstBy 27 = .ok (.getfield 21, 3) := by decide +kernel
theorem dX2_knowsFirstBy_30 : decode cX2_knowsFirstBy 30 = .ok (.getfield 169, 3) := by decide +kernel
theorem dX2_knowsFirstBy_33 : decode cX2_knowsFirstBy 33 = .ok (.iload_n 2, 1) := by decide +kernel
theorem dX2_knowsFirstBy_34 : decode cX2_knowsFirstBy 34 = .ok (.iaload, 1) := by decide +kernel
theorem dX2_knowsFirstBy_35 : decode cX2_knowsFirstBy 35 = .ok (.if_icmp .ne 7, 3) := by decide +kernel
theorem dX2_knowsFirstBy_38 : decode cX2_knowsFirstBy 38 = .ok (.iconst 1, 1) := by decide +kernel
theorem dX2_knowsFirstBy_39 : decode cX2_knowsFirstBy 39 = .ok (.goto 4, 3) := by decide +kernel
theorem dX2_knowsFirstBy_42 : decode cX2_knowsFirstBy 42 = .ok (.iconst 0, 1) := by decide +kernel
theorem dX2_knowsFirstBy_43 : decode cX2_knowsFirstBy 43 = .ok (.ireturn, 1) := by decide +kernel
theorem dX2_draw_0 : decode cX2_draw 0 = .ok (.iload_n 1, 1) := by decide +kernel
theorem dX2_draw_1 : decode cX2_draw 1 = .ok (.bipush 9, 2) := by decide +kernel
theorem dX2_draw_3 : decode cX2_draw 3 = .ok (.if_icmp .lt 13, 3) := by decide +kernel
theorem dX2_draw_6 : decode cX2_draw 6 = .ok (.aload_n 0, 1) := by decide +kernel
theorem dX2_draw_7 : decode cX2_draw 7 = .ok (.getfield 34, 3) := by decide +kernel
theorem dX2_draw_10 : decode cX2_draw 10 = .ok (.invokevirtual 41, 3) := by decide +kernel
theorem dX2_draw_13 : decode cX2_draw 13 = .ok (.goto 25, 3) := by decide +kernel
theorem dX2_draw_16 : decode cX2_draw 16 = .ok (.iload_n 1, 1) := by decide +kernel
theorem dX2_draw_17 : decode cX2_draw 17 = .ok (.iconst 5, 1) := by decide +kernel
theorem dX2_draw_18 : decode cX2_draw 18 = .ok (.if_icmp .lt 14, 3) := by decide +kernel
theorem dX2_draw_21 : decode cX2_draw 21 = .ok (.aload_n 0, 1) := by decide +kernel
theorem dX2_draw_22 : decode cX2_draw 22 = .ok (.iload_n 1, 1) := by decide +kernel
theorem dX2_draw_23 : decode cX2_draw 23 = .ok (.iconst 5, 1) := by decide +kernel
theorem dX2_draw_24 : decode cX2_draw 24 = .ok (.isub, 1) := by decide +kernel
theorem dX2_draw_25 : decode cX2_draw 25 = .ok (.invokevirtual 113, 3) := by decide +kernel
theorem dX2_draw_28 : decode cX2_draw 28 = .ok (.pop, 1) := by decide +kernel
theorem dX2_draw_29 : decode cX2_draw 29 = .ok (.goto 9, 3) := by decide +kernel
theorem dX2_draw_32 : decode cX2_draw 32 = .ok (.aload_n 0, 1) := by decide +kernel
theorem dX2_draw_33 : decode cX2_draw 33 = .ok (.iload_n 1, 1) := by decide +kernel
theorem dX2_draw_34 : decode cX2_draw 34 = .ok (.invokevirtual 107, 3) := by decide +kernel
theorem dX2_draw_37 : decode cX2_draw 37 = .ok (.pop, 1) := by decide +kernel
theorem dX2_draw_38 : decode cX2_draw 38 = .ok (.aload_n 0, 1) := by decide +kernel
theorem dX2_draw_39 : decode cX2_draw 39 = .ok (.getfield 34, 3) := by decide +kernel
theorem dX2_draw_42 : decode cX2_draw 42 = .ok (.invokevirtual 172, 3) := by decide +kernel
theorem dX2_draw_45 : decode cX2_draw 45 = .ok (.invokestatic 63, 3) := by decide +kernel
theorem dX2_draw_48 : decode cX2_draw 48 = .ok (.ireturn, 1) := by decide +kernel
theorem dX2_inLeastTerms_0 : decode cX2_inLeastTerms 0 = .ok (.iload_n 0, 1) := by decide +kernel
theorem dX2_inLeastTerms_1 : decode cX2_inLeastTerms 1 = .ok (.invokestatic 175, 3) := by decide +kernel
theorem dX2_inLeastTerms_4 : decode cX2_inLeastTerms 4 = .ok (.iload_n 1, 1) := by decide +kernel
theorem dX2_inLeastTerms_5 : decode cX2_inLeastTerms 5 = .ok (.invokestatic 178, 3) := by decide +kernel
theorem dX2_inLeastTerms_8 : decode cX2_inLeastTerms 8 = .ok (.istore_n 3, 1) := by decide +kernel
theorem dX2_inLeastTerms_9 : decode cX2_inLeastTerms 9 = .ok (.iload_n 3, 1) := by decide +kernel
theorem dX2_inLeastTerms_10 : decode cX2_inLeastTerms 10 = .ok (.ifCond .ne 13, 3) := by decide +kernel
theorem dX2_inLeastTerms_13 : decode cX2_inLeastTerms 13 = .ok (.iload_n 2, 1) := by decide +kernel
theorem dX2_inLeastTerms_14 : decode cX2_inLeastTerms 14 = .ok (.ifCond .eq 7, 3) := by decide +kernel
theorem dX2_inLeastTerms_17 : decode cX2_inLeastTerms 17 = .ok (.iload_n 0, 1) := by decide +kernel
theorem dX2_inLeastTerms_18 : decode cX2_inLeastTerms 18 = .ok (.goto 4, 3) := by decide +kernel
theorem dX2_inLeastTerms_21 : decode cX2_inLeastTerms 21 = .ok (.iload_n 1, 1) := by decide +kernel
theorem dX2_inLeastTerms_22 : decode cX2_inLeastTerms 22 = .ok (.ireturn, 1) := by decide +kernel
theorem dX2_inLeastTerms_23 : decode cX2_inLeastTerms 23 = .ok (.iload_n 2, 1) := by decide +kernel
theorem dX2_inLeastTerms_24 : decode cX2_inLeastTerms 24 = .ok (.ifCond .eq 9, 3) := by decide +kernel
theorem dX2_inLeastTerms_27 : decode cX2_inLeastTerms 27 = .ok (.iload_n 0, 1) := by decide +kernel
theorem dX2_inLeastTerms_28 : decode cX2_inLeastTerms 28 = .ok (.iload_n 3, 1) := by decide +kernel
theorem dX2_inLeastTerms_29 : decode cX2_inLeastTerms 29 = .ok (.idiv, 1) := by decide +kernel
theorem dX2_inLeastTerms_30 : decode cX2_inLeastTerms 30 = .ok (.goto 6, 3) := by decide +kernel
theorem dX2_inLeastTerms_33 : decode cX2_inLeastTerms 33 = .ok (.iload_n 1, 1) := by decide +kernel
theorem dX2_inLeastTerms_34 : decode cX2_inLeastTerms 34 = .ok (.iload_n 3, 1) := by decide +kernel
theorem dX2_inLeastTerms_35 : decode cX2_inLeastTerms 35 = .ok (.idiv, 1) := by decide +kernel
theorem dX2_inLeastTerms_36 : decode cX2_inLeastTerms 36 = .ok (.ireturn, 1) := by decide +kernel
theorem dX2_commonDivisor_0 : decode cX2_commonDivisor 0 = .ok (.iload_n 0, 1) := by decide +kernel
theorem dX2_commonDivisor_1 : decode cX2_commonDivisor 1 = .ok (.istore_n 2, 1) := by decide +kernel
theorem dX2_commonDivisor_2 : decode cX2_commonDivisor 2 = .ok (.iload_n 1, 1) := by decide +kernel
theorem dX2_commonDivisor_3 : decode cX2_commonDivisor 3 = .ok (.istore_n 3, 1) := by decide +kernel
theorem dX2_commonDivisor_4 : decode cX2_commonDivisor 4 = .ok (.iconst 0, 1) := by decide +kernel
theorem dX2_commonDivisor_5 : decode cX2_commonDivisor 5 = .ok (.istore 4, 2) := by decide +kernel
theorem dX2_commonDivisor_7 : decode cX2_commonDivisor 7 = .ok (.iload 4, 2) := by decide +kernel
theorem dX2_commonDivisor_9 : decode cX2_commonDivisor 9 = .ok (.bipush 64, 2) := by decide +kernel
theorem dX2_commonDivisor_11 : decode cX2_commonDivisor 11 = .ok (.if_icmp .ge 23, 3) := by decide +kernel
theorem dX2_commonDivisor_14 : decode cX2_commonDivisor 14 = .ok (.iload_n 3, 1) := by decide +kernel
theorem dX2_commonDivisor_15 : decode cX2_commonDivisor 15 = .ok (.ifCond .eq 19, 3) := by decide +kernel
theorem dX2_commonDivisor_18 : decode cX2_commonDivisor 18 = .ok (.iload_n 2, 1) := by decide +kernel
theorem dX2_commonDivisor_19 : decode cX2_commonDivisor 19 = .ok (.iload_n 3, 1) := by decide +kernel
theorem dX2_commonDivisor_20 : decode cX2_commonDivisor 20 = .ok (.irem, 1) := by decide +kernel
theorem dX2_commonDivisor_21 : decode cX2_commonDivisor 21 = .ok (.istore 5, 2) := by decide +kernel
theorem dX2_commonDivisor_23 : decode cX2_commonDivisor 23 = .ok (.iload_n 3, 1) := by decide +kernel
theorem dX2_commonDivisor_24 : decode cX2_commonDivisor 24 = .ok (.istore_n 2, 1) := by decide +kernel
theorem dX2_commonDivisor_25 : decode cX2_commonDivisor 25 = .ok (.iload 5, 2) := by decide +kernel
theorem dX2_commonDivisor_27 : decode cX2_commonDivisor 27 = .ok (.istore_n 3, 1) := by decide +kernel
theorem dX2_commonDivisor_28 : decode cX2_commonDivisor 28 = .ok (.iinc 4 1, 3) := by decide +kernel
theorem dX2_commonDivisor_31 : decode cX2_commonDivisor 31 = .ok (.goto (-24), 3) := by decide +kernel
theorem dX2_commonDivisor_34 : decode cX2_commonDivisor 34 = .ok (.iload_n 2, 1) := by decide +kernel
theorem dX2_commonDivisor_35 : decode cX2_commonDivisor 35 = .ok (.ireturn, 1) := by decide +kernel
theorem dX3_init_0 : decode cX3_init 0 = .ok (.aload_n 0, 1) := by decide +kernel
theorem dX3_init_1 : decode cX3_init 1 = .ok (.invokespecial 3, 3) := by decide +kernel
theorem dX3_init_4 : decode cX3_init 4 = .ok (.aload_n 0, 1) := by decide +kernel
theorem dX3_init_5 : decode cX3_init 5 = .ok (.iconst 5, 1) := by decide +kernel
theorem dX3_init_6 : decode cX3_init 6 = .ok (.newarray .int, 2) := by decide +kernel
theorem dX3_init_8 : decode cX3_init 8 = .ok (.putfield 9, 3) := by decide +kernel
theorem dX3_init_11 : decode cX3_init 11 = .ok (.aload_n 0, 1) := by decide +kernel
theorem dX3_init_12 : decode cX3_init 12 = .ok (.iconst 5, 1) := by decide +kernel
theorem dX3_init_13 : decode cX3_init 13 = .ok (.newarray .int, 2) := by decide +kernel
theorem dX3_init_15 : decode cX3_init 15 = .ok (.putfield 15, 3) := by decide +kernel
theorem dX3_init_18 : decode cX3_init 18 = .ok (.aload_n 0, 1) := by decide +kernel
theorem dX3_init_19 : decode cX3_init 19 = .ok (.iconst 5, 1) := by decide +kernel
theorem dX3_init_20 : decode cX3_init 20 = .ok (.newarray .int, 2) := by decide +kernel
theorem dX3_init_22 : decode cX3_init 22 = .ok (.putfield 18, 3) := by decide +kernel
theorem dX3_init_25 : decode cX3_init 25 = .ok (.aload_n 0, 1) := by decide +kernel
theorem dX3_init_26 : decode cX3_init 26 = .ok (.iconst 5, 1) := by decide +kernel
theorem dX3_init_27 : decode cX3_init 27 = .ok (.newarray .int, 2) := by decide +kernel
theorem dX3_init_29 : decode cX3_init 29 = .ok (.putfield 21, 3) := by decide +kernel
theorem dX3_init_32 : decode cX3_init 32 = .ok (.aload_n 0, 1) := by decide +kernel
theorem dX3_init_33 : decode cX3_init 33 = .ok (.iconst 4, 1) := by decide +kernel
theorem dX3_init_34 : decode cX3_init 34 = .ok (.newarray .int, 2) := by decide +kernel
theorem dX3_init_36 : decode cX3_init 36 = .ok (.putfield 24, 3) := by decide +kernel
theorem dX3_init_39 : decode cX3_init 39 = .ok (.aload_n 0, 1) := by decide +kernel
theorem dX3_init_40 : decode cX3_init 40 = .ok (.iconst 4, 1) := by decide +kernel
theorem dX3_init_41 : decode cX3_init 41 = .ok (.newarray .int, 2) := by decide +kernel
theorem dX3_init_43 : decode cX3_init 43 = .ok (.putfield 27, 3) := by decide +kernel
theorem dX3_init_46 : decode cX3_init 46 = .ok (.return_, 1) := by decide +kernel
theorem dX3_hasBowl_0 : decode cX3_hasBowl 0 = .ok (.iload_n 1, 1) := by decide +kernel
theorem dX3_hasBowl_1 : decode cX3_hasBowl 1 = .ok (.ifCond .lt 15, 3) := by decide +kernel
theorem dX3_hasBowl_4 : decode cX3_hasBowl 4 = .ok (.iload_n 1, 1) := by decide +kernel
theorem dX3_hasBowl_5 : decode cX3_hasBowl 5 = .ok (.aload_n 0, 1) := by decide +kernel
theorem dX3_hasBowl_6 : decode cX3_hasBowl 6 = .ok (.getfield 30, 3) := by decide +kernel
theorem dX3_hasBowl_9 : decode cX3_hasBowl 9 = .ok (.if_icmp .ge 7, 3) := by decide +kernel
theorem dX3_hasBowl_12 : decode cX3_hasBowl 12 = .ok (.iconst 1, 1) := by decide +kernel
theorem dX3_hasBowl_13 : decode cX3_hasBowl 13 = .ok (.goto 4, 3) := by decide +kernel
theorem dX3_hasBowl_16 : decode cX3_hasBowl 16 = .ok (.iconst 0, 1) := by decide +kernel
theorem dX3_hasBowl_17 : decode cX3_hasBowl 17 = .ok (.ireturn, 1) := by decide +kernel
theorem dX3_hasFish_0 : decode cX3_hasFish 0 = .ok (.iload_n 1, 1) := by decide +kernel
theorem dX3_hasFish_1 : decode cX3_hasFish 1 = .ok (.ifCond .lt 15, 3) := by decide +kernel
theorem dX3_hasFish_4 : decode cX3_hasFish 4 = .ok (.iload_n 1, 1) := by decide +kernel
theorem dX3_hasFish_5 : decode cX3_hasFish 5 = .ok (.aload_n 0, 1) := by decide +kernel
theorem dX3_hasFish_6 : decode cX3_hasFish 6 = .ok (.getfield 34, 3) := by decide +kernel
theorem dX3_hasFish_9 : decode cX3_hasFish 9 = .ok (.if_icmp .ge 7, 3) := by decide +kernel
theorem dX3_hasFish_12 : decode cX3_hasFish 12 = .ok (.iconst 1, 1) := by decide +kernel
theorem dX3_hasFish_13 : decode cX3_hasFish 13 = .ok (.goto 4, 3) := by decide +kernel
theorem dX3_hasFish_16 : decode cX3_hasFish 16 = .ok (.iconst 0, 1) := by decide +kernel
theorem dX3_hasFish_17 : decode cX3_hasFish 17 = .ok (.ireturn, 1) := by decide +kernel
theorem dX3_hasLip_0 : decode cX3_hasLip 0 = .ok (.iload_n 1, 1) := by decide +kernel
theorem dX3_hasLip_1 : decode cX3_hasLip 1 = .ok (.ifCond .lt 15, 3) := by decide +kernel
theorem dX3_hasLip_4 : decode cX3_hasLip 4 = .ok (.iload_n 1, 1) := by decide +kernel
theorem dX3_hasLip_5 : decode cX3_hasLip 5 = .ok (.aload_n 0, 1) := by decide +kernel
theorem dX3_hasLip_6 : decode cX3_hasLip 6 = .ok (.getfield 37, 3) := by decide +kernel
theorem dX3_hasLip_9 : decode cX3_hasLip 9 = .ok (.if_icmp .ge 7, 3) := by decide +kernel
theorem dX3_hasLip_12 : decode cX3_hasLip 12 = .ok (.iconst 1, 1) := by decide +kernel
theorem dX3_hasLip_13 : decode cX3_hasLip 13 = .ok (.goto 4, 3) := by decide +kernel
theorem dX3_hasLip_16 : decode cX3_hasLip 16 = .ok (.iconst 0, 1) := by decide +kernel
theorem dX3_hasLip_17 : decode cX3_hasLip 17 = .ok (.ireturn, 1) := by decide +kernel
theorem dX3_clear_0 : decode cX3_clear 0 = .ok (.aload_n 0, 1) := by decide +kernel
theorem dX3_clear_1 : decode cX3_clear 1 = .ok (.iconst 0, 1) := by decide +kernel
theorem dX3_clear_2 : decode cX3_clear 2 = .ok (.putfield 30, 3) := by decide +kernel
theorem dX3_clear_5 : decode cX3_clear 5 = .ok (.aload_n 0, 1) := by decide +kernel
theorem dX3_clear_6 : decode cX3_clear 6 = .ok (.iconst 0, 1) := by decide +kernel
theorem dX3_clear_7 : decode cX3_clear 7 = .ok (.putfield 34, 3) := by decide +kernel
theorem dX3_clear_10 : decode cX3_clear 10 = .ok (.aload_n 0, 1) := by decide +kernel
theorem dX3_clear_11 : decode cX3_clear 11 = .ok (.iconst 0, 1) := by decide +kernel
theorem dX3_clear_12 : decode cX3_clear 12 = .ok (.putfield 37, 3) := by decide +kernel
theorem dX3_clear_15 : decode cX3_clear 15 = .ok (.return_, 1) := by decide +kernel
theorem dX3_become_0 : decode cX3_become 0 = .ok (.aload_n 0, 1) := by decide +kernel
theorem dX3_become_1 : decode cX3_become 1 = .ok (.aload_n 1, 1) := by decide +kernel
theorem dX3_become_2 : decode cX3_become 2 = .ok (.getfield 30, 3) := by decide +kernel
theorem dX3_become_5 : decode cX3_become 5 = .ok (.putfield 30, 3) := by decide +kernel
theorem dX3_become_8 : decode cX3_become 8 = .ok (.aload_n 0, 1) := by decide +kernel
theorem dX3_become_9 : decode cX3_become 9 = .ok (.aload_n 1, 1) := by decide +kernel
theorem dX3_become_10 : decode cX3_become 10 = .ok (.getfield 34, 3) := by decide +kernel
theorem dX3_become_13 : decode cX3_become 13 = .ok (.putfield 34, 3) := by decide +kernel
theorem dX3_become_16 : decode cX3_become 16 = .ok (.aload_n 0, 1) := by decide +kernel
theorem dX3_become_17 : decode cX3_become 17 = .ok (.aload_n 1, 1) := by decide +kernel
theorem dX3_become_18 : decode cX3_become 18 = .ok (.getfield 37, 3) := by decide +kernel
theorem dX3_become_21 : decode cX3_become 21 = .ok (.putfield 37, 3) := by decide +kernel
theorem dX3_become_24 : decode cX3_become 24 = .ok (.aload_n 1, 1) := by decide +kernel
theorem dX3_become_25 : decode cX3_become 25 = .ok (.getfield 9, 3) := by decide +kernel
theorem dX3_become_28 : decode cX3_become 28 = .ok (.iconst 0, 1) := by decide +kernel
theorem dX3_become_29 : decode cX3_become 29 = .ok (.aload_n 0, 1) := by decide +kernel
theorem dX3_become_30 : decode cX3_become 30 = .ok (.getfield 9, 3) := by decide +kernel
theorem dX3_become_33 : decode cX3_become 33 = .ok (.iconst 0, 1) := by decide +kernel
theorem dX3_become_34 : decode cX3_become 34 = .ok (.iconst 5, 1) := by decide +kernel
theorem dX3_become_35 : decode cX3_become 35 = .ok (.invokestatic 40, 3) := by decide +kernel
theorem dX3_become_38 : decode cX3_become 38 = .ok (.aload_n 1, 1) := by decide +kernel
theorem dX3_become_39 : decode cX3_become 39 = .ok (.getfield 15, 3) := by decide +kernel
theorem dX3_become_42 : decode cX3_become 42 = .ok (.iconst 0, 1) := by decide +kernel
theorem dX3_become_43 : decode cX3_become 43 = .ok (.aload_n 0, 1) := by decide +kernel
theorem dX3_become_44 : decode cX3_become 44 = .ok (.getfield 15, 3) := by decide +kernel
theorem dX3_become_47 : decode cX3_become 47 = .ok (.iconst 0, 1) := by decide +kernel
theorem dX3_become_48 : decode cX3_become 48 = .ok (.iconst 5, 1) := by decide +kernel
theorem dX3_become_49 : decode cX3_become 49 = .ok (.invokestatic 40, 3) := by decide +kernel
theorem dX3_become_52 : decode cX3_become 52 = .ok (.aload_n 1, 1) := by decide +kernel
theorem dX3_become_53 : decode cX3_become 53 = .ok (.getfield 18, 3) := by decide +kernel
theorem dX3_become_56 : decode cX3_become 56 = .ok (.iconst 0, 1) := by decide +kernel
theorem dX3_become_57 : decode cX3_become 57 = .ok (.aload_n 0, 1) := by decide +kernel
theorem dX3_become_58 : decode cX3_become 58 = .ok (.getfield 18, 3) := by decide +kernel
theorem dX3_become_61 : decode cX3_become 61 = .ok (.iconst 0, 1) := by decide +kernel
theorem dX3_become_62 : decode cX3_become 62 = .ok (.iconst 5, 1) := by decide +kernel
theorem dX3_become_63 : decode cX3_become 63 = .ok (.invokestatic 40, 3) := by decide +kernel
theorem dX3_become_66 : decode cX3_become 66 = .ok (.aload_n 1, 1) := by decide +kernel
theorem dX3_become_67 : decode cX3_become 67 = .ok (.getfield 21, 3) := by decide +kernel
theorem dX3_become_70 : decode cX3_become 70 = .ok (.iconst 0, 1) := by decide +kernel
theorem dX3_become_71 : decode cX3_become 71 = .ok (.aload_n 0, 1) := by decide +kernel
theorem dX3_become_72 : decode cX3_become 72 = .ok (.getfield 21, 3) := by decide +kernel
theorem dX3_become_75 : decode cX3_become 75 = .ok (.iconst 0, 1) := by decide +kernel
theorem dX3_become_76 : decode cX3_become 76 = .ok (.iconst 5, 1) := by decide +kernel
theorem dX3_become_77 : decode cX3_become 77 = .ok (.invokestatic 40, 3) := by decide +kernel
theorem dX3_become_80 : decode cX3_become 80 = .ok (.aload_n 1, 1) := by decide +kernel
theorem dX3_become_81 : decode cX3_become 81 = .ok (.getfield 24, 3) := by decide +kernel
theorem dX3_become_84 : decode cX3_become 84 = .ok (.iconst 0, 1) := by decide +kernel
theorem dX3_become_85 : decode cX3_become 85 = .ok (.aload_n 0, 1) := by decide +kernel
theorem dX3_become_86 : decode cX3_become 86 = .ok (.getfield 24, 3) := by decide +kernel
theorem dX3_become_89 : decode cX3_become 89 = .ok (.iconst 0, 1) := by decide +kernel
theorem dX3_become_90 : decode cX3_become 90 = .ok (.iconst 4, 1) := by decide +kernel
theorem dX3_become_91 : decode cX3_become 91 = .ok (.invokestatic 40, 3) := by decide +kernel
theorem dX3_become_94 : decode cX3_become 94 = .ok (.aload_n 1, 1) := by decide +kernel
theorem dX3_become_95 : decode cX3_become 95 = .ok (.getfield 27, 3) := by decide +kernel
theorem dX3_become_98 : decode cX3_become 98 = .ok (.iconst 0, 1) := by decide +kernel
theorem dX3_become_99 : decode cX3_become 99 = .ok (.aload_n 0, 1) := by decide +kernel
theorem dX3_become_100 : decode cX3_become 100 = .ok (.getfield 27, 3) := by decide +kernel
theorem dX3_become_103 : decode cX3_become 103 = .ok (.iconst 0, 1) := by decide +kernel
theorem dX3_become_104 : decode cX3_become 104 = .ok (.iconst 4, 1) := by decide +kernel
theorem dX3_become_105 : decode cX3_become 105 = .ok (.invokestatic 40, 3) := by decide +kernel
theorem dX3_become_108 : decode cX3_become 108 = .ok (.return_, 1) := by decide +kernel
theorem dX3_hasRoomAtStart_0 : decode cX3_hasRoomAtStart 0 = .ok (.iconst 0, 1) := by decide +kernel
theorem dX3_hasRoomAtStart_1 : decode cX3_hasRoomAtStart 1 = .ok (.istore_n 2, 1) := by decide +kernel
theorem dX3_hasRoomAtStart_2 : decode cX3_hasRoomAtStart 2 = .ok (.iconst 0, 1) := by decide +kernel
theorem dX3_hasRoomAtStart_3 : decode cX3_hasRoomAtStart 3 = .ok (.istore_n 3, 1) := by decide +kernel
theorem dX3_hasRoomAtStart_4 : decode cX3_hasRoomAtStart 4 = .ok (.iload_n 3, 1) := by decide +kernel
theorem dX3_hasRoomAtStart_5 : decode cX3_hasRoomAtStart 5 = .ok (.aload_n 0, 1) := by decide +kernel
theorem dX3_hasRoomAtStart_6 : decode cX3_hasRoomAtStart 6 = .ok (.getfield 34, 3) := by decide +kernel
theorem dX3_hasRoomAtStart_9 : decode cX3_hasRoomAtStart 9 = .ok (.if_icmp .ge 22, 3) := by decide +kernel
theorem dX3_hasRoomAtStart_12 : decode cX3_hasRoomAtStart 12 = .ok (.aload_n 0, 1) := by decide +kernel
theorem dX3_hasRoomAtStart_13 : decode cX3_hasRoomAtStart 13 = .ok (.getfield 15, 3) := by decide +kernel
theorem dX3_hasRoomAtStart_16 : decode cX3_hasRoomAtStart 16 = .ok (.iload_n 3, 1) := by decide +kernel
theorem dX3_hasRoomAtStart_17 : decode cX3_hasRoomAtStart 17 = .ok (.iaload, 1) := by decide +kernel
theorem dX3_hasRoomAtStart_18 : decode cX3_hasRoomAtStart 18 = .ok (.iload_n 1, 1) := by decide +kernel
theorem dX3_hasRoomAtStart_19 : decode cX3_hasRoomAtStart 19 = .ok (.if_icmp .ne 6, 3) := by decide +kernel
theorem dX3_hasRoomAtStart_22 : decode cX3_hasRoomAtStart 22 = .ok (.iinc 2 1, 3) := by decide +kernel
theorem dX3_hasRoomAtStart_25 : decode cX3_hasRoomAtStart 25 = .ok (.iinc 3 1, 3) := by decide +kernel
theorem dX3_hasRoomAtStart_28 : decode cX3_hasRoomAtStart 28 = .ok (.goto (-24), 3) := by decide +kernel
theorem dX3_hasRoomAtStart_31 : decode cX3_hasRoomAtStart 31 = .ok (.aload_n 0, 1) := by decide +kernel
theorem dX3_hasRoomAtStart_32 : decode cX3_hasRoomAtStart 32 = .ok (.iload_n 1, 1) := by decide +kernel
theorem dX3_hasRoomAtStart_33 : decode cX3_hasRoomAtStart 33 = .ok (.invokevirtual 46, 3) := by decide +kernel
theorem dX3_hasRoomAtStart_36 : decode cX3_hasRoomAtStart 36 = .ok (.ifCond .eq 12, 3) := by decide +kernel
theorem dX3_hasRoomAtStart_39 : decode cX3_hasRoomAtStart 39 = .ok (.iload_n 2, 1) := by decide +kernel
theorem dX3_hasRoomAtStart_40 : decode cX3_hasRoomAtStart 40 = .ok (.iconst 3, 1) := by decide +kernel
theorem dX3_hasRoomAtStart_41 : decode cX3_hasRoomAtStart 41 = .ok (.if_icmp .ge 7, 3) := by decide +kernel
theorem dX3_hasRoomAtStart_44 : decode cX3_hasRoomAtStart 44 = .ok (.iconst 1, 1) := by decide +kernel
theorem dX3_hasRoomAtStart_45 : decode cX3_hasRoomAtStart 45 = .ok (.goto 4, 3) := by decide +kernel
theorem dX3_hasRoomAtStart_48 : decode cX3_hasRoomAtStart 48 = .ok (.iconst 0, 1) := by decide +kernel
theorem dX3_hasRoomAtStart_49 : decode cX3_hasRoomAtStart 49 = .ok (.ireturn, 1) := by decide +kernel
theorem dX3_hasRoomAnywhere_0 : decode cX3_hasRoomAnywhere 0 = .ok (.iconst 0, 1) := by decide +kernel
theorem dX3_hasRoomAnywhere_1 : decode cX3_hasRoomAnywhere 1 = .ok (.istore_n 1, 1) := by decide +kernel
theorem dX3_hasRoomAnywhere_2 : decode cX3_hasRoomAnywhere 2 = .ok (.iload_n 1, 1) := by decide +kernel
theorem dX3_hasRoomAnywhere_3 : decode cX3_hasRoomAnywhere 3 = .ok (.aload_n 0, 1) := by decide +kernel
theorem dX3_hasRoomAnywhere_4 : decode cX3_hasRoomAnywhere 4 = .ok (.getfield 30, 3) := by decide +kernel
theorem dX3_hasRoomAnywhere_7 : decode cX3_hasRoomAnywhere 7 = .ok (.if_icmp .ge 19, 3) := by decide +kernel
theorem dX3_hasRoomAnywhere_10 : decode cX3_hasRoomAnywhere 10 = .ok (.aload_n 0, 1) := by decide +kernel
theorem dX3_hasRoomAnywhere_11 : decode cX3_hasRoomAnywhere 11 = .ok (.iload_n 1, 1) := by decide +kernel
theorem dX3_hasRoomAnywhere_12 : decode cX3_hasRoomAnywhere 12 = .ok (.invokevirtual 50, 3) := by decide +kernel
theorem dX3_hasRoomAnywhere_15 : decode cX3_hasRoomAnywhere 15 = .ok (.ifCond .eq 5, 3) := by decide +kernel
theorem dX3_hasRoomAnywhere_18 : decode cX3_hasRoomAnywhere 18 = .ok (.iconst 1, 1) := by decide +kernel
theorem dX3_hasRoomAnywhere_19 : decode cX3_hasRoomAnywhere 19 = .ok (.ireturn, 1) := by decide +kernel
theorem dX3_hasRoomAnywhere_20 : decode cX3_hasRoomAnywhere 20 = .ok (.iinc 1 1, 3) := by decide +kernel
theorem dX3_hasRoomAnywhere_23 : decode cX3_hasRoomAnywhere 23 = .ok (.goto (-21), 3) := by decide +kernel
theorem dX3_hasRoomAnywhere_26 : decode cX3_hasRoomAnywhere 26 = .ok (.iconst 0, 1) := by decide +kernel
theorem dX3_hasRoomAnywhere_27 : decode cX3_hasRoomAnywhere 27 = .ok (.ireturn, 1) := by decide +kernel
theorem dX3_addBowl_0 : decode cX3_addBowl 0 = .ok (.aload_n 0, 1) := by decide +kernel
theorem dX3_addBowl_1 : decode cX3_addBowl 1 = .ok (.getfield 30, 3) := by decide +kernel
theorem dX3_addBowl_4 : decode cX3_addBowl 4 = .ok (.iconst 5, 1) := by decide +kernel
theorem dX3_addBowl_5 : decode cX3_addBowl 5 = .ok (.if_icmp .lt 5, 3) := by decide +kernel
theorem dX3_addBowl_8 : decode cX3_addBowl 8 = .ok (.iconst 0, 1) := by decide +kernel
theorem dX3_addBowl_9 : decode cX3_addBowl 9 = .ok (.ireturn, 1) := by decide +kernel
theorem dX3_addBowl_10 : decode cX3_addBowl 10 = .ok (.aload_n 0, 1) := by decide +kernel
theorem dX3_addBowl_11 : decode cX3_addBowl 11 = .ok (.getfield 9, 3) := by decide +kernel
theorem dX3_addBowl_14 : decode cX3_addBowl 14 = .ok (.aload_n 0, 1) := by decide +kernel
theorem dX3_addBowl_15 : decode cX3_addBowl 15 = .ok (.getfield 30, 3) := by decide +kernel
theorem dX3_addBowl_18 : decode cX3_addBowl 18 = .ok (.iload_n 1, 1) := by decide +kernel
theorem dX3_addBowl_19 : decode cX3_addBowl 19 = .ok (.iastore, 1) := by decide +kernel
theorem dX3_addBowl_20 : decode cX3_addBowl 20 = .ok (.aload_n 0, 1) := by decide +kernel
theorem dX3_addBowl_21 : decode cX3_addBowl 21 = .ok (.dup, 1) := by decide +kernel
theorem dX3_addBowl_22 : decode cX3_addBowl 22 = .ok (.getfield 30, 3) := by decide +kernel
theorem dX3_addBowl_25 : decode cX3_addBowl 25 = .ok (.iconst 1, 1) := by decide +kernel
theorem dX3_addBowl_26 : decode cX3_addBowl 26 = .ok (.iadd, 1) := by decide +kernel
theorem dX3_addBowl_27 : decode cX3_addBowl 27 = .ok (.putfield 30, 3) := by decide +kernel
theorem dX3_addBowl_30 : decode cX3_addBowl 30 = .ok (.iconst 1, 1) := by decide +kernel
theorem dX3_addBowl_31 : decode cX3_addBowl 31 = .ok (.ireturn, 1) := by decide +kernel
theorem dX3_addFish_0 : decode cX3_addFish 0 = .ok (.aload_n 0, 1) := by decide +kernel
theorem dX3_addFish_1 : decode cX3_addFish 1 = .ok (.getfield 34, 3) := by decide +kernel
theorem dX3_addFish_4 : decode cX3_addFish 4 = .ok (.iconst 5, 1) := by decide +kernel
theorem dX3_addFish_5 : decode cX3_addFish 5 = .ok (.if_icmp .lt 5, 3) := by decide +kernel
theorem dX3_addFish_8 : decode cX3_addFish 8 = .ok (.iconst 0, 1) := by decide +kernel
theorem dX3_addFish_9 : decode cX3_addFish 9 = .ok (.ireturn, 1) := by decide +kernel
theorem dX3_addFish_10 : decode cX3_addFish 10 = .ok (.aload_n 0, 1) := by decide +kernel
theorem dX3_addFish_11 : decode cX3_addFish 11 = .ok (.getfield 15, 3) := by decide +kernel
theorem dX3_addFish_14 : decode cX3_addFish 14 = .ok (.aload_n 0, 1) := by decide +kernel
theorem dX3_addFish_15 : decode cX3_addFish 15 = .ok (.getfield 34, 3) := by decide +kernel
theorem dX3_addFish_18 : decode cX3_addFish 18 = .ok (.iload_n 1, 1) := by decide +kernel
theorem dX3_addFish_19 : decode cX3_addFish 19 = .ok (.iastore, 1) := by decide +kernel
theorem dX3_addFish_20 : decode cX3_addFish 20 = .ok (.aload_n 0, 1) := by decide +kernel
theorem dX3_addFish_21 : decode cX3_addFish 21 = .ok (.getfield 18, 3) := by decide +kernel
theorem dX3_addFish_24 : decode cX3_addFish 24 = .ok (.aload_n 0, 1) := by decide +kernel
theorem dX3_addFish_25 : decode cX3_addFish 25 = .ok (.getfield 34, 3) := by decide +kernel
theorem dX3_addFish_28 : decode cX3_addFish 28 = .ok (.iload_n 2, 1) := by decide +kernel
theorem dX3_addFish_29 : decode cX3_addFish 29 = .ok (.iastore, 1) := by decide +kernel
theorem dX3_addFish_30 : decode cX3_addFish 30 = .ok (.aload_n 0, 1) := by decide +kernel
theorem dX3_addFish_31 : decode cX3_addFish 31 = .ok (.getfield 21, 3) := by decide +kernel
theorem dX3_addFish_34 : decode cX3_addFish 34 = .ok (.aload_n 0, 1) := by decide +kernel
theorem dX3_addFish_35 : decode cX3_addFish 35 = .ok (.getfield 34, 3) := by decide +kernel
theorem dX3_addFish_38 : decode cX3_addFish 38 = .ok (.iload_n 3, 1) := by decide +kernel
theorem dX3_addFish_39 : decode cX3_addFish 39 = .ok (.iastore, 1) := by decide +kernel
theorem dX3_addFish_40 : decode cX3_addFish 40 = .ok (.aload_n 0, 1) := by decide +kernel
theorem dX3_addFish_41 : decode cX3_addFish 41 = .ok (.dup, 1) := by decide +kernel
theorem dX3_addFish_42 : decode cX3_addFish 42 = .ok (.getfield 34, 3) := by decide +kernel
theorem dX3_addFish_45 : decode cX3_addFish 45 = .ok (.iconst 1, 1) := by decide +kernel
theorem dX3_addFish_46 : decode cX3_addFish 46 = .ok (.iadd, 1) := by decide +kernel
theorem dX3_addFish_47 : decode cX3_addFish 47 = .ok (.putfield 34, 3) := by decide +kernel
theorem dX3_addFish_50 : decode cX3_addFish 50 = .ok (.iconst 1, 1) := by decide +kernel
theorem dX3_addFish_51 : decode cX3_addFish 51 = .ok (.ireturn, 1) := by decide +kernel
theorem dX3_addLip_0 : decode cX3_addLip 0 = .ok (.aload_n 0, 1) := by decide +kernel
theorem dX3_addLip_1 : decode cX3_addLip 1 = .ok (.getfield 37, 3) := by decide +kernel
theorem dX3_addLip_4 : decode cX3_addLip 4 = .ok (.iconst 4, 1) := by decide +kernel
theorem dX3_addLip_5 : decode cX3_addLip 5 = .ok (.if_icmp .lt 5, 3) := by decide +kernel
theorem dX3_addLip_8 : decode cX3_addLip 8 = .ok (.iconst 0, 1) := by decide +kernel
theorem dX3_addLip_9 : decode cX3_addLip 9 = .ok (.ireturn, 1) := by decide +kernel
theorem dX3_addLip_10 : decode cX3_addLip 10 = .ok (.aload_n 0, 1) := by decide +kernel
theorem dX3_addLip_11 : decode cX3_addLip 11 = .ok (.getfield 24, 3) := by decide +kernel
theorem dX3_addLip_14 : decode cX3_addLip 14 = .ok (.aload_n 0, 1) := by decide +kernel
theorem dX3_addLip_15 : decode cX3_addLip 15 = .ok (.getfield 37, 3) := by decide +kernel
theorem dX3_addLip_18 : decode cX3_addLip 18 = .ok (.iload_n 1, 1) := by decide +kernel
theorem dX3_addLip_19 : decode cX3_addLip 19 = .ok (.iastore, 1) := by decide +kernel
theorem dX3_addLip_20 : decode cX3_addLip 20 = .ok (.aload_n 0, 1) := by decide +kernel
theorem dX3_addLip_21 : decode cX3_addLip 21 = .ok (.getfield 27, 3) := by decide +kernel
theorem dX3_addLip_24 : decode cX3_addLip 24 = .ok (.aload_n 0, 1) := by decide +kernel
theorem dX3_addLip_25 : decode cX3_addLip 25 = .ok (.getfield 37, 3) := by decide +kernel
theorem dX3_addLip_28 : decode cX3_addLip 28 = .ok (.iload_n 2, 1) := by decide +kernel
theorem dX3_addLip_29 : decode cX3_addLip 29 = .ok (.iastore, 1) := by decide +kernel
theorem dX3_addLip_30 : decode cX3_addLip 30 = .ok (.aload_n 0, 1) := by decide +kernel
theorem dX3_addLip_31 : decode cX3_addLip 31 = .ok (.dup, 1) := by decide +kernel
theorem dX3_addLip_32 : decode cX3_addLip 32 = .ok (.getfield 37, 3) := by decide +kernel
theorem dX3_addLip_35 : decode cX3_addLip 35 = .ok (.iconst 1, 1) := by decide +kernel
theorem dX3_addLip_36 : decode cX3_addLip 36 = .ok (.iadd, 1) := by decide +kernel
theorem dX3_addLip_37 : decode cX3_addLip 37 = .ok (.putfield 37, 3) := by decide +kernel
theorem dX3_addLip_40 : decode cX3_addLip 40 = .ok (.iconst 1, 1) := by decide +kernel
theorem dX3_addLip_41 : decode cX3_addLip 41 = .ok (.ireturn, 1) := by decide +kernel
theorem dX4_init_0 : decode cX4_init 0 = .ok (.aload_n 0, 1) := by decide +kernel
theorem dX4_init_1 : decode cX4_init 1 = .ok (.invokespecial 3, 3) := by decide +kernel
theorem dX4_init_4 : decode cX4_init 4 = .ok (.aload_n 0, 1) := by decide +kernel
theorem dX4_init_5 : decode cX4_init 5 = .ok (.new 9, 3) := by decide +kernel
theorem dX4_init_8 : decode cX4_init 8 = .ok (.dup, 1) := by decide +kernel
theorem dX4_init_9 : decode cX4_init 9 = .ok (.invokespecial 11, 3) := by decide +kernel
theorem dX4_init_12 : decode cX4_init 12 = .ok (.putfield 12, 3) := by decide +kernel
theorem dX4_init_15 : decode cX4_init 15 = .ok (.return_, 1) := by decide +kernel
theorem dX4_firstFault_0 : decode cX4_firstFault 0 = .ok (.aload_n 0, 1) := by decide +kernel
theorem dX4_firstFault_1 : decode cX4_firstFault 1 = .ok (.getfield 12, 3) := by decide +kernel
theorem dX4_firstFault_4 : decode cX4_firstFault 4 = .ok (.invokevirtual 18, 3) := by decide +kernel
theorem dX4_firstFault_7 : decode cX4_firstFault 7 = .ok (.aload_n 0, 1) := by decide +kernel
theorem dX4_firstFault_8 : decode cX4_firstFault 8 = .ok (.iconst 0, 1) := by decide +kernel
theorem dX4_firstFault_9 : decode cX4_firstFault 9 = .ok (.putfield 21, 3) := by decide +kernel
theorem dX4_firstFault_12 : decode cX4_firstFault 12 = .ok (.iconst 0, 1) := by decide +kernel
theorem dX4_firstFault_13 : decode cX4_firstFault 13 = .ok (.istore_n 3, 1) := by decide +kernel
theorem dX4_firstFault_14 : decode cX4_firstFault 14 = .ok (.iload_n 3, 1) := by decide +kernel
theorem dX4_firstFault_15 : decode cX4_firstFault 15 = .ok (.iload_n 2, 1) := by decide +kernel
theorem dX4_firstFault_16 : decode cX4_firstFault 16 = .ok (.if_icmp .ge 27, 3) := by decide +kernel
theorem dX4_firstFault_19 : decode cX4_firstFault 19 = .ok (.iload_n 3, 1) := by decide +kernel
theorem dX4_firstFault_20 : decode cX4_firstFault 20 = .ok (.aload_n 1, 1) := by decide +kernel
theorem dX4_firstFault_21 : decode cX4_firstFault 21 = .ok (.arraylength, 1) := by decide +kernel
theorem dX4_firstFault_22 : decode cX4_firstFault 22 = .ok (.if_icmp .ge 21, 3) := by decide +kernel
theorem dX4_firstFault_25 : decode cX4_firstFault 25 = .ok (.aload_n 0, 1) := by decide +kernel
theorem dX4_firstFault_26 : decode cX4_firstFault 26 = .ok (.aload_n 1, 1) := by decide +kernel
theorem dX4_firstFault_27 : decode cX4_firstFault 27 = .ok (.iload_n 3, 1) := by decide +kernel
theorem dX4_firstFault_28 : decode cX4_firstFault 28 = .ok (.iaload, 1) := by decide +kernel
theorem dX4_firstFault_29 : decode cX4_firstFault 29 = .ok (.invokevirtual 25, 3) := by decide +kernel
theorem dX4_firstFault_32 : decode cX4_firstFault 32 = .ok (.ifCond .ne 5, 3) := by decide +kernel
theorem dX4_firstFault_35 : decode cX4_firstFault 35 = .ok (.iload_n 3, 1) := by decide +kernel
theorem dX4_firstFault_36 : decode cX4_firstFault 36 = .ok (.ireturn, 1) := by decide +kernel
theorem dX4_firstFault_37 : decode cX4_firstFault 37 = .ok (.iinc 3 1, 3) := by decide +kernel
theorem dX4_firstFault_40 : decode cX4_firstFault 40 = .ok (.goto (-26), 3) := by decide +kernel
theorem dX4_firstFault_43 : decode cX4_firstFault 43 = .ok (.aload_n 0, 1) := by decide +kernel
theorem dX4_firstFault_44 : decode cX4_firstFault 44 = .ok (.getfield 21, 3) := by decide +kernel
theorem dX4_firstFault_47 : decode cX4_firstFault 47 = .ok (.iconst 1, 1) := by decide +kernel
theorem dX4_firstFault_48 : decode cX4_firstFault 48 = .ok (.if_icmp .ne 8, 3) := by decide +kernel
theorem dX4_firstFault_51 : decode cX4_firstFault 51 = .ok (.bipush (-9), 2) := by decide +kernel
theorem dX4_firstFault_53 : decode cX4_firstFault 53 = .ok (.goto 4, 3) := by decide +kernel
theorem dX4_firstFault_56 : decode cX4_firstFault 56 = .ok (.iload_n 2, 1) := by decide +kernel
theorem dX4_firstFault_57 : decode cX4_firstFault 57 = .ok (.ireturn, 1) := by decide +kernel
theorem dX4_takes_0 : decode cX4_takes 0 = .ok (.aload_n 0, 1) := by decide +kernel
theorem dX4_takes_1 : decode cX4_takes 1 = .ok (.getfield 21, 3) := by decide +kernel
theorem dX4_takes_4 : decode cX4_takes 4 = .ok (.lookupswitch 51 #[(0, 28), (1, 45)], 28) := by decide +kernel
theorem dX4_takes_32 : decode cX4_takes 32 = .ok (.aload_n 0, 1) := by decide +kernel
theorem dX4_takes_33 : decode cX4_takes 33 = .ok (.iconst 1, 1) := by decide +kernel
theorem dX4_takes_34 : decode cX4_takes 34 = .ok (.putfield 21, 3) := by decide +kernel
theorem dX4_takes_37 : decode cX4_takes 37 = .ok (.iload_n 1, 1) := by decide +kernel
theorem dX4_takes_38 : decode cX4_takes 38 = .ok (.bipush 71, 2) := by decide +kernel
theorem dX4_takes_40 : decode cX4_takes 40 = .ok (.if_icmp .ne 7, 3) := by decide +kernel
theorem dX4_takes_43 : decode cX4_takes 43 = .ok (.iconst 1, 1) := by decide +kernel
theorem dX4_takes_44 : decode cX4_takes 44 = .ok (.goto 4, 3) := by decide +kernel
theorem dX4_takes_47 : decode cX4_takes 47 = .ok (.iconst 0, 1) := by decide +kernel
theorem dX4_takes_48 : decode cX4_takes 48 = .ok (.ireturn, 1) := by decide +kernel
theorem dX4_takes_49 : decode cX4_takes 49 = .ok (.aload_n 0, 1) := by decide +kernel
theorem dX4_takes_50 : decode cX4_takes 50 = .ok (.iload_n 1, 1) := by decide +kernel
theorem dX4_takes_51 : decode cX4_takes 51 = .ok (.invokevirtual 29, 3) := by decide +kernel
theorem dX4_takes_54 : decode cX4_takes 54 = .ok (.ireturn, 1) := by decide +kernel
theorem dX4_takes_55 : decode cX4_takes 55 = .ok (.aload_n 0, 1) := by decide +kernel
theorem dX4_takes_56 : decode cX4_takes 56 = .ok (.iload_n 1, 1) := by decide +kernel
theorem dX4_takes_57 : decode cX4_takes 57 = .ok (.bipush 48, 2) := by decide +kernel
theorem dX4_takes_59 : decode cX4_takes 59 = .ok (.isub, 1) := by decide +kernel
theorem dX4_takes_60 : decode cX4_takes 60 = .ok (.invokevirtual 32, 3) := by decide +kernel
theorem dX4_takes_63 : decode cX4_takes 63 = .ok (.ireturn, 1) := by decide +kernel
theorem dX4_opensPart_0 : decode cX4_opensPart 0 = .ok (.aload_n 0, 1) := by decide +kernel
theorem dX4_opensPart_1 : decode cX4_opensPart 1 = .ok (.iload_n 1, 1) := by decide +kernel
theorem dX4_opensPart_2 : decode cX4_opensPart 2 = .ok (.putfield 21, 3) := by decide +kernel
theorem dX4_opensPart_5 : decode cX4_opensPart 5 = .ok (.aload_n 0, 1) := by decide +kernel
theorem dX4_opensPart_6 : decode cX4_opensPart 6 = .ok (.iconst 0, 1) := by decide +kernel
theorem dX4_opensPart_7 : decode cX4_opensPart 7 = .ok (.putfield 35, 3) := by decide +kernel
theorem dX4_opensPart_10 : decode cX4_opensPart 10 = .ok (.iload_n 1, 1) := by decide +kernel
theorem dX4_opensPart_11 : decode cX4_opensPart 11 = .ok (.lookupswitch 104 #[(66, 33), (70, 50), (76, 77)], 33) := by decide +kernel
theorem dX4_opensPart_44 : decode cX4_opensPart 44 = .ok (.aload_n 0, 1) := by decide +kernel
theorem dX4_opensPart_45 : decode cX4_opensPart 45 = .ok (.getfield 12, 3) := by decide +kernel
theorem dX4_opensPart_48 : decode cX4_opensPart 48 = .ok (.getfield 38, 3) := by decide +kernel
theorem dX4_opensPart_51 : decode cX4_opensPart 51 = .ok (.iconst 5, 1) := by decide +kernel
theorem dX4_opensPart_52 : decode cX4_opensPart 52 = .ok (.if_icmp .ge 7, 3) := by decide +kernel
theorem dX4_opensPart_55 : decode cX4_opensPart 55 = .ok (.iconst 1, 1) := by decide +kernel
theorem dX4_opensPart_56 : decode cX4_opensPart 56 = .ok (.goto 4, 3) := by decide +kernel
theorem dX4_opensPart_59 : decode cX4_opensPart 59 = .ok (.iconst 0, 1) := by decide +kernel
theorem dX4_opensPart_60 : decode cX4_opensPart 60 = .ok (.ireturn, 1) := by decide +kernel
theorem dX4_opensPart_61 : decode cX4_opensPart 61 = .ok (.aload_n 0, 1) := by decide +kernel
theorem dX4_opensPart_62 : decode cX4_opensPart 62 = .ok (.getfield 12, 3) := by decide +kernel
theorem dX4_opensPart_65 : decode cX4_opensPart 65 = .ok (.getfield 41, 3) := by decide +kernel
theorem dX4_opensPart_68 : decode cX4_opensPart 68 = .ok (.iconst 5, 1) := by decide +kernel
theorem dX4_opensPart_69 : decode cX4_opensPart 69 = .ok (.if_icmp .ge 17, 3) := by decide +kernel
theorem dX4_opensPart_72 : decode cX4_opensPart 72 = .ok (.aload_n 0, 1) := by decide +kernel
theorem dX4_opensPart_73 : decode cX4_opensPart 73 = .ok (.getfield 12, 3) := by decide +kernel
theorem dX4_opensPart_76 : decode cX4_opensPart 76 = .ok (.invokevirtual 44, 3) := by decide +kernel
theorem dX4_opensPart_79 : decode cX4_opensPart 79 = .ok (.ifCond .eq 7, 3) := by decide +kernel
theorem dX4_opensPart_82 : decode cX4_opensPart 82 = .ok (.iconst 1, 1) := by decide +kernel
theorem dX4_opensPart_83 : decode cX4_opensPart 83 = .ok (.goto 4, 3) := by decide +kernel
theorem dX4_opensPart_86 : decode cX4_opensPart 86 = .ok (.iconst 0, 1) := by decide +kernel
theorem dX4_opensPart_87 : decode cX4_opensPart 87 = .ok (.ireturn, 1) := by decide +kernel
theorem dX4_opensPart_88 : decode cX4_opensPart 88 = .ok (.aload_n 0, 1) := by decide +kernel
theorem dX4_opensPart_89 : decode cX4_opensPart 89 = .ok (.getfield 12, 3) := by decide +kernel
theorem dX4_opensPart_92 : decode cX4_opensPart 92 = .ok (.getfield 48, 3) := by decide +kernel
theorem dX4_opensPart_95 : decode cX4_opensPart 95 = .ok (.iconst 4, 1) := by decide +kernel
theorem dX4_opensPart_96 : decode cX4_opensPart 96 = .ok (.if_icmp .ge 17, 3) := by decide +kernel
theorem dX4_opensPart_99 : decode cX4_opensPart 99 = .ok (.aload_n 0, 1) := by decide +kernel
theorem dX4_opensPart_100 : decode cX4_opensPart 100 = .ok (.getfield 12, 3) := by decide +kernel
theorem dX4_opensPart_103 : decode cX4_opensPart 103 = .ok (.getfield 38, 3) := by decide +kernel
theorem dX4_opensPart_106 : decode cX4_opensPart 106 = .ok (.ifCond .le 7, 3) := by decide +kernel
theorem dX4_opensPart_109 : decode cX4_opensPart 109 = .ok (.iconst 1, 1) := by decide +kernel
theorem dX4_opensPart_110 : decode cX4_opensPart 110 = .ok (.goto 4, 3) := by decide +kernel
theorem dX4_opensPart_113 : decode cX4_opensPart 113 = .ok (.iconst 0, 1) := by decide +kernel
theorem dX4_opensPart_114 : decode cX4_opensPart 114 = .ok (.ireturn, 1) := by decide +kernel
theorem dX4_opensPart_115 : decode cX4_opensPart 115 = .ok (.iconst 0, 1) := by decide +kernel
theorem dX4_opensPart_116 : decode cX4_opensPart 116 = .ok (.ireturn, 1) := by decide +kernel
theorem dX4_takesFigure_0 : decode cX4_takesFigure 0 = .ok (.iload_n 1, 1) := by decide +kernel
theorem dX4_takesFigure_1 : decode cX4_takesFigure 1 = .ok (.ifCond .lt 9, 3) := by decide +kernel
theorem dX4_takesFigure_4 : decode cX4_takesFigure 4 = .ok (.iload_n 1, 1) := by decide +kernel
theorem dX4_takesFigure_5 : decode cX4_takesFigure 5 = .ok (.bipush 9, 2) := by decide +kernel
theorem dX4_takesFigure_7 : decode cX4_takesFigure 7 = .ok (.if_icmp .le 5, 3) := by decide +kernel
theorem dX4_takesFigure_10 : decode cX4_takesFigure 10 = .ok (.iconst 0, 1) := by decide +kernel
theorem dX4_takesFigure_11 : decode cX4_takesFigure 11 = .ok (.ireturn, 1) := by decide +kernel
theorem dX4_takesFigure_12 : decode cX4_takesFigure 12 = .ok (.aload_n 0, 1) := by decide +kernel
theorem dX4_takesFigure_13 : decode cX4_takesFigure 13 = .ok (.dup, 1) := by decide +kernel
theorem dX4_takesFigure_14 : decode cX4_takesFigure 14 = .ok (.getfield 35, 3) := by decide +kernel
theorem dX4_takesFigure_17 : decode cX4_takesFigure 17 = .ok (.iconst 1, 1) := by decide +kernel
theorem dX4_takesFigure_18 : decode cX4_takesFigure 18 = .ok (.iadd, 1) := by decide +kernel
theorem dX4_takesFigure_19 : decode cX4_takesFigure 19 = .ok (.putfield 35, 3) := by decide +kernel
theorem dX4_takesFigure_22 : decode cX4_takesFigure 22 = .ok (.aload_n 0, 1) := by decide +kernel
theorem dX4_takesFigure_23 : decode cX4_takesFigure 23 = .ok (.getfield 21, 3) := by decide +kernel
theorem dX4_takesFigure_26 : decode cX4_takesFigure 26 = .ok (.lookupswitch 59 #[(66, 26), (70, 53)], 26) := by decide +kernel
theorem dX4_takesFigure_52 : decode cX4_takesFigure 52 = .ok (.aload_n 0, 1) := by decide +kernel
theorem dX4_takesFigure_53 : decode cX4_takesFigure 53 = .ok (.iconst 1, 1) := by decide +kernel
theorem dX4_takesFigure_54 : decode cX4_takesFigure 54 = .ok (.putfield 21, 3) := by decide +kernel
theorem dX4_takesFigure_57 : decode cX4_takesFigure 57 = .ok (.iload_n 1, 1) := by decide +kernel
theorem dX4_takesFigure_58 : decode cX4_takesFigure 58 = .ok (.iconst 1, 1) := by decide +kernel
theorem dX4_takesFigure_59 : decode cX4_takesFigure 59 = .ok (.if_icmp .lt 18, 3) := by decide +kernel
theorem dX4_takesFigure_62 : decode cX4_takesFigure 62 = .ok (.aload_n 0, 1) := by decide +kernel
theorem dX4_takesFigure_63 : decode cX4_takesFigure 63 = .ok (.getfield 12, 3) := by decide +kernel
theorem dX4_takesFigure_66 : decode cX4_takesFigure 66 = .ok (.iload_n 1, 1) := by decide +kernel
theorem dX4_takesFigure_67 : decode cX4_takesFigure 67 = .ok (.invokevirtual 51, 3) := by decide +kernel
theorem dX4_takesFigure_70 : decode cX4_takesFigure 70 = .ok (.ifCond .eq 7, 3) := by decide +kernel
theorem dX4_takesFigure_73 : decode cX4_takesFigure 73 = .ok (.iconst 1, 1) := by decide +kernel
theorem dX4_takesFigure_74 : decode cX4_takesFigure 74 = .ok (.goto 4, 3) := by decide +kernel
theorem dX4_takesFigure_77 : decode cX4_takesFigure 77 = .ok (.iconst 0, 1) := by decide +kernel
theorem dX4_takesFigure_78 : decode cX4_takesFigure 78 = .ok (.ireturn, 1) := by decide +kernel
theorem dX4_takesFigure_79 : decode cX4_takesFigure 79 = .ok (.aload_n 0, 1) := by decide +kernel
theorem dX4_takesFigure_80 : decode cX4_takesFigure 80 = .ok (.iload_n 1, 1) := by decide +kernel
theorem dX4_takesFigure_81 : decode cX4_takesFigure 81 = .ok (.invokevirtual 54, 3) := by decide +kernel
theorem dX4_takesFigure_84 : decode cX4_takesFigure 84 = .ok (.ireturn, 1) := by decide +kernel
theorem dX4_takesFigure_85 : decode cX4_takesFigure 85 = .ok (.aload_n 0, 1) := by decide +kernel
theorem dX4_takesFigure_86 : decode cX4_takesFigure 86 = .ok (.iload_n 1, 1) := by decide +kernel
theorem dX4_takesFigure_87 : decode cX4_takesFigure 87 = .ok (.invokevirtual 57, 3) := by decide +kernel
theorem dX4_takesFigure_90 : decode cX4_takesFigure 90 = .ok (.ireturn, 1) := by decide +kernel
theorem dX4_takesFishFigure_0 : decode cX4_takesFishFigure 0 = .ok (.aload_n 0, 1) := by decide +kernel
theorem dX4_takesFishFigure_1 : decode cX4_takesFishFigure 1 = .ok (.getfield 35, 3) := by decide +kernel
theorem dX4_takesFishFigure_4 : decode cX4_takesFishFigure 4 = .ok (.iconst 1, 1) := by decide +kernel
theorem dX4_takesFishFigure_5 : decode cX4_takesFishFigure 5 = .ok (.if_icmp .ne 17, 3) := by decide +kernel
theorem dX4_takesFishFigure_8 : decode cX4_takesFishFigure 8 = .ok (.aload_n 0, 1) := by decide +kernel
theorem dX4_takesFishFigure_9 : decode cX4_takesFishFigure 9 = .ok (.iload_n 1, 1) := by decide +kernel
theorem dX4_takesFishFigure_10 : decode cX4_takesFishFigure 10 = .ok (.putfield 60, 3) := by decide +kernel
theorem dX4_takesFishFigure_13 : decode cX4_takesFishFigure 13 = .ok (.aload_n 0, 1) := by decide +kernel
theorem dX4_takesFishFigure_14 : decode cX4_takesFishFigure 14 = .ok (.getfield 12, 3) := by decide +kernel
theorem dX4_takesFishFigure_17 : decode cX4_takesFishFigure 17 = .ok (.iload_n 1, 1) := by decide +kernel
theorem dX4_takesFishFigure_18 : decode cX4_takesFishFigure 18 = .ok (.invokevirtual 63, 3) := by decide +kernel
theorem dX4_takesFishFigure_21 : decode cX4_takesFishFigure 21 = .ok (.ireturn, 1) := by decide +kernel
theorem dX4_takesFishFigure_22 : decode cX4_takesFishFigure 22 = .ok (.aload_n 0, 1) := by decide +kernel
theorem dX4_takesFishFigure_23 : decode cX4_takesFishFigure 23 = .ok (.getfield 35, 3) := by decide +kernel
theorem dX4_takesFishFigure_26 : decode cX4_takesFishFigure 26 = .ok (.iconst 2, 1) := by decide +kernel
theorem dX4_takesFishFigure_27 : decode cX4_takesFishFigure 27 = .ok (.if_icmp .ne 10, 3) := by decide +kernel
theorem dX4_takesFishFigure_30 : decode cX4_takesFishFigure 30 = .ok (.aload_n 0, 1) := by decide +kernel
theorem dX4_takesFishFigure_31 : decode cX4_takesFishFigure 31 = .ok (.iload_n 1, 1) := by decide +kernel
theorem dX4_takesFishFigure_32 : decode cX4_takesFishFigure 32 = .ok (.putfield 66, 3) := by decide +kernel
theorem dX4_takesFishFigure_35 : decode cX4_takesFishFigure 35 = .ok (.iconst 1, 1) := by decide +kernel
theorem dX4_takesFishFigure_36 : decode cX4_takesFishFigure 36 = .ok (.ireturn, 1) := by decide +kernel
theorem dX4_takesFishFigure_37 : decode cX4_takesFishFigure 37 = .ok (.aload_n 0, 1) := by decide +kernel
theorem dX4_takesFishFigure_38 : decode cX4_takesFishFigure 38 = .ok (.iconst 1, 1) := by decide +kernel
theorem dX4_takesFishFigure_39 : decode cX4_takesFishFigure 39 = .ok (.putfield 21, 3) := by decide +kernel
theorem dX4_takesFishFigure_42 : decode cX4_takesFishFigure 42 = .ok (.iload_n 1, 1) := by decide +kernel
theorem dX4_takesFishFigure_43 : decode cX4_takesFishFigure 43 = .ok (.iconst 3, 1) := by decide +kernel
theorem dX4_takesFishFigure_44 : decode cX4_takesFishFigure 44 = .ok (.if_icmp .gt 26, 3) := by decide +kernel
theorem dX4_takesFishFigure_47 : decode cX4_takesFishFigure 47 = .ok (.aload_n 0, 1) := by decide +kernel
theorem dX4_takesFishFigure_48 : decode cX4_takesFishFigure 48 = .ok (.getfield 12, 3) := by decide +kernel
theorem dX4_takesFishFigure_51 : decode cX4_takesFishFigure 51 = .ok (.aload_n 0, 1) := by decide +kernel
theorem dX4_takesFishFigure_52 : decode cX4_takesFishFigure 52 = .ok (.getfield 60, 3) := by decide +kernel
theorem dX4_takesFishFigure_55 : decode cX4_takesFishFigure 55 = .ok (.aload_n 0, 1) := by decide +kernel
theorem dX4_takesFishFigure_56 : decode cX4_takesFishFigure 56 = .ok (.getfield 66, 3) := by decide +kernel
theorem dX4_takesFishFigure_59 : decode cX4_takesFishFigure 59 = .ok (.iload_n 1, 1) := by decide +kernel
theorem dX4_takesFishFigure_60 : decode cX4_takesFishFigure 60 = .ok (.invokevirtual 69, 3) := by decide +kernel
theorem dX4_takesFishFigure_63 : decode cX4_takesFishFigure 63 = .ok (.ifCond .eq 7, 3) := by decide +kernel
theorem dX4_takesFishFigure_66 : decode cX4_takesFishFigure 66 = .ok (.iconst 1, 1) := by decide +kernel
theorem dX4_takesFishFigure_67 : decode cX4_takesFishFigure 67 = .ok (.goto 4, 3) := by decide +kernel
theorem dX4_takesFishFigure_70 : decode cX4_takesFishFigure 70 = .ok (.iconst 0, 1) := by decide +kernel
theorem dX4_takesFishFigure_71 : decode cX4_takesFishFigure 71 = .ok (.ireturn, 1) := by decide +kernel
theorem dX4_takesLipFigure_0 : decode cX4_takesLipFigure 0 = .ok (.aload_n 0, 1) := by decide +kernel
theorem dX4_takesLipFigure_1 : decode cX4_takesLipFigure 1 = .ok (.getfield 35, 3) := by decide +kernel
theorem dX4_takesLipFigure_4 : decode cX4_takesLipFigure 4 = .ok (.iconst 1, 1) := by decide +kernel
theorem dX4_takesLipFigure_5 : decode cX4_takesLipFigure 5 = .ok (.if_icmp .ne 17, 3) := by decide +kernel
theorem dX4_takesLipFigure_8 : decode cX4_takesLipFigure 8 = .ok (.aload_n 0, 1) := by decide +kernel
theorem dX4_takesLipFigure_9 : decode cX4_takesLipFigure 9 = .ok (.iload_n 1, 1) := by decide +kernel
theorem dX4_takesLipFigure_10 : decode cX4_takesLipFigure 10 = .ok (.putfield 60, 3) := by decide +kernel
theorem dX4_takesLipFigure_13 : decode cX4_takesLipFigure 13 = .ok (.aload_n 0, 1) := by decide +kernel
theorem dX4_takesLipFigure_14 : decode cX4_takesLipFigure 14 = .ok (.getfield 12, 3) := by decide +kernel
theorem dX4_takesLipFigure_17 : decode cX4_takesLipFigure 17 = .ok (.iload_n 1, 1) := by decide +kernel
theorem dX4_takesLipFigure_18 : decode cX4_takesLipFigure 18 = .ok (.invokevirtual 73, 3) := by decide +kernel
theorem dX4_takesLipFigure_21 : decode cX4_takesLipFigure 21 = .ok (.ireturn, 1) := by decide +kernel
theorem dX4_takesLipFigure_22 : decode cX4_takesLipFigure 22 = .ok (.aload_n 0, 1) := by decide +kernel
theorem dX4_takesLipFigure_23 : decode cX4_takesLipFigure 23 = .ok (.iconst 1, 1) := by decide +kernel
theorem dX4_takesLipFigure_24 : decode cX4_takesLipFigure 24 = .ok (.putfield 21, 3) := by decide +kernel
theorem dX4_takesLipFigure_27 : decode cX4_takesLipFigure 27 = .ok (.iload_n 1, 1) := by decide +kernel
theorem dX4_takesLipFigure_28 : decode cX4_takesLipFigure 28 = .ok (.iconst 3, 1) := by decide +kernel
theorem dX4_takesLipFigure_29 : decode cX4_takesLipFigure 29 = .ok (.if_icmp .gt 22, 3) := by decide +kernel
theorem dX4_takesLipFigure_32 : decode cX4_takesLipFigure 32 = .ok (.aload_n 0, 1) := by decide +kernel
theorem dX4_takesLipFigure_33 : decode cX4_takesLipFigure 33 = .ok (.getfield 12, 3) := by decide +kernel
theorem dX4_takesLipFigure_36 : decode cX4_takesLipFigure 36 = .ok (.aload_n 0, 1) := by decide +kernel
theorem dX4_takesLipFigure_37 : decode cX4_takesLipFigure 37 = .ok (.getfield 60, 3) := by decide +kernel
theorem dX4_takesLipFigure_40 : decode cX4_takesLipFigure 40 = .ok (.iload_n 1, 1) := by decide +kernel
theorem dX4_takesLipFigure_41 : decode cX4_takesLipFigure 41 = .ok (.invokevirtual 76, 3) := by decide +kernel
theorem dX4_takesLipFigure_44 : decode cX4_takesLipFigure 44 = .ok (.ifCond .eq 7, 3) := by decide +kernel
theorem dX4_takesLipFigure_47 : decode cX4_takesLipFigure 47 = .ok (.iconst 1, 1) := by decide +kernel
theorem dX4_takesLipFigure_48 : decode cX4_takesLipFigure 48 = .ok (.goto 4, 3) := by decide +kernel
theorem dX4_takesLipFigure_51 : decode cX4_takesLipFigure 51 = .ok (.iconst 0, 1) := by decide +kernel
theorem dX4_takesLipFigure_52 : decode cX4_takesLipFigure 52 = .ok (.ireturn, 1) := by decide +kernel
theorem dX5_init_0 : decode cX5_init 0 = .ok (.aload_n 0, 1) := by decide +kernel
theorem dX5_init_1 : decode cX5_init 1 = .ok (.invokespecial 3, 3) := by decide +kernel
theorem dX5_init_4 : decode cX5_init 4 = .ok (.aload_n 0, 1) := by decide +kernel
theorem dX5_init_5 : decode cX5_init 5 = .ok (.bipush 6, 2) := by decide +kernel
theorem dX5_init_7 : decode cX5_init 7 = .ok (.newarray .int, 2) := by decide +kernel
theorem dX5_init_9 : decode cX5_init 9 = .ok (.putfield 9, 3) := by decide +kernel
theorem dX5_init_12 : decode cX5_init 12 = .ok (.aload_n 0, 1) := by decide +kernel
theorem dX5_init_13 : decode cX5_init 13 = .ok (.bipush 6, 2) := by decide +kernel
theorem dX5_init_15 : decode cX5_init 15 = .ok (.newarray .int, 2) := by decide +kernel
theorem dX5_init_17 : decode cX5_init 17 = .ok (.putfield 15, 3) := by decide +kernel
theorem dX5_init_20 : decode cX5_init 20 = .ok (.return_, 1) := by decide +kernel
theorem dX5_add_0 : decode cX5_add 0 = .ok (.aload_n 0, 1) := by decide +kernel
theorem dX5_add_1 : decode cX5_add 1 = .ok (.getfield 18, 3) := by decide +kernel
theorem dX5_add_4 : decode cX5_add 4 = .ok (.bipush 6, 2) := by decide +kernel
theorem dX5_add_6 : decode cX5_add 6 = .ok (.if_icmp .lt 5, 3) := by decide +kernel
theorem dX5_add_9 : decode cX5_add 9 = .ok (.iconst 0, 1) := by decide +kernel
theorem dX5_add_10 : decode cX5_add 10 = .ok (.ireturn, 1) := by decide +kernel
theorem dX5_add_11 : decode cX5_add 11 = .ok (.aload_n 0, 1) := by decide +kernel
theorem dX5_add_12 : decode cX5_add 12 = .ok (.getfield 9, 3) := by decide +kernel
theorem dX5_add_15 : decode cX5_add 15 = .ok (.aload_n 0, 1) := by decide +kernel
theorem dX5_add_16 : decode cX5_add 16 = .ok (.getfield 18, 3) := by decide +kernel
theorem dX5_add_19 : decode cX5_add 19 = .ok (.iload_n 1, 1) := by decide +kernel
theorem dX5_add_20 : decode cX5_add 20 = .ok (.iastore, 1) := by decide +kernel
theorem dX5_add_21 : decode cX5_add 21 = .ok (.aload_n 0, 1) := by decide +kernel
theorem dX5_add_22 : decode cX5_add 22 = .ok (.getfield 15, 3) := by decide +kernel
theorem dX5_add_25 : decode cX5_add 25 = .ok (.aload_n 0, 1) := by decide +kernel
theorem dX5_add_26 : decode cX5_add 26 = .ok (.getfield 18, 3) := by decide +kernel
theorem dX5_add_29 : decode cX5_add 29 = .ok (.iload_n 2, 1) := by decide +kernel
theorem dX5_add_30 : decode cX5_add 30 = .ok (.iastore, 1) := by decide +kernel
theorem dX5_add_31 : decode cX5_add 31 = .ok (.aload_n 0, 1) := by decide +kernel
theorem dX5_add_32 : decode cX5_add 32 = .ok (.dup, 1) := by decide +kernel
theorem dX5_add_33 : decode cX5_add 33 = .ok (.getfield 18, 3) := by decide +kernel
theorem dX5_add_36 : decode cX5_add 36 = .ok (.iconst 1, 1) := by decide +kernel
theorem dX5_add_37 : decode cX5_add 37 = .ok (.iadd, 1) := by decide +kernel
theorem dX5_add_38 : decode cX5_add 38 = .ok (.putfield 18, 3) := by decide +kernel
theorem dX5_add_41 : decode cX5_add 41 = .ok (.iconst 1, 1) := by decide +kernel
theorem dX5_add_42 : decode cX5_add 42 = .ok (.ireturn, 1) := by decide +kernel
theorem dX5_possibleFirsts_0 : decode cX5_possibleFirsts 0 = .ok (.iconst 0, 1) := by decide +kernel
theorem dX5_possibleFirsts_1 : decode cX5_possibleFirsts 1 = .ok (.istore_n 3, 1) := by decide +kernel
theorem dX5_possibleFirsts_2 : decode cX5_possibleFirsts 2 = .ok (.iconst 0, 1) := by decide +kernel
theorem dX5_possibleFirsts_3 : decode cX5_possibleFirsts 3 = .ok (.istore 4, 2) := by decide +kernel
theorem dX5_possibleFirsts_5 : decode cX5_possibleFirsts 5 = .ok (.iload 4, 2) := by decide +kernel
theorem dX5_possibleFirsts_7 : decode cX5_possibleFirsts 7 = .ok (.bipush 9, 2) := by decide +kernel
theorem dX5_possibleFirsts_9 : decode cX5_possibleFirsts 9 = .ok (.if_icmp .gt 27, 3) := by decide +kernel
theorem dX5_possibleFirsts_12 : decode cX5_possibleFirsts 12 = .ok (.aload_n 0, 1) := by decide +kernel
theorem dX5_possibleFirsts_13 : decode cX5_possibleFirsts 13 = .ok (.iload_n 1, 1) := by decide +kernel
theorem dX5_possibleFirsts_14 : decode cX5_possibleFirsts 14 = .ok (.iload 4, 2) := by decide +kernel
theorem dX5_possibleFirsts_16 : decode cX5_possibleFirsts 16 = .ok (.aload_n 2, 1) := by decide +kernel
theorem dX5_possibleFirsts_17 : decode cX5_possibleFirsts 17 = .ok (.invokevirtual 22, 3) := by decide +kernel
theorem dX5_possibleFirsts_20 : decode cX5_possibleFirsts 20 = .ok (.ifCond .eq 10, 3) := by decide +kernel
theorem dX5_possibleFirsts_23 : decode cX5_possibleFirsts 23 = .ok (.iload_n 3, 1) := by decide +kernel
theorem dX5_possibleFirsts_24 : decode cX5_possibleFirsts 24 = .ok (.iconst 1, 1) := by decide +kernel
theorem dX5_possibleFirsts_25 : decode cX5_possibleFirsts 25 = .ok (.iload 4, 2) := by decide +kernel
theorem dX5_possibleFirsts_27 : decode cX5_possibleFirsts 27 = .ok (.ishl, 1) := by decide +kernel
theorem dX5_possibleFirsts_28 : decode cX5_possibleFirsts 28 = .ok (.ior, 1) := by decide +kernel
theorem dX5_possibleFirsts_29 : decode cX5_possibleFirsts 29 = .ok (.istore_n 3, 1) := by decide +kernel
theorem dX5_possibleFirsts_30 : decode cX5_possibleFirsts 30 = .ok (.iinc 4 1, 3) := by decide +kernel
theorem dX5_possibleFirsts_33 : decode cX5_possibleFirsts 33 = .ok (.goto (-28), 3) := by decide +kernel
theorem dX5_possibleFirsts_36 : decode cX5_possibleFirsts 36 = .ok (.iload_n 3, 1) := by decide +kernel
theorem dX5_possibleFirsts_37 : decode cX5_possibleFirsts 37 = .ok (.ireturn, 1) := by decide +kernel
theorem dX5_fits_0 : decode cX5_fits 0 = .ok (.iconst 0, 1) := by decide +kernel
theorem dX5_fits_1 : decode cX5_fits 1 = .ok (.istore 4, 2) := by decide +kernel
theorem dX5_fits_3 : decode cX5_fits 3 = .ok (.iload 4, 2) := by decide +kernel
theorem dX5_fits_5 : decode cX5_fits 5 = .ok (.aload_n 0, 1) := by decide +kernel
theorem dX5_fits_6 : decode cX5_fits 6 = .ok (.getfield 18, 3) := by decide +kernel
theorem dX5_fits_9 : decode cX5_fits 9 = .ok (.if_icmp .ge 37, 3) := by decide +kernel
theorem dX5_fits_12 : decode cX5_fits 12 = .ok (.aload_n 0, 1) := by decide +kernel
theorem dX5_fits_13 : decode cX5_fits 13 = .ok (.getfield 9, 3) := by decide +kernel
theorem dX5_fits_16 : decode cX5_fits 16 = .ok (.iload 4, 2) := by decide +kernel
theorem dX5_fits_18 : decode cX5_fits 18 = .ok (.iaload, 1) := by decide +kernel
theorem dX5_fits_19 : decode cX5_fits 19 = .ok (.iload_n 1, 1) := by decide +kernel
theorem dX5_fits_20 : decode cX5_fits 20 = .ok (.if_icmp .ne 20, 3) := by decide +kernel
theorem dX5_fits_23 : decode cX5_fits 23 = .ok (.iload_n 2, 1) := by decide +kernel
theorem dX5_fits_24 : decode cX5_fits 24 = .ok (.aload_n 0, 1) := by decide +kernel
theorem dX5_fits_25 : decode cX5_fits 25 = .ok (.getfield 15, 3) := by decide +kernel
theorem dX5_fits_28 : decode cX5_fits 28 = .ok (.iload 4, 2) := by decide +kernel
theorem dX5_fits_30 : decode cX5_fits 30 = .ok (.iaload, 1) := by decide +kernel
theorem dX5_fits_31 : decode cX5_fits 31 = .ok (.aload_n 3, 1) := by decide +kernel
theorem dX5_fits_32 : decode cX5_fits 32 = .ok (.invokestatic 26, 3) := by decide +kernel
theorem dX5_fits_35 : decode cX5_fits 35 = .ok (.ifCond .ne 5, 3) := by decide +kernel
theorem dX5_fits_38 : decode cX5_fits 38 = .ok (.iconst 0, 1) := by decide +kernel
theorem dX5_fits_39 : decode cX5_fits 39 = .ok (.ireturn, 1) := by decide +kernel
theorem dX5_fits_40 : decode cX5_fits 40 = .ok (.iinc 4 1, 3) := by decide +kernel
theorem dX5_fits_43 : decode cX5_fits 43 = .ok (.goto (-40), 3) := by decide +kernel
theorem dX5_fits_46 : decode cX5_fits 46 = .ok (.iconst 1, 1) := by decide +kernel
theorem dX5_fits_47 : decode cX5_fits 47 = .ok (.ireturn, 1) := by decide +kernel
theorem dX5_mayCome_0 : decode cX5_mayCome 0 = .ok (.iconst 0, 1) := by decide +kernel
theorem dX5_mayCome_1 : decode cX5_mayCome 1 = .ok (.istore_n 3, 1) := by decide +kernel
theorem dX5_mayCome_2 : decode cX5_mayCome 2 = .ok (.iload_n 3, 1) := by decide +kernel
theorem dX5_mayCome_3 : decode cX5_mayCome 3 = .ok (.aload_n 2, 1) := by decide +kernel
theorem dX5_mayCome_4 : decode cX5_mayCome 4 = .ok (.getfield 29, 3) := by decide +kernel
theorem dX5_mayCome_7 : decode cX5_mayCome 7 = .ok (.if_icmp .ge 26, 3) := by decide +kernel
theorem dX5_mayCome_10 : decode cX5_mayCome 10 = .ok (.iload_n 0, 1) := by decide +kernel
theorem dX5_mayCome_11 : decode cX5_mayCome 11 = .ok (.aload_n 2, 1) := by decide +kernel
theorem dX5_mayCome_12 : decode cX5_mayCome 12 = .ok (.getfield 34, 3) := by decide +kernel
theorem dX5_mayCome_15 : decode cX5_mayCome 15 = .ok (.iload_n 3, 1) := by decide +kernel
theorem dX5_mayCome_16 : decode cX5_mayCome 16 = .ok (.iaload, 1) := by decide +kernel
theorem dX5_mayCome_17 : decode cX5_mayCome 17 = .ok (.iadd, 1) := by decide +kernel
theorem dX5_mayCome_18 : decode cX5_mayCome 18 = .ok (.bipush 10, 2) := by decide +kernel
theorem dX5_mayCome_20 : decode cX5_mayCome 20 = .ok (.irem, 1) := by decide +kernel
theorem dX5_mayCome_21 : decode cX5_mayCome 21 = .ok (.iload_n 1, 1) := by decide +kernel
theorem dX5_mayCome_22 : decode cX5_mayCome 22 = .ok (.if_icmp .ne 5, 3) := by decide +kernel
theorem dX5_mayCome_25 : decode cX5_mayCome 25 = .ok (.iconst 1, 1) := by decide +kernel
theorem dX5_mayCome_26 : decode cX5_mayCome 26 = .ok (.ireturn, 1) := by decide +kernel
theorem dX5_mayCome_27 : decode cX5_mayCome 27 = .ok (.iinc 3 1, 3) := by decide +kernel
theorem dX5_mayCome_30 : decode cX5_mayCome 30 = .ok (.goto (-28), 3) := by decide +kernel
theorem dX5_mayCome_33 : decode cX5_mayCome 33 = .ok (.iconst 0, 1) := by decide +kernel
theorem dX5_mayCome_34 : decode cX5_mayCome 34 = .ok (.ireturn, 1) := by decide +kernel
theorem dX6_init_0 : decode cX6_init 0 = .ok (.aload_n 0, 1) := by decide +kernel
theorem dX6_init_1 : decode cX6_init 1 = .ok (.invokespecial 1, 3) := by decide +kernel
theorem dX6_init_4 : decode cX6_init 4 = .ok (.aload_n 0, 1) := by decide +kernel
theorem dX6_init_5 : decode cX6_init 5 = .ok (.bipush 48, 2) := by decide +kernel
theorem dX6_init_7 : decode cX6_init 7 = .ok (.newarray .int, 2) := by decide +kernel
theorem dX6_init_9 : decode cX6_init 9 = .ok (.putfield 9, 3) := by decide +kernel
theorem dX6_init_12 : decode cX6_init 12 = .ok (.aload_n 0, 1) := by decide +kernel
theorem dX6_init_13 : decode cX6_init 13 = .ok (.new 13, 3) := by decide +kernel
theorem dX6_init_16 : decode cX6_init 16 = .ok (.dup, 1) := by decide +kernel
theorem dX6_init_17 : decode cX6_init 17 = .ok (.invokespecial 15, 3) := by decide +kernel
theorem dX6_init_20 : decode cX6_init 20 = .ok (.putfield 16, 3) := by decide +kernel
theorem dX6_init_23 : decode cX6_init 23 = .ok (.aload_n 0, 1) := by decide +kernel
theorem dX6_init_24 : decode cX6_init 24 = .ok (.new 20, 3) := by decide +kernel
theorem dX6_init_27 : decode cX6_init 27 = .ok (.dup, 1) := by decide +kernel
theorem dX6_init_28 : decode cX6_init 28 = .ok (.invokespecial 22, 3) := by decide +kernel
theorem dX6_init_31 : decode cX6_init 31 = .ok (.putfield 23, 3) := by decide +kernel
theorem dX6_init_34 : decode cX6_init 34 = .ok (.aload_n 0, 1) := by decide +kernel
theorem dX6_init_35 : decode cX6_init 35 = .ok (.new 27, 3) := by decide +kernel
theorem dX6_init_38 : decode cX6_init 38 = .ok (.dup, 1) := by decide +kernel
theorem dX6_init_39 : decode cX6_init 39 = .ok (.aload_n 0, 1) := by decide +kernel
theorem dX6_init_40 : decode cX6_init 40 = .ok (.getfield 23, 3) := by decide +kernel
theorem dX6_init_43 : decode cX6_init 43 = .ok (.invokespecial 29, 3) := by decide +kernel
theorem dX6_init_46 : decode cX6_init 46 = .ok (.putfield 32, 3) := by decide +kernel
theorem dX6_init_49 : decode cX6_init 49 = .ok (.aload_n 0, 1) := by decide +kernel
theorem dX6_init_50 : decode cX6_init 50 = .ok (.new 36, 3) := by decide +kernel
theorem dX6_init_53 : decode cX6_init 53 = .ok (.dup, 1) := by decide +kernel
theorem dX6_init_54 : decode cX6_init 54 = .ok (.aload_n 0, 1) := by decide +kernel
theorem dX6_init_55 : decode cX6_init 55 = .ok (.getfield 23, 3) := by decide +kernel
theorem dX6_init_58 : decode cX6_init 58 = .ok (.invokespecial 38, 3) := by decide +kernel
theorem dX6_init_61 : decode cX6_init 61 = .ok (.putfield 39, 3) := by decide +kernel
theorem dX6_init_64 : decode cX6_init 64 = .ok (.aload_n 0, 1) := by decide +kernel
theorem dX6_init_65 : decode cX6_init 65 = .ok (.new 43, 3) := by decide +kernel
theorem dX6_init_68 : decode cX6_init 68 = .ok (.dup, 1) := by decide +kernel
theorem dX6_init_69 : decode cX6_init 69 = .ok (.invokespecial 45, 3) := by decide +kernel
theorem dX6_init_72 : decode cX6_init 72 = .ok (.putfield 46, 3) := by decide +kernel
theorem dX6_init_75 : decode cX6_init 75 = .ok (.aload_n 0, 1) := by decide +kernel
theorem dX6_init_76 : decode cX6_init 76 = .ok (.new 50, 3) := by decide +kernel
theorem dX6_init_79 : decode cX6_init 79 = .ok (.dup, 1) := by decide +kernel
theorem dX6_init_80 : decode cX6_init 80 = .ok (.aload_n 0, 1) := by decide +kernel
theorem dX6_init_81 : decode cX6_init 81 = .ok (.getfield 23, 3) := by decide +kernel
theorem dX6_init_84 : decode cX6_init 84 = .ok (.aload_n 0, 1) := by decide +kernel
theorem dX6_init_85 : decode cX6_init 85 = .ok (.getfield 32, 3) := by decide +kernel
theorem dX6_init_88 : decode cX6_init 88 = .ok (.invokespecial 52, 3) := by decide +kernel
theorem dX6_init_91 : decode cX6_init 91 = .ok (.putfield 55, 3) := by decide +kernel
theorem dX6_init_94 : decode cX6_init 94 = .ok (.aload_n 0, 1) := by decide +kernel
theorem dX6_init_95 : decode cX6_init 95 = .ok (.iconst 2, 1) := by decide +kernel
theorem dX6_init_96 : decode cX6_init 96 = .ok (.anewarray 27, 3) := by decide +kernel
theorem dX6_init_99 : decode cX6_init 99 = .ok (.putfield 59, 3) := by decide +kernel
theorem dX6_init_102 : decode cX6_init 102 = .ok (.aload_n 0, 1) := by decide +kernel
theorem dX6_init_103 : decode cX6_init 103 = .ok (.iconst 2, 1) := by decide +kernel
theorem dX6_init_104 : decode cX6_init 104 = .ok (.newarray .boolean, 2) := by decide +kernel
theorem dX6_init_106 : decode cX6_init 106 = .ok (.putfield 63, 3) := by decide +kernel
theorem dX6_init_109 : decode cX6_init 109 = .ok (.iconst 0, 1) := by decide +kernel
theorem dX6_init_110 : decode cX6_init 110 = .ok (.istore_n 1, 1) := by decide +kernel
theorem dX6_init_111 : decode cX6_init 111 = .ok (.iload_n 1, 1) := by decide +kernel
theorem dX6_init_112 : decode cX6_init 112 = .ok (.iconst 2, 1) := by decide +kernel
theorem dX6_init_113 : decode cX6_init 113 = .ok (.if_icmp .ge 26, 3) := by decide +kernel
theorem dX6_init_116 : decode cX6_init 116 = .ok (.aload_n 0, 1) := by decide +kernel
theorem dX6_init_117 : decode cX6_init 117 = .ok (.getfield 59, 3) := by decide +kernel
theorem dX6_init_120 : decode cX6_init 120 = .ok (.iload_n 1, 1) := by decide +kernel
theorem dX6_init_121 : decode cX6_init 121 = .ok (.new 27, 3) := by decide +kernel
theorem dX6_init_124 : decode cX6_init 124 = .ok (.dup, 1) := by decide +kernel
theorem dX6_init_125 : decode cX6_init 125 = .ok (.aload_n 0, 1) := by decide +kernel
theorem dX6_init_126 : decode cX6_init 126 = .ok (.getfield 23, 3) := by decide +kernel
theorem dX6_init_129 : decode cX6_init 129 = .ok (.invokespecial 29, 3) := by decide +kernel
theorem dX6_init_132 : decode cX6_init 132 = .ok (.aastore, 1) := by decide +kernel
theorem dX6_init_133 : decode cX6_init 133 = .ok (.iinc 1 1, 3) := by decide +kernel
theorem dX6_init_136 : decode cX6_init 136 = .ok (.goto (-25), 3) := by decide +kernel
theorem dX6_init_139 : decode cX6_init 139 = .ok (.return_, 1) := by decide +kernel
theorem dX6_write_0 : decode cX6_write 0 = .ok (.iload_n 1, 1) := by decide +kernel
theorem dX6_write_1 : decode cX6_write 1 = .ok (.ifCond .lt 10, 3) := by decide +kernel
theorem dX6_write_4 : decode cX6_write 4 = .ok (.iload_n 1, 1) := by decide +kernel
theorem dX6_write_5 : decode cX6_write 5 = .ok (.sipush 255, 3) := by decide +kernel
theorem dX6_write_8 : decode cX6_write 8 = .ok (.if_icmp .le 6, 3) := by decide +kernel
theorem dX6_write_11 : decode cX6_write 11 = .ok (.bipush (-2), 2) := by decide +kernel
theorem dX6_write_13 : decode cX6_write 13 = .ok (.ireturn, 1) := by decide +kernel
theorem dX6_write_14 : decode cX6_write 14 = .ok (.aload_n 0, 1) := by decide +kernel
theorem dX6_write_15 : decode cX6_write 15 = .ok (.getfield 67, 3) := by decide +kernel
theorem dX6_write_18 : decode cX6_write 18 = .ok (.bipush 48, 2) := by decide +kernel
theorem dX6_write_20 : decode cX6_write 20 = .ok (.if_icmp .lt 6, 3) := by decide +kernel
theorem dX6_write_23 : decode cX6_write 23 = .ok (.bipush (-4), 2) := by decide +kernel
theorem dX6_write_25 : decode cX6_write 25 = .ok (.ireturn, 1) := by decide +kernel
theorem dX6_write_26 : decode cX6_write 26 = .ok (.aload_n 0, 1) := by decide +kernel
theorem dX6_write_27 : decode cX6_write 27 = .ok (.getfield 9, 3) := by decide +kernel
theorem dX6_write_30 : decode cX6_write 30 = .ok (.aload_n 0, 1) := by decide +kernel
theorem dX6_write_31 : decode cX6_write 31 = .ok (.getfield 67, 3) := by decide +kernel
theorem dX6_write_34 : decode cX6_write 34 = .ok (.iload_n 1, 1) := by decide +kernel
theorem dX6_write_35 : decode cX6_write 35 = .ok (.iastore, 1) := by decide +kernel
theorem dX6_write_36 : decode cX6_write 36 = .ok (.aload_n 0, 1) := by decide +kernel
theorem dX6_write_37 : decode cX6_write 37 = .ok (.dup, 1) := by decide +kernel
theorem dX6_write_38 : decode cX6_write 38 = .ok (.getfield 67, 3) := by decide +kernel
theorem dX6_write_41 : decode cX6_write 41 = .ok (.iconst 1, 1) := by decide +kernel
theorem dX6_write_42 : decode cX6_write 42 = .ok (.iadd, 1) := by decide +kernel
theorem dX6_write_43 : decode cX6_write 43 = .ok (.putfield 67, 3) := by decide +kernel
theorem dX6_write_46 : decode cX6_write 46 = .ok (.aload_n 0, 1) := by decide +kernel
theorem dX6_write_47 : decode cX6_write 47 = .ok (.getfield 67, 3) := by decide +kernel
theorem dX6_write_50 : decode cX6_write 50 = .ok (.ireturn, 1) := by decide +kernel
theorem dX6_wipe_0 : decode cX6_wipe 0 = .ok (.aload_n 0, 1) := by decide +kernel
theorem dX6_wipe_1 : decode cX6_wipe 1 = .ok (.getfield 67, 3) := by decide +kernel
theorem dX6_wipe_4 : decode cX6_wipe 4 = .ok (.istore_n 1, 1) := by decide +kernel
theorem dX6_wipe_5 : decode cX6_wipe 5 = .ok (.aload_n 0, 1) := by decide +kernel
theorem dX6_wipe_6 : decode cX6_wipe 6 = .ok (.iconst 0, 1) := by decide +kernel
theorem dX6_wipe_7 : decode cX6_wipe 7 = .ok (.putfield 67, 3) := by decide +kernel
theorem dX6_wipe_10 : decode cX6_wipe 10 = .ok (.iload_n 1, 1) := by decide +kernel
theorem dX6_wipe_11 : decode cX6_wipe 11 = .ok (.ireturn, 1) := by decide +kernel
theorem dX6_fault_0 : decode cX6_fault 0 = .ok (.aload_n 0, 1) := by decide +kernel
theorem dX6_fault_1 : decode cX6_fault 1 = .ok (.getfield 16, 3) := by decide +kernel
theorem dX6_fault_4 : decode cX6_fault 4 = .ok (.aload_n 0, 1) := by decide +kernel
theorem dX6_fault_5 : decode cX6_fault 5 = .ok (.getfield 9, 3) := by decide +kernel
theorem dX6_fault_8 : decode cX6_fault 8 = .ok (.aload_n 0, 1) := by decide +kernel
theorem dX6_fault_9 : decode cX6_fault 9 = .ok (.getfield 67, 3) := by decide +kernel
theorem dX6_fault_12 : decode cX6_fault 12 = .ok (.invokevirtual 71, 3) := by decide +kernel
theorem dX6_fault_15 : decode cX6_fault 15 = .ok (.ireturn, 1) := by decide +kernel
theorem dX6_hall_0 : decode cX6_hall 0 = .ok (.aload_n 0, 1) := by decide +kernel
theorem dX6_hall_1 : decode cX6_hall 1 = .ok (.getfield 16, 3) := by decide +kernel
theorem dX6_hall_4 : decode cX6_hall 4 = .ok (.aload_n 0, 1) := by decide +kernel
theorem dX6_hall_5 : decode cX6_hall 5 = .ok (.getfield 9, 3) := by decide +kernel
theorem dX6_hall_8 : decode cX6_hall 8 = .ok (.aload_n 0, 1) := by decide +kernel
theorem dX6_hall_9 : decode cX6_hall 9 = .ok (.getfield 67, 3) := by decide +kernel
theorem dX6_hall_12 : decode cX6_hall 12 = .ok (.invokevirtual 71, 3) := by decide +kernel
theorem dX6_hall_15 : decode cX6_hall 15 = .ok (.bipush (-9), 2) := by decide +kernel
theorem dX6_hall_17 : decode cX6_hall 17 = .ok (.if_icmp .eq 6, 3) := by decide +kernel
theorem dX6_hall_20 : decode cX6_hall 20 = .ok (.bipush (-3), 2) := by decide +kernel
theorem dX6_hall_22 : decode cX6_hall 22 = .ok (.ireturn, 1) := by decide +kernel
theorem dX6_hall_23 : decode cX6_hall 23 = .ok (.aload_n 0, 1) := by decide +kernel
theorem dX6_hall_24 : decode cX6_hall 24 = .ok (.getfield 23, 3) := by decide +kernel
theorem dX6_hall_27 : decode cX6_hall 27 = .ok (.aload_n 0, 1) := by decide +kernel
theorem dX6_hall_28 : decode cX6_hall 28 = .ok (.getfield 16, 3) := by decide +kernel
theorem dX6_hall_31 : decode cX6_hall 31 = .ok (.getfield 75, 3) := by decide +kernel
theorem dX6_hall_34 : decode cX6_hall 34 = .ok (.invokevirtual 78, 3) := by decide +kernel
theorem dX6_hall_37 : decode cX6_hall 37 = .ok (.aload_n 0, 1) := by decide +kernel
theorem dX6_hall_38 : decode cX6_hall 38 = .ok (.getfield 32, 3) := by decide +kernel
theorem dX6_hall_41 : decode cX6_hall 41 = .ok (.invokevirtual 81, 3) := by decide +kernel
theorem dX6_hall_44 : decode cX6_hall 44 = .ok (.aload_n 0, 1) := by decide +kernel
theorem dX6_hall_45 : decode cX6_hall 45 = .ok (.getfield 39, 3) := by decide +kernel
theorem dX6_hall_48 : decode cX6_hall 48 = .ok (.invokevirtual 84, 3) := by decide +kernel
theorem dX6_hall_51 : decode cX6_hall 51 = .ok (.iconst 0, 1) := by decide +kernel
theorem dX6_hall_52 : decode cX6_hall 52 = .ok (.istore_n 1, 1) := by decide +kernel
theorem dX6_hall_53 : decode cX6_hall 53 = .ok (.iload_n 1, 1) := by decide +kernel
theorem dX6_hall_54 : decode cX6_hall 54 = .ok (.iconst 2, 1) := by decide +kernel
theorem dX6_hall_55 : decode cX6_hall 55 = .ok (.if_icmp .ge 16, 3) := by decide +kernel
theorem dX6_hall_58 : decode cX6_hall 58 = .ok (.aload_n 0, 1) := by decide +kernel
theorem dX6_hall_59 : decode cX6_hall 59 = .ok (.getfield 63, 3) := by decide +kernel
theorem dX6_hall_62 : decode cX6_hall 62 = .ok (.iload_n 1, 1) := by decide +kernel
theorem dX6_hall_63 : decode cX6_hall 63 = .ok (.iconst 0, 1) := by decide +kernel
theorem dX6_hall_64 : decode cX6_hall 64 = .ok (.bastore, 1) := by decide +kernel
theorem dX6_hall_65 : decode cX6_hall 65 = .ok (.iinc 1 1, 3) := by decide +kernel
theorem dX6_hall_68 : decode cX6_hall 68 = .ok (.goto (-15), 3) := by decide +kernel
theorem dX6_hall_71 : decode cX6_hall 71 = .ok (.bipush 100, 2) := by decide +kernel
theorem dX6_hall_73 : decode cX6_hall 73 = .ok (.aload_n 0, 1) := by decide +kernel
theorem dX6_hall_74 : decode cX6_hall 74 = .ok (.getfield 23, 3) := by decide +kernel
theorem dX6_hall_77 : decode cX6_hall 77 = .ok (.getfield 87, 3) := by decide +kernel
theorem dX6_hall_80 : decode cX6_hall 80 = .ok (.imul, 1) := by decide +kernel
theorem dX6_hall_81 : decode cX6_hall 81 = .ok (.bipush 10, 2) := by decide +kernel
theorem dX6_hall_83 : decode cX6_hall 83 = .ok (.aload_n 0, 1) := by decide +kernel
theorem dX6_hall_84 : decode cX6_hall 84 = .ok (.getfield 23, 3) := by decide +kernel
theorem dX6_hall_87 : decode cX6_hall 87 = .ok (.getfield 90, 3) := by decide +kernel
theorem dX6_hall_90 : decode cX6_hall 90 = .ok (.imul, 1) := by decide +kernel
theorem dX6_hall_91 : decode cX6_hall 91 = .ok (.iadd, 1) := by decide +kernel
theorem dX6_hall_92 : decode cX6_hall 92 = .ok (.aload_n 0, 1) := by decide +kernel
theorem dX6_hall_93 : decode cX6_hall 93 = .ok (.getfield 23, 3) := by decide +kernel
theorem dX6_hall_96 : decode cX6_hall 96 = .ok (.getfield 93, 3) := by decide +kernel
theorem dX6_hall_99 : decode cX6_hall 99 = .ok (.iadd, 1) := by decide +kernel
theorem dX6_hall_100 : decode cX6_hall 100 = .ok (.ireturn, 1) := by decide +kernel
theorem dX6_bowl_0 : decode cX6_bowl 0 = .ok (.aload_n 0, 1) := by decide +kernel
theorem dX6_bowl_1 : decode cX6_bowl 1 = .ok (.getfield 23, 3) := by decide +kernel
theorem dX6_bowl_4 : decode cX6_bowl 4 = .ok (.iload_n 1, 1) := by decide +kernel
theorem dX6_bowl_5 : decode cX6_bowl 5 = .ok (.invokevirtual 96, 3) := by decide +kernel
theorem dX6_bowl_8 : decode cX6_bowl 8 = .ok (.ifCond .ne 5, 3) := by decide +kernel
theorem dX6_bowl_11 : decode cX6_bowl 11 = .ok (.iconst (-1), 1) := by decide +kernel
theorem dX6_bowl_12 : decode cX6_bowl 12 = .ok (.ireturn, 1) := by decide +kernel
theorem dX6_bowl_13 : decode cX6_bowl 13 = .ok (.iload_n 2, 1) := by decide +kernel
theorem dX6_bowl_14 : decode cX6_bowl 14 = .ok (.tableswitch 54 0 2 #[26, 36, 45], 26) := by decide +kernel
theorem dX6_bowl_40 : decode cX6_bowl 40 = .ok (.aload_n 0, 1) := by decide +kernel
theorem dX6_bowl_41 : decode cX6_bowl 41 = .ok (.getfield 23, 3) := by decide +kernel
theorem dX6_bowl_44 : decode cX6_bowl 44 = .ok (.getfield 100, 3) := by decide +kernel
theorem dX6_bowl_47 : decode cX6_bowl 47 = .ok (.iload_n 1, 1) := by decide +kernel
theorem dX6_bowl_48 : decode cX6_bowl 48 = .ok (.iaload, 1) := by decide +kernel
theorem dX6_bowl_49 : decode cX6_bowl 49 = .ok (.ireturn, 1) := by decide +kernel
theorem dX6_bowl_50 : decode cX6_bowl 50 = .ok (.aload_n 0, 1) := by decide +kernel
theorem dX6_bowl_51 : decode cX6_bowl 51 = .ok (.getfield 32, 3) := by decide +kernel
theorem dX6_bowl_54 : decode cX6_bowl 54 = .ok (.iload_n 1, 1) := by decide +kernel
theorem dX6_bowl_55 : decode cX6_bowl 55 = .ok (.invokevirtual 103, 3) := by decide +kernel
theorem dX6_bowl_58 : decode cX6_bowl 58 = .ok (.ireturn, 1) := by decide +kernel
theorem dX6_bowl_59 : decode cX6_bowl 59 = .ok (.aload_n 0, 1) := by decide +kernel
theorem dX6_bowl_60 : decode cX6_bowl 60 = .ok (.getfield 32, 3) := by decide +kernel
theorem dX6_bowl_63 : decode cX6_bowl 63 = .ok (.iload_n 1, 1) := by decide +kernel
theorem dX6_bowl_64 : decode cX6_bowl 64 = .ok (.invokevirtual 107, 3) := by decide +kernel
theorem dX6_bowl_67 : decode cX6_bowl 67 = .ok (.ireturn, 1) := by decide +kernel
theorem dX6_bowl_68 : decode cX6_bowl 68 = .ok (.bipush (-2), 2) := by decide +kernel
theorem dX6_bowl_70 : decode cX6_bowl 70 = .ok (.ireturn, 1) := by decide +kernel
theorem dX6_fish_0 : decode cX6_fish 0 = .ok (.aload_n 0, 1) := by decide +kernel
theorem dX6_fish_1 : decode cX6_fish 1 = .ok (.getfield 23, 3) := by decide +kernel
theorem dX6_fish_4 : decode cX6_fish 4 = .ok (.iload_n 1, 1) := by decide +kernel
theorem dX6_fish_5 : decode cX6_fish 5 = .ok (.invokevirtual 110, 3) := by decide +kernel
theorem dX6_fish_8 : decode cX6_fish 8 = .ok (.ifCond .ne 5, 3) := by decide +kernel
theorem dX6_fish_11 : decode cX6_fish 11 = .ok (.iconst (-1), 1) := by decide +kernel
theorem dX6_fish_12 : decode cX6_fish 12 = .ok (.ireturn, 1) := by decide +kernel
theorem dX6_fish_13 : decode cX6_fish 13 = .ok (.iload_n 2, 1) := by decide +kernel
theorem dX6_fish_14 : decode cX6_fish 14 = .ok (.tableswitch 97 0 5 #[38, 48, 58, 68, 78, 88], 38) := by decide +kernel
theorem dX6_fish_52 : decode cX6_fish 52 = .ok (.aload_n 0, 1) := by decide +kernel
theorem dX6_fish_53 : decode cX6_fish 53 = .ok (.getfield 32, 3) := by decide +kernel
theorem dX6_fish_56 : decode cX6_fish 56 = .ok (.getfield 113, 3) := by decide +kernel
theorem dX6_fish_59 : decode cX6_fish 59 = .ok (.iload_n 1, 1) := by decide +kernel
theorem dX6_fish_60 : decode cX6_fish 60 = .ok (.iaload, 1) := by decide +kernel
theorem dX6_fish_61 : decode cX6_fish 61 = .ok (.ireturn, 1) := by decide +kernel
theorem dX6_fish_62 : decode cX6_fish 62 = .ok (.aload_n 0, 1) := by decide +kernel
theorem dX6_fish_63 : decode cX6_fish 63 = .ok (.getfield 23, 3) := by decide +kernel
theorem dX6_fish_66 : decode cX6_fish 66 = .ok (.getfield 116, 3) := by decide +kernel
theorem dX6_fish_69 : decode cX6_fish 69 = .ok (.iload_n 1, 1) := by decide +kernel
theorem dX6_fish_70 : decode cX6_fish 70 = .ok (.iaload, 1) := by decide +kernel
theorem dX6_fish_71 : decode cX6_fish 71 = .ok (.ireturn, 1) := by decide +kernel
theorem dX6_fish_72 : decode cX6_fish 72 = .ok (.aload_n 0, 1) := by decide +kernel
theorem dX6_fish_73 : decode cX6_fish 73 = .ok (.getfield 23, 3) := by decide +kernel
theorem dX6_fish_76 : decode cX6_fish 76 = .ok (.getfield 119, 3) := by decide +kernel
theorem dX6_fish_79 : decode cX6_fish 79 = .ok (.iload_n 1, 1) := by decide +kernel
theorem dX6_fish_80 : decode cX6_fish 80 = .ok (.iaload, 1) := by decide +kernel
theorem dX6_fish_81 : decode cX6_fish 81 = .ok (.ireturn, 1) := by decide +kernel
theorem dX6_fish_82 : decode cX6_fish 82 = .ok (.aload_n 0, 1) := by decide +kernel
theorem dX6_fish_83 : decode cX6_fish 83 = .ok (.getfield 32, 3) := by decide +kernel
theorem dX6_fish_86 : decode cX6_fish 86 = .ok (.getfield 122, 3) := by decide +kernel
theorem dX6_fish_89 : decode cX6_fish 89 = .ok (.iload_n 1, 1) := by decide +kernel
theorem dX6_fish_90 : decode cX6_fish 90 = .ok (.iaload, 1) := by decide +kernel
theorem dX6_fish_91 : decode cX6_fish 91 = .ok (.ireturn, 1) := by decide +kernel
theorem dX6_fish_92 : decode cX6_fish 92 = .ok (.aload_n 0, 1) := by decide +kernel
theorem dX6_fish_93 : decode cX6_fish 93 = .ok (.getfield 32, 3) := by decide +kernel
theorem dX6_fish_96 : decode cX6_fish 96 = .ok (.getfield 125, 3) := by decide +kernel
theorem dX6_fish_99 : decode cX6_fish 99 = .ok (.iload_n 1, 1) := by decide +kernel
theorem dX6_fish_100 : decode cX6_fish 100 = .ok (.iaload, 1) := by decide +kernel
theorem dX6_fish_101 : decode cX6_fish 101 = .ok (.ireturn, 1) := by decide +kernel
theorem dX6_fish_102 : decode cX6_fish 102 = .ok (.aload_n 0, 1) := by decide +kernel
theorem dX6_fish_103 : decode cX6_fish 103 = .ok (.getfield 32, 3) := by decide +kernel
theorem dX6_fish_106 : decode cX6_fish 106 = .ok (.iload_n 1, 1) := by decide +kernel
theorem dX6_fish_107 : decode cX6_fish 107 = .ok (.invokevirtual 128, 3) := by decide +kernel
theorem dX6_fish_110 : decode cX6_fish 110 = .ok (.ireturn, 1) := by decide +kernel
theorem dX6_fish_111 : decode cX6_fish 111 = .ok (.bipush (-2), 2) := by decide +kernel
theorem dX6_fish_113 : decode cX6_fish 113 = .ok (.ireturn, 1) := by decide +kernel
theorem dX6_lip_0 : decode cX6_lip 0 = .ok (.aload_n 0, 1) := by decide +kernel
theorem dX6_lip_1 : decode cX6_lip 1 = .ok (.getfield 23, 3) := by decide +kernel
theorem dX6_lip_4 : decode cX6_lip 4 = .ok (.iload_n 1, 1) := by decide +kernel
theorem dX6_lip_5 : decode cX6_lip 5 = .ok (.invokevirtual 131, 3) := by decide +kernel
theorem dX6_lip_8 : decode cX6_lip 8 = .ok (.ifCond .ne 5, 3) := by decide +kernel
theorem dX6_lip_11 : decode cX6_lip 11 = .ok (.iconst (-1), 1) := by decide +kernel
theorem dX6_lip_12 : decode cX6_lip 12 = .ok (.ireturn, 1) := by decide +kernel
theorem dX6_lip_13 : decode cX6_lip 13 = .ok (.iload_n 2, 1) := by decide +kernel
theorem dX6_lip_14 : decode cX6_lip 14 = .ok (.tableswitch 63 0 2 #[26, 36, 46], 26) := by decide +kernel
theorem dX6_lip_40 : decode cX6_lip 40 = .ok (.aload_n 0, 1) := by decide +kernel
theorem dX6_lip_41 : decode cX6_lip 41 = .ok (.getfield 23, 3) := by decide +kernel
theorem dX6_lip_44 : decode cX6_lip 44 = .ok (.getfield 134, 3) := by decide +kernel
theorem dX6_lip_47 : decode cX6_lip 47 = .ok (.iload_n 1, 1) := by decide +kernel
theorem dX6_lip_48 : decode cX6_lip 48 = .ok (.iaload, 1) := by decide +kernel
theorem dX6_lip_49 : decode cX6_lip 49 = .ok (.ireturn, 1) := by decide +kernel
theorem dX6_lip_50 : decode cX6_lip 50 = .ok (.aload_n 0, 1) := by decide +kernel
theorem dX6_lip_51 : decode cX6_lip 51 = .ok (.getfield 23, 3) := by decide +kernel
theorem dX6_lip_54 : decode cX6_lip 54 = .ok (.getfield 137, 3) := by decide +kernel
theorem dX6_lip_57 : decode cX6_lip 57 = .ok (.iload_n 1, 1) := by decide +kernel
theorem dX6_lip_58 : decode cX6_lip 58 = .ok (.iaload, 1) := by decide +kernel
theorem dX6_lip_59 : decode cX6_lip 59 = .ok (.ireturn, 1) := by decide +kernel
theorem dX6_lip_60 : decode cX6_lip 60 = .ok (.aload_n 0, 1) := by decide +kernel
theorem dX6_lip_61 : decode cX6_lip 61 = .ok (.getfield 32, 3) := by decide +kernel
theorem dX6_lip_64 : decode cX6_lip 64 = .ok (.iload_n 1, 1) := by decide +kernel
theorem dX6_lip_65 : decode cX6_lip 65 = .ok (.invokevirtual 140, 3) := by decide +kernel
theorem dX6_lip_68 : decode cX6_lip 68 = .ok (.ifCond .eq 7, 3) := by decide +kernel
theorem dX6_lip_71 : decode cX6_lip 71 = .ok (.iconst 1, 1) := by decide +kernel
theorem dX6_lip_72 : decode cX6_lip 72 = .ok (.goto 4, 3) := by decide +kernel
theorem dX6_lip_75 : decode cX6_lip 75 = .ok (.iconst 0, 1) := by decide +kernel
theorem dX6_lip_76 : decode cX6_lip 76 = .ok (.ireturn, 1) := by decide +kernel
theorem dX6_lip_77 : decode cX6_lip 77 = .ok (.bipush (-2), 2) := by decide +kernel
theorem dX6_lip_79 : decode cX6_lip 79 = .ok (.ireturn, 1) := by decide +kernel
theorem dX6_hour_0 : decode cX6_hour 0 = .ok (.aload_n 0, 1) := by decide +kernel
theorem dX6_hour_1 : decode cX6_hour 1 = .ok (.getfield 39, 3) := by decide +kernel
theorem dX6_hour_4 : decode cX6_hour 4 = .ok (.aload_n 0, 1) := by decide +kernel
theorem dX6_hour_5 : decode cX6_hour 5 = .ok (.getfield 32, 3) := by decide +kernel
theorem dX6_hour_8 : decode cX6_hour 8 = .ok (.invokevirtual 143, 3) := by decide +kernel
theorem dX6_hour_11 : decode cX6_hour 11 = .ok (.aload_n 0, 1) := by decide +kernel
theorem dX6_hour_12 : decode cX6_hour 12 = .ok (.getfield 32, 3) := by decide +kernel
theorem dX6_hour_15 : decode cX6_hour 15 = .ok (.invokevirtual 147, 3) := by decide +kernel
theorem dX6_hour_18 : decode cX6_hour 18 = .ok (.aload_n 0, 1) := by decide +kernel
theorem dX6_hour_19 : decode cX6_hour 19 = .ok (.getfield 32, 3) := by decide +kernel
theorem dX6_hour_22 : decode cX6_hour 22 = .ok (.invokevirtual 150, 3) := by decide +kernel
theorem dX6_hour_25 : decode cX6_hour 25 = .ok (.invokestatic 154, 3) := by decide +kernel
theorem dX6_hour_28 : decode cX6_hour 28 = .ok (.ireturn, 1) := by decide +kernel
theorem dX6_move_0 : decode cX6_move 0 = .ok (.aload_n 0, 1) := by decide +kernel
theorem dX6_move_1 : decode cX6_move 1 = .ok (.getfield 23, 3) := by decide +kernel
theorem dX6_move_4 : decode cX6_move 4 = .ok (.iload_n 1, 1) := by decide +kernel
theorem dX6_move_5 : decode cX6_move 5 = .ok (.invokevirtual 110, 3) := by decide +kernel
theorem dX6_move_8 : decode cX6_move 8 = .ok (.ifCond .eq 14, 3) := by decide +kernel
theorem dX6_move_11 : decode cX6_move 11 = .ok (.aload_n 0, 1) := by decide +kernel
theorem dX6_move_12 : decode cX6_move 12 = .ok (.getfield 23, 3) := by decide +kernel
theorem dX6_move_15 : decode cX6_move 15 = .ok (.iload_n 2, 1) := by decide +kernel
theorem dX6_move_16 : decode cX6_move 16 = .ok (.invokevirtual 96, 3) := by decide +kernel
theorem dX6_move_19 : decode cX6_move 19 = .ok (.ifCond .ne 5, 3) := by decide +kernel
theorem dX6_move_22 : decode cX6_move 22 = .ok (.iconst (-1), 1) := by decide +kernel
theorem dX6_move_23 : decode cX6_move 23 = .ok (.ireturn, 1) := by decide +kernel
theorem dX6_move_24 : decode cX6_move 24 = .ok (.aload_n 0, 1) := by decide +kernel
theorem dX6_move_25 : decode cX6_move 25 = .ok (.getfield 32, 3) := by decide +kernel
theorem dX6_move_28 : decode cX6_move 28 = .ok (.iload_n 1, 1) := by decide +kernel
theorem dX6_move_29 : decode cX6_move 29 = .ok (.iload_n 2, 1) := by decide +kernel
theorem dX6_move_30 : decode cX6_move 30 = .ok (.invokevirtual 159, 3) := by decide +kernel
theorem dX6_move_33 : decode cX6_move 33 = .ok (.ifCond .ne 6, 3) := by decide +kernel
theorem dX6_move_36 : decode cX6_move 36 = .ok (.bipush (-3), 2) := by decide +kernel
theorem dX6_move_38 : decode cX6_move 38 = .ok (.ireturn, 1) := by decide +kernel
theorem dX6_move_39 : decode cX6_move 39 = .ok (.aload_n 0, 1) := by decide +kernel
theorem dX6_move_40 : decode cX6_move 40 = .ok (.getfield 39, 3) := by decide +kernel
theorem dX6_move_43 : decode cX6_move 43 = .ok (.aload_n 0, 1) := by decide +kernel
theorem dX6_move_44 : decode cX6_move 44 = .ok (.getfield 32, 3) := by decide +kernel
theorem dX6_move_47 : decode cX6_move 47 = .ok (.invokevirtual 143, 3) := by decide +kernel
theorem dX6_move_50 : decode cX6_move 50 = .ok (.aload_n 0, 1) := by decide +kernel
theorem dX6_move_51 : decode cX6_move 51 = .ok (.getfield 32, 3) := by decide +kernel
theorem dX6_move_54 : decode cX6_move 54 = .ok (.getfield 113, 3) := by decide +kernel
theorem dX6_move_57 : decode cX6_move 57 = .ok (.iload_n 1, 1) := by decide +kernel
theorem dX6_move_58 : decode cX6_move 58 = .ok (.iaload, 1) := by decide +kernel
theorem dX6_move_59 : decode cX6_move 59 = .ok (.istore_n 3, 1) := by decide +kernel
theorem dX6_move_60 : decode cX6_move 60 = .ok (.aload_n 0, 1) := by decide +kernel
theorem dX6_move_61 : decode cX6_move 61 = .ok (.getfield 32, 3) := by decide +kernel
theorem dX6_move_64 : decode cX6_move 64 = .ok (.iload_n 1, 1) := by decide +kernel
theorem dX6_move_65 : decode cX6_move 65 = .ok (.iload_n 2, 1) := by decide +kernel
theorem dX6_move_66 : decode cX6_move 66 = .ok (.invokevirtual 163, 3) := by decide +kernel
theorem dX6_move_69 : decode cX6_move 69 = .ok (.iload_n 3, 1) := by decide +kernel
theorem dX6_move_70 : decode cX6_move 70 = .ok (.ireturn, 1) := by decide +kernel
theorem dX6_water_0 : decode cX6_water 0 = .ok (.aload_n 0, 1) := by decide +kernel
theorem dX6_water_1 : decode cX6_water 1 = .ok (.getfield 23, 3) := by decide +kernel
theorem dX6_water_4 : decode cX6_water 4 = .ok (.iload_n 1, 1) := by decide +kernel
theorem dX6_water_5 : decode cX6_water 5 = .ok (.invokevirtual 96, 3) := by decide +kernel
theorem dX6_water_8 : decode cX6_water 8 = .ok (.ifCond .ne 5, 3) := by decide +kernel
theorem dX6_water_11 : decode cX6_water 11 = .ok (.iconst (-1), 1) := by decide +kernel
theorem dX6_water_12 : decode cX6_water 12 = .ok (.ireturn, 1) := by decide +kernel
theorem dX6_water_13 : decode cX6_water 13 = .ok (.aload_n 0, 1) := by decide +kernel
theorem dX6_water_14 : decode cX6_water 14 = .ok (.getfield 39, 3) := by decide +kernel
theorem dX6_water_17 : decode cX6_water 17 = .ok (.aload_n 0, 1) := by decide +kernel
theorem dX6_water_18 : decode cX6_water 18 = .ok (.getfield 32, 3) := by decide +kernel
theorem dX6_water_21 : decode cX6_water 21 = .ok (.invokevirtual 143, 3) := by decide +kernel
theorem dX6_water_24 : decode cX6_water 24 = .ok (.aload_n 0, 1) := by decide +kernel
theorem dX6_water_25 : decode cX6_water 25 = .ok (.getfield 32, 3) := by decide +kernel
theorem dX6_water_28 : decode cX6_water 28 = .ok (.iload_n 1, 1) := by decide +kernel
theorem dX6_water_29 : decode cX6_water 29 = .ok (.invokevirtual 167, 3) := by decide +kernel
theorem dX6_water_32 : decode cX6_water 32 = .ok (.ireturn, 1) := by decide +kernel
theorem dX6_tell_0 : decode cX6_tell 0 = .ok (.aload_n 0, 1) := by decide +kernel
theorem dX6_tell_1 : decode cX6_tell 1 = .ok (.getfield 23, 3) := by decide +kernel
theorem dX6_tell_4 : decode cX6_tell 4 = .ok (.iload_n 1, 1) := by decide +kernel
theorem dX6_tell_5 : decode cX6_tell 5 = .ok (.invokevirtual 110, 3) := by decide +kernel
theorem dX6_tell_8 : decode cX6_tell 8 = .ok (.ifCond .ne 5, 3) := by decide +kernel
theorem dX6_tell_11 : decode cX6_tell 11 = .ok (.iconst (-1), 1) := by decide +kernel
theorem dX6_tell_12 : decode cX6_tell 12 = .ok (.ireturn, 1) := by decide +kernel
theorem dX6_tell_13 : decode cX6_tell 13 = .ok (.iload_n 2, 1) := by decide +kernel
theorem dX6_tell_14 : decode cX6_tell 14 = .ok (.ifCond .lt 9, 3) := by decide +kernel
theorem dX6_tell_17 : decode cX6_tell 17 = .ok (.iload_n 2, 1) := by decide +kernel
theorem dX6_tell_18 : decode cX6_tell 18 = .ok (.bipush 9, 2) := by decide +kernel
theorem dX6_tell_20 : decode cX6_tell 20 = .ok (.if_icmp .le 6, 3) := by decide +kernel
theorem dX6_tell_23 : decode cX6_tell 23 = .ok (.bipush (-2), 2) := by decide +kernel
theorem dX6_tell_25 : decode cX6_tell 25 = .ok (.ireturn, 1) := by decide +kernel
theorem dX6_tell_26 : decode cX6_tell 26 = .ok (.aload_n 0, 1) := by decide +kernel
theorem dX6_tell_27 : decode cX6_tell 27 = .ok (.getfield 39, 3) := by decide +kernel
theorem dX6_tell_30 : decode cX6_tell 30 = .ok (.aload_n 0, 1) := by decide +kernel
theorem dX6_tell_31 : decode cX6_tell 31 = .ok (.getfield 32, 3) := by decide +kernel
theorem dX6_tell_34 : decode cX6_tell 34 = .ok (.invokevirtual 143, 3) := by decide +kernel
theorem dX6_tell_37 : decode cX6_tell 37 = .ok (.aload_n 0, 1) := by decide +kernel
theorem dX6_tell_38 : decode cX6_tell 38 = .ok (.getfield 32, 3) := by decide +kernel
theorem dX6_tell_41 : decode cX6_tell 41 = .ok (.getfield 122, 3) := by decide +kernel
theorem dX6_tell_44 : decode cX6_tell 44 = .ok (.iload_n 1, 1) := by decide +kernel
theorem dX6_tell_45 : decode cX6_tell 45 = .ok (.iaload, 1) := by decide +kernel
theorem dX6_tell_46 : decode cX6_tell 46 = .ok (.istore_n 3, 1) := by decide +kernel
theorem dX6_tell_47 : decode cX6_tell 47 = .ok (.aload_n 0, 1) := by decide +kernel
theorem dX6_tell_48 : decode cX6_tell 48 = .ok (.getfield 32, 3) := by decide +kernel
theorem dX6_tell_51 : decode cX6_tell 51 = .ok (.iload_n 1, 1) := by decide +kernel
theorem dX6_tell_52 : decode cX6_tell 52 = .ok (.iload_n 2, 1) := by decide +kernel
theorem dX6_tell_53 : decode cX6_tell 53 = .ok (.invokevirtual 170, 3) := by decide +kernel
theorem dX6_tell_56 : decode cX6_tell 56 = .ok (.iload_n 3, 1) := by decide +kernel
theorem dX6_tell_57 : decode cX6_tell 57 = .ok (.ireturn, 1) := by decide +kernel
theorem dX6_duty_0 : decode cX6_duty 0 = .ok (.aload_n 0, 1) := by decide +kernel
theorem dX6_duty_1 : decode cX6_duty 1 = .ok (.getfield 23, 3) := by decide +kernel
theorem dX6_duty_4 : decode cX6_duty 4 = .ok (.iload_n 1, 1) := by decide +kernel
theorem dX6_duty_5 : decode cX6_duty 5 = .ok (.invokevirtual 131, 3) := by decide +kernel
theorem dX6_duty_8 : decode cX6_duty 8 = .ok (.ifCond .ne 5, 3) := by decide +kernel
theorem dX6_duty_11 : decode cX6_duty 11 = .ok (.iconst (-1), 1) := by decide +kernel
theorem dX6_duty_12 : decode cX6_duty 12 = .ok (.ireturn, 1) := by decide +kernel
theorem dX6_duty_13 : decode cX6_duty 13 = .ok (.aload_n 0, 1) := by decide +kernel
theorem dX6_duty_14 : decode cX6_duty 14 = .ok (.getfield 39, 3) := by decide +kernel
theorem dX6_duty_17 : decode cX6_duty 17 = .ok (.aload_n 0, 1) := by decide +kernel
theorem dX6_duty_18 : decode cX6_duty 18 = .ok (.getfield 32, 3) := by decide +kernel
theorem dX6_duty_21 : decode cX6_duty 21 = .ok (.invokevirtual 143, 3) := by decide +kernel
theorem dX6_duty_24 : decode cX6_duty 24 = .ok (.aload_n 0, 1) := by decide +kernel
theorem dX6_duty_25 : decode cX6_duty 25 = .ok (.getfield 32, 3) := by decide +kernel
theorem dX6_duty_28 : decode cX6_duty 28 = .ok (.iload_n 1, 1) := by decide +kernel
theorem dX6_duty_29 : decode cX6_duty 29 = .ok (.invokevirtual 173, 3) := by decide +kernel
theorem dX6_duty_32 : decode cX6_duty 32 = .ok (.aload_n 0, 1) := by decide +kernel
theorem dX6_duty_33 : decode cX6_duty 33 = .ok (.getfield 32, 3) := by decide +kernel
theorem dX6_duty_36 : decode cX6_duty 36 = .ok (.iload_n 1, 1) := by decide +kernel
theorem dX6_duty_37 : decode cX6_duty 37 = .ok (.invokevirtual 140, 3) := by decide +kernel
theorem dX6_duty_40 : decode cX6_duty 40 = .ok (.ifCond .eq 7, 3) := by decide +kernel
theorem dX6_duty_43 : decode cX6_duty 43 = .ok (.iconst 1, 1) := by decide +kernel
theorem dX6_duty_44 : decode cX6_duty 44 = .ok (.goto 4, 3) := by decide +kernel
theorem dX6_duty_47 : decode cX6_duty 47 = .ok (.iconst 0, 1) := by decide +kernel
theorem dX6_duty_48 : decode cX6_duty 48 = .ok (.ireturn, 1) := by decide +kernel
theorem dX6_undo_0 : decode cX6_undo 0 = .ok (.aload_n 0, 1) := by decide +kernel
theorem dX6_undo_1 : decode cX6_undo 1 = .ok (.getfield 39, 3) := by decide +kernel
theorem dX6_undo_4 : decode cX6_undo 4 = .ok (.getfield 177, 3) := by decide +kernel
theorem dX6_undo_7 : decode cX6_undo 7 = .ok (.ifCond .ne 6, 3) := by decide +kernel
theorem dX6_undo_10 : decode cX6_undo 10 = .ok (.bipush (-3), 2) := by decide +kernel
theorem dX6_undo_12 : decode cX6_undo 12 = .ok (.ireturn, 1) := by decide +kernel
theorem dX6_undo_13 : decode cX6_undo 13 = .ok (.aload_n 0, 1) := by decide +kernel
theorem dX6_undo_14 : decode cX6_undo 14 = .ok (.getfield 39, 3) := by decide +kernel
theorem dX6_undo_17 : decode cX6_undo 17 = .ok (.aload_n 0, 1) := by decide +kernel
theorem dX6_undo_18 : decode cX6_undo 18 = .ok (.getfield 32, 3) := by decide +kernel
theorem dX6_undo_21 : decode cX6_undo 21 = .ok (.invokevirtual 180, 3) := by decide +kernel
theorem dX6_undo_24 : decode cX6_undo 24 = .ok (.aload_n 0, 1) := by decide +kernel
theorem dX6_undo_25 : decode cX6_undo 25 = .ok (.getfield 39, 3) := by decide +kernel
theorem dX6_undo_28 : decode cX6_undo 28 = .ok (.getfield 177, 3) := by decide +kernel
theorem dX6_undo_31 : decode cX6_undo 31 = .ok (.ireturn, 1) := by decide +kernel
theorem dX6_ahead_0 : decode cX6_ahead 0 = .ok (.aload_n 0, 1) := by decide +kernel
theorem dX6_ahead_1 : decode cX6_ahead 1 = .ok (.getfield 23, 3) := by decide +kernel
theorem dX6_ahead_4 : decode cX6_ahead 4 = .ok (.iload_n 1, 1) := by decide +kernel
theorem dX6_ahead_5 : decode cX6_ahead 5 = .ok (.invokevirtual 110, 3) := by decide +kernel
theorem dX6_ahead_8 : decode cX6_ahead 8 = .ok (.ifCond .ne 5, 3) := by decide +kernel
theorem dX6_ahead_11 : decode cX6_ahead 11 = .ok (.iconst (-1), 1) := by decide +kernel
theorem dX6_ahead_12 : decode cX6_ahead 12 = .ok (.ireturn, 1) := by decide +kernel
theorem dX6_ahead_13 : decode cX6_ahead 13 = .ok (.iload_n 2, 1) := by decide +kernel
theorem dX6_ahead_14 : decode cX6_ahead 14 = .ok (.ifCond .lt 9, 3) := by decide +kernel
theorem dX6_ahead_17 : decode cX6_ahead 17 = .ok (.iload_n 2, 1) := by decide +kernel
theorem dX6_ahead_18 : decode cX6_ahead 18 = .ok (.bipush 20, 2) := by decide +kernel
theorem dX6_ahead_20 : decode cX6_ahead 20 = .ok (.if_icmp .le 6, 3) := by decide +kernel
theorem dX6_ahead_23 : decode cX6_ahead 23 = .ok (.bipush (-2), 2) := by decide +kernel
theorem dX6_ahead_25 : decode cX6_ahead 25 = .ok (.ireturn, 1) := by decide +kernel
theorem dX6_ahead_26 : decode cX6_ahead 26 = .ok (.aload_n 0, 1) := by decide +kernel
theorem dX6_ahead_27 : decode cX6_ahead 27 = .ok (.getfield 55, 3) := by decide +kernel
theorem dX6_ahead_30 : decode cX6_ahead 30 = .ok (.iload_n 1, 1) := by decide +kernel
theorem dX6_ahead_31 : decode cX6_ahead 31 = .ok (.iload_n 2, 1) := by decide +kernel
theorem dX6_ahead_32 : decode cX6_ahead 32 = .ok (.invokevirtual 183, 3) := by decide +kernel
theorem dX6_ahead_35 : decode cX6_ahead 35 = .ok (.ireturn, 1) := by decide +kernel
theorem dX6_lost_0 : decode cX6_lost 0 = .ok (.aload_n 0, 1) := by decide +kernel
theorem dX6_lost_1 : decode cX6_lost 1 = .ok (.getfield 23, 3) := by decide +kernel
theorem dX6_lost_4 : decode cX6_lost 4 = .ok (.iload_n 1, 1) := by decide +kernel
theorem dX6_lost_5 : decode cX6_lost 5 = .ok (.invokevirtual 110, 3) := by decide +kernel
theorem dX6_lost_8 : decode cX6_lost 8 = .ok (.ifCond .eq 14, 3) := by decide +kernel
theorem dX6_lost_11 : decode cX6_lost 11 = .ok (.aload_n 0, 1) := by decide +kernel
theorem dX6_lost_12 : decode cX6_lost 12 = .ok (.getfield 55, 3) := by decide +kernel
theorem dX6_lost_15 : decode cX6_lost 15 = .ok (.iload_n 1, 1) := by decide +kernel
theorem dX6_lost_16 : decode cX6_lost 16 = .ok (.invokevirtual 187, 3) := by decide +kernel
theorem dX6_lost_19 : decode cX6_lost 19 = .ok (.goto 4, 3) := by decide +kernel
theorem dX6_lost_22 : decode cX6_lost 22 = .ok (.iconst (-1), 1) := by decide +kernel
theorem dX6_lost_23 : decode cX6_lost 23 = .ok (.ireturn, 1) := by decide +kernel
theorem dX6_crew_0 : decode cX6_crew 0 = .ok (.aload_n 0, 1) := by decide +kernel
theorem dX6_crew_1 : decode cX6_crew 1 = .ok (.getfield 55, 3) := by decide +kernel
theorem dX6_crew_4 : decode cX6_crew 4 = .ok (.invokevirtual 190, 3) := by decide +kernel
theorem dX6_crew_7 : decode cX6_crew 7 = .ok (.ireturn, 1) := by decide +kernel
theorem dX6_keeps_0 : decode cX6_keeps 0 = .ok (.aload_n 0, 1) := by decide +kernel
theorem dX6_keeps_1 : decode cX6_keeps 1 = .ok (.getfield 23, 3) := by decide +kernel
theorem dX6_keeps_4 : decode cX6_keeps 4 = .ok (.iload_n 1, 1) := by decide +kernel
theorem dX6_keeps_5 : decode cX6_keeps 5 = .ok (.invokevirtual 110, 3) := by decide +kernel
theorem dX6_keeps_8 : decode cX6_keeps 8 = .ok (.ifCond .eq 14, 3) := by decide +kernel
theorem dX6_keeps_11 : decode cX6_keeps 11 = .ok (.aload_n 0, 1) := by decide +kernel
theorem dX6_keeps_12 : decode cX6_keeps 12 = .ok (.getfield 23, 3) := by decide +kernel
theorem dX6_keeps_15 : decode cX6_keeps 15 = .ok (.iload_n 2, 1) := by decide +kernel
theorem dX6_keeps_16 : decode cX6_keeps 16 = .ok (.invokevirtual 96, 3) := by decide +kernel
theorem dX6_keeps_19 : decode cX6_keeps 19 = .ok (.ifCond .ne 5, 3) := by decide +kernel
theorem dX6_keeps_22 : decode cX6_keeps 22 = .ok (.iconst (-1), 1) := by decide +kernel
theorem dX6_keeps_23 : decode cX6_keeps 23 = .ok (.ireturn, 1) := by decide +kernel
theorem dX6_keeps_24 : decode cX6_keeps 24 = .ok (.aload_n 0, 1) := by decide +kernel
theorem dX6_keeps_25 : decode cX6_keeps 25 = .ok (.getfield 55, 3) := by decide +kernel
theorem dX6_keeps_28 : decode cX6_keeps 28 = .ok (.iload_n 1, 1) := by decide +kernel
theorem dX6_keeps_29 : decode cX6_keeps 29 = .ok (.iload_n 2, 1) := by decide +kernel
theorem dX6_keeps_30 : decode cX6_keeps 30 = .ok (.invokevirtual 193, 3) := by decide +kernel
theorem dX6_keeps_33 : decode cX6_keeps 33 = .ok (.ireturn, 1) := by decide +kernel
theorem dX6_best_0 : decode cX6_best 0 = .ok (.aload_n 0, 1) := by decide +kernel
theorem dX6_best_1 : decode cX6_best 1 = .ok (.getfield 23, 3) := by decide +kernel
theorem dX6_best_4 : decode cX6_best 4 = .ok (.iload_n 1, 1) := by decide +kernel
theorem dX6_best_5 : decode cX6_best 5 = .ok (.invokevirtual 110, 3) := by decide +kernel
theorem dX6_best_8 : decode cX6_best 8 = .ok (.ifCond .eq 14, 3) := by decide +kernel
theorem dX6_best_11 : decode cX6_best 11 = .ok (.aload_n 0, 1) := by decide +kernel
theorem dX6_best_12 : decode cX6_best 12 = .ok (.getfield 55, 3) := by decide +kernel
theorem dX6_best_15 : decode cX6_best 15 = .ok (.iload_n 1, 1) := by decide +kernel
theorem dX6_best_16 : decode cX6_best 16 = .ok (.invokevirtual 196, 3) := by decide +kernel
theorem dX6_best_19 : decode cX6_best 19 = .ok (.goto 4, 3) := by decide +kernel
theorem dX6_best_22 : decode cX6_best 22 = .ok (.iconst (-1), 1) := by decide +kernel
theorem dX6_best_23 : decode cX6_best 23 = .ok (.ireturn, 1) := by decide +kernel
theorem dX6_judge_0 : decode cX6_judge 0 = .ok (.iload_n 1, 1) := by decide +kernel
theorem dX6_judge_1 : decode cX6_judge 1 = .ok (.iconst 1, 1) := by decide +kernel
theorem dX6_judge_2 : decode cX6_judge 2 = .ok (.if_icmp .lt 18, 3) := by decide +kernel
theorem dX6_judge_5 : decode cX6_judge 5 = .ok (.iload_n 1, 1) := by decide +kernel
theorem dX6_judge_6 : decode cX6_judge 6 = .ok (.iconst 4, 1) := by decide +kernel
theorem dX6_judge_7 : decode cX6_judge 7 = .ok (.if_icmp .gt 13, 3) := by decide +kernel
theorem dX6_judge_10 : decode cX6_judge 10 = .ok (.lload_n 2, 1) := by decide +kernel
theorem dX6_judge_11 : decode cX6_judge 11 = .ok (.iconst 3, 1) := by decide +kernel
theorem dX6_judge_12 : decode cX6_judge 12 = .ok (.iload_n 1, 1) := by decide +kernel
theorem dX6_judge_13 : decode cX6_judge 13 = .ok (.imul, 1) := by decide +kernel
theorem dX6_judge_14 : decode cX6_judge 14 = .ok (.invokestatic 199, 3) := by decide +kernel
theorem dX6_judge_17 : decode cX6_judge 17 = .ok (.ifCond .ne 6, 3) := by decide +kernel
theorem dX6_judge_20 : decode cX6_judge 20 = .ok (.bipush (-2), 2) := by decide +kernel
theorem dX6_judge_22 : decode cX6_judge 22 = .ok (.ireturn, 1) := by decide +kernel
theorem dX6_judge_23 : decode cX6_judge 23 = .ok (.aload_n 0, 1) := by decide +kernel
theorem dX6_judge_24 : decode cX6_judge 24 = .ok (.getfield 55, 3) := by decide +kernel
theorem dX6_judge_27 : decode cX6_judge 27 = .ok (.iload_n 1, 1) := by decide +kernel
theorem dX6_judge_28 : decode cX6_judge 28 = .ok (.lload_n 2, 1) := by decide +kernel
theorem dX6_judge_29 : decode cX6_judge 29 = .ok (.invokevirtual 203, 3) := by decide +kernel
theorem dX6_judge_32 : decode cX6_judge 32 = .ok (.ireturn, 1) := by decide +kernel
theorem dX6_say_0 : decode cX6_say 0 = .ok (.aload_n 0, 1) := by decide +kernel
theorem dX6_say_1 : decode cX6_say 1 = .ok (.getfield 23, 3) := by decide +kernel
theorem dX6_say_4 : decode cX6_say 4 = .ok (.iload_n 1, 1) := by decide +kernel
theorem dX6_say_5 : decode cX6_say 5 = .ok (.invokevirtual 110, 3) := by decide +kernel
theorem dX6_say_8 : decode cX6_say 8 = .ok (.ifCond .ne 5, 3) := by decide +kernel
theorem dX6_say_11 : decode cX6_say 11 = .ok (.iconst (-1), 1) := by decide +kernel
theorem dX6_say_12 : decode cX6_say 12 = .ok (.ireturn, 1) := by decide +kernel
theorem dX6_say_13 : decode cX6_say 13 = .ok (.iload_n 2, 1) := by decide +kernel
theorem dX6_say_14 : decode cX6_say 14 = .ok (.ifCond .lt 9, 3) := by decide +kernel
theorem dX6_say_17 : decode cX6_say 17 = .ok (.iload_n 2, 1) := by decide +kernel
theorem dX6_say_18 : decode cX6_say 18 = .ok (.bipush 9, 2) := by decide +kernel
theorem dX6_say_20 : decode cX6_say 20 = .ok (.if_icmp .le 6, 3) := by decide +kernel
theorem dX6_say_23 : decode cX6_say 23 = .ok (.bipush (-2), 2) := by decide +kernel
theorem dX6_say_25 : decode cX6_say 25 = .ok (.ireturn, 1) := by decide +kernel
theorem dX6_say_26 : decode cX6_say 26 = .ok (.aload_n 0, 1) := by decide +kernel
theorem dX6_say_27 : decode cX6_say 27 = .ok (.getfield 46, 3) := by decide +kernel
theorem dX6_say_30 : decode cX6_say 30 = .ok (.iload_n 1, 1) := by decide +kernel
theorem dX6_say_31 : decode cX6_say 31 = .ok (.iload_n 2, 1) := by decide +kernel
theorem dX6_say_32 : decode cX6_say 32 = .ok (.invokevirtual 207, 3) := by decide +kernel
theorem dX6_say_35 : decode cX6_say 35 = .ok (.ifCond .eq 13, 3) := by decide +kernel
theorem dX6_say_38 : decode cX6_say 38 = .ok (.aload_n 0, 1) := by decide +kernel
theorem dX6_say_39 : decode cX6_say 39 = .ok (.getfield 46, 3) := by decide +kernel
theorem dX6_say_42 : decode cX6_say 42 = .ok (.getfield 210, 3) := by decide +kernel
theorem dX6_say_45 : decode cX6_say 45 = .ok (.goto 5, 3) := by decide +kernel
theorem dX6_say_48 : decode cX6_say 48 = .ok (.bipush (-4), 2) := by decide +kernel
theorem dX6_say_50 : decode cX6_say 50 = .ok (.ireturn, 1) := by decide +kernel
theorem dX6_unsay_0 : decode cX6_unsay 0 = .ok (.aload_n 0, 1) := by decide +kernel
theorem dX6_unsay_1 : decode cX6_unsay 1 = .ok (.getfield 46, 3) := by decide +kernel
theorem dX6_unsay_4 : decode cX6_unsay 4 = .ok (.getfield 210, 3) := by decide +kernel
theorem dX6_unsay_7 : decode cX6_unsay 7 = .ok (.istore_n 1, 1) := by decide +kernel
theorem dX6_unsay_8 : decode cX6_unsay 8 = .ok (.aload_n 0, 1) := by decide +kernel
theorem dX6_unsay_9 : decode cX6_unsay 9 = .ok (.getfield 46, 3) := by decide +kernel
theorem dX6_unsay_12 : decode cX6_unsay 12 = .ok (.iconst 0, 1) := by decide +kernel
theorem dX6_unsay_13 : decode cX6_unsay 13 = .ok (.putfield 210, 3) := by decide +kernel
theorem dX6_unsay_16 : decode cX6_unsay 16 = .ok (.iload_n 1, 1) := by decide +kernel
theorem dX6_unsay_17 : decode cX6_unsay 17 = .ok (.ireturn, 1) := by decide +kernel
theorem dX6_firsts_0 : decode cX6_firsts 0 = .ok (.aload_n 0, 1) := by decide +kernel
theorem dX6_firsts_1 : decode cX6_firsts 1 = .ok (.getfield 23, 3) := by decide +kernel
theorem dX6_firsts_4 : decode cX6_firsts 4 = .ok (.iload_n 1, 1) := by decide +kernel
theorem dX6_firsts_5 : decode cX6_firsts 5 = .ok (.invokevirtual 110, 3) := by decide +kernel
theorem dX6_firsts_8 : decode cX6_firsts 8 = .ok (.ifCond .eq 18, 3) := by decide +kernel
theorem dX6_firsts_11 : decode cX6_firsts 11 = .ok (.aload_n 0, 1) := by decide +kernel
theorem dX6_firsts_12 : decode cX6_firsts 12 = .ok (.getfield 46, 3) := by decide +kernel
theorem dX6_firsts_15 : decode cX6_firsts 15 = .ok (.iload_n 1, 1) := by decide +kernel
theorem dX6_firsts_16 : decode cX6_firsts 16 = .ok (.aload_n 0, 1) := by decide +kernel
theorem dX6_firsts_17 : decode cX6_firsts 17 = .ok (.getfield 23, 3) := by decide +kernel
theorem dX6_firsts_20 : decode cX6_firsts 20 = .ok (.invokevirtual 211, 3) := by decide +kernel
theorem dX6_firsts_23 : decode cX6_firsts 23 = .ok (.goto 4, 3) := by decide +kernel
theorem dX6_firsts_26 : decode cX6_firsts 26 = .ok (.iconst (-1), 1) := by decide +kernel
theorem dX6_firsts_27 : decode cX6_firsts 27 = .ok (.ireturn, 1) := by decide +kernel
theorem dX6_share_0 : decode cX6_share 0 = .ok (.aload_n 0, 1) := by decide +kernel
theorem dX6_share_1 : decode cX6_share 1 = .ok (.getfield 23, 3) := by decide +kernel
theorem dX6_share_4 : decode cX6_share 4 = .ok (.iload_n 1, 1) := by decide +kernel
theorem dX6_share_5 : decode cX6_share 5 = .ok (.invokevirtual 131, 3) := by decide +kernel
theorem dX6_share_8 : decode cX6_share 8 = .ok (.ifCond .eq 15, 3) := by decide +kernel
theorem dX6_share_11 : decode cX6_share 11 = .ok (.aload_n 0, 1) := by decide +kernel
theorem dX6_share_12 : decode cX6_share 12 = .ok (.getfield 55, 3) := by decide +kernel
theorem dX6_share_15 : decode cX6_share 15 = .ok (.iload_n 1, 1) := by decide +kernel
theorem dX6_share_16 : decode cX6_share 16 = .ok (.iload_n 2, 1) := by decide +kernel
theorem dX6_share_17 : decode cX6_share 17 = .ok (.invokevirtual 215, 3) := by decide +kernel
theorem dX6_share_20 : decode cX6_share 20 = .ok (.goto 4, 3) := by decide +kernel
theorem dX6_share_23 : decode cX6_share 23 = .ok (.iconst (-1), 1) := by decide +kernel
theorem dX6_share_24 : decode cX6_share 24 = .ok (.ireturn, 1) := by decide +kernel
theorem dX6_rests_0 : decode cX6_rests 0 = .ok (.aload_n 0, 1) := by decide +kernel
theorem dX6_rests_1 : decode cX6_rests 1 = .ok (.getfield 23, 3) := by decide +kernel
theorem dX6_rests_4 : decode cX6_rests 4 = .ok (.iload_n 1, 1) := by decide +kernel
theorem dX6_rests_5 : decode cX6_rests 5 = .ok (.invokevirtual 110, 3) := by decide +kernel
theorem dX6_rests_8 : decode cX6_rests 8 = .ok (.ifCond .eq 14, 3) := by decide +kernel
theorem dX6_rests_11 : decode cX6_rests 11 = .ok (.aload_n 0, 1) := by decide +kernel
theorem dX6_rests_12 : decode cX6_rests 12 = .ok (.getfield 23, 3) := by decide +kernel
theorem dX6_rests_15 : decode cX6_rests 15 = .ok (.iload_n 2, 1) := by decide +kernel
theorem dX6_rests_16 : decode cX6_rests 16 = .ok (.invokevirtual 110, 3) := by decide +kernel
theorem dX6_rests_19 : decode cX6_rests 19 = .ok (.ifCond .ne 5, 3) := by decide +kernel
theorem dX6_rests_22 : decode cX6_rests 22 = .ok (.iconst (-1), 1) := by decide +kernel
theorem dX6_rests_23 : decode cX6_rests 23 = .ok (.ireturn, 1) := by decide +kernel
theorem dX6_rests_24 : decode cX6_rests 24 = .ok (.iload_n 1, 1) := by decide +kernel
theorem dX6_rests_25 : decode cX6_rests 25 = .ok (.iload_n 2, 1) := by decide +kernel
theorem dX6_rests_26 : decode cX6_rests 26 = .ok (.if_icmp .eq 12, 3) := by decide +kernel
theorem dX6_rests_29 : decode cX6_rests 29 = .ok (.iload_n 3, 1) := by decide +kernel
theorem dX6_rests_30 : decode cX6_rests 30 = .ok (.ifCond .lt 8, 3) := by decide +kernel
theorem dX6_rests_33 : decode cX6_rests 33 = .ok (.iload_n 3, 1) := by decide +kernel
theorem dX6_rests_34 : decode cX6_rests 34 = .ok (.iconst 1, 1) := by decide +kernel
theorem dX6_rests_35 : decode cX6_rests 35 = .ok (.if_icmp .le 6, 3) := by decide +kernel
theorem dX6_rests_38 : decode cX6_rests 38 = .ok (.bipush (-2), 2) := by decide +kernel
theorem dX6_rests_40 : decode cX6_rests 40 = .ok (.ireturn, 1) := by decide +kernel
theorem dX6_rests_41 : decode cX6_rests 41 = .ok (.aload_n 0, 1) := by decide +kernel
theorem dX6_rests_42 : decode cX6_rests 42 = .ok (.getfield 55, 3) := by decide +kernel
theorem dX6_rests_45 : decode cX6_rests 45 = .ok (.iload_n 1, 1) := by decide +kernel
theorem dX6_rests_46 : decode cX6_rests 46 = .ok (.iload_n 2, 1) := by decide +kernel
theorem dX6_rests_47 : decode cX6_rests 47 = .ok (.invokevirtual 219, 3) := by decide +kernel
theorem dX6_rests_50 : decode cX6_rests 50 = .ok (.iload_n 3, 1) := by decide +kernel
theorem dX6_rests_51 : decode cX6_rests 51 = .ok (.ifCond .ne 13, 3) := by decide +kernel
theorem dX6_rests_54 : decode cX6_rests 54 = .ok (.aload_n 0, 1) := by decide +kernel
theorem dX6_rests_55 : decode cX6_rests 55 = .ok (.getfield 55, 3) := by decide +kernel
theorem dX6_rests_58 : decode cX6_rests 58 = .ok (.invokevirtual 222, 3) := by decide +kernel
theorem dX6_rests_61 : decode cX6_rests 61 = .ok (.goto 10, 3) := by decide +kernel
theorem dX6_rests_64 : decode cX6_rests 64 = .ok (.aload_n 0, 1) := by decide +kernel
theorem dX6_rests_65 : decode cX6_rests 65 = .ok (.getfield 55, 3) := by decide +kernel
theorem dX6_rests_68 : decode cX6_rests 68 = .ok (.invokevirtual 225, 3) := by decide +kernel
theorem dX6_rests_71 : decode cX6_rests 71 = .ok (.ireturn, 1) := by decide +kernel
theorem dX6_ill_0 : decode cX6_ill 0 = .ok (.aload_n 0, 1) := by decide +kernel
theorem dX6_ill_1 : decode cX6_ill 1 = .ok (.getfield 23, 3) := by decide +kernel
theorem dX6_ill_4 : decode cX6_ill 4 = .ok (.iload_n 1, 1) := by decide +kernel
theorem dX6_ill_5 : decode cX6_ill 5 = .ok (.invokevirtual 110, 3) := by decide +kernel
theorem dX6_ill_8 : decode cX6_ill 8 = .ok (.ifCond .ne 5, 3) := by decide +kernel
theorem dX6_ill_11 : decode cX6_ill 11 = .ok (.iconst (-1), 1) := by decide +kernel
theorem dX6_ill_12 : decode cX6_ill 12 = .ok (.ireturn, 1) := by decide +kernel
theorem dX6_ill_13 : decode cX6_ill 13 = .ok (.iload_n 2, 1) := by decide +kernel
theorem dX6_ill_14 : decode cX6_ill 14 = .ok (.ifCond .lt 19, 3) := by decide +kernel
theorem dX6_ill_17 : decode cX6_ill 17 = .ok (.iload_n 2, 1) := by decide +kernel
theorem dX6_ill_18 : decode cX6_ill 18 = .ok (.bipush 20, 2) := by decide +kernel
theorem dX6_ill_20 : decode cX6_ill 20 = .ok (.if_icmp .gt 13, 3) := by decide +kernel
theorem dX6_ill_23 : decode cX6_ill 23 = .ok (.iload_n 3, 1) := by decide +kernel
theorem dX6_ill_24 : decode cX6_ill 24 = .ok (.ifCond .lt 9, 3) := by decide +kernel
theorem dX6_ill_27 : decode cX6_ill 27 = .ok (.iload_n 3, 1) := by decide +kernel
theorem dX6_ill_28 : decode cX6_ill 28 = .ok (.bipush 10, 2) := by decide +kernel
theorem dX6_ill_30 : decode cX6_ill 30 = .ok (.if_icmp .le 6, 3) := by decide +kernel
theorem dX6_ill_33 : decode cX6_ill 33 = .ok (.bipush (-2), 2) := by decide +kernel
theorem dX6_ill_35 : decode cX6_ill 35 = .ok (.ireturn, 1) := by decide +kernel
theorem dX6_ill_36 : decode cX6_ill 36 = .ok (.aload_n 0, 1) := by decide +kernel
theorem dX6_ill_37 : decode cX6_ill 37 = .ok (.getfield 55, 3) := by decide +kernel
theorem dX6_ill_40 : decode cX6_ill 40 = .ok (.iload_n 1, 1) := by decide +kernel
theorem dX6_ill_41 : decode cX6_ill 41 = .ok (.iload_n 2, 1) := by decide +kernel
theorem dX6_ill_42 : decode cX6_ill 42 = .ok (.iload_n 3, 1) := by decide +kernel
theorem dX6_ill_43 : decode cX6_ill 43 = .ok (.iload 4, 2) := by decide +kernel
theorem dX6_ill_45 : decode cX6_ill 45 = .ok (.invokevirtual 228, 3) := by decide +kernel
theorem dX6_ill_48 : decode cX6_ill 48 = .ok (.ireturn, 1) := by decide +kernel
theorem dX6_seed_0 : decode cX6_seed 0 = .ok (.aload_n 0, 1) := by decide +kernel
theorem dX6_seed_1 : decode cX6_seed 1 = .ok (.getfield 232, 3) := by decide +kernel
theorem dX6_seed_4 : decode cX6_seed 4 = .ok (.lstore_n 3, 1) := by decide +kernel
theorem dX6_seed_5 : decode cX6_seed 5 = .ok (.aload_n 0, 1) := by decide +kernel
theorem dX6_seed_6 : decode cX6_seed 6 = .ok (.lload_n 1, 1) := by decide +kernel
theorem dX6_seed_7 : decode cX6_seed 7 = .ok (.putfield 232, 3) := by decide +kernel
theorem dX6_seed_10 : decode cX6_seed 10 = .ok (.lload_n 3, 1) := by decide +kernel
theorem dX6_seed_11 : decode cX6_seed 11 = .ok (.lreturn, 1) := by decide +kernel
theorem dX6_decades_0 : decode cX6_decades 0 = .ok (.iload_n 1, 1) := by decide +kernel
theorem dX6_decades_1 : decode cX6_decades 1 = .ok (.iconst 1, 1) := by decide +kernel
theorem dX6_decades_2 : decode cX6_decades 2 = .ok (.if_icmp .lt 9, 3) := by decide +kernel
theorem dX6_decades_5 : decode cX6_decades 5 = .ok (.iload_n 1, 1) := by decide +kernel
theorem dX6_decades_6 : decode cX6_decades 6 = .ok (.bipush 30, 2) := by decide +kernel
theorem dX6_decades_8 : decode cX6_decades 8 = .ok (.if_icmp .le 6, 3) := by decide +kernel
theorem dX6_decades_11 : decode cX6_decades 11 = .ok (.bipush (-2), 2) := by decide +kernel
theorem dX6_decades_13 : decode cX6_decades 13 = .ok (.ireturn, 1) := by decide +kernel
theorem dX6_decades_14 : decode cX6_decades 14 = .ok (.aload_n 0, 1) := by decide +kernel
theorem dX6_decades_15 : decode cX6_decades 15 = .ok (.getfield 55, 3) := by decide +kernel
theorem dX6_decades_18 : decode cX6_decades 18 = .ok (.invokevirtual 236, 3) := by decide +kernel
theorem dX6_decades_21 : decode cX6_decades 21 = .ok (.iconst 0, 1) := by decide +kernel
theorem dX6_decades_22 : decode cX6_decades 22 = .ok (.istore_n 2, 1) := by decide +kernel
theorem dX6_decades_23 : decode cX6_decades 23 = .ok (.iconst 0, 1) := by decide +kernel
theorem dX6_decades_24 : decode cX6_decades 24 = .ok (.istore_n 3, 1) := by decide +kernel
theorem dX6_decades_25 : decode cX6_decades 25 = .ok (.iload_n 3, 1) := by decide +kernel
theorem dX6_decades_26 : decode cX6_decades 26 = .ok (.iload_n 1, 1) := by decide +kernel
theorem dX6_decades_27 : decode cX6_decades 27 = .ok (.if_icmp .ge 47, 3) := by decide +kernel
theorem dX6_decades_30 : decode cX6_decades 30 = .ok (.aload_n 0, 1) := by decide +kernel
theorem dX6_decades_31 : decode cX6_decades 31 = .ok (.aload_n 0, 1) := by decide +kernel
theorem dX6_decades_32 : decode cX6_decades 32 = .ok (.getfield 232, 3) := by decide +kernel
theorem dX6_decades_35 : decode cX6_decades 35 = .ok (.ldc2_w 239, 3) := by decide +kernel
theorem dX6_decades_38 : decode cX6_decades 38 = .ok (.lmul, 1) := by decide +kernel
theorem dX6_decades_39 : decode cX6_decades 39 = .ok (.ldc2_w 241, 3) := by decide +kernel
theorem dX6_decades_42 : decode cX6_decades 42 = .ok (.ladd, 1) := by decide +kernel
theorem dX6_decades_43 : decode cX6_decades 43 = .ok (.putfield 232, 3) := by decide +kernel
theorem dX6_decades_46 : decode cX6_decades 46 = .ok (.iload_n 2, 1) := by decide +kernel
theorem dX6_decades_47 : decode cX6_decades 47 = .ok (.aload_n 0, 1) := by decide +kernel
theorem dX6_decades_48 : decode cX6_decades 48 = .ok (.getfield 55, 3) := by decide +kernel
theorem dX6_decades_51 : decode cX6_decades 51 = .ok (.aload_n 0, 1) := by decide +kernel
theorem dX6_decades_52 : decode cX6_decades 52 = .ok (.getfield 232, 3) := by decide +kernel
theorem dX6_decades_55 : decode cX6_decades 55 = .ok (.bipush 33, 2) := by decide +kernel
theorem dX6_decades_57 : decode cX6_decades 57 = .ok (.lushr, 1) := by decide +kernel
theorem dX6_decades_58 : decode cX6_decades 58 = .ok (.ldc2_w 243, 3) := by decide +kernel
theorem dX6_decades_61 : decode cX6_decades 61 = .ok (.lrem, 1) := by decide +kernel
theorem dX6_decades_62 : decode cX6_decades 62 = .ok (.l2i, 1) := by decide +kernel
theorem dX6_decades_63 : decode cX6_decades 63 = .ok (.invokevirtual 245, 3) := by decide +kernel
theorem dX6_decades_66 : decode cX6_decades 66 = .ok (.iadd, 1) := by decide +kernel
theorem dX6_decades_67 : decode cX6_decades 67 = .ok (.istore_n 2, 1) := by decide +kernel
theorem dX6_decades_68 : decode cX6_decades 68 = .ok (.iinc 3 1, 3) := by decide +kernel
theorem dX6_decades_71 : decode cX6_decades 71 = .ok (.goto (-46), 3) := by decide +kernel
theorem dX6_decades_74 : decode cX6_decades 74 = .ok (.iload_n 2, 1) := by decide +kernel
theorem dX6_decades_75 : decode cX6_decades 75 = .ok (.ireturn, 1) := by decide +kernel
theorem dX6_keep_0 : decode cX6_keep 0 = .ok (.iload_n 1, 1) := by decide +kernel
theorem dX6_keep_1 : decode cX6_keep 1 = .ok (.ifCond .lt 8, 3) := by decide +kernel
theorem dX6_keep_4 : decode cX6_keep 4 = .ok (.iload_n 1, 1) := by decide +kernel
theorem dX6_keep_5 : decode cX6_keep 5 = .ok (.iconst 2, 1) := by decide +kernel
theorem dX6_keep_6 : decode cX6_keep 6 = .ok (.if_icmp .lt 5, 3) := by decide +kernel
theorem dX6_keep_9 : decode cX6_keep 9 = .ok (.iconst (-1), 1) := by decide +kernel
theorem dX6_keep_10 : decode cX6_keep 10 = .ok (.ireturn, 1) := by decide +kernel
theorem dX6_keep_11 : decode cX6_keep 11 = .ok (.aload_n 0, 1) := by decide +kernel
theorem dX6_keep_12 : decode cX6_keep 12 = .ok (.getfield 59, 3) := by decide +kernel
theorem dX6_keep_15 : decode cX6_keep 15 = .ok (.iload_n 1, 1) := by decide +kernel
theorem dX6_keep_16 : decode cX6_keep 16 = .ok (.aaload, 1) := by decide +kernel
theorem dX6_keep_17 : decode cX6_keep 17 = .ok (.aload_n 0, 1) := by decide +kernel
theorem dX6_keep_18 : decode cX6_keep 18 = .ok (.getfield 32, 3) := by decide +kernel
theorem dX6_keep_21 : decode cX6_keep 21 = .ok (.invokevirtual 248, 3) := by decide +kernel
theorem dX6_keep_24 : decode cX6_keep 24 = .ok (.aload_n 0, 1) := by decide +kernel
theorem dX6_keep_25 : decode cX6_keep 25 = .ok (.getfield 63, 3) := by decide +kernel
theorem dX6_keep_28 : decode cX6_keep 28 = .ok (.iload_n 1, 1) := by decide +kernel
theorem dX6_keep_29 : decode cX6_keep 29 = .ok (.iconst 1, 1) := by decide +kernel
theorem dX6_keep_30 : decode cX6_keep 30 = .ok (.bastore, 1) := by decide +kernel
theorem dX6_keep_31 : decode cX6_keep 31 = .ok (.aload_n 0, 1) := by decide +kernel
theorem dX6_keep_32 : decode cX6_keep 32 = .ok (.getfield 32, 3) := by decide +kernel
theorem dX6_keep_35 : decode cX6_keep 35 = .ok (.getfield 250, 3) := by decide +kernel
theorem dX6_keep_38 : decode cX6_keep 38 = .ok (.ireturn, 1) := by decide +kernel
theorem dX6_again_0 : decode cX6_again 0 = .ok (.iload_n 1, 1) := by decide +kernel
theorem dX6_again_1 : decode cX6_again 1 = .ok (.ifCond .lt 8, 3) := by decide +kernel
theorem dX6_again_4 : decode cX6_again 4 = .ok (.iload_n 1, 1) := by decide +kernel
theorem dX6_again_5 : decode cX6_again 5 = .ok (.iconst 2, 1) := by decide +kernel
theorem dX6_again_6 : decode cX6_again 6 = .ok (.if_icmp .lt 5, 3) := by decide +kernel
theorem dX6_again_9 : decode cX6_again 9 = .ok (.iconst (-1), 1) := by decide +kernel
theorem dX6_again_10 : decode cX6_again 10 = .ok (.ireturn, 1) := by decide +kernel
theorem dX6_again_11 : decode cX6_again 11 = .ok (.aload_n 0, 1) := by decide +kernel
theorem dX6_again_12 : decode cX6_again 12 = .ok (.getfield 63, 3) := by decide +kernel
theorem dX6_again_15 : decode cX6_again 15 = .ok (.iload_n 1, 1) := by decide +kernel
theorem dX6_again_16 : decode cX6_again 16 = .ok (.baload, 1) := by decide +kernel
theorem dX6_again_17 : decode cX6_again 17 = .ok (.ifCond .ne 6, 3) := by decide +kernel
theorem dX6_again_20 : decode cX6_again 20 = .ok (.bipush (-3), 2) := by decide +kernel
theorem dX6_again_22 : decode cX6_again 22 = .ok (.ireturn, 1) := by decide +kernel
theorem dX6_again_23 : decode cX6_again 23 = .ok (.aload_n 0, 1) := by decide +kernel
theorem dX6_again_24 : decode cX6_again 24 = .ok (.getfield 32, 3) := by decide +kernel
theorem dX6_again_27 : decode cX6_again 27 = .ok (.aload_n 0, 1) := by decide +kernel
theorem dX6_again_28 : decode cX6_again 28 = .ok (.getfield 59, 3) := by decide +kernel
theorem dX6_again_31 : decode cX6_again 31 = .ok (.iload_n 1, 1) := by decide +kernel
theorem dX6_again_32 : decode cX6_again 32 = .ok (.aaload, 1) := by decide +kernel
theorem dX6_again_33 : decode cX6_again 33 = .ok (.invokevirtual 248, 3) := by decide +kernel
theorem dX6_again_36 : decode cX6_again 36 = .ok (.aload_n 0, 1) := by decide +kernel
theorem dX6_again_37 : decode cX6_again 37 = .ok (.getfield 39, 3) := by decide +kernel
theorem dX6_again_40 : decode cX6_again 40 = .ok (.invokevirtual 84, 3) := by decide +kernel
theorem dX6_again_43 : decode cX6_again 43 = .ok (.aload_n 0, 1) := by decide +kernel
theorem dX6_again_44 : decode cX6_again 44 = .ok (.getfield 32, 3) := by decide +kernel
theorem dX6_again_47 : decode cX6_again 47 = .ok (.getfield 250, 3) := by decide +kernel
theorem dX6_again_50 : decode cX6_again 50 = .ok (.ireturn, 1) := by decide +kernel
theorem dX6_count_0 : decode cX6_count 0 = .ok (.iload_n 1, 1) := by decide +kernel
theorem dX6_count_1 : decode cX6_count 1 = .ok (.tableswitch 132 0 9 #[55, 60, 68, 76, 84, 92, 100, 108, 116, 124], 55) := by decide +kernel
theorem dX6_count_56 : decode cX6_count 56 = .ok (.aload_n 0, 1) := by decide +kernel
theorem dX6_count_57 : decode cX6_count 57 = .ok (.getfield 67, 3) := by decide +kernel
theorem dX6_count_60 : decode cX6_count 60 = .ok (.ireturn, 1) := by decide +kernel
theorem dX6_count_61 : decode cX6_count 61 = .ok (.aload_n 0, 1) := by decide +kernel
theorem dX6_count_62 : decode cX6_count 62 = .ok (.getfield 23, 3) := by decide +kernel
theorem dX6_count_65 : decode cX6_count 65 = .ok (.getfield 87, 3) := by decide +kernel
theorem dX6_count_68 : decode cX6_count 68 = .ok (.ireturn, 1) := by decide +kernel
theorem dX6_count_69 : decode cX6_count 69 = .ok (.aload_n 0, 1) := by decide +kernel
theorem dX6_count_70 : decode cX6_count 70 = .ok (.getfield 23, 3) := by decide +kernel
theorem dX6_count_73 : decode cX6_count 73 = .ok (.getfield 90, 3) := by decide +kernel
theorem dX6_count_76 : decode cX6_count 76 = .ok (.ireturn, 1) := by decide +kernel
theorem dX6_count_77 : decode cX6_count 77 = .ok (.aload_n 0, 1) := by decide +kernel
theorem dX6_count_78 : decode cX6_count 78 = .ok (.getfield 23, 3) := by decide +kernel
theorem dX6_count_81 : decode cX6_count 81 = .ok (.getfield 93, 3) := by decide +kernel
theorem dX6_count_84 : decode cX6_count 84 = .ok (.ireturn, 1) := by decide +kernel
theorem dX6_count_85 : decode cX6_count 85 = .ok (.aload_n 0, 1) := by decide +kernel
theorem dX6_count_86 : decode cX6_count 86 = .ok (.getfield 32, 3) := by decide +kernel
theorem dX6_count_89 : decode cX6_count 89 = .ok (.getfield 250, 3) := by decide +kernel
theorem dX6_count_92 : decode cX6_count 92 = .ok (.ireturn, 1) := by decide +kernel
theorem dX6_count_93 : decode cX6_count 93 = .ok (.aload_n 0, 1) := by decide +kernel
theorem dX6_count_94 : decode cX6_count 94 = .ok (.getfield 32, 3) := by decide +kernel
theorem dX6_count_97 : decode cX6_count 97 = .ok (.invokevirtual 150, 3) := by decide +kernel
theorem dX6_count_100 : decode cX6_count 100 = .ok (.ireturn, 1) := by decide +kernel
theorem dX6_count_101 : decode cX6_count 101 = .ok (.aload_n 0, 1) := by decide +kernel
theorem dX6_count_102 : decode cX6_count 102 = .ok (.getfield 32, 3) := by decide +kernel
theorem dX6_count_105 : decode cX6_count 105 = .ok (.invokevirtual 253, 3) := by decide +kernel
theorem dX6_count_108 : decode cX6_count 108 = .ok (.ireturn, 1) := by decide +kernel
theorem dX6_count_109 : decode cX6_count 109 = .ok (.aload_n 0, 1) := by decide +kernel
theorem dX6_count_110 : decode cX6_count 110 = .ok (.getfield 32, 3) := by decide +kernel
theorem dX6_count_113 : decode cX6_count 113 = .ok (.getfield 256, 3) := by decide +kernel
theorem dX6_count_116 : decode cX6_count 116 = .ok (.ireturn, 1) := by decide +kernel
theorem dX6_count_117 : decode cX6_count 117 = .ok (.aload_n 0, 1) := by decide +kernel
theorem dX6_count_118 : decode cX6_count 118 = .ok (.getfield 39, 3) := by decide +kernel
theorem dX6_count_121 : decode cX6_count 121 = .ok (.getfield 177, 3) := by decide +kernel
theorem dX6_count_124 : decode cX6_count 124 = .ok (.ireturn, 1) := by decide +kernel
theorem dX6_count_125 : decode cX6_count 125 = .ok (.aload_n 0, 1) := by decide +kernel
theorem dX6_count_126 : decode cX6_count 126 = .ok (.getfield 46, 3) := by decide +kernel
theorem dX6_count_129 : decode cX6_count 129 = .ok (.getfield 210, 3) := by decide +kernel
theorem dX6_count_132 : decode cX6_count 132 = .ok (.ireturn, 1) := by decide +kernel
theorem dX6_count_133 : decode cX6_count 133 = .ok (.bipush (-2), 2) := by decide +kernel
theorem dX6_count_135 : decode cX6_count 135 = .ok (.ireturn, 1) := by decide +kernel
theorem dX6_hasFiguresAtMost_0 : decode cX6_hasFiguresAtMost 0 = .ok (.lload_n 0, 1) := by decide +kernel
theorem dX6_hasFiguresAtMost_1 : decode cX6_hasFiguresAtMost 1 = .ok (.lstore_n 3, 1) := by decide +kernel
theorem dX6_hasFiguresAtMost_2 : decode cX6_hasFiguresAtMost 2 = .ok (.iconst 0, 1) := by decide +kernel
theorem dX6_hasFiguresAtMost_3 : decode cX6_hasFiguresAtMost 3 = .ok (.istore 5, 2) := by decide +kernel
theorem dX6_hasFiguresAtMost_5 : decode cX6_hasFiguresAtMost 5 = .ok (.iload 5, 2) := by decide +kernel
theorem dX6_hasFiguresAtMost_7 : decode cX6_hasFiguresAtMost 7 = .ok (.iload_n 2, 1) := by decide +kernel
theorem dX6_hasFiguresAtMost_8 : decode cX6_hasFiguresAtMost 8 = .ok (.if_icmp .ge 15, 3) := by decide +kernel
theorem dX6_hasFiguresAtMost_11 : decode cX6_hasFiguresAtMost 11 = .ok (.lload_n 3, 1) := by decide +kernel
theorem dX6_hasFiguresAtMost_12 : decode cX6_hasFiguresAtMost 12 = .ok (.ldc2_w 259, 3) := by decide +kernel
theorem dX6_hasFiguresAtMost_15 : decode cX6_hasFiguresAtMost 15 = .ok (.ldiv, 1) := by decide +kernel
theorem dX6_hasFiguresAtMost_16 : decode cX6_hasFiguresAtMost 16 = .ok (.lstore_n 3, 1) := by decide +kernel
theorem dX6_hasFiguresAtMost_17 : decode cX6_hasFiguresAtMost 17 = .ok (.iinc 5 1, 3) := by decide +kernel
theorem dX6_hasFiguresAtMost_20 : decode cX6_hasFiguresAtMost 20 = .ok (.goto (-15), 3) := by decide +kernel
theorem dX6_hasFiguresAtMost_23 : decode cX6_hasFiguresAtMost 23 = .ok (.lload_n 0, 1) := by decide +kernel
theorem dX6_hasFiguresAtMost_24 : decode cX6_hasFiguresAtMost 24 = .ok (.lconst 0, 1) := by decide +kernel
theorem dX6_hasFiguresAtMost_25 : decode cX6_hasFiguresAtMost 25 = .ok (.lcmp, 1) := by decide +kernel
theorem dX6_hasFiguresAtMost_26 : decode cX6_hasFiguresAtMost 26 = .ok (.ifCond .lt 13, 3) := by decide +kernel
theorem dX6_hasFiguresAtMost_29 : decode cX6_hasFiguresAtMost 29 = .ok (.lload_n 3, 1) := by decide +kernel
theorem dX6_hasFiguresAtMost_30 : decode cX6_hasFiguresAtMost 30 = .ok (.lconst 0, 1) := by decide +kernel
theorem dX6_hasFiguresAtMost_31 : decode cX6_hasFiguresAtMost 31 = .ok (.lcmp, 1) := by decide +kernel
theorem dX6_hasFiguresAtMost_32 : decode cX6_hasFiguresAtMost 32 = .ok (.ifCond .ne 7, 3) := by decide +kernel
theorem dX6_hasFiguresAtMost_35 : decode cX6_hasFiguresAtMost 35 = .ok (.iconst 1, 1) := by decide +kernel
theorem dX6_hasFiguresAtMost_36 : decode cX6_hasFiguresAtMost 36 = .ok (.goto 4, 3) := by decide +kernel
theorem dX6_hasFiguresAtMost_39 : decode cX6_hasFiguresAtMost 39 = .ok (.iconst 0, 1) := by decide +kernel
theorem dX6_hasFiguresAtMost_40 : decode cX6_hasFiguresAtMost 40 = .ok (.ireturn, 1) := by decide +kernel
theorem dX7_init_0 : decode cX7_init 0 = .ok (.aload_n 0, 1) := by decide +kernel
theorem dX7_init_1 : decode cX7_init 1 = .ok (.invokespecial 1, 3) := by decide +kernel
theorem dX7_init_4 : decode cX7_init 4 = .ok (.aload_n 0, 1) := by decide +kernel
theorem dX7_init_5 : decode cX7_init 5 = .ok (.iconst 5, 1) := by decide +kernel
theorem dX7_init_6 : decode cX7_init 6 = .ok (.newarray .int, 2) := by decide +kernel
theorem dX7_init_8 : decode cX7_init 8 = .ok (.putfield 7, 3) := by decide +kernel
theorem dX7_init_11 : decode cX7_init 11 = .ok (.aload_n 0, 1) := by decide +kernel
theorem dX7_init_12 : decode cX7_init 12 = .ok (.iconst 5, 1) := by decide +kernel
theorem dX7_init_13 : decode cX7_init 13 = .ok (.newarray .int, 2) := by decide +kernel
theorem dX7_init_15 : decode cX7_init 15 = .ok (.putfield 13, 3) := by decide +kernel
theorem dX7_init_18 : decode cX7_init 18 = .ok (.aload_n 0, 1) := by decide +kernel
theorem dX7_init_19 : decode cX7_init 19 = .ok (.iconst 5, 1) := by decide +kernel
theorem dX7_init_20 : decode cX7_init 20 = .ok (.newarray .int, 2) := by decide +kernel
theorem dX7_init_22 : decode cX7_init 22 = .ok (.putfield 16, 3) := by decide +kernel
theorem dX7_init_25 : decode cX7_init 25 = .ok (.aload_n 0, 1) := by decide +kernel
theorem dX7_init_26 : decode cX7_init 26 = .ok (.iconst 4, 1) := by decide +kernel
theorem dX7_init_27 : decode cX7_init 27 = .ok (.newarray .int, 2) := by decide +kernel
theorem dX7_init_29 : decode cX7_init 29 = .ok (.putfield 19, 3) := by decide +kernel
theorem dX7_init_32 : decode cX7_init 32 = .ok (.aload_n 0, 1) := by decide +kernel
theorem dX7_init_33 : decode cX7_init 33 = .ok (.iconst 4, 1) := by decide +kernel
theorem dX7_init_34 : decode cX7_init 34 = .ok (.newarray .int, 2) := by decide +kernel
theorem dX7_init_36 : decode cX7_init 36 = .ok (.putfield 22, 3) := by decide +kernel
theorem dX7_init_39 : decode cX7_init 39 = .ok (.aload_n 0, 1) := by decide +kernel
theorem dX7_init_40 : decode cX7_init 40 = .ok (.bipush 34, 2) := by decide +kernel
theorem dX7_init_42 : decode cX7_init 42 = .ok (.newarray .int, 2) := by decide +kernel
theorem dX7_init_44 : decode cX7_init 44 = .ok (.putfield 25, 3) := by decide +kernel
theorem dX7_init_47 : decode cX7_init 47 = .ok (.aload_n 0, 1) := by decide +kernel
theorem dX7_init_48 : decode cX7_init 48 = .ok (.iconst 5, 1) := by decide +kernel
theorem dX7_init_49 : decode cX7_init 49 = .ok (.newarray .int, 2) := by decide +kernel
theorem dX7_init_51 : decode cX7_init 51 = .ok (.putfield 28, 3) := by decide +kernel
theorem dX7_init_54 : decode cX7_init 54 = .ok (.aload_n 0, 1) := by decide +kernel
theorem dX7_init_55 : decode cX7_init 55 = .ok (.bipush 15, 2) := by decide +kernel
theorem dX7_init_57 : decode cX7_init 57 = .ok (.newarray .int, 2) := by decide +kernel
theorem dX7_init_59 : decode cX7_init 59 = .ok (.putfield 31, 3) := by decide +kernel
theorem dX7_init_62 : decode cX7_init 62 = .ok (.aload_n 0, 1) := by decide +kernel
theorem dX7_init_63 : decode cX7_init 63 = .ok (.bipush 8, 2) := by decide +kernel
theorem dX7_init_65 : decode cX7_init 65 = .ok (.newarray .int, 2) := by decide +kernel
theorem dX7_init_67 : decode cX7_init 67 = .ok (.putfield 34, 3) := by decide +kernel
theorem dX7_init_70 : decode cX7_init 70 = .ok (.aload_n 0, 1) := by decide +kernel
theorem dX7_init_71 : decode cX7_init 71 = .ok (.iconst 5, 1) := by decide +kernel
theorem dX7_init_72 : decode cX7_init 72 = .ok (.newarray .int, 2) := by decide +kernel
theorem dX7_init_74 : decode cX7_init 74 = .ok (.putfield 37, 3) := by decide +kernel
theorem dX7_init_77 : decode cX7_init 77 = .ok (.aload_n 0, 1) := by decide +kernel
theorem dX7_init_78 : decode cX7_init 78 = .ok (.bipush 48, 2) := by decide +kernel
theorem dX7_init_80 : decode cX7_init 80 = .ok (.newarray .int, 2) := by decide +kernel
theorem dX7_init_82 : decode cX7_init 82 = .ok (.putfield 40, 3) := by decide +kernel
theorem dX7_init_85 : decode cX7_init 85 = .ok (.aload_n 0, 1) := by decide +kernel
theorem dX7_init_86 : decode cX7_init 86 = .ok (.sipush 238, 3) := by decide +kernel
theorem dX7_init_89 : decode cX7_init 89 = .ok (.newarray .int, 2) := by decide +kernel
theorem dX7_init_91 : decode cX7_init 91 = .ok (.putfield 43, 3) := by decide +kernel
theorem dX7_init_94 : decode cX7_init 94 = .ok (.aload_n 0, 1) := by decide +kernel
theorem dX7_init_95 : decode cX7_init 95 = .ok (.iconst 2, 1) := by decide +kernel
theorem dX7_init_96 : decode cX7_init 96 = .ok (.newarray .int, 2) := by decide +kernel
theorem dX7_init_98 : decode cX7_init 98 = .ok (.putfield 46, 3) := by decide +kernel
theorem dX7_init_101 : decode cX7_init 101 = .ok (.aload_n 0, 1) := by decide +kernel
theorem dX7_init_102 : decode cX7_init 102 = .ok (.bipush 6, 2) := by decide +kernel
theorem dX7_init_104 : decode cX7_init 104 = .ok (.newarray .int, 2) := by decide +kernel
theorem dX7_init_106 : decode cX7_init 106 = .ok (.putfield 49, 3) := by decide +kernel
theorem dX7_init_109 : decode cX7_init 109 = .ok (.aload_n 0, 1) := by decide +kernel
theorem dX7_init_110 : decode cX7_init 110 = .ok (.bipush 6, 2) := by decide +kernel
theorem dX7_init_112 : decode cX7_init 112 = .ok (.newarray .int, 2) := by decide +kernel
theorem dX7_init_114 : decode cX7_init 114 = .ok (.putfield 52, 3) := by decide +kernel
theorem dX7_init_117 : decode cX7_init 117 = .ok (.aload_n 0, 1) := by decide +kernel
theorem dX7_init_118 : decode cX7_init 118 = .ok (.iconst 2, 1) := by decide +kernel
theorem dX7_init_119 : decode cX7_init 119 = .ok (.newarray .boolean, 2) := by decide +kernel
theorem dX7_init_121 : decode cX7_init 121 = .ok (.putfield 55, 3) := by decide +kernel
theorem dX7_init_124 : decode cX7_init 124 = .ok (.aload_n 0, 1) := by decide +kernel
theorem dX7_init_125 : decode cX7_init 125 = .ok (.bipush 34, 2) := by decide +kernel
theorem dX7_init_127 : decode cX7_init 127 = .ok (.newarray .int, 2) := by decide +kernel
theorem dX7_init_129 : decode cX7_init 129 = .ok (.putfield 59, 3) := by decide +kernel
theorem dX7_init_132 : decode cX7_init 132 = .ok (.return_, 1) := by decide +kernel
theorem dX7_in_0 : decode cX7_in 0 = .ok (.lload_n 0, 1) := by decide +kernel
theorem dX7_in_1 : decode cX7_in 1 = .ok (.lload_n 2, 1) := by decide +kernel
theorem dX7_in_2 : decode cX7_in 2 = .ok (.lcmp, 1) := by decide +kernel
theorem dX7_in_3 : decode cX7_in 3 = .ok (.ifCond .lt 14, 3) := by decide +kernel
theorem dX7_in_6 : decode cX7_in 6 = .ok (.lload_n 0, 1) := by decide +kernel
theorem dX7_in_7 : decode cX7_in 7 = .ok (.lload 4, 2) := by decide +kernel
theorem dX7_in_9 : decode cX7_in 9 = .ok (.lcmp, 1) := by decide +kernel
theorem dX7_in_10 : decode cX7_in 10 = .ok (.ifCond .gt 7, 3) := by decide +kernel
theorem dX7_in_13 : decode cX7_in 13 = .ok (.iconst 1, 1) := by decide +kernel
theorem dX7_in_14 : decode cX7_in 14 = .ok (.goto 4, 3) := by decide +kernel
theorem dX7_in_17 : decode cX7_in 17 = .ok (.iconst 0, 1) := by decide +kernel
theorem dX7_in_18 : decode cX7_in 18 = .ok (.ireturn, 1) := by decide +kernel
theorem dX7_has_0 : decode cX7_has 0 = .ok (.iload_n 0, 1) := by decide +kernel
theorem dX7_has_1 : decode cX7_has 1 = .ok (.iload_n 1, 1) := by decide +kernel
theorem dX7_has_2 : decode cX7_has 2 = .ok (.ishr, 1) := by decide +kernel
theorem dX7_has_3 : decode cX7_has 3 = .ok (.iconst 1, 1) := by decide +kernel
theorem dX7_has_4 : decode cX7_has 4 = .ok (.iand, 1) := by decide +kernel
theorem dX7_has_5 : decode cX7_has 5 = .ok (.iconst 1, 1) := by decide +kernel
theorem dX7_has_6 : decode cX7_has 6 = .ok (.if_icmp .ne 7, 3) := by decide +kernel
theorem dX7_has_9 : decode cX7_has 9 = .ok (.iconst 1, 1) := by decide +kernel
theorem dX7_has_10 : decode cX7_has 10 = .ok (.goto 4, 3) := by decide +kernel
theorem dX7_has_13 : decode cX7_has 13 = .ok (.iconst 0, 1) := by decide +kernel
theorem dX7_has_14 : decode cX7_has 14 = .ok (.ireturn, 1) := by decide +kernel
theorem dX7_ones_0 : decode cX7_ones 0 = .ok (.iconst 0, 1) := by decide +kernel
theorem dX7_ones_1 : decode cX7_ones 1 = .ok (.istore_n 1, 1) := by decide +kernel
theorem dX7_ones_2 : decode cX7_ones 2 = .ok (.iconst 0, 1) := by decide +kernel
theorem dX7_ones_3 : decode cX7_ones 3 = .ok (.istore_n 2, 1) := by decide +kernel
theorem dX7_ones_4 : decode cX7_ones 4 = .ok (.iload_n 2, 1) := by decide +kernel
theorem dX7_ones_5 : decode cX7_ones 5 = .ok (.iconst 5, 1) := by decide +kernel
theorem dX7_ones_6 : decode cX7_ones 6 = .ok (.if_icmp .ge 17, 3) := by decide +kernel
theorem dX7_ones_9 : decode cX7_ones 9 = .ok (.iload_n 1, 1) := by decide +kernel
theorem dX7_ones_10 : decode cX7_ones 10 = .ok (.iload_n 0, 1) := by decide +kernel
theorem dX7_ones_11 : decode cX7_ones 11 = .ok (.iload_n 2, 1) := by decide +kernel
theorem dX7_ones_12 : decode cX7_ones 12 = .ok (.ishr, 1) := by decide +kernel
theorem dX7_ones_13 : decode cX7_ones 13 = .ok (.iconst 1, 1) := by decide +kernel
theorem dX7_ones_14 : decode cX7_ones 14 = .ok (.iand, 1) := by decide +kernel
theorem dX7_ones_15 : decode cX7_ones 15 = .ok (.iadd, 1) := by decide +kernel
theorem dX7_ones_16 : decode cX7_ones 16 = .ok (.istore_n 1, 1) := by decide +kernel
theorem dX7_ones_17 : decode cX7_ones 17 = .ok (.iinc 2 1, 3) := by decide +kernel
theorem dX7_ones_20 : decode cX7_ones 20 = .ok (.goto (-16), 3) := by decide +kernel
theorem dX7_ones_23 : decode cX7_ones 23 = .ok (.iload_n 1, 1) := by decide +kernel
theorem dX7_ones_24 : decode cX7_ones 24 = .ok (.ireturn, 1) := by decide +kernel
theorem dX7_write_0 : decode cX7_write 0 = .ok (.iload_n 1, 1) := by decide +kernel
theorem dX7_write_1 : decode cX7_write 1 = .ok (.i2l, 1) := by decide +kernel
theorem dX7_write_2 : decode cX7_write 2 = .ok (.lconst 0, 1) := by decide +kernel
theorem dX7_write_3 : decode cX7_write 3 = .ok (.ldc2_w 62, 3) := by decide +kernel
theorem dX7_write_6 : decode cX7_write 6 = .ok (.invokestatic 64, 3) := by decide +kernel
theorem dX7_write_9 : decode cX7_write 9 = .ok (.ifCond .ne 6, 3) := by decide +kernel
theorem dX7_write_12 : decode cX7_write 12 = .ok (.bipush (-2), 2) := by decide +kernel
theorem dX7_write_14 : decode cX7_write 14 = .ok (.ireturn, 1) := by decide +kernel
theorem dX7_write_15 : decode cX7_write 15 = .ok (.aload_n 0, 1) := by decide +kernel
theorem dX7_write_16 : decode cX7_write 16 = .ok (.getfield 68, 3) := by decide +kernel
theorem dX7_write_19 : decode cX7_write 19 = .ok (.bipush 48, 2) := by decide +kernel
theorem dX7_write_21 : decode cX7_write 21 = .ok (.if_icmp .ne 6, 3) := by decide +kernel
theorem dX7_write_24 : decode cX7_write 24 = .ok (.bipush (-4), 2) := by decide +kernel
theorem dX7_write_26 : decode cX7_write 26 = .ok (.ireturn, 1) := by decide +kernel
theorem dX7_write_27 : decode cX7_write 27 = .ok (.aload_n 0, 1) := by decide +kernel
theorem dX7_write_28 : decode cX7_write 28 = .ok (.getfield 40, 3) := by decide +kernel
theorem dX7_write_31 : decode cX7_write 31 = .ok (.aload_n 0, 1) := by decide +kernel
theorem dX7_write_32 : decode cX7_write 32 = .ok (.getfield 68, 3) := by decide +kernel
theorem dX7_write_35 : decode cX7_write 35 = .ok (.iload_n 1, 1) := by decide +kernel
theorem dX7_write_36 : decode cX7_write 36 = .ok (.iastore, 1) := by decide +kernel
theorem dX7_write_37 : decode cX7_write 37 = .ok (.aload_n 0, 1) := by decide +kernel
theorem dX7_write_38 : decode cX7_write 38 = .ok (.dup, 1) := by decide +kernel
theorem dX7_write_39 : decode cX7_write 39 = .ok (.getfield 68, 3) := by decide +kernel
theorem dX7_write_42 : decode cX7_write 42 = .ok (.iconst 1, 1) := by decide +kernel
theorem dX7_write_43 : decode cX7_write 43 = .ok (.iadd, 1) := by decide +kernel
theorem dX7_write_44 : decode cX7_write 44 = .ok (.putfield 68, 3) := by decide +kernel
theorem dX7_write_47 : decode cX7_write 47 = .ok (.aload_n 0, 1) := by decide +kernel
theorem dX7_write_48 : decode cX7_write 48 = .ok (.getfield 68, 3) := by decide +kernel
theorem dX7_write_51 : decode cX7_write 51 = .ok (.ireturn, 1) := by decide +kernel
theorem dX7_wipe_0 : decode cX7_wipe 0 = .ok (.aload_n 0, 1) := by decide +kernel
theorem dX7_wipe_1 : decode cX7_wipe 1 = .ok (.getfield 68, 3) := by decide +kernel
theorem dX7_wipe_4 : decode cX7_wipe 4 = .ok (.istore_n 1, 1) := by decide +kernel
theorem dX7_wipe_5 : decode cX7_wipe 5 = .ok (.aload_n 0, 1) := by decide +kernel
theorem dX7_wipe_6 : decode cX7_wipe 6 = .ok (.iconst 0, 1) := by decide +kernel
theorem dX7_wipe_7 : decode cX7_wipe 7 = .ok (.putfield 68, 3) := by decide +kernel
theorem dX7_wipe_10 : decode cX7_wipe 10 = .ok (.iload_n 1, 1) := by decide +kernel
theorem dX7_wipe_11 : decode cX7_wipe 11 = .ok (.ireturn, 1) := by decide +kernel
theorem dX7_figureOf_0 : decode cX7_figureOf 0 = .ok (.aload_n 0, 1) := by decide +kernel
theorem dX7_figureOf_1 : decode cX7_figureOf 1 = .ok (.getfield 72, 3) := by decide +kernel
theorem dX7_figureOf_4 : decode cX7_figureOf 4 = .ok (.bipush (-9), 2) := by decide +kernel
theorem dX7_figureOf_6 : decode cX7_figureOf 6 = .ok (.if_icmp .ne 18, 3) := by decide +kernel
theorem dX7_figureOf_9 : decode cX7_figureOf 9 = .ok (.aload_n 0, 1) := by decide +kernel
theorem dX7_figureOf_10 : decode cX7_figureOf 10 = .ok (.getfield 75, 3) := by decide +kernel
theorem dX7_figureOf_13 : decode cX7_figureOf 13 = .ok (.aload_n 0, 1) := by decide +kernel
theorem dX7_figureOf_14 : decode cX7_figureOf 14 = .ok (.getfield 68, 3) := by decide +kernel
theorem dX7_figureOf_17 : decode cX7_figureOf 17 = .ok (.if_icmp .ge 7, 3) := by decide +kernel
theorem dX7_figureOf_20 : decode cX7_figureOf 20 = .ok (.iconst 1, 1) := by decide +kernel
theorem dX7_figureOf_21 : decode cX7_figureOf 21 = .ok (.goto 4, 3) := by decide +kernel
theorem dX7_figureOf_24 : decode cX7_figureOf 24 = .ok (.iconst 0, 1) := by decide +kernel
theorem dX7_figureOf_25 : decode cX7_figureOf 25 = .ok (.istore_n 2, 1) := by decide +kernel
theorem dX7_figureOf_26 : decode cX7_figureOf 26 = .ok (.iload_n 2, 1) := by decide +kernel
theorem dX7_figureOf_27 : decode cX7_figureOf 27 = .ok (.ifCond .eq 18, 3) := by decide +kernel
theorem dX7_figureOf_30 : decode cX7_figureOf 30 = .ok (.aload_n 0, 1) := by decide +kernel
theorem dX7_figureOf_31 : decode cX7_figureOf 31 = .ok (.getfield 40, 3) := by decide +kernel
theorem dX7_figureOf_34 : decode cX7_figureOf 34 = .ok (.aload_n 0, 1) := by decide +kernel
theorem dX7_figureOf_35 : decode cX7_figureOf 35 = .ok (.getfield 75, 3) := by decide +kernel
theorem dX7_figureOf_38 : decode cX7_figureOf 38 = .ok (.iaload, 1) := by decide +kernel
theorem dX7_figureOf_39 : decode cX7_figureOf 39 = .ok (.bipush 48, 2) := by decide +kernel
theorem dX7_figureOf_41 : decode cX7_figureOf 41 = .ok (.isub, 1) := by decide +kernel
theorem dX7_figureOf_42 : decode cX7_figureOf 42 = .ok (.goto 4, 3) := by decide +kernel
theorem dX7_figureOf_45 : decode cX7_figureOf 45 = .ok (.iconst 0, 1) := by decide +kernel
theorem dX7_figureOf_46 : decode cX7_figureOf 46 = .ok (.istore_n 3, 1) := by decide +kernel
theorem dX7_figureOf_47 : decode cX7_figureOf 47 = .ok (.iload_n 2, 1) := by decide +kernel
theorem dX7_figureOf_48 : decode cX7_figureOf 48 = .ok (.ifCond .eq 23, 3) := by decide +kernel
theorem dX7_figureOf_51 : decode cX7_figureOf 51 = .ok (.iload_n 3, 1) := by decide +kernel
theorem dX7_figureOf_52 : decode cX7_figureOf 52 = .ok (.i2l, 1) := by decide +kernel
theorem dX7_figureOf_53 : decode cX7_figureOf 53 = .ok (.lconst 0, 1) := by decide +kernel
theorem dX7_figureOf_54 : decode cX7_figureOf 54 = .ok (.ldc2_w 78, 3) := by decide +kernel
theorem dX7_figureOf_57 : decode cX7_figureOf 57 = .ok (.invokestatic 64, 3) := by decide +kernel
theorem dX7_figureOf_60 : decode cX7_figureOf 60 = .ok (.ifCond .eq 11, 3) := by decide +kernel
theorem dX7_figureOf_63 : decode cX7_figureOf 63 = .ok (.iload_n 1, 1) := by decide +kernel
theorem dX7_figureOf_64 : decode cX7_figureOf 64 = .ok (.iload_n 3, 1) := by decide +kernel
theorem dX7_figureOf_65 : decode cX7_figureOf 65 = .ok (.invokestatic 80, 3) := by decide +kernel
theorem dX7_figureOf_68 : decode cX7_figureOf 68 = .ok (.ifCond .ne 29, 3) := by decide +kernel
theorem dX7_figureOf_71 : decode cX7_figureOf 71 = .ok (.aload_n 0, 1) := by decide +kernel
theorem dX7_figureOf_72 : decode cX7_figureOf 72 = .ok (.aload_n 0, 1) := by decide +kernel
theorem dX7_figureOf_73 : decode cX7_figureOf 73 = .ok (.getfield 72, 3) := by decide +kernel
theorem dX7_figureOf_76 : decode cX7_figureOf 76 = .ok (.bipush (-9), 2) := by decide +kernel
theorem dX7_figureOf_78 : decode cX7_figureOf 78 = .ok (.if_icmp .ne 10, 3) := by decide +kernel
theorem dX7_figureOf_81 : decode cX7_figureOf 81 = .ok (.aload_n 0, 1) := by decide +kernel
theorem dX7_figureOf_82 : decode cX7_figureOf 82 = .ok (.getfield 75, 3) := by decide +kernel
theorem dX7_figureOf_85 : decode cX7_figureOf 85 = .ok (.goto 7, 3) := by decide +kernel
theorem dX7_figureOf_88 : decode cX7_figureOf 88 = .ok (.aload_n 0, 1) := by decide +kernel
theorem dX7_figureOf_89 : decode cX7_figureOf 89 = .ok (.getfield 72, 3) := by decide +kernel
theorem dX7_figureOf_92 : decode cX7_figureOf 92 = .ok (.putfield 72, 3) := by decide +kernel
theorem dX7_figureOf_95 : decode cX7_figureOf 95 = .ok (.iconst 0, 1) := by decide +kernel
theorem dX7_figureOf_96 : decode cX7_figureOf 96 = .ok (.ireturn, 1) := by decide +kernel
theorem dX7_figureOf_97 : decode cX7_figureOf 97 = .ok (.aload_n 0, 1) := by decide +kernel
theorem dX7_figureOf_98 : decode cX7_figureOf 98 = .ok (.dup, 1) := by decide +kernel
theorem dX7_figureOf_99 : decode cX7_figureOf 99 = .ok (.getfield 75, 3) := by decide +kernel
theorem dX7_figureOf_102 : decode cX7_figureOf 102 = .ok (.iconst 1, 1) := by decide +kernel
theorem dX7_figureOf_103 : decode cX7_figureOf 103 = .ok (.iadd, 1) := by decide +kernel
theorem dX7_figureOf_104 : decode cX7_figureOf 104 = .ok (.putfield 75, 3) := by decide +kernel
theorem dX7_figureOf_107 : decode cX7_figureOf 107 = .ok (.iload_n 3, 1) := by decide +kernel
theorem dX7_figureOf_108 : decode cX7_figureOf 108 = .ok (.ireturn, 1) := by decide +kernel
theorem dX7_roomy_0 : decode cX7_roomy 0 = .ok (.iconst 0, 1) := by decide +kernel
theorem dX7_roomy_1 : decode cX7_roomy 1 = .ok (.istore_n 1, 1) := by decide +kernel
theorem dX7_roomy_2 : decode cX7_roomy 2 = .ok (.iconst 0, 1) := by decide +kernel
theorem dX7_roomy_3 : decode cX7_roomy 3 = .ok (.istore_n 2, 1) := by decide +kernel
theorem dX7_roomy_4 : decode cX7_roomy 4 = .ok (.iload_n 2, 1) := by decide +kernel
theorem dX7_roomy_5 : decode cX7_roomy 5 = .ok (.aload_n 0, 1) := by decide +kernel
theorem dX7_roomy_6 : decode cX7_roomy 6 = .ok (.getfield 84, 3) := by decide +kernel
theorem dX7_roomy_9 : decode cX7_roomy 9 = .ok (.if_icmp .ge 29, 3) := by decide +kernel
theorem dX7_roomy_12 : decode cX7_roomy 12 = .ok (.iload_n 1, 1) := by decide +kernel
theorem dX7_roomy_13 : decode cX7_roomy 13 = .ok (.aload_n 0, 1) := by decide +kernel
theorem dX7_roomy_14 : decode cX7_roomy 14 = .ok (.getfield 37, 3) := by decide +kernel
theorem dX7_roomy_17 : decode cX7_roomy 17 = .ok (.iload_n 2, 1) := by decide +kernel
theorem dX7_roomy_18 : decode cX7_roomy 18 = .ok (.iaload, 1) := by decide +kernel
theorem dX7_roomy_19 : decode cX7_roomy 19 = .ok (.iconst 3, 1) := by decide +kernel
theorem dX7_roomy_20 : decode cX7_roomy 20 = .ok (.if_icmp .ge 9, 3) := by decide +kernel
theorem dX7_roomy_23 : decode cX7_roomy 23 = .ok (.iconst 1, 1) := by decide +kernel
theorem dX7_roomy_24 : decode cX7_roomy 24 = .ok (.iload_n 2, 1) := by decide +kernel
theorem dX7_roomy_25 : decode cX7_roomy 25 = .ok (.ishl, 1) := by decide +kernel
theorem dX7_roomy_26 : decode cX7_roomy 26 = .ok (.goto 4, 3) := by decide +kernel
theorem dX7_roomy_29 : decode cX7_roomy 29 = .ok (.iconst 0, 1) := by decide +kernel
theorem dX7_roomy_30 : decode cX7_roomy 30 = .ok (.ior, 1) := by decide +kernel
theorem dX7_roomy_31 : decode cX7_roomy 31 = .ok (.istore_n 1, 1) := by decide +kernel
theorem dX7_roomy_32 : decode cX7_roomy 32 = .ok (.iinc 2 1, 3) := by decide +kernel
theorem dX7_roomy_35 : decode cX7_roomy 35 = .ok (.goto (-31), 3) := by decide +kernel
theorem dX7_roomy_38 : decode cX7_roomy 38 = .ok (.iload_n 1, 1) := by decide +kernel
theorem dX7_roomy_39 : decode cX7_roomy 39 = .ok (.ireturn, 1) := by decide +kernel
theorem dX7_readText_0 : decode cX7_readText 0 = .ok (.aload_n 0, 1) := by decide +kernel
theorem dX7_readText_1 : decode cX7_readText 1 = .ok (.iconst 0, 1) := by decide +kernel
theorem dX7_readText_2 : decode cX7_readText 2 = .ok (.putfield 75, 3) := by decide +kernel
theorem dX7_readText_5 : decode cX7_readText 5 = .ok (.aload_n 0, 1) := by decide +kernel
theorem dX7_readText_6 : decode cX7_readText 6 = .ok (.bipush (-9), 2) := by decide +kernel
theorem dX7_readText_8 : decode cX7_readText 8 = .ok (.putfield 72, 3) := by decide +kernel
theorem dX7_readText_11 : decode cX7_readText 11 = .ok (.aload_n 0, 1) := by decide +kernel
theorem dX7_readText_12 : decode cX7_readText 12 = .ok (.iconst 0, 1) := by decide +kernel
theorem dX7_readText_13 : decode cX7_readText 13 = .ok (.putfield 84, 3) := by decide +kernel
theorem dX7_readText_16 : decode cX7_readText 16 = .ok (.aload_n 0, 1) := by decide +kernel
theorem dX7_readText_17 : decode cX7_readText 17 = .ok (.iconst 0, 1) := by decide +kernel
theorem dX7_readText_18 : decode cX7_readText 18 = .ok (.putfield 87, 3) := by decide +kernel
theorem dX7_readText_21 : decode cX7_readText 21 = .ok (.aload_n 0, 1) := by decide +kernel
theorem dX7_readText_22 : decode cX7_readText 22 = .ok (.iconst 0, 1) := by decide +kernel
theorem dX7_readText_23 : decode cX7_readText 23 = .ok (.putfield 90, 3) := by decide +kernel
theorem dX7_readText_26 : decode cX7_readText 26 = .ok (.iconst 0, 1) := by decide +kernel
theorem dX7_readText_27 : decode cX7_readText 27 = .ok (.istore_n 1, 1) := by decide +kernel
theorem dX7_readText_28 : decode cX7_readText 28 = .ok (.iload_n 1, 1) := by decide +kernel
theorem dX7_readText_29 : decode cX7_readText 29 = .ok (.iconst 5, 1) := by decide +kernel
theorem dX7_readText_30 : decode cX7_readText 30 = .ok (.if_icmp .ge 16, 3) := by decide +kernel
theorem dX7_readText_33 : decode cX7_readText 33 = .ok (.aload_n 0, 1) := by decide +kernel
theorem dX7_readText_34 : decode cX7_readText 34 = .ok (.getfield 37, 3) := by decide +kernel
theorem dX7_readText_37 : decode cX7_readText 37 = .ok (.iload_n 1, 1) := by decide +kernel
theorem dX7_readText_38 : decode cX7_readText 38 = .ok (.iconst 0, 1) := by decide +kernel
theorem dX7_readText_39 : decode cX7_readText 39 = .ok (.iastore, 1) := by decide +kernel
theorem dX7_readText_40 : decode cX7_readText 40 = .ok (.iinc 1 1, 3) := by decide +kernel
theorem dX7_readText_43 : decode cX7_readText 43 = .ok (.goto (-15), 3) := by decide +kernel
theorem dX7_readText_46 : decode cX7_readText 46 = .ok (.aload_n 0, 1) := by decide +kernel
theorem dX7_readText_47 : decode cX7_readText 47 = .ok (.getfield 68, 3) := by decide +kernel
theorem dX7_readText_50 : decode cX7_readText 50 = .ok (.ifCond .eq 14, 3) := by decide +kernel
theorem dX7_readText_53 : decode cX7_readText 53 = .ok (.aload_n 0, 1) := by decide +kernel
theorem dX7_readText_54 : decode cX7_readText 54 = .ok (.getfield 40, 3) := by decide +kernel
theorem dX7_readText_57 : decode cX7_readText 57 = .ok (.iconst 0, 1) := by decide +kernel
theorem dX7_readText_58 : decode cX7_readText 58 = .ok (.iaload, 1) := by decide +kernel
theorem dX7_readText_59 : decode cX7_readText 59 = .ok (.bipush 71, 2) := by decide +kernel
theorem dX7_readText_61 : decode cX7_readText 61 = .ok (.if_icmp .eq 5, 3) := by decide +kernel
theorem dX7_readText_64 : decode cX7_readText 64 = .ok (.iconst 0, 1) := by decide +kernel
theorem dX7_readText_65 : decode cX7_readText 65 = .ok (.ireturn, 1) := by decide +kernel
theorem dX7_readText_66 : decode cX7_readText 66 = .ok (.aload_n 0, 1) := by decide +kernel
theorem dX7_readText_67 : decode cX7_readText 67 = .ok (.iconst 1, 1) := by decide +kernel
theorem dX7_readText_68 : decode cX7_readText 68 = .ok (.putfield 75, 3) := by decide +kernel
theorem dX7_readText_71 : decode cX7_readText 71 = .ok (.aload_n 0, 1) := by decide +kernel
theorem dX7_readText_72 : decode cX7_readText 72 = .ok (.getfield 72, 3) := by decide +kernel
theorem dX7_readText_75 : decode cX7_readText 75 = .ok (.bipush (-9), 2) := by decide +kernel
theorem dX7_readText_77 : decode cX7_readText 77 = .ok (.if_icmp .ne 30, 3) := by decide +kernel
theorem dX7_readText_80 : decode cX7_readText 80 = .ok (.aload_n 0, 1) := by decide +kernel
theorem dX7_readText_81 : decode cX7_readText 81 = .ok (.getfield 75, 3) := by decide +kernel
theorem dX7_readText_84 : decode cX7_readText 84 = .ok (.aload_n 0, 1) := by decide +kernel
theorem dX7_readText_85 : decode cX7_readText 85 = .ok (.getfield 68, 3) := by decide +kernel
theorem dX7_readText_88 : decode cX7_readText 88 = .ok (.if_icmp .ge 19, 3) := by decide +kernel
theorem dX7_readText_91 : decode cX7_readText 91 = .ok (.aload_n 0, 1) := by decide +kernel
theorem dX7_readText_92 : decode cX7_readText 92 = .ok (.aload_n 0, 1) := by decide +kernel
theorem dX7_readText_93 : decode cX7_readText 93 = .ok (.getfield 40, 3) := by decide +kernel
theorem dX7_readText_96 : decode cX7_readText 96 = .ok (.aload_n 0, 1) := by decide +kernel
theorem dX7_readText_97 : decode cX7_readText 97 = .ok (.getfield 75, 3) := by decide +kernel
theorem dX7_readText_100 : decode cX7_readText 100 = .ok (.iaload, 1) := by decide +kernel
theorem dX7_readText_101 : decode cX7_readText 101 = .ok (.invokevirtual 93, 3) := by decide +kernel
theorem dX7_readText_104 : decode cX7_readText 104 = .ok (.goto (-33), 3) := by decide +kernel
theorem dX7_readText_107 : decode cX7_readText 107 = .ok (.aload_n 0, 1) := by decide +kernel
theorem dX7_readText_108 : decode cX7_readText 108 = .ok (.getfield 72, 3) := by decide +kernel
theorem dX7_readText_111 : decode cX7_readText 111 = .ok (.ireturn, 1) := by decide +kernel
theorem dX7_readPart_0 : decode cX7_readPart 0 = .ok (.iload_n 1, 1) := by decide +kernel
theorem dX7_readPart_1 : decode cX7_readPart 1 = .ok (.bipush 66, 2) := by decide +kernel
theorem dX7_readPart_3 : decode cX7_readPart 3 = .ok (.if_icmp .ne 50, 3) := by decide +kernel
theorem dX7_readPart_6 : decode cX7_readPart 6 = .ok (.aload_n 0, 1) := by decide +kernel
theorem dX7_readPart_7 : decode cX7_readPart 7 = .ok (.getfield 84, 3) := by decide +kernel
theorem dX7_readPart_10 : decode cX7_readPart 10 = .ok (.iconst 5, 1) := by decide +kernel
theorem dX7_readPart_11 : decode cX7_readPart 11 = .ok (.if_icmp .ge 42, 3) := by decide +kernel
theorem dX7_readPart_14 : decode cX7_readPart 14 = .ok (.aload_n 0, 1) := by decide +kernel
theorem dX7_readPart_15 : decode cX7_readPart 15 = .ok (.dup, 1) := by decide +kernel
theorem dX7_readPart_16 : decode cX7_readPart 16 = .ok (.getfield 75, 3) := by decide +kernel
theorem dX7_readPart_19 : decode cX7_readPart 19 = .ok (.iconst 1, 1) := by decide +kernel
theorem dX7_readPart_20 : decode cX7_readPart 20 = .ok (.iadd, 1) := by decide +kernel
theorem dX7_readPart_21 : decode cX7_readPart 21 = .ok (.putfield 75, 3) := by decide +kernel
theorem dX7_readPart_24 : decode cX7_readPart 24 = .ok (.aload_n 0, 1) := by decide +kernel
theorem dX7_readPart_25 : decode cX7_readPart 25 = .ok (.getfield 28, 3) := by decide +kernel
theorem dX7_readPart_28 : decode cX7_readPart 28 = .ok (.aload_n 0, 1) := by decide +kernel
theorem dX7_readPart_29 : decode cX7_readPart 29 = .ok (.getfield 84, 3) := by decide +kernel
theorem dX7_readPart_32 : decode cX7_readPart 32 = .ok (.aload_n 0, 1) := by decide +kernel
theorem dX7_readPart_33 : decode cX7_readPart 33 = .ok (.sipush 1022, 3) := by decide +kernel
theorem dX7_readPart_36 : decode cX7_readPart 36 = .ok (.invokevirtual 97, 3) := by decide +kernel
theorem dX7_readPart_39 : decode cX7_readPart 39 = .ok (.iastore, 1) := by decide +kernel
theorem dX7_readPart_40 : decode cX7_readPart 40 = .ok (.aload_n 0, 1) := by decide +kernel
theorem dX7_readPart_41 : decode cX7_readPart 41 = .ok (.dup, 1) := by decide +kernel
theorem dX7_readPart_42 : decode cX7_readPart 42 = .ok (.getfield 84, 3) := by decide +kernel
theorem dX7_readPart_45 : decode cX7_readPart 45 = .ok (.iconst 1, 1) := by decide +kernel
theorem dX7_readPart_46 : decode cX7_readPart 46 = .ok (.iadd, 1) := by decide +kernel
theorem dX7_readPart_47 : decode cX7_readPart 47 = .ok (.putfield 84, 3) := by decide +kernel
theorem dX7_readPart_50 : decode cX7_readPart 50 = .ok (.goto 211, 3) := by decide +kernel
theorem dX7_readPart_53 : decode cX7_readPart 53 = .ok (.iload_n 1, 1) := by decide +kernel
theorem dX7_readPart_54 : decode cX7_readPart 54 = .ok (.bipush 70, 2) := by decide +kernel
theorem dX7_readPart_56 : decode cX7_readPart 56 = .ok (.if_icmp .ne 111, 3) := by decide +kernel
theorem dX7_readPart_59 : decode cX7_readPart 59 = .ok (.aload_n 0, 1) := by decide +kernel
theorem dX7_readPart_60 : decode cX7_readPart 60 = .ok (.getfield 87, 3) := by decide +kernel
theorem dX7_readPart_63 : decode cX7_readPart 63 = .ok (.iconst 5, 1) := by decide +kernel
theorem dX7_readPart_64 : decode cX7_readPart 64 = .ok (.if_icmp .ge 103, 3) := by decide +kernel
theorem dX7_readPart_67 : decode cX7_readPart 67 = .ok (.aload_n 0, 1) := by decide +kernel
theorem dX7_readPart_68 : decode cX7_readPart 68 = .ok (.invokevirtual 101, 3) := by decide +kernel
theorem dX7_readPart_71 : decode cX7_readPart 71 = .ok (.ifCond .eq 96, 3) := by decide +kernel
theorem dX7_readPart_74 : decode cX7_readPart 74 = .ok (.aload_n 0, 1) := by decide +kernel
theorem dX7_readPart_75 : decode cX7_readPart 75 = .ok (.dup, 1) := by decide +kernel
theorem dX7_readPart_76 : decode cX7_readPart 76 = .ok (.getfield 75, 3) := by decide +kernel
theorem dX7_readPart_79 : decode cX7_readPart 79 = .ok (.iconst 1, 1) := by decide +kernel
theorem dX7_readPart_80 : decode cX7_readPart 80 = .ok (.iadd, 1) := by decide +kernel
theorem dX7_readPart_81 : decode cX7_readPart 81 = .ok (.putfield 75, 3) := by decide +kernel
theorem dX7_readPart_84 : decode cX7_readPart 84 = .ok (.aload_n 0, 1) := by decide +kernel
theorem dX7_readPart_85 : decode cX7_readPart 85 = .ok (.aload_n 0, 1) := by decide +kernel
theorem dX7_readPart_86 : decode cX7_readPart 86 = .ok (.invokevirtual 101, 3) := by decide +kernel
theorem dX7_readPart_89 : decode cX7_readPart 89 = .ok (.invokevirtual 97, 3) := by decide +kernel
theorem dX7_readPart_92 : decode cX7_readPart 92 = .ok (.istore_n 2, 1) := by decide +kernel
theorem dX7_readPart_93 : decode cX7_readPart 93 = .ok (.aload_n 0, 1) := by decide +kernel
theorem dX7_readPart_94 : decode cX7_readPart 94 = .ok (.getfield 31, 3) := by decide +kernel
theorem dX7_readPart_97 : decode cX7_readPart 97 = .ok (.iconst 3, 1) := by decide +kernel
theorem dX7_readPart_98 : decode cX7_readPart 98 = .ok (.aload_n 0, 1) := by decide +kernel
theorem dX7_readPart_99 : decode cX7_readPart 99 = .ok (.getfield 87, 3) := by decide +kernel
theorem dX7_readPart_102 : decode cX7_readPart 102 = .ok (.imul, 1) := by decide +kernel
theorem dX7_readPart_103 : decode cX7_readPart 103 = .ok (.iload_n 2, 1) := by decide +kernel
theorem dX7_readPart_104 : decode cX7_readPart 104 = .ok (.iastore, 1) := by decide +kernel
theorem dX7_readPart_105 : decode cX7_readPart 105 = .ok (.aload_n 0, 1) := by decide +kernel
theorem dX7_readPart_106 : decode cX7_readPart 106 = .ok (.getfield 31, 3) := by decide +kernel
theorem dX7_readPart_109 : decode cX7_readPart 109 = .ok (.iconst 3, 1) := by decide +kernel
theorem dX7_readPart_110 : decode cX7_readPart 110 = .ok (.aload_n 0, 1) := by decide +kernel
theorem dX7_readPart_111 : decode cX7_readPart 111 = .ok (.getfield 87, 3) := by decide +kernel
theorem dX7_readPart_114 : decode cX7_readPart 114 = .ok (.imul, 1) := by decide +kernel
theorem dX7_readPart_115 : decode cX7_readPart 115 = .ok (.iconst 1, 1) := by decide +kernel
theorem dX7_readPart_116 : decode cX7_readPart 116 = .ok (.iadd, 1) := by decide +kernel
theorem dX7_readPart_117 : decode cX7_readPart 117 = .ok (.aload_n 0, 1) := by decide +kernel
theorem dX7_readPart_118 : decode cX7_readPart 118 = .ok (.sipush 1023, 3) := by decide +kernel
theorem dX7_readPart_121 : decode cX7_readPart 121 = .ok (.invokevirtual 97, 3) := by decide +kernel
theorem dX7_readPart_124 : decode cX7_readPart 124 = .ok (.iastore, 1) := by decide +kernel
theorem dX7_readPart_125 : decode cX7_readPart 125 = .ok (.aload_n 0, 1) := by decide +kernel
theorem dX7_readPart_126 : decode cX7_readPart 126 = .ok (.getfield 31, 3) := by decide +kernel
theorem dX7_readPart_129 : decode cX7_readPart 129 = .ok (.iconst 3, 1) := by decide +kernel
theorem dX7_readPart_130 : decode cX7_readPart 130 = .ok (.aload_n 0, 1) := by decide +kernel
theorem dX7_readPart_131 : decode cX7_readPart 131 = .ok (.getfield 87, 3) := by decide +kernel
theorem dX7_readPart_134 : decode cX7_readPart 134 = .ok (.imul, 1) := by decide +kernel
theorem dX7_readPart_135 : decode cX7_readPart 135 = .ok (.iconst 2, 1) := by decide +kernel
theorem dX7_readPart_136 : decode cX7_readPart 136 = .ok (.iadd, 1) := by decide +kernel
theorem dX7_readPart_137 : decode cX7_readPart 137 = .ok (.aload_n 0, 1) := by decide +kernel
theorem dX7_readPart_138 : decode cX7_readPart 138 = .ok (.bipush 15, 2) := by decide +kernel
theorem dX7_readPart_140 : decode cX7_readPart 140 = .ok (.invokevirtual 97, 3) := by decide +kernel
theorem dX7_readPart_143 : decode cX7_readPart 143 = .ok (.iastore, 1) := by decide +kernel
theorem dX7_readPart_144 : decode cX7_readPart 144 = .ok (.aload_n 0, 1) := by decide +kernel
theorem dX7_readPart_145 : decode cX7_readPart 145 = .ok (.getfield 37, 3) := by decide +kernel
theorem dX7_readPart_148 : decode cX7_readPart 148 = .ok (.iload_n 2, 1) := by decide +kernel
theorem dX7_readPart_149 : decode cX7_readPart 149 = .ok (.dup2, 1) := by decide +kernel
theorem dX7_readPart_150 : decode cX7_readPart 150 = .ok (.iaload, 1) := by decide +kernel
theorem dX7_readPart_151 : decode cX7_readPart 151 = .ok (.iconst 1, 1) := by decide +kernel
theorem dX7_readPart_152 : decode cX7_readPart 152 = .ok (.iadd, 1) := by decide +kernel
theorem dX7_readPart_153 : decode cX7_readPart 153 = .ok (.iastore, 1) := by decide +kernel
theorem dX7_readPart_154 : decode cX7_readPart 154 = .ok (.aload_n 0, 1) := by decide +kernel
theorem dX7_readPart_155 : decode cX7_readPart 155 = .ok (.dup, 1) := by decide +kernel
theorem dX7_readPart_156 : decode cX7_readPart 156 = .ok (.getfield 87, 3) := by decide +kernel
theorem dX7_readPart_159 : decode cX7_readPart 159 = .ok (.iconst 1, 1) := by decide +kernel
theorem dX7_readPart_160 : decode cX7_readPart 160 = .ok (.iadd, 1) := by decide +kernel
theorem dX7_readPart_161 : decode cX7_readPart 161 = .ok (.putfield 87, 3) := by decide +kernel
theorem dX7_readPart_164 : decode cX7_readPart 164 = .ok (.goto 97, 3) := by decide +kernel
theorem dX7_readPart_167 : decode cX7_readPart 167 = .ok (.iload_n 1, 1) := by decide +kernel
theorem dX7_readPart_168 : decode cX7_readPart 168 = .ok (.bipush 76, 2) := by decide +kernel
theorem dX7_readPart_170 : decode cX7_readPart 170 = .ok (.if_icmp .ne 83, 3) := by decide +kernel
theorem dX7_readPart_173 : decode cX7_readPart 173 = .ok (.aload_n 0, 1) := by decide +kernel
theorem dX7_readPart_174 : decode cX7_readPart 174 = .ok (.getfield 90, 3) := by decide +kernel
theorem dX7_readPart_177 : decode cX7_readPart 177 = .ok (.iconst 4, 1) := by decide +kernel
theorem dX7_readPart_178 : decode cX7_readPart 178 = .ok (.if_icmp .ge 75, 3) := by decide +kernel
theorem dX7_readPart_181 : decode cX7_readPart 181 = .ok (.aload_n 0, 1) := by decide +kernel
theorem dX7_readPart_182 : decode cX7_readPart 182 = .ok (.getfield 84, 3) := by decide +kernel
theorem dX7_readPart_185 : decode cX7_readPart 185 = .ok (.ifCond .le 68, 3) := by decide +kernel
theorem dX7_readPart_188 : decode cX7_readPart 188 = .ok (.aload_n 0, 1) := by decide +kernel
theorem dX7_readPart_189 : decode cX7_readPart 189 = .ok (.dup, 1) := by decide +kernel
theorem dX7_readPart_190 : decode cX7_readPart 190 = .ok (.getfield 75, 3) := by decide +kernel
theorem dX7_readPart_193 : decode cX7_readPart 193 = .ok (.iconst 1, 1) := by decide +kernel
theorem dX7_readPart_194 : decode cX7_readPart 194 = .ok (.iadd, 1) := by decide +kernel
theorem dX7_readPart_195 : decode cX7_readPart 195 = .ok (.putfield 75, 3) := by decide +kernel
theorem dX7_readPart_198 : decode cX7_readPart 198 = .ok (.aload_n 0, 1) := by decide +kernel
theorem dX7_readPart_199 : decode cX7_readPart 199 = .ok (.getfield 34, 3) := by decide +kernel
theorem dX7_readPart_202 : decode cX7_readPart 202 = .ok (.iconst 2, 1) := by decide +kernel
theorem dX7_readPart_203 : decode cX7_readPart 203 = .ok (.aload_n 0, 1) := by decide +kernel
theorem dX7_readPart_204 : decode cX7_readPart 204 = .ok (.getfield 90, 3) := by decide +kernel
theorem dX7_readPart_207 : decode cX7_readPart 207 = .ok (.imul, 1) := by decide +kernel
theorem dX7_readPart_208 : decode cX7_readPart 208 = .ok (.aload_n 0, 1) := by decide +kernel
theorem dX7_readPart_209 : decode cX7_readPart 209 = .ok (.iconst 1, 1) := by decide +kernel
theorem dX7_readPart_210 : decode cX7_readPart 210 = .ok (.aload_n 0, 1) := by decide +kernel
theorem dX7_readPart_211 : decode cX7_readPart 211 = .ok (.getfield 84, 3) := by decide +kernel
theorem dX7_readPart_214 : decode cX7_readPart 214 = .ok (.ishl, 1) := by decide +kernel
theorem dX7_readPart_215 : decode cX7_readPart 215 = .ok (.iconst 1, 1) := by decide +kernel
theorem dX7_readPart_216 : decode cX7_readPart 216 = .ok (.isub, 1) := by decide +kernel
theorem dX7_readPart_217 : decode cX7_readPart 217 = .ok (.invokevirtual 97, 3) := by decide +kernel
theorem dX7_readPart_220 : decode cX7_readPart 220 = .ok (.iastore, 1) := by decide +kernel
theorem dX7_readPart_221 : decode cX7_readPart 221 = .ok (.aload_n 0, 1) := by decide +kernel
theorem dX7_readPart_222 : decode cX7_readPart 222 = .ok (.getfield 34, 3) := by decide +kernel
theorem dX7_readPart_225 : decode cX7_readPart 225 = .ok (.iconst 2, 1) := by decide +kernel
theorem dX7_readPart_226 : decode cX7_readPart 226 = .ok (.aload_n 0, 1) := by decide +kernel
theorem dX7_readPart_227 : decode cX7_readPart 227 = .ok (.getfield 90, 3) := by decide +kernel
theorem dX7_readPart_230 : decode cX7_readPart 230 = .ok (.imul, 1) := by decide +kernel
theorem dX7_readPart_231 : decode cX7_readPart 231 = .ok (.iconst 1, 1) := by decide +kernel
theorem dX7_readPart_232 : decode cX7_readPart 232 = .ok (.iadd, 1) := by decide +kernel
theorem dX7_readPart_233 : decode cX7_readPart 233 = .ok (.aload_n 0, 1) := by decide +kernel
theorem dX7_readPart_234 : decode cX7_readPart 234 = .ok (.bipush 15, 2) := by decide +kernel
theorem dX7_readPart_236 : decode cX7_readPart 236 = .ok (.invokevirtual 97, 3) := by decide +kernel
theorem dX7_readPart_239 : decode cX7_readPart 239 = .ok (.iastore, 1) := by decide +kernel
theorem dX7_readPart_240 : decode cX7_readPart 240 = .ok (.aload_n 0, 1) := by decide +kernel
theorem dX7_readPart_241 : decode cX7_readPart 241 = .ok (.dup, 1) := by decide +kernel
theorem dX7_readPart_242 : decode cX7_readPart 242 = .ok (.getfield 90, 3) := by decide +kernel
theorem dX7_readPart_245 : decode cX7_readPart 245 = .ok (.iconst 1, 1) := by decide +kernel
theorem dX7_readPart_246 : decode cX7_readPart 246 = .ok (.iadd, 1) := by decide +kernel
theorem dX7_readPart_247 : decode cX7_readPart 247 = .ok (.putfield 90, 3) := by decide +kernel
theorem dX7_readPart_250 : decode cX7_readPart 250 = .ok (.goto 11, 3) := by decide +kernel
theorem dX7_readPart_253 : decode cX7_readPart 253 = .ok (.aload_n 0, 1) := by decide +kernel
theorem dX7_readPart_254 : decode cX7_readPart 254 = .ok (.aload_n 0, 1) := by decide +kernel
theorem dX7_readPart_255 : decode cX7_readPart 255 = .ok (.getfield 75, 3) := by decide +kernel
theorem dX7_readPart_258 : decode cX7_readPart 258 = .ok (.putfield 72, 3) := by decide +kernel
theorem dX7_readPart_261 : decode cX7_readPart 261 = .ok (.return_, 1) := by decide +kernel
theorem dX7_fault_0 : decode cX7_fault 0 = .ok (.aload_n 0, 1) := by decide +kernel
theorem dX7_fault_1 : decode cX7_fault 1 = .ok (.invokevirtual 105, 3) := by decide +kernel
theorem dX7_fault_4 : decode cX7_fault 4 = .ok (.ireturn, 1) := by decide +kernel
theorem dX7_hall_0 : decode cX7_hall 0 = .ok (.aload_n 0, 1) := by decide +kernel
theorem dX7_hall_1 : decode cX7_hall 1 = .ok (.invokevirtual 105, 3) := by decide +kernel
theorem dX7_hall_4 : decode cX7_hall 4 = .ok (.bipush (-9), 2) := by decide +kernel
theorem dX7_hall_6 : decode cX7_hall 6 = .ok (.if_icmp .eq 6, 3) := by decide +kernel
theorem dX7_hall_9 : decode cX7_hall 9 = .ok (.bipush (-3), 2) := by decide +kernel
theorem dX7_hall_11 : decode cX7_hall 11 = .ok (.ireturn, 1) := by decide +kernel
theorem dX7_hall_12 : decode cX7_hall 12 = .ok (.aload_n 0, 1) := by decide +kernel
theorem dX7_hall_13 : decode cX7_hall 13 = .ok (.aload_n 0, 1) := by decide +kernel
theorem dX7_hall_14 : decode cX7_hall 14 = .ok (.getfield 84, 3) := by decide +kernel
theorem dX7_hall_17 : decode cX7_hall 17 = .ok (.putfield 108, 3) := by decide +kernel
theorem dX7_hall_20 : decode cX7_hall 20 = .ok (.aload_n 0, 1) := by decide +kernel
theorem dX7_hall_21 : decode cX7_hall 21 = .ok (.aload_n 0, 1) := by decide +kernel
theorem dX7_hall_22 : decode cX7_hall 22 = .ok (.getfield 87, 3) := by decide +kernel
theorem dX7_hall_25 : decode cX7_hall 25 = .ok (.putfield 111, 3) := by decide +kernel
theorem dX7_hall_28 : decode cX7_hall 28 = .ok (.aload_n 0, 1) := by decide +kernel
theorem dX7_hall_29 : decode cX7_hall 29 = .ok (.aload_n 0, 1) := by decide +kernel
theorem dX7_hall_30 : decode cX7_hall 30 = .ok (.getfield 90, 3) := by decide +kernel
theorem dX7_hall_33 : decode cX7_hall 33 = .ok (.putfield 114, 3) := by decide +kernel
theorem dX7_hall_36 : decode cX7_hall 36 = .ok (.iconst 0, 1) := by decide +kernel
theorem dX7_hall_37 : decode cX7_hall 37 = .ok (.istore_n 1, 1) := by decide +kernel
theorem dX7_hall_38 : decode cX7_hall 38 = .ok (.iload_n 1, 1) := by decide +kernel
theorem dX7_hall_39 : decode cX7_hall 39 = .ok (.bipush 17, 2) := by decide +kernel
theorem dX7_hall_41 : decode cX7_hall 41 = .ok (.if_icmp .ge 16, 3) := by decide +kernel
theorem dX7_hall_44 : decode cX7_hall 44 = .ok (.aload_n 0, 1) := by decide +kernel
theorem dX7_hall_45 : decode cX7_hall 45 = .ok (.getfield 25, 3) := by decide +kernel
theorem dX7_hall_48 : decode cX7_hall 48 = .ok (.iload_n 1, 1) := by decide +kernel
theorem dX7_hall_49 : decode cX7_hall 49 = .ok (.iconst 0, 1) := by decide +kernel
theorem dX7_hall_50 : decode cX7_hall 50 = .ok (.iastore, 1) := by decide +kernel
theorem dX7_hall_51 : decode cX7_hall 51 = .ok (.iinc 1 1, 3) := by decide +kernel
theorem dX7_hall_54 : decode cX7_hall 54 = .ok (.goto (-16), 3) := by decide +kernel
theorem dX7_hall_57 : decode cX7_hall 57 = .ok (.iconst 0, 1) := by decide +kernel
theorem dX7_hall_58 : decode cX7_hall 58 = .ok (.istore_n 1, 1) := by decide +kernel
theorem dX7_hall_59 : decode cX7_hall 59 = .ok (.iload_n 1, 1) := by decide +kernel
theorem dX7_hall_60 : decode cX7_hall 60 = .ok (.aload_n 0, 1) := by decide +kernel
theorem dX7_hall_61 : decode cX7_hall 61 = .ok (.getfield 108, 3) := by decide +kernel
theorem dX7_hall_64 : decode cX7_hall 64 = .ok (.if_icmp .ge 21, 3) := by decide +kernel
theorem dX7_hall_67 : decode cX7_hall 67 = .ok (.aload_n 0, 1) := by decide +kernel
theorem dX7_hall_68 : decode cX7_hall 68 = .ok (.getfield 7, 3) := by decide +kernel
theorem dX7_hall_71 : decode cX7_hall 71 = .ok (.iload_n 1, 1) := by decide +kernel
theorem dX7_hall_72 : decode cX7_hall 72 = .ok (.aload_n 0, 1) := by decide +kernel
theorem dX7_hall_73 : decode cX7_hall 73 = .ok (.getfield 28, 3) := by decide +kernel
theorem dX7_hall_76 : decode cX7_hall 76 = .ok (.iload_n 1, 1) := by decide +kernel
theorem dX7_hall_77 : decode cX7_hall 77 = .ok (.iaload, 1) := by decide +kernel
theorem dX7_hall_78 : decode cX7_hall 78 = .ok (.iastore, 1) := by decide +kernel
theorem dX7_hall_79 : decode cX7_hall 79 = .ok (.iinc 1 1, 3) := by decide +kernel
theorem dX7_hall_82 : decode cX7_hall 82 = .ok (.goto (-23), 3) := by decide +kernel
theorem dX7_hall_85 : decode cX7_hall 85 = .ok (.iconst 0, 1) := by decide +kernel
theorem dX7_hall_86 : decode cX7_hall 86 = .ok (.istore_n 1, 1) := by decide +kernel
theorem dX7_hall_87 : decode cX7_hall 87 = .ok (.iload_n 1, 1) := by decide +kernel
theorem dX7_hall_88 : decode cX7_hall 88 = .ok (.aload_n 0, 1) := by decide +kernel
theorem dX7_hall_89 : decode cX7_hall 89 = .ok (.getfield 111, 3) := by decide +kernel
theorem dX7_hall_92 : decode cX7_hall 92 = .ok (.if_icmp .ge 89, 3) := by decide +kernel
theorem dX7_hall_95 : decode cX7_hall 95 = .ok (.aload_n 0, 1) := by decide +kernel
theorem dX7_hall_96 : decode cX7_hall 96 = .ok (.getfield 25, 3) := by decide +kernel
theorem dX7_hall_99 : decode cX7_hall 99 = .ok (.iload_n 1, 1) := by decide +kernel
theorem dX7_hall_100 : decode cX7_hall 100 = .ok (.aload_n 0, 1) := by decide +kernel
theorem dX7_hall_101 : decode cX7_hall 101 = .ok (.getfield 31, 3) := by decide +kernel
theorem dX7_hall_104 : decode cX7_hall 104 = .ok (.iconst 3, 1) := by decide +kernel
theorem dX7_hall_105 : decode cX7_hall 105 = .ok (.iload_n 1, 1) := by decide +kernel
theorem dX7_hall_106 : decode cX7_hall 106 = .ok (.imul, 1) := by decide +kernel
theorem dX7_hall_107 : decode cX7_hall 107 = .ok (.iaload, 1) := by decide +kernel
theorem dX7_hall_108 : decode cX7_hall 108 = .ok (.iastore, 1) := by decide +kernel
theorem dX7_hall_109 : decode cX7_hall 109 = .ok (.aload_n 0, 1) := by decide +kernel
theorem dX7_hall_110 : decode cX7_hall 110 = .ok (.getfield 13, 3) := by decide +kernel
theorem dX7_hall_113 : decode cX7_hall 113 = .ok (.iload_n 1, 1) := by decide +kernel
theorem dX7_hall_114 : decode cX7_hall 114 = .ok (.aload_n 0, 1) := by decide +kernel
theorem dX7_hall_115 : decode cX7_hall 115 = .ok (.getfield 31, 3) := by decide +kernel
theorem dX7_hall_118 : decode cX7_hall 118 = .ok (.iconst 3, 1) := by decide +kernel
theorem dX7_hall_119 : decode cX7_hall 119 = .ok (.iload_n 1, 1) := by decide +kernel
theorem dX7_hall_120 : decode cX7_hall 120 = .ok (.imul, 1) := by decide +kernel
theorem dX7_hall_121 : decode cX7_hall 121 = .ok (.iconst 1, 1) := by decide +kernel
theorem dX7_hall_122 : decode cX7_hall 122 = .ok (.iadd, 1) := by decide +kernel
theorem dX7_hall_123 : decode cX7_hall 123 = .ok (.iaload, 1) := by decide +kernel
theorem dX7_hall_124 : decode cX7_hall 124 = .ok (.iastore, 1) := by decide +kernel
theorem dX7_hall_125 : decode cX7_hall 125 = .ok (.aload_n 0, 1) := by decide +kernel
theorem dX7_hall_126 : decode cX7_hall 126 = .ok (.getfield 16, 3) := by decide +kernel
theorem dX7_hall_129 : decode cX7_hall 129 = .ok (.iload_n 1, 1) := by decide +kernel
theorem dX7_hall_130 : decode cX7_hall 130 = .ok (.aload_n 0, 1) := by decide +kernel
theorem dX7_hall_131 : decode cX7_hall 131 = .ok (.getfield 31, 3) := by decide +kernel
theorem dX7_hall_134 : decode cX7_hall 134 = .ok (.iconst 3, 1) := by decide +kernel
theorem dX7_hall_135 : decode cX7_hall 135 = .ok (.iload_n 1, 1) := by decide +kernel
theorem dX7_hall_136 : decode cX7_hall 136 = .ok (.imul, 1) := by decide +kernel
theorem dX7_hall_137 : decode cX7_hall 137 = .ok (.iconst 2, 1) := by decide +kernel
theorem dX7_hall_138 : decode cX7_hall 138 = .ok (.iadd, 1) := by decide +kernel
theorem dX7_hall_139 : decode cX7_hall 139 = .ok (.iaload, 1) := by decide +kernel
theorem dX7_hall_140 : decode cX7_hall 140 = .ok (.iastore, 1) := by decide +kernel
theorem dX7_hall_141 : decode cX7_hall 141 = .ok (.aload_n 0, 1) := by decide +kernel
theorem dX7_hall_142 : decode cX7_hall 142 = .ok (.getfield 25, 3) := by decide +kernel
theorem dX7_hall_145 : decode cX7_hall 145 = .ok (.iconst 5, 1) := by decide +kernel
theorem dX7_hall_146 : decode cX7_hall 146 = .ok (.iload_n 1, 1) := by decide +kernel
theorem dX7_hall_147 : decode cX7_hall 147 = .ok (.iadd, 1) := by decide +kernel
theorem dX7_hall_148 : decode cX7_hall 148 = .ok (.aload_n 0, 1) := by decide +kernel
theorem dX7_hall_149 : decode cX7_hall 149 = .ok (.getfield 13, 3) := by decide +kernel
theorem dX7_hall_152 : decode cX7_hall 152 = .ok (.iload_n 1, 1) := by decide +kernel
theorem dX7_hall_153 : decode cX7_hall 153 = .ok (.iaload, 1) := by decide +kernel
theorem dX7_hall_154 : decode cX7_hall 154 = .ok (.iastore, 1) := by decide +kernel
theorem dX7_hall_155 : decode cX7_hall 155 = .ok (.aload_n 0, 1) := by decide +kernel
theorem dX7_hall_156 : decode cX7_hall 156 = .ok (.getfield 25, 3) := by decide +kernel
theorem dX7_hall_159 : decode cX7_hall 159 = .ok (.bipush 10, 2) := by decide +kernel
theorem dX7_hall_161 : decode cX7_hall 161 = .ok (.iload_n 1, 1) := by decide +kernel
theorem dX7_hall_162 : decode cX7_hall 162 = .ok (.iadd, 1) := by decide +kernel
theorem dX7_hall_163 : decode cX7_hall 163 = .ok (.aload_n 0, 1) := by decide +kernel
theorem dX7_hall_164 : decode cX7_hall 164 = .ok (.iload_n 1, 1) := by decide +kernel
theorem dX7_hall_165 : decode cX7_hall 165 = .ok (.aload_n 0, 1) := by decide +kernel
theorem dX7_hall_166 : decode cX7_hall 166 = .ok (.getfield 25, 3) := by decide +kernel
theorem dX7_hall_169 : decode cX7_hall 169 = .ok (.iload_n 1, 1) := by decide +kernel
theorem dX7_hall_170 : decode cX7_hall 170 = .ok (.iaload, 1) := by decide +kernel
theorem dX7_hall_171 : decode cX7_hall 171 = .ok (.invokevirtual 117, 3) := by decide +kernel
theorem dX7_hall_174 : decode cX7_hall 174 = .ok (.iastore, 1) := by decide +kernel
theorem dX7_hall_175 : decode cX7_hall 175 = .ok (.iinc 1 1, 3) := by decide +kernel
theorem dX7_hall_178 : decode cX7_hall 178 = .ok (.goto (-91), 3) := by decide +kernel
theorem dX7_hall_181 : decode cX7_hall 181 = .ok (.iconst 0, 1) := by decide +kernel
theorem dX7_hall_182 : decode cX7_hall 182 = .ok (.istore_n 1, 1) := by decide +kernel
theorem dX7_hall_183 : decode cX7_hall 183 = .ok (.iload_n 1, 1) := by decide +kernel
theorem dX7_hall_184 : decode cX7_hall 184 = .ok (.aload_n 0, 1) := by decide +kernel
theorem dX7_hall_185 : decode cX7_hall 185 = .ok (.getfield 114, 3) := by decide +kernel
theorem dX7_hall_188 : decode cX7_hall 188 = .ok (.if_icmp .ge 39, 3) := by decide +kernel
theorem dX7_hall_191 : decode cX7_hall 191 = .ok (.aload_n 0, 1) := by decide +kernel
theorem dX7_hall_192 : decode cX7_hall 192 = .ok (.getfield 19, 3) := by decide +kernel
theorem dX7_hall_195 : decode cX7_hall 195 = .ok (.iload_n 1, 1) := by decide +kernel
theorem dX7_hall_196 : decode cX7_hall 196 = .ok (.aload_n 0, 1) := by decide +kernel
theorem dX7_hall_197 : decode cX7_hall 197 = .ok (.getfield 34, 3) := by decide +kernel
theorem dX7_hall_200 : decode cX7_hall 200 = .ok (.iconst 2, 1) := by decide +kernel
theorem dX7_hall_201 : decode cX7_hall 201 = .ok (.iload_n 1, 1) := by decide +kernel
theorem dX7_hall_202 : decode cX7_hall 202 = .ok (.imul, 1) := by decide +kernel
theorem dX7_hall_203 : decode cX7_hall 203 = .ok (.iaload, 1) := by decide +kernel
theorem dX7_hall_204 : decode cX7_hall 204 = .ok (.iastore, 1) := by decide +kernel
theorem dX7_hall_205 : decode cX7_hall 205 = .ok (.aload_n 0, 1) := by decide +kernel
theorem dX7_hall_206 : decode cX7_hall 206 = .ok (.getfield 22, 3) := by decide +kernel
theorem dX7_hall_209 : decode cX7_hall 209 = .ok (.iload_n 1, 1) := by decide +kernel
theorem dX7_hall_210 : decode cX7_hall 210 = .ok (.aload_n 0, 1) := by decide +kernel
theorem dX7_hall_211 : decode cX7_hall 211 = .ok (.getfield 34, 3) := by decide +kernel
theorem dX7_hall_214 : decode cX7_hall 214 = .ok (.iconst 2, 1) := by decide +kernel
theorem dX7_hall_215 : decode cX7_hall 215 = .ok (.iload_n 1, 1) := by decide +kernel
theorem dX7_hall_216 : decode cX7_hall 216 = .ok (.imul, 1) := by decide +kernel
theorem dX7_hall_217 : decode cX7_hall 217 = .ok (.iconst 1, 1) := by decide +kernel
theorem dX7_hall_218 : decode cX7_hall 218 = .ok (.iadd, 1) := by decide +kernel
theorem dX7_hall_219 : decode cX7_hall 219 = .ok (.iaload, 1) := by decide +kernel
theorem dX7_hall_220 : decode cX7_hall 220 = .ok (.iastore, 1) := by decide +kernel
theorem dX7_hall_221 : decode cX7_hall 221 = .ok (.iinc 1 1, 3) := by decide +kernel
theorem dX7_hall_224 : decode cX7_hall 224 = .ok (.goto (-41), 3) := by decide +kernel
theorem dX7_hall_227 : decode cX7_hall 227 = .ok (.aload_n 0, 1) := by decide +kernel
theorem dX7_hall_228 : decode cX7_hall 228 = .ok (.getfield 25, 3) := by decide +kernel
theorem dX7_hall_231 : decode cX7_hall 231 = .ok (.bipush 15, 2) := by decide +kernel
theorem dX7_hall_233 : decode cX7_hall 233 = .ok (.iconst 1, 1) := by decide +kernel
theorem dX7_hall_234 : decode cX7_hall 234 = .ok (.aload_n 0, 1) := by decide +kernel
theorem dX7_hall_235 : decode cX7_hall 235 = .ok (.getfield 114, 3) := by decide +kernel
theorem dX7_hall_238 : decode cX7_hall 238 = .ok (.ishl, 1) := by decide +kernel
theorem dX7_hall_239 : decode cX7_hall 239 = .ok (.iconst 1, 1) := by decide +kernel
theorem dX7_hall_240 : decode cX7_hall 240 = .ok (.isub, 1) := by decide +kernel
theorem dX7_hall_241 : decode cX7_hall 241 = .ok (.iastore, 1) := by decide +kernel
theorem dX7_hall_242 : decode cX7_hall 242 = .ok (.aload_n 0, 1) := by decide +kernel
theorem dX7_hall_243 : decode cX7_hall 243 = .ok (.iconst 0, 1) := by decide +kernel
theorem dX7_hall_244 : decode cX7_hall 244 = .ok (.putfield 121, 3) := by decide +kernel
theorem dX7_hall_247 : decode cX7_hall 247 = .ok (.aload_n 0, 1) := by decide +kernel
theorem dX7_hall_248 : decode cX7_hall 248 = .ok (.getfield 55, 3) := by decide +kernel
theorem dX7_hall_251 : decode cX7_hall 251 = .ok (.iconst 0, 1) := by decide +kernel
theorem dX7_hall_252 : decode cX7_hall 252 = .ok (.iconst 0, 1) := by decide +kernel
theorem dX7_hall_253 : decode cX7_hall 253 = .ok (.bastore, 1) := by decide +kernel
theorem dX7_hall_254 : decode cX7_hall 254 = .ok (.aload_n 0, 1) := by decide +kernel
theorem dX7_hall_255 : decode cX7_hall 255 = .ok (.getfield 55, 3) := by decide +kernel
theorem dX7_hall_258 : decode cX7_hall 258 = .ok (.iconst 1, 1) := by decide +kernel
theorem dX7_hall_259 : decode cX7_hall 259 = .ok (.iconst 0, 1) := by decide +kernel
theorem dX7_hall_260 : decode cX7_hall 260 = .ok (.bastore, 1) := by decide +kernel
theorem dX7_hall_261 : decode cX7_hall 261 = .ok (.bipush 100, 2) := by decide +kernel
theorem dX7_hall_263 : decode cX7_hall 263 = .ok (.aload_n 0, 1) := by decide +kernel
theorem dX7_hall_264 : decode cX7_hall 264 = .ok (.getfield 108, 3) := by decide +kernel
theorem dX7_hall_267 : decode cX7_hall 267 = .ok (.imul, 1) := by decide +kernel
theorem dX7_hall_268 : decode cX7_hall 268 = .ok (.bipush 10, 2) := by decide +kernel
theorem dX7_hall_270 : decode cX7_hall 270 = .ok (.aload_n 0, 1) := by decide +kernel
theorem dX7_hall_271 : decode cX7_hall 271 = .ok (.getfield 111, 3) := by decide +kernel
theorem dX7_hall_274 : decode cX7_hall 274 = .ok (.imul, 1) := by decide +kernel
theorem dX7_hall_275 : decode cX7_hall 275 = .ok (.iadd, 1) := by decide +kernel
theorem dX7_hall_276 : decode cX7_hall 276 = .ok (.aload_n 0, 1) := by decide +kernel
theorem dX7_hall_277 : decode cX7_hall 277 = .ok (.getfield 114, 3) := by decide +kernel
theorem dX7_hall_280 : decode cX7_hall 280 = .ok (.iadd, 1) := by decide +kernel
theorem dX7_hall_281 : decode cX7_hall 281 = .ok (.ireturn, 1) := by decide +kernel
theorem dX7_isBowl_0 : decode cX7_isBowl 0 = .ok (.iload_n 1, 1) := by decide +kernel
theorem dX7_isBowl_1 : decode cX7_isBowl 1 = .ok (.i2l, 1) := by decide +kernel
theorem dX7_isBowl_2 : decode cX7_isBowl 2 = .ok (.lconst 0, 1) := by decide +kernel
theorem dX7_isBowl_3 : decode cX7_isBowl 3 = .ok (.aload_n 0, 1) := by decide +kernel
theorem dX7_isBowl_4 : decode cX7_isBowl 4 = .ok (.getfield 108, 3) := by decide +kernel
theorem dX7_isBowl_7 : decode cX7_isBowl 7 = .ok (.iconst 1, 1) := by decide +kernel
theorem dX7_isBowl_8 : decode cX7_isBowl 8 = .ok (.isub, 1) := by decide +kernel
theorem dX7_isBowl_9 : decode cX7_isBowl 9 = .ok (.i2l, 1) := by decide +kernel
theorem dX7_isBowl_10 : decode cX7_isBowl 10 = .ok (.invokestatic 64, 3) := by decide +kernel
theorem dX7_isBowl_13 : decode cX7_isBowl 13 = .ok (.ireturn, 1) := by decide +kernel
theorem dX7_isFish_0 : decode cX7_isFish 0 = .ok (.iload_n 1, 1) := by decide +kernel
theorem dX7_isFish_1 : decode cX7_isFish 1 = .ok (.i2l, 1) := by decide +kernel
theorem dX7_isFish_2 : decode cX7_isFish 2 = .ok (.lconst 0, 1) := by decide +kernel
theorem dX7_isFish_3 : decode cX7_isFish 3 = .ok (.aload_n 0, 1) := by decide +kernel
theorem dX7_isFish_4 : decode cX7_isFish 4 = .ok (.getfield 111, 3) := by decide +kernel
theorem dX7_isFish_7 : decode cX7_isFish 7 = .ok (.iconst 1, 1) := by decide +kernel
theorem dX7_isFish_8 : decode cX7_isFish 8 = .ok (.isub, 1) := by decide +kernel
theorem dX7_isFish_9 : decode cX7_isFish 9 = .ok (.i2l, 1) := by decide +kernel
theorem dX7_isFish_10 : decode cX7_isFish 10 = .ok (.invokestatic 64, 3) := by decide +kernel
theorem dX7_isFish_13 : decode cX7_isFish 13 = .ok (.ireturn, 1) := by decide +kernel
theorem dX7_isLip_0 : decode cX7_isLip 0 = .ok (.iload_n 1, 1) := by decide +kernel
theorem dX7_isLip_1 : decode cX7_isLip 1 = .ok (.i2l, 1) := by decide +kernel
theorem dX7_isLip_2 : decode cX7_isLip 2 = .ok (.lconst 0, 1) := by decide +kernel
theorem dX7_isLip_3 : decode cX7_isLip 3 = .ok (.aload_n 0, 1) := by decide +kernel
theorem dX7_isLip_4 : decode cX7_isLip 4 = .ok (.getfield 114, 3) := by decide +kernel
theorem dX7_isLip_7 : decode cX7_isLip 7 = .ok (.iconst 1, 1) := by decide +kernel
theorem dX7_isLip_8 : decode cX7_isLip 8 = .ok (.isub, 1) := by decide +kernel
theorem dX7_isLip_9 : decode cX7_isLip 9 = .ok (.i2l, 1) := by decide +kernel
theorem dX7_isLip_10 : decode cX7_isLip 10 = .ok (.invokestatic 64, 3) := by decide +kernel
theorem dX7_isLip_13 : decode cX7_isLip 13 = .ok (.ireturn, 1) := by decide +kernel
theorem dX7_lasts_0 : decode cX7_lasts 0 = .ok (.aload_n 0, 1) := by decide +kernel
theorem dX7_lasts_1 : decode cX7_lasts 1 = .ok (.getfield 16, 3) := by decide +kernel
theorem dX7_lasts_4 : decode cX7_lasts 4 = .ok (.iload_n 1, 1) := by decide +kernel
theorem dX7_lasts_5 : decode cX7_lasts 5 = .ok (.iaload, 1) := by decide +kernel
theorem dX7_lasts_6 : decode cX7_lasts 6 = .ok (.iconst 2, 1) := by decide +kernel
theorem dX7_lasts_7 : decode cX7_lasts 7 = .ok (.if_icmp .ne 14, 3) := by decide +kernel
theorem dX7_lasts_10 : decode cX7_lasts 10 = .ok (.aload_n 0, 1) := by decide +kernel
theorem dX7_lasts_11 : decode cX7_lasts 11 = .ok (.getfield 7, 3) := by decide +kernel
theorem dX7_lasts_14 : decode cX7_lasts 14 = .ok (.iload_n 2, 1) := by decide +kernel
theorem dX7_lasts_15 : decode cX7_lasts 15 = .ok (.iaload, 1) := by decide +kernel
theorem dX7_lasts_16 : decode cX7_lasts 16 = .ok (.iconst 2, 1) := by decide +kernel
theorem dX7_lasts_17 : decode cX7_lasts 17 = .ok (.idiv, 1) := by decide +kernel
theorem dX7_lasts_18 : decode cX7_lasts 18 = .ok (.goto 9, 3) := by decide +kernel
theorem dX7_lasts_21 : decode cX7_lasts 21 = .ok (.aload_n 0, 1) := by decide +kernel
theorem dX7_lasts_22 : decode cX7_lasts 22 = .ok (.getfield 7, 3) := by decide +kernel
theorem dX7_lasts_25 : decode cX7_lasts 25 = .ok (.iload_n 2, 1) := by decide +kernel
theorem dX7_lasts_26 : decode cX7_lasts 26 = .ok (.iaload, 1) := by decide +kernel
theorem dX7_lasts_27 : decode cX7_lasts 27 = .ok (.istore_n 3, 1) := by decide +kernel
theorem dX7_lasts_28 : decode cX7_lasts 28 = .ok (.iload_n 3, 1) := by decide +kernel
theorem dX7_lasts_29 : decode cX7_lasts 29 = .ok (.iconst 1, 1) := by decide +kernel
theorem dX7_lasts_30 : decode cX7_lasts 30 = .ok (.if_icmp .ge 7, 3) := by decide +kernel
theorem dX7_lasts_33 : decode cX7_lasts 33 = .ok (.iconst 1, 1) := by decide +kernel
theorem dX7_lasts_34 : decode cX7_lasts 34 = .ok (.goto 4, 3) := by decide +kernel
theorem dX7_lasts_37 : decode cX7_lasts 37 = .ok (.iload_n 3, 1) := by decide +kernel
theorem dX7_lasts_38 : decode cX7_lasts 38 = .ok (.ireturn, 1) := by decide +kernel
theorem dX7_learn_0 : decode cX7_learn 0 = .ok (.aload_n 0, 1) := by decide +kernel
theorem dX7_learn_1 : decode cX7_learn 1 = .ok (.getfield 25, 3) := by decide +kernel
theorem dX7_learn_4 : decode cX7_learn 4 = .ok (.bipush 17, 2) := by decide +kernel
theorem dX7_learn_6 : decode cX7_learn 6 = .ok (.iload_n 1, 1) := by decide +kernel
theorem dX7_learn_7 : decode cX7_learn 7 = .ok (.imul, 1) := by decide +kernel
theorem dX7_learn_8 : decode cX7_learn 8 = .ok (.iconst 5, 1) := by decide +kernel
theorem dX7_learn_9 : decode cX7_learn 9 = .ok (.iadd, 1) := by decide +kernel
theorem dX7_learn_10 : decode cX7_learn 10 = .ok (.iload_n 2, 1) := by decide +kernel
theorem dX7_learn_11 : decode cX7_learn 11 = .ok (.iadd, 1) := by decide +kernel
theorem dX7_learn_12 : decode cX7_learn 12 = .ok (.iload_n 3, 1) := by decide +kernel
theorem dX7_learn_13 : decode cX7_learn 13 = .ok (.iastore, 1) := by decide +kernel
theorem dX7_learn_14 : decode cX7_learn 14 = .ok (.aload_n 0, 1) := by decide +kernel
theorem dX7_learn_15 : decode cX7_learn 15 = .ok (.getfield 25, 3) := by decide +kernel
theorem dX7_learn_18 : decode cX7_learn 18 = .ok (.bipush 17, 2) := by decide +kernel
theorem dX7_learn_20 : decode cX7_learn 20 = .ok (.iload_n 1, 1) := by decide +kernel
theorem dX7_learn_21 : decode cX7_learn 21 = .ok (.imul, 1) := by decide +kernel
theorem dX7_learn_22 : decode cX7_learn 22 = .ok (.bipush 10, 2) := by decide +kernel
theorem dX7_learn_24 : decode cX7_learn 24 = .ok (.iadd, 1) := by decide +kernel
theorem dX7_learn_25 : decode cX7_learn 25 = .ok (.iload_n 2, 1) := by decide +kernel
theorem dX7_learn_26 : decode cX7_learn 26 = .ok (.iadd, 1) := by decide +kernel
theorem dX7_learn_27 : decode cX7_learn 27 = .ok (.aload_n 0, 1) := by decide +kernel
theorem dX7_learn_28 : decode cX7_learn 28 = .ok (.iload_n 2, 1) := by decide +kernel
theorem dX7_learn_29 : decode cX7_learn 29 = .ok (.aload_n 0, 1) := by decide +kernel
theorem dX7_learn_30 : decode cX7_learn 30 = .ok (.getfield 25, 3) := by decide +kernel
theorem dX7_learn_33 : decode cX7_learn 33 = .ok (.bipush 17, 2) := by decide +kernel
theorem dX7_learn_35 : decode cX7_learn 35 = .ok (.iload_n 1, 1) := by decide +kernel
theorem dX7_learn_36 : decode cX7_learn 36 = .ok (.imul, 1) := by decide +kernel
theorem dX7_learn_37 : decode cX7_learn 37 = .ok (.iload_n 2, 1) := by decide +kernel
theorem dX7_learn_38 : decode cX7_learn 38 = .ok (.iadd, 1) := by decide +kernel
theorem dX7_learn_39 : decode cX7_learn 39 = .ok (.iaload, 1) := by decide +kernel
theorem dX7_learn_40 : decode cX7_learn 40 = .ok (.invokevirtual 117, 3) := by decide +kernel
theorem dX7_learn_43 : decode cX7_learn 43 = .ok (.iastore, 1) := by decide +kernel
theorem dX7_learn_44 : decode cX7_learn 44 = .ok (.return_, 1) := by decide +kernel
theorem dX7_forget_0 : decode cX7_forget 0 = .ok (.aload_n 0, 1) := by decide +kernel
theorem dX7_forget_1 : decode cX7_forget 1 = .ok (.getfield 25, 3) := by decide +kernel
theorem dX7_forget_4 : decode cX7_forget 4 = .ok (.bipush 17, 2) := by decide +kernel
theorem dX7_forget_6 : decode cX7_forget 6 = .ok (.iload_n 1, 1) := by decide +kernel
theorem dX7_forget_7 : decode cX7_forget 7 = .ok (.imul, 1) := by decide +kernel
theorem dX7_forget_8 : decode cX7_forget 8 = .ok (.iconst 5, 1) := by decide +kernel
theorem dX7_forget_9 : decode cX7_forget 9 = .ok (.iadd, 1) := by decide +kernel
theorem dX7_forget_10 : decode cX7_forget 10 = .ok (.iload_n 2, 1) := by decide +kernel
theorem dX7_forget_11 : decode cX7_forget 11 = .ok (.iadd, 1) := by decide +kernel
theorem dX7_forget_12 : decode cX7_forget 12 = .ok (.bipush (-9), 2) := by decide +kernel
theorem dX7_forget_14 : decode cX7_forget 14 = .ok (.iastore, 1) := by decide +kernel
theorem dX7_forget_15 : decode cX7_forget 15 = .ok (.aload_n 0, 1) := by decide +kernel
theorem dX7_forget_16 : decode cX7_forget 16 = .ok (.getfield 25, 3) := by decide +kernel
theorem dX7_forget_19 : decode cX7_forget 19 = .ok (.bipush 17, 2) := by decide +kernel
theorem dX7_forget_21 : decode cX7_forget 21 = .ok (.iload_n 1, 1) := by decide +kernel
theorem dX7_forget_22 : decode cX7_forget 22 = .ok (.imul, 1) := by decide +kernel
theorem dX7_forget_23 : decode cX7_forget 23 = .ok (.bipush 10, 2) := by decide +kernel
theorem dX7_forget_25 : decode cX7_forget 25 = .ok (.iadd, 1) := by decide +kernel
theorem dX7_forget_26 : decode cX7_forget 26 = .ok (.iload_n 2, 1) := by decide +kernel
theorem dX7_forget_27 : decode cX7_forget 27 = .ok (.iadd, 1) := by decide +kernel
theorem dX7_forget_28 : decode cX7_forget 28 = .ok (.iconst 0, 1) := by decide +kernel
theorem dX7_forget_29 : decode cX7_forget 29 = .ok (.iastore, 1) := by decide +kernel
theorem dX7_forget_30 : decode cX7_forget 30 = .ok (.return_, 1) := by decide +kernel
theorem dX7_knows_0 : decode cX7_knows 0 = .ok (.aload_n 0, 1) := by decide +kernel
theorem dX7_knows_1 : decode cX7_knows 1 = .ok (.getfield 25, 3) := by decide +kernel
theorem dX7_knows_4 : decode cX7_knows 4 = .ok (.bipush 17, 2) := by decide +kernel
theorem dX7_knows_6 : decode cX7_knows 6 = .ok (.iload_n 1, 1) := by decide +kernel
theorem dX7_knows_7 : decode cX7_knows 7 = .ok (.imul, 1) := by decide +kernel
theorem dX7_knows_8 : decode cX7_knows 8 = .ok (.iconst 5, 1) := by decide +kernel
theorem dX7_knows_9 : decode cX7_knows 9 = .ok (.iadd, 1) := by decide +kernel
theorem dX7_knows_10 : decode cX7_knows 10 = .ok (.iload_n 2, 1) := by decide +kernel
theorem dX7_knows_11 : decode cX7_knows 11 = .ok (.iadd, 1) := by decide +kernel
theorem dX7_knows_12 : decode cX7_knows 12 = .ok (.iaload, 1) := by decide +kernel
theorem dX7_knows_13 : decode cX7_knows 13 = .ok (.bipush (-9), 2) := by decide +kernel
theorem dX7_knows_15 : decode cX7_knows 15 = .ok (.if_icmp .eq 7, 3) := by decide +kernel
theorem dX7_knows_18 : decode cX7_knows 18 = .ok (.iconst 1, 1) := by decide +kernel
theorem dX7_knows_19 : decode cX7_knows 19 = .ok (.goto 4, 3) := by decide +kernel
theorem dX7_knows_22 : decode cX7_knows 22 = .ok (.iconst 0, 1) := by decide +kernel
theorem dX7_knows_23 : decode cX7_knows 23 = .ok (.ireturn, 1) := by decide +kernel
theorem dX7_bowlOf_0 : decode cX7_bowlOf 0 = .ok (.aload_n 0, 1) := by decide +kernel
theorem dX7_bowlOf_1 : decode cX7_bowlOf 1 = .ok (.getfield 19, 3) := by decide +kernel
theorem dX7_bowlOf_4 : decode cX7_bowlOf 4 = .ok (.iload_n 2, 1) := by decide +kernel
theorem dX7_bowlOf_5 : decode cX7_bowlOf 5 = .ok (.iaload, 1) := by decide +kernel
theorem dX7_bowlOf_6 : decode cX7_bowlOf 6 = .ok (.aload_n 0, 1) := by decide +kernel
theorem dX7_bowlOf_7 : decode cX7_bowlOf 7 = .ok (.getfield 25, 3) := by decide +kernel
theorem dX7_bowlOf_10 : decode cX7_bowlOf 10 = .ok (.bipush 17, 2) := by decide +kernel
theorem dX7_bowlOf_12 : decode cX7_bowlOf 12 = .ok (.iload_n 1, 1) := by decide +kernel
theorem dX7_bowlOf_13 : decode cX7_bowlOf 13 = .ok (.imul, 1) := by decide +kernel
theorem dX7_bowlOf_14 : decode cX7_bowlOf 14 = .ok (.bipush 16, 2) := by decide +kernel
theorem dX7_bowlOf_16 : decode cX7_bowlOf 16 = .ok (.iadd, 1) := by decide +kernel
theorem dX7_bowlOf_17 : decode cX7_bowlOf 17 = .ok (.iaload, 1) := by decide +kernel
theorem dX7_bowlOf_18 : decode cX7_bowlOf 18 = .ok (.iadd, 1) := by decide +kernel
theorem dX7_bowlOf_19 : decode cX7_bowlOf 19 = .ok (.aload_n 0, 1) := by decide +kernel
theorem dX7_bowlOf_20 : decode cX7_bowlOf 20 = .ok (.getfield 108, 3) := by decide +kernel
theorem dX7_bowlOf_23 : decode cX7_bowlOf 23 = .ok (.irem, 1) := by decide +kernel
theorem dX7_bowlOf_24 : decode cX7_bowlOf 24 = .ok (.ireturn, 1) := by decide +kernel
theorem dX7_echo_0 : decode cX7_echo 0 = .ok (.iconst 0, 1) := by decide +kernel
theorem dX7_echo_1 : decode cX7_echo 1 = .ok (.istore_n 3, 1) := by decide +kernel
theorem dX7_echo_2 : decode cX7_echo 2 = .ok (.iconst 0, 1) := by decide +kernel
theorem dX7_echo_3 : decode cX7_echo 3 = .ok (.istore 4, 2) := by decide +kernel
theorem dX7_echo_5 : decode cX7_echo 5 = .ok (.iconst 0, 1) := by decide +kernel
theorem dX7_echo_6 : decode cX7_echo 6 = .ok (.istore 5, 2) := by decide +kernel
theorem dX7_echo_8 : decode cX7_echo 8 = .ok (.iload 5, 2) := by decide +kernel
theorem dX7_echo_10 : decode cX7_echo 10 = .ok (.aload_n 0, 1) := by decide +kernel
theorem dX7_echo_11 : decode cX7_echo 11 = .ok (.getfield 111, 3) := by decide +kernel
theorem dX7_echo_14 : decode cX7_echo 14 = .ok (.if_icmp .ge 71, 3) := by decide +kernel
theorem dX7_echo_17 : decode cX7_echo 17 = .ok (.iload 5, 2) := by decide +kernel
theorem dX7_echo_19 : decode cX7_echo 19 = .ok (.iload_n 2, 1) := by decide +kernel
theorem dX7_echo_20 : decode cX7_echo 20 = .ok (.if_icmp .eq 59, 3) := by decide +kernel
theorem dX7_echo_23 : decode cX7_echo 23 = .ok (.aload_n 0, 1) := by decide +kernel
theorem dX7_echo_24 : decode cX7_echo 24 = .ok (.getfield 25, 3) := by decide +kernel
theorem dX7_echo_27 : decode cX7_echo 27 = .ok (.bipush 17, 2) := by decide +kernel
theorem dX7_echo_29 : decode cX7_echo 29 = .ok (.iload_n 1, 1) := by decide +kernel
theorem dX7_echo_30 : decode cX7_echo 30 = .ok (.imul, 1) := by decide +kernel
theorem dX7_echo_31 : decode cX7_echo 31 = .ok (.iload 5, 2) := by decide +kernel
theorem dX7_echo_33 : decode cX7_echo 33 = .ok (.iadd, 1) := by decide +kernel
theorem dX7_echo_34 : decode cX7_echo 34 = .ok (.iaload, 1) := by decide +kernel
theorem dX7_echo_35 : decode cX7_echo 35 = .ok (.aload_n 0, 1) := by decide +kernel
theorem dX7_echo_36 : decode cX7_echo 36 = .ok (.getfield 25, 3) := by decide +kernel
theorem dX7_echo_39 : decode cX7_echo 39 = .ok (.bipush 17, 2) := by decide +kernel
theorem dX7_echo_41 : decode cX7_echo 41 = .ok (.iload_n 1, 1) := by decide +kernel
theorem dX7_echo_42 : decode cX7_echo 42 = .ok (.imul, 1) := by decide +kernel
theorem dX7_echo_43 : decode cX7_echo 43 = .ok (.iload_n 2, 1) := by decide +kernel
theorem dX7_echo_44 : decode cX7_echo 44 = .ok (.iadd, 1) := by decide +kernel
theorem dX7_echo_45 : decode cX7_echo 45 = .ok (.iaload, 1) := by decide +kernel
theorem dX7_echo_46 : decode cX7_echo 46 = .ok (.if_icmp .ne 33, 3) := by decide +kernel
theorem dX7_echo_49 : decode cX7_echo 49 = .ok (.aload_n 0, 1) := by decide +kernel
theorem dX7_echo_50 : decode cX7_echo 50 = .ok (.iload_n 1, 1) := by decide +kernel
theorem dX7_echo_51 : decode cX7_echo 51 = .ok (.iload 5, 2) := by decide +kernel
theorem dX7_echo_53 : decode cX7_echo 53 = .ok (.invokevirtual 124, 3) := by decide +kernel
theorem dX7_echo_56 : decode cX7_echo 56 = .ok (.ifCond .eq 23, 3) := by decide +kernel
theorem dX7_echo_59 : decode cX7_echo 59 = .ok (.iload_n 3, 1) := by decide +kernel
theorem dX7_echo_60 : decode cX7_echo 60 = .ok (.aload_n 0, 1) := by decide +kernel
theorem dX7_echo_61 : decode cX7_echo 61 = .ok (.getfield 25, 3) := by decide +kernel
theorem dX7_echo_64 : decode cX7_echo 64 = .ok (.bipush 17, 2) := by decide +kernel
theorem dX7_echo_66 : decode cX7_echo 66 = .ok (.iload_n 1, 1) := by decide +kernel
theorem dX7_echo_67 : decode cX7_echo 67 = .ok (.imul, 1) := by decide +kernel
theorem dX7_echo_68 : decode cX7_echo 68 = .ok (.iconst 5, 1) := by decide +kernel
theorem dX7_echo_69 : decode cX7_echo 69 = .ok (.iadd, 1) := by decide +kernel
theorem dX7_echo_70 : decode cX7_echo 70 = .ok (.iload 5, 2) := by decide +kernel
theorem dX7_echo_72 : decode cX7_echo 72 = .ok (.iadd, 1) := by decide +kernel
theorem dX7_echo_73 : decode cX7_echo 73 = .ok (.iaload, 1) := by decide +kernel
theorem dX7_echo_74 : decode cX7_echo 74 = .ok (.iadd, 1) := by decide +kernel
theorem dX7_echo_75 : decode cX7_echo 75 = .ok (.istore_n 3, 1) := by decide +kernel
theorem dX7_echo_76 : decode cX7_echo 76 = .ok (.iinc 4 1, 3) := by decide +kernel
theorem dX7_echo_79 : decode cX7_echo 79 = .ok (.iinc 5 1, 3) := by decide +kernel
theorem dX7_echo_82 : decode cX7_echo 82 = .ok (.goto (-74), 3) := by decide +kernel
theorem dX7_echo_85 : decode cX7_echo 85 = .ok (.iload 4, 2) := by decide +kernel
theorem dX7_echo_87 : decode cX7_echo 87 = .ok (.ifCond .le 13, 3) := by decide +kernel
theorem dX7_echo_90 : decode cX7_echo 90 = .ok (.aload_n 0, 1) := by decide +kernel
theorem dX7_echo_91 : decode cX7_echo 91 = .ok (.iload_n 1, 1) := by decide +kernel
theorem dX7_echo_92 : decode cX7_echo 92 = .ok (.iload_n 2, 1) := by decide +kernel
theorem dX7_echo_93 : decode cX7_echo 93 = .ok (.iload_n 3, 1) := by decide +kernel
theorem dX7_echo_94 : decode cX7_echo 94 = .ok (.bipush 10, 2) := by decide +kernel
theorem dX7_echo_96 : decode cX7_echo 96 = .ok (.irem, 1) := by decide +kernel
theorem dX7_echo_97 : decode cX7_echo 97 = .ok (.invokevirtual 127, 3) := by decide +kernel
theorem dX7_echo_100 : decode cX7_echo 100 = .ok (.return_, 1) := by decide +kernel
theorem dX7_passOn_0 : decode cX7_passOn 0 = .ok (.bipush 17, 2) := by decide +kernel
theorem dX7_passOn_2 : decode cX7_passOn 2 = .ok (.iload_n 1, 1) := by decide +kernel
theorem dX7_passOn_3 : decode cX7_passOn 3 = .ok (.imul, 1) := by decide +kernel
theorem dX7_passOn_4 : decode cX7_passOn 4 = .ok (.istore_n 2, 1) := by decide +kernel
theorem dX7_passOn_5 : decode cX7_passOn 5 = .ok (.iconst 0, 1) := by decide +kernel
theorem dX7_passOn_6 : decode cX7_passOn 6 = .ok (.istore_n 3, 1) := by decide +kernel
theorem dX7_passOn_7 : decode cX7_passOn 7 = .ok (.iload_n 3, 1) := by decide +kernel
theorem dX7_passOn_8 : decode cX7_passOn 8 = .ok (.aload_n 0, 1) := by decide +kernel
theorem dX7_passOn_9 : decode cX7_passOn 9 = .ok (.getfield 111, 3) := by decide +kernel
theorem dX7_passOn_12 : decode cX7_passOn 12 = .ok (.if_icmp .ge 63, 3) := by decide +kernel
theorem dX7_passOn_15 : decode cX7_passOn 15 = .ok (.aload_n 0, 1) := by decide +kernel
theorem dX7_passOn_16 : decode cX7_passOn 16 = .ok (.iload_n 1, 1) := by decide +kernel
theorem dX7_passOn_17 : decode cX7_passOn 17 = .ok (.iload_n 3, 1) := by decide +kernel
theorem dX7_passOn_18 : decode cX7_passOn 18 = .ok (.invokevirtual 124, 3) := by decide +kernel
theorem dX7_passOn_21 : decode cX7_passOn 21 = .ok (.ifCond .eq 48, 3) := by decide +kernel
theorem dX7_passOn_24 : decode cX7_passOn 24 = .ok (.aload_n 0, 1) := by decide +kernel
theorem dX7_passOn_25 : decode cX7_passOn 25 = .ok (.getfield 16, 3) := by decide +kernel
theorem dX7_passOn_28 : decode cX7_passOn 28 = .ok (.iload_n 3, 1) := by decide +kernel
theorem dX7_passOn_29 : decode cX7_passOn 29 = .ok (.iaload, 1) := by decide +kernel
theorem dX7_passOn_30 : decode cX7_passOn 30 = .ok (.iconst 1, 1) := by decide +kernel
theorem dX7_passOn_31 : decode cX7_passOn 31 = .ok (.if_icmp .eq 38, 3) := by decide +kernel
theorem dX7_passOn_34 : decode cX7_passOn 34 = .ok (.aload_n 0, 1) := by decide +kernel
theorem dX7_passOn_35 : decode cX7_passOn 35 = .ok (.getfield 25, 3) := by decide +kernel
theorem dX7_passOn_38 : decode cX7_passOn 38 = .ok (.iload_n 2, 1) := by decide +kernel
theorem dX7_passOn_39 : decode cX7_passOn 39 = .ok (.bipush 10, 2) := by decide +kernel
theorem dX7_passOn_41 : decode cX7_passOn 41 = .ok (.iadd, 1) := by decide +kernel
theorem dX7_passOn_42 : decode cX7_passOn 42 = .ok (.iload_n 3, 1) := by decide +kernel
theorem dX7_passOn_43 : decode cX7_passOn 43 = .ok (.iadd, 1) := by decide +kernel
theorem dX7_passOn_44 : decode cX7_passOn 44 = .ok (.dup2, 1) := by decide +kernel
theorem dX7_passOn_45 : decode cX7_passOn 45 = .ok (.iaload, 1) := by decide +kernel
theorem dX7_passOn_46 : decode cX7_passOn 46 = .ok (.iconst 1, 1) := by decide +kernel
theorem dX7_passOn_47 : decode cX7_passOn 47 = .ok (.isub, 1) := by decide +kernel
theorem dX7_passOn_48 : decode cX7_passOn 48 = .ok (.iastore, 1) := by decide +kernel
theorem dX7_passOn_49 : decode cX7_passOn 49 = .ok (.aload_n 0, 1) := by decide +kernel
theorem dX7_passOn_50 : decode cX7_passOn 50 = .ok (.getfield 25, 3) := by decide +kernel
theorem dX7_passOn_53 : decode cX7_passOn 53 = .ok (.iload_n 2, 1) := by decide +kernel
theorem dX7_passOn_54 : decode cX7_passOn 54 = .ok (.bipush 10, 2) := by decide +kernel
theorem dX7_passOn_56 : decode cX7_passOn 56 = .ok (.iadd, 1) := by decide +kernel
theorem dX7_passOn_57 : decode cX7_passOn 57 = .ok (.iload_n 3, 1) := by decide +kernel
theorem dX7_passOn_58 : decode cX7_passOn 58 = .ok (.iadd, 1) := by decide +kernel
theorem dX7_passOn_59 : decode cX7_passOn 59 = .ok (.iaload, 1) := by decide +kernel
theorem dX7_passOn_60 : decode cX7_passOn 60 = .ok (.ifCond .gt 9, 3) := by decide +kernel
theorem dX7_passOn_63 : decode cX7_passOn 63 = .ok (.aload_n 0, 1) := by decide +kernel
theorem dX7_passOn_64 : decode cX7_passOn 64 = .ok (.iload_n 1, 1) := by decide +kernel
theorem dX7_passOn_65 : decode cX7_passOn 65 = .ok (.iload_n 3, 1) := by decide +kernel
theorem dX7_passOn_66 : decode cX7_passOn 66 = .ok (.invokevirtual 131, 3) := by decide +kernel
theorem dX7_passOn_69 : decode cX7_passOn 69 = .ok (.iinc 3 1, 3) := by decide +kernel
theorem dX7_passOn_72 : decode cX7_passOn 72 = .ok (.goto (-65), 3) := by decide +kernel
theorem dX7_passOn_75 : decode cX7_passOn 75 = .ok (.iconst 0, 1) := by decide +kernel
theorem dX7_passOn_76 : decode cX7_passOn 76 = .ok (.istore_n 3, 1) := by decide +kernel
theorem dX7_passOn_77 : decode cX7_passOn 77 = .ok (.iload_n 3, 1) := by decide +kernel
theorem dX7_passOn_78 : decode cX7_passOn 78 = .ok (.aload_n 0, 1) := by decide +kernel
theorem dX7_passOn_79 : decode cX7_passOn 79 = .ok (.getfield 114, 3) := by decide +kernel
theorem dX7_passOn_82 : decode cX7_passOn 82 = .ok (.if_icmp .ge 109, 3) := by decide +kernel
theorem dX7_passOn_85 : decode cX7_passOn 85 = .ok (.iconst 0, 1) := by decide +kernel
theorem dX7_passOn_86 : decode cX7_passOn 86 = .ok (.istore 4, 2) := by decide +kernel
theorem dX7_passOn_88 : decode cX7_passOn 88 = .ok (.iload 4, 2) := by decide +kernel
theorem dX7_passOn_90 : decode cX7_passOn 90 = .ok (.aload_n 0, 1) := by decide +kernel
theorem dX7_passOn_91 : decode cX7_passOn 91 = .ok (.getfield 111, 3) := by decide +kernel
theorem dX7_passOn_94 : decode cX7_passOn 94 = .ok (.if_icmp .ge 91, 3) := by decide +kernel
theorem dX7_passOn_97 : decode cX7_passOn 97 = .ok (.aload_n 0, 1) := by decide +kernel
theorem dX7_passOn_98 : decode cX7_passOn 98 = .ok (.getfield 25, 3) := by decide +kernel
theorem dX7_passOn_101 : decode cX7_passOn 101 = .ok (.iload_n 2, 1) := by decide +kernel
theorem dX7_passOn_102 : decode cX7_passOn 102 = .ok (.bipush 15, 2) := by decide +kernel
theorem dX7_passOn_104 : decode cX7_passOn 104 = .ok (.iadd, 1) := by decide +kernel
theorem dX7_passOn_105 : decode cX7_passOn 105 = .ok (.iaload, 1) := by decide +kernel
theorem dX7_passOn_106 : decode cX7_passOn 106 = .ok (.iload_n 3, 1) := by decide +kernel
theorem dX7_passOn_107 : decode cX7_passOn 107 = .ok (.invokestatic 80, 3) := by decide +kernel
theorem dX7_passOn_110 : decode cX7_passOn 110 = .ok (.ifCond .eq 69, 3) := by decide +kernel
theorem dX7_passOn_113 : decode cX7_passOn 113 = .ok (.aload_n 0, 1) := by decide +kernel
theorem dX7_passOn_114 : decode cX7_passOn 114 = .ok (.getfield 25, 3) := by decide +kernel
theorem dX7_passOn_117 : decode cX7_passOn 117 = .ok (.iload_n 2, 1) := by decide +kernel
theorem dX7_passOn_118 : decode cX7_passOn 118 = .ok (.iload 4, 2) := by decide +kernel
theorem dX7_passOn_120 : decode cX7_passOn 120 = .ok (.iadd, 1) := by decide +kernel
theorem dX7_passOn_121 : decode cX7_passOn 121 = .ok (.iaload, 1) := by decide +kernel
theorem dX7_passOn_122 : decode cX7_passOn 122 = .ok (.aload_n 0, 1) := by decide +kernel
theorem dX7_passOn_123 : decode cX7_passOn 123 = .ok (.iload_n 1, 1) := by decide +kernel
theorem dX7_passOn_124 : decode cX7_passOn 124 = .ok (.iload_n 3, 1) := by decide +kernel
theorem dX7_passOn_125 : decode cX7_passOn 125 = .ok (.invokevirtual 135, 3) := by decide +kernel
theorem dX7_passOn_128 : decode cX7_passOn 128 = .ok (.if_icmp .ne 51, 3) := by decide +kernel
theorem dX7_passOn_131 : decode cX7_passOn 131 = .ok (.aload_n 0, 1) := by decide +kernel
theorem dX7_passOn_132 : decode cX7_passOn 132 = .ok (.iload_n 1, 1) := by decide +kernel
theorem dX7_passOn_133 : decode cX7_passOn 133 = .ok (.iload 4, 2) := by decide +kernel
theorem dX7_passOn_135 : decode cX7_passOn 135 = .ok (.aload_n 0, 1) := by decide +kernel
theorem dX7_passOn_136 : decode cX7_passOn 136 = .ok (.iload_n 1, 1) := by decide +kernel
theorem dX7_passOn_137 : decode cX7_passOn 137 = .ok (.iload 4, 2) := by decide +kernel
theorem dX7_passOn_139 : decode cX7_passOn 139 = .ok (.invokevirtual 124, 3) := by decide +kernel
theorem dX7_passOn_142 : decode cX7_passOn 142 = .ok (.ifCond .eq 17, 3) := by decide +kernel
theorem dX7_passOn_145 : decode cX7_passOn 145 = .ok (.aload_n 0, 1) := by decide +kernel
theorem dX7_passOn_146 : decode cX7_passOn 146 = .ok (.getfield 25, 3) := by decide +kernel
theorem dX7_passOn_149 : decode cX7_passOn 149 = .ok (.iload_n 2, 1) := by decide +kernel
theorem dX7_passOn_150 : decode cX7_passOn 150 = .ok (.iconst 5, 1) := by decide +kernel
theorem dX7_passOn_151 : decode cX7_passOn 151 = .ok (.iadd, 1) := by decide +kernel
theorem dX7_passOn_152 : decode cX7_passOn 152 = .ok (.iload 4, 2) := by decide +kernel
theorem dX7_passOn_154 : decode cX7_passOn 154 = .ok (.iadd, 1) := by decide +kernel
theorem dX7_passOn_155 : decode cX7_passOn 155 = .ok (.iaload, 1) := by decide +kernel
theorem dX7_passOn_156 : decode cX7_passOn 156 = .ok (.goto 20, 3) := by decide +kernel
theorem dX7_passOn_159 : decode cX7_passOn 159 = .ok (.aload_n 0, 1) := by decide +kernel
theorem dX7_passOn_160 : decode cX7_passOn 160 = .ok (.getfield 13, 3) := by decide +kernel
theorem dX7_passOn_163 : decode cX7_passOn 163 = .ok (.iload 4, 2) := by decide +kernel
theorem dX7_passOn_165 : decode cX7_passOn 165 = .ok (.iaload, 1) := by decide +kernel
theorem dX7_passOn_166 : decode cX7_passOn 166 = .ok (.aload_n 0, 1) := by decide +kernel
theorem dX7_passOn_167 : decode cX7_passOn 167 = .ok (.getfield 22, 3) := by decide +kernel
theorem dX7_passOn_170 : decode cX7_passOn 170 = .ok (.iload_n 3, 1) := by decide +kernel
theorem dX7_passOn_171 : decode cX7_passOn 171 = .ok (.iaload, 1) := by decide +kernel
theorem dX7_passOn_172 : decode cX7_passOn 172 = .ok (.iadd, 1) := by decide +kernel
theorem dX7_passOn_173 : decode cX7_passOn 173 = .ok (.bipush 10, 2) := by decide +kernel
theorem dX7_passOn_175 : decode cX7_passOn 175 = .ok (.irem, 1) := by decide +kernel
theorem dX7_passOn_176 : decode cX7_passOn 176 = .ok (.invokevirtual 127, 3) := by decide +kernel
theorem dX7_passOn_179 : decode cX7_passOn 179 = .ok (.iinc 4 1, 3) := by decide +kernel
theorem dX7_passOn_182 : decode cX7_passOn 182 = .ok (.goto (-94), 3) := by decide +kernel
theorem dX7_passOn_185 : decode cX7_passOn 185 = .ok (.iinc 3 1, 3) := by decide +kernel
theorem dX7_passOn_188 : decode cX7_passOn 188 = .ok (.goto (-111), 3) := by decide +kernel
theorem dX7_passOn_191 : decode cX7_passOn 191 = .ok (.iconst 0, 1) := by decide +kernel
theorem dX7_passOn_192 : decode cX7_passOn 192 = .ok (.istore_n 3, 1) := by decide +kernel
theorem dX7_passOn_193 : decode cX7_passOn 193 = .ok (.iload_n 3, 1) := by decide +kernel
theorem dX7_passOn_194 : decode cX7_passOn 194 = .ok (.aload_n 0, 1) := by decide +kernel
theorem dX7_passOn_195 : decode cX7_passOn 195 = .ok (.getfield 111, 3) := by decide +kernel
theorem dX7_passOn_198 : decode cX7_passOn 198 = .ok (.if_icmp .ge 25, 3) := by decide +kernel
theorem dX7_passOn_201 : decode cX7_passOn 201 = .ok (.aload_n 0, 1) := by decide +kernel
theorem dX7_passOn_202 : decode cX7_passOn 202 = .ok (.getfield 16, 3) := by decide +kernel
theorem dX7_passOn_205 : decode cX7_passOn 205 = .ok (.iload_n 3, 1) := by decide +kernel
theorem dX7_passOn_206 : decode cX7_passOn 206 = .ok (.iaload, 1) := by decide +kernel
theorem dX7_passOn_207 : decode cX7_passOn 207 = .ok (.iconst 3, 1) := by decide +kernel
theorem dX7_passOn_208 : decode cX7_passOn 208 = .ok (.if_icmp .ne 9, 3) := by decide +kernel
theorem dX7_passOn_211 : decode cX7_passOn 211 = .ok (.aload_n 0, 1) := by decide +kernel
theorem dX7_passOn_212 : decode cX7_passOn 212 = .ok (.iload_n 1, 1) := by decide +kernel
theorem dX7_passOn_213 : decode cX7_passOn 213 = .ok (.iload_n 3, 1) := by decide +kernel
theorem dX7_passOn_214 : decode cX7_passOn 214 = .ok (.invokevirtual 138, 3) := by decide +kernel
theorem dX7_passOn_217 : decode cX7_passOn 217 = .ok (.iinc 3 1, 3) := by decide +kernel
theorem dX7_passOn_220 : decode cX7_passOn 220 = .ok (.goto (-27), 3) := by decide +kernel
theorem dX7_passOn_223 : decode cX7_passOn 223 = .ok (.aload_n 0, 1) := by decide +kernel
theorem dX7_passOn_224 : decode cX7_passOn 224 = .ok (.getfield 25, 3) := by decide +kernel
theorem dX7_passOn_227 : decode cX7_passOn 227 = .ok (.iload_n 2, 1) := by decide +kernel
theorem dX7_passOn_228 : decode cX7_passOn 228 = .ok (.bipush 16, 2) := by decide +kernel
theorem dX7_passOn_230 : decode cX7_passOn 230 = .ok (.iadd, 1) := by decide +kernel
theorem dX7_passOn_231 : decode cX7_passOn 231 = .ok (.dup2, 1) := by decide +kernel
theorem dX7_passOn_232 : decode cX7_passOn 232 = .ok (.iaload, 1) := by decide +kernel
theorem dX7_passOn_233 : decode cX7_passOn 233 = .ok (.iconst 1, 1) := by decide +kernel
theorem dX7_passOn_234 : decode cX7_passOn 234 = .ok (.iadd, 1) := by decide +kernel
theorem dX7_passOn_235 : decode cX7_passOn 235 = .ok (.iastore, 1) := by decide +kernel
theorem dX7_passOn_236 : decode cX7_passOn 236 = .ok (.return_, 1) := by decide +kernel
theorem dX7_knowing_0 : decode cX7_knowing 0 = .ok (.iconst 0, 1) := by decide +kernel
theorem dX7_knowing_1 : decode cX7_knowing 1 = .ok (.istore_n 3, 1) := by decide +kernel
theorem dX7_knowing_2 : decode cX7_knowing 2 = .ok (.iconst 0, 1) := by decide +kernel
theorem dX7_knowing_3 : decode cX7_knowing 3 = .ok (.istore 4, 2) := by decide +kernel
theorem dX7_knowing_5 : decode cX7_knowing 5 = .ok (.iload 4, 2) := by decide +kernel
theorem dX7_knowing_7 : decode cX7_knowing 7 = .ok (.aload_n 0, 1) := by decide +kernel
theorem dX7_knowing_8 : decode cX7_knowing 8 = .ok (.getfield 111, 3) := by decide +kernel
theorem dX7_knowing_11 : decode cX7_knowing 11 = .ok (.if_icmp .ge 62, 3) := by decide +kernel
theorem dX7_knowing_14 : decode cX7_knowing 14 = .ok (.aload_n 0, 1) := by decide +kernel
theorem dX7_knowing_15 : decode cX7_knowing 15 = .ok (.getfield 25, 3) := by decide +kernel
theorem dX7_knowing_18 : decode cX7_knowing 18 = .ok (.bipush 17, 2) := by decide +kernel
theorem dX7_knowing_20 : decode cX7_knowing 20 = .ok (.iload_n 1, 1) := by decide +kernel
theorem dX7_knowing_21 : decode cX7_knowing 21 = .ok (.imul, 1) := by decide +kernel
theorem dX7_knowing_22 : decode cX7_knowing 22 = .ok (.iconst 5, 1) := by decide +kernel
theorem dX7_knowing_23 : decode cX7_knowing 23 = .ok (.iadd, 1) := by decide +kernel
theorem dX7_knowing_24 : decode cX7_knowing 24 = .ok (.iload 4, 2) := by decide +kernel
theorem dX7_knowing_26 : decode cX7_knowing 26 = .ok (.iadd, 1) := by decide +kernel
theorem dX7_knowing_27 : decode cX7_knowing 27 = .ok (.iaload, 1) := by decide +kernel
theorem dX7_knowing_28 : decode cX7_knowing 28 = .ok (.istore 5, 2) := by decide +kernel
theorem dX7_knowing_30 : decode cX7_knowing 30 = .ok (.iload_n 3, 1) := by decide +kernel
theorem dX7_knowing_31 : decode cX7_knowing 31 = .ok (.iload_n 2, 1) := by decide +kernel
theorem dX7_knowing_32 : decode cX7_knowing 32 = .ok (.ifCond .eq 18, 3) := by decide +kernel
theorem dX7_knowing_35 : decode cX7_knowing 35 = .ok (.iload 5, 2) := by decide +kernel
theorem dX7_knowing_37 : decode cX7_knowing 37 = .ok (.aload_n 0, 1) := by decide +kernel
theorem dX7_knowing_38 : decode cX7_knowing 38 = .ok (.getfield 13, 3) := by decide +kernel
theorem dX7_knowing_41 : decode cX7_knowing 41 = .ok (.iload 4, 2) := by decide +kernel
theorem dX7_knowing_43 : decode cX7_knowing 43 = .ok (.iaload, 1) := by decide +kernel
theorem dX7_knowing_44 : decode cX7_knowing 44 = .ok (.if_icmp .ne 20, 3) := by decide +kernel
theorem dX7_knowing_47 : decode cX7_knowing 47 = .ok (.goto 10, 3) := by decide +kernel
theorem dX7_knowing_50 : decode cX7_knowing 50 = .ok (.iload 5, 2) := by decide +kernel
theorem dX7_knowing_52 : decode cX7_knowing 52 = .ok (.bipush (-9), 2) := by decide +kernel
theorem dX7_knowing_54 : decode cX7_knowing 54 = .ok (.if_icmp .eq 10, 3) := by decide +kernel
theorem dX7_knowing_57 : decode cX7_knowing 57 = .ok (.iconst 1, 1) := by decide +kernel
theorem dX7_knowing_58 : decode cX7_knowing 58 = .ok (.iload 4, 2) := by decide +kernel
theorem dX7_knowing_60 : decode cX7_knowing 60 = .ok (.ishl, 1) := by decide +kernel
theorem dX7_knowing_61 : decode cX7_knowing 61 = .ok (.goto 4, 3) := by decide +kernel
theorem dX7_knowing_64 : decode cX7_knowing 64 = .ok (.iconst 0, 1) := by decide +kernel
theorem dX7_knowing_65 : decode cX7_knowing 65 = .ok (.ior, 1) := by decide +kernel
theorem dX7_knowing_66 : decode cX7_knowing 66 = .ok (.istore_n 3, 1) := by decide +kernel
theorem dX7_knowing_67 : decode cX7_knowing 67 = .ok (.iinc 4 1, 3) := by decide +kernel
theorem dX7_knowing_70 : decode cX7_knowing 70 = .ok (.goto (-65), 3) := by decide +kernel
theorem dX7_knowing_73 : decode cX7_knowing 73 = .ok (.iload_n 3, 1) := by decide +kernel
theorem dX7_knowing_74 : decode cX7_knowing 74 = .ok (.ireturn, 1) := by decide +kernel
theorem dX7_inBowl_0 : decode cX7_inBowl 0 = .ok (.iconst 0, 1) := by decide +kernel
theorem dX7_inBowl_1 : decode cX7_inBowl 1 = .ok (.istore_n 3, 1) := by decide +kernel
theorem dX7_inBowl_2 : decode cX7_inBowl 2 = .ok (.iconst 0, 1) := by decide +kernel
theorem dX7_inBowl_3 : decode cX7_inBowl 3 = .ok (.istore 4, 2) := by decide +kernel
theorem dX7_inBowl_5 : decode cX7_inBowl 5 = .ok (.iload 4, 2) := by decide +kernel
theorem dX7_inBowl_7 : decode cX7_inBowl 7 = .ok (.aload_n 0, 1) := by decide +kernel
theorem dX7_inBowl_8 : decode cX7_inBowl 8 = .ok (.getfield 111, 3) := by decide +kernel
theorem dX7_inBowl_11 : decode cX7_inBowl 11 = .ok (.if_icmp .ge 36, 3) := by decide +kernel
theorem dX7_inBowl_14 : decode cX7_inBowl 14 = .ok (.iload_n 3, 1) := by decide +kernel
theorem dX7_inBowl_15 : decode cX7_inBowl 15 = .ok (.aload_n 0, 1) := by decide +kernel
theorem dX7_inBowl_16 : decode cX7_inBowl 16 = .ok (.getfield 25, 3) := by decide +kernel
theorem dX7_inBowl_19 : decode cX7_inBowl 19 = .ok (.bipush 17, 2) := by decide +kernel
theorem dX7_inBowl_21 : decode cX7_inBowl 21 = .ok (.iload_n 1, 1) := by decide +kernel
theorem dX7_inBowl_22 : decode cX7_inBowl 22 = .ok (.imul, 1) := by decide +kernel
theorem dX7_inBowl_23 : decode cX7_inBowl 23 = .ok (.iload 4, 2) := by decide +kernel
theorem dX7_inBowl_25 : decode cX7_inBowl 25 = .ok (.iadd, 1) := by decide +kernel
theorem dX7_inBowl_26 : decode cX7_inBowl 26 = .ok (.iaload, 1) := by decide +kernel
theorem dX7_inBowl_27 : decode cX7_inBowl 27 = .ok (.iload_n 2, 1) := by decide +kernel
theorem dX7_inBowl_28 : decode cX7_inBowl 28 = .ok (.if_icmp .ne 10, 3) := by decide +kernel
theorem dX7_inBowl_31 : decode cX7_inBowl 31 = .ok (.iconst 1, 1) := by decide +kernel
theorem dX7_inBowl_32 : decode cX7_inBowl 32 = .ok (.iload 4, 2) := by decide +kernel
theorem dX7_inBowl_34 : decode cX7_inBowl 34 = .ok (.ishl, 1) := by decide +kernel
theorem dX7_inBowl_35 : decode cX7_inBowl 35 = .ok (.goto 4, 3) := by decide +kernel
theorem dX7_inBowl_38 : decode cX7_inBowl 38 = .ok (.iconst 0, 1) := by decide +kernel
theorem dX7_inBowl_39 : decode cX7_inBowl 39 = .ok (.ior, 1) := by decide +kernel
theorem dX7_inBowl_40 : decode cX7_inBowl 40 = .ok (.istore_n 3, 1) := by decide +kernel
theorem dX7_inBowl_41 : decode cX7_inBowl 41 = .ok (.iinc 4 1, 3) := by decide +kernel
theorem dX7_inBowl_44 : decode cX7_inBowl 44 = .ok (.goto (-39), 3) := by decide +kernel
theorem dX7_inBowl_47 : decode cX7_inBowl 47 = .ok (.iload_n 3, 1) := by decide +kernel
theorem dX7_inBowl_48 : decode cX7_inBowl 48 = .ok (.ireturn, 1) := by decide +kernel
theorem dX7_lipsAt_0 : decode cX7_lipsAt 0 = .ok (.iconst 0, 1) := by decide +kernel
theorem dX7_lipsAt_1 : decode cX7_lipsAt 1 = .ok (.istore_n 2, 1) := by decide +kernel
theorem dX7_lipsAt_2 : decode cX7_lipsAt 2 = .ok (.iconst 0, 1) := by decide +kernel
theorem dX7_lipsAt_3 : decode cX7_lipsAt 3 = .ok (.istore_n 3, 1) := by decide +kernel
theorem dX7_lipsAt_4 : decode cX7_lipsAt 4 = .ok (.iload_n 3, 1) := by decide +kernel
theorem dX7_lipsAt_5 : decode cX7_lipsAt 5 = .ok (.aload_n 0, 1) := by decide +kernel
theorem dX7_lipsAt_6 : decode cX7_lipsAt 6 = .ok (.getfield 114, 3) := by decide +kernel
theorem dX7_lipsAt_9 : decode cX7_lipsAt 9 = .ok (.if_icmp .ge 29, 3) := by decide +kernel
theorem dX7_lipsAt_12 : decode cX7_lipsAt 12 = .ok (.iload_n 2, 1) := by decide +kernel
theorem dX7_lipsAt_13 : decode cX7_lipsAt 13 = .ok (.aload_n 0, 1) := by decide +kernel
theorem dX7_lipsAt_14 : decode cX7_lipsAt 14 = .ok (.iconst 0, 1) := by decide +kernel
theorem dX7_lipsAt_15 : decode cX7_lipsAt 15 = .ok (.iload_n 3, 1) := by decide +kernel
theorem dX7_lipsAt_16 : decode cX7_lipsAt 16 = .ok (.invokevirtual 135, 3) := by decide +kernel
theorem dX7_lipsAt_19 : decode cX7_lipsAt 19 = .ok (.iload_n 1, 1) := by decide +kernel
theorem dX7_lipsAt_20 : decode cX7_lipsAt 20 = .ok (.if_icmp .ne 9, 3) := by decide +kernel
theorem dX7_lipsAt_23 : decode cX7_lipsAt 23 = .ok (.iconst 1, 1) := by decide +kernel
theorem dX7_lipsAt_24 : decode cX7_lipsAt 24 = .ok (.iload_n 3, 1) := by decide +kernel
theorem dX7_lipsAt_25 : decode cX7_lipsAt 25 = .ok (.ishl, 1) := by decide +kernel
theorem dX7_lipsAt_26 : decode cX7_lipsAt 26 = .ok (.goto 4, 3) := by decide +kernel
theorem dX7_lipsAt_29 : decode cX7_lipsAt 29 = .ok (.iconst 0, 1) := by decide +kernel
theorem dX7_lipsAt_30 : decode cX7_lipsAt 30 = .ok (.ior, 1) := by decide +kernel
theorem dX7_lipsAt_31 : decode cX7_lipsAt 31 = .ok (.istore_n 2, 1) := by decide +kernel
theorem dX7_lipsAt_32 : decode cX7_lipsAt 32 = .ok (.iinc 3 1, 3) := by decide +kernel
theorem dX7_lipsAt_35 : decode cX7_lipsAt 35 = .ok (.goto (-31), 3) := by decide +kernel
theorem dX7_lipsAt_38 : decode cX7_lipsAt 38 = .ok (.iload_n 2, 1) := by decide +kernel
theorem dX7_lipsAt_39 : decode cX7_lipsAt 39 = .ok (.ireturn, 1) := by decide +kernel
theorem dX7_bowl_0 : decode cX7_bowl 0 = .ok (.aload_n 0, 1) := by decide +kernel
theorem dX7_bowl_1 : decode cX7_bowl 1 = .ok (.iload_n 1, 1) := by decide +kernel
theorem dX7_bowl_2 : decode cX7_bowl 2 = .ok (.invokevirtual 141, 3) := by decide +kernel
theorem dX7_bowl_5 : decode cX7_bowl 5 = .ok (.ifCond .ne 5, 3) := by decide +kernel
theorem dX7_bowl_8 : decode cX7_bowl 8 = .ok (.iconst (-1), 1) := by decide +kernel
theorem dX7_bowl_9 : decode cX7_bowl 9 = .ok (.ireturn, 1) := by decide +kernel
theorem dX7_bowl_10 : decode cX7_bowl 10 = .ok (.iload_n 2, 1) := by decide +kernel
theorem dX7_bowl_11 : decode cX7_bowl 11 = .ok (.ifCond .ne 12, 3) := by decide +kernel
theorem dX7_bowl_14 : decode cX7_bowl 14 = .ok (.aload_n 0, 1) := by decide +kernel
theorem dX7_bowl_15 : decode cX7_bowl 15 = .ok (.getfield 7, 3) := by decide +kernel
theorem dX7_bowl_18 : decode cX7_bowl 18 = .ok (.iload_n 1, 1) := by decide +kernel
theorem dX7_bowl_19 : decode cX7_bowl 19 = .ok (.iaload, 1) := by decide +kernel
theorem dX7_bowl_20 : decode cX7_bowl 20 = .ok (.goto 32, 3) := by decide +kernel
theorem dX7_bowl_23 : decode cX7_bowl 23 = .ok (.iload_n 2, 1) := by decide +kernel
theorem dX7_bowl_24 : decode cX7_bowl 24 = .ok (.iconst 1, 1) := by decide +kernel
theorem dX7_bowl_25 : decode cX7_bowl 25 = .ok (.if_icmp .ne 12, 3) := by decide +kernel
theorem dX7_bowl_28 : decode cX7_bowl 28 = .ok (.aload_n 0, 1) := by decide +kernel
theorem dX7_bowl_29 : decode cX7_bowl 29 = .ok (.iconst 0, 1) := by decide +kernel
theorem dX7_bowl_30 : decode cX7_bowl 30 = .ok (.iload_n 1, 1) := by decide +kernel
theorem dX7_bowl_31 : decode cX7_bowl 31 = .ok (.invokevirtual 145, 3) := by decide +kernel
theorem dX7_bowl_34 : decode cX7_bowl 34 = .ok (.goto 18, 3) := by decide +kernel
theorem dX7_bowl_37 : decode cX7_bowl 37 = .ok (.iload_n 2, 1) := by decide +kernel
theorem dX7_bowl_38 : decode cX7_bowl 38 = .ok (.iconst 2, 1) := by decide +kernel
theorem dX7_bowl_39 : decode cX7_bowl 39 = .ok (.if_icmp .ne 11, 3) := by decide +kernel
theorem dX7_bowl_42 : decode cX7_bowl 42 = .ok (.aload_n 0, 1) := by decide +kernel
theorem dX7_bowl_43 : decode cX7_bowl 43 = .ok (.iload_n 1, 1) := by decide +kernel
theorem dX7_bowl_44 : decode cX7_bowl 44 = .ok (.invokevirtual 148, 3) := by decide +kernel
theorem dX7_bowl_47 : decode cX7_bowl 47 = .ok (.goto 5, 3) := by decide +kernel
theorem dX7_bowl_50 : decode cX7_bowl 50 = .ok (.bipush (-2), 2) := by decide +kernel
theorem dX7_bowl_52 : decode cX7_bowl 52 = .ok (.ireturn, 1) := by decide +kernel
theorem dX7_fish_0 : decode cX7_fish 0 = .ok (.aload_n 0, 1) := by decide +kernel
theorem dX7_fish_1 : decode cX7_fish 1 = .ok (.iload_n 1, 1) := by decide +kernel
theorem dX7_fish_2 : decode cX7_fish 2 = .ok (.invokevirtual 151, 3) := by decide +kernel
theorem dX7_fish_5 : decode cX7_fish 5 = .ok (.ifCond .ne 5, 3) := by decide +kernel
theorem dX7_fish_8 : decode cX7_fish 8 = .ok (.iconst (-1), 1) := by decide +kernel
theorem dX7_fish_9 : decode cX7_fish 9 = .ok (.ireturn, 1) := by decide +kernel
theorem dX7_fish_10 : decode cX7_fish 10 = .ok (.iload_n 2, 1) := by decide +kernel
theorem dX7_fish_11 : decode cX7_fish 11 = .ok (.tableswitch 89 0 5 #[37, 44, 51, 58, 67, 77], 37) := by decide +kernel
theorem dX7_fish_48 : decode cX7_fish 48 = .ok (.aload_n 0, 1) := by decide +kernel
theorem dX7_fish_49 : decode cX7_fish 49 = .ok (.getfield 25, 3) := by decide +kernel
theorem dX7_fish_52 : decode cX7_fish 52 = .ok (.iload_n 1, 1) := by decide +kernel
theorem dX7_fish_53 : decode cX7_fish 53 = .ok (.iaload, 1) := by decide +kernel
theorem dX7_fish_54 : decode cX7_fish 54 = .ok (.ireturn, 1) := by decide +kernel
theorem dX7_fish_55 : decode cX7_fish 55 = .ok (.aload_n 0, 1) := by decide +kernel
theorem dX7_fish_56 : decode cX7_fish 56 = .ok (.getfield 13, 3) := by decide +kernel
theorem dX7_fish_59 : decode cX7_fish 59 = .ok (.iload_n 1, 1) := by decide +kernel
theorem dX7_fish_60 : decode cX7_fish 60 = .ok (.iaload, 1) := by decide +kernel
theorem dX7_fish_61 : decode cX7_fish 61 = .ok (.ireturn, 1) := by decide +kernel
theorem dX7_fish_62 : decode cX7_fish 62 = .ok (.aload_n 0, 1) := by decide +kernel
theorem dX7_fish_63 : decode cX7_fish 63 = .ok (.getfield 16, 3) := by decide +kernel
theorem dX7_fish_66 : decode cX7_fish 66 = .ok (.iload_n 1, 1) := by decide +kernel
theorem dX7_fish_67 : decode cX7_fish 67 = .ok (.iaload, 1) := by decide +kernel
theorem dX7_fish_68 : decode cX7_fish 68 = .ok (.ireturn, 1) := by decide +kernel
theorem dX7_fish_69 : decode cX7_fish 69 = .ok (.aload_n 0, 1) := by decide +kernel
theorem dX7_fish_70 : decode cX7_fish 70 = .ok (.getfield 25, 3) := by decide +kernel
theorem dX7_fish_73 : decode cX7_fish 73 = .ok (.iconst 5, 1) := by decide +kernel
theorem dX7_fish_74 : decode cX7_fish 74 = .ok (.iload_n 1, 1) := by decide +kernel
theorem dX7_fish_75 : decode cX7_fish 75 = .ok (.iadd, 1) := by decide +kernel
theorem dX7_fish_76 : decode cX7_fish 76 = .ok (.iaload, 1) := by decide +kernel
theorem dX7_fish_77 : decode cX7_fish 77 = .ok (.ireturn, 1) := by decide +kernel
theorem dX7_fish_78 : decode cX7_fish 78 = .ok (.aload_n 0, 1) := by decide +kernel
theorem dX7_fish_79 : decode cX7_fish 79 = .ok (.getfield 25, 3) := by decide +kernel
theorem dX7_fish_82 : decode cX7_fish 82 = .ok (.bipush 10, 2) := by decide +kernel
theorem dX7_fish_84 : decode cX7_fish 84 = .ok (.iload_n 1, 1) := by decide +kernel
theorem dX7_fish_85 : decode cX7_fish 85 = .ok (.iadd, 1) := by decide +kernel
theorem dX7_fish_86 : decode cX7_fish 86 = .ok (.iaload, 1) := by decide +kernel
theorem dX7_fish_87 : decode cX7_fish 87 = .ok (.ireturn, 1) := by decide +kernel
theorem dX7_fish_88 : decode cX7_fish 88 = .ok (.aload_n 0, 1) := by decide +kernel
theorem dX7_fish_89 : decode cX7_fish 89 = .ok (.iload_n 1, 1) := by decide +kernel
theorem dX7_fish_90 : decode cX7_fish 90 = .ok (.aload_n 0, 1) := by decide +kernel
theorem dX7_fish_91 : decode cX7_fish 91 = .ok (.getfield 25, 3) := by decide +kernel
theorem dX7_fish_94 : decode cX7_fish 94 = .ok (.iload_n 1, 1) := by decide +kernel
theorem dX7_fish_95 : decode cX7_fish 95 = .ok (.iaload, 1) := by decide +kernel
theorem dX7_fish_96 : decode cX7_fish 96 = .ok (.invokevirtual 117, 3) := by decide +kernel
theorem dX7_fish_99 : decode cX7_fish 99 = .ok (.ireturn, 1) := by decide +kernel
theorem dX7_fish_100 : decode cX7_fish 100 = .ok (.bipush (-2), 2) := by decide +kernel
theorem dX7_fish_102 : decode cX7_fish 102 = .ok (.ireturn, 1) := by decide +kernel
theorem dX7_lip_0 : decode cX7_lip 0 = .ok (.aload_n 0, 1) := by decide +kernel
theorem dX7_lip_1 : decode cX7_lip 1 = .ok (.iload_n 1, 1) := by decide +kernel
theorem dX7_lip_2 : decode cX7_lip 2 = .ok (.invokevirtual 154, 3) := by decide +kernel
theorem dX7_lip_5 : decode cX7_lip 5 = .ok (.ifCond .ne 5, 3) := by decide +kernel
theorem dX7_lip_8 : decode cX7_lip 8 = .ok (.iconst (-1), 1) := by decide +kernel
theorem dX7_lip_9 : decode cX7_lip 9 = .ok (.ireturn, 1) := by decide +kernel
theorem dX7_lip_10 : decode cX7_lip 10 = .ok (.iload_n 2, 1) := by decide +kernel
theorem dX7_lip_11 : decode cX7_lip 11 = .ok (.ifCond .ne 12, 3) := by decide +kernel
theorem dX7_lip_14 : decode cX7_lip 14 = .ok (.aload_n 0, 1) := by decide +kernel
theorem dX7_lip_15 : decode cX7_lip 15 = .ok (.getfield 19, 3) := by decide +kernel
theorem dX7_lip_18 : decode cX7_lip 18 = .ok (.iload_n 1, 1) := by decide +kernel
theorem dX7_lip_19 : decode cX7_lip 19 = .ok (.iaload, 1) := by decide +kernel
theorem dX7_lip_20 : decode cX7_lip 20 = .ok (.goto 38, 3) := by decide +kernel
theorem dX7_lip_23 : decode cX7_lip 23 = .ok (.iload_n 2, 1) := by decide +kernel
theorem dX7_lip_24 : decode cX7_lip 24 = .ok (.iconst 1, 1) := by decide +kernel
theorem dX7_lip_25 : decode cX7_lip 25 = .ok (.if_icmp .ne 12, 3) := by decide +kernel
theorem dX7_lip_28 : decode cX7_lip 28 = .ok (.aload_n 0, 1) := by decide +kernel
theorem dX7_lip_29 : decode cX7_lip 29 = .ok (.getfield 22, 3) := by decide +kernel
theorem dX7_lip_32 : decode cX7_lip 32 = .ok (.iload_n 1, 1) := by decide +kernel
theorem dX7_lip_33 : decode cX7_lip 33 = .ok (.iaload, 1) := by decide +kernel
theorem dX7_lip_34 : decode cX7_lip 34 = .ok (.goto 24, 3) := by decide +kernel
theorem dX7_lip_37 : decode cX7_lip 37 = .ok (.iload_n 2, 1) := by decide +kernel
theorem dX7_lip_38 : decode cX7_lip 38 = .ok (.iconst 2, 1) := by decide +kernel
theorem dX7_lip_39 : decode cX7_lip 39 = .ok (.if_icmp .ne 17, 3) := by decide +kernel
theorem dX7_lip_42 : decode cX7_lip 42 = .ok (.aload_n 0, 1) := by decide +kernel
theorem dX7_lip_43 : decode cX7_lip 43 = .ok (.getfield 25, 3) := by decide +kernel
theorem dX7_lip_46 : decode cX7_lip 46 = .ok (.bipush 15, 2) := by decide +kernel
theorem dX7_lip_48 : decode cX7_lip 48 = .ok (.iaload, 1) := by decide +kernel
theorem dX7_lip_49 : decode cX7_lip 49 = .ok (.iload_n 1, 1) := by decide +kernel
theorem dX7_lip_50 : decode cX7_lip 50 = .ok (.ishr, 1) := by decide +kernel
theorem dX7_lip_51 : decode cX7_lip 51 = .ok (.iconst 1, 1) := by decide +kernel
theorem dX7_lip_52 : decode cX7_lip 52 = .ok (.iand, 1) := by decide +kernel
theorem dX7_lip_53 : decode cX7_lip 53 = .ok (.goto 5, 3) := by decide +kernel
theorem dX7_lip_56 : decode cX7_lip 56 = .ok (.bipush (-2), 2) := by decide +kernel
theorem dX7_lip_58 : decode cX7_lip 58 = .ok (.ireturn, 1) := by decide +kernel
theorem dX7_keepAct_0 : decode cX7_keepAct 0 = .ok (.iconst 0, 1) := by decide +kernel
theorem dX7_keepAct_1 : decode cX7_keepAct 1 = .ok (.istore_n 1, 1) := by decide +kernel
theorem dX7_keepAct_2 : decode cX7_keepAct 2 = .ok (.iload_n 1, 1) := by decide +kernel
theorem dX7_keepAct_3 : decode cX7_keepAct 3 = .ok (.bipush 17, 2) := by decide +kernel
theorem dX7_keepAct_5 : decode cX7_keepAct 5 = .ok (.if_icmp .ge 29, 3) := by decide +kernel
theorem dX7_keepAct_8 : decode cX7_keepAct 8 = .ok (.aload_n 0, 1) := by decide +kernel
theorem dX7_keepAct_9 : decode cX7_keepAct 9 = .ok (.getfield 43, 3) := by decide +kernel
theorem dX7_keepAct_12 : decode cX7_keepAct 12 = .ok (.bipush 17, 2) := by decide +kernel
theorem dX7_keepAct_14 : decode cX7_keepAct 14 = .ok (.aload_n 0, 1) := by decide +kernel
theorem dX7_keepAct_15 : decode cX7_keepAct 15 = .ok (.getfield 157, 3) := by decide +kernel
theorem dX7_keepAct_18 : decode cX7_keepAct 18 = .ok (.imul, 1) := by decide +kernel
theorem dX7_keepAct_19 : decode cX7_keepAct 19 = .ok (.iload_n 1, 1) := by decide +kernel
theorem dX7_keepAct_20 : decode cX7_keepAct 20 = .ok (.iadd, 1) := by decide +kernel
theorem dX7_keepAct_21 : decode cX7_keepAct 21 = .ok (.aload_n 0, 1) := by decide +kernel
theorem dX7_keepAct_22 : decode cX7_keepAct 22 = .ok (.getfield 25, 3) := by decide +kernel
theorem dX7_keepAct_25 : decode cX7_keepAct 25 = .ok (.iload_n 1, 1) := by decide +kernel
theorem dX7_keepAct_26 : decode cX7_keepAct 26 = .ok (.iaload, 1) := by decide +kernel
theorem dX7_keepAct_27 : decode cX7_keepAct 27 = .ok (.iastore, 1) := by decide +kernel
theorem dX7_keepAct_28 : decode cX7_keepAct 28 = .ok (.iinc 1 1, 3) := by decide +kernel
theorem dX7_keepAct_31 : decode cX7_keepAct 31 = .ok (.goto (-29), 3) := by decide +kernel
theorem dX7_keepAct_34 : decode cX7_keepAct 34 = .ok (.aload_n 0, 1) := by decide +kernel
theorem dX7_keepAct_35 : decode cX7_keepAct 35 = .ok (.aload_n 0, 1) := by decide +kernel
theorem dX7_keepAct_36 : decode cX7_keepAct 36 = .ok (.getfield 157, 3) := by decide +kernel
theorem dX7_keepAct_39 : decode cX7_keepAct 39 = .ok (.iconst 1, 1) := by decide +kernel
theorem dX7_keepAct_40 : decode cX7_keepAct 40 = .ok (.iadd, 1) := by decide +kernel
theorem dX7_keepAct_41 : decode cX7_keepAct 41 = .ok (.bipush 14, 2) := by decide +kernel
theorem dX7_keepAct_43 : decode cX7_keepAct 43 = .ok (.irem, 1) := by decide +kernel
theorem dX7_keepAct_44 : decode cX7_keepAct 44 = .ok (.putfield 157, 3) := by decide +kernel
theorem dX7_keepAct_47 : decode cX7_keepAct 47 = .ok (.aload_n 0, 1) := by decide +kernel
theorem dX7_keepAct_48 : decode cX7_keepAct 48 = .ok (.aload_n 0, 1) := by decide +kernel
theorem dX7_keepAct_49 : decode cX7_keepAct 49 = .ok (.getfield 121, 3) := by decide +kernel
theorem dX7_keepAct_52 : decode cX7_keepAct 52 = .ok (.bipush 14, 2) := by decide +kernel
theorem dX7_keepAct_54 : decode cX7_keepAct 54 = .ok (.if_icmp .ge 12, 3) := by decide +kernel
theorem dX7_keepAct_57 : decode cX7_keepAct 57 = .ok (.aload_n 0, 1) := by decide +kernel
theorem dX7_keepAct_58 : decode cX7_keepAct 58 = .ok (.getfield 121, 3) := by decide +kernel
theorem dX7_keepAct_61 : decode cX7_keepAct 61 = .ok (.iconst 1, 1) := by decide +kernel
theorem dX7_keepAct_62 : decode cX7_keepAct 62 = .ok (.iadd, 1) := by decide +kernel
theorem dX7_keepAct_63 : decode cX7_keepAct 63 = .ok (.goto 5, 3) := by decide +kernel
theorem dX7_keepAct_66 : decode cX7_keepAct 66 = .ok (.bipush 14, 2) := by decide +kernel
theorem dX7_keepAct_68 : decode cX7_keepAct 68 = .ok (.putfield 121, 3) := by decide +kernel
theorem dX7_keepAct_71 : decode cX7_keepAct 71 = .ok (.return_, 1) := by decide +kernel
theorem dX7_hour_0 : decode cX7_hour 0 = .ok (.aload_n 0, 1) := by decide +kernel
theorem dX7_hour_1 : decode cX7_hour 1 = .ok (.invokevirtual 160, 3) := by decide +kernel
theorem dX7_hour_4 : decode cX7_hour 4 = .ok (.aload_n 0, 1) := by decide +kernel
theorem dX7_hour_5 : decode cX7_hour 5 = .ok (.iconst 0, 1) := by decide +kernel
theorem dX7_hour_6 : decode cX7_hour 6 = .ok (.invokevirtual 163, 3) := by decide +kernel
theorem dX7_hour_9 : decode cX7_hour 9 = .ok (.aload_n 0, 1) := by decide +kernel
theorem dX7_hour_10 : decode cX7_hour 10 = .ok (.iconst 0, 1) := by decide +kernel
theorem dX7_hour_11 : decode cX7_hour 11 = .ok (.iconst 0, 1) := by decide +kernel
theorem dX7_hour_12 : decode cX7_hour 12 = .ok (.invokevirtual 166, 3) := by decide +kernel
theorem dX7_hour_15 : decode cX7_hour 15 = .ok (.invokestatic 170, 3) := by decide +kernel
theorem dX7_hour_18 : decode cX7_hour 18 = .ok (.ireturn, 1) := by decide +kernel
theorem dX7_moveOn_0 : decode cX7_moveOn 0 = .ok (.bipush 17, 2) := by decide +kernel
theorem dX7_moveOn_2 : decode cX7_moveOn 2 = .ok (.iload_n 1, 1) := by decide +kernel
theorem dX7_moveOn_3 : decode cX7_moveOn 3 = .ok (.imul, 1) := by decide +kernel
theorem dX7_moveOn_4 : decode cX7_moveOn 4 = .ok (.istore 4, 2) := by decide +kernel
theorem dX7_moveOn_6 : decode cX7_moveOn 6 = .ok (.aload_n 0, 1) := by decide +kernel
theorem dX7_moveOn_7 : decode cX7_moveOn 7 = .ok (.getfield 25, 3) := by decide +kernel
theorem dX7_moveOn_10 : decode cX7_moveOn 10 = .ok (.iload 4, 2) := by decide +kernel
theorem dX7_moveOn_12 : decode cX7_moveOn 12 = .ok (.iload_n 2, 1) := by decide +kernel
theorem dX7_moveOn_13 : decode cX7_moveOn 13 = .ok (.iadd, 1) := by decide +kernel
theorem dX7_moveOn_14 : decode cX7_moveOn 14 = .ok (.iaload, 1) := by decide +kernel
theorem dX7_moveOn_15 : decode cX7_moveOn 15 = .ok (.iload_n 3, 1) := by decide +kernel
theorem dX7_moveOn_16 : decode cX7_moveOn 16 = .ok (.if_icmp .eq 67, 3) := by decide +kernel
theorem dX7_moveOn_19 : decode cX7_moveOn 19 = .ok (.aload_n 0, 1) := by decide +kernel
theorem dX7_moveOn_20 : decode cX7_moveOn 20 = .ok (.getfield 25, 3) := by decide +kernel
theorem dX7_moveOn_23 : decode cX7_moveOn 23 = .ok (.iload 4, 2) := by decide +kernel
theorem dX7_moveOn_25 : decode cX7_moveOn 25 = .ok (.iload_n 2, 1) := by decide +kernel
theorem dX7_moveOn_26 : decode cX7_moveOn 26 = .ok (.iadd, 1) := by decide +kernel
theorem dX7_moveOn_27 : decode cX7_moveOn 27 = .ok (.iload_n 3, 1) := by decide +kernel
theorem dX7_moveOn_28 : decode cX7_moveOn 28 = .ok (.iastore, 1) := by decide +kernel
theorem dX7_moveOn_29 : decode cX7_moveOn 29 = .ok (.aload_n 0, 1) := by decide +kernel
theorem dX7_moveOn_30 : decode cX7_moveOn 30 = .ok (.getfield 25, 3) := by decide +kernel
theorem dX7_moveOn_33 : decode cX7_moveOn 33 = .ok (.iload 4, 2) := by decide +kernel
theorem dX7_moveOn_35 : decode cX7_moveOn 35 = .ok (.bipush 10, 2) := by decide +kernel
theorem dX7_moveOn_37 : decode cX7_moveOn 37 = .ok (.iadd, 1) := by decide +kernel
theorem dX7_moveOn_38 : decode cX7_moveOn 38 = .ok (.iload_n 2, 1) := by decide +kernel
theorem dX7_moveOn_39 : decode cX7_moveOn 39 = .ok (.iadd, 1) := by decide +kernel
theorem dX7_moveOn_40 : decode cX7_moveOn 40 = .ok (.aload_n 0, 1) := by decide +kernel
theorem dX7_moveOn_41 : decode cX7_moveOn 41 = .ok (.getfield 25, 3) := by decide +kernel
theorem dX7_moveOn_44 : decode cX7_moveOn 44 = .ok (.iload 4, 2) := by decide +kernel
theorem dX7_moveOn_46 : decode cX7_moveOn 46 = .ok (.bipush 10, 2) := by decide +kernel
theorem dX7_moveOn_48 : decode cX7_moveOn 48 = .ok (.iadd, 1) := by decide +kernel
theorem dX7_moveOn_49 : decode cX7_moveOn 49 = .ok (.iload_n 2, 1) := by decide +kernel
theorem dX7_moveOn_50 : decode cX7_moveOn 50 = .ok (.iadd, 1) := by decide +kernel
theorem dX7_moveOn_51 : decode cX7_moveOn 51 = .ok (.iaload, 1) := by decide +kernel
theorem dX7_moveOn_52 : decode cX7_moveOn 52 = .ok (.aload_n 0, 1) := by decide +kernel
theorem dX7_moveOn_53 : decode cX7_moveOn 53 = .ok (.iload_n 2, 1) := by decide +kernel
theorem dX7_moveOn_54 : decode cX7_moveOn 54 = .ok (.iload_n 3, 1) := by decide +kernel
theorem dX7_moveOn_55 : decode cX7_moveOn 55 = .ok (.invokevirtual 117, 3) := by decide +kernel
theorem dX7_moveOn_58 : decode cX7_moveOn 58 = .ok (.if_icmp .ge 18, 3) := by decide +kernel
theorem dX7_moveOn_61 : decode cX7_moveOn 61 = .ok (.aload_n 0, 1) := by decide +kernel
theorem dX7_moveOn_62 : decode cX7_moveOn 62 = .ok (.getfield 25, 3) := by decide +kernel
theorem dX7_moveOn_65 : decode cX7_moveOn 65 = .ok (.iload 4, 2) := by decide +kernel
theorem dX7_moveOn_67 : decode cX7_moveOn 67 = .ok (.bipush 10, 2) := by decide +kernel
theorem dX7_moveOn_69 : decode cX7_moveOn 69 = .ok (.iadd, 1) := by decide +kernel
theorem dX7_moveOn_70 : decode cX7_moveOn 70 = .ok (.iload_n 2, 1) := by decide +kernel
theorem dX7_moveOn_71 : decode cX7_moveOn 71 = .ok (.iadd, 1) := by decide +kernel
theorem dX7_moveOn_72 : decode cX7_moveOn 72 = .ok (.iaload, 1) := by decide +kernel
theorem dX7_moveOn_73 : decode cX7_moveOn 73 = .ok (.goto 9, 3) := by decide +kernel
theorem dX7_moveOn_76 : decode cX7_moveOn 76 = .ok (.aload_n 0, 1) := by decide +kernel
theorem dX7_moveOn_77 : decode cX7_moveOn 77 = .ok (.iload_n 2, 1) := by decide +kernel
theorem dX7_moveOn_78 : decode cX7_moveOn 78 = .ok (.iload_n 3, 1) := by decide +kernel
theorem dX7_moveOn_79 : decode cX7_moveOn 79 = .ok (.invokevirtual 117, 3) := by decide +kernel
theorem dX7_moveOn_82 : decode cX7_moveOn 82 = .ok (.iastore, 1) := by decide +kernel
theorem dX7_moveOn_83 : decode cX7_moveOn 83 = .ok (.return_, 1) := by decide +kernel
theorem dX7_canMove_0 : decode cX7_canMove 0 = .ok (.aload_n 0, 1) := by decide +kernel
theorem dX7_canMove_1 : decode cX7_canMove 1 = .ok (.iload_n 2, 1) := by decide +kernel
theorem dX7_canMove_2 : decode cX7_canMove 2 = .ok (.invokevirtual 151, 3) := by decide +kernel
theorem dX7_canMove_5 : decode cX7_canMove 5 = .ok (.ifCond .eq 43, 3) := by decide +kernel
theorem dX7_canMove_8 : decode cX7_canMove 8 = .ok (.aload_n 0, 1) := by decide +kernel
theorem dX7_canMove_9 : decode cX7_canMove 9 = .ok (.iload_n 3, 1) := by decide +kernel
theorem dX7_canMove_10 : decode cX7_canMove 10 = .ok (.invokevirtual 141, 3) := by decide +kernel
theorem dX7_canMove_13 : decode cX7_canMove 13 = .ok (.ifCond .eq 35, 3) := by decide +kernel
theorem dX7_canMove_16 : decode cX7_canMove 16 = .ok (.aload_n 0, 1) := by decide +kernel
theorem dX7_canMove_17 : decode cX7_canMove 17 = .ok (.getfield 25, 3) := by decide +kernel
theorem dX7_canMove_20 : decode cX7_canMove 20 = .ok (.bipush 17, 2) := by decide +kernel
theorem dX7_canMove_22 : decode cX7_canMove 22 = .ok (.iload_n 1, 1) := by decide +kernel
theorem dX7_canMove_23 : decode cX7_canMove 23 = .ok (.imul, 1) := by decide +kernel
theorem dX7_canMove_24 : decode cX7_canMove 24 = .ok (.iload_n 2, 1) := by decide +kernel
theorem dX7_canMove_25 : decode cX7_canMove 25 = .ok (.iadd, 1) := by decide +kernel
theorem dX7_canMove_26 : decode cX7_canMove 26 = .ok (.iaload, 1) := by decide +kernel
theorem dX7_canMove_27 : decode cX7_canMove 27 = .ok (.iload_n 3, 1) := by decide +kernel
theorem dX7_canMove_28 : decode cX7_canMove 28 = .ok (.if_icmp .eq 20, 3) := by decide +kernel
theorem dX7_canMove_31 : decode cX7_canMove 31 = .ok (.aload_n 0, 1) := by decide +kernel
theorem dX7_canMove_32 : decode cX7_canMove 32 = .ok (.iload_n 1, 1) := by decide +kernel
theorem dX7_canMove_33 : decode cX7_canMove 33 = .ok (.iload_n 3, 1) := by decide +kernel
theorem dX7_canMove_34 : decode cX7_canMove 34 = .ok (.invokevirtual 145, 3) := by decide +kernel
theorem dX7_canMove_37 : decode cX7_canMove 37 = .ok (.invokestatic 170, 3) := by decide +kernel
theorem dX7_canMove_40 : decode cX7_canMove 40 = .ok (.iconst 3, 1) := by decide +kernel
theorem dX7_canMove_41 : decode cX7_canMove 41 = .ok (.if_icmp .ge 7, 3) := by decide +kernel
theorem dX7_canMove_44 : decode cX7_canMove 44 = .ok (.iconst 1, 1) := by decide +kernel
theorem dX7_canMove_45 : decode cX7_canMove 45 = .ok (.goto 4, 3) := by decide +kernel
theorem dX7_canMove_48 : decode cX7_canMove 48 = .ok (.iconst 0, 1) := by decide +kernel
theorem dX7_canMove_49 : decode cX7_canMove 49 = .ok (.ireturn, 1) := by decide +kernel
theorem dX7_move_0 : decode cX7_move 0 = .ok (.aload_n 0, 1) := by decide +kernel
theorem dX7_move_1 : decode cX7_move 1 = .ok (.iload_n 1, 1) := by decide +kernel
theorem dX7_move_2 : decode cX7_move 2 = .ok (.invokevirtual 151, 3) := by decide +kernel
theorem dX7_move_5 : decode cX7_move 5 = .ok (.ifCond .eq 11, 3) := by decide +kernel
theorem dX7_move_8 : decode cX7_move 8 = .ok (.aload_n 0, 1) := by decide +kernel
theorem dX7_move_9 : decode cX7_move 9 = .ok (.iload_n 2, 1) := by decide +kernel
theorem dX7_move_10 : decode cX7_move 10 = .ok (.invokevirtual 141, 3) := by decide +kernel
theorem dX7_move_13 : decode cX7_move 13 = .ok (.ifCond .ne 5, 3) := by decide +kernel
theorem dX7_move_16 : decode cX7_move 16 = .ok (.iconst (-1), 1) := by decide +kernel
theorem dX7_move_17 : decode cX7_move 17 = .ok (.ireturn, 1) := by decide +kernel
theorem dX7_move_18 : decode cX7_move 18 = .ok (.aload_n 0, 1) := by decide +kernel
theorem dX7_move_19 : decode cX7_move 19 = .ok (.iconst 0, 1) := by decide +kernel
theorem dX7_move_20 : decode cX7_move 20 = .ok (.iload_n 1, 1) := by decide +kernel
theorem dX7_move_21 : decode cX7_move 21 = .ok (.iload_n 2, 1) := by decide +kernel
theorem dX7_move_22 : decode cX7_move 22 = .ok (.invokevirtual 173, 3) := by decide +kernel
theorem dX7_move_25 : decode cX7_move 25 = .ok (.ifCond .ne 6, 3) := by decide +kernel
theorem dX7_move_28 : decode cX7_move 28 = .ok (.bipush (-3), 2) := by decide +kernel
theorem dX7_move_30 : decode cX7_move 30 = .ok (.ireturn, 1) := by decide +kernel
theorem dX7_move_31 : decode cX7_move 31 = .ok (.aload_n 0, 1) := by decide +kernel
theorem dX7_move_32 : decode cX7_move 32 = .ok (.invokevirtual 160, 3) := by decide +kernel
theorem dX7_move_35 : decode cX7_move 35 = .ok (.aload_n 0, 1) := by decide +kernel
theorem dX7_move_36 : decode cX7_move 36 = .ok (.getfield 25, 3) := by decide +kernel
theorem dX7_move_39 : decode cX7_move 39 = .ok (.iload_n 1, 1) := by decide +kernel
theorem dX7_move_40 : decode cX7_move 40 = .ok (.iaload, 1) := by decide +kernel
theorem dX7_move_41 : decode cX7_move 41 = .ok (.istore_n 3, 1) := by decide +kernel
theorem dX7_move_42 : decode cX7_move 42 = .ok (.aload_n 0, 1) := by decide +kernel
theorem dX7_move_43 : decode cX7_move 43 = .ok (.iconst 0, 1) := by decide +kernel
theorem dX7_move_44 : decode cX7_move 44 = .ok (.iload_n 1, 1) := by decide +kernel
theorem dX7_move_45 : decode cX7_move 45 = .ok (.iload_n 2, 1) := by decide +kernel
theorem dX7_move_46 : decode cX7_move 46 = .ok (.invokevirtual 177, 3) := by decide +kernel
theorem dX7_move_49 : decode cX7_move 49 = .ok (.iload_n 3, 1) := by decide +kernel
theorem dX7_move_50 : decode cX7_move 50 = .ok (.ireturn, 1) := by decide +kernel
theorem dX7_waterOn_0 : decode cX7_waterOn 0 = .ok (.iconst 0, 1) := by decide +kernel
theorem dX7_waterOn_1 : decode cX7_waterOn 1 = .ok (.istore_n 3, 1) := by decide +kernel
theorem dX7_waterOn_2 : decode cX7_waterOn 2 = .ok (.iconst 0, 1) := by decide +kernel
theorem dX7_waterOn_3 : decode cX7_waterOn 3 = .ok (.istore 4, 2) := by decide +kernel
theorem dX7_waterOn_5 : decode cX7_waterOn 5 = .ok (.iload 4, 2) := by decide +kernel
theorem dX7_waterOn_7 : decode cX7_waterOn 7 = .ok (.aload_n 0, 1) := by decide +kernel
theorem dX7_waterOn_8 : decode cX7_waterOn 8 = .ok (.getfield 111, 3) := by decide +kernel
theorem dX7_waterOn_11 : decode cX7_waterOn 11 = .ok (.if_icmp .ge 61, 3) := by decide +kernel
theorem dX7_waterOn_14 : decode cX7_waterOn 14 = .ok (.aload_n 0, 1) := by decide +kernel
theorem dX7_waterOn_15 : decode cX7_waterOn 15 = .ok (.getfield 25, 3) := by decide +kernel
theorem dX7_waterOn_18 : decode cX7_waterOn 18 = .ok (.bipush 17, 2) := by decide +kernel
theorem dX7_waterOn_20 : decode cX7_waterOn 20 = .ok (.iload_n 1, 1) := by decide +kernel
theorem dX7_waterOn_21 : decode cX7_waterOn 21 = .ok (.imul, 1) := by decide +kernel
theorem dX7_waterOn_22 : decode cX7_waterOn 22 = .ok (.iload 4, 2) := by decide +kernel
theorem dX7_waterOn_24 : decode cX7_waterOn 24 = .ok (.iadd, 1) := by decide +kernel
theorem dX7_waterOn_25 : decode cX7_waterOn 25 = .ok (.iaload, 1) := by decide +kernel
theorem dX7_waterOn_26 : decode cX7_waterOn 26 = .ok (.iload_n 2, 1) := by decide +kernel
theorem dX7_waterOn_27 : decode cX7_waterOn 27 = .ok (.if_icmp .ne 39, 3) := by decide +kernel
theorem dX7_waterOn_30 : decode cX7_waterOn 30 = .ok (.aload_n 0, 1) := by decide +kernel
theorem dX7_waterOn_31 : decode cX7_waterOn 31 = .ok (.getfield 16, 3) := by decide +kernel
theorem dX7_waterOn_34 : decode cX7_waterOn 34 = .ok (.iload 4, 2) := by decide +kernel
theorem dX7_waterOn_36 : decode cX7_waterOn 36 = .ok (.iaload, 1) := by decide +kernel
theorem dX7_waterOn_37 : decode cX7_waterOn 37 = .ok (.iconst 1, 1) := by decide +kernel
theorem dX7_waterOn_38 : decode cX7_waterOn 38 = .ok (.if_icmp .eq 28, 3) := by decide +kernel
theorem dX7_waterOn_41 : decode cX7_waterOn 41 = .ok (.iload_n 3, 1) := by decide +kernel
theorem dX7_waterOn_42 : decode cX7_waterOn 42 = .ok (.aload_n 0, 1) := by decide +kernel
theorem dX7_waterOn_43 : decode cX7_waterOn 43 = .ok (.iload_n 1, 1) := by decide +kernel
theorem dX7_waterOn_44 : decode cX7_waterOn 44 = .ok (.iload 4, 2) := by decide +kernel
theorem dX7_waterOn_46 : decode cX7_waterOn 46 = .ok (.invokevirtual 124, 3) := by decide +kernel
theorem dX7_waterOn_49 : decode cX7_waterOn 49 = .ok (.ifCond .eq 7, 3) := by decide +kernel
theorem dX7_waterOn_52 : decode cX7_waterOn 52 = .ok (.iconst 1, 1) := by decide +kernel
theorem dX7_waterOn_53 : decode cX7_waterOn 53 = .ok (.goto 4, 3) := by decide +kernel
theorem dX7_waterOn_56 : decode cX7_waterOn 56 = .ok (.iconst 0, 1) := by decide +kernel
theorem dX7_waterOn_57 : decode cX7_waterOn 57 = .ok (.iadd, 1) := by decide +kernel
theorem dX7_waterOn_58 : decode cX7_waterOn 58 = .ok (.istore_n 3, 1) := by decide +kernel
theorem dX7_waterOn_59 : decode cX7_waterOn 59 = .ok (.aload_n 0, 1) := by decide +kernel
theorem dX7_waterOn_60 : decode cX7_waterOn 60 = .ok (.iload_n 1, 1) := by decide +kernel
theorem dX7_waterOn_61 : decode cX7_waterOn 61 = .ok (.iload 4, 2) := by decide +kernel
theorem dX7_waterOn_63 : decode cX7_waterOn 63 = .ok (.invokevirtual 131, 3) := by decide +kernel
theorem dX7_waterOn_66 : decode cX7_waterOn 66 = .ok (.iinc 4 1, 3) := by decide +kernel
theorem dX7_waterOn_69 : decode cX7_waterOn 69 = .ok (.goto (-64), 3) := by decide +kernel
theorem dX7_waterOn_72 : decode cX7_waterOn 72 = .ok (.iload_n 3, 1) := by decide +kernel
theorem dX7_waterOn_73 : decode cX7_waterOn 73 = .ok (.ireturn, 1) := by decide +kernel
theorem dX7_water_0 : decode cX7_water 0 = .ok (.aload_n 0, 1) := by decide +kernel
theorem dX7_water_1 : decode cX7_water 1 = .ok (.iload_n 1, 1) := by decide +kernel
theorem dX7_water_2 : decode cX7_water 2 = .ok (.invokevirtual 141, 3) := by decide +kernel
theorem dX7_water_5 : decode cX7_water 5 = .ok (.ifCond .ne 5, 3) := by decide +kernel
theorem dX7_water_8 : decode cX7_water 8 = .ok (.iconst (-1), 1) := by decide +kernel
theorem dX7_water_9 : decode cX7_water 9 = .ok (.ireturn, 1) := by decide +kernel
theorem dX7_water_10 : decode cX7_water 10 = .ok (.aload_n 0, 1) := by decide +kernel
theorem dX7_water_11 : decode cX7_water 11 = .ok (.invokevirtual 160, 3) := by decide +kernel
theorem dX7_water_14 : decode cX7_water 14 = .ok (.aload_n 0, 1) := by decide +kernel
theorem dX7_water_15 : decode cX7_water 15 = .ok (.iconst 0, 1) := by decide +kernel
theorem dX7_water_16 : decode cX7_water 16 = .ok (.iload_n 1, 1) := by decide +kernel
theorem dX7_water_17 : decode cX7_water 17 = .ok (.invokevirtual 180, 3) := by decide +kernel
theorem dX7_water_20 : decode cX7_water 20 = .ok (.ireturn, 1) := by decide +kernel
theorem dX7_tell_0 : decode cX7_tell 0 = .ok (.aload_n 0, 1) := by decide +kernel
theorem dX7_tell_1 : decode cX7_tell 1 = .ok (.iload_n 1, 1) := by decide +kernel
theorem dX7_tell_2 : decode cX7_tell 2 = .ok (.invokevirtual 151, 3) := by decide +kernel
theorem dX7_tell_5 : decode cX7_tell 5 = .ok (.ifCond .ne 5, 3) := by decide +kernel
theorem dX7_tell_8 : decode cX7_tell 8 = .ok (.iconst (-1), 1) := by decide +kernel
theorem dX7_tell_9 : decode cX7_tell 9 = .ok (.ireturn, 1) := by decide +kernel
theorem dX7_tell_10 : decode cX7_tell 10 = .ok (.iload_n 2, 1) := by decide +kernel
theorem dX7_tell_11 : decode cX7_tell 11 = .ok (.i2l, 1) := by decide +kernel
theorem dX7_tell_12 : decode cX7_tell 12 = .ok (.lconst 0, 1) := by decide +kernel
theorem dX7_tell_13 : decode cX7_tell 13 = .ok (.ldc2_w 78, 3) := by decide +kernel
theorem dX7_tell_16 : decode cX7_tell 16 = .ok (.invokestatic 64, 3) := by decide +kernel
theorem dX7_tell_19 : decode cX7_tell 19 = .ok (.ifCond .ne 6, 3) := by decide +kernel
theorem dX7_tell_22 : decode cX7_tell 22 = .ok (.bipush (-2), 2) := by decide +kernel
theorem dX7_tell_24 : decode cX7_tell 24 = .ok (.ireturn, 1) := by decide +kernel
theorem dX7_tell_25 : decode cX7_tell 25 = .ok (.aload_n 0, 1) := by decide +kernel
theorem dX7_tell_26 : decode cX7_tell 26 = .ok (.invokevirtual 160, 3) := by decide +kernel
theorem dX7_tell_29 : decode cX7_tell 29 = .ok (.aload_n 0, 1) := by decide +kernel
theorem dX7_tell_30 : decode cX7_tell 30 = .ok (.getfield 25, 3) := by decide +kernel
theorem dX7_tell_33 : decode cX7_tell 33 = .ok (.iconst 5, 1) := by decide +kernel
theorem dX7_tell_34 : decode cX7_tell 34 = .ok (.iload_n 1, 1) := by decide +kernel
theorem dX7_tell_35 : decode cX7_tell 35 = .ok (.iadd, 1) := by decide +kernel
theorem dX7_tell_36 : decode cX7_tell 36 = .ok (.iaload, 1) := by decide +kernel
theorem dX7_tell_37 : decode cX7_tell 37 = .ok (.istore_n 3, 1) := by decide +kernel
theorem dX7_tell_38 : decode cX7_tell 38 = .ok (.aload_n 0, 1) := by decide +kernel
theorem dX7_tell_39 : decode cX7_tell 39 = .ok (.iconst 0, 1) := by decide +kernel
theorem dX7_tell_40 : decode cX7_tell 40 = .ok (.iload_n 1, 1) := by decide +kernel
theorem dX7_tell_41 : decode cX7_tell 41 = .ok (.iload_n 2, 1) := by decide +kernel
theorem dX7_tell_42 : decode cX7_tell 42 = .ok (.invokevirtual 127, 3) := by decide +kernel
theorem dX7_tell_45 : decode cX7_tell 45 = .ok (.iload_n 3, 1) := by decide +kernel
theorem dX7_tell_46 : decode cX7_tell 46 = .ok (.ireturn, 1) := by decide +kernel
theorem dX7_duty_0 : decode cX7_duty 0 = .ok (.aload_n 0, 1) := by decide +kernel
theorem dX7_duty_1 : decode cX7_duty 1 = .ok (.iload_n 1, 1) := by decide +kernel
theorem dX7_duty_2 : decode cX7_duty 2 = .ok (.invokevirtual 154, 3) := by decide +kernel
theorem dX7_duty_5 : decode cX7_duty 5 = .ok (.ifCond .ne 5, 3) := by decide +kernel
theorem dX7_duty_8 : decode cX7_duty 8 = .ok (.iconst (-1), 1) := by decide +kernel
theorem dX7_duty_9 : decode cX7_duty 9 = .ok (.ireturn, 1) := by decide +kernel
theorem dX7_duty_10 : decode cX7_duty 10 = .ok (.aload_n 0, 1) := by decide +kernel
theorem dX7_duty_11 : decode cX7_duty 11 = .ok (.invokevirtual 160, 3) := by decide +kernel
theorem dX7_duty_14 : decode cX7_duty 14 = .ok (.aload_n 0, 1) := by decide +kernel
theorem dX7_duty_15 : decode cX7_duty 15 = .ok (.getfield 25, 3) := by decide +kernel
theorem dX7_duty_18 : decode cX7_duty 18 = .ok (.bipush 15, 2) := by decide +kernel
theorem dX7_duty_20 : decode cX7_duty 20 = .ok (.dup2, 1) := by decide +kernel
theorem dX7_duty_21 : decode cX7_duty 21 = .ok (.iaload, 1) := by decide +kernel
theorem dX7_duty_22 : decode cX7_duty 22 = .ok (.iconst 1, 1) := by decide +kernel
theorem dX7_duty_23 : decode cX7_duty 23 = .ok (.iload_n 1, 1) := by decide +kernel
theorem dX7_duty_24 : decode cX7_duty 24 = .ok (.ishl, 1) := by decide +kernel
theorem dX7_duty_25 : decode cX7_duty 25 = .ok (.ixor, 1) := by decide +kernel
theorem dX7_duty_26 : decode cX7_duty 26 = .ok (.iastore, 1) := by decide +kernel
theorem dX7_duty_27 : decode cX7_duty 27 = .ok (.aload_n 0, 1) := by decide +kernel
theorem dX7_duty_28 : decode cX7_duty 28 = .ok (.getfield 25, 3) := by decide +kernel
theorem dX7_duty_31 : decode cX7_duty 31 = .ok (.bipush 15, 2) := by decide +kernel
theorem dX7_duty_33 : decode cX7_duty 33 = .ok (.iaload, 1) := by decide +kernel
theorem dX7_duty_34 : decode cX7_duty 34 = .ok (.iload_n 1, 1) := by decide +kernel
theorem dX7_duty_35 : decode cX7_duty 35 = .ok (.ishr, 1) := by decide +kernel
theorem dX7_duty_36 : decode cX7_duty 36 = .ok (.iconst 1, 1) := by decide +kernel
theorem dX7_duty_37 : decode cX7_duty 37 = .ok (.iand, 1) := by decide +kernel
theorem dX7_duty_38 : decode cX7_duty 38 = .ok (.ireturn, 1) := by decide +kernel
theorem dX7_undo_0 : decode cX7_undo 0 = .ok (.aload_n 0, 1) := by decide +kernel
theorem dX7_undo_1 : decode cX7_undo 1 = .ok (.getfield 121, 3) := by decide +kernel
theorem dX7_undo_4 : decode cX7_undo 4 = .ok (.ifCond .ne 6, 3) := by decide +kernel
theorem dX7_undo_7 : decode cX7_undo 7 = .ok (.bipush (-3), 2) := by decide +kernel
theorem dX7_undo_9 : decode cX7_undo 9 = .ok (.ireturn, 1) := by decide +kernel
theorem dX7_undo_10 : decode cX7_undo 10 = .ok (.aload_n 0, 1) := by decide +kernel
theorem dX7_undo_11 : decode cX7_undo 11 = .ok (.dup, 1) := by decide +kernel
theorem dX7_undo_12 : decode cX7_undo 12 = .ok (.getfield 121, 3) := by decide +kernel
theorem dX7_undo_15 : decode cX7_undo 15 = .ok (.iconst 1, 1) := by decide +kernel
theorem dX7_undo_16 : decode cX7_undo 16 = .ok (.isub, 1) := by decide +kernel
theorem dX7_undo_17 : decode cX7_undo 17 = .ok (.putfield 121, 3) := by decide +kernel
theorem dX7_undo_20 : decode cX7_undo 20 = .ok (.aload_n 0, 1) := by decide +kernel
theorem dX7_undo_21 : decode cX7_undo 21 = .ok (.aload_n 0, 1) := by decide +kernel
theorem dX7_undo_22 : decode cX7_undo 22 = .ok (.getfield 157, 3) := by decide +kernel
theorem dX7_undo_25 : decode cX7_undo 25 = .ok (.bipush 13, 2) := by decide +kernel
theorem dX7_undo_27 : decode cX7_undo 27 = .ok (.iadd, 1) := by decide +kernel
theorem dX7_undo_28 : decode cX7_undo 28 = .ok (.bipush 14, 2) := by decide +kernel
theorem dX7_undo_30 : decode cX7_undo 30 = .ok (.irem, 1) := by decide +kernel
theorem dX7_undo_31 : decode cX7_undo 31 = .ok (.putfield 157, 3) := by decide +kernel
theorem dX7_undo_34 : decode cX7_undo 34 = .ok (.iconst 0, 1) := by decide +kernel
theorem dX7_undo_35 : decode cX7_undo 35 = .ok (.istore_n 1, 1) := by decide +kernel
theorem dX7_undo_36 : decode cX7_undo 36 = .ok (.iload_n 1, 1) := by decide +kernel
theorem dX7_undo_37 : decode cX7_undo 37 = .ok (.bipush 17, 2) := by decide +kernel
theorem dX7_undo_39 : decode cX7_undo 39 = .ok (.if_icmp .ge 29, 3) := by decide +kernel
theorem dX7_undo_42 : decode cX7_undo 42 = .ok (.aload_n 0, 1) := by decide +kernel
theorem dX7_undo_43 : decode cX7_undo 43 = .ok (.getfield 25, 3) := by decide +kernel
theorem dX7_undo_46 : decode cX7_undo 46 = .ok (.iload_n 1, 1) := by decide +kernel
theorem dX7_undo_47 : decode cX7_undo 47 = .ok (.aload_n 0, 1) := by decide +kernel
theorem dX7_undo_48 : decode cX7_undo 48 = .ok (.getfield 43, 3) := by decide +kernel
theorem dX7_undo_51 : decode cX7_undo 51 = .ok (.bipush 17, 2) := by decide +kernel
theorem dX7_undo_53 : decode cX7_undo 53 = .ok (.aload_n 0, 1) := by decide +kernel
theorem dX7_undo_54 : decode cX7_undo 54 = .ok (.getfield 157, 3) := by decide +kernel
theorem dX7_undo_57 : decode cX7_undo 57 = .ok (.imul, 1) := by decide +kernel
theorem dX7_undo_58 : decode cX7_undo 58 = .ok (.iload_n 1, 1) := by decide +kernel
theorem dX7_undo_59 : decode cX7_undo 59 = .ok (.iadd, 1) := by decide +kernel
theorem dX7_undo_60 : decode cX7_undo 60 = .ok (.iaload, 1) := by decide +kernel
theorem dX7_undo_61 : decode cX7_undo 61 = .ok (.iastore, 1) := by decide +kernel
theorem dX7_undo_62 : decode cX7_undo 62 = .ok (.iinc 1 1, 3) := by decide +kernel
theorem dX7_undo_65 : decode cX7_undo 65 = .ok (.goto (-29), 3) := by decide +kernel
theorem dX7_undo_68 : decode cX7_undo 68 = .ok (.aload_n 0, 1) := by decide +kernel
theorem dX7_undo_69 : decode cX7_undo 69 = .ok (.getfield 121, 3) := by decide +kernel
theorem dX7_undo_72 : decode cX7_undo 72 = .ok (.ireturn, 1) := by decide +kernel
theorem dX7_layTrial_0 : decode cX7_layTrial 0 = .ok (.iconst 0, 1) := by decide +kernel
theorem dX7_layTrial_1 : decode cX7_layTrial 1 = .ok (.istore_n 1, 1) := by decide +kernel
theorem dX7_layTrial_2 : decode cX7_layTrial 2 = .ok (.iload_n 1, 1) := by decide +kernel
theorem dX7_layTrial_3 : decode cX7_layTrial 3 = .ok (.bipush 17, 2) := by decide +kernel
theorem dX7_layTrial_5 : decode cX7_layTrial 5 = .ok (.if_icmp .ge 24, 3) := by decide +kernel
theorem dX7_layTrial_8 : decode cX7_layTrial 8 = .ok (.aload_n 0, 1) := by decide +kernel
theorem dX7_layTrial_9 : decode cX7_layTrial 9 = .ok (.getfield 25, 3) := by decide +kernel
theorem dX7_layTrial_12 : decode cX7_layTrial 12 = .ok (.bipush 17, 2) := by decide +kernel
theorem dX7_layTrial_14 : decode cX7_layTrial 14 = .ok (.iload_n 1, 1) := by decide +kernel
theorem dX7_layTrial_15 : decode cX7_layTrial 15 = .ok (.iadd, 1) := by decide +kernel
theorem dX7_layTrial_16 : decode cX7_layTrial 16 = .ok (.aload_n 0, 1) := by decide +kernel
theorem dX7_layTrial_17 : decode cX7_layTrial 17 = .ok (.getfield 25, 3) := by decide +kernel
theorem dX7_layTrial_20 : decode cX7_layTrial 20 = .ok (.iload_n 1, 1) := by decide +kernel
theorem dX7_layTrial_21 : decode cX7_layTrial 21 = .ok (.iaload, 1) := by decide +kernel
theorem dX7_layTrial_22 : decode cX7_layTrial 22 = .ok (.iastore, 1) := by decide +kernel
theorem dX7_layTrial_23 : decode cX7_layTrial 23 = .ok (.iinc 1 1, 3) := by decide +kernel
theorem dX7_layTrial_26 : decode cX7_layTrial 26 = .ok (.goto (-24), 3) := by decide +kernel
theorem dX7_layTrial_29 : decode cX7_layTrial 29 = .ok (.return_, 1) := by decide +kernel
theorem dX7_ahead_0 : decode cX7_ahead 0 = .ok (.aload_n 0, 1) := by decide +kernel
theorem dX7_ahead_1 : decode cX7_ahead 1 = .ok (.iload_n 1, 1) := by decide +kernel
theorem dX7_ahead_2 : decode cX7_ahead 2 = .ok (.invokevirtual 151, 3) := by decide +kernel
theorem dX7_ahead_5 : decode cX7_ahead 5 = .ok (.ifCond .ne 5, 3) := by decide +kernel
theorem dX7_ahead_8 : decode cX7_ahead 8 = .ok (.iconst (-1), 1) := by decide +kernel
theorem dX7_ahead_9 : decode cX7_ahead 9 = .ok (.ireturn, 1) := by decide +kernel
theorem dX7_ahead_10 : decode cX7_ahead 10 = .ok (.iload_n 2, 1) := by decide +kernel
theorem dX7_ahead_11 : decode cX7_ahead 11 = .ok (.i2l, 1) := by decide +kernel
theorem dX7_ahead_12 : decode cX7_ahead 12 = .ok (.lconst 0, 1) := by decide +kernel
theorem dX7_ahead_13 : decode cX7_ahead 13 = .ok (.ldc2_w 183, 3) := by decide +kernel
theorem dX7_ahead_16 : decode cX7_ahead 16 = .ok (.invokestatic 64, 3) := by decide +kernel
theorem dX7_ahead_19 : decode cX7_ahead 19 = .ok (.ifCond .ne 6, 3) := by decide +kernel
theorem dX7_ahead_22 : decode cX7_ahead 22 = .ok (.bipush (-2), 2) := by decide +kernel
theorem dX7_ahead_24 : decode cX7_ahead 24 = .ok (.ireturn, 1) := by decide +kernel
theorem dX7_ahead_25 : decode cX7_ahead 25 = .ok (.aload_n 0, 1) := by decide +kernel
theorem dX7_ahead_26 : decode cX7_ahead 26 = .ok (.invokevirtual 185, 3) := by decide +kernel
theorem dX7_ahead_29 : decode cX7_ahead 29 = .ok (.iconst 0, 1) := by decide +kernel
theorem dX7_ahead_30 : decode cX7_ahead 30 = .ok (.istore_n 3, 1) := by decide +kernel
theorem dX7_ahead_31 : decode cX7_ahead 31 = .ok (.iload_n 3, 1) := by decide +kernel
theorem dX7_ahead_32 : decode cX7_ahead 32 = .ok (.iload_n 2, 1) := by decide +kernel
theorem dX7_ahead_33 : decode cX7_ahead 33 = .ok (.if_icmp .ge 14, 3) := by decide +kernel
theorem dX7_ahead_36 : decode cX7_ahead 36 = .ok (.aload_n 0, 1) := by decide +kernel
theorem dX7_ahead_37 : decode cX7_ahead 37 = .ok (.iconst 1, 1) := by decide +kernel
theorem dX7_ahead_38 : decode cX7_ahead 38 = .ok (.invokevirtual 163, 3) := by decide +kernel
theorem dX7_ahead_41 : decode cX7_ahead 41 = .ok (.iinc 3 1, 3) := by decide +kernel
theorem dX7_ahead_44 : decode cX7_ahead 44 = .ok (.goto (-13), 3) := by decide +kernel
theorem dX7_ahead_47 : decode cX7_ahead 47 = .ok (.aload_n 0, 1) := by decide +kernel
theorem dX7_ahead_48 : decode cX7_ahead 48 = .ok (.getfield 25, 3) := by decide +kernel
theorem dX7_ahead_51 : decode cX7_ahead 51 = .ok (.bipush 22, 2) := by decide +kernel
theorem dX7_ahead_53 : decode cX7_ahead 53 = .ok (.iload_n 1, 1) := by decide +kernel
theorem dX7_ahead_54 : decode cX7_ahead 54 = .ok (.iadd, 1) := by decide +kernel
theorem dX7_ahead_55 : decode cX7_ahead 55 = .ok (.iaload, 1) := by decide +kernel
theorem dX7_ahead_56 : decode cX7_ahead 56 = .ok (.ireturn, 1) := by decide +kernel
theorem dX7_lost_0 : decode cX7_lost 0 = .ok (.aload_n 0, 1) := by decide +kernel
theorem dX7_lost_1 : decode cX7_lost 1 = .ok (.iload_n 1, 1) := by decide +kernel
theorem dX7_lost_2 : decode cX7_lost 2 = .ok (.invokevirtual 151, 3) := by decide +kernel
theorem dX7_lost_5 : decode cX7_lost 5 = .ok (.ifCond .ne 5, 3) := by decide +kernel
theorem dX7_lost_8 : decode cX7_lost 8 = .ok (.iconst (-1), 1) := by decide +kernel
theorem dX7_lost_9 : decode cX7_lost 9 = .ok (.ireturn, 1) := by decide +kernel
theorem dX7_lost_10 : decode cX7_lost 10 = .ok (.aload_n 0, 1) := by decide +kernel
theorem dX7_lost_11 : decode cX7_lost 11 = .ok (.invokevirtual 185, 3) := by decide +kernel
theorem dX7_lost_14 : decode cX7_lost 14 = .ok (.iconst 0, 1) := by decide +kernel
theorem dX7_lost_15 : decode cX7_lost 15 = .ok (.istore_n 2, 1) := by decide +kernel
theorem dX7_lost_16 : decode cX7_lost 16 = .ok (.iload_n 2, 1) := by decide +kernel
theorem dX7_lost_17 : decode cX7_lost 17 = .ok (.bipush 21, 2) := by decide +kernel
theorem dX7_lost_19 : decode cX7_lost 19 = .ok (.if_icmp .ge 25, 3) := by decide +kernel
theorem dX7_lost_22 : decode cX7_lost 22 = .ok (.aload_n 0, 1) := by decide +kernel
theorem dX7_lost_23 : decode cX7_lost 23 = .ok (.iconst 1, 1) := by decide +kernel
theorem dX7_lost_24 : decode cX7_lost 24 = .ok (.iload_n 1, 1) := by decide +kernel
theorem dX7_lost_25 : decode cX7_lost 25 = .ok (.invokevirtual 124, 3) := by decide +kernel
theorem dX7_lost_28 : decode cX7_lost 28 = .ok (.ifCond .ne 5, 3) := by decide +kernel
theorem dX7_lost_31 : decode cX7_lost 31 = .ok (.iload_n 2, 1) := by decide +kernel
theorem dX7_lost_32 : decode cX7_lost 32 = .ok (.ireturn, 1) := by decide +kernel
theorem dX7_lost_33 : decode cX7_lost 33 = .ok (.aload_n 0, 1) := by decide +kernel
theorem dX7_lost_34 : decode cX7_lost 34 = .ok (.iconst 1, 1) := by decide +kernel
theorem dX7_lost_35 : decode cX7_lost 35 = .ok (.invokevirtual 163, 3) := by decide +kernel
theorem dX7_lost_38 : decode cX7_lost 38 = .ok (.iinc 2 1, 3) := by decide +kernel
theorem dX7_lost_41 : decode cX7_lost 41 = .ok (.goto (-25), 3) := by decide +kernel
theorem dX7_lost_44 : decode cX7_lost 44 = .ok (.bipush (-9), 2) := by decide +kernel
theorem dX7_lost_46 : decode cX7_lost 46 = .ok (.ireturn, 1) := by decide +kernel
theorem dX7_isKeptBy_0 : decode cX7_isKeptBy 0 = .ok (.aload_n 0, 1) := by decide +kernel
theorem dX7_isKeptBy_1 : decode cX7_isKeptBy 1 = .ok (.invokevirtual 185, 3) := by decide +kernel
theorem dX7_isKeptBy_4 : decode cX7_isKeptBy 4 = .ok (.aload_n 0, 1) := by decide +kernel
theorem dX7_isKeptBy_5 : decode cX7_isKeptBy 5 = .ok (.getfield 25, 3) := by decide +kernel
theorem dX7_isKeptBy_8 : decode cX7_isKeptBy 8 = .ok (.bipush 32, 2) := by decide +kernel
theorem dX7_isKeptBy_10 : decode cX7_isKeptBy 10 = .ok (.iload_n 1, 1) := by decide +kernel
theorem dX7_isKeptBy_11 : decode cX7_isKeptBy 11 = .ok (.iastore, 1) := by decide +kernel
theorem dX7_isKeptBy_12 : decode cX7_isKeptBy 12 = .ok (.iconst 1, 1) := by decide +kernel
theorem dX7_isKeptBy_13 : decode cX7_isKeptBy 13 = .ok (.istore_n 2, 1) := by decide +kernel
theorem dX7_isKeptBy_14 : decode cX7_isKeptBy 14 = .ok (.iconst 0, 1) := by decide +kernel
theorem dX7_isKeptBy_15 : decode cX7_isKeptBy 15 = .ok (.istore_n 3, 1) := by decide +kernel
theorem dX7_isKeptBy_16 : decode cX7_isKeptBy 16 = .ok (.iload_n 3, 1) := by decide +kernel
theorem dX7_isKeptBy_17 : decode cX7_isKeptBy 17 = .ok (.bipush 12, 2) := by decide +kernel
theorem dX7_isKeptBy_19 : decode cX7_isKeptBy 19 = .ok (.if_icmp .ge 40, 3) := by decide +kernel
theorem dX7_isKeptBy_22 : decode cX7_isKeptBy 22 = .ok (.aload_n 0, 1) := by decide +kernel
theorem dX7_isKeptBy_23 : decode cX7_isKeptBy 23 = .ok (.iconst 1, 1) := by decide +kernel
theorem dX7_isKeptBy_24 : decode cX7_isKeptBy 24 = .ok (.invokevirtual 163, 3) := by decide +kernel
theorem dX7_isKeptBy_27 : decode cX7_isKeptBy 27 = .ok (.iload_n 2, 1) := by decide +kernel
theorem dX7_isKeptBy_28 : decode cX7_isKeptBy 28 = .ok (.ifCond .eq 23, 3) := by decide +kernel
theorem dX7_isKeptBy_31 : decode cX7_isKeptBy 31 = .ok (.aload_n 0, 1) := by decide +kernel
theorem dX7_isKeptBy_32 : decode cX7_isKeptBy 32 = .ok (.iconst 1, 1) := by decide +kernel
theorem dX7_isKeptBy_33 : decode cX7_isKeptBy 33 = .ok (.iconst 0, 1) := by decide +kernel
theorem dX7_isKeptBy_34 : decode cX7_isKeptBy 34 = .ok (.invokevirtual 166, 3) := by decide +kernel
theorem dX7_isKeptBy_37 : decode cX7_isKeptBy 37 = .ok (.invokestatic 170, 3) := by decide +kernel
theorem dX7_isKeptBy_40 : decode cX7_isKeptBy 40 = .ok (.aload_n 0, 1) := by decide +kernel
theorem dX7_isKeptBy_41 : decode cX7_isKeptBy 41 = .ok (.getfield 111, 3) := by decide +kernel
theorem dX7_isKeptBy_44 : decode cX7_isKeptBy 44 = .ok (.if_icmp .ne 7, 3) := by decide +kernel
theorem dX7_isKeptBy_47 : decode cX7_isKeptBy 47 = .ok (.iconst 1, 1) := by decide +kernel
theorem dX7_isKeptBy_48 : decode cX7_isKeptBy 48 = .ok (.goto 4, 3) := by decide +kernel
theorem dX7_isKeptBy_51 : decode cX7_isKeptBy 51 = .ok (.iconst 0, 1) := by decide +kernel
theorem dX7_isKeptBy_52 : decode cX7_isKeptBy 52 = .ok (.istore_n 2, 1) := by decide +kernel
theorem dX7_isKeptBy_53 : decode cX7_isKeptBy 53 = .ok (.iinc 3 1, 3) := by decide +kernel
theorem dX7_isKeptBy_56 : decode cX7_isKeptBy 56 = .ok (.goto (-40), 3) := by decide +kernel
theorem dX7_isKeptBy_59 : decode cX7_isKeptBy 59 = .ok (.iload_n 2, 1) := by decide +kernel
theorem dX7_isKeptBy_60 : decode cX7_isKeptBy 60 = .ok (.ireturn, 1) := by decide +kernel
theorem dX7_crew_0 : decode cX7_crew 0 = .ok (.bipush (-9), 2) := by decide +kernel
theorem dX7_crew_2 : decode cX7_crew 2 = .ok (.istore_n 1, 1) := by decide +kernel
theorem dX7_crew_3 : decode cX7_crew 3 = .ok (.iconst 0, 1) := by decide +kernel
theorem dX7_crew_4 : decode cX7_crew 4 = .ok (.istore_n 2, 1) := by decide +kernel
theorem dX7_crew_5 : decode cX7_crew 5 = .ok (.iload_n 2, 1) := by decide +kernel
theorem dX7_crew_6 : decode cX7_crew 6 = .ok (.iconst 1, 1) := by decide +kernel
theorem dX7_crew_7 : decode cX7_crew 7 = .ok (.aload_n 0, 1) := by decide +kernel
theorem dX7_crew_8 : decode cX7_crew 8 = .ok (.getfield 114, 3) := by decide +kernel
theorem dX7_crew_11 : decode cX7_crew 11 = .ok (.ishl, 1) := by decide +kernel
theorem dX7_crew_12 : decode cX7_crew 12 = .ok (.if_icmp .ge 50, 3) := by decide +kernel
theorem dX7_crew_15 : decode cX7_crew 15 = .ok (.iload_n 1, 1) := by decide +kernel
theorem dX7_crew_16 : decode cX7_crew 16 = .ok (.bipush (-9), 2) := by decide +kernel
theorem dX7_crew_18 : decode cX7_crew 18 = .ok (.if_icmp .eq 14, 3) := by decide +kernel
theorem dX7_crew_21 : decode cX7_crew 21 = .ok (.iload_n 2, 1) := by decide +kernel
theorem dX7_crew_22 : decode cX7_crew 22 = .ok (.invokestatic 170, 3) := by decide +kernel
theorem dX7_crew_25 : decode cX7_crew 25 = .ok (.iload_n 1, 1) := by decide +kernel
theorem dX7_crew_26 : decode cX7_crew 26 = .ok (.invokestatic 170, 3) := by decide +kernel
theorem dX7_crew_29 : decode cX7_crew 29 = .ok (.if_icmp .ge 7, 3) := by decide +kernel
theorem dX7_crew_32 : decode cX7_crew 32 = .ok (.iconst 1, 1) := by decide +kernel
theorem dX7_crew_33 : decode cX7_crew 33 = .ok (.goto 4, 3) := by decide +kernel
theorem dX7_crew_36 : decode cX7_crew 36 = .ok (.iconst 0, 1) := by decide +kernel
theorem dX7_crew_37 : decode cX7_crew 37 = .ok (.istore_n 3, 1) := by decide +kernel
theorem dX7_crew_38 : decode cX7_crew 38 = .ok (.iload_n 3, 1) := by decide +kernel
theorem dX7_crew_39 : decode cX7_crew 39 = .ok (.ifCond .eq 15, 3) := by decide +kernel
theorem dX7_crew_42 : decode cX7_crew 42 = .ok (.aload_n 0, 1) := by decide +kernel
theorem dX7_crew_43 : decode cX7_crew 43 = .ok (.iload_n 2, 1) := by decide +kernel
theorem dX7_crew_44 : decode cX7_crew 44 = .ok (.invokevirtual 188, 3) := by decide +kernel
theorem dX7_crew_47 : decode cX7_crew 47 = .ok (.ifCond .eq 7, 3) := by decide +kernel
theorem dX7_crew_50 : decode cX7_crew 50 = .ok (.iload_n 2, 1) := by decide +kernel
theorem dX7_crew_51 : decode cX7_crew 51 = .ok (.goto 4, 3) := by decide +kernel
theorem dX7_crew_54 : decode cX7_crew 54 = .ok (.iload_n 1, 1) := by decide +kernel
theorem dX7_crew_55 : decode cX7_crew 55 = .ok (.istore_n 1, 1) := by decide +kernel
theorem dX7_crew_56 : decode cX7_crew 56 = .ok (.iinc 2 1, 3) := by decide +kernel
theorem dX7_crew_59 : decode cX7_crew 59 = .ok (.goto (-54), 3) := by decide +kernel
theorem dX7_crew_62 : decode cX7_crew 62 = .ok (.iload_n 1, 1) := by decide +kernel
theorem dX7_crew_63 : decode cX7_crew 63 = .ok (.ireturn, 1) := by decide +kernel
theorem dX7_goLong_0 : decode cX7_goLong 0 = .ok (.aload_n 0, 1) := by decide +kernel
theorem dX7_goLong_1 : decode cX7_goLong 1 = .ok (.getfield 46, 3) := by decide +kernel
theorem dX7_goLong_4 : decode cX7_goLong 4 = .ok (.iconst 0, 1) := by decide +kernel
theorem dX7_goLong_5 : decode cX7_goLong 5 = .ok (.iconst 0, 1) := by decide +kernel
theorem dX7_goLong_6 : decode cX7_goLong 6 = .ok (.iastore, 1) := by decide +kernel
theorem dX7_goLong_7 : decode cX7_goLong 7 = .ok (.aload_n 0, 1) := by decide +kernel
theorem dX7_goLong_8 : decode cX7_goLong 8 = .ok (.getfield 46, 3) := by decide +kernel
theorem dX7_goLong_11 : decode cX7_goLong 11 = .ok (.iconst 1, 1) := by decide +kernel
theorem dX7_goLong_12 : decode cX7_goLong 12 = .ok (.iconst 0, 1) := by decide +kernel
theorem dX7_goLong_13 : decode cX7_goLong 13 = .ok (.iastore, 1) := by decide +kernel
theorem dX7_goLong_14 : decode cX7_goLong 14 = .ok (.iconst 0, 1) := by decide +kernel
theorem dX7_goLong_15 : decode cX7_goLong 15 = .ok (.istore_n 3, 1) := by decide +kernel
theorem dX7_goLong_16 : decode cX7_goLong 16 = .ok (.iload_n 3, 1) := by decide +kernel
theorem dX7_goLong_17 : decode cX7_goLong 17 = .ok (.bipush 12, 2) := by decide +kernel
theorem dX7_goLong_19 : decode cX7_goLong 19 = .ok (.if_icmp .ge 60, 3) := by decide +kernel
theorem dX7_goLong_22 : decode cX7_goLong 22 = .ok (.aload_n 0, 1) := by decide +kernel
theorem dX7_goLong_23 : decode cX7_goLong 23 = .ok (.iconst 1, 1) := by decide +kernel
theorem dX7_goLong_24 : decode cX7_goLong 24 = .ok (.invokevirtual 163, 3) := by decide +kernel
theorem dX7_goLong_27 : decode cX7_goLong 27 = .ok (.aload_n 0, 1) := by decide +kernel
theorem dX7_goLong_28 : decode cX7_goLong 28 = .ok (.getfield 46, 3) := by decide +kernel
theorem dX7_goLong_31 : decode cX7_goLong 31 = .ok (.iconst 0, 1) := by decide +kernel
theorem dX7_goLong_32 : decode cX7_goLong 32 = .ok (.dup2, 1) := by decide +kernel
theorem dX7_goLong_33 : decode cX7_goLong 33 = .ok (.iaload, 1) := by decide +kernel
theorem dX7_goLong_34 : decode cX7_goLong 34 = .ok (.aload_n 0, 1) := by decide +kernel
theorem dX7_goLong_35 : decode cX7_goLong 35 = .ok (.iconst 1, 1) := by decide +kernel
theorem dX7_goLong_36 : decode cX7_goLong 36 = .ok (.iload_n 1, 1) := by decide +kernel
theorem dX7_goLong_37 : decode cX7_goLong 37 = .ok (.invokevirtual 124, 3) := by decide +kernel
theorem dX7_goLong_40 : decode cX7_goLong 40 = .ok (.ifCond .eq 7, 3) := by decide +kernel
theorem dX7_goLong_43 : decode cX7_goLong 43 = .ok (.iconst 1, 1) := by decide +kernel
theorem dX7_goLong_44 : decode cX7_goLong 44 = .ok (.goto 4, 3) := by decide +kernel
theorem dX7_goLong_47 : decode cX7_goLong 47 = .ok (.iconst 0, 1) := by decide +kernel
theorem dX7_goLong_48 : decode cX7_goLong 48 = .ok (.iadd, 1) := by decide +kernel
theorem dX7_goLong_49 : decode cX7_goLong 49 = .ok (.iastore, 1) := by decide +kernel
theorem dX7_goLong_50 : decode cX7_goLong 50 = .ok (.aload_n 0, 1) := by decide +kernel
theorem dX7_goLong_51 : decode cX7_goLong 51 = .ok (.getfield 46, 3) := by decide +kernel
theorem dX7_goLong_54 : decode cX7_goLong 54 = .ok (.iconst 1, 1) := by decide +kernel
theorem dX7_goLong_55 : decode cX7_goLong 55 = .ok (.dup2, 1) := by decide +kernel
theorem dX7_goLong_56 : decode cX7_goLong 56 = .ok (.iaload, 1) := by decide +kernel
theorem dX7_goLong_57 : decode cX7_goLong 57 = .ok (.aload_n 0, 1) := by decide +kernel
theorem dX7_goLong_58 : decode cX7_goLong 58 = .ok (.iconst 1, 1) := by decide +kernel
theorem dX7_goLong_59 : decode cX7_goLong 59 = .ok (.iload_n 2, 1) := by decide +kernel
theorem dX7_goLong_60 : decode cX7_goLong 60 = .ok (.invokevirtual 124, 3) := by decide +kernel
theorem dX7_goLong_63 : decode cX7_goLong 63 = .ok (.ifCond .eq 7, 3) := by decide +kernel
theorem dX7_goLong_66 : decode cX7_goLong 66 = .ok (.iconst 1, 1) := by decide +kernel
theorem dX7_goLong_67 : decode cX7_goLong 67 = .ok (.goto 4, 3) := by decide +kernel
theorem dX7_goLong_70 : decode cX7_goLong 70 = .ok (.iconst 0, 1) := by decide +kernel
theorem dX7_goLong_71 : decode cX7_goLong 71 = .ok (.iadd, 1) := by decide +kernel
theorem dX7_goLong_72 : decode cX7_goLong 72 = .ok (.iastore, 1) := by decide +kernel
theorem dX7_goLong_73 : decode cX7_goLong 73 = .ok (.iinc 3 1, 3) := by decide +kernel
theorem dX7_goLong_76 : decode cX7_goLong 76 = .ok (.goto (-60), 3) := by decide +kernel
theorem dX7_goLong_79 : decode cX7_goLong 79 = .ok (.return_, 1) := by decide +kernel
theorem dX7_keptIn_0 : decode cX7_keptIn 0 = .ok (.aload_n 0, 1) := by decide +kernel
theorem dX7_keptIn_1 : decode cX7_keptIn 1 = .ok (.invokevirtual 185, 3) := by decide +kernel
theorem dX7_keptIn_4 : decode cX7_keptIn 4 = .ok (.aload_n 0, 1) := by decide +kernel
theorem dX7_keptIn_5 : decode cX7_keptIn 5 = .ok (.iconst 1, 1) := by decide +kernel
theorem dX7_keptIn_6 : decode cX7_keptIn 6 = .ok (.iload_n 1, 1) := by decide +kernel
theorem dX7_keptIn_7 : decode cX7_keptIn 7 = .ok (.iload_n 2, 1) := by decide +kernel
theorem dX7_keptIn_8 : decode cX7_keptIn 8 = .ok (.invokevirtual 177, 3) := by decide +kernel
theorem dX7_keptIn_11 : decode cX7_keptIn 11 = .ok (.aload_n 0, 1) := by decide +kernel
theorem dX7_keptIn_12 : decode cX7_keptIn 12 = .ok (.iload_n 1, 1) := by decide +kernel
theorem dX7_keptIn_13 : decode cX7_keptIn 13 = .ok (.iload_n 1, 1) := by decide +kernel
theorem dX7_keptIn_14 : decode cX7_keptIn 14 = .ok (.invokevirtual 191, 3) := by decide +kernel
theorem dX7_keptIn_17 : decode cX7_keptIn 17 = .ok (.aload_n 0, 1) := by decide +kernel
theorem dX7_keptIn_18 : decode cX7_keptIn 18 = .ok (.getfield 46, 3) := by decide +kernel
theorem dX7_keptIn_21 : decode cX7_keptIn 21 = .ok (.iconst 0, 1) := by decide +kernel
theorem dX7_keptIn_22 : decode cX7_keptIn 22 = .ok (.iaload, 1) := by decide +kernel
theorem dX7_keptIn_23 : decode cX7_keptIn 23 = .ok (.ireturn, 1) := by decide +kernel
theorem dX7_keeps_0 : decode cX7_keeps 0 = .ok (.aload_n 0, 1) := by decide +kernel
theorem dX7_keeps_1 : decode cX7_keeps 1 = .ok (.iload_n 1, 1) := by decide +kernel
theorem dX7_keeps_2 : decode cX7_keeps 2 = .ok (.invokevirtual 151, 3) := by decide +kernel
theorem dX7_keeps_5 : decode cX7_keeps 5 = .ok (.ifCond .eq 20, 3) := by decide +kernel
theorem dX7_keeps_8 : decode cX7_keeps 8 = .ok (.aload_n 0, 1) := by decide +kernel
theorem dX7_keeps_9 : decode cX7_keeps 9 = .ok (.iload_n 2, 1) := by decide +kernel
theorem dX7_keeps_10 : decode cX7_keeps 10 = .ok (.invokevirtual 141, 3) := by decide +kernel
theorem dX7_keeps_13 : decode cX7_keeps 13 = .ok (.ifCond .eq 12, 3) := by decide +kernel
theorem dX7_keeps_16 : decode cX7_keeps 16 = .ok (.aload_n 0, 1) := by decide +kernel
theorem dX7_keeps_17 : decode cX7_keeps 17 = .ok (.iload_n 1, 1) := by decide +kernel
theorem dX7_keeps_18 : decode cX7_keeps 18 = .ok (.iload_n 2, 1) := by decide +kernel
theorem dX7_keeps_19 : decode cX7_keeps 19 = .ok (.invokevirtual 194, 3) := by decide +kernel
theorem dX7_keeps_22 : decode cX7_keeps 22 = .ok (.goto 4, 3) := by decide +kernel
theorem dX7_keeps_25 : decode cX7_keeps 25 = .ok (.iconst (-1), 1) := by decide +kernel
theorem dX7_keeps_26 : decode cX7_keeps 26 = .ok (.ireturn, 1) := by decide +kernel
theorem dX7_best_0 : decode cX7_best 0 = .ok (.aload_n 0, 1) := by decide +kernel
theorem dX7_best_1 : decode cX7_best 1 = .ok (.iload_n 1, 1) := by decide +kernel
theorem dX7_best_2 : decode cX7_best 2 = .ok (.invokevirtual 151, 3) := by decide +kernel
theorem dX7_best_5 : decode cX7_best 5 = .ok (.ifCond .ne 5, 3) := by decide +kernel
theorem dX7_best_8 : decode cX7_best 8 = .ok (.iconst (-1), 1) := by decide +kernel
theorem dX7_best_9 : decode cX7_best 9 = .ok (.ireturn, 1) := by decide +kernel
theorem dX7_best_10 : decode cX7_best 10 = .ok (.iconst 0, 1) := by decide +kernel
theorem dX7_best_11 : decode cX7_best 11 = .ok (.istore_n 2, 1) := by decide +kernel
theorem dX7_best_12 : decode cX7_best 12 = .ok (.iconst 1, 1) := by decide +kernel
theorem dX7_best_13 : decode cX7_best 13 = .ok (.istore_n 3, 1) := by decide +kernel
theorem dX7_best_14 : decode cX7_best 14 = .ok (.iload_n 3, 1) := by decide +kernel
theorem dX7_best_15 : decode cX7_best 15 = .ok (.aload_n 0, 1) := by decide +kernel
theorem dX7_best_16 : decode cX7_best 16 = .ok (.getfield 108, 3) := by decide +kernel
theorem dX7_best_19 : decode cX7_best 19 = .ok (.if_icmp .ge 30, 3) := by decide +kernel
theorem dX7_best_22 : decode cX7_best 22 = .ok (.aload_n 0, 1) := by decide +kernel
theorem dX7_best_23 : decode cX7_best 23 = .ok (.iload_n 1, 1) := by decide +kernel
theorem dX7_best_24 : decode cX7_best 24 = .ok (.iload_n 3, 1) := by decide +kernel
theorem dX7_best_25 : decode cX7_best 25 = .ok (.invokevirtual 194, 3) := by decide +kernel
theorem dX7_best_28 : decode cX7_best 28 = .ok (.aload_n 0, 1) := by decide +kernel
theorem dX7_best_29 : decode cX7_best 29 = .ok (.iload_n 1, 1) := by decide +kernel
theorem dX7_best_30 : decode cX7_best 30 = .ok (.iload_n 2, 1) := by decide +kernel
theorem dX7_best_31 : decode cX7_best 31 = .ok (.invokevirtual 194, 3) := by decide +kernel
theorem dX7_best_34 : decode cX7_best 34 = .ok (.if_icmp .le 7, 3) := by decide +kernel
theorem dX7_best_37 : decode cX7_best 37 = .ok (.iload_n 3, 1) := by decide +kernel
theorem dX7_best_38 : decode cX7_best 38 = .ok (.goto 4, 3) := by decide +kernel
theorem dX7_best_41 : decode cX7_best 41 = .ok (.iload_n 2, 1) := by decide +kernel
theorem dX7_best_42 : decode cX7_best 42 = .ok (.istore_n 2, 1) := by decide +kernel
theorem dX7_best_43 : decode cX7_best 43 = .ok (.iinc 3 1, 3) := by decide +kernel
theorem dX7_best_46 : decode cX7_best 46 = .ok (.goto (-32), 3) := by decide +kernel
theorem dX7_best_49 : decode cX7_best 49 = .ok (.iload_n 2, 1) := by decide +kernel
theorem dX7_best_50 : decode cX7_best 50 = .ok (.ireturn, 1) := by decide +kernel
theorem dX7_tryThing_0 : decode cX7_tryThing 0 = .ok (.iload_n 1, 1) := by decide +kernel
theorem dX7_tryThing_1 : decode cX7_tryThing 1 = .ok (.tableswitch 209 0 5 #[39, 58, 82, 116, 138, 182], 39) := by decide +kernel
theorem dX7_tryThing_40 : decode cX7_tryThing 40 = .ok (.aload_n 0, 1) := by decide +kernel
theorem dX7_tryThing_41 : decode cX7_tryThing 41 = .ok (.iconst 1, 1) := by decide +kernel
theorem dX7_tryThing_42 : decode cX7_tryThing 42 = .ok (.invokevirtual 163, 3) := by decide +kernel
theorem dX7_tryThing_45 : decode cX7_tryThing 45 = .ok (.iload_n 2, 1) := by decide +kernel
theorem dX7_tryThing_46 : decode cX7_tryThing 46 = .ok (.ifCond .ne 11, 3) := by decide +kernel
theorem dX7_tryThing_49 : decode cX7_tryThing 49 = .ok (.iload_n 3, 1) := by decide +kernel
theorem dX7_tryThing_50 : decode cX7_tryThing 50 = .ok (.ifCond .ne 7, 3) := by decide +kernel
theorem dX7_tryThing_53 : decode cX7_tryThing 53 = .ok (.iconst 1, 1) := by decide +kernel
theorem dX7_tryThing_54 : decode cX7_tryThing 54 = .ok (.goto 4, 3) := by decide +kernel
theorem dX7_tryThing_57 : decode cX7_tryThing 57 = .ok (.iconst 0, 1) := by decide +kernel
theorem dX7_tryThing_58 : decode cX7_tryThing 58 = .ok (.ireturn, 1) := by decide +kernel
theorem dX7_tryThing_59 : decode cX7_tryThing 59 = .ok (.aload_n 0, 1) := by decide +kernel
theorem dX7_tryThing_60 : decode cX7_tryThing 60 = .ok (.iconst 1, 1) := by decide +kernel
theorem dX7_tryThing_61 : decode cX7_tryThing 61 = .ok (.iload_n 2, 1) := by decide +kernel
theorem dX7_tryThing_62 : decode cX7_tryThing 62 = .ok (.iload_n 3, 1) := by decide +kernel
theorem dX7_tryThing_63 : decode cX7_tryThing 63 = .ok (.invokevirtual 173, 3) := by decide +kernel
theorem dX7_tryThing_66 : decode cX7_tryThing 66 = .ok (.istore 4, 2) := by decide +kernel
theorem dX7_tryThing_68 : decode cX7_tryThing 68 = .ok (.iload 4, 2) := by decide +kernel
theorem dX7_tryThing_70 : decode cX7_tryThing 70 = .ok (.ifCond .eq 10, 3) := by decide +kernel
theorem dX7_tryThing_73 : decode cX7_tryThing 73 = .ok (.aload_n 0, 1) := by decide +kernel
theorem dX7_tryThing_74 : decode cX7_tryThing 74 = .ok (.iconst 1, 1) := by decide +kernel
theorem dX7_tryThing_75 : decode cX7_tryThing 75 = .ok (.iload_n 2, 1) := by decide +kernel
theorem dX7_tryThing_76 : decode cX7_tryThing 76 = .ok (.iload_n 3, 1) := by decide +kernel
theorem dX7_tryThing_77 : decode cX7_tryThing 77 = .ok (.invokevirtual 177, 3) := by decide +kernel
theorem dX7_tryThing_80 : decode cX7_tryThing 80 = .ok (.iload 4, 2) := by decide +kernel
theorem dX7_tryThing_82 : decode cX7_tryThing 82 = .ok (.ireturn, 1) := by decide +kernel
theorem dX7_tryThing_83 : decode cX7_tryThing 83 = .ok (.aload_n 0, 1) := by decide +kernel
theorem dX7_tryThing_84 : decode cX7_tryThing 84 = .ok (.iconst 1, 1) := by decide +kernel
theorem dX7_tryThing_85 : decode cX7_tryThing 85 = .ok (.iload_n 2, 1) := by decide +kernel
theorem dX7_tryThing_86 : decode cX7_tryThing 86 = .ok (.ifCond .ne 7, 3) := by decide +kernel
theorem dX7_tryThing_89 : decode cX7_tryThing 89 = .ok (.iload_n 3, 1) := by decide +kernel
theorem dX7_tryThing_90 : decode cX7_tryThing 90 = .ok (.goto 5, 3) := by decide +kernel
theorem dX7_tryThing_93 : decode cX7_tryThing 93 = .ok (.bipush (-9), 2) := by decide +kernel
theorem dX7_tryThing_95 : decode cX7_tryThing 95 = .ok (.invokevirtual 180, 3) := by decide +kernel
theorem dX7_tryThing_98 : decode cX7_tryThing 98 = .ok (.pop, 1) := by decide +kernel
theorem dX7_tryThing_99 : decode cX7_tryThing 99 = .ok (.iload_n 2, 1) := by decide +kernel
theorem dX7_tryThing_100 : decode cX7_tryThing 100 = .ok (.ifCond .ne 15, 3) := by decide +kernel
theorem dX7_tryThing_103 : decode cX7_tryThing 103 = .ok (.aload_n 0, 1) := by decide +kernel
theorem dX7_tryThing_104 : decode cX7_tryThing 104 = .ok (.iload_n 3, 1) := by decide +kernel
theorem dX7_tryThing_105 : decode cX7_tryThing 105 = .ok (.invokevirtual 141, 3) := by decide +kernel
theorem dX7_tryThing_108 : decode cX7_tryThing 108 = .ok (.ifCond .eq 7, 3) := by decide +kernel
theorem dX7_tryThing_111 : decode cX7_tryThing 111 = .ok (.iconst 1, 1) := by decide +kernel
theorem dX7_tryThing_112 : decode cX7_tryThing 112 = .ok (.goto 4, 3) := by decide +kernel
theorem dX7_tryThing_115 : decode cX7_tryThing 115 = .ok (.iconst 0, 1) := by decide +kernel
theorem dX7_tryThing_116 : decode cX7_tryThing 116 = .ok (.ireturn, 1) := by decide +kernel
theorem dX7_tryThing_117 : decode cX7_tryThing 117 = .ok (.aload_n 0, 1) := by decide +kernel
theorem dX7_tryThing_118 : decode cX7_tryThing 118 = .ok (.iload_n 2, 1) := by decide +kernel
theorem dX7_tryThing_119 : decode cX7_tryThing 119 = .ok (.invokevirtual 151, 3) := by decide +kernel
theorem dX7_tryThing_122 : decode cX7_tryThing 122 = .ok (.istore 5, 2) := by decide +kernel
theorem dX7_tryThing_124 : decode cX7_tryThing 124 = .ok (.iload 5, 2) := by decide +kernel
theorem dX7_tryThing_126 : decode cX7_tryThing 126 = .ok (.ifCond .eq 10, 3) := by decide +kernel
theorem dX7_tryThing_129 : decode cX7_tryThing 129 = .ok (.aload_n 0, 1) := by decide +kernel
theorem dX7_tryThing_130 : decode cX7_tryThing 130 = .ok (.iconst 1, 1) := by decide +kernel
theorem dX7_tryThing_131 : decode cX7_tryThing 131 = .ok (.iload_n 2, 1) := by decide +kernel
theorem dX7_tryThing_132 : decode cX7_tryThing 132 = .ok (.iload_n 3, 1) := by decide +kernel
theorem dX7_tryThing_133 : decode cX7_tryThing 133 = .ok (.invokevirtual 127, 3) := by decide +kernel
theorem dX7_tryThing_136 : decode cX7_tryThing 136 = .ok (.iload 5, 2) := by decide +kernel
theorem dX7_tryThing_138 : decode cX7_tryThing 138 = .ok (.ireturn, 1) := by decide +kernel
theorem dX7_tryThing_139 : decode cX7_tryThing 139 = .ok (.iload_n 2, 1) := by decide +kernel
theorem dX7_tryThing_140 : decode cX7_tryThing 140 = .ok (.ifCond .ne 15, 3) := by decide +kernel
theorem dX7_tryThing_143 : decode cX7_tryThing 143 = .ok (.aload_n 0, 1) := by decide +kernel
theorem dX7_tryThing_144 : decode cX7_tryThing 144 = .ok (.iload_n 3, 1) := by decide +kernel
theorem dX7_tryThing_145 : decode cX7_tryThing 145 = .ok (.invokevirtual 154, 3) := by decide +kernel
theorem dX7_tryThing_148 : decode cX7_tryThing 148 = .ok (.ifCond .eq 7, 3) := by decide +kernel
theorem dX7_tryThing_151 : decode cX7_tryThing 151 = .ok (.iconst 1, 1) := by decide +kernel
theorem dX7_tryThing_152 : decode cX7_tryThing 152 = .ok (.goto 4, 3) := by decide +kernel
theorem dX7_tryThing_155 : decode cX7_tryThing 155 = .ok (.iconst 0, 1) := by decide +kernel
theorem dX7_tryThing_156 : decode cX7_tryThing 156 = .ok (.istore 6, 2) := by decide +kernel
theorem dX7_tryThing_158 : decode cX7_tryThing 158 = .ok (.aload_n 0, 1) := by decide +kernel
theorem dX7_tryThing_159 : decode cX7_tryThing 159 = .ok (.getfield 25, 3) := by decide +kernel
theorem dX7_tryThing_162 : decode cX7_tryThing 162 = .ok (.bipush 32, 2) := by decide +kernel
theorem dX7_tryThing_164 : decode cX7_tryThing 164 = .ok (.dup2, 1) := by decide +kernel
theorem dX7_tryThing_165 : decode cX7_tryThing 165 = .ok (.iaload, 1) := by decide +kernel
theorem dX7_tryThing_166 : decode cX7_tryThing 166 = .ok (.iload 6, 2) := by decide +kernel
theorem dX7_tryThing_168 : decode cX7_tryThing 168 = .ok (.ifCond .eq 9, 3) := by decide +kernel
theorem dX7_tryThing_171 : decode cX7_tryThing 171 = .ok (.iconst 1, 1) := by decide +kernel
theorem dX7_tryThing_172 : decode cX7_tryThing 172 = .ok (.iload_n 3, 1) := by decide +kernel
theorem dX7_tryThing_173 : decode cX7_tryThing 173 = .ok (.ishl, 1) := by decide +kernel
theorem dX7_tryThing_174 : decode cX7_tryThing 174 = .ok (.goto 4, 3) := by decide +kernel
theorem dX7_tryThing_177 : decode cX7_tryThing 177 = .ok (.iconst 0, 1) := by decide +kernel
theorem dX7_tryThing_178 : decode cX7_tryThing 178 = .ok (.ixor, 1) := by decide +kernel
theorem dX7_tryThing_179 : decode cX7_tryThing 179 = .ok (.iastore, 1) := by decide +kernel
theorem dX7_tryThing_180 : decode cX7_tryThing 180 = .ok (.iload 6, 2) := by decide +kernel
theorem dX7_tryThing_182 : decode cX7_tryThing 182 = .ok (.ireturn, 1) := by decide +kernel
theorem dX7_tryThing_183 : decode cX7_tryThing 183 = .ok (.aload_n 0, 1) := by decide +kernel
theorem dX7_tryThing_184 : decode cX7_tryThing 184 = .ok (.iload_n 2, 1) := by decide +kernel
theorem dX7_tryThing_185 : decode cX7_tryThing 185 = .ok (.invokevirtual 151, 3) := by decide +kernel
theorem dX7_tryThing_188 : decode cX7_tryThing 188 = .ok (.ifCond .eq 20, 3) := by decide +kernel
theorem dX7_tryThing_191 : decode cX7_tryThing 191 = .ok (.aload_n 0, 1) := by decide +kernel
theorem dX7_tryThing_192 : decode cX7_tryThing 192 = .ok (.getfield 25, 3) := by decide +kernel
theorem dX7_tryThing_195 : decode cX7_tryThing 195 = .ok (.bipush 22, 2) := by decide +kernel
theorem dX7_tryThing_197 : decode cX7_tryThing 197 = .ok (.iload_n 2, 1) := by decide +kernel
theorem dX7_tryThing_198 : decode cX7_tryThing 198 = .ok (.iadd, 1) := by decide +kernel
theorem dX7_tryThing_199 : decode cX7_tryThing 199 = .ok (.iaload, 1) := by decide +kernel
theorem dX7_tryThing_200 : decode cX7_tryThing 200 = .ok (.iload_n 3, 1) := by decide +kernel
theorem dX7_tryThing_201 : decode cX7_tryThing 201 = .ok (.if_icmp .ne 7, 3) := by decide +kernel
theorem dX7_tryThing_204 : decode cX7_tryThing 204 = .ok (.iconst 1, 1) := by decide +kernel
theorem dX7_tryThing_205 : decode cX7_tryThing 205 = .ok (.goto 4, 3) := by decide +kernel
theorem dX7_tryThing_208 : decode cX7_tryThing 208 = .ok (.iconst 0, 1) := by decide +kernel
theorem dX7_tryThing_209 : decode cX7_tryThing 209 = .ok (.ireturn, 1) := by decide +kernel
theorem dX7_tryThing_210 : decode cX7_tryThing 210 = .ok (.iconst 0, 1) := by decide +kernel
theorem dX7_tryThing_211 : decode cX7_tryThing 211 = .ok (.ireturn, 1) := by decide +kernel
theorem dX7_thousandTo_0 : decode cX7_thousandTo 0 = .ok (.lconst 1, 1) := by decide +kernel
theorem dX7_thousandTo_1 : decode cX7_thousandTo 1 = .ok (.lstore_n 1, 1) := by decide +kernel
theorem dX7_thousandTo_2 : decode cX7_thousandTo 2 = .ok (.iconst 0, 1) := by decide +kernel
theorem dX7_thousandTo_3 : decode cX7_thousandTo 3 = .ok (.istore_n 3, 1) := by decide +kernel
theorem dX7_thousandTo_4 : decode cX7_thousandTo 4 = .ok (.iload_n 3, 1) := by decide +kernel
theorem dX7_thousandTo_5 : decode cX7_thousandTo 5 = .ok (.iload_n 0, 1) := by decide +kernel
theorem dX7_thousandTo_6 : decode cX7_thousandTo 6 = .ok (.if_icmp .ge 15, 3) := by decide +kernel
theorem dX7_thousandTo_9 : decode cX7_thousandTo 9 = .ok (.lload_n 1, 1) := by decide +kernel
theorem dX7_thousandTo_10 : decode cX7_thousandTo 10 = .ok (.ldc2_w 197, 3) := by decide +kernel
theorem dX7_thousandTo_13 : decode cX7_thousandTo 13 = .ok (.lmul, 1) := by decide +kernel
theorem dX7_thousandTo_14 : decode cX7_thousandTo 14 = .ok (.lstore_n 1, 1) := by decide +kernel
theorem dX7_thousandTo_15 : decode cX7_thousandTo 15 = .ok (.iinc 3 1, 3) := by decide +kernel
theorem dX7_thousandTo_18 : decode cX7_thousandTo 18 = .ok (.goto (-14), 3) := by decide +kernel
theorem dX7_thousandTo_21 : decode cX7_thousandTo 21 = .ok (.lload_n 1, 1) := by decide +kernel
theorem dX7_thousandTo_22 : decode cX7_thousandTo 22 = .ok (.lreturn, 1) := by decide +kernel
theorem dX7_judge_0 : decode cX7_judge 0 = .ok (.iload_n 1, 1) := by decide +kernel
theorem dX7_judge_1 : decode cX7_judge 1 = .ok (.i2l, 1) := by decide +kernel
theorem dX7_judge_2 : decode cX7_judge 2 = .ok (.lconst 1, 1) := by decide +kernel
theorem dX7_judge_3 : decode cX7_judge 3 = .ok (.ldc2_w 199, 3) := by decide +kernel
theorem dX7_judge_6 : decode cX7_judge 6 = .ok (.invokestatic 64, 3) := by decide +kernel
theorem dX7_judge_9 : decode cX7_judge 9 = .ok (.ifCond .eq 17, 3) := by decide +kernel
theorem dX7_judge_12 : decode cX7_judge 12 = .ok (.lload_n 2, 1) := by decide +kernel
theorem dX7_judge_13 : decode cX7_judge 13 = .ok (.lconst 0, 1) := by decide +kernel
theorem dX7_judge_14 : decode cX7_judge 14 = .ok (.iload_n 1, 1) := by decide +kernel
theorem dX7_judge_15 : decode cX7_judge 15 = .ok (.invokestatic 201, 3) := by decide +kernel
theorem dX7_judge_18 : decode cX7_judge 18 = .ok (.lconst 1, 1) := by decide +kernel
theorem dX7_judge_19 : decode cX7_judge 19 = .ok (.lsub, 1) := by decide +kernel
theorem dX7_judge_20 : decode cX7_judge 20 = .ok (.invokestatic 64, 3) := by decide +kernel
theorem dX7_judge_23 : decode cX7_judge 23 = .ok (.ifCond .ne 6, 3) := by decide +kernel
theorem dX7_judge_26 : decode cX7_judge 26 = .ok (.bipush (-2), 2) := by decide +kernel
theorem dX7_judge_28 : decode cX7_judge 28 = .ok (.ireturn, 1) := by decide +kernel
theorem dX7_judge_29 : decode cX7_judge 29 = .ok (.aload_n 0, 1) := by decide +kernel
theorem dX7_judge_30 : decode cX7_judge 30 = .ok (.invokevirtual 185, 3) := by decide +kernel
theorem dX7_judge_33 : decode cX7_judge 33 = .ok (.iconst 0, 1) := by decide +kernel
theorem dX7_judge_34 : decode cX7_judge 34 = .ok (.istore 4, 2) := by decide +kernel
theorem dX7_judge_36 : decode cX7_judge 36 = .ok (.iload 4, 2) := by decide +kernel
theorem dX7_judge_38 : decode cX7_judge 38 = .ok (.iload_n 1, 1) := by decide +kernel
theorem dX7_judge_39 : decode cX7_judge 39 = .ok (.if_icmp .ge 55, 3) := by decide +kernel
theorem dX7_judge_42 : decode cX7_judge 42 = .ok (.lload_n 2, 1) := by decide +kernel
theorem dX7_judge_43 : decode cX7_judge 43 = .ok (.iload_n 1, 1) := by decide +kernel
theorem dX7_judge_44 : decode cX7_judge 44 = .ok (.iconst 1, 1) := by decide +kernel
theorem dX7_judge_45 : decode cX7_judge 45 = .ok (.isub, 1) := by decide +kernel
theorem dX7_judge_46 : decode cX7_judge 46 = .ok (.iload 4, 2) := by decide +kernel
theorem dX7_judge_48 : decode cX7_judge 48 = .ok (.isub, 1) := by decide +kernel
theorem dX7_judge_49 : decode cX7_judge 49 = .ok (.invokestatic 201, 3) := by decide +kernel
theorem dX7_judge_52 : decode cX7_judge 52 = .ok (.ldiv, 1) := by decide +kernel
theorem dX7_judge_53 : decode cX7_judge 53 = .ok (.ldc2_w 197, 3) := by decide +kernel
theorem dX7_judge_56 : decode cX7_judge 56 = .ok (.lrem, 1) := by decide +kernel
theorem dX7_judge_57 : decode cX7_judge 57 = .ok (.l2i, 1) := by decide +kernel
theorem dX7_judge_58 : decode cX7_judge 58 = .ok (.istore 5, 2) := by decide +kernel
theorem dX7_judge_60 : decode cX7_judge 60 = .ok (.aload_n 0, 1) := by decide +kernel
theorem dX7_judge_61 : decode cX7_judge 61 = .ok (.iload 5, 2) := by decide +kernel
theorem dX7_judge_63 : decode cX7_judge 63 = .ok (.bipush 100, 2) := by decide +kernel
theorem dX7_judge_65 : decode cX7_judge 65 = .ok (.idiv, 1) := by decide +kernel
theorem dX7_judge_66 : decode cX7_judge 66 = .ok (.iload 5, 2) := by decide +kernel
theorem dX7_judge_68 : decode cX7_judge 68 = .ok (.bipush 10, 2) := by decide +kernel
theorem dX7_judge_70 : decode cX7_judge 70 = .ok (.idiv, 1) := by decide +kernel
theorem dX7_judge_71 : decode cX7_judge 71 = .ok (.bipush 10, 2) := by decide +kernel
theorem dX7_judge_73 : decode cX7_judge 73 = .ok (.irem, 1) := by decide +kernel
theorem dX7_judge_74 : decode cX7_judge 74 = .ok (.iload 5, 2) := by decide +kernel
theorem dX7_judge_76 : decode cX7_judge 76 = .ok (.bipush 10, 2) := by decide +kernel
theorem dX7_judge_78 : decode cX7_judge 78 = .ok (.irem, 1) := by decide +kernel
theorem dX7_judge_79 : decode cX7_judge 79 = .ok (.invokevirtual 205, 3) := by decide +kernel
theorem dX7_judge_82 : decode cX7_judge 82 = .ok (.ifCond .ne 6, 3) := by decide +kernel
theorem dX7_judge_85 : decode cX7_judge 85 = .ok (.iload 4, 2) := by decide +kernel
theorem dX7_judge_87 : decode cX7_judge 87 = .ok (.ireturn, 1) := by decide +kernel
theorem dX7_judge_88 : decode cX7_judge 88 = .ok (.iinc 4 1, 3) := by decide +kernel
theorem dX7_judge_91 : decode cX7_judge 91 = .ok (.goto (-55), 3) := by decide +kernel
theorem dX7_judge_94 : decode cX7_judge 94 = .ok (.bipush (-9), 2) := by decide +kernel
theorem dX7_judge_96 : decode cX7_judge 96 = .ok (.ireturn, 1) := by decide +kernel
theorem dX7_say_0 : decode cX7_say 0 = .ok (.aload_n 0, 1) := by decide +kernel
theorem dX7_say_1 : decode cX7_say 1 = .ok (.iload_n 1, 1) := by decide +kernel
theorem dX7_say_2 : decode cX7_say 2 = .ok (.invokevirtual 151, 3) := by decide +kernel
theorem dX7_say_5 : decode cX7_say 5 = .ok (.ifCond .ne 5, 3) := by decide +kernel
theorem dX7_say_8 : decode cX7_say 8 = .ok (.iconst (-1), 1) := by decide +kernel
theorem dX7_say_9 : decode cX7_say 9 = .ok (.ireturn, 1) := by decide +kernel
theorem dX7_say_10 : decode cX7_say 10 = .ok (.iload_n 2, 1) := by decide +kernel
theorem dX7_say_11 : decode cX7_say 11 = .ok (.i2l, 1) := by decide +kernel
theorem dX7_say_12 : decode cX7_say 12 = .ok (.lconst 0, 1) := by decide +kernel
theorem dX7_say_13 : decode cX7_say 13 = .ok (.ldc2_w 78, 3) := by decide +kernel
theorem dX7_say_16 : decode cX7_say 16 = .ok (.invokestatic 64, 3) := by decide +kernel
theorem dX7_say_19 : decode cX7_say 19 = .ok (.ifCond .ne 6, 3) := by decide +kernel
theorem dX7_say_22 : decode cX7_say 22 = .ok (.bipush (-2), 2) := by decide +kernel
theorem dX7_say_24 : decode cX7_say 24 = .ok (.ireturn, 1) := by decide +kernel
theorem dX7_say_25 : decode cX7_say 25 = .ok (.aload_n 0, 1) := by decide +kernel
theorem dX7_say_26 : decode cX7_say 26 = .ok (.getfield 208, 3) := by decide +kernel
theorem dX7_say_29 : decode cX7_say 29 = .ok (.bipush 6, 2) := by decide +kernel
theorem dX7_say_31 : decode cX7_say 31 = .ok (.if_icmp .ne 6, 3) := by decide +kernel
theorem dX7_say_34 : decode cX7_say 34 = .ok (.bipush (-4), 2) := by decide +kernel
theorem dX7_say_36 : decode cX7_say 36 = .ok (.ireturn, 1) := by decide +kernel
theorem dX7_say_37 : decode cX7_say 37 = .ok (.aload_n 0, 1) := by decide +kernel
theorem dX7_say_38 : decode cX7_say 38 = .ok (.getfield 49, 3) := by decide +kernel
theorem dX7_say_41 : decode cX7_say 41 = .ok (.aload_n 0, 1) := by decide +kernel
theorem dX7_say_42 : decode cX7_say 42 = .ok (.getfield 208, 3) := by decide +kernel
theorem dX7_say_45 : decode cX7_say 45 = .ok (.iload_n 1, 1) := by decide +kernel
theorem dX7_say_46 : decode cX7_say 46 = .ok (.iastore, 1) := by decide +kernel
theorem dX7_say_47 : decode cX7_say 47 = .ok (.aload_n 0, 1) := by decide +kernel
theorem dX7_say_48 : decode cX7_say 48 = .ok (.getfield 52, 3) := by decide +kernel
theorem dX7_say_51 : decode cX7_say 51 = .ok (.aload_n 0, 1) := by decide +kernel
theorem dX7_say_52 : decode cX7_say 52 = .ok (.getfield 208, 3) := by decide +kernel
theorem dX7_say_55 : decode cX7_say 55 = .ok (.iload_n 2, 1) := by decide +kernel
theorem dX7_say_56 : decode cX7_say 56 = .ok (.iastore, 1) := by decide +kernel
theorem dX7_say_57 : decode cX7_say 57 = .ok (.aload_n 0, 1) := by decide +kernel
theorem dX7_say_58 : decode cX7_say 58 = .ok (.dup, 1) := by decide +kernel
theorem dX7_say_59 : decode cX7_say 59 = .ok (.getfield 208, 3) := by decide +kernel
theorem dX7_say_62 : decode cX7_say 62 = .ok (.iconst 1, 1) := by decide +kernel
theorem dX7_say_63 : decode cX7_say 63 = .ok (.iadd, 1) := by decide +kernel
theorem dX7_say_64 : decode cX7_say 64 = .ok (.putfield 208, 3) := by decide +kernel
theorem dX7_say_67 : decode cX7_say 67 = .ok (.aload_n 0, 1) := by decide +kernel
theorem dX7_say_68 : decode cX7_say 68 = .ok (.getfield 208, 3) := by decide +kernel
theorem dX7_say_71 : decode cX7_say 71 = .ok (.ireturn, 1) := by decide +kernel
theorem dX7_unsay_0 : decode cX7_unsay 0 = .ok (.aload_n 0, 1) := by decide +kernel
theorem dX7_unsay_1 : decode cX7_unsay 1 = .ok (.getfield 208, 3) := by decide +kernel
theorem dX7_unsay_4 : decode cX7_unsay 4 = .ok (.istore_n 1, 1) := by decide +kernel
theorem dX7_unsay_5 : decode cX7_unsay 5 = .ok (.aload_n 0, 1) := by decide +kernel
theorem dX7_unsay_6 : decode cX7_unsay 6 = .ok (.iconst 0, 1) := by decide +kernel
theorem dX7_unsay_7 : decode cX7_unsay 7 = .ok (.putfield 208, 3) := by decide +kernel
theorem dX7_unsay_10 : decode cX7_unsay 10 = .ok (.iload_n 1, 1) := by decide +kernel
theorem dX7_unsay_11 : decode cX7_unsay 11 = .ok (.ireturn, 1) := by decide +kernel
theorem dX7_mayCome_0 : decode cX7_mayCome 0 = .ok (.iconst 0, 1) := by decide +kernel
theorem dX7_mayCome_1 : decode cX7_mayCome 1 = .ok (.istore_n 3, 1) := by decide +kernel
theorem dX7_mayCome_2 : decode cX7_mayCome 2 = .ok (.iconst 0, 1) := by decide +kernel
theorem dX7_mayCome_3 : decode cX7_mayCome 3 = .ok (.istore 4, 2) := by decide +kernel
theorem dX7_mayCome_5 : decode cX7_mayCome 5 = .ok (.iload 4, 2) := by decide +kernel
theorem dX7_mayCome_7 : decode cX7_mayCome 7 = .ok (.aload_n 0, 1) := by decide +kernel
theorem dX7_mayCome_8 : decode cX7_mayCome 8 = .ok (.getfield 114, 3) := by decide +kernel
theorem dX7_mayCome_11 : decode cX7_mayCome 11 = .ok (.if_icmp .ge 35, 3) := by decide +kernel
theorem dX7_mayCome_14 : decode cX7_mayCome 14 = .ok (.iload_n 3, 1) := by decide +kernel
theorem dX7_mayCome_15 : decode cX7_mayCome 15 = .ok (.ifCond .ne 19, 3) := by decide +kernel
theorem dX7_mayCome_18 : decode cX7_mayCome 18 = .ok (.iload_n 1, 1) := by decide +kernel
theorem dX7_mayCome_19 : decode cX7_mayCome 19 = .ok (.aload_n 0, 1) := by decide +kernel
theorem dX7_mayCome_20 : decode cX7_mayCome 20 = .ok (.getfield 22, 3) := by decide +kernel
theorem dX7_mayCome_23 : decode cX7_mayCome 23 = .ok (.iload 4, 2) := by decide +kernel
theorem dX7_mayCome_25 : decode cX7_mayCome 25 = .ok (.iaload, 1) := by decide +kernel
theorem dX7_mayCome_26 : decode cX7_mayCome 26 = .ok (.iadd, 1) := by decide +kernel
theorem dX7_mayCome_27 : decode cX7_mayCome 27 = .ok (.bipush 10, 2) := by decide +kernel
theorem dX7_mayCome_29 : decode cX7_mayCome 29 = .ok (.irem, 1) := by decide +kernel
theorem dX7_mayCome_30 : decode cX7_mayCome 30 = .ok (.iload_n 2, 1) := by decide +kernel
theorem dX7_mayCome_31 : decode cX7_mayCome 31 = .ok (.if_icmp .ne 7, 3) := by decide +kernel
theorem dX7_mayCome_34 : decode cX7_mayCome 34 = .ok (.iconst 1, 1) := by decide +kernel
theorem dX7_mayCome_35 : decode cX7_mayCome 35 = .ok (.goto 4, 3) := by decide +kernel
theorem dX7_mayCome_38 : decode cX7_mayCome 38 = .ok (.iconst 0, 1) := by decide +kernel
theorem dX7_mayCome_39 : decode cX7_mayCome 39 = .ok (.istore_n 3, 1) := by decide +kernel
theorem dX7_mayCome_40 : decode cX7_mayCome 40 = .ok (.iinc 4 1, 3) := by decide +kernel
theorem dX7_mayCome_43 : decode cX7_mayCome 43 = .ok (.goto (-38), 3) := by decide +kernel
theorem dX7_mayCome_46 : decode cX7_mayCome 46 = .ok (.iload_n 3, 1) := by decide +kernel
theorem dX7_mayCome_47 : decode cX7_mayCome 47 = .ok (.ireturn, 1) := by decide +kernel
theorem dX7_firsts_0 : decode cX7_firsts 0 = .ok (.aload_n 0, 1) := by decide +kernel
theorem dX7_firsts_1 : decode cX7_firsts 1 = .ok (.iload_n 1, 1) := by decide +kernel
theorem dX7_firsts_2 : decode cX7_firsts 2 = .ok (.invokevirtual 151, 3) := by decide +kernel
theorem dX7_firsts_5 : decode cX7_firsts 5 = .ok (.ifCond .ne 5, 3) := by decide +kernel
theorem dX7_firsts_8 : decode cX7_firsts 8 = .ok (.iconst (-1), 1) := by decide +kernel
theorem dX7_firsts_9 : decode cX7_firsts 9 = .ok (.ireturn, 1) := by decide +kernel
theorem dX7_firsts_10 : decode cX7_firsts 10 = .ok (.iconst 0, 1) := by decide +kernel
theorem dX7_firsts_11 : decode cX7_firsts 11 = .ok (.istore_n 2, 1) := by decide +kernel
theorem dX7_firsts_12 : decode cX7_firsts 12 = .ok (.iconst 0, 1) := by decide +kernel
theorem dX7_firsts_13 : decode cX7_firsts 13 = .ok (.istore_n 3, 1) := by decide +kernel
theorem dX7_firsts_14 : decode cX7_firsts 14 = .ok (.iload_n 3, 1) := by decide +kernel
theorem dX7_firsts_15 : decode cX7_firsts 15 = .ok (.bipush 10, 2) := by decide +kernel
theorem dX7_firsts_17 : decode cX7_firsts 17 = .ok (.if_icmp .ge 83, 3) := by decide +kernel
theorem dX7_firsts_20 : decode cX7_firsts 20 = .ok (.iconst 1, 1) := by decide +kernel
theorem dX7_firsts_21 : decode cX7_firsts 21 = .ok (.istore 4, 2) := by decide +kernel
theorem dX7_firsts_23 : decode cX7_firsts 23 = .ok (.iconst 0, 1) := by decide +kernel
theorem dX7_firsts_24 : decode cX7_firsts 24 = .ok (.istore 5, 2) := by decide +kernel
theorem dX7_firsts_26 : decode cX7_firsts 26 = .ok (.iload 5, 2) := by decide +kernel
theorem dX7_firsts_28 : decode cX7_firsts 28 = .ok (.aload_n 0, 1) := by decide +kernel
theorem dX7_firsts_29 : decode cX7_firsts 29 = .ok (.getfield 208, 3) := by decide +kernel
theorem dX7_firsts_32 : decode cX7_firsts 32 = .ok (.if_icmp .ge 47, 3) := by decide +kernel
theorem dX7_firsts_35 : decode cX7_firsts 35 = .ok (.iload 4, 2) := by decide +kernel
theorem dX7_firsts_37 : decode cX7_firsts 37 = .ok (.ifCond .eq 33, 3) := by decide +kernel
theorem dX7_firsts_40 : decode cX7_firsts 40 = .ok (.aload_n 0, 1) := by decide +kernel
theorem dX7_firsts_41 : decode cX7_firsts 41 = .ok (.getfield 49, 3) := by decide +kernel
theorem dX7_firsts_44 : decode cX7_firsts 44 = .ok (.iload 5, 2) := by decide +kernel
theorem dX7_firsts_46 : decode cX7_firsts 46 = .ok (.iaload, 1) := by decide +kernel
theorem dX7_firsts_47 : decode cX7_firsts 47 = .ok (.iload_n 1, 1) := by decide +kernel
theorem dX7_firsts_48 : decode cX7_firsts 48 = .ok (.if_icmp .ne 18, 3) := by decide +kernel
theorem dX7_firsts_51 : decode cX7_firsts 51 = .ok (.aload_n 0, 1) := by decide +kernel
theorem dX7_firsts_52 : decode cX7_firsts 52 = .ok (.iload_n 3, 1) := by decide +kernel
theorem dX7_firsts_53 : decode cX7_firsts 53 = .ok (.aload_n 0, 1) := by decide +kernel
theorem dX7_firsts_54 : decode cX7_firsts 54 = .ok (.getfield 52, 3) := by decide +kernel
theorem dX7_firsts_57 : decode cX7_firsts 57 = .ok (.iload 5, 2) := by decide +kernel
theorem dX7_firsts_59 : decode cX7_firsts 59 = .ok (.iaload, 1) := by decide +kernel
theorem dX7_firsts_60 : decode cX7_firsts 60 = .ok (.invokevirtual 211, 3) := by decide +kernel
theorem dX7_firsts_63 : decode cX7_firsts 63 = .ok (.ifCond .eq 7, 3) := by decide +kernel
theorem dX7_firsts_66 : decode cX7_firsts 66 = .ok (.iconst 1, 1) := by decide +kernel
theorem dX7_firsts_67 : decode cX7_firsts 67 = .ok (.goto 4, 3) := by decide +kernel
theorem dX7_firsts_70 : decode cX7_firsts 70 = .ok (.iconst 0, 1) := by decide +kernel
theorem dX7_firsts_71 : decode cX7_firsts 71 = .ok (.istore 4, 2) := by decide +kernel
theorem dX7_firsts_73 : decode cX7_firsts 73 = .ok (.iinc 5 1, 3) := by decide +kernel
theorem dX7_firsts_76 : decode cX7_firsts 76 = .ok (.goto (-50), 3) := by decide +kernel
theorem dX7_firsts_79 : decode cX7_firsts 79 = .ok (.iload_n 2, 1) := by decide +kernel
theorem dX7_firsts_80 : decode cX7_firsts 80 = .ok (.iload 4, 2) := by decide +kernel
theorem dX7_firsts_82 : decode cX7_firsts 82 = .ok (.ifCond .eq 9, 3) := by decide +kernel
theorem dX7_firsts_85 : decode cX7_firsts 85 = .ok (.iconst 1, 1) := by decide +kernel
theorem dX7_firsts_86 : decode cX7_firsts 86 = .ok (.iload_n 3, 1) := by decide +kernel
theorem dX7_firsts_87 : decode cX7_firsts 87 = .ok (.ishl, 1) := by decide +kernel
theorem dX7_firsts_88 : decode cX7_firsts 88 = .ok (.goto 4, 3) := by decide +kernel
theorem dX7_firsts_91 : decode cX7_firsts 91 = .ok (.iconst 0, 1) := by decide +kernel
theorem dX7_firsts_92 : decode cX7_firsts 92 = .ok (.ior, 1) := by decide +kernel
theorem dX7_firsts_93 : decode cX7_firsts 93 = .ok (.istore_n 2, 1) := by decide +kernel
theorem dX7_firsts_94 : decode cX7_firsts 94 = .ok (.iinc 3 1, 3) := by decide +kernel
theorem dX7_firsts_97 : decode cX7_firsts 97 = .ok (.goto (-83), 3) := by decide +kernel
theorem dX7_firsts_100 : decode cX7_firsts 100 = .ok (.iload_n 2, 1) := by decide +kernel
theorem dX7_firsts_101 : decode cX7_firsts 101 = .ok (.ireturn, 1) := by decide +kernel
theorem dX7_factorial_0 : decode cX7_factorial 0 = .ok (.iconst 1, 1) := by decide +kernel
theorem dX7_factorial_1 : decode cX7_factorial 1 = .ok (.istore_n 1, 1) := by decide +kernel
theorem dX7_factorial_2 : decode cX7_factorial 2 = .ok (.iconst 2, 1) := by decide +kernel
theorem dX7_factorial_3 : decode cX7_factorial 3 = .ok (.istore_n 2, 1) := by decide +kernel
theorem dX7_factorial_4 : decode cX7_factorial 4 = .ok (.iload_n 2, 1) := by decide +kernel
theorem dX7_factorial_5 : decode cX7_factorial 5 = .ok (.iload_n 0, 1) := by decide +kernel
theorem dX7_factorial_6 : decode cX7_factorial 6 = .ok (.if_icmp .gt 13, 3) := by decide +kernel
theorem dX7_factorial_9 : decode cX7_factorial 9 = .ok (.iload_n 1, 1) := by decide +kernel
theorem dX7_factorial_10 : decode cX7_factorial 10 = .ok (.iload_n 2, 1) := by decide +kernel
theorem dX7_factorial_11 : decode cX7_factorial 11 = .ok (.imul, 1) := by decide +kernel
theorem dX7_factorial_12 : decode cX7_factorial 12 = .ok (.istore_n 1, 1) := by decide +kernel
theorem dX7_factorial_13 : decode cX7_factorial 13 = .ok (.iinc 2 1, 3) := by decide +kernel
theorem dX7_factorial_16 : decode cX7_factorial 16 = .ok (.goto (-12), 3) := by decide +kernel
theorem dX7_factorial_19 : decode cX7_factorial 19 = .ok (.iload_n 1, 1) := by decide +kernel
theorem dX7_factorial_20 : decode cX7_factorial 20 = .ok (.ireturn, 1) := by decide +kernel
theorem dX7_common_0 : decode cX7_common 0 = .ok (.iload_n 0, 1) := by decide +kernel
theorem dX7_common_1 : decode cX7_common 1 = .ok (.ifCond .ge 8, 3) := by decide +kernel
theorem dX7_common_4 : decode cX7_common 4 = .ok (.iload_n 0, 1) := by decide +kernel
theorem dX7_common_5 : decode cX7_common 5 = .ok (.ineg, 1) := by decide +kernel
theorem dX7_common_6 : decode cX7_common 6 = .ok (.goto 4, 3) := by decide +kernel
theorem dX7_common_9 : decode cX7_common 9 = .ok (.iload_n 0, 1) := by decide +kernel
theorem dX7_common_10 : decode cX7_common 10 = .ok (.istore_n 2, 1) := by decide +kernel
theorem dX7_common_11 : decode cX7_common 11 = .ok (.iload_n 1, 1) := by decide +kernel
theorem dX7_common_12 : decode cX7_common 12 = .ok (.istore_n 3, 1) := by decide +kernel
theorem dX7_common_13 : decode cX7_common 13 = .ok (.iload_n 3, 1) := by decide +kernel
theorem dX7_common_14 : decode cX7_common 14 = .ok (.ifCond .eq 16, 3) := by decide +kernel
theorem dX7_common_17 : decode cX7_common 17 = .ok (.iload_n 2, 1) := by decide +kernel
theorem dX7_common_18 : decode cX7_common 18 = .ok (.iload_n 3, 1) := by decide +kernel
theorem dX7_common_19 : decode cX7_common 19 = .ok (.irem, 1) := by decide +kernel
theorem dX7_common_20 : decode cX7_common 20 = .ok (.istore 4, 2) := by decide +kernel
theorem dX7_common_22 : decode cX7_common 22 = .ok (.iload_n 3, 1) := by decide +kernel
theorem dX7_common_23 : decode cX7_common 23 = .ok (.istore_n 2, 1) := by decide +kernel
theorem dX7_common_24 : decode cX7_common 24 = .ok (.iload 4, 2) := by decide +kernel
theorem dX7_common_26 : decode cX7_common 26 = .ok (.istore_n 3, 1) := by decide +kernel
theorem dX7_common_27 : decode cX7_common 27 = .ok (.goto (-14), 3) := by decide +kernel
theorem dX7_common_30 : decode cX7_common 30 = .ok (.iload_n 2, 1) := by decide +kernel
theorem dX7_common_31 : decode cX7_common 31 = .ok (.ireturn, 1) := by decide +kernel
theorem dX7_knowingBy_0 : decode cX7_knowingBy 0 = .ok (.aload_n 0, 1) := by decide +kernel
theorem dX7_knowingBy_1 : decode cX7_knowingBy 1 = .ok (.invokevirtual 185, 3) := by decide +kernel
theorem dX7_knowingBy_4 : decode cX7_knowingBy 4 = .ok (.aload_n 0, 1) := by decide +kernel
theorem dX7_knowingBy_5 : decode cX7_knowingBy 5 = .ok (.getfield 25, 3) := by decide +kernel
theorem dX7_knowingBy_8 : decode cX7_knowingBy 8 = .ok (.bipush 32, 2) := by decide +kernel
theorem dX7_knowingBy_10 : decode cX7_knowingBy 10 = .ok (.dup2, 1) := by decide +kernel
theorem dX7_knowingBy_11 : decode cX7_knowingBy 11 = .ok (.iaload, 1) := by decide +kernel
theorem dX7_knowingBy_12 : decode cX7_knowingBy 12 = .ok (.iload_n 1, 1) := by decide +kernel
theorem dX7_knowingBy_13 : decode cX7_knowingBy 13 = .ok (.iand, 1) := by decide +kernel
theorem dX7_knowingBy_14 : decode cX7_knowingBy 14 = .ok (.iastore, 1) := by decide +kernel
theorem dX7_knowingBy_15 : decode cX7_knowingBy 15 = .ok (.iconst 0, 1) := by decide +kernel
theorem dX7_knowingBy_16 : decode cX7_knowingBy 16 = .ok (.istore_n 2, 1) := by decide +kernel
theorem dX7_knowingBy_17 : decode cX7_knowingBy 17 = .ok (.iload_n 2, 1) := by decide +kernel
theorem dX7_knowingBy_18 : decode cX7_knowingBy 18 = .ok (.bipush 12, 2) := by decide +kernel
theorem dX7_knowingBy_20 : decode cX7_knowingBy 20 = .ok (.if_icmp .ge 14, 3) := by decide +kernel
theorem dX7_knowingBy_23 : decode cX7_knowingBy 23 = .ok (.aload_n 0, 1) := by decide +kernel
theorem dX7_knowingBy_24 : decode cX7_knowingBy 24 = .ok (.iconst 1, 1) := by decide +kernel
theorem dX7_knowingBy_25 : decode cX7_knowingBy 25 = .ok (.invokevirtual 163, 3) := by decide +kernel
theorem dX7_knowingBy_28 : decode cX7_knowingBy 28 = .ok (.iinc 2 1, 3) := by decide +kernel
theorem dX7_knowingBy_31 : decode cX7_knowingBy 31 = .ok (.goto (-14), 3) := by decide +kernel
theorem dX7_knowingBy_34 : decode cX7_knowingBy 34 = .ok (.aload_n 0, 1) := by decide +kernel
theorem dX7_knowingBy_35 : decode cX7_knowingBy 35 = .ok (.iconst 1, 1) := by decide +kernel
theorem dX7_knowingBy_36 : decode cX7_knowingBy 36 = .ok (.iconst 0, 1) := by decide +kernel
theorem dX7_knowingBy_37 : decode cX7_knowingBy 37 = .ok (.invokevirtual 166, 3) := by decide +kernel
theorem dX7_knowingBy_40 : decode cX7_knowingBy 40 = .ok (.invokestatic 170, 3) := by decide +kernel
theorem dX7_knowingBy_43 : decode cX7_knowingBy 43 = .ok (.ireturn, 1) := by decide +kernel
theorem dX7_share_0 : decode cX7_share 0 = .ok (.aload_n 0, 1) := by decide +kernel
theorem dX7_share_1 : decode cX7_share 1 = .ok (.iload_n 1, 1) := by decide +kernel
theorem dX7_share_2 : decode cX7_share 2 = .ok (.invokevirtual 154, 3) := by decide +kernel
theorem dX7_share_5 : decode cX7_share 5 = .ok (.ifCond .ne 5, 3) := by decide +kernel
theorem dX7_share_8 : decode cX7_share 8 = .ok (.iconst (-1), 1) := by decide +kernel
theorem dX7_share_9 : decode cX7_share 9 = .ok (.ireturn, 1) := by decide +kernel
theorem dX7_share_10 : decode cX7_share 10 = .ok (.iconst 0, 1) := by decide +kernel
theorem dX7_share_11 : decode cX7_share 11 = .ok (.istore_n 3, 1) := by decide +kernel
theorem dX7_share_12 : decode cX7_share 12 = .ok (.iconst 0, 1) := by decide +kernel
theorem dX7_share_13 : decode cX7_share 13 = .ok (.istore 4, 2) := by decide +kernel
theorem dX7_share_15 : decode cX7_share 15 = .ok (.iload 4, 2) := by decide +kernel
theorem dX7_share_17 : decode cX7_share 17 = .ok (.iconst 1, 1) := by decide +kernel
theorem dX7_share_18 : decode cX7_share 18 = .ok (.aload_n 0, 1) := by decide +kernel
theorem dX7_share_19 : decode cX7_share 19 = .ok (.getfield 114, 3) := by decide +kernel
theorem dX7_share_22 : decode cX7_share 22 = .ok (.ishl, 1) := by decide +kernel
theorem dX7_share_23 : decode cX7_share 23 = .ok (.if_icmp .ge 67, 3) := by decide +kernel
theorem dX7_share_26 : decode cX7_share 26 = .ok (.iload 4, 2) := by decide +kernel
theorem dX7_share_28 : decode cX7_share 28 = .ok (.iload_n 1, 1) := by decide +kernel
theorem dX7_share_29 : decode cX7_share 29 = .ok (.invokestatic 80, 3) := by decide +kernel
theorem dX7_share_32 : decode cX7_share 32 = .ok (.ifCond .ne 52, 3) := by decide +kernel
theorem dX7_share_35 : decode cX7_share 35 = .ok (.iload 4, 2) := by decide +kernel
theorem dX7_share_37 : decode cX7_share 37 = .ok (.invokestatic 170, 3) := by decide +kernel
theorem dX7_share_40 : decode cX7_share 40 = .ok (.invokestatic 214, 3) := by decide +kernel
theorem dX7_share_43 : decode cX7_share 43 = .ok (.aload_n 0, 1) := by decide +kernel
theorem dX7_share_44 : decode cX7_share 44 = .ok (.getfield 114, 3) := by decide +kernel
theorem dX7_share_47 : decode cX7_share 47 = .ok (.iconst 1, 1) := by decide +kernel
theorem dX7_share_48 : decode cX7_share 48 = .ok (.isub, 1) := by decide +kernel
theorem dX7_share_49 : decode cX7_share 49 = .ok (.iload 4, 2) := by decide +kernel
theorem dX7_share_51 : decode cX7_share 51 = .ok (.invokestatic 170, 3) := by decide +kernel
theorem dX7_share_54 : decode cX7_share 54 = .ok (.isub, 1) := by decide +kernel
theorem dX7_share_55 : decode cX7_share 55 = .ok (.invokestatic 214, 3) := by decide +kernel
theorem dX7_share_58 : decode cX7_share 58 = .ok (.imul, 1) := by decide +kernel
theorem dX7_share_59 : decode cX7_share 59 = .ok (.istore 5, 2) := by decide +kernel
theorem dX7_share_61 : decode cX7_share 61 = .ok (.iload_n 3, 1) := by decide +kernel
theorem dX7_share_62 : decode cX7_share 62 = .ok (.iload 5, 2) := by decide +kernel
theorem dX7_share_64 : decode cX7_share 64 = .ok (.aload_n 0, 1) := by decide +kernel
theorem dX7_share_65 : decode cX7_share 65 = .ok (.iload 4, 2) := by decide +kernel
theorem dX7_share_67 : decode cX7_share 67 = .ok (.iconst 1, 1) := by decide +kernel
theorem dX7_share_68 : decode cX7_share 68 = .ok (.iload_n 1, 1) := by decide +kernel
theorem dX7_share_69 : decode cX7_share 69 = .ok (.ishl, 1) := by decide +kernel
theorem dX7_share_70 : decode cX7_share 70 = .ok (.ior, 1) := by decide +kernel
theorem dX7_share_71 : decode cX7_share 71 = .ok (.invokevirtual 217, 3) := by decide +kernel
theorem dX7_share_74 : decode cX7_share 74 = .ok (.aload_n 0, 1) := by decide +kernel
theorem dX7_share_75 : decode cX7_share 75 = .ok (.iload 4, 2) := by decide +kernel
theorem dX7_share_77 : decode cX7_share 77 = .ok (.invokevirtual 217, 3) := by decide +kernel
theorem dX7_share_80 : decode cX7_share 80 = .ok (.isub, 1) := by decide +kernel
theorem dX7_share_81 : decode cX7_share 81 = .ok (.imul, 1) := by decide +kernel
theorem dX7_share_82 : decode cX7_share 82 = .ok (.iadd, 1) := by decide +kernel
theorem dX7_share_83 : decode cX7_share 83 = .ok (.istore_n 3, 1) := by decide +kernel
theorem dX7_share_84 : decode cX7_share 84 = .ok (.iinc 4 1, 3) := by decide +kernel
theorem dX7_share_87 : decode cX7_share 87 = .ok (.goto (-72), 3) := by decide +kernel
theorem dX7_share_90 : decode cX7_share 90 = .ok (.iload_n 3, 1) := by decide +kernel
theorem dX7_share_91 : decode cX7_share 91 = .ok (.aload_n 0, 1) := by decide +kernel
theorem dX7_share_92 : decode cX7_share 92 = .ok (.getfield 114, 3) := by decide +kernel
theorem dX7_share_95 : decode cX7_share 95 = .ok (.invokestatic 214, 3) := by decide +kernel
theorem dX7_share_98 : decode cX7_share 98 = .ok (.invokestatic 220, 3) := by decide +kernel
theorem dX7_share_101 : decode cX7_share 101 = .ok (.istore 4, 2) := by decide +kernel
theorem dX7_share_103 : decode cX7_share 103 = .ok (.iload_n 2, 1) := by decide +kernel
theorem dX7_share_104 : decode cX7_share 104 = .ok (.ifCond .eq 10, 3) := by decide +kernel
theorem dX7_share_107 : decode cX7_share 107 = .ok (.iload_n 3, 1) := by decide +kernel
theorem dX7_share_108 : decode cX7_share 108 = .ok (.iload 4, 2) := by decide +kernel
theorem dX7_share_110 : decode cX7_share 110 = .ok (.idiv, 1) := by decide +kernel
theorem dX7_share_111 : decode cX7_share 111 = .ok (.goto 13, 3) := by decide +kernel
theorem dX7_share_114 : decode cX7_share 114 = .ok (.aload_n 0, 1) := by decide +kernel
theorem dX7_share_115 : decode cX7_share 115 = .ok (.getfield 114, 3) := by decide +kernel
theorem dX7_share_118 : decode cX7_share 118 = .ok (.invokestatic 214, 3) := by decide +kernel
theorem dX7_share_121 : decode cX7_share 121 = .ok (.iload 4, 2) := by decide +kernel
theorem dX7_share_123 : decode cX7_share 123 = .ok (.idiv, 1) := by decide +kernel
theorem dX7_share_124 : decode cX7_share 124 = .ok (.ireturn, 1) := by decide +kernel
theorem dX7_gain_0 : decode cX7_gain 0 = .ok (.aload_n 0, 1) := by decide +kernel
theorem dX7_gain_1 : decode cX7_gain 1 = .ok (.invokevirtual 185, 3) := by decide +kernel
theorem dX7_gain_4 : decode cX7_gain 4 = .ok (.aload_n 0, 1) := by decide +kernel
theorem dX7_gain_5 : decode cX7_gain 5 = .ok (.iconst 1, 1) := by decide +kernel
theorem dX7_gain_6 : decode cX7_gain 6 = .ok (.iload_n 1, 1) := by decide +kernel
theorem dX7_gain_7 : decode cX7_gain 7 = .ok (.iload_n 3, 1) := by decide +kernel
theorem dX7_gain_8 : decode cX7_gain 8 = .ok (.invokevirtual 177, 3) := by decide +kernel
theorem dX7_gain_11 : decode cX7_gain 11 = .ok (.aload_n 0, 1) := by decide +kernel
theorem dX7_gain_12 : decode cX7_gain 12 = .ok (.iconst 1, 1) := by decide +kernel
theorem dX7_gain_13 : decode cX7_gain 13 = .ok (.iload_n 2, 1) := by decide +kernel
theorem dX7_gain_14 : decode cX7_gain 14 = .ok (.iload 4, 2) := by decide +kernel
theorem dX7_gain_16 : decode cX7_gain 16 = .ok (.invokevirtual 177, 3) := by decide +kernel
theorem dX7_gain_19 : decode cX7_gain 19 = .ok (.aload_n 0, 1) := by decide +kernel
theorem dX7_gain_20 : decode cX7_gain 20 = .ok (.iload_n 1, 1) := by decide +kernel
theorem dX7_gain_21 : decode cX7_gain 21 = .ok (.iload_n 2, 1) := by decide +kernel
theorem dX7_gain_22 : decode cX7_gain 22 = .ok (.invokevirtual 191, 3) := by decide +kernel
theorem dX7_gain_25 : decode cX7_gain 25 = .ok (.aload_n 0, 1) := by decide +kernel
theorem dX7_gain_26 : decode cX7_gain 26 = .ok (.getfield 46, 3) := by decide +kernel
theorem dX7_gain_29 : decode cX7_gain 29 = .ok (.iload 5, 2) := by decide +kernel
theorem dX7_gain_31 : decode cX7_gain 31 = .ok (.iaload, 1) := by decide +kernel
theorem dX7_gain_32 : decode cX7_gain 32 = .ok (.iload_n 3, 1) := by decide +kernel
theorem dX7_gain_33 : decode cX7_gain 33 = .ok (.iload 4, 2) := by decide +kernel
theorem dX7_gain_35 : decode cX7_gain 35 = .ok (.if_icmp .ne 7, 3) := by decide +kernel
theorem dX7_gain_38 : decode cX7_gain 38 = .ok (.iconst 0, 1) := by decide +kernel
theorem dX7_gain_39 : decode cX7_gain 39 = .ok (.goto 4, 3) := by decide +kernel
theorem dX7_gain_42 : decode cX7_gain 42 = .ok (.iconst 2, 1) := by decide +kernel
theorem dX7_gain_43 : decode cX7_gain 43 = .ok (.iadd, 1) := by decide +kernel
theorem dX7_gain_44 : decode cX7_gain 44 = .ok (.ireturn, 1) := by decide +kernel
theorem dX7_isRest_0 : decode cX7_isRest 0 = .ok (.iconst 1, 1) := by decide +kernel
theorem dX7_isRest_1 : decode cX7_isRest 1 = .ok (.istore 5, 2) := by decide +kernel
theorem dX7_isRest_3 : decode cX7_isRest 3 = .ok (.iconst 0, 1) := by decide +kernel
theorem dX7_isRest_4 : decode cX7_isRest 4 = .ok (.istore 6, 2) := by decide +kernel
theorem dX7_isRest_6 : decode cX7_isRest 6 = .ok (.iload 6, 2) := by decide +kernel
theorem dX7_isRest_8 : decode cX7_isRest 8 = .ok (.aload_n 0, 1) := by decide +kernel
theorem dX7_isRest_9 : decode cX7_isRest 9 = .ok (.getfield 108, 3) := by decide +kernel
theorem dX7_isRest_12 : decode cX7_isRest 12 = .ok (.if_icmp .ge 68, 3) := by decide +kernel
theorem dX7_isRest_15 : decode cX7_isRest 15 = .ok (.iload 5, 2) := by decide +kernel
theorem dX7_isRest_17 : decode cX7_isRest 17 = .ok (.ifCond .eq 54, 3) := by decide +kernel
theorem dX7_isRest_20 : decode cX7_isRest 20 = .ok (.aload_n 0, 1) := by decide +kernel
theorem dX7_isRest_21 : decode cX7_isRest 21 = .ok (.iload_n 1, 1) := by decide +kernel
theorem dX7_isRest_22 : decode cX7_isRest 22 = .ok (.iload_n 2, 1) := by decide +kernel
theorem dX7_isRest_23 : decode cX7_isRest 23 = .ok (.iload 6, 2) := by decide +kernel
theorem dX7_isRest_25 : decode cX7_isRest 25 = .ok (.iload 4, 2) := by decide +kernel
theorem dX7_isRest_27 : decode cX7_isRest 27 = .ok (.iconst 0, 1) := by decide +kernel
theorem dX7_isRest_28 : decode cX7_isRest 28 = .ok (.invokevirtual 223, 3) := by decide +kernel
theorem dX7_isRest_31 : decode cX7_isRest 31 = .ok (.aload_n 0, 1) := by decide +kernel
theorem dX7_isRest_32 : decode cX7_isRest 32 = .ok (.iload_n 1, 1) := by decide +kernel
theorem dX7_isRest_33 : decode cX7_isRest 33 = .ok (.iload_n 2, 1) := by decide +kernel
theorem dX7_isRest_34 : decode cX7_isRest 34 = .ok (.iload_n 3, 1) := by decide +kernel
theorem dX7_isRest_35 : decode cX7_isRest 35 = .ok (.iload 4, 2) := by decide +kernel
theorem dX7_isRest_37 : decode cX7_isRest 37 = .ok (.iconst 0, 1) := by decide +kernel
theorem dX7_isRest_38 : decode cX7_isRest 38 = .ok (.invokevirtual 223, 3) := by decide +kernel
theorem dX7_isRest_41 : decode cX7_isRest 41 = .ok (.if_icmp .gt 30, 3) := by decide +kernel
theorem dX7_isRest_44 : decode cX7_isRest 44 = .ok (.aload_n 0, 1) := by decide +kernel
theorem dX7_isRest_45 : decode cX7_isRest 45 = .ok (.iload_n 1, 1) := by decide +kernel
theorem dX7_isRest_46 : decode cX7_isRest 46 = .ok (.iload_n 2, 1) := by decide +kernel
theorem dX7_isRest_47 : decode cX7_isRest 47 = .ok (.iload_n 3, 1) := by decide +kernel
theorem dX7_isRest_48 : decode cX7_isRest 48 = .ok (.iload 6, 2) := by decide +kernel
theorem dX7_isRest_50 : decode cX7_isRest 50 = .ok (.iconst 1, 1) := by decide +kernel
theorem dX7_isRest_51 : decode cX7_isRest 51 = .ok (.invokevirtual 223, 3) := by decide +kernel
theorem dX7_isRest_54 : decode cX7_isRest 54 = .ok (.aload_n 0, 1) := by decide +kernel
theorem dX7_isRest_55 : decode cX7_isRest 55 = .ok (.iload_n 1, 1) := by decide +kernel
theorem dX7_isRest_56 : decode cX7_isRest 56 = .ok (.iload_n 2, 1) := by decide +kernel
theorem dX7_isRest_57 : decode cX7_isRest 57 = .ok (.iload_n 3, 1) := by decide +kernel
theorem dX7_isRest_58 : decode cX7_isRest 58 = .ok (.iload 4, 2) := by decide +kernel
theorem dX7_isRest_60 : decode cX7_isRest 60 = .ok (.iconst 1, 1) := by decide +kernel
theorem dX7_isRest_61 : decode cX7_isRest 61 = .ok (.invokevirtual 223, 3) := by decide +kernel
theorem dX7_isRest_64 : decode cX7_isRest 64 = .ok (.if_icmp .gt 7, 3) := by decide +kernel
theorem dX7_isRest_67 : decode cX7_isRest 67 = .ok (.iconst 1, 1) := by decide +kernel
theorem dX7_isRest_68 : decode cX7_isRest 68 = .ok (.goto 4, 3) := by decide +kernel
theorem dX7_isRest_71 : decode cX7_isRest 71 = .ok (.iconst 0, 1) := by decide +kernel
theorem dX7_isRest_72 : decode cX7_isRest 72 = .ok (.istore 5, 2) := by decide +kernel
theorem dX7_isRest_74 : decode cX7_isRest 74 = .ok (.iinc 6 1, 3) := by decide +kernel
theorem dX7_isRest_77 : decode cX7_isRest 77 = .ok (.goto (-71), 3) := by decide +kernel
theorem dX7_isRest_80 : decode cX7_isRest 80 = .ok (.iload 5, 2) := by decide +kernel
theorem dX7_isRest_82 : decode cX7_isRest 82 = .ok (.ireturn, 1) := by decide +kernel
theorem dX7_rests_0 : decode cX7_rests 0 = .ok (.aload_n 0, 1) := by decide +kernel
theorem dX7_rests_1 : decode cX7_rests 1 = .ok (.iload_n 1, 1) := by decide +kernel
theorem dX7_rests_2 : decode cX7_rests 2 = .ok (.invokevirtual 151, 3) := by decide +kernel
theorem dX7_rests_5 : decode cX7_rests 5 = .ok (.ifCond .eq 11, 3) := by decide +kernel
theorem dX7_rests_8 : decode cX7_rests 8 = .ok (.aload_n 0, 1) := by decide +kernel
theorem dX7_rests_9 : decode cX7_rests 9 = .ok (.iload_n 2, 1) := by decide +kernel
theorem dX7_rests_10 : decode cX7_rests 10 = .ok (.invokevirtual 151, 3) := by decide +kernel
theorem dX7_rests_13 : decode cX7_rests 13 = .ok (.ifCond .ne 5, 3) := by decide +kernel
theorem dX7_rests_16 : decode cX7_rests 16 = .ok (.iconst (-1), 1) := by decide +kernel
theorem dX7_rests_17 : decode cX7_rests 17 = .ok (.ireturn, 1) := by decide +kernel
theorem dX7_rests_18 : decode cX7_rests 18 = .ok (.iload_n 1, 1) := by decide +kernel
theorem dX7_rests_19 : decode cX7_rests 19 = .ok (.iload_n 2, 1) := by decide +kernel
theorem dX7_rests_20 : decode cX7_rests 20 = .ok (.if_icmp .eq 13, 3) := by decide +kernel
theorem dX7_rests_23 : decode cX7_rests 23 = .ok (.iload_n 3, 1) := by decide +kernel
theorem dX7_rests_24 : decode cX7_rests 24 = .ok (.i2l, 1) := by decide +kernel
theorem dX7_rests_25 : decode cX7_rests 25 = .ok (.lconst 0, 1) := by decide +kernel
theorem dX7_rests_26 : decode cX7_rests 26 = .ok (.lconst 1, 1) := by decide +kernel
theorem dX7_rests_27 : decode cX7_rests 27 = .ok (.invokestatic 64, 3) := by decide +kernel
theorem dX7_rests_30 : decode cX7_rests 30 = .ok (.ifCond .ne 6, 3) := by decide +kernel
theorem dX7_rests_33 : decode cX7_rests 33 = .ok (.bipush (-2), 2) := by decide +kernel
theorem dX7_rests_35 : decode cX7_rests 35 = .ok (.ireturn, 1) := by decide +kernel
theorem dX7_rests_36 : decode cX7_rests 36 = .ok (.iconst 0, 1) := by decide +kernel
theorem dX7_rests_37 : decode cX7_rests 37 = .ok (.istore 4, 2) := by decide +kernel
theorem dX7_rests_39 : decode cX7_rests 39 = .ok (.bipush (-9), 2) := by decide +kernel
theorem dX7_rests_41 : decode cX7_rests 41 = .ok (.istore 5, 2) := by decide +kernel
theorem dX7_rests_43 : decode cX7_rests 43 = .ok (.iconst 0, 1) := by decide +kernel
theorem dX7_rests_44 : decode cX7_rests 44 = .ok (.istore 6, 2) := by decide +kernel
theorem dX7_rests_46 : decode cX7_rests 46 = .ok (.iload 6, 2) := by decide +kernel
theorem dX7_rests_48 : decode cX7_rests 48 = .ok (.aload_n 0, 1) := by decide +kernel
theorem dX7_rests_49 : decode cX7_rests 49 = .ok (.getfield 108, 3) := by decide +kernel
theorem dX7_rests_52 : decode cX7_rests 52 = .ok (.aload_n 0, 1) := by decide +kernel
theorem dX7_rests_53 : decode cX7_rests 53 = .ok (.getfield 108, 3) := by decide +kernel
theorem dX7_rests_56 : decode cX7_rests 56 = .ok (.imul, 1) := by decide +kernel
theorem dX7_rests_57 : decode cX7_rests 57 = .ok (.if_icmp .ge 65, 3) := by decide +kernel
theorem dX7_rests_60 : decode cX7_rests 60 = .ok (.aload_n 0, 1) := by decide +kernel
theorem dX7_rests_61 : decode cX7_rests 61 = .ok (.iload_n 1, 1) := by decide +kernel
theorem dX7_rests_62 : decode cX7_rests 62 = .ok (.iload_n 2, 1) := by decide +kernel
theorem dX7_rests_63 : decode cX7_rests 63 = .ok (.iload 6, 2) := by decide +kernel
theorem dX7_rests_65 : decode cX7_rests 65 = .ok (.aload_n 0, 1) := by decide +kernel
theorem dX7_rests_66 : decode cX7_rests 66 = .ok (.getfield 108, 3) := by decide +kernel
theorem dX7_rests_69 : decode cX7_rests 69 = .ok (.idiv, 1) := by decide +kernel
theorem dX7_rests_70 : decode cX7_rests 70 = .ok (.iload 6, 2) := by decide +kernel
theorem dX7_rests_72 : decode cX7_rests 72 = .ok (.aload_n 0, 1) := by decide +kernel
theorem dX7_rests_73 : decode cX7_rests 73 = .ok (.getfield 108, 3) := by decide +kernel
theorem dX7_rests_76 : decode cX7_rests 76 = .ok (.irem, 1) := by decide +kernel
theorem dX7_rests_77 : decode cX7_rests 77 = .ok (.invokevirtual 227, 3) := by decide +kernel
theorem dX7_rests_80 : decode cX7_rests 80 = .ok (.ifCond .eq 36, 3) := by decide +kernel
theorem dX7_rests_83 : decode cX7_rests 83 = .ok (.iload 4, 2) := by decide +kernel
theorem dX7_rests_85 : decode cX7_rests 85 = .ok (.ifCond .ne 24, 3) := by decide +kernel
theorem dX7_rests_88 : decode cX7_rests 88 = .ok (.bipush 10, 2) := by decide +kernel
theorem dX7_rests_90 : decode cX7_rests 90 = .ok (.iload 6, 2) := by decide +kernel
theorem dX7_rests_92 : decode cX7_rests 92 = .ok (.aload_n 0, 1) := by decide +kernel
theorem dX7_rests_93 : decode cX7_rests 93 = .ok (.getfield 108, 3) := by decide +kernel
theorem dX7_rests_96 : decode cX7_rests 96 = .ok (.idiv, 1) := by decide +kernel
theorem dX7_rests_97 : decode cX7_rests 97 = .ok (.imul, 1) := by decide +kernel
theorem dX7_rests_98 : decode cX7_rests 98 = .ok (.iload 6, 2) := by decide +kernel
theorem dX7_rests_100 : decode cX7_rests 100 = .ok (.aload_n 0, 1) := by decide +kernel
theorem dX7_rests_101 : decode cX7_rests 101 = .ok (.getfield 108, 3) := by decide +kernel
theorem dX7_rests_104 : decode cX7_rests 104 = .ok (.irem, 1) := by decide +kernel
theorem dX7_rests_105 : decode cX7_rests 105 = .ok (.iadd, 1) := by decide +kernel
theorem dX7_rests_106 : decode cX7_rests 106 = .ok (.goto 5, 3) := by decide +kernel
theorem dX7_rests_109 : decode cX7_rests 109 = .ok (.iload 5, 2) := by decide +kernel
theorem dX7_rests_111 : decode cX7_rests 111 = .ok (.istore 5, 2) := by decide +kernel
theorem dX7_rests_113 : decode cX7_rests 113 = .ok (.iinc 4 1, 3) := by decide +kernel
theorem dX7_rests_116 : decode cX7_rests 116 = .ok (.iinc 6 1, 3) := by decide +kernel
theorem dX7_rests_119 : decode cX7_rests 119 = .ok (.goto (-73), 3) := by decide +kernel
theorem dX7_rests_122 : decode cX7_rests 122 = .ok (.iload_n 3, 1) := by decide +kernel
theorem dX7_rests_123 : decode cX7_rests 123 = .ok (.ifCond .ne 8, 3) := by decide +kernel
theorem dX7_rests_126 : decode cX7_rests 126 = .ok (.iload 4, 2) := by decide +kernel
theorem dX7_rests_128 : decode cX7_rests 128 = .ok (.goto 5, 3) := by decide +kernel
theorem dX7_rests_131 : decode cX7_rests 131 = .ok (.iload 5, 2) := by decide +kernel
theorem dX7_rests_133 : decode cX7_rests 133 = .ok (.ireturn, 1) := by decide +kernel
theorem dX7_power_0 : decode cX7_power 0 = .ok (.iconst 1, 1) := by decide +kernel
theorem dX7_power_1 : decode cX7_power 1 = .ok (.istore_n 2, 1) := by decide +kernel
theorem dX7_power_2 : decode cX7_power 2 = .ok (.iconst 0, 1) := by decide +kernel
theorem dX7_power_3 : decode cX7_power 3 = .ok (.istore_n 3, 1) := by decide +kernel
theorem dX7_power_4 : decode cX7_power 4 = .ok (.iload_n 3, 1) := by decide +kernel
theorem dX7_power_5 : decode cX7_power 5 = .ok (.iload_n 1, 1) := by decide +kernel
theorem dX7_power_6 : decode cX7_power 6 = .ok (.if_icmp .ge 13, 3) := by decide +kernel
theorem dX7_power_9 : decode cX7_power 9 = .ok (.iload_n 2, 1) := by decide +kernel
theorem dX7_power_10 : decode cX7_power 10 = .ok (.iload_n 0, 1) := by decide +kernel
theorem dX7_power_11 : decode cX7_power 11 = .ok (.imul, 1) := by decide +kernel
theorem dX7_power_12 : decode cX7_power 12 = .ok (.istore_n 2, 1) := by decide +kernel
theorem dX7_power_13 : decode cX7_power 13 = .ok (.iinc 3 1, 3) := by decide +kernel
theorem dX7_power_16 : decode cX7_power 16 = .ok (.goto (-12), 3) := by decide +kernel
theorem dX7_power_19 : decode cX7_power 19 = .ok (.iload_n 2, 1) := by decide +kernel
theorem dX7_power_20 : decode cX7_power 20 = .ok (.ireturn, 1) := by decide +kernel
theorem dX7_ill_0 : decode cX7_ill 0 = .ok (.aload_n 0, 1) := by decide +kernel
theorem dX7_ill_1 : decode cX7_ill 1 = .ok (.iload_n 1, 1) := by decide +kernel
theorem dX7_ill_2 : decode cX7_ill 2 = .ok (.invokevirtual 151, 3) := by decide +kernel
theorem dX7_ill_5 : decode cX7_ill 5 = .ok (.ifCond .ne 5, 3) := by decide +kernel
theorem dX7_ill_8 : decode cX7_ill 8 = .ok (.iconst (-1), 1) := by decide +kernel
theorem dX7_ill_9 : decode cX7_ill 9 = .ok (.ireturn, 1) := by decide +kernel
theorem dX7_ill_10 : decode cX7_ill 10 = .ok (.iload_n 2, 1) := by decide +kernel
theorem dX7_ill_11 : decode cX7_ill 11 = .ok (.i2l, 1) := by decide +kernel
theorem dX7_ill_12 : decode cX7_ill 12 = .ok (.lconst 0, 1) := by decide +kernel
theorem dX7_ill_13 : decode cX7_ill 13 = .ok (.ldc2_w 183, 3) := by decide +kernel
theorem dX7_ill_16 : decode cX7_ill 16 = .ok (.invokestatic 64, 3) := by decide +kernel
theorem dX7_ill_19 : decode cX7_ill 19 = .ok (.ifCond .eq 15, 3) := by decide +kernel
theorem dX7_ill_22 : decode cX7_ill 22 = .ok (.iload_n 3, 1) := by decide +kernel
theorem dX7_ill_23 : decode cX7_ill 23 = .ok (.i2l, 1) := by decide +kernel
theorem dX7_ill_24 : decode cX7_ill 24 = .ok (.lconst 0, 1) := by decide +kernel
theorem dX7_ill_25 : decode cX7_ill 25 = .ok (.ldc2_w 231, 3) := by decide +kernel
theorem dX7_ill_28 : decode cX7_ill 28 = .ok (.invokestatic 64, 3) := by decide +kernel
theorem dX7_ill_31 : decode cX7_ill 31 = .ok (.ifCond .ne 6, 3) := by decide +kernel
theorem dX7_ill_34 : decode cX7_ill 34 = .ok (.bipush (-2), 2) := by decide +kernel
theorem dX7_ill_36 : decode cX7_ill 36 = .ok (.ireturn, 1) := by decide +kernel
theorem dX7_ill_37 : decode cX7_ill 37 = .ok (.iconst 0, 1) := by decide +kernel
theorem dX7_ill_38 : decode cX7_ill 38 = .ok (.istore 5, 2) := by decide +kernel
theorem dX7_ill_40 : decode cX7_ill 40 = .ok (.iconst 0, 1) := by decide +kernel
theorem dX7_ill_41 : decode cX7_ill 41 = .ok (.istore 6, 2) := by decide +kernel
theorem dX7_ill_43 : decode cX7_ill 43 = .ok (.iconst 0, 1) := by decide +kernel
theorem dX7_ill_44 : decode cX7_ill 44 = .ok (.istore 7, 2) := by decide +kernel
theorem dX7_ill_46 : decode cX7_ill 46 = .ok (.iload 7, 2) := by decide +kernel
theorem dX7_ill_48 : decode cX7_ill 48 = .ok (.iconst 1, 1) := by decide +kernel
theorem dX7_ill_49 : decode cX7_ill 49 = .ok (.aload_n 0, 1) := by decide +kernel
theorem dX7_ill_50 : decode cX7_ill 50 = .ok (.getfield 114, 3) := by decide +kernel
theorem dX7_ill_53 : decode cX7_ill 53 = .ok (.ishl, 1) := by decide +kernel
theorem dX7_ill_54 : decode cX7_ill 54 = .ok (.if_icmp .ge 112, 3) := by decide +kernel
theorem dX7_ill_57 : decode cX7_ill 57 = .ok (.iload_n 3, 1) := by decide +kernel
theorem dX7_ill_58 : decode cX7_ill 58 = .ok (.iload 7, 2) := by decide +kernel
theorem dX7_ill_60 : decode cX7_ill 60 = .ok (.invokestatic 170, 3) := by decide +kernel
theorem dX7_ill_63 : decode cX7_ill 63 = .ok (.invokestatic 233, 3) := by decide +kernel
theorem dX7_ill_66 : decode cX7_ill 66 = .ok (.bipush 10, 2) := by decide +kernel
theorem dX7_ill_68 : decode cX7_ill 68 = .ok (.iload_n 3, 1) := by decide +kernel
theorem dX7_ill_69 : decode cX7_ill 69 = .ok (.isub, 1) := by decide +kernel
theorem dX7_ill_70 : decode cX7_ill 70 = .ok (.aload_n 0, 1) := by decide +kernel
theorem dX7_ill_71 : decode cX7_ill 71 = .ok (.getfield 114, 3) := by decide +kernel
theorem dX7_ill_74 : decode cX7_ill 74 = .ok (.iload 7, 2) := by decide +kernel
theorem dX7_ill_76 : decode cX7_ill 76 = .ok (.invokestatic 170, 3) := by decide +kernel
theorem dX7_ill_79 : decode cX7_ill 79 = .ok (.isub, 1) := by decide +kernel
theorem dX7_ill_80 : decode cX7_ill 80 = .ok (.invokestatic 233, 3) := by decide +kernel
theorem dX7_ill_83 : decode cX7_ill 83 = .ok (.imul, 1) := by decide +kernel
theorem dX7_ill_84 : decode cX7_ill 84 = .ok (.istore 8, 2) := by decide +kernel
theorem dX7_ill_86 : decode cX7_ill 86 = .ok (.aload_n 0, 1) := by decide +kernel
theorem dX7_ill_87 : decode cX7_ill 87 = .ok (.invokevirtual 185, 3) := by decide +kernel
theorem dX7_ill_90 : decode cX7_ill 90 = .ok (.aload_n 0, 1) := by decide +kernel
theorem dX7_ill_91 : decode cX7_ill 91 = .ok (.getfield 25, 3) := by decide +kernel
theorem dX7_ill_94 : decode cX7_ill 94 = .ok (.bipush 32, 2) := by decide +kernel
theorem dX7_ill_96 : decode cX7_ill 96 = .ok (.dup2, 1) := by decide +kernel
theorem dX7_ill_97 : decode cX7_ill 97 = .ok (.iaload, 1) := by decide +kernel
theorem dX7_ill_98 : decode cX7_ill 98 = .ok (.iload 7, 2) := by decide +kernel
theorem dX7_ill_100 : decode cX7_ill 100 = .ok (.iconst (-1), 1) := by decide +kernel
theorem dX7_ill_101 : decode cX7_ill 101 = .ok (.ixor, 1) := by decide +kernel
theorem dX7_ill_102 : decode cX7_ill 102 = .ok (.iand, 1) := by decide +kernel
theorem dX7_ill_103 : decode cX7_ill 103 = .ok (.iastore, 1) := by decide +kernel
theorem dX7_ill_104 : decode cX7_ill 104 = .ok (.iconst 0, 1) := by decide +kernel
theorem dX7_ill_105 : decode cX7_ill 105 = .ok (.istore 9, 2) := by decide +kernel
theorem dX7_ill_107 : decode cX7_ill 107 = .ok (.iload 9, 2) := by decide +kernel
theorem dX7_ill_109 : decode cX7_ill 109 = .ok (.iload_n 2, 1) := by decide +kernel
theorem dX7_ill_110 : decode cX7_ill 110 = .ok (.if_icmp .ge 14, 3) := by decide +kernel
theorem dX7_ill_113 : decode cX7_ill 113 = .ok (.aload_n 0, 1) := by decide +kernel
theorem dX7_ill_114 : decode cX7_ill 114 = .ok (.iconst 1, 1) := by decide +kernel
theorem dX7_ill_115 : decode cX7_ill 115 = .ok (.invokevirtual 163, 3) := by decide +kernel
theorem dX7_ill_118 : decode cX7_ill 118 = .ok (.iinc 9 1, 3) := by decide +kernel
theorem dX7_ill_121 : decode cX7_ill 121 = .ok (.goto (-14), 3) := by decide +kernel
theorem dX7_ill_124 : decode cX7_ill 124 = .ok (.iload 6, 2) := by decide +kernel
theorem dX7_ill_126 : decode cX7_ill 126 = .ok (.iload 8, 2) := by decide +kernel
theorem dX7_ill_128 : decode cX7_ill 128 = .ok (.iadd, 1) := by decide +kernel
theorem dX7_ill_129 : decode cX7_ill 129 = .ok (.istore 6, 2) := by decide +kernel
theorem dX7_ill_131 : decode cX7_ill 131 = .ok (.iload 5, 2) := by decide +kernel
theorem dX7_ill_133 : decode cX7_ill 133 = .ok (.aload_n 0, 1) := by decide +kernel
theorem dX7_ill_134 : decode cX7_ill 134 = .ok (.getfield 25, 3) := by decide +kernel
theorem dX7_ill_137 : decode cX7_ill 137 = .ok (.bipush 22, 2) := by decide +kernel
theorem dX7_ill_139 : decode cX7_ill 139 = .ok (.iload_n 1, 1) := by decide +kernel
theorem dX7_ill_140 : decode cX7_ill 140 = .ok (.iadd, 1) := by decide +kernel
theorem dX7_ill_141 : decode cX7_ill 141 = .ok (.iaload, 1) := by decide +kernel
theorem dX7_ill_142 : decode cX7_ill 142 = .ok (.aload_n 0, 1) := by decide +kernel
theorem dX7_ill_143 : decode cX7_ill 143 = .ok (.getfield 13, 3) := by decide +kernel
theorem dX7_ill_146 : decode cX7_ill 146 = .ok (.iload_n 1, 1) := by decide +kernel
theorem dX7_ill_147 : decode cX7_ill 147 = .ok (.iaload, 1) := by decide +kernel
theorem dX7_ill_148 : decode cX7_ill 148 = .ok (.if_icmp .ne 8, 3) := by decide +kernel
theorem dX7_ill_151 : decode cX7_ill 151 = .ok (.iload 8, 2) := by decide +kernel
theorem dX7_ill_153 : decode cX7_ill 153 = .ok (.goto 4, 3) := by decide +kernel
theorem dX7_ill_156 : decode cX7_ill 156 = .ok (.iconst 0, 1) := by decide +kernel
theorem dX7_ill_157 : decode cX7_ill 157 = .ok (.iadd, 1) := by decide +kernel
theorem dX7_ill_158 : decode cX7_ill 158 = .ok (.istore 5, 2) := by decide +kernel
theorem dX7_ill_160 : decode cX7_ill 160 = .ok (.iinc 7 1, 3) := by decide +kernel
theorem dX7_ill_163 : decode cX7_ill 163 = .ok (.goto (-117), 3) := by decide +kernel
theorem dX7_ill_166 : decode cX7_ill 166 = .ok (.iload 5, 2) := by decide +kernel
theorem dX7_ill_168 : decode cX7_ill 168 = .ok (.iload 6, 2) := by decide +kernel
theorem dX7_ill_170 : decode cX7_ill 170 = .ok (.invokestatic 220, 3) := by decide +kernel
theorem dX7_ill_173 : decode cX7_ill 173 = .ok (.istore 7, 2) := by decide +kernel
theorem dX7_ill_175 : decode cX7_ill 175 = .ok (.iload 4, 2) := by decide +kernel
theorem dX7_ill_177 : decode cX7_ill 177 = .ok (.ifCond .eq 11, 3) := by decide +kernel
theorem dX7_ill_180 : decode cX7_ill 180 = .ok (.iload 5, 2) := by decide +kernel
theorem dX7_ill_182 : decode cX7_ill 182 = .ok (.iload 7, 2) := by decide +kernel
theorem dX7_ill_184 : decode cX7_ill 184 = .ok (.idiv, 1) := by decide +kernel
theorem dX7_ill_185 : decode cX7_ill 185 = .ok (.goto 8, 3) := by decide +kernel
theorem dX7_ill_188 : decode cX7_ill 188 = .ok (.iload 6, 2) := by decide +kernel
theorem dX7_ill_190 : decode cX7_ill 190 = .ok (.iload 7, 2) := by decide +kernel
theorem dX7_ill_192 : decode cX7_ill 192 = .ok (.idiv, 1) := by decide +kernel
theorem dX7_ill_193 : decode cX7_ill 193 = .ok (.ireturn, 1) := by decide +kernel
theorem dX7_seed_0 : decode cX7_seed 0 = .ok (.aload_n 0, 1) := by decide +kernel
theorem dX7_seed_1 : decode cX7_seed 1 = .ok (.getfield 236, 3) := by decide +kernel
theorem dX7_seed_4 : decode cX7_seed 4 = .ok (.lstore_n 3, 1) := by decide +kernel
theorem dX7_seed_5 : decode cX7_seed 5 = .ok (.aload_n 0, 1) := by decide +kernel
theorem dX7_seed_6 : decode cX7_seed 6 = .ok (.lload_n 1, 1) := by decide +kernel
theorem dX7_seed_7 : decode cX7_seed 7 = .ok (.putfield 236, 3) := by decide +kernel
theorem dX7_seed_10 : decode cX7_seed 10 = .ok (.lload_n 3, 1) := by decide +kernel
theorem dX7_seed_11 : decode cX7_seed 11 = .ok (.lreturn, 1) := by decide +kernel
theorem dX7_decades_0 : decode cX7_decades 0 = .ok (.iload_n 1, 1) := by decide +kernel
theorem dX7_decades_1 : decode cX7_decades 1 = .ok (.i2l, 1) := by decide +kernel
theorem dX7_decades_2 : decode cX7_decades 2 = .ok (.lconst 1, 1) := by decide +kernel
theorem dX7_decades_3 : decode cX7_decades 3 = .ok (.ldc2_w 240, 3) := by decide +kernel
theorem dX7_decades_6 : decode cX7_decades 6 = .ok (.invokestatic 64, 3) := by decide +kernel
theorem dX7_decades_9 : decode cX7_decades 9 = .ok (.ifCond .ne 6, 3) := by decide +kernel
theorem dX7_decades_12 : decode cX7_decades 12 = .ok (.bipush (-2), 2) := by decide +kernel
theorem dX7_decades_14 : decode cX7_decades 14 = .ok (.ireturn, 1) := by decide +kernel
theorem dX7_decades_15 : decode cX7_decades 15 = .ok (.aload_n 0, 1) := by decide +kernel
theorem dX7_decades_16 : decode cX7_decades 16 = .ok (.invokevirtual 185, 3) := by decide +kernel
theorem dX7_decades_19 : decode cX7_decades 19 = .ok (.iconst 0, 1) := by decide +kernel
theorem dX7_decades_20 : decode cX7_decades 20 = .ok (.istore_n 2, 1) := by decide +kernel
theorem dX7_decades_21 : decode cX7_decades 21 = .ok (.iconst 0, 1) := by decide +kernel
theorem dX7_decades_22 : decode cX7_decades 22 = .ok (.istore_n 3, 1) := by decide +kernel
theorem dX7_decades_23 : decode cX7_decades 23 = .ok (.iload_n 3, 1) := by decide +kernel
theorem dX7_decades_24 : decode cX7_decades 24 = .ok (.iload_n 1, 1) := by decide +kernel
theorem dX7_decades_25 : decode cX7_decades 25 = .ok (.if_icmp .ge 114, 3) := by decide +kernel
theorem dX7_decades_28 : decode cX7_decades 28 = .ok (.aload_n 0, 1) := by decide +kernel
theorem dX7_decades_29 : decode cX7_decades 29 = .ok (.aload_n 0, 1) := by decide +kernel
theorem dX7_decades_30 : decode cX7_decades 30 = .ok (.getfield 236, 3) := by decide +kernel
theorem dX7_decades_33 : decode cX7_decades 33 = .ok (.ldc2_w 242, 3) := by decide +kernel
theorem dX7_decades_36 : decode cX7_decades 36 = .ok (.lmul, 1) := by decide +kernel
theorem dX7_decades_37 : decode cX7_decades 37 = .ok (.ldc2_w 244, 3) := by decide +kernel
theorem dX7_decades_40 : decode cX7_decades 40 = .ok (.ladd, 1) := by decide +kernel
theorem dX7_decades_41 : decode cX7_decades 41 = .ok (.putfield 236, 3) := by decide +kernel
theorem dX7_decades_44 : decode cX7_decades 44 = .ok (.aload_n 0, 1) := by decide +kernel
theorem dX7_decades_45 : decode cX7_decades 45 = .ok (.getfield 236, 3) := by decide +kernel
theorem dX7_decades_48 : decode cX7_decades 48 = .ok (.bipush 33, 2) := by decide +kernel
theorem dX7_decades_50 : decode cX7_decades 50 = .ok (.lushr, 1) := by decide +kernel
theorem dX7_decades_51 : decode cX7_decades 51 = .ok (.ldc2_w 246, 3) := by decide +kernel
theorem dX7_decades_54 : decode cX7_decades 54 = .ok (.lrem, 1) := by decide +kernel
theorem dX7_decades_55 : decode cX7_decades 55 = .ok (.l2i, 1) := by decide +kernel
theorem dX7_decades_56 : decode cX7_decades 56 = .ok (.istore 4, 2) := by decide +kernel
theorem dX7_decades_58 : decode cX7_decades 58 = .ok (.iload 4, 2) := by decide +kernel
theorem dX7_decades_60 : decode cX7_decades 60 = .ok (.bipush 8, 2) := by decide +kernel
theorem dX7_decades_62 : decode cX7_decades 62 = .ok (.if_icmp .le 11, 3) := by decide +kernel
theorem dX7_decades_65 : decode cX7_decades 65 = .ok (.aload_n 0, 1) := by decide +kernel
theorem dX7_decades_66 : decode cX7_decades 66 = .ok (.iconst 1, 1) := by decide +kernel
theorem dX7_decades_67 : decode cX7_decades 67 = .ok (.invokevirtual 163, 3) := by decide +kernel
theorem dX7_decades_70 : decode cX7_decades 70 = .ok (.goto 51, 3) := by decide +kernel
theorem dX7_decades_73 : decode cX7_decades 73 = .ok (.iload 4, 2) := by decide +kernel
theorem dX7_decades_75 : decode cX7_decades 75 = .ok (.iconst 4, 1) := by decide +kernel
theorem dX7_decades_76 : decode cX7_decades 76 = .ok (.if_icmp .le 37, 3) := by decide +kernel
theorem dX7_decades_79 : decode cX7_decades 79 = .ok (.aload_n 0, 1) := by decide +kernel
theorem dX7_decades_80 : decode cX7_decades 80 = .ok (.getfield 25, 3) := by decide +kernel
theorem dX7_decades_83 : decode cX7_decades 83 = .ok (.bipush 32, 2) := by decide +kernel
theorem dX7_decades_85 : decode cX7_decades 85 = .ok (.dup2, 1) := by decide +kernel
theorem dX7_decades_86 : decode cX7_decades 86 = .ok (.iaload, 1) := by decide +kernel
theorem dX7_decades_87 : decode cX7_decades 87 = .ok (.aload_n 0, 1) := by decide +kernel
theorem dX7_decades_88 : decode cX7_decades 88 = .ok (.iload 4, 2) := by decide +kernel
theorem dX7_decades_90 : decode cX7_decades 90 = .ok (.iconst 5, 1) := by decide +kernel
theorem dX7_decades_91 : decode cX7_decades 91 = .ok (.isub, 1) := by decide +kernel
theorem dX7_decades_92 : decode cX7_decades 92 = .ok (.invokevirtual 154, 3) := by decide +kernel
theorem dX7_decades_95 : decode cX7_decades 95 = .ok (.ifCond .eq 12, 3) := by decide +kernel
theorem dX7_decades_98 : decode cX7_decades 98 = .ok (.iconst 1, 1) := by decide +kernel
theorem dX7_decades_99 : decode cX7_decades 99 = .ok (.iload 4, 2) := by decide +kernel
theorem dX7_decades_101 : decode cX7_decades 101 = .ok (.iconst 5, 1) := by decide +kernel
theorem dX7_decades_102 : decode cX7_decades 102 = .ok (.isub, 1) := by decide +kernel
theorem dX7_decades_103 : decode cX7_decades 103 = .ok (.ishl, 1) := by decide +kernel
theorem dX7_decades_104 : decode cX7_decades 104 = .ok (.goto 4, 3) := by decide +kernel
theorem dX7_decades_107 : decode cX7_decades 107 = .ok (.iconst 0, 1) := by decide +kernel
theorem dX7_decades_108 : decode cX7_decades 108 = .ok (.ixor, 1) := by decide +kernel
theorem dX7_decades_109 : decode cX7_decades 109 = .ok (.iastore, 1) := by decide +kernel
theorem dX7_decades_110 : decode cX7_decades 110 = .ok (.goto 11, 3) := by decide +kernel
theorem dX7_decades_113 : decode cX7_decades 113 = .ok (.aload_n 0, 1) := by decide +kernel
theorem dX7_decades_114 : decode cX7_decades 114 = .ok (.iconst 1, 1) := by decide +kernel
theorem dX7_decades_115 : decode cX7_decades 115 = .ok (.iload 4, 2) := by decide +kernel
theorem dX7_decades_117 : decode cX7_decades 117 = .ok (.invokevirtual 180, 3) := by decide +kernel
theorem dX7_decades_120 : decode cX7_decades 120 = .ok (.pop, 1) := by decide +kernel
theorem dX7_decades_121 : decode cX7_decades 121 = .ok (.iload_n 2, 1) := by decide +kernel
theorem dX7_decades_122 : decode cX7_decades 122 = .ok (.aload_n 0, 1) := by decide +kernel
theorem dX7_decades_123 : decode cX7_decades 123 = .ok (.iconst 1, 1) := by decide +kernel
theorem dX7_decades_124 : decode cX7_decades 124 = .ok (.iconst 1, 1) := by decide +kernel
theorem dX7_decades_125 : decode cX7_decades 125 = .ok (.invokevirtual 166, 3) := by decide +kernel
theorem dX7_decades_128 : decode cX7_decades 128 = .ok (.invokestatic 170, 3) := by decide +kernel
theorem dX7_decades_131 : decode cX7_decades 131 = .ok (.iadd, 1) := by decide +kernel
theorem dX7_decades_132 : decode cX7_decades 132 = .ok (.istore_n 2, 1) := by decide +kernel
theorem dX7_decades_133 : decode cX7_decades 133 = .ok (.iinc 3 1, 3) := by decide +kernel
theorem dX7_decades_136 : decode cX7_decades 136 = .ok (.goto (-113), 3) := by decide +kernel
theorem dX7_decades_139 : decode cX7_decades 139 = .ok (.iload_n 2, 1) := by decide +kernel
theorem dX7_decades_140 : decode cX7_decades 140 = .ok (.ireturn, 1) := by decide +kernel
theorem dX7_keep_0 : decode cX7_keep 0 = .ok (.iload_n 1, 1) := by decide +kernel
theorem dX7_keep_1 : decode cX7_keep 1 = .ok (.i2l, 1) := by decide +kernel
theorem dX7_keep_2 : decode cX7_keep 2 = .ok (.lconst 0, 1) := by decide +kernel
theorem dX7_keep_3 : decode cX7_keep 3 = .ok (.lconst 1, 1) := by decide +kernel
theorem dX7_keep_4 : decode cX7_keep 4 = .ok (.invokestatic 64, 3) := by decide +kernel
theorem dX7_keep_7 : decode cX7_keep 7 = .ok (.ifCond .ne 5, 3) := by decide +kernel
theorem dX7_keep_10 : decode cX7_keep 10 = .ok (.iconst (-1), 1) := by decide +kernel
theorem dX7_keep_11 : decode cX7_keep 11 = .ok (.ireturn, 1) := by decide +kernel
theorem dX7_keep_12 : decode cX7_keep 12 = .ok (.aload_n 0, 1) := by decide +kernel
theorem dX7_keep_13 : decode cX7_keep 13 = .ok (.getfield 55, 3) := by decide +kernel
theorem dX7_keep_16 : decode cX7_keep 16 = .ok (.iload_n 1, 1) := by decide +kernel
theorem dX7_keep_17 : decode cX7_keep 17 = .ok (.iconst 1, 1) := by decide +kernel
theorem dX7_keep_18 : decode cX7_keep 18 = .ok (.bastore, 1) := by decide +kernel
theorem dX7_keep_19 : decode cX7_keep 19 = .ok (.iconst 0, 1) := by decide +kernel
theorem dX7_keep_20 : decode cX7_keep 20 = .ok (.istore_n 2, 1) := by decide +kernel
theorem dX7_keep_21 : decode cX7_keep 21 = .ok (.iload_n 2, 1) := by decide +kernel
theorem dX7_keep_22 : decode cX7_keep 22 = .ok (.bipush 17, 2) := by decide +kernel
theorem dX7_keep_24 : decode cX7_keep 24 = .ok (.if_icmp .ge 26, 3) := by decide +kernel
theorem dX7_keep_27 : decode cX7_keep 27 = .ok (.aload_n 0, 1) := by decide +kernel
theorem dX7_keep_28 : decode cX7_keep 28 = .ok (.getfield 59, 3) := by decide +kernel
theorem dX7_keep_31 : decode cX7_keep 31 = .ok (.bipush 17, 2) := by decide +kernel
theorem dX7_keep_33 : decode cX7_keep 33 = .ok (.iload_n 1, 1) := by decide +kernel
theorem dX7_keep_34 : decode cX7_keep 34 = .ok (.imul, 1) := by decide +kernel
theorem dX7_keep_35 : decode cX7_keep 35 = .ok (.iload_n 2, 1) := by decide +kernel
theorem dX7_keep_36 : decode cX7_keep 36 = .ok (.iadd, 1) := by decide +kernel
theorem dX7_keep_37 : decode cX7_keep 37 = .ok (.aload_n 0, 1) := by decide +kernel
theorem dX7_keep_38 : decode cX7_keep 38 = .ok (.getfield 25, 3) := by decide +kernel
theorem dX7_keep_41 : decode cX7_keep 41 = .ok (.iload_n 2, 1) := by decide +kernel
theorem dX7_keep_42 : decode cX7_keep 42 = .ok (.iaload, 1) := by decide +kernel
theorem dX7_keep_43 : decode cX7_keep 43 = .ok (.iastore, 1) := by decide +kernel
theorem dX7_keep_44 : decode cX7_keep 44 = .ok (.iinc 2 1, 3) := by decide +kernel
theorem dX7_keep_47 : decode cX7_keep 47 = .ok (.goto (-26), 3) := by decide +kernel
theorem dX7_keep_50 : decode cX7_keep 50 = .ok (.aload_n 0, 1) := by decide +kernel
theorem dX7_keep_51 : decode cX7_keep 51 = .ok (.getfield 25, 3) := by decide +kernel
theorem dX7_keep_54 : decode cX7_keep 54 = .ok (.bipush 16, 2) := by decide +kernel
theorem dX7_keep_56 : decode cX7_keep 56 = .ok (.iaload, 1) := by decide +kernel
theorem dX7_keep_57 : decode cX7_keep 57 = .ok (.ireturn, 1) := by decide +kernel
theorem dX7_again_0 : decode cX7_again 0 = .ok (.iload_n 1, 1) := by decide +kernel
theorem dX7_again_1 : decode cX7_again 1 = .ok (.i2l, 1) := by decide +kernel
theorem dX7_again_2 : decode cX7_again 2 = .ok (.lconst 0, 1) := by decide +kernel
theorem dX7_again_3 : decode cX7_again 3 = .ok (.lconst 1, 1) := by decide +kernel
theorem dX7_again_4 : decode cX7_again 4 = .ok (.invokestatic 64, 3) := by decide +kernel
theorem dX7_again_7 : decode cX7_again 7 = .ok (.ifCond .ne 5, 3) := by decide +kernel
theorem dX7_again_10 : decode cX7_again 10 = .ok (.iconst (-1), 1) := by decide +kernel
theorem dX7_again_11 : decode cX7_again 11 = .ok (.ireturn, 1) := by decide +kernel
theorem dX7_again_12 : decode cX7_again 12 = .ok (.aload_n 0, 1) := by decide +kernel
theorem dX7_again_13 : decode cX7_again 13 = .ok (.getfield 55, 3) := by decide +kernel
theorem dX7_again_16 : decode cX7_again 16 = .ok (.iload_n 1, 1) := by decide +kernel
theorem dX7_again_17 : decode cX7_again 17 = .ok (.baload, 1) := by decide +kernel
theorem dX7_again_18 : decode cX7_again 18 = .ok (.ifCond .ne 6, 3) := by decide +kernel
theorem dX7_again_21 : decode cX7_again 21 = .ok (.bipush (-3), 2) := by decide +kernel
theorem dX7_again_23 : decode cX7_again 23 = .ok (.ireturn, 1) := by decide +kernel
theorem dX7_again_24 : decode cX7_again 24 = .ok (.iconst 0, 1) := by decide +kernel
theorem dX7_again_25 : decode cX7_again 25 = .ok (.istore_n 2, 1) := by decide +kernel
theorem dX7_again_26 : decode cX7_again 26 = .ok (.iload_n 2, 1) := by decide +kernel
theorem dX7_again_27 : decode cX7_again 27 = .ok (.bipush 17, 2) := by decide +kernel
theorem dX7_again_29 : decode cX7_again 29 = .ok (.if_icmp .ge 26, 3) := by decide +kernel
theorem dX7_again_32 : decode cX7_again 32 = .ok (.aload_n 0, 1) := by decide +kernel
theorem dX7_again_33 : decode cX7_again 33 = .ok (.getfield 25, 3) := by decide +kernel
theorem dX7_again_36 : decode cX7_again 36 = .ok (.iload_n 2, 1) := by decide +kernel
theorem dX7_again_37 : decode cX7_again 37 = .ok (.aload_n 0, 1) := by decide +kernel
theorem dX7_again_38 : decode cX7_again 38 = .ok (.getfield 59, 3) := by decide +kernel
theorem dX7_again_41 : decode cX7_again 41 = .ok (.bipush 17, 2) := by decide +kernel
theorem dX7_again_43 : decode cX7_again 43 = .ok (.iload_n 1, 1) := by decide +kernel
theorem dX7_again_44 : decode cX7_again 44 = .ok (.imul, 1) := by decide +kernel
theorem dX7_again_45 : decode cX7_again 45 = .ok (.iload_n 2, 1) := by decide +kernel
theorem dX7_again_46 : decode cX7_again 46 = .ok (.iadd, 1) := by decide +kernel
theorem dX7_again_47 : decode cX7_again 47 = .ok (.iaload, 1) := by decide +kernel
theorem dX7_again_48 : decode cX7_again 48 = .ok (.iastore, 1) := by decide +kernel
theorem dX7_again_49 : decode cX7_again 49 = .ok (.iinc 2 1, 3) := by decide +kernel
theorem dX7_again_52 : decode cX7_again 52 = .ok (.goto (-26), 3) := by decide +kernel
theorem dX7_again_55 : decode cX7_again 55 = .ok (.aload_n 0, 1) := by decide +kernel
theorem dX7_again_56 : decode cX7_again 56 = .ok (.iconst 0, 1) := by decide +kernel
theorem dX7_again_57 : decode cX7_again 57 = .ok (.putfield 121, 3) := by decide +kernel
theorem dX7_again_60 : decode cX7_again 60 = .ok (.aload_n 0, 1) := by decide +kernel
theorem dX7_again_61 : decode cX7_again 61 = .ok (.getfield 25, 3) := by decide +kernel
theorem dX7_again_64 : decode cX7_again 64 = .ok (.bipush 16, 2) := by decide +kernel
theorem dX7_again_66 : decode cX7_again 66 = .ok (.iaload, 1) := by decide +kernel
theorem dX7_again_67 : decode cX7_again 67 = .ok (.ireturn, 1) := by decide +kernel
theorem dX7_count_0 : decode cX7_count 0 = .ok (.iload_n 1, 1) := by decide +kernel
theorem dX7_count_1 : decode cX7_count 1 = .ok (.tableswitch 115 0 9 #[55, 60, 65, 70, 75, 83, 90, 97, 105, 110], 55) := by decide +kernel
theorem dX7_count_56 : decode cX7_count 56 = .ok (.aload_n 0, 1) := by decide +kernel
theorem dX7_count_57 : decode cX7_count 57 = .ok (.getfield 68, 3) := by decide +kernel
theorem dX7_count_60 : decode cX7_count 60 = .ok (.ireturn, 1) := by decide +kernel
theorem dX7_count_61 : decode cX7_count 61 = .ok (.aload_n 0, 1) := by decide +kernel
theorem dX7_count_62 : decode cX7_count 62 = .ok (.getfield 108, 3) := by decide +kernel
theorem dX7_count_65 : decode cX7_count 65 = .ok (.ireturn, 1) := by decide +kernel
theorem dX7_count_66 : decode cX7_count 66 = .ok (.aload_n 0, 1) := by decide +kernel
theorem dX7_count_67 : decode cX7_count 67 = .ok (.getfield 111, 3) := by decide +kernel
theorem dX7_count_70 : decode cX7_count 70 = .ok (.ireturn, 1) := by decide +kernel
theorem dX7_count_71 : decode cX7_count 71 = .ok (.aload_n 0, 1) := by decide +kernel
theorem dX7_count_72 : decode cX7_count 72 = .ok (.getfield 114, 3) := by decide +kernel
theorem dX7_count_75 : decode cX7_count 75 = .ok (.ireturn, 1) := by decide +kernel
theorem dX7_count_76 : decode cX7_count 76 = .ok (.aload_n 0, 1) := by decide +kernel
theorem dX7_count_77 : decode cX7_count 77 = .ok (.getfield 25, 3) := by decide +kernel
theorem dX7_count_80 : decode cX7_count 80 = .ok (.bipush 16, 2) := by decide +kernel
theorem dX7_count_82 : decode cX7_count 82 = .ok (.iaload, 1) := by decide +kernel
theorem dX7_count_83 : decode cX7_count 83 = .ok (.ireturn, 1) := by decide +kernel
theorem dX7_count_84 : decode cX7_count 84 = .ok (.aload_n 0, 1) := by decide +kernel
theorem dX7_count_85 : decode cX7_count 85 = .ok (.iconst 0, 1) := by decide +kernel
theorem dX7_count_86 : decode cX7_count 86 = .ok (.iconst 0, 1) := by decide +kernel
theorem dX7_count_87 : decode cX7_count 87 = .ok (.invokevirtual 166, 3) := by decide +kernel
theorem dX7_count_90 : decode cX7_count 90 = .ok (.ireturn, 1) := by decide +kernel
theorem dX7_count_91 : decode cX7_count 91 = .ok (.aload_n 0, 1) := by decide +kernel
theorem dX7_count_92 : decode cX7_count 92 = .ok (.iconst 0, 1) := by decide +kernel
theorem dX7_count_93 : decode cX7_count 93 = .ok (.iconst 1, 1) := by decide +kernel
theorem dX7_count_94 : decode cX7_count 94 = .ok (.invokevirtual 166, 3) := by decide +kernel
theorem dX7_count_97 : decode cX7_count 97 = .ok (.ireturn, 1) := by decide +kernel
theorem dX7_count_98 : decode cX7_count 98 = .ok (.aload_n 0, 1) := by decide +kernel
theorem dX7_count_99 : decode cX7_count 99 = .ok (.getfield 25, 3) := by decide +kernel
theorem dX7_count_102 : decode cX7_count 102 = .ok (.bipush 15, 2) := by decide +kernel
theorem dX7_count_104 : decode cX7_count 104 = .ok (.iaload, 1) := by decide +kernel
theorem dX7_count_105 : decode cX7_count 105 = .ok (.ireturn, 1) := by decide +kernel
theorem dX7_count_106 : decode cX7_count 106 = .ok (.aload_n 0, 1) := by decide +kernel
theorem dX7_count_107 : decode cX7_count 107 = .ok (.getfield 121, 3) := by decide +kernel
theorem dX7_count_110 : decode cX7_count 110 = .ok (.ireturn, 1) := by decide +kernel
theorem dX7_count_111 : decode cX7_count 111 = .ok (.aload_n 0, 1) := by decide +kernel
theorem dX7_count_112 : decode cX7_count 112 = .ok (.getfield 208, 3) := by decide +kernel
theorem dX7_count_115 : decode cX7_count 115 = .ok (.ireturn, 1) := by decide +kernel
theorem dX7_count_116 : decode cX7_count 116 = .ok (.bipush (-2), 2) := by decide +kernel
theorem dX7_count_118 : decode cX7_count 118 = .ok (.ireturn, 1) := by decide +kernel
theorem dJ6_bitCount_0f7a4_0 : decode cJ6_bitCount_0f7a4 0 = .ok (.iload_n 0, 1) := by decide +kernel
theorem dJ6_bitCount_0f7a4_1 : decode cJ6_bitCount_0f7a4 1 = .ok (.iload_n 0, 1) := by decide +kernel
theorem dJ6_bitCount_0f7a4_2 : decode cJ6_bitCount_0f7a4 2 = .ok (.iconst 1, 1) := by decide +kernel
theorem dJ6_bitCount_0f7a4_3 : decode cJ6_bitCount_0f7a4 3 = .ok (.iushr, 1) := by decide +kernel
theorem dJ6_bitCount_0f7a4_4 : decode cJ6_bitCount_0f7a4 4 = .ok (.ldc_w 265, 3) := by decide +kernel
theorem dJ6_bitCount_0f7a4_7 : decode cJ6_bitCount_0f7a4 7 = .ok (.iand, 1) := by decide +kernel
theorem dJ6_bitCount_0f7a4_8 : decode cJ6_bitCount_0f7a4 8 = .ok (.isub, 1) := by decide +kernel
theorem dJ6_bitCount_0f7a4_9 : decode cJ6_bitCount_0f7a4 9 = .ok (.istore_n 0, 1) := by decide +kernel
theorem dJ6_bitCount_0f7a4_10 : decode cJ6_bitCount_0f7a4 10 = .ok (.iload_n 0, 1) := by decide +kernel
theorem dJ6_bitCount_0f7a4_11 : decode cJ6_bitCount_0f7a4 11 = .ok (.ldc_w 266, 3) := by decide +kernel
theorem dJ6_bitCount_0f7a4_14 : decode cJ6_bitCount_0f7a4 14 = .ok (.iand, 1) := by decide +kernel
theorem dJ6_bitCount_0f7a4_15 : decode cJ6_bitCount_0f7a4 15 = .ok (.iload_n 0, 1) := by decide +kernel
theorem dJ6_bitCount_0f7a4_16 : decode cJ6_bitCount_0f7a4 16 = .ok (.iconst 2, 1) := by decide +kernel
theorem dJ6_bitCount_0f7a4_17 : decode cJ6_bitCount_0f7a4 17 = .ok (.iushr, 1) := by decide +kernel
theorem dJ6_bitCount_0f7a4_18 : decode cJ6_bitCount_0f7a4 18 = .ok (.ldc_w 266, 3) := by decide +kernel
theorem dJ6_bitCount_0f7a4_21 : decode cJ6_bitCount_0f7a4 21 = .ok (.iand, 1) := by decide +kernel
theorem dJ6_bitCount_0f7a4_22 : decode cJ6_bitCount_0f7a4 22 = .ok (.iadd, 1) := by decide +kernel
theorem dJ6_bitCount_0f7a4_23 : decode cJ6_bitCount_0f7a4 23 = .ok (.istore_n 0, 1) := by decide +kernel
theorem dJ6_bitCount_0f7a4_24 : decode cJ6_bitCount_0f7a4 24 = .ok (.iload_n 0, 1) := by decide +kernel
theorem dJ6_bitCount_0f7a4_25 : decode cJ6_bitCount_0f7a4 25 = .ok (.iload_n 0, 1) := by decide +kernel
theorem dJ6_bitCount_0f7a4_26 : decode cJ6_bitCount_0f7a4 26 = .ok (.iconst 4, 1) := by decide +kernel
theorem dJ6_bitCount_0f7a4_27 : decode cJ6_bitCount_0f7a4 27 = .ok (.iushr, 1) := by decide +kernel
theorem dJ6_bitCount_0f7a4_28 : decode cJ6_bitCount_0f7a4 28 = .ok (.iadd, 1) := by decide +kernel
theorem dJ6_bitCount_0f7a4_29 : decode cJ6_bitCount_0f7a4 29 = .ok (.ldc_w 267, 3) := by decide +kernel
theorem dJ6_bitCount_0f7a4_32 : decode cJ6_bitCount_0f7a4 32 = .ok (.iand, 1) := by decide +kernel
theorem dJ6_bitCount_0f7a4_33 : decode cJ6_bitCount_0f7a4 33 = .ok (.istore_n 0, 1) := by decide +kernel
theorem dJ6_bitCount_0f7a4_34 : decode cJ6_bitCount_0f7a4 34 = .ok (.iload_n 0, 1) := by decide +kernel
theorem dJ6_bitCount_0f7a4_35 : decode cJ6_bitCount_0f7a4 35 = .ok (.iload_n 0, 1) := by decide +kernel
theorem dJ6_bitCount_0f7a4_36 : decode cJ6_bitCount_0f7a4 36 = .ok (.bipush 8, 2) := by decide +kernel
theorem dJ6_bitCount_0f7a4_38 : decode cJ6_bitCount_0f7a4 38 = .ok (.iushr, 1) := by decide +kernel
theorem dJ6_bitCount_0f7a4_39 : decode cJ6_bitCount_0f7a4 39 = .ok (.iadd, 1) := by decide +kernel
theorem dJ6_bitCount_0f7a4_40 : decode cJ6_bitCount_0f7a4 40 = .ok (.istore_n 0, 1) := by decide +kernel
theorem dJ6_bitCount_0f7a4_41 : decode cJ6_bitCount_0f7a4 41 = .ok (.iload_n 0, 1) := by decide +kernel
theorem dJ6_bitCount_0f7a4_42 : decode cJ6_bitCount_0f7a4 42 = .ok (.iload_n 0, 1) := by decide +kernel
theorem dJ6_bitCount_0f7a4_43 : decode cJ6_bitCount_0f7a4 43 = .ok (.bipush 16, 2) := by decide +kernel
theorem dJ6_bitCount_0f7a4_45 : decode cJ6_bitCount_0f7a4 45 = .ok (.iushr, 1) := by decide +kernel
theorem dJ6_bitCount_0f7a4_46 : decode cJ6_bitCount_0f7a4 46 = .ok (.iadd, 1) := by decide +kernel
theorem dJ6_bitCount_0f7a4_47 : decode cJ6_bitCount_0f7a4 47 = .ok (.istore_n 0, 1) := by decide +kernel
theorem dJ6_bitCount_0f7a4_48 : decode cJ6_bitCount_0f7a4 48 = .ok (.iload_n 0, 1) := by decide +kernel
theorem dJ6_bitCount_0f7a4_49 : decode cJ6_bitCount_0f7a4 49 = .ok (.bipush 63, 2) := by decide +kernel
theorem dJ6_bitCount_0f7a4_51 : decode cJ6_bitCount_0f7a4 51 = .ok (.iand, 1) := by decide +kernel
theorem dJ6_bitCount_0f7a4_52 : decode cJ6_bitCount_0f7a4 52 = .ok (.ireturn, 1) := by decide +kernel
theorem dJ9_floorMod_7cf53_0 : decode cJ9_floorMod_7cf53 0 = .ok (.iload_n 0, 1) := by decide +kernel
theorem dJ9_floorMod_7cf53_1 : decode cJ9_floorMod_7cf53 1 = .ok (.iload_n 1, 1) := by decide +kernel
theorem dJ9_floorMod_7cf53_2 : decode cJ9_floorMod_7cf53 2 = .ok (.irem, 1) := by decide +kernel
theorem dJ9_floorMod_7cf53_3 : decode cJ9_floorMod_7cf53 3 = .ok (.istore_n 2, 1) := by decide +kernel
theorem dJ9_floorMod_7cf53_4 : decode cJ9_floorMod_7cf53 4 = .ok (.iload_n 0, 1) := by decide +kernel
theorem dJ9_floorMod_7cf53_5 : decode cJ9_floorMod_7cf53 5 = .ok (.iload_n 1, 1) := by decide +kernel
theorem dJ9_floorMod_7cf53_6 : decode cJ9_floorMod_7cf53 6 = .ok (.ixor, 1) := by decide +kernel
theorem dJ9_floorMod_7cf53_7 : decode cJ9_floorMod_7cf53 7 = .ok (.ifCond .ge 11, 3) := by decide +kernel
theorem dJ9_floorMod_7cf53_10 : decode cJ9_floorMod_7cf53 10 = .ok (.iload_n 2, 1) := by decide +kernel
theorem dJ9_floorMod_7cf53_11 : decode cJ9_floorMod_7cf53 11 = .ok (.ifCond .eq 7, 3) := by decide +kernel
theorem dJ9_floorMod_7cf53_14 : decode cJ9_floorMod_7cf53 14 = .ok (.iload_n 2, 1) := by decide +kernel
theorem dJ9_floorMod_7cf53_15 : decode cJ9_floorMod_7cf53 15 = .ok (.iload_n 1, 1) := by decide +kernel
theorem dJ9_floorMod_7cf53_16 : decode cJ9_floorMod_7cf53 16 = .ok (.iadd, 1) := by decide +kernel
theorem dJ9_floorMod_7cf53_17 : decode cJ9_floorMod_7cf53 17 = .ok (.ireturn, 1) := by decide +kernel
theorem dJ9_floorMod_7cf53_18 : decode cJ9_floorMod_7cf53 18 = .ok (.iload_n 2, 1) := by decide +kernel
theorem dJ9_floorMod_7cf53_19 : decode cJ9_floorMod_7cf53 19 = .ok (.ireturn, 1) := by decide +kernel
theorem dJ9_abs_0f7a4_0 : decode cJ9_abs_0f7a4 0 = .ok (.iload_n 0, 1) := by decide +kernel
theorem dJ9_abs_0f7a4_1 : decode cJ9_abs_0f7a4 1 = .ok (.ifCond .ge 8, 3) := by decide +kernel
theorem dJ9_abs_0f7a4_4 : decode cJ9_abs_0f7a4 4 = .ok (.iload_n 0, 1) := by decide +kernel
theorem dJ9_abs_0f7a4_5 : decode cJ9_abs_0f7a4 5 = .ok (.ineg, 1) := by decide +kernel
theorem dJ9_abs_0f7a4_6 : decode cJ9_abs_0f7a4 6 = .ok (.goto 4, 3) := by decide +kernel
theorem dJ9_abs_0f7a4_9 : decode cJ9_abs_0f7a4 9 = .ok (.iload_n 0, 1) := by decide +kernel
theorem dJ9_abs_0f7a4_10 : decode cJ9_abs_0f7a4 10 = .ok (.ireturn, 1) := by decide +kernel
theorem dJ9_min_7cf53_0 : decode cJ9_min_7cf53 0 = .ok (.iload_n 0, 1) := by decide +kernel
theorem dJ9_min_7cf53_1 : decode cJ9_min_7cf53 1 = .ok (.iload_n 1, 1) := by decide +kernel
theorem dJ9_min_7cf53_2 : decode cJ9_min_7cf53 2 = .ok (.if_icmp .gt 7, 3) := by decide +kernel
theorem dJ9_min_7cf53_5 : decode cJ9_min_7cf53 5 = .ok (.iload_n 0, 1) := by decide +kernel
theorem dJ9_min_7cf53_6 : decode cJ9_min_7cf53 6 = .ok (.goto 4, 3) := by decide +kernel
theorem dJ9_min_7cf53_9 : decode cJ9_min_7cf53 9 = .ok (.iload_n 1, 1) := by decide +kernel
theorem dJ9_min_7cf53_10 : decode cJ9_min_7cf53 10 = .ok (.ireturn, 1) := by decide +kernel
theorem dL_law_0 : decode cL_law 0 = .ok (.new 7, 3) := by decide +kernel
theorem dL_law_3 : decode cL_law 3 = .ok (.dup, 1) := by decide +kernel
theorem dL_law_4 : decode cL_law 4 = .ok (.invokespecial 9, 3) := by decide +kernel
theorem dL_law_7 : decode cL_law 7 = .ok (.astore_n 1, 1) := by decide +kernel
theorem dL_law_8 : decode cL_law 8 = .ok (.new 10, 3) := by decide +kernel
theorem dL_law_11 : decode cL_law 11 = .ok (.dup, 1) := by decide +kernel
theorem dL_law_12 : decode cL_law 12 = .ok (.invokespecial 12, 3) := by decide +kernel
theorem dL_law_15 : decode cL_law 15 = .ok (.astore_n 2, 1) := by decide +kernel
theorem dL_law_16 : decode cL_law 16 = .ok (.iconst 0, 1) := by decide +kernel
theorem dL_law_17 : decode cL_law 17 = .ok (.istore_n 3, 1) := by decide +kernel
theorem dL_law_18 : decode cL_law 18 = .ok (.iload_n 3, 1) := by decide +kernel
theorem dL_law_19 : decode cL_law 19 = .ok (.aload_n 0, 1) := by decide +kernel
theorem dL_law_20 : decode cL_law 20 = .ok (.arraylength, 1) := by decide +kernel
theorem dL_law_21 : decode cL_law 21 = .ok (.iconst 5, 1) := by decide +kernel
theorem dL_law_22 : decode cL_law 22 = .ok (.isub, 1) := by decide +kernel
theorem dL_law_23 : decode cL_law 23 = .ok (.if_icmp .gt 1014, 3) := by decide +kernel
theorem dL_law_26 : decode cL_law 26 = .ok (.aload_n 0, 1) := by decide +kernel
theorem dL_law_27 : decode cL_law 27 = .ok (.iload_n 3, 1) := by decide +kernel
theorem dL_law_28 : decode cL_law 28 = .ok (.iaload, 1) := by decide +kernel
theorem dL_law_29 : decode cL_law 29 = .ok (.bipush 31, 2) := by decide +kernel
theorem dL_law_31 : decode cL_law 31 = .ok (.iand, 1) := by decide +kernel
theorem dL_law_32 : decode cL_law 32 = .ok (.tableswitch 999 0 29 #[136, 159, 172, 185, 198, 231, 264, 297, 310, 343, 366, 399, 422, 435, 468, 491, 504, 537, 560, 623, 656, 669, 692, 741, 784, 853, 907, 930, 953, 976], 136) := by decide +kernel
theorem dL_law_168 : decode cL_law 168 = .ok (.aload_n 1, 1) := by decide +kernel
theorem dL_law_169 : decode cL_law 169 = .ok (.aload_n 0, 1) := by decide +kernel
theorem dL_law_170 : decode cL_law 170 = .ok (.iload_n 3, 1) := by decide +kernel
theorem dL_law_171 : decode cL_law 171 = .ok (.iconst 1, 1) := by decide +kernel
theorem dL_law_172 : decode cL_law 172 = .ok (.iadd, 1) := by decide +kernel
theorem dL_law_173 : decode cL_law 173 = .ok (.iaload, 1) := by decide +kernel
theorem dL_law_174 : decode cL_law 174 = .ok (.invokevirtual 13, 3) := by decide +kernel
theorem dL_law_177 : decode cL_law 177 = .ok (.aload_n 2, 1) := by decide +kernel
theorem dL_law_178 : decode cL_law 178 = .ok (.aload_n 0, 1) := by decide +kernel
theorem dL_law_179 : decode cL_law 179 = .ok (.iload_n 3, 1) := by decide +kernel
theorem dL_law_180 : decode cL_law 180 = .ok (.iconst 1, 1) := by decide +kernel
theorem dL_law_181 : decode cL_law 181 = .ok (.iadd, 1) := by decide +kernel
theorem dL_law_182 : decode cL_law 182 = .ok (.iaload, 1) := by decide +kernel
theorem dL_law_183 : decode cL_law 183 = .ok (.invokevirtual 17, 3) := by decide +kernel
theorem dL_law_186 : decode cL_law 186 = .ok (.if_icmp .eq 845, 3) := by decide +kernel
theorem dL_law_189 : decode cL_law 189 = .ok (.iconst 0, 1) := by decide +kernel
theorem dL_law_190 : decode cL_law 190 = .ok (.ireturn, 1) := by decide +kernel
theorem dL_law_191 : decode cL_law 191 = .ok (.aload_n 1, 1) := by decide +kernel
theorem dL_law_192 : decode cL_law 192 = .ok (.invokevirtual 18, 3) := by decide +kernel
theorem dL_law_195 : decode cL_law 195 = .ok (.aload_n 2, 1) := by decide +kernel
theorem dL_law_196 : decode cL_law 196 = .ok (.invokevirtual 22, 3) := by decide +kernel
theorem dL_law_199 : decode cL_law 199 = .ok (.if_icmp .eq 832, 3) := by decide +kernel
theorem dL_law_202 : decode cL_law 202 = .ok (.iconst 0, 1) := by decide +kernel
theorem dL_law_203 : decode cL_law 203 = .ok (.ireturn, 1) := by decide +kernel
theorem dL_law_204 : decode cL_law 204 = .ok (.aload_n 1, 1) := by decide +kernel
theorem dL_law_205 : decode cL_law 205 = .ok (.invokevirtual 23, 3) := by decide +kernel
theorem dL_law_208 : decode cL_law 208 = .ok (.aload_n 2, 1) := by decide +kernel
theorem dL_law_209 : decode cL_law 209 = .ok (.invokevirtual 26, 3) := by decide +kernel
theorem dL_law_212 : decode cL_law 212 = .ok (.if_icmp .eq 819, 3) := by decide +kernel
theorem dL_law_215 : decode cL_law 215 = .ok (.iconst 0, 1) := by decide +kernel
theorem dL_law_216 : decode cL_law 216 = .ok (.ireturn, 1) := by decide +kernel
theorem dL_law_217 : decode cL_law 217 = .ok (.aload_n 1, 1) := by decide +kernel
theorem dL_law_218 : decode cL_law 218 = .ok (.invokevirtual 27, 3) := by decide +kernel
theorem dL_law_221 : decode cL_law 221 = .ok (.aload_n 2, 1) := by decide +kernel
theorem dL_law_222 : decode cL_law 222 = .ok (.invokevirtual 30, 3) := by decide +kernel
theorem dL_law_225 : decode cL_law 225 = .ok (.if_icmp .eq 806, 3) := by decide +kernel
theorem dL_law_228 : decode cL_law 228 = .ok (.iconst 0, 1) := by decide +kernel
theorem dL_law_229 : decode cL_law 229 = .ok (.ireturn, 1) := by decide +kernel
theorem dL_law_230 : decode cL_law 230 = .ok (.aload_n 1, 1) := by decide +kernel
theorem dL_law_231 : decode cL_law 231 = .ok (.aload_n 0, 1) := by decide +kernel
theorem dL_law_232 : decode cL_law 232 = .ok (.iload_n 3, 1) := by decide +kernel
theorem dL_law_233 : decode cL_law 233 = .ok (.iconst 1, 1) := by decide +kernel
theorem dL_law_234 : decode cL_law 234 = .ok (.iadd, 1) := by decide +kernel
theorem dL_law_235 : decode cL_law 235 = .ok (.iaload, 1) := by decide +kernel
theorem dL_law_236 : decode cL_law 236 = .ok (.aload_n 0, 1) := by decide +kernel
theorem dL_law_237 : decode cL_law 237 = .ok (.iload_n 3, 1) := by decide +kernel
theorem dL_law_238 : decode cL_law 238 = .ok (.iconst 2, 1) := by decide +kernel
theorem dL_law_239 : decode cL_law 239 = .ok (.iadd, 1) := by decide +kernel
theorem dL_law_240 : decode cL_law 240 = .ok (.iaload, 1) := by decide +kernel
theorem dL_law_241 : decode cL_law 241 = .ok (.invokevirtual 31, 3) := by decide +kernel
theorem dL_law_244 : decode cL_law 244 = .ok (.aload_n 2, 1) := by decide +kernel
theorem dL_law_245 : decode cL_law 245 = .ok (.aload_n 0, 1) := by decide +kernel
theorem dL_law_246 : decode cL_law 246 = .ok (.iload_n 3, 1) := by decide +kernel
theorem dL_law_247 : decode cL_law 247 = .ok (.iconst 1, 1) := by decide +kernel
theorem dL_law_248 : decode cL_law 248 = .ok (.iadd, 1) := by decide +kernel
theorem dL_law_249 : decode cL_law 249 = .ok (.iaload, 1) := by decide +kernel
theorem dL_law_250 : decode cL_law 250 = .ok (.aload_n 0, 1) := by decide +kernel
theorem dL_law_251 : decode cL_law 251 = .ok (.iload_n 3, 1) := by decide +kernel
theorem dL_law_252 : decode cL_law 252 = .ok (.iconst 2, 1) := by decide +kernel
theorem dL_law_253 : decode cL_law 253 = .ok (.iadd, 1) := by decide +kernel
theorem dL_law_254 : decode cL_law 254 = .ok (.iaload, 1) := by decide +kernel
theorem dL_law_255 : decode cL_law 255 = .ok (.invokevirtual 35, 3) := by decide +kernel
theorem dL_law_258 : decode cL_law 258 = .ok (.if_icmp .eq 773, 3) := by decide +kernel
theorem dL_law_261 : decode cL_law 261 = .ok (.iconst 0, 1) := by decide +kernel
theorem dL_law_262 : decode cL_law 262 = .ok (.ireturn, 1) := by decide +kernel
theorem dL_law_263 : decode cL_law 263 = .ok (.aload_n 1, 1) := by decide +kernel
theorem dL_law_264 : decode cL_law 264 = .ok (.aload_n 0, 1) := by decide +kernel
theorem dL_law_265 : decode cL_law 265 = .ok (.iload_n 3, 1) := by decide +kernel
theorem dL_law_266 : decode cL_law 266 = .ok (.iconst 1, 1) := by decide +kernel
theorem dL_law_267 : decode cL_law 267 = .ok (.iadd, 1) := by decide +kernel
theorem dL_law_268 : decode cL_law 268 = .ok (.iaload, 1) := by decide +kernel
theorem dL_law_269 : decode cL_law 269 = .ok (.aload_n 0, 1) := by decide +kernel
theorem dL_law_270 : decode cL_law 270 = .ok (.iload_n 3, 1) := by decide +kernel
theorem dL_law_271 : decode cL_law 271 = .ok (.iconst 2, 1) := by decide +kernel
theorem dL_law_272 : decode cL_law 272 = .ok (.iadd, 1) := by decide +kernel
theorem dL_law_273 : decode cL_law 273 = .ok (.iaload, 1) := by decide +kernel
theorem dL_law_274 : decode cL_law 274 = .ok (.invokevirtual 36, 3) := by decide +kernel
theorem dL_law_277 : decode cL_law 277 = .ok (.aload_n 2, 1) := by decide +kernel
theorem dL_law_278 : decode cL_law 278 = .ok (.aload_n 0, 1) := by decide +kernel
theorem dL_law_279 : decode cL_law 279 = .ok (.iload_n 3, 1) := by decide +kernel
theorem dL_law_280 : decode cL_law 280 = .ok (.iconst 1, 1) := by decide +kernel
theorem dL_law_281 : decode cL_law 281 = .ok (.iadd, 1) := by decide +kernel
theorem dL_law_282 : decode cL_law 282 = .ok (.iaload, 1) := by decide +kernel
theorem dL_law_283 : decode cL_law 283 = .ok (.aload_n 0, 1) := by decide +kernel
theorem dL_law_284 : decode cL_law 284 = .ok (.iload_n 3, 1) := by decide +kernel
theorem dL_law_285 : decode cL_law 285 = .ok (.iconst 2, 1) := by decide +kernel
theorem dL_law_286 : decode cL_law 286 = .ok (.iadd, 1) := by decide +kernel
theorem dL_law_287 : decode cL_law 287 = .ok (.iaload, 1) := by decide +kernel
theorem dL_law_288 : decode cL_law 288 = .ok (.invokevirtual 39, 3) := by decide +kernel
theorem dL_law_291 : decode cL_law 291 = .ok (.if_icmp .eq 740, 3) := by decide +kernel
theorem dL_law_294 : decode cL_law 294 = .ok (.iconst 0, 1) := by decide +kernel
theorem dL_law_295 : decode cL_law 295 = .ok (.ireturn, 1) := by decide +kernel
theorem dL_law_296 : decode cL_law 296 = .ok (.aload_n 1, 1) := by decide +kernel
theorem dL_law_297 : decode cL_law 297 = .ok (.aload_n 0, 1) := by decide +kernel
theorem dL_law_298 : decode cL_law 298 = .ok (.iload_n 3, 1) := by decide +kernel
theorem dL_law_299 : decode cL_law 299 = .ok (.iconst 1, 1) := by decide +kernel
theorem dL_law_300 : decode cL_law 300 = .ok (.iadd, 1) := by decide +kernel
theorem dL_law_301 : decode cL_law 301 = .ok (.iaload, 1) := by decide +kernel
theorem dL_law_302 : decode cL_law 302 = .ok (.aload_n 0, 1) := by decide +kernel
theorem dL_law_303 : decode cL_law 303 = .ok (.iload_n 3, 1) := by decide +kernel
theorem dL_law_304 : decode cL_law 304 = .ok (.iconst 2, 1) := by decide +kernel
theorem dL_law_305 : decode cL_law 305 = .ok (.iadd, 1) := by decide +kernel
theorem dL_law_306 : decode cL_law 306 = .ok (.iaload, 1) := by decide +kernel
theorem dL_law_307 : decode cL_law 307 = .ok (.invokevirtual 40, 3) := by decide +kernel
theorem dL_law_310 : decode cL_law 310 = .ok (.aload_n 2, 1) := by decide +kernel
theorem dL_law_311 : decode cL_law 311 = .ok (.aload_n 0, 1) := by decide +kernel
theorem dL_law_312 : decode cL_law 312 = .ok (.iload_n 3, 1) := by decide +kernel
theorem dL_law_313 : decode cL_law 313 = .ok (.iconst 1, 1) := by decide +kernel
theorem dL_law_314 : decode cL_law 314 = .ok (.iadd, 1) := by decide +kernel
theorem dL_law_315 : decode cL_law 315 = .ok (.iaload, 1) := by decide +kernel
theorem dL_law_316 : decode cL_law 316 = .ok (.aload_n 0, 1) := by decide +kernel
theorem dL_law_317 : decode cL_law 317 = .ok (.iload_n 3, 1) := by decide +kernel
theorem dL_law_318 : decode cL_law 318 = .ok (.iconst 2, 1) := by decide +kernel
theorem dL_law_319 : decode cL_law 319 = .ok (.iadd, 1) := by decide +kernel
theorem dL_law_320 : decode cL_law 320 = .ok (.iaload, 1) := by decide +kernel
theorem dL_law_321 : decode cL_law 321 = .ok (.invokevirtual 43, 3) := by decide +kernel
theorem dL_law_324 : decode cL_law 324 = .ok (.if_icmp .eq 707, 3) := by decide +kernel
theorem dL_law_327 : decode cL_law 327 = .ok (.iconst 0, 1) := by decide +kernel
theorem dL_law_328 : decode cL_law 328 = .ok (.ireturn, 1) := by decide +kernel
theorem dL_law_329 : decode cL_law 329 = .ok (.aload_n 1, 1) := by decide +kernel
theorem dL_law_330 : decode cL_law 330 = .ok (.invokevirtual 44, 3) := by decide +kernel
theorem dL_law_333 : decode cL_law 333 = .ok (.aload_n 2, 1) := by decide +kernel
theorem dL_law_334 : decode cL_law 334 = .ok (.invokevirtual 47, 3) := by decide +kernel
theorem dL_law_337 : decode cL_law 337 = .ok (.if_icmp .eq 694, 3) := by decide +kernel
theorem dL_law_340 : decode cL_law 340 = .ok (.iconst 0, 1) := by decide +kernel
theorem dL_law_341 : decode cL_law 341 = .ok (.ireturn, 1) := by decide +kernel
theorem dL_law_342 : decode cL_law 342 = .ok (.aload_n 1, 1) := by decide +kernel
theorem dL_law_343 : decode cL_law 343 = .ok (.aload_n 0, 1) := by decide +kernel
theorem dL_law_344 : decode cL_law 344 = .ok (.iload_n 3, 1) := by decide +kernel
theorem dL_law_345 : decode cL_law 345 = .ok (.iconst 1, 1) := by decide +kernel
theorem dL_law_346 : decode cL_law 346 = .ok (.iadd, 1) := by decide +kernel
theorem dL_law_347 : decode cL_law 347 = .ok (.iaload, 1) := by decide +kernel
theorem dL_law_348 : decode cL_law 348 = .ok (.aload_n 0, 1) := by decide +kernel
theorem dL_law_349 : decode cL_law 349 = .ok (.iload_n 3, 1) := by decide +kernel
theorem dL_law_350 : decode cL_law 350 = .ok (.iconst 2, 1) := by decide +kernel
theorem dL_law_351 : decode cL_law 351 = .ok (.iadd, 1) := by decide +kernel
theorem dL_law_352 : decode cL_law 352 = .ok (.iaload, 1) := by decide +kernel
theorem dL_law_353 : decode cL_law 353 = .ok (.invokevirtual 48, 3) := by decide +kernel
theorem dL_law_356 : decode cL_law 356 = .ok (.aload_n 2, 1) := by decide +kernel
theorem dL_law_357 : decode cL_law 357 = .ok (.aload_n 0, 1) := by decide +kernel
theorem dL_law_358 : decode cL_law 358 = .ok (.iload_n 3, 1) := by decide +kernel
theorem dL_law_359 : decode cL_law 359 = .ok (.iconst 1, 1) := by decide +kernel
theorem dL_law_360 : decode cL_law 360 = .ok (.iadd, 1) := by decide +kernel
theorem dL_law_361 : decode cL_law 361 = .ok (.iaload, 1) := by decide +kernel
theorem dL_law_362 : decode cL_law 362 = .ok (.aload_n 0, 1) := by decide +kernel
theorem dL_law_363 : decode cL_law 363 = .ok (.iload_n 3, 1) := by decide +kernel
theorem dL_law_364 : decode cL_law 364 = .ok (.iconst 2, 1) := by decide +kernel
theorem dL_law_365 : decode cL_law 365 = .ok (.iadd, 1) := by decide +kernel
theorem dL_law_366 : decode cL_law 366 = .ok (.iaload, 1) := by decide +kernel
theorem dL_law_367 : decode cL_law 367 = .ok (.invokevirtual 51, 3) := by decide +kernel
theorem dL_law_370 : decode cL_law 370 = .ok (.if_icmp .eq 661, 3) := by decide +kernel
theorem dL_law_373 : decode cL_law 373 = .ok (.iconst 0, 1) := by decide +kernel
theorem dL_law_374 : decode cL_law 374 = .ok (.ireturn, 1) := by decide +kernel
theorem dL_law_375 : decode cL_law 375 = .ok (.aload_n 1, 1) := by decide +kernel
theorem dL_law_376 : decode cL_law 376 = .ok (.aload_n 0, 1) := by decide +kernel
theorem dL_law_377 : decode cL_law 377 = .ok (.iload_n 3, 1) := by decide +kernel
theorem dL_law_378 : decode cL_law 378 = .ok (.iconst 1, 1) := by decide +kernel
theorem dL_law_379 : decode cL_law 379 = .ok (.iadd, 1) := by decide +kernel
theorem dL_law_380 : decode cL_law 380 = .ok (.iaload, 1) := by decide +kernel
theorem dL_law_381 : decode cL_law 381 = .ok (.invokevirtual 52, 3) := by decide +kernel
theorem dL_law_384 : decode cL_law 384 = .ok (.aload_n 2, 1) := by decide +kernel
theorem dL_law_385 : decode cL_law 385 = .ok (.aload_n 0, 1) := by decide +kernel
theorem dL_law_386 : decode cL_law 386 = .ok (.iload_n 3, 1) := by decide +kernel
theorem dL_law_387 : decode cL_law 387 = .ok (.iconst 1, 1) := by decide +kernel
theorem dL_law_388 : decode cL_law 388 = .ok (.iadd, 1) := by decide +kernel
theorem dL_law_389 : decode cL_law 389 = .ok (.iaload, 1) := by decide +kernel
theorem dL_law_390 : decode cL_law 390 = .ok (.invokevirtual 55, 3) := by decide +kernel
theorem dL_law_393 : decode cL_law 393 = .ok (.if_icmp .eq 638, 3) := by decide +kernel
theorem dL_law_396 : decode cL_law 396 = .ok (.iconst 0, 1) := by decide +kernel
theorem dL_law_397 : decode cL_law 397 = .ok (.ireturn, 1) := by decide +kernel
theorem dL_law_398 : decode cL_law 398 = .ok (.aload_n 1, 1) := by decide +kernel
theorem dL_law_399 : decode cL_law 399 = .ok (.aload_n 0, 1) := by decide +kernel
theorem dL_law_400 : decode cL_law 400 = .ok (.iload_n 3, 1) := by decide +kernel
theorem dL_law_401 : decode cL_law 401 = .ok (.iconst 1, 1) := by decide +kernel
theorem dL_law_402 : decode cL_law 402 = .ok (.iadd, 1) := by decide +kernel
theorem dL_law_403 : decode cL_law 403 = .ok (.iaload, 1) := by decide +kernel
theorem dL_law_404 : decode cL_law 404 = .ok (.aload_n 0, 1) := by decide +kernel
theorem dL_law_405 : decode cL_law 405 = .ok (.iload_n 3, 1) := by decide +kernel
theorem dL_law_406 : decode cL_law 406 = .ok (.iconst 2, 1) := by decide +kernel
theorem dL_law_407 : decode cL_law 407 = .ok (.iadd, 1) := by decide +kernel
theorem dL_law_408 : decode cL_law 408 = .ok (.iaload, 1) := by decide +kernel
theorem dL_law_409 : decode cL_law 409 = .ok (.invokevirtual 56, 3) := by decide +kernel
theorem dL_law_412 : decode cL_law 412 = .ok (.aload_n 2, 1) := by decide +kernel
theorem dL_law_413 : decode cL_law 413 = .ok (.aload_n 0, 1) := by decide +kernel
theorem dL_law_414 : decode cL_law 414 = .ok (.iload_n 3, 1) := by decide +kernel
theorem dL_law_415 : decode cL_law 415 = .ok (.iconst 1, 1) := by decide +kernel
theorem dL_law_416 : decode cL_law 416 = .ok (.iadd, 1) := by decide +kernel
theorem dL_law_417 : decode cL_law 417 = .ok (.iaload, 1) := by decide +kernel
theorem dL_law_418 : decode cL_law 418 = .ok (.aload_n 0, 1) := by decide +kernel
theorem dL_law_419 : decode cL_law 419 = .ok (.iload_n 3, 1) := by decide +kernel
theorem dL_law_420 : decode cL_law 420 = .ok (.iconst 2, 1) := by decide +kernel
theorem dL_law_421 : decode cL_law 421 = .ok (.iadd, 1) := by decide +kernel
theorem dL_law_422 : decode cL_law 422 = .ok (.iaload, 1) := by decide +kernel
theorem dL_law_423 : decode cL_law 423 = .ok (.invokevirtual 59, 3) := by decide +kernel
theorem dL_law_426 : decode cL_law 426 = .ok (.if_icmp .eq 605, 3) := by decide +kernel
theorem dL_law_429 : decode cL_law 429 = .ok (.iconst 0, 1) := by decide +kernel
theorem dL_law_430 : decode cL_law 430 = .ok (.ireturn, 1) := by decide +kernel
theorem dL_law_431 : decode cL_law 431 = .ok (.aload_n 1, 1) := by decide +kernel
theorem dL_law_432 : decode cL_law 432 = .ok (.aload_n 0, 1) := by decide +kernel
theorem dL_law_433 : decode cL_law 433 = .ok (.iload_n 3, 1) := by decide +kernel
theorem dL_law_434 : decode cL_law 434 = .ok (.iconst 1, 1) := by decide +kernel
theorem dL_law_435 : decode cL_law 435 = .ok (.iadd, 1) := by decide +kernel
theorem dL_law_436 : decode cL_law 436 = .ok (.iaload, 1) := by decide +kernel
theorem dL_law_437 : decode cL_law 437 = .ok (.invokevirtual 60, 3) := by decide +kernel
theorem dL_law_440 : decode cL_law 440 = .ok (.aload_n 2, 1) := by decide +kernel
theorem dL_law_441 : decode cL_law 441 = .ok (.aload_n 0, 1) := by decide +kernel
theorem dL_law_442 : decode cL_law 442 = .ok (.iload_n 3, 1) := by decide +kernel
theorem dL_law_443 : decode cL_law 443 = .ok (.iconst 1, 1) := by decide +kernel
theorem dL_law_444 : decode cL_law 444 = .ok (.iadd, 1) := by decide +kernel
theorem dL_law_445 : decode cL_law 445 = .ok (.iaload, 1) := by decide +kernel
theorem dL_law_446 : decode cL_law 446 = .ok (.invokevirtual 63, 3) := by decide +kernel
theorem dL_law_449 : decode cL_law 449 = .ok (.if_icmp .eq 582, 3) := by decide +kernel
theorem dL_law_452 : decode cL_law 452 = .ok (.iconst 0, 1) := by decide +kernel
theorem dL_law_453 : decode cL_law 453 = .ok (.ireturn, 1) := by decide +kernel
theorem dL_law_454 : decode cL_law 454 = .ok (.aload_n 1, 1) := by decide +kernel
theorem dL_law_455 : decode cL_law 455 = .ok (.invokevirtual 64, 3) := by decide +kernel
theorem dL_law_458 : decode cL_law 458 = .ok (.aload_n 2, 1) := by decide +kernel
theorem dL_law_459 : decode cL_law 459 = .ok (.invokevirtual 67, 3) := by decide +kernel
theorem dL_law_462 : decode cL_law 462 = .ok (.if_icmp .eq 569, 3) := by decide +kernel
theorem dL_law_465 : decode cL_law 465 = .ok (.iconst 0, 1) := by decide +kernel
theorem dL_law_466 : decode cL_law 466 = .ok (.ireturn, 1) := by decide +kernel
theorem dL_law_467 : decode cL_law 467 = .ok (.aload_n 1, 1) := by decide +kernel
theorem dL_law_468 : decode cL_law 468 = .ok (.aload_n 0, 1) := by decide +kernel
theorem dL_law_469 : decode cL_law 469 = .ok (.iload_n 3, 1) := by decide +kernel
theorem dL_law_470 : decode cL_law 470 = .ok (.iconst 1, 1) := by decide +kernel
theorem dL_law_471 : decode cL_law 471 = .ok (.iadd, 1) := by decide +kernel
theorem dL_law_472 : decode cL_law 472 = .ok (.iaload, 1) := by decide +kernel
theorem dL_law_473 : decode cL_law 473 = .ok (.aload_n 0, 1) := by decide +kernel
theorem dL_law_474 : decode cL_law 474 = .ok (.iload_n 3, 1) := by decide +kernel
theorem dL_law_475 : decode cL_law 475 = .ok (.iconst 2, 1) := by decide +kernel
theorem dL_law_476 : decode cL_law 476 = .ok (.iadd, 1) := by decide +kernel
theorem dL_law_477 : decode cL_law 477 = .ok (.iaload, 1) := by decide +kernel
theorem dL_law_478 : decode cL_law 478 = .ok (.invokevirtual 68, 3) := by decide +kernel
theorem dL_law_481 : decode cL_law 481 = .ok (.aload_n 2, 1) := by decide +kernel
theorem dL_law_482 : decode cL_law 482 = .ok (.aload_n 0, 1) := by decide +kernel
theorem dL_law_483 : decode cL_law 483 = .ok (.iload_n 3, 1) := by decide +kernel
theorem dL_law_484 : decode cL_law 484 = .ok (.iconst 1, 1) := by decide +kernel
theorem dL_law_485 : decode cL_law 485 = .ok (.iadd, 1) := by decide +kernel
theorem dL_law_486 : decode cL_law 486 = .ok (.iaload, 1) := by decide +kernel
theorem dL_law_487 : decode cL_law 487 = .ok (.aload_n 0, 1) := by decide +kernel
theorem dL_law_488 : decode cL_law 488 = .ok (.iload_n 3, 1) := by decide +kernel
theorem dL_law_489 : decode cL_law 489 = .ok (.iconst 2, 1) := by decide +kernel
theorem dL_law_490 : decode cL_law 490 = .ok (.iadd, 1) := by decide +kernel
theorem dL_law_491 : decode cL_law 491 = .ok (.iaload, 1) := by decide +kernel
theorem dL_law_492 : decode cL_law 492 = .ok (.invokevirtual 71, 3) := by decide +kernel
theorem dL_law_495 : decode cL_law 495 = .ok (.if_icmp .eq 536, 3) := by decide +kernel
theorem dL_law_498 : decode cL_law 498 = .ok (.iconst 0, 1) := by decide +kernel
theorem dL_law_499 : decode cL_law 499 = .ok (.ireturn, 1) := by decide +kernel
theorem dL_law_500 : decode cL_law 500 = .ok (.aload_n 1, 1) := by decide +kernel
theorem dL_law_501 : decode cL_law 501 = .ok (.aload_n 0, 1) := by decide +kernel
theorem dL_law_502 : decode cL_law 502 = .ok (.iload_n 3, 1) := by decide +kernel
theorem dL_law_503 : decode cL_law 503 = .ok (.iconst 1, 1) := by decide +kernel
theorem dL_law_504 : decode cL_law 504 = .ok (.iadd, 1) := by decide +kernel
theorem dL_law_505 : decode cL_law 505 = .ok (.iaload, 1) := by decide +kernel
theorem dL_law_506 : decode cL_law 506 = .ok (.invokevirtual 72, 3) := by decide +kernel
theorem dL_law_509 : decode cL_law 509 = .ok (.aload_n 2, 1) := by decide +kernel
theorem dL_law_510 : decode cL_law 510 = .ok (.aload_n 0, 1) := by decide +kernel
theorem dL_law_511 : decode cL_law 511 = .ok (.iload_n 3, 1) := by decide +kernel
theorem dL_law_512 : decode cL_law 512 = .ok (.iconst 1, 1) := by decide +kernel
theorem dL_law_513 : decode cL_law 513 = .ok (.iadd, 1) := by decide +kernel
theorem dL_law_514 : decode cL_law 514 = .ok (.iaload, 1) := by decide +kernel
theorem dL_law_515 : decode cL_law 515 = .ok (.invokevirtual 75, 3) := by decide +kernel
theorem dL_law_518 : decode cL_law 518 = .ok (.if_icmp .eq 513, 3) := by decide +kernel
theorem dL_law_521 : decode cL_law 521 = .ok (.iconst 0, 1) := by decide +kernel
theorem dL_law_522 : decode cL_law 522 = .ok (.ireturn, 1) := by decide +kernel
theorem dL_law_523 : decode cL_law 523 = .ok (.aload_n 1, 1) := by decide +kernel
theorem dL_law_524 : decode cL_law 524 = .ok (.invokevirtual 76, 3) := by decide +kernel
theorem dL_law_527 : decode cL_law 527 = .ok (.aload_n 2, 1) := by decide +kernel
theorem dL_law_528 : decode cL_law 528 = .ok (.invokevirtual 79, 3) := by decide +kernel
theorem dL_law_531 : decode cL_law 531 = .ok (.if_icmp .eq 500, 3) := by decide +kernel
theorem dL_law_534 : decode cL_law 534 = .ok (.iconst 0, 1) := by decide +kernel
theorem dL_law_535 : decode cL_law 535 = .ok (.ireturn, 1) := by decide +kernel
theorem dL_law_536 : decode cL_law 536 = .ok (.aload_n 1, 1) := by decide +kernel
theorem dL_law_537 : decode cL_law 537 = .ok (.aload_n 0, 1) := by decide +kernel
theorem dL_law_538 : decode cL_law 538 = .ok (.iload_n 3, 1) := by decide +kernel
theorem dL_law_539 : decode cL_law 539 = .ok (.iconst 1, 1) := by decide +kernel
theorem dL_law_540 : decode cL_law 540 = .ok (.iadd, 1) := by decide +kernel
theorem dL_law_541 : decode cL_law 541 = .ok (.iaload, 1) := by decide +kernel
theorem dL_law_542 : decode cL_law 542 = .ok (.aload_n 0, 1) := by decide +kernel
theorem dL_law_543 : decode cL_law 543 = .ok (.iload_n 3, 1) := by decide +kernel
theorem dL_law_544 : decode cL_law 544 = .ok (.iconst 2, 1) := by decide +kernel
theorem dL_law_545 : decode cL_law 545 = .ok (.iadd, 1) := by decide +kernel
theorem dL_law_546 : decode cL_law 546 = .ok (.iaload, 1) := by decide +kernel
theorem dL_law_547 : decode cL_law 547 = .ok (.invokevirtual 80, 3) := by decide +kernel
theorem dL_law_550 : decode cL_law 550 = .ok (.aload_n 2, 1) := by decide +kernel
theorem dL_law_551 : decode cL_law 551 = .ok (.aload_n 0, 1) := by decide +kernel
theorem dL_law_552 : decode cL_law 552 = .ok (.iload_n 3, 1) := by decide +kernel
theorem dL_law_553 : decode cL_law 553 = .ok (.iconst 1, 1) := by decide +kernel
theorem dL_law_554 : decode cL_law 554 = .ok (.iadd, 1) := by decide +kernel
theorem dL_law_555 : decode cL_law 555 = .ok (.iaload, 1) := by decide +kernel
theorem dL_law_556 : decode cL_law 556 = .ok (.aload_n 0, 1) := by decide +kernel
theorem dL_law_557 : decode cL_law 557 = .ok (.iload_n 3, 1) := by decide +kernel
theorem dL_law_558 : decode cL_law 558 = .ok (.iconst 2, 1) := by decide +kernel
theorem dL_law_559 : decode cL_law 559 = .ok (.iadd, 1) := by decide +kernel
theorem dL_law_560 : decode cL_law 560 = .ok (.iaload, 1) := by decide +kernel
theorem dL_law_561 : decode cL_law 561 = .ok (.invokevirtual 83, 3) := by decide +kernel
theorem dL_law_564 : decode cL_law 564 = .ok (.if_icmp .eq 467, 3) := by decide +kernel
theorem dL_law_567 : decode cL_law 567 = .ok (.iconst 0, 1) := by decide +kernel
theorem dL_law_568 : decode cL_law 568 = .ok (.ireturn, 1) := by decide +kernel
theorem dL_law_569 : decode cL_law 569 = .ok (.aload_n 1, 1) := by decide +kernel
theorem dL_law_570 : decode cL_law 570 = .ok (.aload_n 0, 1) := by decide +kernel
theorem dL_law_571 : decode cL_law 571 = .ok (.iload_n 3, 1) := by decide +kernel
theorem dL_law_572 : decode cL_law 572 = .ok (.iconst 1, 1) := by decide +kernel
theorem dL_law_573 : decode cL_law 573 = .ok (.iadd, 1) := by decide +kernel
theorem dL_law_574 : decode cL_law 574 = .ok (.iaload, 1) := by decide +kernel
theorem dL_law_575 : decode cL_law 575 = .ok (.invokevirtual 84, 3) := by decide +kernel
theorem dL_law_578 : decode cL_law 578 = .ok (.aload_n 2, 1) := by decide +kernel
theorem dL_law_579 : decode cL_law 579 = .ok (.aload_n 0, 1) := by decide +kernel
theorem dL_law_580 : decode cL_law 580 = .ok (.iload_n 3, 1) := by decide +kernel
theorem dL_law_581 : decode cL_law 581 = .ok (.iconst 1, 1) := by decide +kernel
theorem dL_law_582 : decode cL_law 582 = .ok (.iadd, 1) := by decide +kernel
theorem dL_law_583 : decode cL_law 583 = .ok (.iaload, 1) := by decide +kernel
theorem dL_law_584 : decode cL_law 584 = .ok (.invokevirtual 87, 3) := by decide +kernel
theorem dL_law_587 : decode cL_law 587 = .ok (.if_icmp .eq 444, 3) := by decide +kernel
theorem dL_law_590 : decode cL_law 590 = .ok (.iconst 0, 1) := by decide +kernel
theorem dL_law_591 : decode cL_law 591 = .ok (.ireturn, 1) := by decide +kernel
theorem dL_law_592 : decode cL_law 592 = .ok (.aload_n 1, 1) := by decide +kernel
theorem dL_law_593 : decode cL_law 593 = .ok (.aload_n 0, 1) := by decide +kernel
theorem dL_law_594 : decode cL_law 594 = .ok (.iload_n 3, 1) := by decide +kernel
theorem dL_law_595 : decode cL_law 595 = .ok (.iconst 1, 1) := by decide +kernel
theorem dL_law_596 : decode cL_law 596 = .ok (.iadd, 1) := by decide +kernel
theorem dL_law_597 : decode cL_law 597 = .ok (.iaload, 1) := by decide +kernel
theorem dL_law_598 : decode cL_law 598 = .ok (.aload_n 0, 1) := by decide +kernel
theorem dL_law_599 : decode cL_law 599 = .ok (.iload_n 3, 1) := by decide +kernel
theorem dL_law_600 : decode cL_law 600 = .ok (.iconst 2, 1) := by decide +kernel
theorem dL_law_601 : decode cL_law 601 = .ok (.iadd, 1) := by decide +kernel
theorem dL_law_602 : decode cL_law 602 = .ok (.iaload, 1) := by decide +kernel
theorem dL_law_603 : decode cL_law 603 = .ok (.i2l, 1) := by decide +kernel
theorem dL_law_604 : decode cL_law 604 = .ok (.bipush 32, 2) := by decide +kernel
theorem dL_law_606 : decode cL_law 606 = .ok (.lshl, 1) := by decide +kernel
theorem dL_law_607 : decode cL_law 607 = .ok (.aload_n 0, 1) := by decide +kernel
theorem dL_law_608 : decode cL_law 608 = .ok (.iload_n 3, 1) := by decide +kernel
theorem dL_law_609 : decode cL_law 609 = .ok (.iconst 3, 1) := by decide +kernel
theorem dL_law_610 : decode cL_law 610 = .ok (.iadd, 1) := by decide +kernel
theorem dL_law_611 : decode cL_law 611 = .ok (.iaload, 1) := by decide +kernel
theorem dL_law_612 : decode cL_law 612 = .ok (.i2l, 1) := by decide +kernel
theorem dL_law_613 : decode cL_law 613 = .ok (.ldc2_w 88, 3) := by decide +kernel
theorem dL_law_616 : decode cL_law 616 = .ok (.land, 1) := by decide +kernel
theorem dL_law_617 : decode cL_law 617 = .ok (.lor, 1) := by decide +kernel
theorem dL_law_618 : decode cL_law 618 = .ok (.invokevirtual 90, 3) := by decide +kernel
theorem dL_law_621 : decode cL_law 621 = .ok (.aload_n 2, 1) := by decide +kernel
theorem dL_law_622 : decode cL_law 622 = .ok (.aload_n 0, 1) := by decide +kernel
theorem dL_law_623 : decode cL_law 623 = .ok (.iload_n 3, 1) := by decide +kernel
theorem dL_law_624 : decode cL_law 624 = .ok (.iconst 1, 1) := by decide +kernel
theorem dL_law_625 : decode cL_law 625 = .ok (.iadd, 1) := by decide +kernel
theorem dL_law_626 : decode cL_law 626 = .ok (.iaload, 1) := by decide +kernel
theorem dL_law_627 : decode cL_law 627 = .ok (.aload_n 0, 1) := by decide +kernel
theorem dL_law_628 : decode cL_law 628 = .ok (.iload_n 3, 1) := by decide +kernel
theorem dL_law_629 : decode cL_law 629 = .ok (.iconst 2, 1) := by decide +kernel
theorem dL_law_630 : decode cL_law 630 = .ok (.iadd, 1) := by decide +kernel
theorem dL_law_631 : decode cL_law 631 = .ok (.iaload, 1) := by decide +kernel
theorem dL_law_632 : decode cL_law 632 = .ok (.i2l, 1) := by decide +kernel
theorem dL_law_633 : decode cL_law 633 = .ok (.bipush 32, 2) := by decide +kernel
theorem dL_law_635 : decode cL_law 635 = .ok (.lshl, 1) := by decide +kernel
theorem dL_law_636 : decode cL_law 636 = .ok (.aload_n 0, 1) := by decide +kernel
theorem dL_law_637 : decode cL_law 637 = .ok (.iload_n 3, 1) := by decide +kernel
theorem dL_law_638 : decode cL_law 638 = .ok (.iconst 3, 1) := by decide +kernel
theorem dL_law_639 : decode cL_law 639 = .ok (.iadd, 1) := by decide +kernel
theorem dL_law_640 : decode cL_law 640 = .ok (.iaload, 1) := by decide +kernel
theorem dL_law_641 : decode cL_law 641 = .ok (.i2l, 1) := by decide +kernel
theorem dL_law_642 : decode cL_law 642 = .ok (.ldc2_w 88, 3) := by decide +kernel
theorem dL_law_645 : decode cL_law 645 = .ok (.land, 1) := by decide +kernel
theorem dL_law_646 : decode cL_law 646 = .ok (.lor, 1) := by decide +kernel
theorem dL_law_647 : decode cL_law 647 = .ok (.invokevirtual 94, 3) := by decide +kernel
theorem dL_law_650 : decode cL_law 650 = .ok (.if_icmp .eq 381, 3) := by decide +kernel
theorem dL_law_653 : decode cL_law 653 = .ok (.iconst 0, 1) := by decide +kernel
theorem dL_law_654 : decode cL_law 654 = .ok (.ireturn, 1) := by decide +kernel
theorem dL_law_655 : decode cL_law 655 = .ok (.aload_n 1, 1) := by decide +kernel
theorem dL_law_656 : decode cL_law 656 = .ok (.aload_n 0, 1) := by decide +kernel
theorem dL_law_657 : decode cL_law 657 = .ok (.iload_n 3, 1) := by decide +kernel
theorem dL_law_658 : decode cL_law 658 = .ok (.iconst 1, 1) := by decide +kernel
theorem dL_law_659 : decode cL_law 659 = .ok (.iadd, 1) := by decide +kernel
theorem dL_law_660 : decode cL_law 660 = .ok (.iaload, 1) := by decide +kernel
theorem dL_law_661 : decode cL_law 661 = .ok (.aload_n 0, 1) := by decide +kernel
theorem dL_law_662 : decode cL_law 662 = .ok (.iload_n 3, 1) := by decide +kernel
theorem dL_law_663 : decode cL_law 663 = .ok (.iconst 2, 1) := by decide +kernel
theorem dL_law_664 : decode cL_law 664 = .ok (.iadd, 1) := by decide +kernel
theorem dL_law_665 : decode cL_law 665 = .ok (.iaload, 1) := by decide +kernel
theorem dL_law_666 : decode cL_law 666 = .ok (.invokevirtual 95, 3) := by decide +kernel
theorem dL_law_669 : decode cL_law 669 = .ok (.aload_n 2, 1) := by decide +kernel
theorem dL_law_670 : decode cL_law 670 = .ok (.aload_n 0, 1) := by decide +kernel
theorem dL_law_671 : decode cL_law 671 = .ok (.iload_n 3, 1) := by decide +kernel
theorem dL_law_672 : decode cL_law 672 = .ok (.iconst 1, 1) := by decide +kernel
theorem dL_law_673 : decode cL_law 673 = .ok (.iadd, 1) := by decide +kernel
theorem dL_law_674 : decode cL_law 674 = .ok (.iaload, 1) := by decide +kernel
theorem dL_law_675 : decode cL_law 675 = .ok (.aload_n 0, 1) := by decide +kernel
theorem dL_law_676 : decode cL_law 676 = .ok (.iload_n 3, 1) := by decide +kernel
theorem dL_law_677 : decode cL_law 677 = .ok (.iconst 2, 1) := by decide +kernel
theorem dL_law_678 : decode cL_law 678 = .ok (.iadd, 1) := by decide +kernel
theorem dL_law_679 : decode cL_law 679 = .ok (.iaload, 1) := by decide +kernel
theorem dL_law_680 : decode cL_law 680 = .ok (.invokevirtual 98, 3) := by decide +kernel
theorem dL_law_683 : decode cL_law 683 = .ok (.if_icmp .eq 348, 3) := by decide +kernel
theorem dL_law_686 : decode cL_law 686 = .ok (.iconst 0, 1) := by decide +kernel
theorem dL_law_687 : decode cL_law 687 = .ok (.ireturn, 1) := by decide +kernel
theorem dL_law_688 : decode cL_law 688 = .ok (.aload_n 1, 1) := by decide +kernel
theorem dL_law_689 : decode cL_law 689 = .ok (.invokevirtual 99, 3) := by decide +kernel
theorem dL_law_692 : decode cL_law 692 = .ok (.aload_n 2, 1) := by decide +kernel
theorem dL_law_693 : decode cL_law 693 = .ok (.invokevirtual 102, 3) := by decide +kernel
theorem dL_law_696 : decode cL_law 696 = .ok (.if_icmp .eq 335, 3) := by decide +kernel
theorem dL_law_699 : decode cL_law 699 = .ok (.iconst 0, 1) := by decide +kernel
theorem dL_law_700 : decode cL_law 700 = .ok (.ireturn, 1) := by decide +kernel
theorem dL_law_701 : decode cL_law 701 = .ok (.aload_n 1, 1) := by decide +kernel
theorem dL_law_702 : decode cL_law 702 = .ok (.aload_n 0, 1) := by decide +kernel
theorem dL_law_703 : decode cL_law 703 = .ok (.iload_n 3, 1) := by decide +kernel
theorem dL_law_704 : decode cL_law 704 = .ok (.iconst 1, 1) := by decide +kernel
theorem dL_law_705 : decode cL_law 705 = .ok (.iadd, 1) := by decide +kernel
theorem dL_law_706 : decode cL_law 706 = .ok (.iaload, 1) := by decide +kernel
theorem dL_law_707 : decode cL_law 707 = .ok (.invokevirtual 103, 3) := by decide +kernel
theorem dL_law_710 : decode cL_law 710 = .ok (.aload_n 2, 1) := by decide +kernel
theorem dL_law_711 : decode cL_law 711 = .ok (.aload_n 0, 1) := by decide +kernel
theorem dL_law_712 : decode cL_law 712 = .ok (.iload_n 3, 1) := by decide +kernel
theorem dL_law_713 : decode cL_law 713 = .ok (.iconst 1, 1) := by decide +kernel
theorem dL_law_714 : decode cL_law 714 = .ok (.iadd, 1) := by decide +kernel
theorem dL_law_715 : decode cL_law 715 = .ok (.iaload, 1) := by decide +kernel
theorem dL_law_716 : decode cL_law 716 = .ok (.invokevirtual 106, 3) := by decide +kernel
theorem dL_law_719 : decode cL_law 719 = .ok (.if_icmp .eq 312, 3) := by decide +kernel
theorem dL_law_722 : decode cL_law 722 = .ok (.iconst 0, 1) := by decide +kernel
theorem dL_law_723 : decode cL_law 723 = .ok (.ireturn, 1) := by decide +kernel
theorem dL_law_724 : decode cL_law 724 = .ok (.aload_n 1, 1) := by decide +kernel
theorem dL_law_725 : decode cL_law 725 = .ok (.aload_n 0, 1) := by decide +kernel
theorem dL_law_726 : decode cL_law 726 = .ok (.iload_n 3, 1) := by decide +kernel
theorem dL_law_727 : decode cL_law 727 = .ok (.iconst 1, 1) := by decide +kernel
theorem dL_law_728 : decode cL_law 728 = .ok (.iadd, 1) := by decide +kernel
theorem dL_law_729 : decode cL_law 729 = .ok (.iaload, 1) := by decide +kernel
theorem dL_law_730 : decode cL_law 730 = .ok (.aload_n 0, 1) := by decide +kernel
theorem dL_law_731 : decode cL_law 731 = .ok (.iload_n 3, 1) := by decide +kernel
theorem dL_law_732 : decode cL_law 732 = .ok (.iconst 2, 1) := by decide +kernel
theorem dL_law_733 : decode cL_law 733 = .ok (.iadd, 1) := by decide +kernel
theorem dL_law_734 : decode cL_law 734 = .ok (.iaload, 1) := by decide +kernel
theorem dL_law_735 : decode cL_law 735 = .ok (.ifCond .eq 7, 3) := by decide +kernel
theorem dL_law_738 : decode cL_law 738 = .ok (.iconst 1, 1) := by decide +kernel
theorem dL_law_739 : decode cL_law 739 = .ok (.goto 4, 3) := by decide +kernel
theorem dL_law_742 : decode cL_law 742 = .ok (.iconst 0, 1) := by decide +kernel
theorem dL_law_743 : decode cL_law 743 = .ok (.invokevirtual 107, 3) := by decide +kernel
theorem dL_law_746 : decode cL_law 746 = .ok (.aload_n 2, 1) := by decide +kernel
theorem dL_law_747 : decode cL_law 747 = .ok (.aload_n 0, 1) := by decide +kernel
theorem dL_law_748 : decode cL_law 748 = .ok (.iload_n 3, 1) := by decide +kernel
theorem dL_law_749 : decode cL_law 749 = .ok (.iconst 1, 1) := by decide +kernel
theorem dL_law_750 : decode cL_law 750 = .ok (.iadd, 1) := by decide +kernel
theorem dL_law_751 : decode cL_law 751 = .ok (.iaload, 1) := by decide +kernel
theorem dL_law_752 : decode cL_law 752 = .ok (.aload_n 0, 1) := by decide +kernel
theorem dL_law_753 : decode cL_law 753 = .ok (.iload_n 3, 1) := by decide +kernel
theorem dL_law_754 : decode cL_law 754 = .ok (.iconst 2, 1) := by decide +kernel
theorem dL_law_755 : decode cL_law 755 = .ok (.iadd, 1) := by decide +kernel
theorem dL_law_756 : decode cL_law 756 = .ok (.iaload, 1) := by decide +kernel
theorem dL_law_757 : decode cL_law 757 = .ok (.ifCond .eq 7, 3) := by decide +kernel
theorem dL_law_760 : decode cL_law 760 = .ok (.iconst 1, 1) := by decide +kernel
theorem dL_law_761 : decode cL_law 761 = .ok (.goto 4, 3) := by decide +kernel
theorem dL_law_764 : decode cL_law 764 = .ok (.iconst 0, 1) := by decide +kernel
theorem dL_law_765 : decode cL_law 765 = .ok (.invokevirtual 111, 3) := by decide +kernel
theorem dL_law_768 : decode cL_law 768 = .ok (.if_icmp .eq 263, 3) := by decide +kernel
theorem dL_law_771 : decode cL_law 771 = .ok (.iconst 0, 1) := by decide +kernel
theorem dL_law_772 : decode cL_law 772 = .ok (.ireturn, 1) := by decide +kernel
theorem dL_law_773 : decode cL_law 773 = .ok (.aload_n 1, 1) := by decide +kernel
theorem dL_law_774 : decode cL_law 774 = .ok (.aload_n 0, 1) := by decide +kernel
theorem dL_law_775 : decode cL_law 775 = .ok (.iload_n 3, 1) := by decide +kernel
theorem dL_law_776 : decode cL_law 776 = .ok (.iconst 1, 1) := by decide +kernel
theorem dL_law_777 : decode cL_law 777 = .ok (.iadd, 1) := by decide +kernel
theorem dL_law_778 : decode cL_law 778 = .ok (.iaload, 1) := by decide +kernel
theorem dL_law_779 : decode cL_law 779 = .ok (.aload_n 0, 1) := by decide +kernel
theorem dL_law_780 : decode cL_law 780 = .ok (.iload_n 3, 1) := by decide +kernel
theorem dL_law_781 : decode cL_law 781 = .ok (.iconst 2, 1) := by decide +kernel
theorem dL_law_782 : decode cL_law 782 = .ok (.iadd, 1) := by decide +kernel
theorem dL_law_783 : decode cL_law 783 = .ok (.iaload, 1) := by decide +kernel
theorem dL_law_784 : decode cL_law 784 = .ok (.aload_n 0, 1) := by decide +kernel
theorem dL_law_785 : decode cL_law 785 = .ok (.iload_n 3, 1) := by decide +kernel
theorem dL_law_786 : decode cL_law 786 = .ok (.iconst 3, 1) := by decide +kernel
theorem dL_law_787 : decode cL_law 787 = .ok (.iadd, 1) := by decide +kernel
theorem dL_law_788 : decode cL_law 788 = .ok (.iaload, 1) := by decide +kernel
theorem dL_law_789 : decode cL_law 789 = .ok (.invokevirtual 112, 3) := by decide +kernel
theorem dL_law_792 : decode cL_law 792 = .ok (.aload_n 2, 1) := by decide +kernel
theorem dL_law_793 : decode cL_law 793 = .ok (.aload_n 0, 1) := by decide +kernel
theorem dL_law_794 : decode cL_law 794 = .ok (.iload_n 3, 1) := by decide +kernel
theorem dL_law_795 : decode cL_law 795 = .ok (.iconst 1, 1) := by decide +kernel
theorem dL_law_796 : decode cL_law 796 = .ok (.iadd, 1) := by decide +kernel
theorem dL_law_797 : decode cL_law 797 = .ok (.iaload, 1) := by decide +kernel
theorem dL_law_798 : decode cL_law 798 = .ok (.aload_n 0, 1) := by decide +kernel
theorem dL_law_799 : decode cL_law 799 = .ok (.iload_n 3, 1) := by decide +kernel
theorem dL_law_800 : decode cL_law 800 = .ok (.iconst 2, 1) := by decide +kernel
theorem dL_law_801 : decode cL_law 801 = .ok (.iadd, 1) := by decide +kernel
theorem dL_law_802 : decode cL_law 802 = .ok (.iaload, 1) := by decide +kernel
theorem dL_law_803 : decode cL_law 803 = .ok (.aload_n 0, 1) := by decide +kernel
theorem dL_law_804 : decode cL_law 804 = .ok (.iload_n 3, 1) := by decide +kernel
theorem dL_law_805 : decode cL_law 805 = .ok (.iconst 3, 1) := by decide +kernel
theorem dL_law_806 : decode cL_law 806 = .ok (.iadd, 1) := by decide +kernel
theorem dL_law_807 : decode cL_law 807 = .ok (.iaload, 1) := by decide +kernel
theorem dL_law_808 : decode cL_law 808 = .ok (.invokevirtual 116, 3) := by decide +kernel
theorem dL_law_811 : decode cL_law 811 = .ok (.if_icmp .eq 220, 3) := by decide +kernel
theorem dL_law_814 : decode cL_law 814 = .ok (.iconst 0, 1) := by decide +kernel
theorem dL_law_815 : decode cL_law 815 = .ok (.ireturn, 1) := by decide +kernel
theorem dL_law_816 : decode cL_law 816 = .ok (.aload_n 1, 1) := by decide +kernel
theorem dL_law_817 : decode cL_law 817 = .ok (.aload_n 0, 1) := by decide +kernel
theorem dL_law_818 : decode cL_law 818 = .ok (.iload_n 3, 1) := by decide +kernel
theorem dL_law_819 : decode cL_law 819 = .ok (.iconst 1, 1) := by decide +kernel
theorem dL_law_820 : decode cL_law 820 = .ok (.iadd, 1) := by decide +kernel
theorem dL_law_821 : decode cL_law 821 = .ok (.iaload, 1) := by decide +kernel
theorem dL_law_822 : decode cL_law 822 = .ok (.aload_n 0, 1) := by decide +kernel
theorem dL_law_823 : decode cL_law 823 = .ok (.iload_n 3, 1) := by decide +kernel
theorem dL_law_824 : decode cL_law 824 = .ok (.iconst 2, 1) := by decide +kernel
theorem dL_law_825 : decode cL_law 825 = .ok (.iadd, 1) := by decide +kernel
theorem dL_law_826 : decode cL_law 826 = .ok (.iaload, 1) := by decide +kernel
theorem dL_law_827 : decode cL_law 827 = .ok (.aload_n 0, 1) := by decide +kernel
theorem dL_law_828 : decode cL_law 828 = .ok (.iload_n 3, 1) := by decide +kernel
theorem dL_law_829 : decode cL_law 829 = .ok (.iconst 3, 1) := by decide +kernel
theorem dL_law_830 : decode cL_law 830 = .ok (.iadd, 1) := by decide +kernel
theorem dL_law_831 : decode cL_law 831 = .ok (.iaload, 1) := by decide +kernel
theorem dL_law_832 : decode cL_law 832 = .ok (.aload_n 0, 1) := by decide +kernel
theorem dL_law_833 : decode cL_law 833 = .ok (.iload_n 3, 1) := by decide +kernel
theorem dL_law_834 : decode cL_law 834 = .ok (.iconst 4, 1) := by decide +kernel
theorem dL_law_835 : decode cL_law 835 = .ok (.iadd, 1) := by decide +kernel
theorem dL_law_836 : decode cL_law 836 = .ok (.iaload, 1) := by decide +kernel
theorem dL_law_837 : decode cL_law 837 = .ok (.ifCond .eq 7, 3) := by decide +kernel
theorem dL_law_840 : decode cL_law 840 = .ok (.iconst 1, 1) := by decide +kernel
theorem dL_law_841 : decode cL_law 841 = .ok (.goto 4, 3) := by decide +kernel
theorem dL_law_844 : decode cL_law 844 = .ok (.iconst 0, 1) := by decide +kernel
theorem dL_law_845 : decode cL_law 845 = .ok (.invokevirtual 117, 3) := by decide +kernel
theorem dL_law_848 : decode cL_law 848 = .ok (.aload_n 2, 1) := by decide +kernel
theorem dL_law_849 : decode cL_law 849 = .ok (.aload_n 0, 1) := by decide +kernel
theorem dL_law_850 : decode cL_law 850 = .ok (.iload_n 3, 1) := by decide +kernel
theorem dL_law_851 : decode cL_law 851 = .ok (.iconst 1, 1) := by decide +kernel
theorem dL_law_852 : decode cL_law 852 = .ok (.iadd, 1) := by decide +kernel
theorem dL_law_853 : decode cL_law 853 = .ok (.iaload, 1) := by decide +kernel
theorem dL_law_854 : decode cL_law 854 = .ok (.aload_n 0, 1) := by decide +kernel
theorem dL_law_855 : decode cL_law 855 = .ok (.iload_n 3, 1) := by decide +kernel
theorem dL_law_856 : decode cL_law 856 = .ok (.iconst 2, 1) := by decide +kernel
theorem dL_law_857 : decode cL_law 857 = .ok (.iadd, 1) := by decide +kernel
theorem dL_law_858 : decode cL_law 858 = .ok (.iaload, 1) := by decide +kernel
theorem dL_law_859 : decode cL_law 859 = .ok (.aload_n 0, 1) := by decide +kernel
theorem dL_law_860 : decode cL_law 860 = .ok (.iload_n 3, 1) := by decide +kernel
theorem dL_law_861 : decode cL_law 861 = .ok (.iconst 3, 1) := by decide +kernel
theorem dL_law_862 : decode cL_law 862 = .ok (.iadd, 1) := by decide +kernel
theorem dL_law_863 : decode cL_law 863 = .ok (.iaload, 1) := by decide +kernel
theorem dL_law_864 : decode cL_law 864 = .ok (.aload_n 0, 1) := by decide +kernel
theorem dL_law_865 : decode cL_law 865 = .ok (.iload_n 3, 1) := by decide +kernel
theorem dL_law_866 : decode cL_law 866 = .ok (.iconst 4, 1) := by decide +kernel
theorem dL_law_867 : decode cL_law 867 = .ok (.iadd, 1) := by decide +kernel
theorem dL_law_868 : decode cL_law 868 = .ok (.iaload, 1) := by decide +kernel
theorem dL_law_869 : decode cL_law 869 = .ok (.ifCond .eq 7, 3) := by decide +kernel
theorem dL_law_872 : decode cL_law 872 = .ok (.iconst 1, 1) := by decide +kernel
theorem dL_law_873 : decode cL_law 873 = .ok (.goto 4, 3) := by decide +kernel
theorem dL_law_876 : decode cL_law 876 = .ok (.iconst 0, 1) := by decide +kernel
theorem dL_law_877 : decode cL_law 877 = .ok (.invokevirtual 121, 3) := by decide +kernel
theorem dL_law_880 : decode cL_law 880 = .ok (.if_icmp .eq 151, 3) := by decide +kernel
theorem dL_law_883 : decode cL_law 883 = .ok (.iconst 0, 1) := by decide +kernel
theorem dL_law_884 : decode cL_law 884 = .ok (.ireturn, 1) := by decide +kernel
theorem dL_law_885 : decode cL_law 885 = .ok (.aload_n 1, 1) := by decide +kernel
theorem dL_law_886 : decode cL_law 886 = .ok (.aload_n 0, 1) := by decide +kernel
theorem dL_law_887 : decode cL_law 887 = .ok (.iload_n 3, 1) := by decide +kernel
theorem dL_law_888 : decode cL_law 888 = .ok (.iconst 1, 1) := by decide +kernel
theorem dL_law_889 : decode cL_law 889 = .ok (.iadd, 1) := by decide +kernel
theorem dL_law_890 : decode cL_law 890 = .ok (.iaload, 1) := by decide +kernel
theorem dL_law_891 : decode cL_law 891 = .ok (.i2l, 1) := by decide +kernel
theorem dL_law_892 : decode cL_law 892 = .ok (.bipush 32, 2) := by decide +kernel
theorem dL_law_894 : decode cL_law 894 = .ok (.lshl, 1) := by decide +kernel
theorem dL_law_895 : decode cL_law 895 = .ok (.aload_n 0, 1) := by decide +kernel
theorem dL_law_896 : decode cL_law 896 = .ok (.iload_n 3, 1) := by decide +kernel
theorem dL_law_897 : decode cL_law 897 = .ok (.iconst 2, 1) := by decide +kernel
theorem dL_law_898 : decode cL_law 898 = .ok (.iadd, 1) := by decide +kernel
theorem dL_law_899 : decode cL_law 899 = .ok (.iaload, 1) := by decide +kernel
theorem dL_law_900 : decode cL_law 900 = .ok (.i2l, 1) := by decide +kernel
theorem dL_law_901 : decode cL_law 901 = .ok (.ldc2_w 88, 3) := by decide +kernel
theorem dL_law_904 : decode cL_law 904 = .ok (.land, 1) := by decide +kernel
theorem dL_law_905 : decode cL_law 905 = .ok (.lor, 1) := by decide +kernel
theorem dL_law_906 : decode cL_law 906 = .ok (.invokevirtual 122, 3) := by decide +kernel
theorem dL_law_909 : decode cL_law 909 = .ok (.aload_n 2, 1) := by decide +kernel
theorem dL_law_910 : decode cL_law 910 = .ok (.aload_n 0, 1) := by decide +kernel
theorem dL_law_911 : decode cL_law 911 = .ok (.iload_n 3, 1) := by decide +kernel
theorem dL_law_912 : decode cL_law 912 = .ok (.iconst 1, 1) := by decide +kernel
theorem dL_law_913 : decode cL_law 913 = .ok (.iadd, 1) := by decide +kernel
theorem dL_law_914 : decode cL_law 914 = .ok (.iaload, 1) := by decide +kernel
theorem dL_law_915 : decode cL_law 915 = .ok (.i2l, 1) := by decide +kernel
theorem dL_law_916 : decode cL_law 916 = .ok (.bipush 32, 2) := by decide +kernel
theorem dL_law_918 : decode cL_law 918 = .ok (.lshl, 1) := by decide +kernel
theorem dL_law_919 : decode cL_law 919 = .ok (.aload_n 0, 1) := by decide +kernel
theorem dL_law_920 : decode cL_law 920 = .ok (.iload_n 3, 1) := by decide +kernel
theorem dL_law_921 : decode cL_law 921 = .ok (.iconst 2, 1) := by decide +kernel
theorem dL_law_922 : decode cL_law 922 = .ok (.iadd, 1) := by decide +kernel
theorem dL_law_923 : decode cL_law 923 = .ok (.iaload, 1) := by decide +kernel
theorem dL_law_924 : decode cL_law 924 = .ok (.i2l, 1) := by decide +kernel
theorem dL_law_925 : decode cL_law 925 = .ok (.ldc2_w 88, 3) := by decide +kernel
theorem dL_law_928 : decode cL_law 928 = .ok (.land, 1) := by decide +kernel
theorem dL_law_929 : decode cL_law 929 = .ok (.lor, 1) := by decide +kernel
theorem dL_law_930 : decode cL_law 930 = .ok (.invokevirtual 126, 3) := by decide +kernel
theorem dL_law_933 : decode cL_law 933 = .ok (.lcmp, 1) := by decide +kernel
theorem dL_law_934 : decode cL_law 934 = .ok (.ifCond .eq 97, 3) := by decide +kernel
theorem dL_law_937 : decode cL_law 937 = .ok (.iconst 0, 1) := by decide +kernel
theorem dL_law_938 : decode cL_law 938 = .ok (.ireturn, 1) := by decide +kernel
theorem dL_law_939 : decode cL_law 939 = .ok (.aload_n 1, 1) := by decide +kernel
theorem dL_law_940 : decode cL_law 940 = .ok (.aload_n 0, 1) := by decide +kernel
theorem dL_law_941 : decode cL_law 941 = .ok (.iload_n 3, 1) := by decide +kernel
theorem dL_law_942 : decode cL_law 942 = .ok (.iconst 1, 1) := by decide +kernel
theorem dL_law_943 : decode cL_law 943 = .ok (.iadd, 1) := by decide +kernel
theorem dL_law_944 : decode cL_law 944 = .ok (.iaload, 1) := by decide +kernel
theorem dL_law_945 : decode cL_law 945 = .ok (.invokevirtual 127, 3) := by decide +kernel
theorem dL_law_948 : decode cL_law 948 = .ok (.aload_n 2, 1) := by decide +kernel
theorem dL_law_949 : decode cL_law 949 = .ok (.aload_n 0, 1) := by decide +kernel
theorem dL_law_950 : decode cL_law 950 = .ok (.iload_n 3, 1) := by decide +kernel
theorem dL_law_951 : decode cL_law 951 = .ok (.iconst 1, 1) := by decide +kernel
theorem dL_law_952 : decode cL_law 952 = .ok (.iadd, 1) := by decide +kernel
theorem dL_law_953 : decode cL_law 953 = .ok (.iaload, 1) := by decide +kernel
theorem dL_law_954 : decode cL_law 954 = .ok (.invokevirtual 130, 3) := by decide +kernel
theorem dL_law_957 : decode cL_law 957 = .ok (.if_icmp .eq 74, 3) := by decide +kernel
theorem dL_law_960 : decode cL_law 960 = .ok (.iconst 0, 1) := by decide +kernel
theorem dL_law_961 : decode cL_law 961 = .ok (.ireturn, 1) := by decide +kernel
theorem dL_law_962 : decode cL_law 962 = .ok (.aload_n 1, 1) := by decide +kernel
theorem dL_law_963 : decode cL_law 963 = .ok (.aload_n 0, 1) := by decide +kernel
theorem dL_law_964 : decode cL_law 964 = .ok (.iload_n 3, 1) := by decide +kernel
theorem dL_law_965 : decode cL_law 965 = .ok (.iconst 1, 1) := by decide +kernel
theorem dL_law_966 : decode cL_law 966 = .ok (.iadd, 1) := by decide +kernel
theorem dL_law_967 : decode cL_law 967 = .ok (.iaload, 1) := by decide +kernel
theorem dL_law_968 : decode cL_law 968 = .ok (.invokevirtual 131, 3) := by decide +kernel
theorem dL_law_971 : decode cL_law 971 = .ok (.aload_n 2, 1) := by decide +kernel
theorem dL_law_972 : decode cL_law 972 = .ok (.aload_n 0, 1) := by decide +kernel
theorem dL_law_973 : decode cL_law 973 = .ok (.iload_n 3, 1) := by decide +kernel
theorem dL_law_974 : decode cL_law 974 = .ok (.iconst 1, 1) := by decide +kernel
theorem dL_law_975 : decode cL_law 975 = .ok (.iadd, 1) := by decide +kernel
theorem dL_law_976 : decode cL_law 976 = .ok (.iaload, 1) := by decide +kernel
theorem dL_law_977 : decode cL_law 977 = .ok (.invokevirtual 134, 3) := by decide +kernel
theorem dL_law_980 : decode cL_law 980 = .ok (.if_icmp .eq 51, 3) := by decide +kernel
theorem dL_law_983 : decode cL_law 983 = .ok (.iconst 0, 1) := by decide +kernel
theorem dL_law_984 : decode cL_law 984 = .ok (.ireturn, 1) := by decide +kernel
theorem dL_law_985 : decode cL_law 985 = .ok (.aload_n 1, 1) := by decide +kernel
theorem dL_law_986 : decode cL_law 986 = .ok (.aload_n 0, 1) := by decide +kernel
theorem dL_law_987 : decode cL_law 987 = .ok (.iload_n 3, 1) := by decide +kernel
theorem dL_law_988 : decode cL_law 988 = .ok (.iconst 1, 1) := by decide +kernel
theorem dL_law_989 : decode cL_law 989 = .ok (.iadd, 1) := by decide +kernel
theorem dL_law_990 : decode cL_law 990 = .ok (.iaload, 1) := by decide +kernel
theorem dL_law_991 : decode cL_law 991 = .ok (.invokevirtual 135, 3) := by decide +kernel
theorem dL_law_994 : decode cL_law 994 = .ok (.aload_n 2, 1) := by decide +kernel
theorem dL_law_995 : decode cL_law 995 = .ok (.aload_n 0, 1) := by decide +kernel
theorem dL_law_996 : decode cL_law 996 = .ok (.iload_n 3, 1) := by decide +kernel
theorem dL_law_997 : decode cL_law 997 = .ok (.iconst 1, 1) := by decide +kernel
theorem dL_law_998 : decode cL_law 998 = .ok (.iadd, 1) := by decide +kernel
theorem dL_law_999 : decode cL_law 999 = .ok (.iaload, 1) := by decide +kernel
theorem dL_law_1000 : decode cL_law 1000 = .ok (.invokevirtual 138, 3) := by decide +kernel
theorem dL_law_1003 : decode cL_law 1003 = .ok (.if_icmp .eq 28, 3) := by decide +kernel
theorem dL_law_1006 : decode cL_law 1006 = .ok (.iconst 0, 1) := by decide +kernel
theorem dL_law_1007 : decode cL_law 1007 = .ok (.ireturn, 1) := by decide +kernel
theorem dL_law_1008 : decode cL_law 1008 = .ok (.aload_n 1, 1) := by decide +kernel
theorem dL_law_1009 : decode cL_law 1009 = .ok (.aload_n 0, 1) := by decide +kernel
theorem dL_law_1010 : decode cL_law 1010 = .ok (.iload_n 3, 1) := by decide +kernel
theorem dL_law_1011 : decode cL_law 1011 = .ok (.iconst 1, 1) := by decide +kernel
theorem dL_law_1012 : decode cL_law 1012 = .ok (.iadd, 1) := by decide +kernel
theorem dL_law_1013 : decode cL_law 1013 = .ok (.iaload, 1) := by decide +kernel
theorem dL_law_1014 : decode cL_law 1014 = .ok (.invokevirtual 139, 3) := by decide +kernel
theorem dL_law_1017 : decode cL_law 1017 = .ok (.aload_n 2, 1) := by decide +kernel
theorem dL_law_1018 : decode cL_law 1018 = .ok (.aload_n 0, 1) := by decide +kernel
theorem dL_law_1019 : decode cL_law 1019 = .ok (.iload_n 3, 1) := by decide +kernel
theorem dL_law_1020 : decode cL_law 1020 = .ok (.iconst 1, 1) := by decide +kernel
theorem dL_law_1021 : decode cL_law 1021 = .ok (.iadd, 1) := by decide +kernel
theorem dL_law_1022 : decode cL_law 1022 = .ok (.iaload, 1) := by decide +kernel
theorem dL_law_1023 : decode cL_law 1023 = .ok (.invokevirtual 142, 3) := by decide +kernel
theorem dL_law_1026 : decode cL_law 1026 = .ok (.if_icmp .eq 5, 3) := by decide +kernel
theorem dL_law_1029 : decode cL_law 1029 = .ok (.iconst 0, 1) := by decide +kernel
theorem dL_law_1030 : decode cL_law 1030 = .ok (.ireturn, 1) := by decide +kernel
theorem dL_law_1031 : decode cL_law 1031 = .ok (.iinc 3 5, 3) := by decide +kernel
theorem dL_law_1034 : decode cL_law 1034 = .ok (.goto (-1016), 3) := by decide +kernel
theorem dL_law_1037 : decode cL_law 1037 = .ok (.iconst 1, 1) := by decide +kernel
theorem dL_law_1038 : decode cL_law 1038 = .ok (.ireturn, 1) := by decide +kernel

theorem dX0_init_0 : decode cX0_init 0 = .ok (.aload_n 0, 1) := by decide +kernel
theorem dX0_init_1 : decode cX0_init 1 = .ok (.invokespecial 3, 3) := by decide +kernel
theorem dX0_init_4 : decode cX0_init 4 = .ok (.aload_n 0, 1) := by decide +kernel
theorem dX0_init_5 : decode cX0_init 5 = .ok (.iconst 5, 1) := by decide +kernel
theorem dX0_init_6 : decode cX0_init 6 = .ok (.newarray .int, 2) := by decide +kernel
theorem dX0_init_8 : decode cX0_init 8 = .ok (.putfield 9, 3) := by decide +kernel
theorem dX0_init_11 : decode cX0_init 11 = .ok (.aload_n 0, 1) := by decide +kernel
theorem dX0_init_12 : decode cX0_init 12 = .ok (.iconst 5, 1) := by decide +kernel
theorem dX0_init_13 : decode cX0_init 13 = .ok (.newarray .int, 2) := by decide +kernel
theorem dX0_init_15 : decode cX0_init 15 = .ok (.putfield 15, 3) := by decide +kernel
theorem dX0_init_18 : decode cX0_init 18 = .ok (.aload_n 0, 1) := by decide +kernel
theorem dX0_init_19 : decode cX0_init 19 = .ok (.iconst 5, 1) := by decide +kernel
theorem dX0_init_20 : decode cX0_init 20 = .ok (.newarray .int, 2) := by decide +kernel
theorem dX0_init_22 : decode cX0_init 22 = .ok (.putfield 18, 3) := by decide +kernel
theorem dX0_init_25 : decode cX0_init 25 = .ok (.return_, 1) := by decide +kernel
theorem dX0_size_0 : decode cX0_size 0 = .ok (.aload_n 0, 1) := by decide +kernel
theorem dX0_size_1 : decode cX0_size 1 = .ok (.getfield 21, 3) := by decide +kernel
theorem dX0_size_4 : decode cX0_size 4 = .ok (.ireturn, 1) := by decide +kernel
theorem dX0_has_0 : decode cX0_has 0 = .ok (.iload_n 1, 1) := by decide +kernel
theorem dX0_has_1 : decode cX0_has 1 = .ok (.ifCond .lt 15, 3) := by decide +kernel
theorem dX0_has_4 : decode cX0_has 4 = .ok (.iload_n 1, 1) := by decide +kernel
theorem dX0_has_5 : decode cX0_has 5 = .ok (.aload_n 0, 1) := by decide +kernel
theorem dX0_has_6 : decode cX0_has 6 = .ok (.getfield 21, 3) := by decide +kernel
theorem dX0_has_9 : decode cX0_has 9 = .ok (.if_icmp .ge 7, 3) := by decide +kernel
theorem dX0_has_12 : decode cX0_has 12 = .ok (.iconst 1, 1) := by decide +kernel
theorem dX0_has_13 : decode cX0_has 13 = .ok (.goto 4, 3) := by decide +kernel
theorem dX0_has_16 : decode cX0_has 16 = .ok (.iconst 0, 1) := by decide +kernel
theorem dX0_has_17 : decode cX0_has 17 = .ok (.ireturn, 1) := by decide +kernel
theorem dX0_clear_0 : decode cX0_clear 0 = .ok (.aload_n 0, 1) := by decide +kernel
theorem dX0_clear_1 : decode cX0_clear 1 = .ok (.iconst 0, 1) := by decide +kernel
theorem dX0_clear_2 : decode cX0_clear 2 = .ok (.putfield 21, 3) := by decide +kernel
theorem dX0_clear_5 : decode cX0_clear 5 = .ok (.return_, 1) := by decide +kernel
theorem dX0_add_0 : decode cX0_add 0 = .ok (.aload_n 0, 1) := by decide +kernel
theorem dX0_add_1 : decode cX0_add 1 = .ok (.getfield 21, 3) := by decide +kernel
theorem dX0_add_4 : decode cX0_add 4 = .ok (.iconst 5, 1) := by decide +kernel
theorem dX0_add_5 : decode cX0_add 5 = .ok (.if_icmp .lt 5, 3) := by decide +kernel
theorem dX0_add_8 : decode cX0_add 8 = .ok (.iconst 0, 1) := by decide +kernel
theorem dX0_add_9 : decode cX0_add 9 = .ok (.ireturn, 1) := by decide +kernel
theorem dX0_add_10 : decode cX0_add 10 = .ok (.aload_n 0, 1) := by decide +kernel
theorem dX0_add_11 : decode cX0_add 11 = .ok (.getfield 9, 3) := by decide +kernel
theorem dX0_add_14 : decode cX0_add 14 = .ok (.aload_n 0, 1) := by decide +kernel
theorem dX0_add_15 : decode cX0_add 15 = .ok (.getfield 21, 3) := by decide +kernel
theorem dX0_add_18 : decode cX0_add 18 = .ok (.iload_n 1, 1) := by decide +kernel
theorem dX0_add_19 : decode cX0_add 19 = .ok (.iastore, 1) := by decide +kernel
theorem dX0_add_20 : decode cX0_add 20 = .ok (.aload_n 0, 1) := by decide +kernel
theorem dX0_add_21 : decode cX0_add 21 = .ok (.getfield 15, 3) := by decide +kernel
theorem dX0_add_24 : decode cX0_add 24 = .ok (.aload_n 0, 1) := by decide +kernel
theorem dX0_add_25 : decode cX0_add 25 = .ok (.getfield 21, 3) := by decide +kernel
theorem dX0_add_28 : decode cX0_add 28 = .ok (.iload_n 2, 1) := by decide +kernel
theorem dX0_add_29 : decode cX0_add 29 = .ok (.iastore, 1) := by decide +kernel
theorem dX0_add_30 : decode cX0_add 30 = .ok (.aload_n 0, 1) := by decide +kernel
theorem dX0_add_31 : decode cX0_add 31 = .ok (.getfield 18, 3) := by decide +kernel
theorem dX0_add_34 : decode cX0_add 34 = .ok (.aload_n 0, 1) := by decide +kernel
theorem dX0_add_35 : decode cX0_add 35 = .ok (.getfield 21, 3) := by decide +kernel
theorem dX0_add_38 : decode cX0_add 38 = .ok (.iload_n 3, 1) := by decide +kernel
theorem dX0_add_39 : decode cX0_add 39 = .ok (.iastore, 1) := by decide +kernel
theorem dX0_add_40 : decode cX0_add 40 = .ok (.aload_n 0, 1) := by decide +kernel
theorem dX0_add_41 : decode cX0_add 41 = .ok (.dup, 1) := by decide +kernel
theorem dX0_add_42 : decode cX0_add 42 = .ok (.getfield 21, 3) := by decide +kernel
theorem dX0_add_45 : decode cX0_add 45 = .ok (.iconst 1, 1) := by decide +kernel
theorem dX0_add_46 : decode cX0_add 46 = .ok (.iadd, 1) := by decide +kernel
theorem dX0_add_47 : decode cX0_add 47 = .ok (.putfield 21, 3) := by decide +kernel
theorem dX0_add_50 : decode cX0_add 50 = .ok (.iconst 1, 1) := by decide +kernel
theorem dX0_add_51 : decode cX0_add 51 = .ok (.ireturn, 1) := by decide +kernel
theorem dX0_copyFrom_0 : decode cX0_copyFrom 0 = .ok (.aload_n 1, 1) := by decide +kernel
theorem dX0_copyFrom_1 : decode cX0_copyFrom 1 = .ok (.getfield 9, 3) := by decide +kernel
theorem dX0_copyFrom_4 : decode cX0_copyFrom 4 = .ok (.iconst 0, 1) := by decide +kernel
theorem dX0_copyFrom_5 : decode cX0_copyFrom 5 = .ok (.aload_n 0, 1) := by decide +kernel
theorem dX0_copyFrom_6 : decode cX0_copyFrom 6 = .ok (.getfield 9, 3) := by decide +kernel
theorem dX0_copyFrom_9 : decode cX0_copyFrom 9 = .ok (.iconst 0, 1) := by decide +kernel
theorem dX0_copyFrom_10 : decode cX0_copyFrom 10 = .ok (.iconst 5, 1) := by decide +kernel
theorem dX0_copyFrom_11 : decode cX0_copyFrom 11 = .ok (.invokestatic 25, 3) := by decide +kernel
theorem dX0_copyFrom_14 : decode cX0_copyFrom 14 = .ok (.aload_n 1, 1) := by decide +kernel
theorem dX0_copyFrom_15 : decode cX0_copyFrom 15 = .ok (.getfield 15, 3) := by decide +kernel
theorem dX0_copyFrom_18 : decode cX0_copyFrom 18 = .ok (.iconst 0, 1) := by decide +kernel
theorem dX0_copyFrom_19 : decode cX0_copyFrom 19 = .ok (.aload_n 0, 1) := by decide +kernel
theorem dX0_copyFrom_20 : decode cX0_copyFrom 20 = .ok (.getfield 15, 3) := by decide +kernel
theorem dX0_copyFrom_23 : decode cX0_copyFrom 23 = .ok (.iconst 0, 1) := by decide +kernel
theorem dX0_copyFrom_24 : decode cX0_copyFrom 24 = .ok (.iconst 5, 1) := by decide +kernel
theorem dX0_copyFrom_25 : decode cX0_copyFrom 25 = .ok (.invokestatic 25, 3) := by decide +kernel
theorem dX0_copyFrom_28 : decode cX0_copyFrom 28 = .ok (.aload_n 1, 1) := by decide +kernel
theorem dX0_copyFrom_29 : decode cX0_copyFrom 29 = .ok (.getfield 18, 3) := by decide +kernel
theorem dX0_copyFrom_32 : decode cX0_copyFrom 32 = .ok (.iconst 0, 1) := by decide +kernel
theorem dX0_copyFrom_33 : decode cX0_copyFrom 33 = .ok (.aload_n 0, 1) := by decide +kernel
theorem dX0_copyFrom_34 : decode cX0_copyFrom 34 = .ok (.getfield 18, 3) := by decide +kernel
theorem dX0_copyFrom_37 : decode cX0_copyFrom 37 = .ok (.iconst 0, 1) := by decide +kernel
theorem dX0_copyFrom_38 : decode cX0_copyFrom 38 = .ok (.iconst 5, 1) := by decide +kernel
theorem dX0_copyFrom_39 : decode cX0_copyFrom 39 = .ok (.invokestatic 25, 3) := by decide +kernel
theorem dX0_copyFrom_42 : decode cX0_copyFrom 42 = .ok (.aload_n 0, 1) := by decide +kernel
theorem dX0_copyFrom_43 : decode cX0_copyFrom 43 = .ok (.aload_n 1, 1) := by decide +kernel
theorem dX0_copyFrom_44 : decode cX0_copyFrom 44 = .ok (.getfield 21, 3) := by decide +kernel
theorem dX0_copyFrom_47 : decode cX0_copyFrom 47 = .ok (.putfield 21, 3) := by decide +kernel
theorem dX0_copyFrom_50 : decode cX0_copyFrom 50 = .ok (.return_, 1) := by decide +kernel
theorem dX0_yearOf_0 : decode cX0_yearOf 0 = .ok (.aload_n 0, 1) := by decide +kernel
theorem dX0_yearOf_1 : decode cX0_yearOf 1 = .ok (.iload_n 1, 1) := by decide +kernel
theorem dX0_yearOf_2 : decode cX0_yearOf 2 = .ok (.invokevirtual 31, 3) := by decide +kernel
theorem dX0_yearOf_5 : decode cX0_yearOf 5 = .ok (.ifCond .eq 12, 3) := by decide +kernel
theorem dX0_yearOf_8 : decode cX0_yearOf 8 = .ok (.aload_n 0, 1) := by decide +kernel
theorem dX0_yearOf_9 : decode cX0_yearOf 9 = .ok (.getfield 9, 3) := by decide +kernel
theorem dX0_yearOf_12 : decode cX0_yearOf 12 = .ok (.iload_n 1, 1) := by decide +kernel
theorem dX0_yearOf_13 : decode cX0_yearOf 13 = .ok (.iaload, 1) := by decide +kernel
theorem dX0_yearOf_14 : decode cX0_yearOf 14 = .ok (.goto 4, 3) := by decide +kernel
theorem dX0_yearOf_17 : decode cX0_yearOf 17 = .ok (.iconst (-1), 1) := by decide +kernel
theorem dX0_yearOf_18 : decode cX0_yearOf 18 = .ok (.ireturn, 1) := by decide +kernel
theorem dX0_downOf_0 : decode cX0_downOf 0 = .ok (.aload_n 0, 1) := by decide +kernel
theorem dX0_downOf_1 : decode cX0_downOf 1 = .ok (.iload_n 1, 1) := by decide +kernel
theorem dX0_downOf_2 : decode cX0_downOf 2 = .ok (.invokevirtual 31, 3) := by decide +kernel
theorem dX0_downOf_5 : decode cX0_downOf 5 = .ok (.ifCond .eq 12, 3) := by decide +kernel
theorem dX0_downOf_8 : decode cX0_downOf 8 = .ok (.aload_n 0, 1) := by decide +kernel
theorem dX0_downOf_9 : decode cX0_downOf 9 = .ok (.getfield 15, 3) := by decide +kernel
theorem dX0_downOf_12 : decode cX0_downOf 12 = .ok (.iload_n 1, 1) := by decide +kernel
theorem dX0_downOf_13 : decode cX0_downOf 13 = .ok (.iaload, 1) := by decide +kernel
theorem dX0_downOf_14 : decode cX0_downOf 14 = .ok (.goto 4, 3) := by decide +kernel
theorem dX0_downOf_17 : decode cX0_downOf 17 = .ok (.iconst (-1), 1) := by decide +kernel
theorem dX0_downOf_18 : decode cX0_downOf 18 = .ok (.ireturn, 1) := by decide +kernel
theorem dX0_rightOf_0 : decode cX0_rightOf 0 = .ok (.aload_n 0, 1) := by decide +kernel
theorem dX0_rightOf_1 : decode cX0_rightOf 1 = .ok (.iload_n 1, 1) := by decide +kernel
theorem dX0_rightOf_2 : decode cX0_rightOf 2 = .ok (.invokevirtual 31, 3) := by decide +kernel
theorem dX0_rightOf_5 : decode cX0_rightOf 5 = .ok (.ifCond .eq 12, 3) := by decide +kernel
theorem dX0_rightOf_8 : decode cX0_rightOf 8 = .ok (.aload_n 0, 1) := by decide +kernel
theorem dX0_rightOf_9 : decode cX0_rightOf 9 = .ok (.getfield 18, 3) := by decide +kernel
theorem dX0_rightOf_12 : decode cX0_rightOf 12 = .ok (.iload_n 1, 1) := by decide +kernel
theorem dX0_rightOf_13 : decode cX0_rightOf 13 = .ok (.iaload, 1) := by decide +kernel
theorem dX0_rightOf_14 : decode cX0_rightOf 14 = .ok (.goto 4, 3) := by decide +kernel
theorem dX0_rightOf_17 : decode cX0_rightOf 17 = .ok (.iconst (-1), 1) := by decide +kernel
theorem dX0_rightOf_18 : decode cX0_rightOf 18 = .ok (.ireturn, 1) := by decide +kernel
theorem dX1_init_0 : decode cX1_init 0 = .ok (.aload_n 0, 1) := by decide +kernel
theorem dX1_init_1 : decode cX1_init 1 = .ok (.invokespecial 3, 3) := by decide +kernel
theorem dX1_init_4 : decode cX1_init 4 = .ok (.aload_n 0, 1) := by decide +kernel
theorem dX1_init_5 : decode cX1_init 5 = .ok (.new 9, 3) := by decide +kernel
theorem dX1_init_8 : decode cX1_init 8 = .ok (.dup, 1) := by decide +kernel
theorem dX1_init_9 : decode cX1_init 9 = .ok (.invokespecial 11, 3) := by decide +kernel
theorem dX1_init_12 : decode cX1_init 12 = .ok (.putfield 12, 3) := by decide +kernel
theorem dX1_init_15 : decode cX1_init 15 = .ok (.aload_n 0, 1) := by decide +kernel
theorem dX1_init_16 : decode cX1_init 16 = .ok (.new 18, 3) := by decide +kernel
theorem dX1_init_19 : decode cX1_init 19 = .ok (.dup, 1) := by decide +kernel
theorem dX1_init_20 : decode cX1_init 20 = .ok (.invokespecial 20, 3) := by decide +kernel
theorem dX1_init_23 : decode cX1_init 23 = .ok (.putfield 21, 3) := by decide +kernel
theorem dX1_init_26 : decode cX1_init 26 = .ok (.aload_n 0, 1) := by decide +kernel
theorem dX1_init_27 : decode cX1_init 27 = .ok (.new 25, 3) := by decide +kernel
theorem dX1_init_30 : decode cX1_init 30 = .ok (.dup, 1) := by decide +kernel
theorem dX1_init_31 : decode cX1_init 31 = .ok (.invokespecial 27, 3) := by decide +kernel
theorem dX1_init_34 : decode cX1_init 34 = .ok (.putfield 28, 3) := by decide +kernel
theorem dX1_init_37 : decode cX1_init 37 = .ok (.return_, 1) := by decide +kernel
theorem dX1_clear_0 : decode cX1_clear 0 = .ok (.aload_n 0, 1) := by decide +kernel
theorem dX1_clear_1 : decode cX1_clear 1 = .ok (.getfield 12, 3) := by decide +kernel
theorem dX1_clear_4 : decode cX1_clear 4 = .ok (.iconst 5, 1) := by decide +kernel
theorem dX1_clear_5 : decode cX1_clear 5 = .ok (.iconst 5, 1) := by decide +kernel
theorem dX1_clear_6 : decode cX1_clear 6 = .ok (.invokevirtual 32, 3) := by decide +kernel
theorem dX1_clear_9 : decode cX1_clear 9 = .ok (.pop, 1) := by decide +kernel
theorem dX1_clear_10 : decode cX1_clear 10 = .ok (.aload_n 0, 1) := by decide +kernel
theorem dX1_clear_11 : decode cX1_clear 11 = .ok (.getfield 21, 3) := by decide +kernel
theorem dX1_clear_14 : decode cX1_clear 14 = .ok (.invokevirtual 36, 3) := by decide +kernel
theorem dX1_clear_17 : decode cX1_clear 17 = .ok (.aload_n 0, 1) := by decide +kernel
theorem dX1_clear_18 : decode cX1_clear 18 = .ok (.getfield 28, 3) := by decide +kernel
theorem dX1_clear_21 : decode cX1_clear 21 = .ok (.invokevirtual 39, 3) := by decide +kernel
theorem dX1_clear_24 : decode cX1_clear 24 = .ok (.return_, 1) := by decide +kernel
theorem dX1_copyFrom_0 : decode cX1_copyFrom 0 = .ok (.aload_n 0, 1) := by decide +kernel
theorem dX1_copyFrom_1 : decode cX1_copyFrom 1 = .ok (.getfield 12, 3) := by decide +kernel
theorem dX1_copyFrom_4 : decode cX1_copyFrom 4 = .ok (.aload_n 1, 1) := by decide +kernel
theorem dX1_copyFrom_5 : decode cX1_copyFrom 5 = .ok (.getfield 12, 3) := by decide +kernel
theorem dX1_copyFrom_8 : decode cX1_copyFrom 8 = .ok (.getfield 40, 3) := by decide +kernel
theorem dX1_copyFrom_11 : decode cX1_copyFrom 11 = .ok (.aload_n 1, 1) := by decide +kernel
theorem dX1_copyFrom_12 : decode cX1_copyFrom 12 = .ok (.getfield 12, 3) := by decide +kernel
theorem dX1_copyFrom_15 : decode cX1_copyFrom 15 = .ok (.getfield 44, 3) := by decide +kernel
theorem dX1_copyFrom_18 : decode cX1_copyFrom 18 = .ok (.invokevirtual 32, 3) := by decide +kernel
theorem dX1_copyFrom_21 : decode cX1_copyFrom 21 = .ok (.pop, 1) := by decide +kernel
theorem dX1_copyFrom_22 : decode cX1_copyFrom 22 = .ok (.aload_n 0, 1) := by decide +kernel
theorem dX1_copyFrom_23 : decode cX1_copyFrom 23 = .ok (.getfield 21, 3) := by decide +kernel
theorem dX1_copyFrom_26 : decode cX1_copyFrom 26 = .ok (.aload_n 1, 1) := by decide +kernel
theorem dX1_copyFrom_27 : decode cX1_copyFrom 27 = .ok (.getfield 21, 3) := by decide +kernel
theorem dX1_copyFrom_30 : decode cX1_copyFrom 30 = .ok (.invokevirtual 47, 3) := by decide +kernel
theorem dX1_copyFrom_33 : decode cX1_copyFrom 33 = .ok (.aload_n 0, 1) := by decide +kernel
theorem dX1_copyFrom_34 : decode cX1_copyFrom 34 = .ok (.getfield 28, 3) := by decide +kernel
theorem dX1_copyFrom_37 : decode cX1_copyFrom 37 = .ok (.aload_n 1, 1) := by decide +kernel
theorem dX1_copyFrom_38 : decode cX1_copyFrom 38 = .ok (.getfield 28, 3) := by decide +kernel
theorem dX1_copyFrom_41 : decode cX1_copyFrom 41 = .ok (.invokevirtual 51, 3) := by decide +kernel
theorem dX1_copyFrom_44 : decode cX1_copyFrom 44 = .ok (.return_, 1) := by decide +kernel
theorem dX1_drawnCells_0 : decode cX1_drawnCells 0 = .ok (.lconst 0, 1) := by decide +kernel
theorem dX1_drawnCells_1 : decode cX1_drawnCells 1 = .ok (.lstore_n 2, 1) := by decide +kernel
theorem dX1_drawnCells_2 : decode cX1_drawnCells 2 = .ok (.iconst 0, 1) := by decide +kernel
theorem dX1_drawnCells_3 : decode cX1_drawnCells 3 = .ok (.istore 4, 2) := by decide +kernel
theorem dX1_drawnCells_5 : decode cX1_drawnCells 5 = .ok (.iload 4, 2) := by decide +kernel
theorem dX1_drawnCells_7 : decode cX1_drawnCells 7 = .ok (.aload_n 0, 1) := by decide +kernel
theorem dX1_drawnCells_8 : decode cX1_drawnCells 8 = .ok (.getfield 21, 3) := by decide +kernel
theorem dX1_drawnCells_11 : decode cX1_drawnCells 11 = .ok (.invokevirtual 54, 3) := by decide +kernel
theorem dX1_drawnCells_14 : decode cX1_drawnCells 14 = .ok (.if_icmp .ge 47, 3) := by decide +kernel
theorem dX1_drawnCells_17 : decode cX1_drawnCells 17 = .ok (.aload_n 0, 1) := by decide +kernel
theorem dX1_drawnCells_18 : decode cX1_drawnCells 18 = .ok (.getfield 21, 3) := by decide +kernel
theorem dX1_drawnCells_21 : decode cX1_drawnCells 21 = .ok (.iload 4, 2) := by decide +kernel
theorem dX1_drawnCells_23 : decode cX1_drawnCells 23 = .ok (.iload_n 1, 1) := by decide +kernel
theorem dX1_drawnCells_24 : decode cX1_drawnCells 24 = .ok (.invokevirtual 58, 3) := by decide +kernel
theorem dX1_drawnCells_27 : decode cX1_drawnCells 27 = .ok (.ifCond .eq 28, 3) := by decide +kernel
theorem dX1_drawnCells_30 : decode cX1_drawnCells 30 = .ok (.aload_n 0, 1) := by decide +kernel
theorem dX1_drawnCells_31 : decode cX1_drawnCells 31 = .ok (.getfield 21, 3) := by decide +kernel
theorem dX1_drawnCells_34 : decode cX1_drawnCells 34 = .ok (.iload 4, 2) := by decide +kernel
theorem dX1_drawnCells_36 : decode cX1_drawnCells 36 = .ok (.invokevirtual 61, 3) := by decide +kernel
theorem dX1_drawnCells_39 : decode cX1_drawnCells 39 = .ok (.iconst 3, 1) := by decide +kernel
theorem dX1_drawnCells_40 : decode cX1_drawnCells 40 = .ok (.if_icmp .eq 15, 3) := by decide +kernel
theorem dX1_drawnCells_43 : decode cX1_drawnCells 43 = .ok (.lload_n 2, 1) := by decide +kernel
theorem dX1_drawnCells_44 : decode cX1_drawnCells 44 = .ok (.aload_n 0, 1) := by decide +kernel
theorem dX1_drawnCells_45 : decode cX1_drawnCells 45 = .ok (.iload 4, 2) := by decide +kernel
theorem dX1_drawnCells_47 : decode cX1_drawnCells 47 = .ok (.invokevirtual 65, 3) := by decide +kernel
theorem dX1_drawnCells_50 : decode cX1_drawnCells 50 = .ok (.invokestatic 68, 3) := by decide +kernel
theorem dX1_drawnCells_53 : decode cX1_drawnCells 53 = .ok (.lor, 1) := by decide +kernel
theorem dX1_drawnCells_54 : decode cX1_drawnCells 54 = .ok (.lstore_n 2, 1) := by decide +kernel
theorem dX1_drawnCells_55 : decode cX1_drawnCells 55 = .ok (.iinc 4 1, 3) := by decide +kernel
theorem dX1_drawnCells_58 : decode cX1_drawnCells 58 = .ok (.goto (-53), 3) := by decide +kernel
theorem dX1_drawnCells_61 : decode cX1_drawnCells 61 = .ok (.lload_n 2, 1) := by decide +kernel
theorem dX1_drawnCells_62 : decode cX1_drawnCells 62 = .ok (.lreturn, 1) := by decide +kernel
theorem dX1_burnableDrawnCells_0 : decode cX1_burnableDrawnCells 0 = .ok (.lconst 0, 1) := by decide +kernel
theorem dX1_burnableDrawnCells_1 : decode cX1_burnableDrawnCells 1 = .ok (.lstore_n 1, 1) := by decide +kernel
theorem dX1_burnableDrawnCells_2 : decode cX1_burnableDrawnCells 2 = .ok (.iconst 0, 1) := by decide +kernel
theorem dX1_burnableDrawnCells_3 : decode cX1_burnableDrawnCells 3 = .ok (.istore_n 3, 1) := by decide +kernel
theorem dX1_burnableDrawnCells_4 : decode cX1_burnableDrawnCells 4 = .ok (.iload_n 3, 1) := by decide +kernel
theorem dX1_burnableDrawnCells_5 : decode cX1_burnableDrawnCells 5 = .ok (.aload_n 0, 1) := by decide +kernel
theorem dX1_burnableDrawnCells_6 : decode cX1_burnableDrawnCells 6 = .ok (.getfield 21, 3) := by decide +kernel
theorem dX1_burnableDrawnCells_9 : decode cX1_burnableDrawnCells 9 = .ok (.invokevirtual 54, 3) := by decide +kernel
theorem dX1_burnableDrawnCells_12 : decode cX1_burnableDrawnCells 12 = .ok (.if_icmp .ge 43, 3) := by decide +kernel
theorem dX1_burnableDrawnCells_15 : decode cX1_burnableDrawnCells 15 = .ok (.aload_n 0, 1) := by decide +kernel
theorem dX1_burnableDrawnCells_16 : decode cX1_burnableDrawnCells 16 = .ok (.getfield 21, 3) := by decide +kernel
theorem dX1_burnableDrawnCells_19 : decode cX1_burnableDrawnCells 19 = .ok (.iload_n 3, 1) := by decide +kernel
theorem dX1_burnableDrawnCells_20 : decode cX1_burnableDrawnCells 20 = .ok (.invokevirtual 72, 3) := by decide +kernel
theorem dX1_burnableDrawnCells_23 : decode cX1_burnableDrawnCells 23 = .ok (.ifCond .eq 26, 3) := by decide +kernel
theorem dX1_burnableDrawnCells_26 : decode cX1_burnableDrawnCells 26 = .ok (.aload_n 0, 1) := by decide +kernel
theorem dX1_burnableDrawnCells_27 : decode cX1_burnableDrawnCells 27 = .ok (.getfield 21, 3) := by decide +kernel
theorem dX1_burnableDrawnCells_30 : decode cX1_burnableDrawnCells 30 = .ok (.iload_n 3, 1) := by decide +kernel
theorem dX1_burnableDrawnCells_31 : decode cX1_burnableDrawnCells 31 = .ok (.invokevirtual 61, 3) := by decide +kernel
theorem dX1_burnableDrawnCells_34 : decode cX1_burnableDrawnCells 34 = .ok (.iconst 3, 1) := by decide +kernel
theorem dX1_burnableDrawnCells_35 : decode cX1_burnableDrawnCells 35 = .ok (.if_icmp .eq 14, 3) := by decide +kernel
theorem dX1_burnableDrawnCells_38 : decode cX1_burnableDrawnCells 38 = .ok (.lload_n 1, 1) := by decide +kernel
theorem dX1_burnableDrawnCells_39 : decode cX1_burnableDrawnCells 39 = .ok (.aload_n 0, 1) := by decide +kernel
theorem dX1_burnableDrawnCells_40 : decode cX1_burnableDrawnCells 40 = .ok (.iload_n 3, 1) := by decide +kernel
theorem dX1_burnableDrawnCells_41 : decode cX1_burnableDrawnCells 41 = .ok (.invokevirtual 65, 3) := by decide +kernel
theorem dX1_burnableDrawnCells_44 : decode cX1_burnableDrawnCells 44 = .ok (.invokestatic 68, 3) := by decide +kernel
theorem dX1_burnableDrawnCells_47 : decode cX1_burnableDrawnCells 47 = .ok (.lor, 1) := by decide +kernel
theorem dX1_burnableDrawnCells_48 : decode cX1_burnableDrawnCells 48 = .ok (.lstore_n 1, 1) := by decide +kernel
theorem dX1_burnableDrawnCells_49 : decode cX1_burnableDrawnCells 49 = .ok (.iinc 3 1, 3) := by decide +kernel
theorem dX1_burnableDrawnCells_52 : decode cX1_burnableDrawnCells 52 = .ok (.goto (-48), 3) := by decide +kernel
theorem dX1_burnableDrawnCells_55 : decode cX1_burnableDrawnCells 55 = .ok (.lload_n 1, 1) := by decide +kernel
theorem dX1_burnableDrawnCells_56 : decode cX1_burnableDrawnCells 56 = .ok (.lreturn, 1) := by decide +kernel
theorem dX1_shownBy_0 : decode cX1_shownBy 0 = .ok (.aload_n 0, 1) := by decide +kernel
theorem dX1_shownBy_1 : decode cX1_shownBy 1 = .ok (.getfield 28, 3) := by decide +kernel
theorem dX1_shownBy_4 : decode cX1_shownBy 4 = .ok (.iload_n 1, 1) := by decide +kernel
theorem dX1_shownBy_5 : decode cX1_shownBy 5 = .ok (.invokevirtual 76, 3) := by decide +kernel
theorem dX1_shownBy_8 : decode cX1_shownBy 8 = .ok (.iconst 2, 1) := by decide +kernel
theorem dX1_shownBy_9 : decode cX1_shownBy 9 = .ok (.isub, 1) := by decide +kernel
theorem dX1_shownBy_10 : decode cX1_shownBy 10 = .ok (.istore_n 2, 1) := by decide +kernel
theorem dX1_shownBy_11 : decode cX1_shownBy 11 = .ok (.aload_n 0, 1) := by decide +kernel
theorem dX1_shownBy_12 : decode cX1_shownBy 12 = .ok (.getfield 28, 3) := by decide +kernel
theorem dX1_shownBy_15 : decode cX1_shownBy 15 = .ok (.iload_n 1, 1) := by decide +kernel
theorem dX1_shownBy_16 : decode cX1_shownBy 16 = .ok (.invokevirtual 79, 3) := by decide +kernel
theorem dX1_shownBy_19 : decode cX1_shownBy 19 = .ok (.iconst 2, 1) := by decide +kernel
theorem dX1_shownBy_20 : decode cX1_shownBy 20 = .ok (.isub, 1) := by decide +kernel
theorem dX1_shownBy_21 : decode cX1_shownBy 21 = .ok (.istore_n 3, 1) := by decide +kernel
theorem dX1_shownBy_22 : decode cX1_shownBy 22 = .ok (.aload_n 0, 1) := by decide +kernel
theorem dX1_shownBy_23 : decode cX1_shownBy 23 = .ok (.getfield 12, 3) := by decide +kernel
theorem dX1_shownBy_26 : decode cX1_shownBy 26 = .ok (.aload_n 0, 1) := by decide +kernel
theorem dX1_shownBy_27 : decode cX1_shownBy 27 = .ok (.aload_n 0, 1) := by decide +kernel
theorem dX1_shownBy_28 : decode cX1_shownBy 28 = .ok (.getfield 28, 3) := by decide +kernel
theorem dX1_shownBy_31 : decode cX1_shownBy 31 = .ok (.iload_n 1, 1) := by decide +kernel
theorem dX1_shownBy_32 : decode cX1_shownBy 32 = .ok (.invokevirtual 82, 3) := by decide +kernel
theorem dX1_shownBy_35 : decode cX1_shownBy 35 = .ok (.invokevirtual 85, 3) := by decide +kernel
theorem dX1_shownBy_38 : decode cX1_shownBy 38 = .ok (.iload_n 2, 1) := by decide +kernel
theorem dX1_shownBy_39 : decode cX1_shownBy 39 = .ok (.iload_n 3, 1) := by decide +kernel
theorem dX1_shownBy_40 : decode cX1_shownBy 40 = .ok (.invokevirtual 88, 3) := by decide +kernel
theorem dX1_shownBy_43 : decode cX1_shownBy 43 = .ok (.lreturn, 1) := by decide +kernel
theorem dX1_placeDrawn_0 : decode cX1_placeDrawn 0 = .ok (.aload_n 0, 1) := by decide +kernel
theorem dX1_placeDrawn_1 : decode cX1_placeDrawn 1 = .ok (.getfield 21, 3) := by decide +kernel
theorem dX1_placeDrawn_4 : decode cX1_placeDrawn 4 = .ok (.iload_n 1, 1) := by decide +kernel
theorem dX1_placeDrawn_5 : decode cX1_placeDrawn 5 = .ok (.invokevirtual 92, 3) := by decide +kernel
theorem dX1_placeDrawn_8 : decode cX1_placeDrawn 8 = .ok (.istore_n 2, 1) := by decide +kernel
theorem dX1_placeDrawn_9 : decode cX1_placeDrawn 9 = .ok (.aload_n 0, 1) := by decide +kernel
theorem dX1_placeDrawn_10 : decode cX1_placeDrawn 10 = .ok (.getfield 12, 3) := by decide +kernel
theorem dX1_placeDrawn_13 : decode cX1_placeDrawn 13 = .ok (.iload_n 2, 1) := by decide +kernel
theorem dX1_placeDrawn_14 : decode cX1_placeDrawn 14 = .ok (.iconst 0, 1) := by decide +kernel
theorem dX1_placeDrawn_15 : decode cX1_placeDrawn 15 = .ok (.iconst 1, 1) := by decide +kernel
theorem dX1_placeDrawn_16 : decode cX1_placeDrawn 16 = .ok (.invokevirtual 95, 3) := by decide +kernel
theorem dX1_placeDrawn_19 : decode cX1_placeDrawn 19 = .ok (.istore_n 3, 1) := by decide +kernel
theorem dX1_placeDrawn_20 : decode cX1_placeDrawn 20 = .ok (.aload_n 0, 1) := by decide +kernel
theorem dX1_placeDrawn_21 : decode cX1_placeDrawn 21 = .ok (.getfield 21, 3) := by decide +kernel
theorem dX1_placeDrawn_24 : decode cX1_placeDrawn 24 = .ok (.iload_n 1, 1) := by decide +kernel
theorem dX1_placeDrawn_25 : decode cX1_placeDrawn 25 = .ok (.invokevirtual 61, 3) := by decide +kernel
theorem dX1_placeDrawn_28 : decode cX1_placeDrawn 28 = .ok (.iconst 2, 1) := by decide +kernel
theorem dX1_placeDrawn_29 : decode cX1_placeDrawn 29 = .ok (.if_icmp .ne 12, 3) := by decide +kernel
theorem dX1_placeDrawn_32 : decode cX1_placeDrawn 32 = .ok (.iload_n 3, 1) := by decide +kernel
theorem dX1_placeDrawn_33 : decode cX1_placeDrawn 33 = .ok (.iconst (-1), 1) := by decide +kernel
theorem dX1_placeDrawn_34 : decode cX1_placeDrawn 34 = .ok (.if_icmp .eq 7, 3) := by decide +kernel
theorem dX1_placeDrawn_37 : decode cX1_placeDrawn 37 = .ok (.iload_n 3, 1) := by decide +kernel
theorem dX1_placeDrawn_38 : decode cX1_placeDrawn 38 = .ok (.goto 4, 3) := by decide +kernel
theorem dX1_placeDrawn_41 : decode cX1_placeDrawn 41 = .ok (.iload_n 2, 1) := by decide +kernel
theorem dX1_placeDrawn_42 : decode cX1_placeDrawn 42 = .ok (.ireturn, 1) := by decide +kernel
theorem dX1_ordersOfFall_0 : decode cX1_ordersOfFall 0 = .ok (.iconst 1, 1) := by decide +kernel
theorem dX1_ordersOfFall_1 : decode cX1_ordersOfFall 1 = .ok (.istore_n 1, 1) := by decide +kernel
theorem dX1_ordersOfFall_2 : decode cX1_ordersOfFall 2 = .ok (.iconst 0, 1) := by decide +kernel
theorem dX1_ordersOfFall_3 : decode cX1_ordersOfFall 3 = .ok (.istore_n 2, 1) := by decide +kernel
theorem dX1_ordersOfFall_4 : decode cX1_ordersOfFall 4 = .ok (.iload_n 2, 1) := by decide +kernel
theorem dX1_ordersOfFall_5 : decode cX1_ordersOfFall 5 = .ok (.aload_n 0, 1) := by decide +kernel
theorem dX1_ordersOfFall_6 : decode cX1_ordersOfFall 6 = .ok (.getfield 21, 3) := by decide +kernel
theorem dX1_ordersOfFall_9 : decode cX1_ordersOfFall 9 = .ok (.invokevirtual 54, 3) := by decide +kernel
theorem dX1_ordersOfFall_12 : decode cX1_ordersOfFall 12 = .ok (.if_icmp .ge 65, 3) := by decide +kernel
theorem dX1_ordersOfFall_15 : decode cX1_ordersOfFall 15 = .ok (.aload_n 0, 1) := by decide +kernel
theorem dX1_ordersOfFall_16 : decode cX1_ordersOfFall 16 = .ok (.iload_n 2, 1) := by decide +kernel
theorem dX1_ordersOfFall_17 : decode cX1_ordersOfFall 17 = .ok (.invokevirtual 99, 3) := by decide +kernel
theorem dX1_ordersOfFall_20 : decode cX1_ordersOfFall 20 = .ok (.istore_n 3, 1) := by decide +kernel
theorem dX1_ordersOfFall_21 : decode cX1_ordersOfFall 21 = .ok (.iload_n 3, 1) := by decide +kernel
theorem dX1_ordersOfFall_22 : decode cX1_ordersOfFall 22 = .ok (.sipush 1000, 3) := by decide +kernel
theorem dX1_ordersOfFall_25 : decode cX1_ordersOfFall 25 = .ok (.if_icmp .eq 46, 3) := by decide +kernel
theorem dX1_ordersOfFall_28 : decode cX1_ordersOfFall 28 = .ok (.iconst 1, 1) := by decide +kernel
theorem dX1_ordersOfFall_29 : decode cX1_ordersOfFall 29 = .ok (.istore 4, 2) := by decide +kernel
theorem dX1_ordersOfFall_31 : decode cX1_ordersOfFall 31 = .ok (.iconst 0, 1) := by decide +kernel
theorem dX1_ordersOfFall_32 : decode cX1_ordersOfFall 32 = .ok (.istore 5, 2) := by decide +kernel
theorem dX1_ordersOfFall_34 : decode cX1_ordersOfFall 34 = .ok (.iload 5, 2) := by decide +kernel
theorem dX1_ordersOfFall_36 : decode cX1_ordersOfFall 36 = .ok (.iload_n 2, 1) := by decide +kernel
theorem dX1_ordersOfFall_37 : decode cX1_ordersOfFall 37 = .ok (.if_icmp .ge 29, 3) := by decide +kernel
theorem dX1_ordersOfFall_40 : decode cX1_ordersOfFall 40 = .ok (.iload 4, 2) := by decide +kernel
theorem dX1_ordersOfFall_42 : decode cX1_ordersOfFall 42 = .ok (.aload_n 0, 1) := by decide +kernel
theorem dX1_ordersOfFall_43 : decode cX1_ordersOfFall 43 = .ok (.iload 5, 2) := by decide +kernel
theorem dX1_ordersOfFall_45 : decode cX1_ordersOfFall 45 = .ok (.invokevirtual 99, 3) := by decide +kernel
theorem dX1_ordersOfFall_48 : decode cX1_ordersOfFall 48 = .ok (.iload_n 3, 1) := by decide +kernel
theorem dX1_ordersOfFall_49 : decode cX1_ordersOfFall 49 = .ok (.if_icmp .ne 7, 3) := by decide +kernel
theorem dX1_ordersOfFall_52 : decode cX1_ordersOfFall 52 = .ok (.iconst 1, 1) := by decide +kernel
theorem dX1_ordersOfFall_53 : decode cX1_ordersOfFall 53 = .ok (.goto 4, 3) := by decide +kernel
theorem dX1_ordersOfFall_56 : decode cX1_ordersOfFall 56 = .ok (.iconst 0, 1) := by decide +kernel
theorem dX1_ordersOfFall_57 : decode cX1_ordersOfFall 57 = .ok (.iadd, 1) := by decide +kernel
theorem dX1_ordersOfFall_58 : decode cX1_ordersOfFall 58 = .ok (.istore 4, 2) := by decide +kernel
theorem dX1_ordersOfFall_60 : decode cX1_ordersOfFall 60 = .ok (.iinc 5 1, 3) := by decide +kernel
theorem dX1_ordersOfFall_63 : decode cX1_ordersOfFall 63 = .ok (.goto (-29), 3) := by decide +kernel
theorem dX1_ordersOfFall_66 : decode cX1_ordersOfFall 66 = .ok (.iload_n 1, 1) := by decide +kernel
theorem dX1_ordersOfFall_67 : decode cX1_ordersOfFall 67 = .ok (.iload 4, 2) := by decide +kernel
theorem dX1_ordersOfFall_69 : decode cX1_ordersOfFall 69 = .ok (.imul, 1) := by decide +kernel
theorem dX1_ordersOfFall_70 : decode cX1_ordersOfFall 70 = .ok (.istore_n 1, 1) := by decide +kernel
theorem dX1_ordersOfFall_71 : decode cX1_ordersOfFall 71 = .ok (.iinc 2 1, 3) := by decide +kernel
theorem dX1_ordersOfFall_74 : decode cX1_ordersOfFall 74 = .ok (.goto (-70), 3) := by decide +kernel
theorem dX1_ordersOfFall_77 : decode cX1_ordersOfFall 77 = .ok (.iload_n 1, 1) := by decide +kernel
theorem dX1_ordersOfFall_78 : decode cX1_ordersOfFall 78 = .ok (.ireturn, 1) := by decide +kernel
theorem dX1_yearMapped_0 : decode cX1_yearMapped 0 = .ok (.sipush 1000, 3) := by decide +kernel
theorem dX1_yearMapped_3 : decode cX1_yearMapped 3 = .ok (.istore_n 2, 1) := by decide +kernel
theorem dX1_yearMapped_4 : decode cX1_yearMapped 4 = .ok (.iconst 0, 1) := by decide +kernel
theorem dX1_yearMapped_5 : decode cX1_yearMapped 5 = .ok (.istore_n 3, 1) := by decide +kernel
theorem dX1_yearMapped_6 : decode cX1_yearMapped 6 = .ok (.iload_n 3, 1) := by decide +kernel
theorem dX1_yearMapped_7 : decode cX1_yearMapped 7 = .ok (.aload_n 0, 1) := by decide +kernel
theorem dX1_yearMapped_8 : decode cX1_yearMapped 8 = .ok (.getfield 28, 3) := by decide +kernel
theorem dX1_yearMapped_11 : decode cX1_yearMapped 11 = .ok (.invokevirtual 102, 3) := by decide +kernel
theorem dX1_yearMapped_14 : decode cX1_yearMapped 14 = .ok (.if_icmp .ge 53, 3) := by decide +kernel
theorem dX1_yearMapped_17 : decode cX1_yearMapped 17 = .ok (.aload_n 0, 1) := by decide +kernel
theorem dX1_yearMapped_18 : decode cX1_yearMapped 18 = .ok (.getfield 21, 3) := by decide +kernel
theorem dX1_yearMapped_21 : decode cX1_yearMapped 21 = .ok (.iload_n 1, 1) := by decide +kernel
theorem dX1_yearMapped_22 : decode cX1_yearMapped 22 = .ok (.invokevirtual 61, 3) := by decide +kernel
theorem dX1_yearMapped_25 : decode cX1_yearMapped 25 = .ok (.iconst 3, 1) := by decide +kernel
theorem dX1_yearMapped_26 : decode cX1_yearMapped 26 = .ok (.if_icmp .eq 35, 3) := by decide +kernel
theorem dX1_yearMapped_29 : decode cX1_yearMapped 29 = .ok (.aload_n 0, 1) := by decide +kernel
theorem dX1_yearMapped_30 : decode cX1_yearMapped 30 = .ok (.getfield 21, 3) := by decide +kernel
theorem dX1_yearMapped_33 : decode cX1_yearMapped 33 = .ok (.iload_n 1, 1) := by decide +kernel
theorem dX1_yearMapped_34 : decode cX1_yearMapped 34 = .ok (.aload_n 0, 1) := by decide +kernel
theorem dX1_yearMapped_35 : decode cX1_yearMapped 35 = .ok (.getfield 28, 3) := by decide +kernel
theorem dX1_yearMapped_38 : decode cX1_yearMapped 38 = .ok (.iload_n 3, 1) := by decide +kernel
theorem dX1_yearMapped_39 : decode cX1_yearMapped 39 = .ok (.invokevirtual 82, 3) := by decide +kernel
theorem dX1_yearMapped_42 : decode cX1_yearMapped 42 = .ok (.invokevirtual 58, 3) := by decide +kernel
theorem dX1_yearMapped_45 : decode cX1_yearMapped 45 = .ok (.ifCond .eq 16, 3) := by decide +kernel
theorem dX1_yearMapped_48 : decode cX1_yearMapped 48 = .ok (.iload_n 2, 1) := by decide +kernel
theorem dX1_yearMapped_49 : decode cX1_yearMapped 49 = .ok (.aload_n 0, 1) := by decide +kernel
theorem dX1_yearMapped_50 : decode cX1_yearMapped 50 = .ok (.getfield 28, 3) := by decide +kernel
theorem dX1_yearMapped_53 : decode cX1_yearMapped 53 = .ok (.iload_n 3, 1) := by decide +kernel
theorem dX1_yearMapped_54 : decode cX1_yearMapped 54 = .ok (.invokevirtual 82, 3) := by decide +kernel
theorem dX1_yearMapped_57 : decode cX1_yearMapped 57 = .ok (.invokestatic 103, 3) := by decide +kernel
theorem dX1_yearMapped_60 : decode cX1_yearMapped 60 = .ok (.istore_n 2, 1) := by decide +kernel
theorem dX1_yearMapped_61 : decode cX1_yearMapped 61 = .ok (.iinc 3 1, 3) := by decide +kernel
theorem dX1_yearMapped_64 : decode cX1_yearMapped 64 = .ok (.goto (-58), 3) := by decide +kernel
theorem dX1_yearMapped_67 : decode cX1_yearMapped 67 = .ok (.iload_n 2, 1) := by decide +kernel
theorem dX1_yearMapped_68 : decode cX1_yearMapped 68 = .ok (.ireturn, 1) := by decide +kernel
theorem dX2_init_0 : decode cX2_init 0 = .ok (.aload_n 0, 1) := by decide +kernel
theorem dX2_init_1 : decode cX2_init 1 = .ok (.invokespecial 3, 3) := by decide +kernel
theorem dX2_init_4 : decode cX2_init 4 = .ok (.aload_n 0, 1) := by decide +kernel
theorem dX2_init_5 : decode cX2_init 5 = .ok (.iconst 5, 1) := by decide +kernel
theorem dX2_init_6 : decode cX2_init 6 = .ok (.putfield 9, 3) := by decide +kernel
theorem dX2_init_9 : decode cX2_init 9 = .ok (.aload_n 0, 1) := by decide +kernel
theorem dX2_init_10 : decode cX2_init 10 = .ok (.iconst 5, 1) := by decide +kernel
theorem dX2_init_11 : decode cX2_init 11 = .ok (.putfield 15, 3) := by decide +kernel
theorem dX2_init_14 : decode cX2_init 14 = .ok (.return_, 1) := by decide +kernel
theorem dX2_resize_0 : decode cX2_resize 0 = .ok (.iload_n 1, 1) := by decide +kernel
theorem dX2_resize_1 : decode cX2_resize 1 = .ok (.invokestatic 18, 3) := by decide +kernel
theorem dX2_resize_4 : decode cX2_resize 4 = .ok (.ifCond .eq 10, 3) := by decide +kernel
theorem dX2_resize_7 : decode cX2_resize 7 = .ok (.iload_n 2, 1) := by decide +kernel
theorem dX2_resize_8 : decode cX2_resize 8 = .ok (.invokestatic 18, 3) := by decide +kernel
theorem dX2_resize_11 : decode cX2_resize 11 = .ok (.ifCond .ne 5, 3) := by decide +kernel
theorem dX2_resize_14 : decode cX2_resize 14 = .ok (.iconst 0, 1) := by decide +kernel
theorem dX2_resize_15 : decode cX2_resize 15 = .ok (.ireturn, 1) := by decide +kernel
theorem dX2_resize_16 : decode cX2_resize 16 = .ok (.aload_n 0, 1) := by decide +kernel
theorem dX2_resize_17 : decode cX2_resize 17 = .ok (.iload_n 1, 1) := by decide +kernel
theorem dX2_resize_18 : decode cX2_resize 18 = .ok (.putfield 9, 3) := by decide +kernel
theorem dX2_resize_21 : decode cX2_resize 21 = .ok (.aload_n 0, 1) := by decide +kernel
theorem dX2_resize_22 : decode cX2_resize 22 = .ok (.iload_n 2, 1) := by decide +kernel
theorem dX2_resize_23 : decode cX2_resize 23 = .ok (.putfield 15, 3) := by decide +kernel
theorem dX2_resize_26 : decode cX2_resize 26 = .ok (.iconst 1, 1) := by decide +kernel
theorem dX2_resize_27 : decode cX2_resize 27 = .ok (.ireturn, 1) := by decide +kernel
theorem dX2_isSide_0 : decode cX2_isSide 0 = .ok (.iload_n 0, 1) := by decide +kernel
theorem dX2_isSide_1 : decode cX2_isSide 1 = .ok (.iconst 2, 1) := by decide +kernel
theorem dX2_isSide_2 : decode cX2_isSide 2 = .ok (.if_icmp .lt 13, 3) := by decide +kernel
theorem dX2_isSide_5 : decode cX2_isSide 5 = .ok (.iload_n 0, 1) := by decide +kernel
theorem dX2_isSide_6 : decode cX2_isSide 6 = .ok (.bipush 8, 2) := by decide +kernel
theorem dX2_isSide_8 : decode cX2_isSide 8 = .ok (.if_icmp .gt 7, 3) := by decide +kernel
theorem dX2_isSide_11 : decode cX2_isSide 11 = .ok (.iconst 1, 1) := by decide +kernel
theorem dX2_isSide_12 : decode cX2_isSide 12 = .ok (.goto 4, 3) := by decide +kernel
theorem dX2_isSide_15 : decode cX2_isSide 15 = .ok (.iconst 0, 1) := by decide +kernel
theorem dX2_isSide_16 : decode cX2_isSide 16 = .ok (.ireturn, 1) := by decide +kernel
theorem dX2_cells_0 : decode cX2_cells 0 = .ok (.aload_n 0, 1) := by decide +kernel
theorem dX2_cells_1 : decode cX2_cells 1 = .ok (.getfield 9, 3) := by decide +kernel
theorem dX2_cells_4 : decode cX2_cells 4 = .ok (.aload_n 0, 1) := by decide +kernel
theorem dX2_cells_5 : decode cX2_cells 5 = .ok (.getfield 15, 3) := by decide +kernel
theorem dX2_cells_8 : decode cX2_cells 8 = .ok (.imul, 1) := by decide +kernel
theorem dX2_cells_9 : decode cX2_cells 9 = .ok (.ireturn, 1) := by decide +kernel
theorem dX2_has_0 : decode cX2_has 0 = .ok (.iload_n 1, 1) := by decide +kernel
theorem dX2_has_1 : decode cX2_has 1 = .ok (.ifCond .lt 15, 3) := by decide +kernel
theorem dX2_has_4 : decode cX2_has 4 = .ok (.iload_n 1, 1) := by decide +kernel
theorem dX2_has_5 : decode cX2_has 5 = .ok (.aload_n 0, 1) := by decide +kernel
theorem dX2_has_6 : decode cX2_has 6 = .ok (.invokevirtual 22, 3) := by decide +kernel
theorem dX2_has_9 : decode cX2_has 9 = .ok (.if_icmp .ge 7, 3) := by decide +kernel
theorem dX2_has_12 : decode cX2_has 12 = .ok (.iconst 1, 1) := by decide +kernel
theorem dX2_has_13 : decode cX2_has 13 = .ok (.goto 4, 3) := by decide +kernel
theorem dX2_has_16 : decode cX2_has 16 = .ok (.iconst 0, 1) := by decide +kernel
theorem dX2_has_17 : decode cX2_has 17 = .ok (.ireturn, 1) := by decide +kernel
theorem dX2_rowOf_0 : decode cX2_rowOf 0 = .ok (.aload_n 0, 1) := by decide +kernel
theorem dX2_rowOf_1 : decode cX2_rowOf 1 = .ok (.getfield 15, 3) := by decide +kernel
theorem dX2_rowOf_4 : decode cX2_rowOf 4 = .ok (.ifCond .le 12, 3) := by decide +kernel
theorem dX2_rowOf_7 : decode cX2_rowOf 7 = .ok (.iload_n 1, 1) := by decide +kernel
theorem dX2_rowOf_8 : decode cX2_rowOf 8 = .ok (.aload_n 0, 1) := by decide +kernel
theorem dX2_rowOf_9 : decode cX2_rowOf 9 = .ok (.getfield 15, 3) := by decide +kernel
theorem dX2_rowOf_12 : decode cX2_rowOf 12 = .ok (.idiv, 1) := by decide +kernel
theorem dX2_rowOf_13 : decode cX2_rowOf 13 = .ok (.goto 4, 3) := by decide +kernel
theorem dX2_rowOf_16 : decode cX2_rowOf 16 = .ok (.iconst 0, 1) := by decide +kernel
theorem dX2_rowOf_17 : decode cX2_rowOf 17 = .ok (.ireturn, 1) := by decide +kernel
theorem dX2_columnOf_0 : decode cX2_columnOf 0 = .ok (.iload_n 1, 1) := by decide +kernel
theorem dX2_columnOf_1 : decode cX2_columnOf 1 = .ok (.aload_n 0, 1) := by decide +kernel
theorem dX2_columnOf_2 : decode cX2_columnOf 2 = .ok (.iload_n 1, 1) := by decide +kernel
theorem dX2_columnOf_3 : decode cX2_columnOf 3 = .ok (.invokevirtual 26, 3) := by decide +kernel
theorem dX2_columnOf_6 : decode cX2_columnOf 6 = .ok (.aload_n 0, 1) := by decide +kernel
theorem dX2_columnOf_7 : decode cX2_columnOf 7 = .ok (.getfield 15, 3) := by decide +kernel
theorem dX2_columnOf_10 : decode cX2_columnOf 10 = .ok (.imul, 1) := by decide +kernel
theorem dX2_columnOf_11 : decode cX2_columnOf 11 = .ok (.isub, 1) := by decide +kernel
theorem dX2_columnOf_12 : decode cX2_columnOf 12 = .ok (.ireturn, 1) := by decide +kernel
theorem dX2_shift_0 : decode cX2_shift 0 = .ok (.aload_n 0, 1) := by decide +kernel
theorem dX2_shift_1 : decode cX2_shift 1 = .ok (.iload_n 1, 1) := by decide +kernel
theorem dX2_shift_2 : decode cX2_shift 2 = .ok (.invokevirtual 26, 3) := by decide +kernel
theorem dX2_shift_5 : decode cX2_shift 5 = .ok (.iload_n 2, 1) := by decide +kernel
theorem dX2_shift_6 : decode cX2_shift 6 = .ok (.iadd, 1) := by decide +kernel
theorem dX2_shift_7 : decode cX2_shift 7 = .ok (.istore 4, 2) := by decide +kernel
theorem dX2_shift_9 : decode cX2_shift 9 = .ok (.aload_n 0, 1) := by decide +kernel
theorem dX2_shift_10 : decode cX2_shift 10 = .ok (.iload_n 1, 1) := by decide +kernel
theorem dX2_shift_11 : decode cX2_shift 11 = .ok (.invokevirtual 30, 3) := by decide +kernel
theorem dX2_shift_14 : decode cX2_shift 14 = .ok (.iload_n 3, 1) := by decide +kernel
theorem dX2_shift_15 : decode cX2_shift 15 = .ok (.iadd, 1) := by decide +kernel
theorem dX2_shift_16 : decode cX2_shift 16 = .ok (.istore 5, 2) := by decide +kernel
theorem dX2_shift_18 : decode cX2_shift 18 = .ok (.iload 4, 2) := by decide +kernel
theorem dX2_shift_20 : decode cX2_shift 20 = .ok (.ifCond .lt 30, 3) := by decide +kernel
theorem dX2_shift_23 : decode cX2_shift 23 = .ok (.iload 4, 2) := by decide +kernel
theorem dX2_shift_25 : decode cX2_shift 25 = .ok (.aload_n 0, 1) := by decide +kernel
theorem dX2_shift_26 : decode cX2_shift 26 = .ok (.getfield 9, 3) := by decide +kernel
theorem dX2_shift_29 : decode cX2_shift 29 = .ok (.if_icmp .ge 21, 3) := by decide +kernel
theorem dX2_shift_32 : decode cX2_shift 32 = .ok (.iload 5, 2) := by decide +kernel
theorem dX2_shift_34 : decode cX2_shift 34 = .ok (.ifCond .lt 16, 3) := by decide +kernel
theorem dX2_shift_37 : decode cX2_shift 37 = .ok (.iload 5, 2) := by decide +kernel
theorem dX2_shift_39 : decode cX2_shift 39 = .ok (.aload_n 0, 1) := by decide +kernel
theorem dX2_shift_40 : decode cX2_shift 40 = .ok (.getfield 15, 3) := by decide +kernel
theorem dX2_shift_43 : decode cX2_shift 43 = .ok (.if_icmp .ge 7, 3) := by decide +kernel
theorem dX2_shift_46 : decode cX2_shift 46 = .ok (.iconst 1, 1) := by decide +kernel
theorem dX2_shift_47 : decode cX2_shift 47 = .ok (.goto 4, 3) := by decide +kernel
theorem dX2_shift_50 : decode cX2_shift 50 = .ok (.iconst 0, 1) := by decide +kernel
theorem dX2_shift_51 : decode cX2_shift 51 = .ok (.istore 6, 2) := by decide +kernel
theorem dX2_shift_53 : decode cX2_shift 53 = .ok (.iload 6, 2) := by decide +kernel
theorem dX2_shift_55 : decode cX2_shift 55 = .ok (.ifCond .eq 16, 3) := by decide +kernel
theorem dX2_shift_58 : decode cX2_shift 58 = .ok (.iload 4, 2) := by decide +kernel
theorem dX2_shift_60 : decode cX2_shift 60 = .ok (.aload_n 0, 1) := by decide +kernel
theorem dX2_shift_61 : decode cX2_shift 61 = .ok (.getfield 15, 3) := by decide +kernel
theorem dX2_shift_64 : decode cX2_shift 64 = .ok (.imul, 1) := by decide +kernel
theorem dX2_shift_65 : decode cX2_shift 65 = .ok (.iload 5, 2) := by decide +kernel
theorem dX2_shift_67 : decode cX2_shift 67 = .ok (.iadd, 1) := by decide +kernel
theorem dX2_shift_68 : decode cX2_shift 68 = .ok (.goto 4, 3) := by decide +kernel
theorem dX2_shift_71 : decode cX2_shift 71 = .ok (.iconst (-1), 1) := by decide +kernel
theorem dX2_shift_72 : decode cX2_shift 72 = .ok (.ireturn, 1) := by decide +kernel
theorem dX2_shiftAll_0 : decode cX2_shiftAll 0 = .ok (.lconst 0, 1) := by decide +kernel
theorem dX2_shiftAll_1 : decode cX2_shiftAll 1 = .ok (.lstore 5, 2) := by decide +kernel
theorem dX2_shiftAll_3 : decode cX2_shiftAll 3 = .ok (.iconst 0, 1) := by decide +kernel
theorem dX2_shiftAll_4 : decode cX2_shiftAll 4 = .ok (.istore 7, 2) := by decide +kernel
theorem dX2_shiftAll_6 : decode cX2_shiftAll 6 = .ok (.iload 7, 2) := by decide +kernel
theorem dX2_shiftAll_8 : decode cX2_shiftAll 8 = .ok (.aload_n 0, 1) := by decide +kernel
theorem dX2_shiftAll_9 : decode cX2_shiftAll 9 = .ok (.invokevirtual 22, 3) := by decide +kernel
theorem dX2_shiftAll_12 : decode cX2_shiftAll 12 = .ok (.if_icmp .ge 49, 3) := by decide +kernel
theorem dX2_shiftAll_15 : decode cX2_shiftAll 15 = .ok (.lload_n 1, 1) := by decide +kernel
theorem dX2_shiftAll_16 : decode cX2_shiftAll 16 = .ok (.iload 7, 2) := by decide +kernel
theorem dX2_shiftAll_18 : decode cX2_shiftAll 18 = .ok (.invokestatic 33, 3) := by decide +kernel
theorem dX2_shiftAll_21 : decode cX2_shiftAll 21 = .ok (.ifCond .eq 34, 3) := by decide +kernel
theorem dX2_shiftAll_24 : decode cX2_shiftAll 24 = .ok (.aload_n 0, 1) := by decide +kernel
theorem dX2_shiftAll_25 : decode cX2_shiftAll 25 = .ok (.iload 7, 2) := by decide +kernel
theorem dX2_shiftAll_27 : decode cX2_shiftAll 27 = .ok (.iload_n 3, 1) := by decide +kernel
theorem dX2_shiftAll_28 : decode cX2_shiftAll 28 = .ok (.iload 4, 2) := by decide +kernel
theorem dX2_shiftAll_30 : decode cX2_shiftAll 30 = .ok (.invokevirtual 37, 3) := by decide +kernel
theorem dX2_shiftAll_33 : decode cX2_shiftAll 33 = .ok (.istore 8, 2) := by decide +kernel
theorem dX2_shiftAll_35 : decode cX2_shiftAll 35 = .ok (.lload 5, 2) := by decide +kernel
theorem dX2_shiftAll_37 : decode cX2_shiftAll 37 = .ok (.iload 8, 2) := by decide +kernel
theorem dX2_shiftAll_39 : decode cX2_shiftAll 39 = .ok (.iconst (-1), 1) := by decide +kernel
theorem dX2_shiftAll_40 : decode cX2_shiftAll 40 = .ok (.if_icmp .ne 7, 3) := by decide +kernel
theorem dX2_shiftAll_43 : decode cX2_shiftAll 43 = .ok (.lconst 0, 1) := by decide +kernel
theorem dX2_shiftAll_44 : decode cX2_shiftAll 44 = .ok (.goto 8, 3) := by decide +kernel
theorem dX2_shiftAll_47 : decode cX2_shiftAll 47 = .ok (.iload 8, 2) := by decide +kernel
theorem dX2_shiftAll_49 : decode cX2_shiftAll 49 = .ok (.invokestatic 41, 3) := by decide +kernel
theorem dX2_shiftAll_52 : decode cX2_shiftAll 52 = .ok (.lor, 1) := by decide +kernel
theorem dX2_shiftAll_53 : decode cX2_shiftAll 53 = .ok (.lstore 5, 2) := by decide +kernel
theorem dX2_shiftAll_55 : decode cX2_shiftAll 55 = .ok (.iinc 7 1, 3) := by decide +kernel
theorem dX2_shiftAll_58 : decode cX2_shiftAll 58 = .ok (.goto (-52), 3) := by decide +kernel
theorem dX2_shiftAll_61 : decode cX2_shiftAll 61 = .ok (.lload 5, 2) := by decide +kernel
theorem dX2_shiftAll_63 : decode cX2_shiftAll 63 = .ok (.lreturn, 1) := by decide +kernel
theorem dX2_beside_0 : decode cX2_beside 0 = .ok (.iload_n 2, 1) := by decide +kernel
theorem dX2_beside_1 : decode cX2_beside 1 = .ok (.ifCond .lt 8, 3) := by decide +kernel
theorem dX2_beside_4 : decode cX2_beside 4 = .ok (.iload_n 2, 1) := by decide +kernel
theorem dX2_beside_5 : decode cX2_beside 5 = .ok (.iconst 4, 1) := by decide +kernel
theorem dX2_beside_6 : decode cX2_beside 6 = .ok (.if_icmp .lt 5, 3) := by decide +kernel
theorem dX2_beside_9 : decode cX2_beside 9 = .ok (.iconst (-1), 1) := by decide +kernel
theorem dX2_beside_10 : decode cX2_beside 10 = .ok (.ireturn, 1) := by decide +kernel
theorem dX2_beside_11 : decode cX2_beside 11 = .ok (.aload_n 0, 1) := by decide +kernel
theorem dX2_beside_12 : decode cX2_beside 12 = .ok (.iload_n 1, 1) := by decide +kernel
theorem dX2_beside_13 : decode cX2_beside 13 = .ok (.getstatic 45, 3) := by decide +kernel
theorem dX2_beside_16 : decode cX2_beside 16 = .ok (.iload_n 2, 1) := by decide +kernel
theorem dX2_beside_17 : decode cX2_beside 17 = .ok (.iaload, 1) := by decide +kernel
theorem dX2_beside_18 : decode cX2_beside 18 = .ok (.getstatic 49, 3) := by decide +kernel
theorem dX2_beside_21 : decode cX2_beside 21 = .ok (.iload_n 2, 1) := by decide +kernel
theorem dX2_beside_22 : decode cX2_beside 22 = .ok (.iaload, 1) := by decide +kernel
theorem dX2_beside_23 : decode cX2_beside 23 = .ok (.invokevirtual 37, 3) := by decide +kernel
theorem dX2_beside_26 : decode cX2_beside 26 = .ok (.ireturn, 1) := by decide +kernel
theorem dX2_cellsBeside_0 : decode cX2_cellsBeside 0 = .ok (.lconst 0, 1) := by decide +kernel
theorem dX2_cellsBeside_1 : decode cX2_cellsBeside 1 = .ok (.lstore_n 2, 1) := by decide +kernel
theorem dX2_cellsBeside_2 : decode cX2_cellsBeside 2 = .ok (.iconst 0, 1) := by decide +kernel
theorem dX2_cellsBeside_3 : decode cX2_cellsBeside 3 = .ok (.istore 4, 2) := by decide +kernel
theorem dX2_cellsBeside_5 : decode cX2_cellsBeside 5 = .ok (.iload 4, 2) := by decide +kernel
theorem dX2_cellsBeside_7 : decode cX2_cellsBeside 7 = .ok (.iconst 4, 1) := by decide +kernel
theorem dX2_cellsBeside_8 : decode cX2_cellsBeside 8 = .ok (.if_icmp .ge 36, 3) := by decide +kernel
theorem dX2_cellsBeside_11 : decode cX2_cellsBeside 11 = .ok (.aload_n 0, 1) := by decide +kernel
theorem dX2_cellsBeside_12 : decode cX2_cellsBeside 12 = .ok (.iload_n 1, 1) := by decide +kernel
theorem dX2_cellsBeside_13 : decode cX2_cellsBeside 13 = .ok (.iload 4, 2) := by decide +kernel
theorem dX2_cellsBeside_15 : decode cX2_cellsBeside 15 = .ok (.invokevirtual 52, 3) := by decide +kernel
theorem dX2_cellsBeside_18 : decode cX2_cellsBeside 18 = .ok (.istore 5, 2) := by decide +kernel
theorem dX2_cellsBeside_20 : decode cX2_cellsBeside 20 = .ok (.lload_n 2, 1) := by decide +kernel
theorem dX2_cellsBeside_21 : decode cX2_cellsBeside 21 = .ok (.iload 5, 2) := by decide +kernel
theorem dX2_cellsBeside_23 : decode cX2_cellsBeside 23 = .ok (.iconst (-1), 1) := by decide +kernel
theorem dX2_cellsBeside_24 : decode cX2_cellsBeside 24 = .ok (.if_icmp .ne 7, 3) := by decide +kernel
theorem dX2_cellsBeside_27 : decode cX2_cellsBeside 27 = .ok (.lconst 0, 1) := by decide +kernel
theorem dX2_cellsBeside_28 : decode cX2_cellsBeside 28 = .ok (.goto 8, 3) := by decide +kernel
theorem dX2_cellsBeside_31 : decode cX2_cellsBeside 31 = .ok (.iload 5, 2) := by decide +kernel
theorem dX2_cellsBeside_33 : decode cX2_cellsBeside 33 = .ok (.invokestatic 41, 3) := by decide +kernel
theorem dX2_cellsBeside_36 : decode cX2_cellsBeside 36 = .ok (.lor, 1) := by decide +kernel
theorem dX2_cellsBeside_37 : decode cX2_cellsBeside 37 = .ok (.lstore_n 2, 1) := by decide +kernel
theorem dX2_cellsBeside_38 : decode cX2_cellsBeside 38 = .ok (.iinc 4 1, 3) := by decide +kernel
theorem dX2_cellsBeside_41 : decode cX2_cellsBeside 41 = .ok (.goto (-36), 3) := by decide +kernel
theorem dX2_cellsBeside_44 : decode cX2_cellsBeside 44 = .ok (.lload_n 2, 1) := by decide +kernel
theorem dX2_cellsBeside_45 : decode cX2_cellsBeside 45 = .ok (.lreturn, 1) := by decide +kernel
theorem dX2_apart_0 : decode cX2_apart 0 = .ok (.aload_n 0, 1) := by decide +kernel
theorem dX2_apart_1 : decode cX2_apart 1 = .ok (.iload_n 1, 1) := by decide +kernel
theorem dX2_apart_2 : decode cX2_apart 2 = .ok (.invokevirtual 26, 3) := by decide +kernel
theorem dX2_apart_5 : decode cX2_apart 5 = .ok (.aload_n 0, 1) := by decide +kernel
theorem dX2_apart_6 : decode cX2_apart 6 = .ok (.iload_n 2, 1) := by decide +kernel
theorem dX2_apart_7 : decode cX2_apart 7 = .ok (.invokevirtual 26, 3) := by decide +kernel
theorem dX2_apart_10 : decode cX2_apart 10 = .ok (.isub, 1) := by decide +kernel
theorem dX2_apart_11 : decode cX2_apart 11 = .ok (.invokestatic 56, 3) := by decide +kernel
theorem dX2_apart_14 : decode cX2_apart 14 = .ok (.aload_n 0, 1) := by decide +kernel
theorem dX2_apart_15 : decode cX2_apart 15 = .ok (.iload_n 1, 1) := by decide +kernel
theorem dX2_apart_16 : decode cX2_apart 16 = .ok (.invokevirtual 30, 3) := by decide +kernel
theorem dX2_apart_19 : decode cX2_apart 19 = .ok (.aload_n 0, 1) := by decide +kernel
theorem dX2_apart_20 : decode cX2_apart 20 = .ok (.iload_n 2, 1) := by decide +kernel
theorem dX2_apart_21 : decode cX2_apart 21 = .ok (.invokevirtual 30, 3) := by decide +kernel
theorem dX2_apart_24 : decode cX2_apart 24 = .ok (.isub, 1) := by decide +kernel
theorem dX2_apart_25 : decode cX2_apart 25 = .ok (.invokestatic 56, 3) := by decide +kernel
theorem dX2_apart_28 : decode cX2_apart 28 = .ok (.iadd, 1) := by decide +kernel
theorem dX2_apart_29 : decode cX2_apart 29 = .ok (.ireturn, 1) := by decide +kernel
theorem dX3_init_0 : decode cX3_init 0 = .ok (.aload_n 0, 1) := by decide +kernel
theorem dX3_init_1 : decode cX3_init 1 = .ok (.invokespecial 3, 3) := by decide +kernel
theorem dX3_init_4 : decode cX3_init 4 = .ok (.aload_n 0, 1) := by decide +kernel
theorem dX3_init_5 : decode cX3_init 5 = .ok (.sipush 200, 3) := by decide +kernel
theorem dX3_init_8 : decode cX3_init 8 = .ok (.newarray .char, 2) := by decide +kernel
theorem dX3_init_10 : decode cX3_init 10 = .ok (.putfield 9, 3) := by decide +kernel
theorem dX3_init_13 : decode cX3_init 13 = .ok (.return_, 1) := by decide +kernel
theorem dX3_length_0 : decode cX3_length 0 = .ok (.aload_n 0, 1) := by decide +kernel
theorem dX3_length_1 : decode cX3_length 1 = .ok (.getfield 15, 3) := by decide +kernel
theorem dX3_length_4 : decode cX3_length 4 = .ok (.ireturn, 1) := by decide +kernel
theorem dX3_clear_0 : decode cX3_clear 0 = .ok (.aload_n 0, 1) := by decide +kernel
theorem dX3_clear_1 : decode cX3_clear 1 = .ok (.iconst 0, 1) := by decide +kernel
theorem dX3_clear_2 : decode cX3_clear 2 = .ok (.putfield 15, 3) := by decide +kernel
theorem dX3_clear_5 : decode cX3_clear 5 = .ok (.return_, 1) := by decide +kernel
theorem dX3_append_0 : decode cX3_append 0 = .ok (.aload_n 0, 1) := by decide +kernel
theorem dX3_append_1 : decode cX3_append 1 = .ok (.getfield 15, 3) := by decide +kernel
theorem dX3_append_4 : decode cX3_append 4 = .ok (.aload_n 0, 1) := by decide +kernel
theorem dX3_append_5 : decode cX3_append 5 = .ok (.getfield 9, 3) := by decide +kernel
theorem dX3_append_8 : decode cX3_append 8 = .ok (.arraylength, 1) := by decide +kernel
theorem dX3_append_9 : decode cX3_append 9 = .ok (.if_icmp .lt 5, 3) := by decide +kernel
theorem dX3_append_12 : decode cX3_append 12 = .ok (.iconst 0, 1) := by decide +kernel
theorem dX3_append_13 : decode cX3_append 13 = .ok (.ireturn, 1) := by decide +kernel
theorem dX3_append_14 : decode cX3_append 14 = .ok (.aload_n 0, 1) := by decide +kernel
theorem dX3_append_15 : decode cX3_append 15 = .ok (.getfield 9, 3) := by decide +kernel
theorem dX3_append_18 : decode cX3_append 18 = .ok (.aload_n 0, 1) := by decide +kernel
theorem dX3_append_19 : decode cX3_append 19 = .ok (.getfield 15, 3) := by decide +kernel
theorem dX3_append_22 : decode cX3_append 22 = .ok (.iload_n 1, 1) := by decide +kernel
theorem dX3_append_23 : decode cX3_append 23 = .ok (.castore, 1) := by decide +kernel
theorem dX3_append_24 : decode cX3_append 24 = .ok (.aload_n 0, 1) := by decide +kernel
theorem dX3_append_25 : decode cX3_append 25 = .ok (.dup, 1) := by decide +kernel
theorem dX3_append_26 : decode cX3_append 26 = .ok (.getfield 15, 3) := by decide +kernel
theorem dX3_append_29 : decode cX3_append 29 = .ok (.iconst 1, 1) := by decide +kernel
theorem dX3_append_30 : decode cX3_append 30 = .ok (.iadd, 1) := by decide +kernel
theorem dX3_append_31 : decode cX3_append 31 = .ok (.putfield 15, 3) := by decide +kernel
theorem dX3_append_34 : decode cX3_append 34 = .ok (.iconst 1, 1) := by decide +kernel
theorem dX3_append_35 : decode cX3_append 35 = .ok (.ireturn, 1) := by decide +kernel
theorem dX3_signAt_0 : decode cX3_signAt 0 = .ok (.iload_n 1, 1) := by decide +kernel
theorem dX3_signAt_1 : decode cX3_signAt 1 = .ok (.ifCond .lt 20, 3) := by decide +kernel
theorem dX3_signAt_4 : decode cX3_signAt 4 = .ok (.iload_n 1, 1) := by decide +kernel
theorem dX3_signAt_5 : decode cX3_signAt 5 = .ok (.aload_n 0, 1) := by decide +kernel
theorem dX3_signAt_6 : decode cX3_signAt 6 = .ok (.getfield 15, 3) := by decide +kernel
theorem dX3_signAt_9 : decode cX3_signAt 9 = .ok (.if_icmp .ge 12, 3) := by decide +kernel
theorem dX3_signAt_12 : decode cX3_signAt 12 = .ok (.aload_n 0, 1) := by decide +kernel
theorem dX3_signAt_13 : decode cX3_signAt 13 = .ok (.getfield 9, 3) := by decide +kernel
theorem dX3_signAt_16 : decode cX3_signAt 16 = .ok (.iload_n 1, 1) := by decide +kernel
theorem dX3_signAt_17 : decode cX3_signAt 17 = .ok (.caload, 1) := by decide +kernel
theorem dX3_signAt_18 : decode cX3_signAt 18 = .ok (.goto 4, 3) := by decide +kernel
theorem dX3_signAt_21 : decode cX3_signAt 21 = .ok (.iconst 0, 1) := by decide +kernel
theorem dX3_signAt_22 : decode cX3_signAt 22 = .ok (.ireturn, 1) := by decide +kernel
theorem dX3_isFigureAt_0 : decode cX3_isFigureAt 0 = .ok (.aload_n 0, 1) := by decide +kernel
theorem dX3_isFigureAt_1 : decode cX3_isFigureAt 1 = .ok (.iload_n 1, 1) := by decide +kernel
theorem dX3_isFigureAt_2 : decode cX3_isFigureAt 2 = .ok (.invokevirtual 19, 3) := by decide +kernel
theorem dX3_isFigureAt_5 : decode cX3_isFigureAt 5 = .ok (.istore_n 2, 1) := by decide +kernel
theorem dX3_isFigureAt_6 : decode cX3_isFigureAt 6 = .ok (.iload_n 2, 1) := by decide +kernel
theorem dX3_isFigureAt_7 : decode cX3_isFigureAt 7 = .ok (.bipush 48, 2) := by decide +kernel
theorem dX3_isFigureAt_9 : decode cX3_isFigureAt 9 = .ok (.if_icmp .lt 13, 3) := by decide +kernel
theorem dX3_isFigureAt_12 : decode cX3_isFigureAt 12 = .ok (.iload_n 2, 1) := by decide +kernel
theorem dX3_isFigureAt_13 : decode cX3_isFigureAt 13 = .ok (.bipush 57, 2) := by decide +kernel
theorem dX3_isFigureAt_15 : decode cX3_isFigureAt 15 = .ok (.if_icmp .gt 7, 3) := by decide +kernel
theorem dX3_isFigureAt_18 : decode cX3_isFigureAt 18 = .ok (.iconst 1, 1) := by decide +kernel
theorem dX3_isFigureAt_19 : decode cX3_isFigureAt 19 = .ok (.goto 4, 3) := by decide +kernel
theorem dX3_isFigureAt_22 : decode cX3_isFigureAt 22 = .ok (.iconst 0, 1) := by decide +kernel
theorem dX3_isFigureAt_23 : decode cX3_isFigureAt 23 = .ok (.ireturn, 1) := by decide +kernel
theorem dX4_init_0 : decode cX4_init 0 = .ok (.aload_n 0, 1) := by decide +kernel
theorem dX4_init_1 : decode cX4_init 1 = .ok (.invokespecial 3, 3) := by decide +kernel
theorem dX4_init_4 : decode cX4_init 4 = .ok (.aload_n 0, 1) := by decide +kernel
theorem dX4_init_5 : decode cX4_init 5 = .ok (.bipush 10, 2) := by decide +kernel
theorem dX4_init_7 : decode cX4_init 7 = .ok (.newarray .int, 2) := by decide +kernel
theorem dX4_init_9 : decode cX4_init 9 = .ok (.putfield 9, 3) := by decide +kernel
theorem dX4_init_12 : decode cX4_init 12 = .ok (.aload_n 0, 1) := by decide +kernel
theorem dX4_init_13 : decode cX4_init 13 = .ok (.bipush 10, 2) := by decide +kernel
theorem dX4_init_15 : decode cX4_init 15 = .ok (.newarray .int, 2) := by decide +kernel
theorem dX4_init_17 : decode cX4_init 17 = .ok (.putfield 15, 3) := by decide +kernel
theorem dX4_init_20 : decode cX4_init 20 = .ok (.aload_n 0, 1) := by decide +kernel
theorem dX4_init_21 : decode cX4_init 21 = .ok (.bipush 10, 2) := by decide +kernel
theorem dX4_init_23 : decode cX4_init 23 = .ok (.newarray .int, 2) := by decide +kernel
theorem dX4_init_25 : decode cX4_init 25 = .ok (.putfield 18, 3) := by decide +kernel
theorem dX4_init_28 : decode cX4_init 28 = .ok (.aload_n 0, 1) := by decide +kernel
theorem dX4_init_29 : decode cX4_init 29 = .ok (.bipush 10, 2) := by decide +kernel
theorem dX4_init_31 : decode cX4_init 31 = .ok (.newarray .int, 2) := by decide +kernel
theorem dX4_init_33 : decode cX4_init 33 = .ok (.putfield 21, 3) := by decide +kernel
theorem dX4_init_36 : decode cX4_init 36 = .ok (.return_, 1) := by decide +kernel
theorem dX4_size_0 : decode cX4_size 0 = .ok (.aload_n 0, 1) := by decide +kernel
theorem dX4_size_1 : decode cX4_size 1 = .ok (.getfield 24, 3) := by decide +kernel
theorem dX4_size_4 : decode cX4_size 4 = .ok (.ireturn, 1) := by decide +kernel
theorem dX4_has_0 : decode cX4_has 0 = .ok (.iload_n 1, 1) := by decide +kernel
theorem dX4_has_1 : decode cX4_has 1 = .ok (.ifCond .lt 15, 3) := by decide +kernel
theorem dX4_has_4 : decode cX4_has 4 = .ok (.iload_n 1, 1) := by decide +kernel
theorem dX4_has_5 : decode cX4_has 5 = .ok (.aload_n 0, 1) := by decide +kernel
theorem dX4_has_6 : decode cX4_has 6 = .ok (.getfield 24, 3) := by decide +kernel
theorem dX4_has_9 : decode cX4_has 9 = .ok (.if_icmp .ge 7, 3) := by decide +kernel
theorem dX4_has_12 : decode cX4_has 12 = .ok (.iconst 1, 1) := by decide +kernel
theorem dX4_has_13 : decode cX4_has 13 = .ok (.goto 4, 3) := by decide +kernel
theorem dX4_has_16 : decode cX4_has 16 = .ok (.iconst 0, 1) := by decide +kernel
theorem dX4_has_17 : decode cX4_has 17 = .ok (.ireturn, 1) := by decide +kernel
theorem dX4_isFull_0 : decode cX4_isFull 0 = .ok (.aload_n 0, 1) := by decide +kernel
theorem dX4_isFull_1 : decode cX4_isFull 1 = .ok (.getfield 24, 3) := by decide +kernel
theorem dX4_isFull_4 : decode cX4_isFull 4 = .ok (.bipush 10, 2) := by decide +kernel
theorem dX4_isFull_6 : decode cX4_isFull 6 = .ok (.if_icmp .lt 7, 3) := by decide +kernel
theorem dX4_isFull_9 : decode cX4_isFull 9 = .ok (.iconst 1, 1) := by decide +kernel
theorem dX4_isFull_10 : decode cX4_isFull 10 = .ok (.goto 4, 3) := by decide +kernel
theorem dX4_isFull_13 : decode cX4_isFull 13 = .ok (.iconst 0, 1) := by decide +kernel
theorem dX4_isFull_14 : decode cX4_isFull 14 = .ok (.ireturn, 1) := by decide +kernel
theorem dX4_clear_0 : decode cX4_clear 0 = .ok (.aload_n 0, 1) := by decide +kernel
theorem dX4_clear_1 : decode cX4_clear 1 = .ok (.iconst 0, 1) := by decide +kernel
theorem dX4_clear_2 : decode cX4_clear 2 = .ok (.putfield 24, 3) := by decide +kernel
theorem dX4_clear_5 : decode cX4_clear 5 = .ok (.aload_n 0, 1) := by decide +kernel
theorem dX4_clear_6 : decode cX4_clear 6 = .ok (.iconst 0, 1) := by decide +kernel
theorem dX4_clear_7 : decode cX4_clear 7 = .ok (.putfield 28, 3) := by decide +kernel
theorem dX4_clear_10 : decode cX4_clear 10 = .ok (.return_, 1) := by decide +kernel
theorem dX4_add_0 : decode cX4_add 0 = .ok (.aload_n 0, 1) := by decide +kernel
theorem dX4_add_1 : decode cX4_add 1 = .ok (.invokevirtual 31, 3) := by decide +kernel
theorem dX4_add_4 : decode cX4_add 4 = .ok (.ifCond .eq 6, 3) := by decide +kernel
theorem dX4_add_7 : decode cX4_add 7 = .ok (.bipush (-3), 2) := by decide +kernel
theorem dX4_add_9 : decode cX4_add 9 = .ok (.ireturn, 1) := by decide +kernel
theorem dX4_add_10 : decode cX4_add 10 = .ok (.aload_n 0, 1) := by decide +kernel
theorem dX4_add_11 : decode cX4_add 11 = .ok (.getfield 9, 3) := by decide +kernel
theorem dX4_add_14 : decode cX4_add 14 = .ok (.aload_n 0, 1) := by decide +kernel
theorem dX4_add_15 : decode cX4_add 15 = .ok (.getfield 24, 3) := by decide +kernel
theorem dX4_add_18 : decode cX4_add 18 = .ok (.iload_n 1, 1) := by decide +kernel
theorem dX4_add_19 : decode cX4_add 19 = .ok (.iastore, 1) := by decide +kernel
theorem dX4_add_20 : decode cX4_add 20 = .ok (.aload_n 0, 1) := by decide +kernel
theorem dX4_add_21 : decode cX4_add 21 = .ok (.getfield 15, 3) := by decide +kernel
theorem dX4_add_24 : decode cX4_add 24 = .ok (.aload_n 0, 1) := by decide +kernel
theorem dX4_add_25 : decode cX4_add 25 = .ok (.getfield 24, 3) := by decide +kernel
theorem dX4_add_28 : decode cX4_add 28 = .ok (.iload_n 2, 1) := by decide +kernel
theorem dX4_add_29 : decode cX4_add 29 = .ok (.iastore, 1) := by decide +kernel
theorem dX4_add_30 : decode cX4_add 30 = .ok (.aload_n 0, 1) := by decide +kernel
theorem dX4_add_31 : decode cX4_add 31 = .ok (.getfield 18, 3) := by decide +kernel
theorem dX4_add_34 : decode cX4_add 34 = .ok (.aload_n 0, 1) := by decide +kernel
theorem dX4_add_35 : decode cX4_add 35 = .ok (.getfield 24, 3) := by decide +kernel
theorem dX4_add_38 : decode cX4_add 38 = .ok (.iload_n 3, 1) := by decide +kernel
theorem dX4_add_39 : decode cX4_add 39 = .ok (.iastore, 1) := by decide +kernel
theorem dX4_add_40 : decode cX4_add 40 = .ok (.aload_n 0, 1) := by decide +kernel
theorem dX4_add_41 : decode cX4_add 41 = .ok (.getfield 21, 3) := by decide +kernel
theorem dX4_add_44 : decode cX4_add 44 = .ok (.aload_n 0, 1) := by decide +kernel
theorem dX4_add_45 : decode cX4_add 45 = .ok (.getfield 24, 3) := by decide +kernel
theorem dX4_add_48 : decode cX4_add 48 = .ok (.iload 4, 2) := by decide +kernel
theorem dX4_add_50 : decode cX4_add 50 = .ok (.iastore, 1) := by decide +kernel
theorem dX4_add_51 : decode cX4_add 51 = .ok (.aload_n 0, 1) := by decide +kernel
theorem dX4_add_52 : decode cX4_add 52 = .ok (.dup, 1) := by decide +kernel
theorem dX4_add_53 : decode cX4_add 53 = .ok (.getfield 24, 3) := by decide +kernel
theorem dX4_add_56 : decode cX4_add 56 = .ok (.iconst 1, 1) := by decide +kernel
theorem dX4_add_57 : decode cX4_add 57 = .ok (.iadd, 1) := by decide +kernel
theorem dX4_add_58 : decode cX4_add 58 = .ok (.putfield 24, 3) := by decide +kernel
theorem dX4_add_61 : decode cX4_add 61 = .ok (.aload_n 0, 1) := by decide +kernel
theorem dX4_add_62 : decode cX4_add 62 = .ok (.getfield 24, 3) := by decide +kernel
theorem dX4_add_65 : decode cX4_add 65 = .ok (.iconst 1, 1) := by decide +kernel
theorem dX4_add_66 : decode cX4_add 66 = .ok (.isub, 1) := by decide +kernel
theorem dX4_add_67 : decode cX4_add 67 = .ok (.ireturn, 1) := by decide +kernel
theorem dX4_copyFrom_0 : decode cX4_copyFrom 0 = .ok (.aload_n 1, 1) := by decide +kernel
theorem dX4_copyFrom_1 : decode cX4_copyFrom 1 = .ok (.getfield 9, 3) := by decide +kernel
theorem dX4_copyFrom_4 : decode cX4_copyFrom 4 = .ok (.iconst 0, 1) := by decide +kernel
theorem dX4_copyFrom_5 : decode cX4_copyFrom 5 = .ok (.aload_n 0, 1) := by decide +kernel
theorem dX4_copyFrom_6 : decode cX4_copyFrom 6 = .ok (.getfield 9, 3) := by decide +kernel
theorem dX4_copyFrom_9 : decode cX4_copyFrom 9 = .ok (.iconst 0, 1) := by decide +kernel
theorem dX4_copyFrom_10 : decode cX4_copyFrom 10 = .ok (.bipush 10, 2) := by decide +kernel
theorem dX4_copyFrom_12 : decode cX4_copyFrom 12 = .ok (.invokestatic 35, 3) := by decide +kernel
theorem dX4_copyFrom_15 : decode cX4_copyFrom 15 = .ok (.aload_n 1, 1) := by decide +kernel
theorem dX4_copyFrom_16 : decode cX4_copyFrom 16 = .ok (.getfield 15, 3) := by decide +kernel
theorem dX4_copyFrom_19 : decode cX4_copyFrom 19 = .ok (.iconst 0, 1) := by decide +kernel
theorem dX4_copyFrom_20 : decode cX4_copyFrom 20 = .ok (.aload_n 0, 1) := by decide +kernel
theorem dX4_copyFrom_21 : decode cX4_copyFrom 21 = .ok (.getfield 15, 3) := by decide +kernel
theorem dX4_copyFrom_24 : decode cX4_copyFrom 24 = .ok (.iconst 0, 1) := by decide +kernel
theorem dX4_copyFrom_25 : decode cX4_copyFrom 25 = .ok (.bipush 10, 2) := by decide +kernel
theorem dX4_copyFrom_27 : decode cX4_copyFrom 27 = .ok (.invokestatic 35, 3) := by decide +kernel
theorem dX4_copyFrom_30 : decode cX4_copyFrom 30 = .ok (.aload_n 1, 1) := by decide +kernel
theorem dX4_copyFrom_31 : decode cX4_copyFrom 31 = .ok (.getfield 18, 3) := by decide +kernel
theorem dX4_copyFrom_34 : decode cX4_copyFrom 34 = .ok (.iconst 0, 1) := by decide +kernel
theorem dX4_copyFrom_35 : decode cX4_copyFrom 35 = .ok (.aload_n 0, 1) := by decide +kernel
theorem dX4_copyFrom_36 : decode cX4_copyFrom 36 = .ok (.getfield 18, 3) := by decide +kernel
theorem dX4_copyFrom_39 : decode cX4_copyFrom 39 = .ok (.iconst 0, 1) := by decide +kernel
theorem dX4_copyFrom_40 : decode cX4_copyFrom 40 = .ok (.bipush 10, 2) := by decide +kernel
theorem dX4_copyFrom_42 : decode cX4_copyFrom 42 = .ok (.invokestatic 35, 3) := by decide +kernel
theorem dX4_copyFrom_45 : decode cX4_copyFrom 45 = .ok (.aload_n 1, 1) := by decide +kernel
theorem dX4_copyFrom_46 : decode cX4_copyFrom 46 = .ok (.getfield 21, 3) := by decide +kernel
theorem dX4_copyFrom_49 : decode cX4_copyFrom 49 = .ok (.iconst 0, 1) := by decide +kernel
theorem dX4_copyFrom_50 : decode cX4_copyFrom 50 = .ok (.aload_n 0, 1) := by decide +kernel
theorem dX4_copyFrom_51 : decode cX4_copyFrom 51 = .ok (.getfield 21, 3) := by decide +kernel
theorem dX4_copyFrom_54 : decode cX4_copyFrom 54 = .ok (.iconst 0, 1) := by decide +kernel
theorem dX4_copyFrom_55 : decode cX4_copyFrom 55 = .ok (.bipush 10, 2) := by decide +kernel
theorem dX4_copyFrom_57 : decode cX4_copyFrom 57 = .ok (.invokestatic 35, 3) := by decide +kernel
theorem dX4_copyFrom_60 : decode cX4_copyFrom 60 = .ok (.aload_n 0, 1) := by decide +kernel
theorem dX4_copyFrom_61 : decode cX4_copyFrom 61 = .ok (.aload_n 1, 1) := by decide +kernel
theorem dX4_copyFrom_62 : decode cX4_copyFrom 62 = .ok (.getfield 24, 3) := by decide +kernel
theorem dX4_copyFrom_65 : decode cX4_copyFrom 65 = .ok (.putfield 24, 3) := by decide +kernel
theorem dX4_copyFrom_68 : decode cX4_copyFrom 68 = .ok (.aload_n 0, 1) := by decide +kernel
theorem dX4_copyFrom_69 : decode cX4_copyFrom 69 = .ok (.aload_n 1, 1) := by decide +kernel
theorem dX4_copyFrom_70 : decode cX4_copyFrom 70 = .ok (.getfield 28, 3) := by decide +kernel
theorem dX4_copyFrom_73 : decode cX4_copyFrom 73 = .ok (.putfield 28, 3) := by decide +kernel
theorem dX4_copyFrom_76 : decode cX4_copyFrom 76 = .ok (.return_, 1) := by decide +kernel
theorem dX4_cellOf_0 : decode cX4_cellOf 0 = .ok (.aload_n 0, 1) := by decide +kernel
theorem dX4_cellOf_1 : decode cX4_cellOf 1 = .ok (.iload_n 1, 1) := by decide +kernel
theorem dX4_cellOf_2 : decode cX4_cellOf 2 = .ok (.invokevirtual 41, 3) := by decide +kernel
theorem dX4_cellOf_5 : decode cX4_cellOf 5 = .ok (.ifCond .eq 12, 3) := by decide +kernel
theorem dX4_cellOf_8 : decode cX4_cellOf 8 = .ok (.aload_n 0, 1) := by decide +kernel
theorem dX4_cellOf_9 : decode cX4_cellOf 9 = .ok (.getfield 9, 3) := by decide +kernel
theorem dX4_cellOf_12 : decode cX4_cellOf 12 = .ok (.iload_n 1, 1) := by decide +kernel
theorem dX4_cellOf_13 : decode cX4_cellOf 13 = .ok (.iaload, 1) := by decide +kernel
theorem dX4_cellOf_14 : decode cX4_cellOf 14 = .ok (.goto 4, 3) := by decide +kernel
theorem dX4_cellOf_17 : decode cX4_cellOf 17 = .ok (.iconst (-1), 1) := by decide +kernel
theorem dX4_cellOf_18 : decode cX4_cellOf 18 = .ok (.ireturn, 1) := by decide +kernel
theorem dX4_startOf_0 : decode cX4_startOf 0 = .ok (.aload_n 0, 1) := by decide +kernel
theorem dX4_startOf_1 : decode cX4_startOf 1 = .ok (.iload_n 1, 1) := by decide +kernel
theorem dX4_startOf_2 : decode cX4_startOf 2 = .ok (.invokevirtual 41, 3) := by decide +kernel
theorem dX4_startOf_5 : decode cX4_startOf 5 = .ok (.ifCond .eq 12, 3) := by decide +kernel
theorem dX4_startOf_8 : decode cX4_startOf 8 = .ok (.aload_n 0, 1) := by decide +kernel
theorem dX4_startOf_9 : decode cX4_startOf 9 = .ok (.getfield 15, 3) := by decide +kernel
theorem dX4_startOf_12 : decode cX4_startOf 12 = .ok (.iload_n 1, 1) := by decide +kernel
theorem dX4_startOf_13 : decode cX4_startOf 13 = .ok (.iaload, 1) := by decide +kernel
theorem dX4_startOf_14 : decode cX4_startOf 14 = .ok (.goto 4, 3) := by decide +kernel
theorem dX4_startOf_17 : decode cX4_startOf 17 = .ok (.iconst (-1), 1) := by decide +kernel
theorem dX4_startOf_18 : decode cX4_startOf 18 = .ok (.ireturn, 1) := by decide +kernel
theorem dX4_toldFallOf_0 : decode cX4_toldFallOf 0 = .ok (.aload_n 0, 1) := by decide +kernel
theorem dX4_toldFallOf_1 : decode cX4_toldFallOf 1 = .ok (.iload_n 1, 1) := by decide +kernel
theorem dX4_toldFallOf_2 : decode cX4_toldFallOf 2 = .ok (.invokevirtual 41, 3) := by decide +kernel
theorem dX4_toldFallOf_5 : decode cX4_toldFallOf 5 = .ok (.ifCond .eq 17, 3) := by decide +kernel
theorem dX4_toldFallOf_8 : decode cX4_toldFallOf 8 = .ok (.aload_n 0, 1) := by decide +kernel
theorem dX4_toldFallOf_9 : decode cX4_toldFallOf 9 = .ok (.getfield 18, 3) := by decide +kernel
theorem dX4_toldFallOf_12 : decode cX4_toldFallOf 12 = .ok (.iload_n 1, 1) := by decide +kernel
theorem dX4_toldFallOf_13 : decode cX4_toldFallOf 13 = .ok (.iaload, 1) := by decide +kernel
theorem dX4_toldFallOf_14 : decode cX4_toldFallOf 14 = .ok (.bipush 99, 2) := by decide +kernel
theorem dX4_toldFallOf_16 : decode cX4_toldFallOf 16 = .ok (.invokestatic 45, 3) := by decide +kernel
theorem dX4_toldFallOf_19 : decode cX4_toldFallOf 19 = .ok (.goto 4, 3) := by decide +kernel
theorem dX4_toldFallOf_22 : decode cX4_toldFallOf 22 = .ok (.iconst (-1), 1) := by decide +kernel
theorem dX4_toldFallOf_23 : decode cX4_toldFallOf 23 = .ok (.ireturn, 1) := by decide +kernel
theorem dX4_kindOf_0 : decode cX4_kindOf 0 = .ok (.aload_n 0, 1) := by decide +kernel
theorem dX4_kindOf_1 : decode cX4_kindOf 1 = .ok (.iload_n 1, 1) := by decide +kernel
theorem dX4_kindOf_2 : decode cX4_kindOf 2 = .ok (.invokevirtual 41, 3) := by decide +kernel
theorem dX4_kindOf_5 : decode cX4_kindOf 5 = .ok (.ifCond .eq 12, 3) := by decide +kernel
theorem dX4_kindOf_8 : decode cX4_kindOf 8 = .ok (.aload_n 0, 1) := by decide +kernel
theorem dX4_kindOf_9 : decode cX4_kindOf 9 = .ok (.getfield 21, 3) := by decide +kernel
theorem dX4_kindOf_12 : decode cX4_kindOf 12 = .ok (.iload_n 1, 1) := by decide +kernel
theorem dX4_kindOf_13 : decode cX4_kindOf 13 = .ok (.iaload, 1) := by decide +kernel
theorem dX4_kindOf_14 : decode cX4_kindOf 14 = .ok (.goto 4, 3) := by decide +kernel
theorem dX4_kindOf_17 : decode cX4_kindOf 17 = .ok (.iconst (-1), 1) := by decide +kernel
theorem dX4_kindOf_18 : decode cX4_kindOf 18 = .ok (.ireturn, 1) := by decide +kernel
theorem dX4_standsIn_0 : decode cX4_standsIn 0 = .ok (.aload_n 0, 1) := by decide +kernel
theorem dX4_standsIn_1 : decode cX4_standsIn 1 = .ok (.iload_n 1, 1) := by decide +kernel
theorem dX4_standsIn_2 : decode cX4_standsIn 2 = .ok (.invokevirtual 41, 3) := by decide +kernel
theorem dX4_standsIn_5 : decode cX4_standsIn 5 = .ok (.ifCond .eq 27, 3) := by decide +kernel
theorem dX4_standsIn_8 : decode cX4_standsIn 8 = .ok (.aload_n 0, 1) := by decide +kernel
theorem dX4_standsIn_9 : decode cX4_standsIn 9 = .ok (.getfield 15, 3) := by decide +kernel
theorem dX4_standsIn_12 : decode cX4_standsIn 12 = .ok (.iload_n 1, 1) := by decide +kernel
theorem dX4_standsIn_13 : decode cX4_standsIn 13 = .ok (.iaload, 1) := by decide +kernel
theorem dX4_standsIn_14 : decode cX4_standsIn 14 = .ok (.iload_n 2, 1) := by decide +kernel
theorem dX4_standsIn_15 : decode cX4_standsIn 15 = .ok (.if_icmp .gt 17, 3) := by decide +kernel
theorem dX4_standsIn_18 : decode cX4_standsIn 18 = .ok (.iload_n 2, 1) := by decide +kernel
theorem dX4_standsIn_19 : decode cX4_standsIn 19 = .ok (.aload_n 0, 1) := by decide +kernel
theorem dX4_standsIn_20 : decode cX4_standsIn 20 = .ok (.getfield 18, 3) := by decide +kernel
theorem dX4_standsIn_23 : decode cX4_standsIn 23 = .ok (.iload_n 1, 1) := by decide +kernel
theorem dX4_standsIn_24 : decode cX4_standsIn 24 = .ok (.iaload, 1) := by decide +kernel
theorem dX4_standsIn_25 : decode cX4_standsIn 25 = .ok (.if_icmp .ge 7, 3) := by decide +kernel
theorem dX4_standsIn_28 : decode cX4_standsIn 28 = .ok (.iconst 1, 1) := by decide +kernel
theorem dX4_standsIn_29 : decode cX4_standsIn 29 = .ok (.goto 4, 3) := by decide +kernel
theorem dX4_standsIn_32 : decode cX4_standsIn 32 = .ok (.iconst 0, 1) := by decide +kernel
theorem dX4_standsIn_33 : decode cX4_standsIn 33 = .ok (.ireturn, 1) := by decide +kernel
theorem dX4_isLostBy_0 : decode cX4_isLostBy 0 = .ok (.aload_n 0, 1) := by decide +kernel
theorem dX4_isLostBy_1 : decode cX4_isLostBy 1 = .ok (.iload_n 1, 1) := by decide +kernel
theorem dX4_isLostBy_2 : decode cX4_isLostBy 2 = .ok (.invokevirtual 41, 3) := by decide +kernel
theorem dX4_isLostBy_5 : decode cX4_isLostBy 5 = .ok (.ifCond .eq 17, 3) := by decide +kernel
theorem dX4_isLostBy_8 : decode cX4_isLostBy 8 = .ok (.aload_n 0, 1) := by decide +kernel
theorem dX4_isLostBy_9 : decode cX4_isLostBy 9 = .ok (.getfield 18, 3) := by decide +kernel
theorem dX4_isLostBy_12 : decode cX4_isLostBy 12 = .ok (.iload_n 1, 1) := by decide +kernel
theorem dX4_isLostBy_13 : decode cX4_isLostBy 13 = .ok (.iaload, 1) := by decide +kernel
theorem dX4_isLostBy_14 : decode cX4_isLostBy 14 = .ok (.iload_n 2, 1) := by decide +kernel
theorem dX4_isLostBy_15 : decode cX4_isLostBy 15 = .ok (.if_icmp .gt 7, 3) := by decide +kernel
theorem dX4_isLostBy_18 : decode cX4_isLostBy 18 = .ok (.iconst 1, 1) := by decide +kernel
theorem dX4_isLostBy_19 : decode cX4_isLostBy 19 = .ok (.goto 4, 3) := by decide +kernel
theorem dX4_isLostBy_22 : decode cX4_isLostBy 22 = .ok (.iconst 0, 1) := by decide +kernel
theorem dX4_isLostBy_23 : decode cX4_isLostBy 23 = .ok (.ireturn, 1) := by decide +kernel
theorem dX4_fallsIn_0 : decode cX4_fallsIn 0 = .ok (.aload_n 0, 1) := by decide +kernel
theorem dX4_fallsIn_1 : decode cX4_fallsIn 1 = .ok (.iload_n 1, 1) := by decide +kernel
theorem dX4_fallsIn_2 : decode cX4_fallsIn 2 = .ok (.invokevirtual 41, 3) := by decide +kernel
theorem dX4_fallsIn_5 : decode cX4_fallsIn 5 = .ok (.ifCond .eq 17, 3) := by decide +kernel
theorem dX4_fallsIn_8 : decode cX4_fallsIn 8 = .ok (.aload_n 0, 1) := by decide +kernel
theorem dX4_fallsIn_9 : decode cX4_fallsIn 9 = .ok (.getfield 18, 3) := by decide +kernel
theorem dX4_fallsIn_12 : decode cX4_fallsIn 12 = .ok (.iload_n 1, 1) := by decide +kernel
theorem dX4_fallsIn_13 : decode cX4_fallsIn 13 = .ok (.iaload, 1) := by decide +kernel
theorem dX4_fallsIn_14 : decode cX4_fallsIn 14 = .ok (.iload_n 2, 1) := by decide +kernel
theorem dX4_fallsIn_15 : decode cX4_fallsIn 15 = .ok (.if_icmp .ne 7, 3) := by decide +kernel
theorem dX4_fallsIn_18 : decode cX4_fallsIn 18 = .ok (.iconst 1, 1) := by decide +kernel
theorem dX4_fallsIn_19 : decode cX4_fallsIn 19 = .ok (.goto 4, 3) := by decide +kernel
theorem dX4_fallsIn_22 : decode cX4_fallsIn 22 = .ok (.iconst 0, 1) := by decide +kernel
theorem dX4_fallsIn_23 : decode cX4_fallsIn 23 = .ok (.ireturn, 1) := by decide +kernel
theorem dX4_canBurn_0 : decode cX4_canBurn 0 = .ok (.aload_n 0, 1) := by decide +kernel
theorem dX4_canBurn_1 : decode cX4_canBurn 1 = .ok (.iload_n 1, 1) := by decide +kernel
theorem dX4_canBurn_2 : decode cX4_canBurn 2 = .ok (.aload_n 0, 1) := by decide +kernel
theorem dX4_canBurn_3 : decode cX4_canBurn 3 = .ok (.getfield 28, 3) := by decide +kernel
theorem dX4_canBurn_6 : decode cX4_canBurn 6 = .ok (.invokevirtual 51, 3) := by decide +kernel
theorem dX4_canBurn_9 : decode cX4_canBurn 9 = .ok (.ifCond .eq 16, 3) := by decide +kernel
theorem dX4_canBurn_12 : decode cX4_canBurn 12 = .ok (.aload_n 0, 1) := by decide +kernel
theorem dX4_canBurn_13 : decode cX4_canBurn 13 = .ok (.iload_n 1, 1) := by decide +kernel
theorem dX4_canBurn_14 : decode cX4_canBurn 14 = .ok (.invokevirtual 55, 3) := by decide +kernel
theorem dX4_canBurn_17 : decode cX4_canBurn 17 = .ok (.iconst 1, 1) := by decide +kernel
theorem dX4_canBurn_18 : decode cX4_canBurn 18 = .ok (.if_icmp .eq 7, 3) := by decide +kernel
theorem dX4_canBurn_21 : decode cX4_canBurn 21 = .ok (.iconst 1, 1) := by decide +kernel
theorem dX4_canBurn_22 : decode cX4_canBurn 22 = .ok (.goto 4, 3) := by decide +kernel
theorem dX4_canBurn_25 : decode cX4_canBurn 25 = .ok (.iconst 0, 1) := by decide +kernel
theorem dX4_canBurn_26 : decode cX4_canBurn 26 = .ok (.ireturn, 1) := by decide +kernel
theorem dX4_setFireTo_0 : decode cX4_setFireTo 0 = .ok (.aload_n 0, 1) := by decide +kernel
theorem dX4_setFireTo_1 : decode cX4_setFireTo 1 = .ok (.iload_n 1, 1) := by decide +kernel
theorem dX4_setFireTo_2 : decode cX4_setFireTo 2 = .ok (.invokevirtual 41, 3) := by decide +kernel
theorem dX4_setFireTo_5 : decode cX4_setFireTo 5 = .ok (.ifCond .eq 13, 3) := by decide +kernel
theorem dX4_setFireTo_8 : decode cX4_setFireTo 8 = .ok (.aload_n 0, 1) := by decide +kernel
theorem dX4_setFireTo_9 : decode cX4_setFireTo 9 = .ok (.getfield 18, 3) := by decide +kernel
theorem dX4_setFireTo_12 : decode cX4_setFireTo 12 = .ok (.iload_n 1, 1) := by decide +kernel
theorem dX4_setFireTo_13 : decode cX4_setFireTo 13 = .ok (.aload_n 0, 1) := by decide +kernel
theorem dX4_setFireTo_14 : decode cX4_setFireTo 14 = .ok (.getfield 28, 3) := by decide +kernel
theorem dX4_setFireTo_17 : decode cX4_setFireTo 17 = .ok (.iastore, 1) := by decide +kernel
theorem dX4_setFireTo_18 : decode cX4_setFireTo 18 = .ok (.return_, 1) := by decide +kernel
theorem dX4_burnBy_0 : decode cX4_burnBy 0 = .ok (.aload_n 0, 1) := by decide +kernel
theorem dX4_burnBy_1 : decode cX4_burnBy 1 = .ok (.getfield 24, 3) := by decide +kernel
theorem dX4_burnBy_4 : decode cX4_burnBy 4 = .ok (.ifCond .le 12, 3) := by decide +kernel
theorem dX4_burnBy_7 : decode cX4_burnBy 7 = .ok (.iload_n 1, 1) := by decide +kernel
theorem dX4_burnBy_8 : decode cX4_burnBy 8 = .ok (.bipush 16, 2) := by decide +kernel
theorem dX4_burnBy_10 : decode cX4_burnBy 10 = .ok (.idiv, 1) := by decide +kernel
theorem dX4_burnBy_11 : decode cX4_burnBy 11 = .ok (.iconst 3, 1) := by decide +kernel
theorem dX4_burnBy_12 : decode cX4_burnBy 12 = .ok (.irem, 1) := by decide +kernel
theorem dX4_burnBy_13 : decode cX4_burnBy 13 = .ok (.ifCond .eq 4, 3) := by decide +kernel
theorem dX4_burnBy_16 : decode cX4_burnBy 16 = .ok (.return_, 1) := by decide +kernel
theorem dX4_burnBy_17 : decode cX4_burnBy 17 = .ok (.iload_n 1, 1) := by decide +kernel
theorem dX4_burnBy_18 : decode cX4_burnBy 18 = .ok (.aload_n 0, 1) := by decide +kernel
theorem dX4_burnBy_19 : decode cX4_burnBy 19 = .ok (.getfield 24, 3) := by decide +kernel
theorem dX4_burnBy_22 : decode cX4_burnBy 22 = .ok (.irem, 1) := by decide +kernel
theorem dX4_burnBy_23 : decode cX4_burnBy 23 = .ok (.istore_n 2, 1) := by decide +kernel
theorem dX4_burnBy_24 : decode cX4_burnBy 24 = .ok (.aload_n 0, 1) := by decide +kernel
theorem dX4_burnBy_25 : decode cX4_burnBy 25 = .ok (.iload_n 2, 1) := by decide +kernel
theorem dX4_burnBy_26 : decode cX4_burnBy 26 = .ok (.invokevirtual 59, 3) := by decide +kernel
theorem dX4_burnBy_29 : decode cX4_burnBy 29 = .ok (.ifCond .eq 8, 3) := by decide +kernel
theorem dX4_burnBy_32 : decode cX4_burnBy 32 = .ok (.aload_n 0, 1) := by decide +kernel
theorem dX4_burnBy_33 : decode cX4_burnBy 33 = .ok (.iload_n 2, 1) := by decide +kernel
theorem dX4_burnBy_34 : decode cX4_burnBy 34 = .ok (.invokevirtual 62, 3) := by decide +kernel
theorem dX4_burnBy_37 : decode cX4_burnBy 37 = .ok (.return_, 1) := by decide +kernel
theorem dX4_thingOf_0 : decode cX4_thingOf 0 = .ok (.iconst 0, 1) := by decide +kernel
theorem dX4_thingOf_1 : decode cX4_thingOf 1 = .ok (.istore_n 2, 1) := by decide +kernel
theorem dX4_thingOf_2 : decode cX4_thingOf 2 = .ok (.iload_n 2, 1) := by decide +kernel
theorem dX4_thingOf_3 : decode cX4_thingOf 3 = .ok (.aload_n 0, 1) := by decide +kernel
theorem dX4_thingOf_4 : decode cX4_thingOf 4 = .ok (.getfield 24, 3) := by decide +kernel
theorem dX4_thingOf_7 : decode cX4_thingOf 7 = .ok (.if_icmp .ge 21, 3) := by decide +kernel
theorem dX4_thingOf_10 : decode cX4_thingOf 10 = .ok (.aload_n 0, 1) := by decide +kernel
theorem dX4_thingOf_11 : decode cX4_thingOf 11 = .ok (.getfield 9, 3) := by decide +kernel
theorem dX4_thingOf_14 : decode cX4_thingOf 14 = .ok (.iload_n 2, 1) := by decide +kernel
theorem dX4_thingOf_15 : decode cX4_thingOf 15 = .ok (.iaload, 1) := by decide +kernel
theorem dX4_thingOf_16 : decode cX4_thingOf 16 = .ok (.iload_n 1, 1) := by decide +kernel
theorem dX4_thingOf_17 : decode cX4_thingOf 17 = .ok (.if_icmp .ne 5, 3) := by decide +kernel
theorem dX4_thingOf_20 : decode cX4_thingOf 20 = .ok (.iload_n 2, 1) := by decide +kernel
theorem dX4_thingOf_21 : decode cX4_thingOf 21 = .ok (.ireturn, 1) := by decide +kernel
theorem dX4_thingOf_22 : decode cX4_thingOf 22 = .ok (.iinc 2 1, 3) := by decide +kernel
theorem dX4_thingOf_25 : decode cX4_thingOf 25 = .ok (.goto (-23), 3) := by decide +kernel
theorem dX4_thingOf_28 : decode cX4_thingOf 28 = .ok (.bipush (-4), 2) := by decide +kernel
theorem dX4_thingOf_30 : decode cX4_thingOf 30 = .ok (.ireturn, 1) := by decide +kernel
theorem dX4_standingCells_0 : decode cX4_standingCells 0 = .ok (.lconst 0, 1) := by decide +kernel
theorem dX4_standingCells_1 : decode cX4_standingCells 1 = .ok (.lstore_n 2, 1) := by decide +kernel
theorem dX4_standingCells_2 : decode cX4_standingCells 2 = .ok (.iconst 0, 1) := by decide +kernel
theorem dX4_standingCells_3 : decode cX4_standingCells 3 = .ok (.istore 4, 2) := by decide +kernel
theorem dX4_standingCells_5 : decode cX4_standingCells 5 = .ok (.iload 4, 2) := by decide +kernel
theorem dX4_standingCells_7 : decode cX4_standingCells 7 = .ok (.aload_n 0, 1) := by decide +kernel
theorem dX4_standingCells_8 : decode cX4_standingCells 8 = .ok (.getfield 24, 3) := by decide +kernel
theorem dX4_standingCells_11 : decode cX4_standingCells 11 = .ok (.if_icmp .ge 35, 3) := by decide +kernel
theorem dX4_standingCells_14 : decode cX4_standingCells 14 = .ok (.lload_n 2, 1) := by decide +kernel
theorem dX4_standingCells_15 : decode cX4_standingCells 15 = .ok (.aload_n 0, 1) := by decide +kernel
theorem dX4_standingCells_16 : decode cX4_standingCells 16 = .ok (.iload 4, 2) := by decide +kernel
theorem dX4_standingCells_18 : decode cX4_standingCells 18 = .ok (.iload_n 1, 1) := by decide +kernel
theorem dX4_standingCells_19 : decode cX4_standingCells 19 = .ok (.invokevirtual 51, 3) := by decide +kernel
theorem dX4_standingCells_22 : decode cX4_standingCells 22 = .ok (.ifCond .eq 15, 3) := by decide +kernel
theorem dX4_standingCells_25 : decode cX4_standingCells 25 = .ok (.aload_n 0, 1) := by decide +kernel
theorem dX4_standingCells_26 : decode cX4_standingCells 26 = .ok (.iload 4, 2) := by decide +kernel
theorem dX4_standingCells_28 : decode cX4_standingCells 28 = .ok (.invokevirtual 66, 3) := by decide +kernel
theorem dX4_standingCells_31 : decode cX4_standingCells 31 = .ok (.invokestatic 69, 3) := by decide +kernel
theorem dX4_standingCells_34 : decode cX4_standingCells 34 = .ok (.goto 4, 3) := by decide +kernel
theorem dX4_standingCells_37 : decode cX4_standingCells 37 = .ok (.lconst 0, 1) := by decide +kernel
theorem dX4_standingCells_38 : decode cX4_standingCells 38 = .ok (.lor, 1) := by decide +kernel
theorem dX4_standingCells_39 : decode cX4_standingCells 39 = .ok (.lstore_n 2, 1) := by decide +kernel
theorem dX4_standingCells_40 : decode cX4_standingCells 40 = .ok (.iinc 4 1, 3) := by decide +kernel
theorem dX4_standingCells_43 : decode cX4_standingCells 43 = .ok (.goto (-38), 3) := by decide +kernel
theorem dX4_standingCells_46 : decode cX4_standingCells 46 = .ok (.lload_n 2, 1) := by decide +kernel
theorem dX4_standingCells_47 : decode cX4_standingCells 47 = .ok (.lreturn, 1) := by decide +kernel
theorem dX4_lostCells_0 : decode cX4_lostCells 0 = .ok (.lconst 0, 1) := by decide +kernel
theorem dX4_lostCells_1 : decode cX4_lostCells 1 = .ok (.lstore_n 2, 1) := by decide +kernel
theorem dX4_lostCells_2 : decode cX4_lostCells 2 = .ok (.iconst 0, 1) := by decide +kernel
theorem dX4_lostCells_3 : decode cX4_lostCells 3 = .ok (.istore 4, 2) := by decide +kernel
theorem dX4_lostCells_5 : decode cX4_lostCells 5 = .ok (.iload 4, 2) := by decide +kernel
theorem dX4_lostCells_7 : decode cX4_lostCells 7 = .ok (.aload_n 0, 1) := by decide +kernel
theorem dX4_lostCells_8 : decode cX4_lostCells 8 = .ok (.getfield 24, 3) := by decide +kernel
theorem dX4_lostCells_11 : decode cX4_lostCells 11 = .ok (.if_icmp .ge 35, 3) := by decide +kernel
theorem dX4_lostCells_14 : decode cX4_lostCells 14 = .ok (.lload_n 2, 1) := by decide +kernel
theorem dX4_lostCells_15 : decode cX4_lostCells 15 = .ok (.aload_n 0, 1) := by decide +kernel
theorem dX4_lostCells_16 : decode cX4_lostCells 16 = .ok (.iload 4, 2) := by decide +kernel
theorem dX4_lostCells_18 : decode cX4_lostCells 18 = .ok (.iload_n 1, 1) := by decide +kernel
theorem dX4_lostCells_19 : decode cX4_lostCells 19 = .ok (.invokevirtual 73, 3) := by decide +kernel
theorem dX4_lostCells_22 : decode cX4_lostCells 22 = .ok (.ifCond .eq 15, 3) := by decide +kernel
theorem dX4_lostCells_25 : decode cX4_lostCells 25 = .ok (.aload_n 0, 1) := by decide +kernel
theorem dX4_lostCells_26 : decode cX4_lostCells 26 = .ok (.iload 4, 2) := by decide +kernel
theorem dX4_lostCells_28 : decode cX4_lostCells 28 = .ok (.invokevirtual 66, 3) := by decide +kernel
theorem dX4_lostCells_31 : decode cX4_lostCells 31 = .ok (.invokestatic 69, 3) := by decide +kernel
theorem dX4_lostCells_34 : decode cX4_lostCells 34 = .ok (.goto 4, 3) := by decide +kernel
theorem dX4_lostCells_37 : decode cX4_lostCells 37 = .ok (.lconst 0, 1) := by decide +kernel
theorem dX4_lostCells_38 : decode cX4_lostCells 38 = .ok (.lor, 1) := by decide +kernel
theorem dX4_lostCells_39 : decode cX4_lostCells 39 = .ok (.lstore_n 2, 1) := by decide +kernel
theorem dX4_lostCells_40 : decode cX4_lostCells 40 = .ok (.iinc 4 1, 3) := by decide +kernel
theorem dX4_lostCells_43 : decode cX4_lostCells 43 = .ok (.goto (-38), 3) := by decide +kernel
theorem dX4_lostCells_46 : decode cX4_lostCells 46 = .ok (.lload_n 2, 1) := by decide +kernel
theorem dX4_lostCells_47 : decode cX4_lostCells 47 = .ok (.lreturn, 1) := by decide +kernel
theorem dX4_countStanding_0 : decode cX4_countStanding 0 = .ok (.aload_n 0, 1) := by decide +kernel
theorem dX4_countStanding_1 : decode cX4_countStanding 1 = .ok (.aload_n 0, 1) := by decide +kernel
theorem dX4_countStanding_2 : decode cX4_countStanding 2 = .ok (.getfield 28, 3) := by decide +kernel
theorem dX4_countStanding_5 : decode cX4_countStanding 5 = .ok (.invokevirtual 76, 3) := by decide +kernel
theorem dX4_countStanding_8 : decode cX4_countStanding 8 = .ok (.invokestatic 79, 3) := by decide +kernel
theorem dX4_countStanding_11 : decode cX4_countStanding 11 = .ok (.ireturn, 1) := by decide +kernel
theorem dX4_countLost_0 : decode cX4_countLost 0 = .ok (.aload_n 0, 1) := by decide +kernel
theorem dX4_countLost_1 : decode cX4_countLost 1 = .ok (.aload_n 0, 1) := by decide +kernel
theorem dX4_countLost_2 : decode cX4_countLost 2 = .ok (.getfield 28, 3) := by decide +kernel
theorem dX4_countLost_5 : decode cX4_countLost 5 = .ok (.invokevirtual 85, 3) := by decide +kernel
theorem dX4_countLost_8 : decode cX4_countLost 8 = .ok (.invokestatic 79, 3) := by decide +kernel
theorem dX4_countLost_11 : decode cX4_countLost 11 = .ok (.ireturn, 1) := by decide +kernel
theorem dX5_init_0 : decode cX5_init 0 = .ok (.aload_n 0, 1) := by decide +kernel
theorem dX5_init_1 : decode cX5_init 1 = .ok (.invokespecial 3, 3) := by decide +kernel
theorem dX5_init_4 : decode cX5_init 4 = .ok (.aload_n 0, 1) := by decide +kernel
theorem dX5_init_5 : decode cX5_init 5 = .ok (.bipush 64, 2) := by decide +kernel
theorem dX5_init_7 : decode cX5_init 7 = .ok (.newarray .int, 2) := by decide +kernel
theorem dX5_init_9 : decode cX5_init 9 = .ok (.putfield 9, 3) := by decide +kernel
theorem dX5_init_12 : decode cX5_init 12 = .ok (.aload_n 0, 1) := by decide +kernel
theorem dX5_init_13 : decode cX5_init 13 = .ok (.bipush 64, 2) := by decide +kernel
theorem dX5_init_15 : decode cX5_init 15 = .ok (.newarray .int, 2) := by decide +kernel
theorem dX5_init_17 : decode cX5_init 17 = .ok (.putfield 15, 3) := by decide +kernel
theorem dX5_init_20 : decode cX5_init 20 = .ok (.aload_n 0, 1) := by decide +kernel
theorem dX5_init_21 : decode cX5_init 21 = .ok (.bipush 64, 2) := by decide +kernel
theorem dX5_init_23 : decode cX5_init 23 = .ok (.newarray .int, 2) := by decide +kernel
theorem dX5_init_25 : decode cX5_init 25 = .ok (.putfield 18, 3) := by decide +kernel
theorem dX5_init_28 : decode cX5_init 28 = .ok (.return_, 1) := by decide +kernel
theorem dX5_stepsThrough_0 : decode cX5_stepsThrough 0 = .ok (.aload_n 0, 1) := by decide +kernel
theorem dX5_stepsThrough_1 : decode cX5_stepsThrough 1 = .ok (.lload_n 2, 1) := by decide +kernel
theorem dX5_stepsThrough_2 : decode cX5_stepsThrough 2 = .ok (.iconst 1, 1) := by decide +kernel
theorem dX5_stepsThrough_3 : decode cX5_stepsThrough 3 = .ok (.lconst 0, 1) := by decide +kernel
theorem dX5_stepsThrough_4 : decode cX5_stepsThrough 4 = .ok (.iconst 0, 1) := by decide +kernel
theorem dX5_stepsThrough_5 : decode cX5_stepsThrough 5 = .ok (.invokevirtual 21, 3) := by decide +kernel
theorem dX5_stepsThrough_8 : decode cX5_stepsThrough 8 = .ok (.aload_n 0, 1) := by decide +kernel
theorem dX5_stepsThrough_9 : decode cX5_stepsThrough 9 = .ok (.aload_n 1, 1) := by decide +kernel
theorem dX5_stepsThrough_10 : decode cX5_stepsThrough 10 = .ok (.iload 5, 2) := by decide +kernel
theorem dX5_stepsThrough_12 : decode cX5_stepsThrough 12 = .ok (.invokevirtual 25, 3) := by decide +kernel
theorem dX5_stepsThrough_15 : decode cX5_stepsThrough 15 = .ok (.aload_n 0, 1) := by decide +kernel
theorem dX5_stepsThrough_16 : decode cX5_stepsThrough 16 = .ok (.iload 4, 2) := by decide +kernel
theorem dX5_stepsThrough_18 : decode cX5_stepsThrough 18 = .ok (.invokevirtual 29, 3) := by decide +kernel
theorem dX5_stepsThrough_21 : decode cX5_stepsThrough 21 = .ok (.ireturn, 1) := by decide +kernel
theorem dX5_price_0 : decode cX5_price 0 = .ok (.iconst 0, 1) := by decide +kernel
theorem dX5_price_1 : decode cX5_price 1 = .ok (.istore 7, 2) := by decide +kernel
theorem dX5_price_3 : decode cX5_price 3 = .ok (.iload 7, 2) := by decide +kernel
theorem dX5_price_5 : decode cX5_price 5 = .ok (.bipush 64, 2) := by decide +kernel
theorem dX5_price_7 : decode cX5_price 7 = .ok (.if_icmp .ge 50, 3) := by decide +kernel
theorem dX5_price_10 : decode cX5_price 10 = .ok (.lload 4, 2) := by decide +kernel
theorem dX5_price_12 : decode cX5_price 12 = .ok (.iload 7, 2) := by decide +kernel
theorem dX5_price_14 : decode cX5_price 14 = .ok (.invokestatic 33, 3) := by decide +kernel
theorem dX5_price_17 : decode cX5_price 17 = .ok (.ifCond .eq 8, 3) := by decide +kernel
theorem dX5_price_20 : decode cX5_price 20 = .ok (.iload 6, 2) := by decide +kernel
theorem dX5_price_22 : decode cX5_price 22 = .ok (.goto 5, 3) := by decide +kernel
theorem dX5_price_25 : decode cX5_price 25 = .ok (.ldc 37, 2) := by decide +kernel
theorem dX5_price_27 : decode cX5_price 27 = .ok (.istore 8, 2) := by decide +kernel
theorem dX5_price_29 : decode cX5_price 29 = .ok (.aload_n 0, 1) := by decide +kernel
theorem dX5_price_30 : decode cX5_price 30 = .ok (.getfield 9, 3) := by decide +kernel
theorem dX5_price_33 : decode cX5_price 33 = .ok (.iload 7, 2) := by decide +kernel
theorem dX5_price_35 : decode cX5_price 35 = .ok (.lload_n 1, 1) := by decide +kernel
theorem dX5_price_36 : decode cX5_price 36 = .ok (.iload 7, 2) := by decide +kernel
theorem dX5_price_38 : decode cX5_price 38 = .ok (.invokestatic 33, 3) := by decide +kernel
theorem dX5_price_41 : decode cX5_price 41 = .ok (.ifCond .eq 7, 3) := by decide +kernel
theorem dX5_price_44 : decode cX5_price 44 = .ok (.iload_n 3, 1) := by decide +kernel
theorem dX5_price_45 : decode cX5_price 45 = .ok (.goto 5, 3) := by decide +kernel
theorem dX5_price_48 : decode cX5_price 48 = .ok (.iload 8, 2) := by decide +kernel
theorem dX5_price_50 : decode cX5_price 50 = .ok (.iastore, 1) := by decide +kernel
theorem dX5_price_51 : decode cX5_price 51 = .ok (.iinc 7 1, 3) := by decide +kernel
theorem dX5_price_54 : decode cX5_price 54 = .ok (.goto (-51), 3) := by decide +kernel
theorem dX5_price_57 : decode cX5_price 57 = .ok (.return_, 1) := by decide +kernel
theorem dX5_priceOf_0 : decode cX5_priceOf 0 = .ok (.iload_n 1, 1) := by decide +kernel
theorem dX5_priceOf_1 : decode cX5_priceOf 1 = .ok (.ifCond .lt 18, 3) := by decide +kernel
theorem dX5_priceOf_4 : decode cX5_priceOf 4 = .ok (.iload_n 1, 1) := by decide +kernel
theorem dX5_priceOf_5 : decode cX5_priceOf 5 = .ok (.bipush 64, 2) := by decide +kernel
theorem dX5_priceOf_7 : decode cX5_priceOf 7 = .ok (.if_icmp .ge 12, 3) := by decide +kernel
theorem dX5_priceOf_10 : decode cX5_priceOf 10 = .ok (.aload_n 0, 1) := by decide +kernel
theorem dX5_priceOf_11 : decode cX5_priceOf 11 = .ok (.getfield 9, 3) := by decide +kernel
theorem dX5_priceOf_14 : decode cX5_priceOf 14 = .ok (.iload_n 1, 1) := by decide +kernel
theorem dX5_priceOf_15 : decode cX5_priceOf 15 = .ok (.iaload, 1) := by decide +kernel
theorem dX5_priceOf_16 : decode cX5_priceOf 16 = .ok (.goto 5, 3) := by decide +kernel
theorem dX5_priceOf_19 : decode cX5_priceOf 19 = .ok (.ldc 37, 2) := by decide +kernel
theorem dX5_priceOf_21 : decode cX5_priceOf 21 = .ok (.ireturn, 1) := by decide +kernel
theorem dX5_restFrom_0 : decode cX5_restFrom 0 = .ok (.iload_n 1, 1) := by decide +kernel
theorem dX5_restFrom_1 : decode cX5_restFrom 1 = .ok (.ifCond .lt 18, 3) := by decide +kernel
theorem dX5_restFrom_4 : decode cX5_restFrom 4 = .ok (.iload_n 1, 1) := by decide +kernel
theorem dX5_restFrom_5 : decode cX5_restFrom 5 = .ok (.bipush 64, 2) := by decide +kernel
theorem dX5_restFrom_7 : decode cX5_restFrom 7 = .ok (.if_icmp .ge 12, 3) := by decide +kernel
theorem dX5_restFrom_10 : decode cX5_restFrom 10 = .ok (.aload_n 0, 1) := by decide +kernel
theorem dX5_restFrom_11 : decode cX5_restFrom 11 = .ok (.getfield 15, 3) := by decide +kernel
theorem dX5_restFrom_14 : decode cX5_restFrom 14 = .ok (.iload_n 1, 1) := by decide +kernel
theorem dX5_restFrom_15 : decode cX5_restFrom 15 = .ok (.iaload, 1) := by decide +kernel
theorem dX5_restFrom_16 : decode cX5_restFrom 16 = .ok (.goto 5, 3) := by decide +kernel
theorem dX5_restFrom_19 : decode cX5_restFrom 19 = .ok (.ldc 37, 2) := by decide +kernel
theorem dX5_restFrom_21 : decode cX5_restFrom 21 = .ok (.ireturn, 1) := by decide +kernel
theorem dX5_measureTo_0 : decode cX5_measureTo 0 = .ok (.iconst 0, 1) := by decide +kernel
theorem dX5_measureTo_1 : decode cX5_measureTo 1 = .ok (.istore_n 3, 1) := by decide +kernel
theorem dX5_measureTo_2 : decode cX5_measureTo 2 = .ok (.iload_n 3, 1) := by decide +kernel
theorem dX5_measureTo_3 : decode cX5_measureTo 3 = .ok (.bipush 64, 2) := by decide +kernel
theorem dX5_measureTo_5 : decode cX5_measureTo 5 = .ok (.if_icmp .ge 17, 3) := by decide +kernel
theorem dX5_measureTo_8 : decode cX5_measureTo 8 = .ok (.aload_n 0, 1) := by decide +kernel
theorem dX5_measureTo_9 : decode cX5_measureTo 9 = .ok (.getfield 15, 3) := by decide +kernel
theorem dX5_measureTo_12 : decode cX5_measureTo 12 = .ok (.iload_n 3, 1) := by decide +kernel
theorem dX5_measureTo_13 : decode cX5_measureTo 13 = .ok (.ldc 37, 2) := by decide +kernel
theorem dX5_measureTo_15 : decode cX5_measureTo 15 = .ok (.iastore, 1) := by decide +kernel
theorem dX5_measureTo_16 : decode cX5_measureTo 16 = .ok (.iinc 3 1, 3) := by decide +kernel
theorem dX5_measureTo_19 : decode cX5_measureTo 19 = .ok (.goto (-17), 3) := by decide +kernel
theorem dX5_measureTo_22 : decode cX5_measureTo 22 = .ok (.aload_n 0, 1) := by decide +kernel
theorem dX5_measureTo_23 : decode cX5_measureTo 23 = .ok (.lconst 0, 1) := by decide +kernel
theorem dX5_measureTo_24 : decode cX5_measureTo 24 = .ok (.putfield 38, 3) := by decide +kernel
theorem dX5_measureTo_27 : decode cX5_measureTo 27 = .ok (.aload_n 0, 1) := by decide +kernel
theorem dX5_measureTo_28 : decode cX5_measureTo 28 = .ok (.iconst 0, 1) := by decide +kernel
theorem dX5_measureTo_29 : decode cX5_measureTo 29 = .ok (.putfield 42, 3) := by decide +kernel
theorem dX5_measureTo_32 : decode cX5_measureTo 32 = .ok (.aload_n 0, 1) := by decide +kernel
theorem dX5_measureTo_33 : decode cX5_measureTo 33 = .ok (.iconst 0, 1) := by decide +kernel
theorem dX5_measureTo_34 : decode cX5_measureTo 34 = .ok (.putfield 46, 3) := by decide +kernel
theorem dX5_measureTo_37 : decode cX5_measureTo 37 = .ok (.aload_n 0, 1) := by decide +kernel
theorem dX5_measureTo_38 : decode cX5_measureTo 38 = .ok (.iload_n 2, 1) := by decide +kernel
theorem dX5_measureTo_39 : decode cX5_measureTo 39 = .ok (.iconst 0, 1) := by decide +kernel
theorem dX5_measureTo_40 : decode cX5_measureTo 40 = .ok (.invokevirtual 49, 3) := by decide +kernel
theorem dX5_measureTo_43 : decode cX5_measureTo 43 = .ok (.iconst 0, 1) := by decide +kernel
theorem dX5_measureTo_44 : decode cX5_measureTo 44 = .ok (.istore_n 3, 1) := by decide +kernel
theorem dX5_measureTo_45 : decode cX5_measureTo 45 = .ok (.iload_n 3, 1) := by decide +kernel
theorem dX5_measureTo_46 : decode cX5_measureTo 46 = .ok (.sipush 4096, 3) := by decide +kernel
theorem dX5_measureTo_49 : decode cX5_measureTo 49 = .ok (.if_icmp .ge 62, 3) := by decide +kernel
theorem dX5_measureTo_52 : decode cX5_measureTo 52 = .ok (.aload_n 0, 1) := by decide +kernel
theorem dX5_measureTo_53 : decode cX5_measureTo 53 = .ok (.getfield 46, 3) := by decide +kernel
theorem dX5_measureTo_56 : decode cX5_measureTo 56 = .ok (.ifCond .le 55, 3) := by decide +kernel
theorem dX5_measureTo_59 : decode cX5_measureTo 59 = .ok (.aload_n 0, 1) := by decide +kernel
theorem dX5_measureTo_60 : decode cX5_measureTo 60 = .ok (.invokevirtual 53, 3) := by decide +kernel
theorem dX5_measureTo_63 : decode cX5_measureTo 63 = .ok (.istore 4, 2) := by decide +kernel
theorem dX5_measureTo_65 : decode cX5_measureTo 65 = .ok (.iconst 0, 1) := by decide +kernel
theorem dX5_measureTo_66 : decode cX5_measureTo 66 = .ok (.istore 5, 2) := by decide +kernel
theorem dX5_measureTo_68 : decode cX5_measureTo 68 = .ok (.iload 5, 2) := by decide +kernel
theorem dX5_measureTo_70 : decode cX5_measureTo 70 = .ok (.iconst 4, 1) := by decide +kernel
theorem dX5_measureTo_71 : decode cX5_measureTo 71 = .ok (.if_icmp .ge 34, 3) := by decide +kernel
theorem dX5_measureTo_74 : decode cX5_measureTo 74 = .ok (.aload_n 0, 1) := by decide +kernel
theorem dX5_measureTo_75 : decode cX5_measureTo 75 = .ok (.aload_n 1, 1) := by decide +kernel
theorem dX5_measureTo_76 : decode cX5_measureTo 76 = .ok (.iload 4, 2) := by decide +kernel
theorem dX5_measureTo_78 : decode cX5_measureTo 78 = .ok (.iload 5, 2) := by decide +kernel
theorem dX5_measureTo_80 : decode cX5_measureTo 80 = .ok (.invokevirtual 57, 3) := by decide +kernel
theorem dX5_measureTo_83 : decode cX5_measureTo 83 = .ok (.aload_n 0, 1) := by decide +kernel
theorem dX5_measureTo_84 : decode cX5_measureTo 84 = .ok (.iload 4, 2) := by decide +kernel
theorem dX5_measureTo_86 : decode cX5_measureTo 86 = .ok (.invokevirtual 29, 3) := by decide +kernel
theorem dX5_measureTo_89 : decode cX5_measureTo 89 = .ok (.aload_n 0, 1) := by decide +kernel
theorem dX5_measureTo_90 : decode cX5_measureTo 90 = .ok (.iload 4, 2) := by decide +kernel
theorem dX5_measureTo_92 : decode cX5_measureTo 92 = .ok (.invokevirtual 63, 3) := by decide +kernel
theorem dX5_measureTo_95 : decode cX5_measureTo 95 = .ok (.iadd, 1) := by decide +kernel
theorem dX5_measureTo_96 : decode cX5_measureTo 96 = .ok (.invokevirtual 49, 3) := by decide +kernel
theorem dX5_measureTo_99 : decode cX5_measureTo 99 = .ok (.iinc 5 1, 3) := by decide +kernel
theorem dX5_measureTo_102 : decode cX5_measureTo 102 = .ok (.goto (-34), 3) := by decide +kernel
theorem dX5_measureTo_105 : decode cX5_measureTo 105 = .ok (.iinc 3 1, 3) := by decide +kernel
theorem dX5_measureTo_108 : decode cX5_measureTo 108 = .ok (.goto (-63), 3) := by decide +kernel
theorem dX5_measureTo_111 : decode cX5_measureTo 111 = .ok (.return_, 1) := by decide +kernel
theorem dX5_reach_0 : decode cX5_reach 0 = .ok (.aload_n 0, 1) := by decide +kernel
theorem dX5_reach_1 : decode cX5_reach 1 = .ok (.iload_n 1, 1) := by decide +kernel
theorem dX5_reach_2 : decode cX5_reach 2 = .ok (.invokevirtual 63, 3) := by decide +kernel
theorem dX5_reach_5 : decode cX5_reach 5 = .ok (.ldc 37, 2) := by decide +kernel
theorem dX5_reach_7 : decode cX5_reach 7 = .ok (.if_icmp .eq 12, 3) := by decide +kernel
theorem dX5_reach_10 : decode cX5_reach 10 = .ok (.iload_n 2, 1) := by decide +kernel
theorem dX5_reach_11 : decode cX5_reach 11 = .ok (.aload_n 0, 1) := by decide +kernel
theorem dX5_reach_12 : decode cX5_reach 12 = .ok (.iload_n 1, 1) := by decide +kernel
theorem dX5_reach_13 : decode cX5_reach 13 = .ok (.invokevirtual 29, 3) := by decide +kernel
theorem dX5_reach_16 : decode cX5_reach 16 = .ok (.if_icmp .lt 4, 3) := by decide +kernel
theorem dX5_reach_19 : decode cX5_reach 19 = .ok (.return_, 1) := by decide +kernel
theorem dX5_reach_20 : decode cX5_reach 20 = .ok (.aload_n 0, 1) := by decide +kernel
theorem dX5_reach_21 : decode cX5_reach 21 = .ok (.getfield 15, 3) := by decide +kernel
theorem dX5_reach_24 : decode cX5_reach 24 = .ok (.iload_n 1, 1) := by decide +kernel
theorem dX5_reach_25 : decode cX5_reach 25 = .ok (.iload_n 2, 1) := by decide +kernel
theorem dX5_reach_26 : decode cX5_reach 26 = .ok (.iastore, 1) := by decide +kernel
theorem dX5_reach_27 : decode cX5_reach 27 = .ok (.aload_n 0, 1) := by decide +kernel
theorem dX5_reach_28 : decode cX5_reach 28 = .ok (.getfield 38, 3) := by decide +kernel
theorem dX5_reach_31 : decode cX5_reach 31 = .ok (.iload_n 1, 1) := by decide +kernel
theorem dX5_reach_32 : decode cX5_reach 32 = .ok (.invokestatic 33, 3) := by decide +kernel
theorem dX5_reach_35 : decode cX5_reach 35 = .ok (.ifCond .ne 53, 3) := by decide +kernel
theorem dX5_reach_38 : decode cX5_reach 38 = .ok (.aload_n 0, 1) := by decide +kernel
theorem dX5_reach_39 : decode cX5_reach 39 = .ok (.getfield 46, 3) := by decide +kernel
theorem dX5_reach_42 : decode cX5_reach 42 = .ok (.bipush 64, 2) := by decide +kernel
theorem dX5_reach_44 : decode cX5_reach 44 = .ok (.if_icmp .ge 44, 3) := by decide +kernel
theorem dX5_reach_47 : decode cX5_reach 47 = .ok (.aload_n 0, 1) := by decide +kernel
theorem dX5_reach_48 : decode cX5_reach 48 = .ok (.getfield 18, 3) := by decide +kernel
theorem dX5_reach_51 : decode cX5_reach 51 = .ok (.aload_n 0, 1) := by decide +kernel
theorem dX5_reach_52 : decode cX5_reach 52 = .ok (.getfield 42, 3) := by decide +kernel
theorem dX5_reach_55 : decode cX5_reach 55 = .ok (.aload_n 0, 1) := by decide +kernel
theorem dX5_reach_56 : decode cX5_reach 56 = .ok (.getfield 46, 3) := by decide +kernel
theorem dX5_reach_59 : decode cX5_reach 59 = .ok (.iadd, 1) := by decide +kernel
theorem dX5_reach_60 : decode cX5_reach 60 = .ok (.bipush 64, 2) := by decide +kernel
theorem dX5_reach_62 : decode cX5_reach 62 = .ok (.irem, 1) := by decide +kernel
theorem dX5_reach_63 : decode cX5_reach 63 = .ok (.iload_n 1, 1) := by decide +kernel
theorem dX5_reach_64 : decode cX5_reach 64 = .ok (.iastore, 1) := by decide +kernel
theorem dX5_reach_65 : decode cX5_reach 65 = .ok (.aload_n 0, 1) := by decide +kernel
theorem dX5_reach_66 : decode cX5_reach 66 = .ok (.dup, 1) := by decide +kernel
theorem dX5_reach_67 : decode cX5_reach 67 = .ok (.getfield 38, 3) := by decide +kernel
theorem dX5_reach_70 : decode cX5_reach 70 = .ok (.iload_n 1, 1) := by decide +kernel
theorem dX5_reach_71 : decode cX5_reach 71 = .ok (.invokestatic 66, 3) := by decide +kernel
theorem dX5_reach_74 : decode cX5_reach 74 = .ok (.lor, 1) := by decide +kernel
theorem dX5_reach_75 : decode cX5_reach 75 = .ok (.putfield 38, 3) := by decide +kernel
theorem dX5_reach_78 : decode cX5_reach 78 = .ok (.aload_n 0, 1) := by decide +kernel
theorem dX5_reach_79 : decode cX5_reach 79 = .ok (.dup, 1) := by decide +kernel
theorem dX5_reach_80 : decode cX5_reach 80 = .ok (.getfield 46, 3) := by decide +kernel
theorem dX5_reach_83 : decode cX5_reach 83 = .ok (.iconst 1, 1) := by decide +kernel
theorem dX5_reach_84 : decode cX5_reach 84 = .ok (.iadd, 1) := by decide +kernel
theorem dX5_reach_85 : decode cX5_reach 85 = .ok (.putfield 46, 3) := by decide +kernel
theorem dX5_reach_88 : decode cX5_reach 88 = .ok (.return_, 1) := by decide +kernel
theorem dX5_takeFromQueue_0 : decode cX5_takeFromQueue 0 = .ok (.aload_n 0, 1) := by decide +kernel
theorem dX5_takeFromQueue_1 : decode cX5_takeFromQueue 1 = .ok (.getfield 18, 3) := by decide +kernel
theorem dX5_takeFromQueue_4 : decode cX5_takeFromQueue 4 = .ok (.aload_n 0, 1) := by decide +kernel
theorem dX5_takeFromQueue_5 : decode cX5_takeFromQueue 5 = .ok (.getfield 42, 3) := by decide +kernel
theorem dX5_takeFromQueue_8 : decode cX5_takeFromQueue 8 = .ok (.iaload, 1) := by decide +kernel
theorem dX5_takeFromQueue_9 : decode cX5_takeFromQueue 9 = .ok (.istore_n 1, 1) := by decide +kernel
theorem dX5_takeFromQueue_10 : decode cX5_takeFromQueue 10 = .ok (.aload_n 0, 1) := by decide +kernel
theorem dX5_takeFromQueue_11 : decode cX5_takeFromQueue 11 = .ok (.aload_n 0, 1) := by decide +kernel
theorem dX5_takeFromQueue_12 : decode cX5_takeFromQueue 12 = .ok (.getfield 42, 3) := by decide +kernel
theorem dX5_takeFromQueue_15 : decode cX5_takeFromQueue 15 = .ok (.iconst 1, 1) := by decide +kernel
theorem dX5_takeFromQueue_16 : decode cX5_takeFromQueue 16 = .ok (.iadd, 1) := by decide +kernel
theorem dX5_takeFromQueue_17 : decode cX5_takeFromQueue 17 = .ok (.bipush 64, 2) := by decide +kernel
theorem dX5_takeFromQueue_19 : decode cX5_takeFromQueue 19 = .ok (.irem, 1) := by decide +kernel
theorem dX5_takeFromQueue_20 : decode cX5_takeFromQueue 20 = .ok (.putfield 42, 3) := by decide +kernel
theorem dX5_takeFromQueue_23 : decode cX5_takeFromQueue 23 = .ok (.aload_n 0, 1) := by decide +kernel
theorem dX5_takeFromQueue_24 : decode cX5_takeFromQueue 24 = .ok (.dup, 1) := by decide +kernel
theorem dX5_takeFromQueue_25 : decode cX5_takeFromQueue 25 = .ok (.getfield 46, 3) := by decide +kernel
theorem dX5_takeFromQueue_28 : decode cX5_takeFromQueue 28 = .ok (.iconst 1, 1) := by decide +kernel
theorem dX5_takeFromQueue_29 : decode cX5_takeFromQueue 29 = .ok (.isub, 1) := by decide +kernel
theorem dX5_takeFromQueue_30 : decode cX5_takeFromQueue 30 = .ok (.putfield 46, 3) := by decide +kernel
theorem dX5_takeFromQueue_33 : decode cX5_takeFromQueue 33 = .ok (.aload_n 0, 1) := by decide +kernel
theorem dX5_takeFromQueue_34 : decode cX5_takeFromQueue 34 = .ok (.dup, 1) := by decide +kernel
theorem dX5_takeFromQueue_35 : decode cX5_takeFromQueue 35 = .ok (.getfield 38, 3) := by decide +kernel
theorem dX5_takeFromQueue_38 : decode cX5_takeFromQueue 38 = .ok (.iload_n 1, 1) := by decide +kernel
theorem dX5_takeFromQueue_39 : decode cX5_takeFromQueue 39 = .ok (.invokestatic 66, 3) := by decide +kernel
theorem dX5_takeFromQueue_42 : decode cX5_takeFromQueue 42 = .ok (.ldc2_w 70, 3) := by decide +kernel
theorem dX5_takeFromQueue_45 : decode cX5_takeFromQueue 45 = .ok (.lxor, 1) := by decide +kernel
theorem dX5_takeFromQueue_46 : decode cX5_takeFromQueue 46 = .ok (.land, 1) := by decide +kernel
theorem dX5_takeFromQueue_47 : decode cX5_takeFromQueue 47 = .ok (.putfield 38, 3) := by decide +kernel
theorem dX5_takeFromQueue_50 : decode cX5_takeFromQueue 50 = .ok (.iload_n 1, 1) := by decide +kernel
theorem dX5_takeFromQueue_51 : decode cX5_takeFromQueue 51 = .ok (.ireturn, 1) := by decide +kernel
theorem dX5_nextFrom_0 : decode cX5_nextFrom 0 = .ok (.iconst (-1), 1) := by decide +kernel
theorem dX5_nextFrom_1 : decode cX5_nextFrom 1 = .ok (.istore_n 3, 1) := by decide +kernel
theorem dX5_nextFrom_2 : decode cX5_nextFrom 2 = .ok (.ldc 37, 2) := by decide +kernel
theorem dX5_nextFrom_4 : decode cX5_nextFrom 4 = .ok (.istore 4, 2) := by decide +kernel
theorem dX5_nextFrom_6 : decode cX5_nextFrom 6 = .ok (.iconst 0, 1) := by decide +kernel
theorem dX5_nextFrom_7 : decode cX5_nextFrom 7 = .ok (.istore 5, 2) := by decide +kernel
theorem dX5_nextFrom_9 : decode cX5_nextFrom 9 = .ok (.iload 5, 2) := by decide +kernel
theorem dX5_nextFrom_11 : decode cX5_nextFrom 11 = .ok (.iconst 4, 1) := by decide +kernel
theorem dX5_nextFrom_12 : decode cX5_nextFrom 12 = .ok (.if_icmp .ge 47, 3) := by decide +kernel
theorem dX5_nextFrom_15 : decode cX5_nextFrom 15 = .ok (.aload_n 1, 1) := by decide +kernel
theorem dX5_nextFrom_16 : decode cX5_nextFrom 16 = .ok (.iload_n 2, 1) := by decide +kernel
theorem dX5_nextFrom_17 : decode cX5_nextFrom 17 = .ok (.iload 5, 2) := by decide +kernel
theorem dX5_nextFrom_19 : decode cX5_nextFrom 19 = .ok (.invokevirtual 57, 3) := by decide +kernel
theorem dX5_nextFrom_22 : decode cX5_nextFrom 22 = .ok (.istore 6, 2) := by decide +kernel
theorem dX5_nextFrom_24 : decode cX5_nextFrom 24 = .ok (.aload_n 0, 1) := by decide +kernel
theorem dX5_nextFrom_25 : decode cX5_nextFrom 25 = .ok (.iload 6, 2) := by decide +kernel
theorem dX5_nextFrom_27 : decode cX5_nextFrom 27 = .ok (.invokevirtual 63, 3) := by decide +kernel
theorem dX5_nextFrom_30 : decode cX5_nextFrom 30 = .ok (.aload_n 0, 1) := by decide +kernel
theorem dX5_nextFrom_31 : decode cX5_nextFrom 31 = .ok (.iload 6, 2) := by decide +kernel
theorem dX5_nextFrom_33 : decode cX5_nextFrom 33 = .ok (.invokevirtual 29, 3) := by decide +kernel
theorem dX5_nextFrom_36 : decode cX5_nextFrom 36 = .ok (.iadd, 1) := by decide +kernel
theorem dX5_nextFrom_37 : decode cX5_nextFrom 37 = .ok (.istore 7, 2) := by decide +kernel
theorem dX5_nextFrom_39 : decode cX5_nextFrom 39 = .ok (.iload 7, 2) := by decide +kernel
theorem dX5_nextFrom_41 : decode cX5_nextFrom 41 = .ok (.iload 4, 2) := by decide +kernel
theorem dX5_nextFrom_43 : decode cX5_nextFrom 43 = .ok (.if_icmp .ge 10, 3) := by decide +kernel
theorem dX5_nextFrom_46 : decode cX5_nextFrom 46 = .ok (.iload 7, 2) := by decide +kernel
theorem dX5_nextFrom_48 : decode cX5_nextFrom 48 = .ok (.istore 4, 2) := by decide +kernel
theorem dX5_nextFrom_50 : decode cX5_nextFrom 50 = .ok (.iload 6, 2) := by decide +kernel
theorem dX5_nextFrom_52 : decode cX5_nextFrom 52 = .ok (.istore_n 3, 1) := by decide +kernel
theorem dX5_nextFrom_53 : decode cX5_nextFrom 53 = .ok (.iinc 5 1, 3) := by decide +kernel
theorem dX5_nextFrom_56 : decode cX5_nextFrom 56 = .ok (.goto (-47), 3) := by decide +kernel
theorem dX5_nextFrom_59 : decode cX5_nextFrom 59 = .ok (.iload_n 3, 1) := by decide +kernel
theorem dX5_nextFrom_60 : decode cX5_nextFrom 60 = .ok (.ireturn, 1) := by decide +kernel
theorem dX6_init_0 : decode cX6_init 0 = .ok (.aload_n 0, 1) := by decide +kernel
theorem dX6_init_1 : decode cX6_init 1 = .ok (.invokespecial 3, 3) := by decide +kernel
theorem dX6_init_4 : decode cX6_init 4 = .ok (.aload_n 0, 1) := by decide +kernel
theorem dX6_init_5 : decode cX6_init 5 = .ok (.new 9, 3) := by decide +kernel
theorem dX6_init_8 : decode cX6_init 8 = .ok (.dup, 1) := by decide +kernel
theorem dX6_init_9 : decode cX6_init 9 = .ok (.invokespecial 11, 3) := by decide +kernel
theorem dX6_init_12 : decode cX6_init 12 = .ok (.putfield 12, 3) := by decide +kernel
theorem dX6_init_15 : decode cX6_init 15 = .ok (.aload_n 0, 1) := by decide +kernel
theorem dX6_init_16 : decode cX6_init 16 = .ok (.iconst 4, 1) := by decide +kernel
theorem dX6_init_17 : decode cX6_init 17 = .ok (.newarray .int, 2) := by decide +kernel
theorem dX6_init_19 : decode cX6_init 19 = .ok (.putfield 18, 3) := by decide +kernel
theorem dX6_init_22 : decode cX6_init 22 = .ok (.return_, 1) := by decide +kernel
theorem dX6_readAll_0 : decode cX6_readAll 0 = .ok (.aload_n 0, 1) := by decide +kernel
theorem dX6_readAll_1 : decode cX6_readAll 1 = .ok (.getfield 12, 3) := by decide +kernel
theorem dX6_readAll_4 : decode cX6_readAll 4 = .ok (.invokevirtual 22, 3) := by decide +kernel
theorem dX6_readAll_7 : decode cX6_readAll 7 = .ok (.iconst 0, 1) := by decide +kernel
theorem dX6_readAll_8 : decode cX6_readAll 8 = .ok (.istore_n 2, 1) := by decide +kernel
theorem dX6_readAll_9 : decode cX6_readAll 9 = .ok (.iconst 0, 1) := by decide +kernel
theorem dX6_readAll_10 : decode cX6_readAll 10 = .ok (.istore_n 3, 1) := by decide +kernel
theorem dX6_readAll_11 : decode cX6_readAll 11 = .ok (.iload_n 3, 1) := by decide +kernel
theorem dX6_readAll_12 : decode cX6_readAll 12 = .ok (.sipush 200, 3) := by decide +kernel
theorem dX6_readAll_15 : decode cX6_readAll 15 = .ok (.if_icmp .ge 60, 3) := by decide +kernel
theorem dX6_readAll_18 : decode cX6_readAll 18 = .ok (.iload_n 2, 1) := by decide +kernel
theorem dX6_readAll_19 : decode cX6_readAll 19 = .ok (.aload_n 1, 1) := by decide +kernel
theorem dX6_readAll_20 : decode cX6_readAll 20 = .ok (.invokevirtual 25, 3) := by decide +kernel
theorem dX6_readAll_23 : decode cX6_readAll 23 = .ok (.if_icmp .ge 52, 3) := by decide +kernel
theorem dX6_readAll_26 : decode cX6_readAll 26 = .ok (.aload_n 1, 1) := by decide +kernel
theorem dX6_readAll_27 : decode cX6_readAll 27 = .ok (.iload_n 2, 1) := by decide +kernel
theorem dX6_readAll_28 : decode cX6_readAll 28 = .ok (.invokevirtual 31, 3) := by decide +kernel
theorem dX6_readAll_31 : decode cX6_readAll 31 = .ok (.istore 4, 2) := by decide +kernel
theorem dX6_readAll_33 : decode cX6_readAll 33 = .ok (.aload_n 0, 1) := by decide +kernel
theorem dX6_readAll_34 : decode cX6_readAll 34 = .ok (.aload_n 1, 1) := by decide +kernel
theorem dX6_readAll_35 : decode cX6_readAll 35 = .ok (.iload_n 2, 1) := by decide +kernel
theorem dX6_readAll_36 : decode cX6_readAll 36 = .ok (.iconst 1, 1) := by decide +kernel
theorem dX6_readAll_37 : decode cX6_readAll 37 = .ok (.iadd, 1) := by decide +kernel
theorem dX6_readAll_38 : decode cX6_readAll 38 = .ok (.iload 4, 2) := by decide +kernel
theorem dX6_readAll_40 : decode cX6_readAll 40 = .ok (.invokestatic 35, 3) := by decide +kernel
theorem dX6_readAll_43 : decode cX6_readAll 43 = .ok (.invokevirtual 39, 3) := by decide +kernel
theorem dX6_readAll_46 : decode cX6_readAll 46 = .ok (.istore 5, 2) := by decide +kernel
theorem dX6_readAll_48 : decode cX6_readAll 48 = .ok (.iload 5, 2) := by decide +kernel
theorem dX6_readAll_50 : decode cX6_readAll 50 = .ok (.bipush (-4), 2) := by decide +kernel
theorem dX6_readAll_52 : decode cX6_readAll 52 = .ok (.if_icmp .eq 12, 3) := by decide +kernel
theorem dX6_readAll_55 : decode cX6_readAll 55 = .ok (.aload_n 0, 1) := by decide +kernel
theorem dX6_readAll_56 : decode cX6_readAll 56 = .ok (.iload 4, 2) := by decide +kernel
theorem dX6_readAll_58 : decode cX6_readAll 58 = .ok (.invokevirtual 43, 3) := by decide +kernel
theorem dX6_readAll_61 : decode cX6_readAll 61 = .ok (.ifCond .ne 5, 3) := by decide +kernel
theorem dX6_readAll_64 : decode cX6_readAll 64 = .ok (.iload_n 2, 1) := by decide +kernel
theorem dX6_readAll_65 : decode cX6_readAll 65 = .ok (.ireturn, 1) := by decide +kernel
theorem dX6_readAll_66 : decode cX6_readAll 66 = .ok (.iload 5, 2) := by decide +kernel
theorem dX6_readAll_68 : decode cX6_readAll 68 = .ok (.istore_n 2, 1) := by decide +kernel
theorem dX6_readAll_69 : decode cX6_readAll 69 = .ok (.iinc 3 1, 3) := by decide +kernel
theorem dX6_readAll_72 : decode cX6_readAll 72 = .ok (.goto (-61), 3) := by decide +kernel
theorem dX6_readAll_75 : decode cX6_readAll 75 = .ok (.bipush (-4), 2) := by decide +kernel
theorem dX6_readAll_77 : decode cX6_readAll 77 = .ok (.ireturn, 1) := by decide +kernel
theorem dX6_numbersBehind_0 : decode cX6_numbersBehind 0 = .ok (.iload_n 0, 1) := by decide +kernel
theorem dX6_numbersBehind_1 : decode cX6_numbersBehind 1 = .ok (.lookupswitch 41 #[(109, 39), (114, 35), (116, 37)], 35) := by decide +kernel
theorem dX6_numbersBehind_36 : decode cX6_numbersBehind 36 = .ok (.iconst 2, 1) := by decide +kernel
theorem dX6_numbersBehind_37 : decode cX6_numbersBehind 37 = .ok (.ireturn, 1) := by decide +kernel
theorem dX6_numbersBehind_38 : decode cX6_numbersBehind 38 = .ok (.iconst 4, 1) := by decide +kernel
theorem dX6_numbersBehind_39 : decode cX6_numbersBehind 39 = .ok (.ireturn, 1) := by decide +kernel
theorem dX6_numbersBehind_40 : decode cX6_numbersBehind 40 = .ok (.iconst 3, 1) := by decide +kernel
theorem dX6_numbersBehind_41 : decode cX6_numbersBehind 41 = .ok (.ireturn, 1) := by decide +kernel
theorem dX6_numbersBehind_42 : decode cX6_numbersBehind 42 = .ok (.iconst 0, 1) := by decide +kernel
theorem dX6_numbersBehind_43 : decode cX6_numbersBehind 43 = .ok (.ireturn, 1) := by decide +kernel
theorem dX6_readNumbers_0 : decode cX6_readNumbers 0 = .ok (.iload_n 2, 1) := by decide +kernel
theorem dX6_readNumbers_1 : decode cX6_readNumbers 1 = .ok (.istore 4, 2) := by decide +kernel
theorem dX6_readNumbers_3 : decode cX6_readNumbers 3 = .ok (.iconst 0, 1) := by decide +kernel
theorem dX6_readNumbers_4 : decode cX6_readNumbers 4 = .ok (.istore 5, 2) := by decide +kernel
theorem dX6_readNumbers_6 : decode cX6_readNumbers 6 = .ok (.iload 5, 2) := by decide +kernel
theorem dX6_readNumbers_8 : decode cX6_readNumbers 8 = .ok (.iload_n 3, 1) := by decide +kernel
theorem dX6_readNumbers_9 : decode cX6_readNumbers 9 = .ok (.if_icmp .ge 119, 3) := by decide +kernel
theorem dX6_readNumbers_12 : decode cX6_readNumbers 12 = .ok (.iload 5, 2) := by decide +kernel
theorem dX6_readNumbers_14 : decode cX6_readNumbers 14 = .ok (.aload_n 0, 1) := by decide +kernel
theorem dX6_readNumbers_15 : decode cX6_readNumbers 15 = .ok (.getfield 18, 3) := by decide +kernel
theorem dX6_readNumbers_18 : decode cX6_readNumbers 18 = .ok (.arraylength, 1) := by decide +kernel
theorem dX6_readNumbers_19 : decode cX6_readNumbers 19 = .ok (.if_icmp .ge 109, 3) := by decide +kernel
theorem dX6_readNumbers_22 : decode cX6_readNumbers 22 = .ok (.aload_n 1, 1) := by decide +kernel
theorem dX6_readNumbers_23 : decode cX6_readNumbers 23 = .ok (.iload 4, 2) := by decide +kernel
theorem dX6_readNumbers_25 : decode cX6_readNumbers 25 = .ok (.invokevirtual 47, 3) := by decide +kernel
theorem dX6_readNumbers_28 : decode cX6_readNumbers 28 = .ok (.ifCond .ne 6, 3) := by decide +kernel
theorem dX6_readNumbers_31 : decode cX6_readNumbers 31 = .ok (.bipush (-4), 2) := by decide +kernel
theorem dX6_readNumbers_33 : decode cX6_readNumbers 33 = .ok (.ireturn, 1) := by decide +kernel
theorem dX6_readNumbers_34 : decode cX6_readNumbers 34 = .ok (.aload_n 0, 1) := by decide +kernel
theorem dX6_readNumbers_35 : decode cX6_readNumbers 35 = .ok (.getfield 18, 3) := by decide +kernel
theorem dX6_readNumbers_38 : decode cX6_readNumbers 38 = .ok (.iload 5, 2) := by decide +kernel
theorem dX6_readNumbers_40 : decode cX6_readNumbers 40 = .ok (.aload_n 1, 1) := by decide +kernel
theorem dX6_readNumbers_41 : decode cX6_readNumbers 41 = .ok (.iload 4, 2) := by decide +kernel
theorem dX6_readNumbers_43 : decode cX6_readNumbers 43 = .ok (.invokevirtual 31, 3) := by decide +kernel
theorem dX6_readNumbers_46 : decode cX6_readNumbers 46 = .ok (.bipush 48, 2) := by decide +kernel
theorem dX6_readNumbers_48 : decode cX6_readNumbers 48 = .ok (.isub, 1) := by decide +kernel
theorem dX6_readNumbers_49 : decode cX6_readNumbers 49 = .ok (.iastore, 1) := by decide +kernel
theorem dX6_readNumbers_50 : decode cX6_readNumbers 50 = .ok (.iinc 4 1, 3) := by decide +kernel
theorem dX6_readNumbers_53 : decode cX6_readNumbers 53 = .ok (.aload_n 1, 1) := by decide +kernel
theorem dX6_readNumbers_54 : decode cX6_readNumbers 54 = .ok (.iload 4, 2) := by decide +kernel
theorem dX6_readNumbers_56 : decode cX6_readNumbers 56 = .ok (.invokevirtual 47, 3) := by decide +kernel
theorem dX6_readNumbers_59 : decode cX6_readNumbers 59 = .ok (.ifCond .eq 33, 3) := by decide +kernel
theorem dX6_readNumbers_62 : decode cX6_readNumbers 62 = .ok (.aload_n 0, 1) := by decide +kernel
theorem dX6_readNumbers_63 : decode cX6_readNumbers 63 = .ok (.getfield 18, 3) := by decide +kernel
theorem dX6_readNumbers_66 : decode cX6_readNumbers 66 = .ok (.iload 5, 2) := by decide +kernel
theorem dX6_readNumbers_68 : decode cX6_readNumbers 68 = .ok (.bipush 10, 2) := by decide +kernel
theorem dX6_readNumbers_70 : decode cX6_readNumbers 70 = .ok (.aload_n 0, 1) := by decide +kernel
theorem dX6_readNumbers_71 : decode cX6_readNumbers 71 = .ok (.getfield 18, 3) := by decide +kernel
theorem dX6_readNumbers_74 : decode cX6_readNumbers 74 = .ok (.iload 5, 2) := by decide +kernel
theorem dX6_readNumbers_76 : decode cX6_readNumbers 76 = .ok (.iaload, 1) := by decide +kernel
theorem dX6_readNumbers_77 : decode cX6_readNumbers 77 = .ok (.imul, 1) := by decide +kernel
theorem dX6_readNumbers_78 : decode cX6_readNumbers 78 = .ok (.aload_n 1, 1) := by decide +kernel
theorem dX6_readNumbers_79 : decode cX6_readNumbers 79 = .ok (.iload 4, 2) := by decide +kernel
theorem dX6_readNumbers_81 : decode cX6_readNumbers 81 = .ok (.invokevirtual 31, 3) := by decide +kernel
theorem dX6_readNumbers_84 : decode cX6_readNumbers 84 = .ok (.iadd, 1) := by decide +kernel
theorem dX6_readNumbers_85 : decode cX6_readNumbers 85 = .ok (.bipush 48, 2) := by decide +kernel
theorem dX6_readNumbers_87 : decode cX6_readNumbers 87 = .ok (.isub, 1) := by decide +kernel
theorem dX6_readNumbers_88 : decode cX6_readNumbers 88 = .ok (.iastore, 1) := by decide +kernel
theorem dX6_readNumbers_89 : decode cX6_readNumbers 89 = .ok (.iinc 4 1, 3) := by decide +kernel
theorem dX6_readNumbers_92 : decode cX6_readNumbers 92 = .ok (.aload_n 1, 1) := by decide +kernel
theorem dX6_readNumbers_93 : decode cX6_readNumbers 93 = .ok (.iload 4, 2) := by decide +kernel
theorem dX6_readNumbers_95 : decode cX6_readNumbers 95 = .ok (.invokevirtual 31, 3) := by decide +kernel
theorem dX6_readNumbers_98 : decode cX6_readNumbers 98 = .ok (.iload 5, 2) := by decide +kernel
theorem dX6_readNumbers_100 : decode cX6_readNumbers 100 = .ok (.iconst 1, 1) := by decide +kernel
theorem dX6_readNumbers_101 : decode cX6_readNumbers 101 = .ok (.iadd, 1) := by decide +kernel
theorem dX6_readNumbers_102 : decode cX6_readNumbers 102 = .ok (.iload_n 3, 1) := by decide +kernel
theorem dX6_readNumbers_103 : decode cX6_readNumbers 103 = .ok (.if_icmp .ge 8, 3) := by decide +kernel
theorem dX6_readNumbers_106 : decode cX6_readNumbers 106 = .ok (.bipush 44, 2) := by decide +kernel
theorem dX6_readNumbers_108 : decode cX6_readNumbers 108 = .ok (.goto 5, 3) := by decide +kernel
theorem dX6_readNumbers_111 : decode cX6_readNumbers 111 = .ok (.bipush 59, 2) := by decide +kernel
theorem dX6_readNumbers_113 : decode cX6_readNumbers 113 = .ok (.if_icmp .eq 6, 3) := by decide +kernel
theorem dX6_readNumbers_116 : decode cX6_readNumbers 116 = .ok (.bipush (-4), 2) := by decide +kernel
theorem dX6_readNumbers_118 : decode cX6_readNumbers 118 = .ok (.ireturn, 1) := by decide +kernel
theorem dX6_readNumbers_119 : decode cX6_readNumbers 119 = .ok (.iinc 4 1, 3) := by decide +kernel
theorem dX6_readNumbers_122 : decode cX6_readNumbers 122 = .ok (.iinc 5 1, 3) := by decide +kernel
theorem dX6_readNumbers_125 : decode cX6_readNumbers 125 = .ok (.goto (-119), 3) := by decide +kernel
theorem dX6_readNumbers_128 : decode cX6_readNumbers 128 = .ok (.iload_n 3, 1) := by decide +kernel
theorem dX6_readNumbers_129 : decode cX6_readNumbers 129 = .ok (.ifCond .ne 8, 3) := by decide +kernel
theorem dX6_readNumbers_132 : decode cX6_readNumbers 132 = .ok (.bipush (-4), 2) := by decide +kernel
theorem dX6_readNumbers_134 : decode cX6_readNumbers 134 = .ok (.goto 5, 3) := by decide +kernel
theorem dX6_readNumbers_137 : decode cX6_readNumbers 137 = .ok (.iload 4, 2) := by decide +kernel
theorem dX6_readNumbers_139 : decode cX6_readNumbers 139 = .ok (.ireturn, 1) := by decide +kernel
theorem dX6_isTaken_0 : decode cX6_isTaken 0 = .ok (.iload_n 1, 1) := by decide +kernel
theorem dX6_isTaken_1 : decode cX6_isTaken 1 = .ok (.lookupswitch 104 #[(109, 81), (114, 35), (116, 52)], 35) := by decide +kernel
theorem dX6_isTaken_36 : decode cX6_isTaken 36 = .ok (.aload_n 0, 1) := by decide +kernel
theorem dX6_isTaken_37 : decode cX6_isTaken 37 = .ok (.aload_n 0, 1) := by decide +kernel
theorem dX6_isTaken_38 : decode cX6_isTaken 38 = .ok (.getfield 18, 3) := by decide +kernel
theorem dX6_isTaken_41 : decode cX6_isTaken 41 = .ok (.iconst 0, 1) := by decide +kernel
theorem dX6_isTaken_42 : decode cX6_isTaken 42 = .ok (.iaload, 1) := by decide +kernel
theorem dX6_isTaken_43 : decode cX6_isTaken 43 = .ok (.aload_n 0, 1) := by decide +kernel
theorem dX6_isTaken_44 : decode cX6_isTaken 44 = .ok (.getfield 18, 3) := by decide +kernel
theorem dX6_isTaken_47 : decode cX6_isTaken 47 = .ok (.iconst 1, 1) := by decide +kernel
theorem dX6_isTaken_48 : decode cX6_isTaken 48 = .ok (.iaload, 1) := by decide +kernel
theorem dX6_isTaken_49 : decode cX6_isTaken 49 = .ok (.invokevirtual 51, 3) := by decide +kernel
theorem dX6_isTaken_52 : decode cX6_isTaken 52 = .ok (.ireturn, 1) := by decide +kernel
theorem dX6_isTaken_53 : decode cX6_isTaken 53 = .ok (.aload_n 0, 1) := by decide +kernel
theorem dX6_isTaken_54 : decode cX6_isTaken 54 = .ok (.aload_n 0, 1) := by decide +kernel
theorem dX6_isTaken_55 : decode cX6_isTaken 55 = .ok (.getfield 18, 3) := by decide +kernel
theorem dX6_isTaken_58 : decode cX6_isTaken 58 = .ok (.iconst 0, 1) := by decide +kernel
theorem dX6_isTaken_59 : decode cX6_isTaken 59 = .ok (.iaload, 1) := by decide +kernel
theorem dX6_isTaken_60 : decode cX6_isTaken 60 = .ok (.aload_n 0, 1) := by decide +kernel
theorem dX6_isTaken_61 : decode cX6_isTaken 61 = .ok (.getfield 18, 3) := by decide +kernel
theorem dX6_isTaken_64 : decode cX6_isTaken 64 = .ok (.iconst 1, 1) := by decide +kernel
theorem dX6_isTaken_65 : decode cX6_isTaken 65 = .ok (.iaload, 1) := by decide +kernel
theorem dX6_isTaken_66 : decode cX6_isTaken 66 = .ok (.aload_n 0, 1) := by decide +kernel
theorem dX6_isTaken_67 : decode cX6_isTaken 67 = .ok (.getfield 18, 3) := by decide +kernel
theorem dX6_isTaken_70 : decode cX6_isTaken 70 = .ok (.iconst 2, 1) := by decide +kernel
theorem dX6_isTaken_71 : decode cX6_isTaken 71 = .ok (.iaload, 1) := by decide +kernel
theorem dX6_isTaken_72 : decode cX6_isTaken 72 = .ok (.aload_n 0, 1) := by decide +kernel
theorem dX6_isTaken_73 : decode cX6_isTaken 73 = .ok (.getfield 18, 3) := by decide +kernel
theorem dX6_isTaken_76 : decode cX6_isTaken 76 = .ok (.iconst 3, 1) := by decide +kernel
theorem dX6_isTaken_77 : decode cX6_isTaken 77 = .ok (.iaload, 1) := by decide +kernel
theorem dX6_isTaken_78 : decode cX6_isTaken 78 = .ok (.invokevirtual 55, 3) := by decide +kernel
theorem dX6_isTaken_81 : decode cX6_isTaken 81 = .ok (.ireturn, 1) := by decide +kernel
theorem dX6_isTaken_82 : decode cX6_isTaken 82 = .ok (.aload_n 0, 1) := by decide +kernel
theorem dX6_isTaken_83 : decode cX6_isTaken 83 = .ok (.aload_n 0, 1) := by decide +kernel
theorem dX6_isTaken_84 : decode cX6_isTaken 84 = .ok (.getfield 18, 3) := by decide +kernel
theorem dX6_isTaken_87 : decode cX6_isTaken 87 = .ok (.iconst 0, 1) := by decide +kernel
theorem dX6_isTaken_88 : decode cX6_isTaken 88 = .ok (.iaload, 1) := by decide +kernel
theorem dX6_isTaken_89 : decode cX6_isTaken 89 = .ok (.aload_n 0, 1) := by decide +kernel
theorem dX6_isTaken_90 : decode cX6_isTaken 90 = .ok (.getfield 18, 3) := by decide +kernel
theorem dX6_isTaken_93 : decode cX6_isTaken 93 = .ok (.iconst 1, 1) := by decide +kernel
theorem dX6_isTaken_94 : decode cX6_isTaken 94 = .ok (.iaload, 1) := by decide +kernel
theorem dX6_isTaken_95 : decode cX6_isTaken 95 = .ok (.aload_n 0, 1) := by decide +kernel
theorem dX6_isTaken_96 : decode cX6_isTaken 96 = .ok (.getfield 18, 3) := by decide +kernel
theorem dX6_isTaken_99 : decode cX6_isTaken 99 = .ok (.iconst 2, 1) := by decide +kernel
theorem dX6_isTaken_100 : decode cX6_isTaken 100 = .ok (.iaload, 1) := by decide +kernel
theorem dX6_isTaken_101 : decode cX6_isTaken 101 = .ok (.invokevirtual 59, 3) := by decide +kernel
theorem dX6_isTaken_104 : decode cX6_isTaken 104 = .ok (.ireturn, 1) := by decide +kernel
theorem dX6_isTaken_105 : decode cX6_isTaken 105 = .ok (.iconst 0, 1) := by decide +kernel
theorem dX6_isTaken_106 : decode cX6_isTaken 106 = .ok (.ireturn, 1) := by decide +kernel
theorem dX6_takeRows_0 : decode cX6_takeRows 0 = .ok (.aload_n 0, 1) := by decide +kernel
theorem dX6_takeRows_1 : decode cX6_takeRows 1 = .ok (.getfield 12, 3) := by decide +kernel
theorem dX6_takeRows_4 : decode cX6_takeRows 4 = .ok (.getfield 63, 3) := by decide +kernel
theorem dX6_takeRows_7 : decode cX6_takeRows 7 = .ok (.invokevirtual 67, 3) := by decide +kernel
theorem dX6_takeRows_10 : decode cX6_takeRows 10 = .ok (.ifCond .gt 16, 3) := by decide +kernel
theorem dX6_takeRows_13 : decode cX6_takeRows 13 = .ok (.aload_n 0, 1) := by decide +kernel
theorem dX6_takeRows_14 : decode cX6_takeRows 14 = .ok (.getfield 12, 3) := by decide +kernel
theorem dX6_takeRows_17 : decode cX6_takeRows 17 = .ok (.getfield 72, 3) := by decide +kernel
theorem dX6_takeRows_20 : decode cX6_takeRows 20 = .ok (.invokevirtual 76, 3) := by decide +kernel
theorem dX6_takeRows_23 : decode cX6_takeRows 23 = .ok (.ifCond .le 5, 3) := by decide +kernel
theorem dX6_takeRows_26 : decode cX6_takeRows 26 = .ok (.iconst 0, 1) := by decide +kernel
theorem dX6_takeRows_27 : decode cX6_takeRows 27 = .ok (.ireturn, 1) := by decide +kernel
theorem dX6_takeRows_28 : decode cX6_takeRows 28 = .ok (.aload_n 0, 1) := by decide +kernel
theorem dX6_takeRows_29 : decode cX6_takeRows 29 = .ok (.getfield 12, 3) := by decide +kernel
theorem dX6_takeRows_32 : decode cX6_takeRows 32 = .ok (.getfield 79, 3) := by decide +kernel
theorem dX6_takeRows_35 : decode cX6_takeRows 35 = .ok (.iload_n 1, 1) := by decide +kernel
theorem dX6_takeRows_36 : decode cX6_takeRows 36 = .ok (.iload_n 2, 1) := by decide +kernel
theorem dX6_takeRows_37 : decode cX6_takeRows 37 = .ok (.invokevirtual 83, 3) := by decide +kernel
theorem dX6_takeRows_40 : decode cX6_takeRows 40 = .ok (.ireturn, 1) := by decide +kernel
theorem dX6_takeThing_0 : decode cX6_takeThing 0 = .ok (.aload_n 0, 1) := by decide +kernel
theorem dX6_takeThing_1 : decode cX6_takeThing 1 = .ok (.getfield 12, 3) := by decide +kernel
theorem dX6_takeThing_4 : decode cX6_takeThing 4 = .ok (.getfield 79, 3) := by decide +kernel
theorem dX6_takeThing_7 : decode cX6_takeThing 7 = .ok (.iload_n 1, 1) := by decide +kernel
theorem dX6_takeThing_8 : decode cX6_takeThing 8 = .ok (.invokevirtual 88, 3) := by decide +kernel
theorem dX6_takeThing_11 : decode cX6_takeThing 11 = .ok (.ifCond .eq 14, 3) := by decide +kernel
theorem dX6_takeThing_14 : decode cX6_takeThing 14 = .ok (.iload_n 2, 1) := by decide +kernel
theorem dX6_takeThing_15 : decode cX6_takeThing 15 = .ok (.iload_n 3, 1) := by decide +kernel
theorem dX6_takeThing_16 : decode cX6_takeThing 16 = .ok (.if_icmp .ge 9, 3) := by decide +kernel
theorem dX6_takeThing_19 : decode cX6_takeThing 19 = .ok (.iload 4, 2) := by decide +kernel
theorem dX6_takeThing_21 : decode cX6_takeThing 21 = .ok (.iconst 3, 1) := by decide +kernel
theorem dX6_takeThing_22 : decode cX6_takeThing 22 = .ok (.if_icmp .le 5, 3) := by decide +kernel
theorem dX6_takeThing_25 : decode cX6_takeThing 25 = .ok (.iconst 0, 1) := by decide +kernel
theorem dX6_takeThing_26 : decode cX6_takeThing 26 = .ok (.ireturn, 1) := by decide +kernel
theorem dX6_takeThing_27 : decode cX6_takeThing 27 = .ok (.aload_n 0, 1) := by decide +kernel
theorem dX6_takeThing_28 : decode cX6_takeThing 28 = .ok (.getfield 12, 3) := by decide +kernel
theorem dX6_takeThing_31 : decode cX6_takeThing 31 = .ok (.getfield 63, 3) := by decide +kernel
theorem dX6_takeThing_34 : decode cX6_takeThing 34 = .ok (.invokevirtual 91, 3) := by decide +kernel
theorem dX6_takeThing_37 : decode cX6_takeThing 37 = .ok (.ifCond .ne 19, 3) := by decide +kernel
theorem dX6_takeThing_40 : decode cX6_takeThing 40 = .ok (.aload_n 0, 1) := by decide +kernel
theorem dX6_takeThing_41 : decode cX6_takeThing 41 = .ok (.getfield 12, 3) := by decide +kernel
theorem dX6_takeThing_44 : decode cX6_takeThing 44 = .ok (.getfield 63, 3) := by decide +kernel
theorem dX6_takeThing_47 : decode cX6_takeThing 47 = .ok (.iload_n 1, 1) := by decide +kernel
theorem dX6_takeThing_48 : decode cX6_takeThing 48 = .ok (.invokevirtual 95, 3) := by decide +kernel
theorem dX6_takeThing_51 : decode cX6_takeThing 51 = .ok (.bipush (-4), 2) := by decide +kernel
theorem dX6_takeThing_53 : decode cX6_takeThing 53 = .ok (.if_icmp .eq 5, 3) := by decide +kernel
theorem dX6_takeThing_56 : decode cX6_takeThing 56 = .ok (.iconst 0, 1) := by decide +kernel
theorem dX6_takeThing_57 : decode cX6_takeThing 57 = .ok (.ireturn, 1) := by decide +kernel
theorem dX6_takeThing_58 : decode cX6_takeThing 58 = .ok (.aload_n 0, 1) := by decide +kernel
theorem dX6_takeThing_59 : decode cX6_takeThing 59 = .ok (.getfield 12, 3) := by decide +kernel
theorem dX6_takeThing_62 : decode cX6_takeThing 62 = .ok (.getfield 63, 3) := by decide +kernel
theorem dX6_takeThing_65 : decode cX6_takeThing 65 = .ok (.iload_n 1, 1) := by decide +kernel
theorem dX6_takeThing_66 : decode cX6_takeThing 66 = .ok (.iload_n 2, 1) := by decide +kernel
theorem dX6_takeThing_67 : decode cX6_takeThing 67 = .ok (.iload_n 3, 1) := by decide +kernel
theorem dX6_takeThing_68 : decode cX6_takeThing 68 = .ok (.bipush 99, 2) := by decide +kernel
theorem dX6_takeThing_70 : decode cX6_takeThing 70 = .ok (.if_icmp .ne 9, 3) := by decide +kernel
theorem dX6_takeThing_73 : decode cX6_takeThing 73 = .ok (.sipush 1000, 3) := by decide +kernel
theorem dX6_takeThing_76 : decode cX6_takeThing 76 = .ok (.goto 4, 3) := by decide +kernel
theorem dX6_takeThing_79 : decode cX6_takeThing 79 = .ok (.iload_n 3, 1) := by decide +kernel
theorem dX6_takeThing_80 : decode cX6_takeThing 80 = .ok (.iload 4, 2) := by decide +kernel
theorem dX6_takeThing_82 : decode cX6_takeThing 82 = .ok (.invokevirtual 99, 3) := by decide +kernel
theorem dX6_takeThing_85 : decode cX6_takeThing 85 = .ok (.pop, 1) := by decide +kernel
theorem dX6_takeThing_86 : decode cX6_takeThing 86 = .ok (.iconst 1, 1) := by decide +kernel
theorem dX6_takeThing_87 : decode cX6_takeThing 87 = .ok (.ireturn, 1) := by decide +kernel
theorem dX6_takeMap_0 : decode cX6_takeMap 0 = .ok (.iload_n 2, 1) := by decide +kernel
theorem dX6_takeMap_1 : decode cX6_takeMap 1 = .ok (.iconst 5, 1) := by decide +kernel
theorem dX6_takeMap_2 : decode cX6_takeMap 2 = .ok (.if_icmp .ge 28, 3) := by decide +kernel
theorem dX6_takeMap_5 : decode cX6_takeMap 5 = .ok (.iload_n 3, 1) := by decide +kernel
theorem dX6_takeMap_6 : decode cX6_takeMap 6 = .ok (.iconst 5, 1) := by decide +kernel
theorem dX6_takeMap_7 : decode cX6_takeMap 7 = .ok (.if_icmp .ge 23, 3) := by decide +kernel
theorem dX6_takeMap_10 : decode cX6_takeMap 10 = .ok (.aload_n 0, 1) := by decide +kernel
theorem dX6_takeMap_11 : decode cX6_takeMap 11 = .ok (.getfield 12, 3) := by decide +kernel
theorem dX6_takeMap_14 : decode cX6_takeMap 14 = .ok (.getfield 72, 3) := by decide +kernel
theorem dX6_takeMap_17 : decode cX6_takeMap 17 = .ok (.iload_n 1, 1) := by decide +kernel
theorem dX6_takeMap_18 : decode cX6_takeMap 18 = .ok (.iload_n 2, 1) := by decide +kernel
theorem dX6_takeMap_19 : decode cX6_takeMap 19 = .ok (.iload_n 3, 1) := by decide +kernel
theorem dX6_takeMap_20 : decode cX6_takeMap 20 = .ok (.invokevirtual 103, 3) := by decide +kernel
theorem dX6_takeMap_23 : decode cX6_takeMap 23 = .ok (.ifCond .eq 7, 3) := by decide +kernel
theorem dX6_takeMap_26 : decode cX6_takeMap 26 = .ok (.iconst 1, 1) := by decide +kernel
theorem dX6_takeMap_27 : decode cX6_takeMap 27 = .ok (.goto 4, 3) := by decide +kernel
theorem dX6_takeMap_30 : decode cX6_takeMap 30 = .ok (.iconst 0, 1) := by decide +kernel
theorem dX6_takeMap_31 : decode cX6_takeMap 31 = .ok (.ireturn, 1) := by decide +kernel
theorem dX7_init_0 : decode cX7_init 0 = .ok (.aload_n 0, 1) := by decide +kernel
theorem dX7_init_1 : decode cX7_init 1 = .ok (.invokespecial 1, 3) := by decide +kernel
theorem dX7_init_4 : decode cX7_init 4 = .ok (.aload_n 0, 1) := by decide +kernel
theorem dX7_init_5 : decode cX7_init 5 = .ok (.iload_n 1, 1) := by decide +kernel
theorem dX7_init_6 : decode cX7_init 6 = .ok (.iconst 1, 1) := by decide +kernel
theorem dX7_init_7 : decode cX7_init 7 = .ok (.invokestatic 7, 3) := by decide +kernel
theorem dX7_init_10 : decode cX7_init 10 = .ok (.anewarray 13, 3) := by decide +kernel
theorem dX7_init_13 : decode cX7_init 13 = .ok (.putfield 15, 3) := by decide +kernel
theorem dX7_init_16 : decode cX7_init 16 = .ok (.iconst 0, 1) := by decide +kernel
theorem dX7_init_17 : decode cX7_init 17 = .ok (.istore_n 2, 1) := by decide +kernel
theorem dX7_init_18 : decode cX7_init 18 = .ok (.iload_n 2, 1) := by decide +kernel
theorem dX7_init_19 : decode cX7_init 19 = .ok (.aload_n 0, 1) := by decide +kernel
theorem dX7_init_20 : decode cX7_init 20 = .ok (.getfield 15, 3) := by decide +kernel
theorem dX7_init_23 : decode cX7_init 23 = .ok (.arraylength, 1) := by decide +kernel
theorem dX7_init_24 : decode cX7_init 24 = .ok (.if_icmp .ge 22, 3) := by decide +kernel
theorem dX7_init_27 : decode cX7_init 27 = .ok (.aload_n 0, 1) := by decide +kernel
theorem dX7_init_28 : decode cX7_init 28 = .ok (.getfield 15, 3) := by decide +kernel
theorem dX7_init_31 : decode cX7_init 31 = .ok (.iload_n 2, 1) := by decide +kernel
theorem dX7_init_32 : decode cX7_init 32 = .ok (.new 13, 3) := by decide +kernel
theorem dX7_init_35 : decode cX7_init 35 = .ok (.dup, 1) := by decide +kernel
theorem dX7_init_36 : decode cX7_init 36 = .ok (.invokespecial 21, 3) := by decide +kernel
theorem dX7_init_39 : decode cX7_init 39 = .ok (.aastore, 1) := by decide +kernel
theorem dX7_init_40 : decode cX7_init 40 = .ok (.iinc 2 1, 3) := by decide +kernel
theorem dX7_init_43 : decode cX7_init 43 = .ok (.goto (-25), 3) := by decide +kernel
theorem dX7_init_46 : decode cX7_init 46 = .ok (.return_, 1) := by decide +kernel
theorem dX7_size_0 : decode cX7_size 0 = .ok (.aload_n 0, 1) := by decide +kernel
theorem dX7_size_1 : decode cX7_size 1 = .ok (.getfield 22, 3) := by decide +kernel
theorem dX7_size_4 : decode cX7_size 4 = .ok (.ireturn, 1) := by decide +kernel
theorem dX7_isFull_0 : decode cX7_isFull 0 = .ok (.aload_n 0, 1) := by decide +kernel
theorem dX7_isFull_1 : decode cX7_isFull 1 = .ok (.getfield 22, 3) := by decide +kernel
theorem dX7_isFull_4 : decode cX7_isFull 4 = .ok (.aload_n 0, 1) := by decide +kernel
theorem dX7_isFull_5 : decode cX7_isFull 5 = .ok (.getfield 15, 3) := by decide +kernel
theorem dX7_isFull_8 : decode cX7_isFull 8 = .ok (.arraylength, 1) := by decide +kernel
theorem dX7_isFull_9 : decode cX7_isFull 9 = .ok (.if_icmp .lt 7, 3) := by decide +kernel
theorem dX7_isFull_12 : decode cX7_isFull 12 = .ok (.iconst 1, 1) := by decide +kernel
theorem dX7_isFull_13 : decode cX7_isFull 13 = .ok (.goto 4, 3) := by decide +kernel
theorem dX7_isFull_16 : decode cX7_isFull 16 = .ok (.iconst 0, 1) := by decide +kernel
theorem dX7_isFull_17 : decode cX7_isFull 17 = .ok (.ireturn, 1) := by decide +kernel
theorem dX7_clear_0 : decode cX7_clear 0 = .ok (.aload_n 0, 1) := by decide +kernel
theorem dX7_clear_1 : decode cX7_clear 1 = .ok (.iconst 0, 1) := by decide +kernel
theorem dX7_clear_2 : decode cX7_clear 2 = .ok (.putfield 22, 3) := by decide +kernel
theorem dX7_clear_5 : decode cX7_clear 5 = .ok (.return_, 1) := by decide +kernel
theorem dX7_putOn_0 : decode cX7_putOn 0 = .ok (.aload_n 0, 1) := by decide +kernel
theorem dX7_putOn_1 : decode cX7_putOn 1 = .ok (.invokevirtual 26, 3) := by decide +kernel
theorem dX7_putOn_4 : decode cX7_putOn 4 = .ok (.ifCond .eq 7, 3) := by decide +kernel
theorem dX7_putOn_7 : decode cX7_putOn 7 = .ok (.aload_n 0, 1) := by decide +kernel
theorem dX7_putOn_8 : decode cX7_putOn 8 = .ok (.invokevirtual 30, 3) := by decide +kernel
theorem dX7_putOn_11 : decode cX7_putOn 11 = .ok (.aload_n 0, 1) := by decide +kernel
theorem dX7_putOn_12 : decode cX7_putOn 12 = .ok (.getfield 15, 3) := by decide +kernel
theorem dX7_putOn_15 : decode cX7_putOn 15 = .ok (.aload_n 0, 1) := by decide +kernel
theorem dX7_putOn_16 : decode cX7_putOn 16 = .ok (.getfield 22, 3) := by decide +kernel
theorem dX7_putOn_19 : decode cX7_putOn 19 = .ok (.aaload, 1) := by decide +kernel
theorem dX7_putOn_20 : decode cX7_putOn 20 = .ok (.aload_n 1, 1) := by decide +kernel
theorem dX7_putOn_21 : decode cX7_putOn 21 = .ok (.invokevirtual 33, 3) := by decide +kernel
theorem dX7_putOn_24 : decode cX7_putOn 24 = .ok (.aload_n 0, 1) := by decide +kernel
theorem dX7_putOn_25 : decode cX7_putOn 25 = .ok (.dup, 1) := by decide +kernel
theorem dX7_putOn_26 : decode cX7_putOn 26 = .ok (.getfield 22, 3) := by decide +kernel
theorem dX7_putOn_29 : decode cX7_putOn 29 = .ok (.iconst 1, 1) := by decide +kernel
theorem dX7_putOn_30 : decode cX7_putOn 30 = .ok (.iadd, 1) := by decide +kernel
theorem dX7_putOn_31 : decode cX7_putOn 31 = .ok (.putfield 22, 3) := by decide +kernel
theorem dX7_putOn_34 : decode cX7_putOn 34 = .ok (.return_, 1) := by decide +kernel
theorem dX7_dropLowest_0 : decode cX7_dropLowest 0 = .ok (.aload_n 0, 1) := by decide +kernel
theorem dX7_dropLowest_1 : decode cX7_dropLowest 1 = .ok (.getfield 15, 3) := by decide +kernel
theorem dX7_dropLowest_4 : decode cX7_dropLowest 4 = .ok (.iconst 0, 1) := by decide +kernel
theorem dX7_dropLowest_5 : decode cX7_dropLowest 5 = .ok (.aaload, 1) := by decide +kernel
theorem dX7_dropLowest_6 : decode cX7_dropLowest 6 = .ok (.astore_n 1, 1) := by decide +kernel
theorem dX7_dropLowest_7 : decode cX7_dropLowest 7 = .ok (.iconst 1, 1) := by decide +kernel
theorem dX7_dropLowest_8 : decode cX7_dropLowest 8 = .ok (.istore_n 2, 1) := by decide +kernel
theorem dX7_dropLowest_9 : decode cX7_dropLowest 9 = .ok (.iload_n 2, 1) := by decide +kernel
theorem dX7_dropLowest_10 : decode cX7_dropLowest 10 = .ok (.aload_n 0, 1) := by decide +kernel
theorem dX7_dropLowest_11 : decode cX7_dropLowest 11 = .ok (.getfield 15, 3) := by decide +kernel
theorem dX7_dropLowest_14 : decode cX7_dropLowest 14 = .ok (.arraylength, 1) := by decide +kernel
theorem dX7_dropLowest_15 : decode cX7_dropLowest 15 = .ok (.if_icmp .ge 23, 3) := by decide +kernel
theorem dX7_dropLowest_18 : decode cX7_dropLowest 18 = .ok (.aload_n 0, 1) := by decide +kernel
theorem dX7_dropLowest_19 : decode cX7_dropLowest 19 = .ok (.getfield 15, 3) := by decide +kernel
theorem dX7_dropLowest_22 : decode cX7_dropLowest 22 = .ok (.iload_n 2, 1) := by decide +kernel
theorem dX7_dropLowest_23 : decode cX7_dropLowest 23 = .ok (.iconst 1, 1) := by decide +kernel
theorem dX7_dropLowest_24 : decode cX7_dropLowest 24 = .ok (.isub, 1) := by decide +kernel
theorem dX7_dropLowest_25 : decode cX7_dropLowest 25 = .ok (.aload_n 0, 1) := by decide +kernel
theorem dX7_dropLowest_26 : decode cX7_dropLowest 26 = .ok (.getfield 15, 3) := by decide +kernel
theorem dX7_dropLowest_29 : decode cX7_dropLowest 29 = .ok (.iload_n 2, 1) := by decide +kernel
theorem dX7_dropLowest_30 : decode cX7_dropLowest 30 = .ok (.aaload, 1) := by decide +kernel
theorem dX7_dropLowest_31 : decode cX7_dropLowest 31 = .ok (.aastore, 1) := by decide +kernel
theorem dX7_dropLowest_32 : decode cX7_dropLowest 32 = .ok (.iinc 2 1, 3) := by decide +kernel
theorem dX7_dropLowest_35 : decode cX7_dropLowest 35 = .ok (.goto (-26), 3) := by decide +kernel
theorem dX7_dropLowest_38 : decode cX7_dropLowest 38 = .ok (.aload_n 0, 1) := by decide +kernel
theorem dX7_dropLowest_39 : decode cX7_dropLowest 39 = .ok (.getfield 15, 3) := by decide +kernel
theorem dX7_dropLowest_42 : decode cX7_dropLowest 42 = .ok (.aload_n 0, 1) := by decide +kernel
theorem dX7_dropLowest_43 : decode cX7_dropLowest 43 = .ok (.getfield 15, 3) := by decide +kernel
theorem dX7_dropLowest_46 : decode cX7_dropLowest 46 = .ok (.arraylength, 1) := by decide +kernel
theorem dX7_dropLowest_47 : decode cX7_dropLowest 47 = .ok (.iconst 1, 1) := by decide +kernel
theorem dX7_dropLowest_48 : decode cX7_dropLowest 48 = .ok (.isub, 1) := by decide +kernel
theorem dX7_dropLowest_49 : decode cX7_dropLowest 49 = .ok (.aload_n 1, 1) := by decide +kernel
theorem dX7_dropLowest_50 : decode cX7_dropLowest 50 = .ok (.aastore, 1) := by decide +kernel
theorem dX7_dropLowest_51 : decode cX7_dropLowest 51 = .ok (.aload_n 0, 1) := by decide +kernel
theorem dX7_dropLowest_52 : decode cX7_dropLowest 52 = .ok (.dup, 1) := by decide +kernel
theorem dX7_dropLowest_53 : decode cX7_dropLowest 53 = .ok (.getfield 22, 3) := by decide +kernel
theorem dX7_dropLowest_56 : decode cX7_dropLowest 56 = .ok (.iconst 1, 1) := by decide +kernel
theorem dX7_dropLowest_57 : decode cX7_dropLowest 57 = .ok (.isub, 1) := by decide +kernel
theorem dX7_dropLowest_58 : decode cX7_dropLowest 58 = .ok (.putfield 22, 3) := by decide +kernel
theorem dX7_dropLowest_61 : decode cX7_dropLowest 61 = .ok (.return_, 1) := by decide +kernel
theorem dX7_takeOff_0 : decode cX7_takeOff 0 = .ok (.aload_n 0, 1) := by decide +kernel
theorem dX7_takeOff_1 : decode cX7_takeOff 1 = .ok (.getfield 22, 3) := by decide +kernel
theorem dX7_takeOff_4 : decode cX7_takeOff 4 = .ok (.ifCond .gt 5, 3) := by decide +kernel
theorem dX7_takeOff_7 : decode cX7_takeOff 7 = .ok (.iconst 0, 1) := by decide +kernel
theorem dX7_takeOff_8 : decode cX7_takeOff 8 = .ok (.ireturn, 1) := by decide +kernel
theorem dX7_takeOff_9 : decode cX7_takeOff 9 = .ok (.aload_n 0, 1) := by decide +kernel
theorem dX7_takeOff_10 : decode cX7_takeOff 10 = .ok (.dup, 1) := by decide +kernel
theorem dX7_takeOff_11 : decode cX7_takeOff 11 = .ok (.getfield 22, 3) := by decide +kernel
theorem dX7_takeOff_14 : decode cX7_takeOff 14 = .ok (.iconst 1, 1) := by decide +kernel
theorem dX7_takeOff_15 : decode cX7_takeOff 15 = .ok (.isub, 1) := by decide +kernel
theorem dX7_takeOff_16 : decode cX7_takeOff 16 = .ok (.putfield 22, 3) := by decide +kernel
theorem dX7_takeOff_19 : decode cX7_takeOff 19 = .ok (.aload_n 1, 1) := by decide +kernel
theorem dX7_takeOff_20 : decode cX7_takeOff 20 = .ok (.aload_n 0, 1) := by decide +kernel
theorem dX7_takeOff_21 : decode cX7_takeOff 21 = .ok (.getfield 15, 3) := by decide +kernel
theorem dX7_takeOff_24 : decode cX7_takeOff 24 = .ok (.aload_n 0, 1) := by decide +kernel
theorem dX7_takeOff_25 : decode cX7_takeOff 25 = .ok (.getfield 22, 3) := by decide +kernel
theorem dX7_takeOff_28 : decode cX7_takeOff 28 = .ok (.aaload, 1) := by decide +kernel
theorem dX7_takeOff_29 : decode cX7_takeOff 29 = .ok (.invokevirtual 33, 3) := by decide +kernel
theorem dX7_takeOff_32 : decode cX7_takeOff 32 = .ok (.iconst 1, 1) := by decide +kernel
theorem dX7_takeOff_33 : decode cX7_takeOff 33 = .ok (.ireturn, 1) := by decide +kernel
theorem dX8_init_0 : decode cX8_init 0 = .ok (.aload_n 0, 1) := by decide +kernel
theorem dX8_init_1 : decode cX8_init 1 = .ok (.invokespecial 3, 3) := by decide +kernel
theorem dX8_init_4 : decode cX8_init 4 = .ok (.aload_n 0, 1) := by decide +kernel
theorem dX8_init_5 : decode cX8_init 5 = .ok (.bipush 8, 2) := by decide +kernel
theorem dX8_init_7 : decode cX8_init 7 = .ok (.newarray .int, 2) := by decide +kernel
theorem dX8_init_9 : decode cX8_init 9 = .ok (.putfield 9, 3) := by decide +kernel
theorem dX8_init_12 : decode cX8_init 12 = .ok (.aload_n 0, 1) := by decide +kernel
theorem dX8_init_13 : decode cX8_init 13 = .ok (.sipush 2048, 3) := by decide +kernel
theorem dX8_init_16 : decode cX8_init 16 = .ok (.newarray .int, 2) := by decide +kernel
theorem dX8_init_18 : decode cX8_init 18 = .ok (.putfield 15, 3) := by decide +kernel
theorem dX8_init_21 : decode cX8_init 21 = .ok (.return_, 1) := by decide +kernel
theorem dX8_size_0 : decode cX8_size 0 = .ok (.aload_n 0, 1) := by decide +kernel
theorem dX8_size_1 : decode cX8_size 1 = .ok (.getfield 18, 3) := by decide +kernel
theorem dX8_size_4 : decode cX8_size 4 = .ok (.ireturn, 1) := by decide +kernel
theorem dX8_startAt_0 : decode cX8_startAt 0 = .ok (.aload_n 0, 1) := by decide +kernel
theorem dX8_startAt_1 : decode cX8_startAt 1 = .ok (.iload_n 1, 1) := by decide +kernel
theorem dX8_startAt_2 : decode cX8_startAt 2 = .ok (.putfield 22, 3) := by decide +kernel
theorem dX8_startAt_5 : decode cX8_startAt 5 = .ok (.aload_n 0, 1) := by decide +kernel
theorem dX8_startAt_6 : decode cX8_startAt 6 = .ok (.iconst 0, 1) := by decide +kernel
theorem dX8_startAt_7 : decode cX8_startAt 7 = .ok (.putfield 18, 3) := by decide +kernel
theorem dX8_startAt_10 : decode cX8_startAt 10 = .ok (.return_, 1) := by decide +kernel
theorem dX8_addStop_0 : decode cX8_addStop 0 = .ok (.aload_n 0, 1) := by decide +kernel
theorem dX8_addStop_1 : decode cX8_addStop 1 = .ok (.getfield 18, 3) := by decide +kernel
theorem dX8_addStop_4 : decode cX8_addStop 4 = .ok (.bipush 8, 2) := by decide +kernel
theorem dX8_addStop_6 : decode cX8_addStop 6 = .ok (.if_icmp .lt 5, 3) := by decide +kernel
theorem dX8_addStop_9 : decode cX8_addStop 9 = .ok (.iconst 0, 1) := by decide +kernel
theorem dX8_addStop_10 : decode cX8_addStop 10 = .ok (.ireturn, 1) := by decide +kernel
theorem dX8_addStop_11 : decode cX8_addStop 11 = .ok (.aload_n 0, 1) := by decide +kernel
theorem dX8_addStop_12 : decode cX8_addStop 12 = .ok (.getfield 9, 3) := by decide +kernel
theorem dX8_addStop_15 : decode cX8_addStop 15 = .ok (.aload_n 0, 1) := by decide +kernel
theorem dX8_addStop_16 : decode cX8_addStop 16 = .ok (.getfield 18, 3) := by decide +kernel
theorem dX8_addStop_19 : decode cX8_addStop 19 = .ok (.iload_n 1, 1) := by decide +kernel
theorem dX8_addStop_20 : decode cX8_addStop 20 = .ok (.iastore, 1) := by decide +kernel
theorem dX8_addStop_21 : decode cX8_addStop 21 = .ok (.aload_n 0, 1) := by decide +kernel
theorem dX8_addStop_22 : decode cX8_addStop 22 = .ok (.dup, 1) := by decide +kernel
theorem dX8_addStop_23 : decode cX8_addStop 23 = .ok (.getfield 18, 3) := by decide +kernel
theorem dX8_addStop_26 : decode cX8_addStop 26 = .ok (.iconst 1, 1) := by decide +kernel
theorem dX8_addStop_27 : decode cX8_addStop 27 = .ok (.iadd, 1) := by decide +kernel
theorem dX8_addStop_28 : decode cX8_addStop 28 = .ok (.putfield 18, 3) := by decide +kernel
theorem dX8_addStop_31 : decode cX8_addStop 31 = .ok (.iconst 1, 1) := by decide +kernel
theorem dX8_addStop_32 : decode cX8_addStop 32 = .ok (.ireturn, 1) := by decide +kernel
theorem dX8_shortest_0 : decode cX8_shortest 0 = .ok (.iconst 1, 1) := by decide +kernel
theorem dX8_shortest_1 : decode cX8_shortest 1 = .ok (.aload_n 0, 1) := by decide +kernel
theorem dX8_shortest_2 : decode cX8_shortest 2 = .ok (.getfield 18, 3) := by decide +kernel
theorem dX8_shortest_5 : decode cX8_shortest 5 = .ok (.ishl, 1) := by decide +kernel
theorem dX8_shortest_6 : decode cX8_shortest 6 = .ok (.iconst 1, 1) := by decide +kernel
theorem dX8_shortest_7 : decode cX8_shortest 7 = .ok (.isub, 1) := by decide +kernel
theorem dX8_shortest_8 : decode cX8_shortest 8 = .ok (.istore_n 2, 1) := by decide +kernel
theorem dX8_shortest_9 : decode cX8_shortest 9 = .ok (.iconst 1, 1) := by decide +kernel
theorem dX8_shortest_10 : decode cX8_shortest 10 = .ok (.istore_n 3, 1) := by decide +kernel
theorem dX8_shortest_11 : decode cX8_shortest 11 = .ok (.iload_n 3, 1) := by decide +kernel
theorem dX8_shortest_12 : decode cX8_shortest 12 = .ok (.iload_n 2, 1) := by decide +kernel
theorem dX8_shortest_13 : decode cX8_shortest 13 = .ok (.if_icmp .gt 57, 3) := by decide +kernel
theorem dX8_shortest_16 : decode cX8_shortest 16 = .ok (.iconst 0, 1) := by decide +kernel
theorem dX8_shortest_17 : decode cX8_shortest 17 = .ok (.istore 4, 2) := by decide +kernel
theorem dX8_shortest_19 : decode cX8_shortest 19 = .ok (.iload 4, 2) := by decide +kernel
theorem dX8_shortest_21 : decode cX8_shortest 21 = .ok (.aload_n 0, 1) := by decide +kernel
theorem dX8_shortest_22 : decode cX8_shortest 22 = .ok (.getfield 18, 3) := by decide +kernel
theorem dX8_shortest_25 : decode cX8_shortest 25 = .ok (.if_icmp .ge 39, 3) := by decide +kernel
theorem dX8_shortest_28 : decode cX8_shortest 28 = .ok (.iload_n 3, 1) := by decide +kernel
theorem dX8_shortest_29 : decode cX8_shortest 29 = .ok (.iload 4, 2) := by decide +kernel
theorem dX8_shortest_31 : decode cX8_shortest 31 = .ok (.ishr, 1) := by decide +kernel
theorem dX8_shortest_32 : decode cX8_shortest 32 = .ok (.iconst 1, 1) := by decide +kernel
theorem dX8_shortest_33 : decode cX8_shortest 33 = .ok (.iand, 1) := by decide +kernel
theorem dX8_shortest_34 : decode cX8_shortest 34 = .ok (.iconst 1, 1) := by decide +kernel
theorem dX8_shortest_35 : decode cX8_shortest 35 = .ok (.if_icmp .ne 23, 3) := by decide +kernel
theorem dX8_shortest_38 : decode cX8_shortest 38 = .ok (.aload_n 0, 1) := by decide +kernel
theorem dX8_shortest_39 : decode cX8_shortest 39 = .ok (.getfield 15, 3) := by decide +kernel
theorem dX8_shortest_42 : decode cX8_shortest 42 = .ok (.iload_n 3, 1) := by decide +kernel
theorem dX8_shortest_43 : decode cX8_shortest 43 = .ok (.bipush 8, 2) := by decide +kernel
theorem dX8_shortest_45 : decode cX8_shortest 45 = .ok (.imul, 1) := by decide +kernel
theorem dX8_shortest_46 : decode cX8_shortest 46 = .ok (.iload 4, 2) := by decide +kernel
theorem dX8_shortest_48 : decode cX8_shortest 48 = .ok (.iadd, 1) := by decide +kernel
theorem dX8_shortest_49 : decode cX8_shortest 49 = .ok (.aload_n 0, 1) := by decide +kernel
theorem dX8_shortest_50 : decode cX8_shortest 50 = .ok (.aload_n 1, 1) := by decide +kernel
theorem dX8_shortest_51 : decode cX8_shortest 51 = .ok (.iload_n 3, 1) := by decide +kernel
theorem dX8_shortest_52 : decode cX8_shortest 52 = .ok (.iload 4, 2) := by decide +kernel
theorem dX8_shortest_54 : decode cX8_shortest 54 = .ok (.invokevirtual 25, 3) := by decide +kernel
theorem dX8_shortest_57 : decode cX8_shortest 57 = .ok (.iastore, 1) := by decide +kernel
theorem dX8_shortest_58 : decode cX8_shortest 58 = .ok (.iinc 4 1, 3) := by decide +kernel
theorem dX8_shortest_61 : decode cX8_shortest 61 = .ok (.goto (-42), 3) := by decide +kernel
theorem dX8_shortest_64 : decode cX8_shortest 64 = .ok (.iinc 3 1, 3) := by decide +kernel
theorem dX8_shortest_67 : decode cX8_shortest 67 = .ok (.goto (-56), 3) := by decide +kernel
theorem dX8_shortest_70 : decode cX8_shortest 70 = .ok (.aload_n 0, 1) := by decide +kernel
theorem dX8_shortest_71 : decode cX8_shortest 71 = .ok (.aload_n 1, 1) := by decide +kernel
theorem dX8_shortest_72 : decode cX8_shortest 72 = .ok (.iload_n 2, 1) := by decide +kernel
theorem dX8_shortest_73 : decode cX8_shortest 73 = .ok (.aload_n 0, 1) := by decide +kernel
theorem dX8_shortest_74 : decode cX8_shortest 74 = .ok (.getfield 22, 3) := by decide +kernel
theorem dX8_shortest_77 : decode cX8_shortest 77 = .ok (.invokevirtual 29, 3) := by decide +kernel
theorem dX8_shortest_80 : decode cX8_shortest 80 = .ok (.ireturn, 1) := by decide +kernel
theorem dX8_shortestThrough_0 : decode cX8_shortestThrough 0 = .ok (.iload_n 2, 1) := by decide +kernel
theorem dX8_shortestThrough_1 : decode cX8_shortestThrough 1 = .ok (.iconst 1, 1) := by decide +kernel
theorem dX8_shortestThrough_2 : decode cX8_shortestThrough 2 = .ok (.iload_n 3, 1) := by decide +kernel
theorem dX8_shortestThrough_3 : decode cX8_shortestThrough 3 = .ok (.ishl, 1) := by decide +kernel
theorem dX8_shortestThrough_4 : decode cX8_shortestThrough 4 = .ok (.iconst (-1), 1) := by decide +kernel
theorem dX8_shortestThrough_5 : decode cX8_shortestThrough 5 = .ok (.ixor, 1) := by decide +kernel
theorem dX8_shortestThrough_6 : decode cX8_shortestThrough 6 = .ok (.iand, 1) := by decide +kernel
theorem dX8_shortestThrough_7 : decode cX8_shortestThrough 7 = .ok (.istore 4, 2) := by decide +kernel
theorem dX8_shortestThrough_9 : decode cX8_shortestThrough 9 = .ok (.iload 4, 2) := by decide +kernel
theorem dX8_shortestThrough_11 : decode cX8_shortestThrough 11 = .ok (.ifCond .ne 20, 3) := by decide +kernel
theorem dX8_shortestThrough_14 : decode cX8_shortestThrough 14 = .ok (.aload_n 1, 1) := by decide +kernel
theorem dX8_shortestThrough_15 : decode cX8_shortestThrough 15 = .ok (.aload_n 0, 1) := by decide +kernel
theorem dX8_shortestThrough_16 : decode cX8_shortestThrough 16 = .ok (.getfield 22, 3) := by decide +kernel
theorem dX8_shortestThrough_19 : decode cX8_shortestThrough 19 = .ok (.aload_n 0, 1) := by decide +kernel
theorem dX8_shortestThrough_20 : decode cX8_shortestThrough 20 = .ok (.getfield 9, 3) := by decide +kernel
theorem dX8_shortestThrough_23 : decode cX8_shortestThrough 23 = .ok (.iload_n 3, 1) := by decide +kernel
theorem dX8_shortestThrough_24 : decode cX8_shortestThrough 24 = .ok (.iaload, 1) := by decide +kernel
theorem dX8_shortestThrough_25 : decode cX8_shortestThrough 25 = .ok (.invokevirtual 32, 3) := by decide +kernel
theorem dX8_shortestThrough_28 : decode cX8_shortestThrough 28 = .ok (.goto 16, 3) := by decide +kernel
theorem dX8_shortestThrough_31 : decode cX8_shortestThrough 31 = .ok (.aload_n 0, 1) := by decide +kernel
theorem dX8_shortestThrough_32 : decode cX8_shortestThrough 32 = .ok (.aload_n 1, 1) := by decide +kernel
theorem dX8_shortestThrough_33 : decode cX8_shortestThrough 33 = .ok (.iload 4, 2) := by decide +kernel
theorem dX8_shortestThrough_35 : decode cX8_shortestThrough 35 = .ok (.aload_n 0, 1) := by decide +kernel
theorem dX8_shortestThrough_36 : decode cX8_shortestThrough 36 = .ok (.getfield 9, 3) := by decide +kernel
theorem dX8_shortestThrough_39 : decode cX8_shortestThrough 39 = .ok (.iload_n 3, 1) := by decide +kernel
theorem dX8_shortestThrough_40 : decode cX8_shortestThrough 40 = .ok (.iaload, 1) := by decide +kernel
theorem dX8_shortestThrough_41 : decode cX8_shortestThrough 41 = .ok (.invokevirtual 29, 3) := by decide +kernel
theorem dX8_shortestThrough_44 : decode cX8_shortestThrough 44 = .ok (.ireturn, 1) := by decide +kernel
theorem dX8_shortestOn_0 : decode cX8_shortestOn 0 = .ok (.ldc 38, 2) := by decide +kernel
theorem dX8_shortestOn_2 : decode cX8_shortestOn 2 = .ok (.istore 4, 2) := by decide +kernel
theorem dX8_shortestOn_4 : decode cX8_shortestOn 4 = .ok (.iconst 0, 1) := by decide +kernel
theorem dX8_shortestOn_5 : decode cX8_shortestOn 5 = .ok (.istore 5, 2) := by decide +kernel
theorem dX8_shortestOn_7 : decode cX8_shortestOn 7 = .ok (.iload 5, 2) := by decide +kernel
theorem dX8_shortestOn_9 : decode cX8_shortestOn 9 = .ok (.aload_n 0, 1) := by decide +kernel
theorem dX8_shortestOn_10 : decode cX8_shortestOn 10 = .ok (.getfield 18, 3) := by decide +kernel
theorem dX8_shortestOn_13 : decode cX8_shortestOn 13 = .ok (.if_icmp .ge 55, 3) := by decide +kernel
theorem dX8_shortestOn_16 : decode cX8_shortestOn 16 = .ok (.iload_n 2, 1) := by decide +kernel
theorem dX8_shortestOn_17 : decode cX8_shortestOn 17 = .ok (.iload 5, 2) := by decide +kernel
theorem dX8_shortestOn_19 : decode cX8_shortestOn 19 = .ok (.ishr, 1) := by decide +kernel
theorem dX8_shortestOn_20 : decode cX8_shortestOn 20 = .ok (.iconst 1, 1) := by decide +kernel
theorem dX8_shortestOn_21 : decode cX8_shortestOn 21 = .ok (.iand, 1) := by decide +kernel
theorem dX8_shortestOn_22 : decode cX8_shortestOn 22 = .ok (.iconst 1, 1) := by decide +kernel
theorem dX8_shortestOn_23 : decode cX8_shortestOn 23 = .ok (.if_icmp .ne 39, 3) := by decide +kernel
theorem dX8_shortestOn_26 : decode cX8_shortestOn 26 = .ok (.aload_n 0, 1) := by decide +kernel
theorem dX8_shortestOn_27 : decode cX8_shortestOn 27 = .ok (.getfield 15, 3) := by decide +kernel
theorem dX8_shortestOn_30 : decode cX8_shortestOn 30 = .ok (.iload_n 2, 1) := by decide +kernel
theorem dX8_shortestOn_31 : decode cX8_shortestOn 31 = .ok (.bipush 8, 2) := by decide +kernel
theorem dX8_shortestOn_33 : decode cX8_shortestOn 33 = .ok (.imul, 1) := by decide +kernel
theorem dX8_shortestOn_34 : decode cX8_shortestOn 34 = .ok (.iload 5, 2) := by decide +kernel
theorem dX8_shortestOn_36 : decode cX8_shortestOn 36 = .ok (.iadd, 1) := by decide +kernel
theorem dX8_shortestOn_37 : decode cX8_shortestOn 37 = .ok (.iaload, 1) := by decide +kernel
theorem dX8_shortestOn_38 : decode cX8_shortestOn 38 = .ok (.aload_n 1, 1) := by decide +kernel
theorem dX8_shortestOn_39 : decode cX8_shortestOn 39 = .ok (.aload_n 0, 1) := by decide +kernel
theorem dX8_shortestOn_40 : decode cX8_shortestOn 40 = .ok (.getfield 9, 3) := by decide +kernel
theorem dX8_shortestOn_43 : decode cX8_shortestOn 43 = .ok (.iload 5, 2) := by decide +kernel
theorem dX8_shortestOn_45 : decode cX8_shortestOn 45 = .ok (.iaload, 1) := by decide +kernel
theorem dX8_shortestOn_46 : decode cX8_shortestOn 46 = .ok (.iload_n 3, 1) := by decide +kernel
theorem dX8_shortestOn_47 : decode cX8_shortestOn 47 = .ok (.invokevirtual 32, 3) := by decide +kernel
theorem dX8_shortestOn_50 : decode cX8_shortestOn 50 = .ok (.iadd, 1) := by decide +kernel
theorem dX8_shortestOn_51 : decode cX8_shortestOn 51 = .ok (.istore 6, 2) := by decide +kernel
theorem dX8_shortestOn_53 : decode cX8_shortestOn 53 = .ok (.iload 4, 2) := by decide +kernel
theorem dX8_shortestOn_55 : decode cX8_shortestOn 55 = .ok (.iload 6, 2) := by decide +kernel
theorem dX8_shortestOn_57 : decode cX8_shortestOn 57 = .ok (.invokestatic 39, 3) := by decide +kernel
theorem dX8_shortestOn_60 : decode cX8_shortestOn 60 = .ok (.istore 4, 2) := by decide +kernel
theorem dX8_shortestOn_62 : decode cX8_shortestOn 62 = .ok (.iinc 5 1, 3) := by decide +kernel
theorem dX8_shortestOn_65 : decode cX8_shortestOn 65 = .ok (.goto (-58), 3) := by decide +kernel
theorem dX8_shortestOn_68 : decode cX8_shortestOn 68 = .ok (.iload 4, 2) := by decide +kernel
theorem dX8_shortestOn_70 : decode cX8_shortestOn 70 = .ok (.ireturn, 1) := by decide +kernel
theorem dX9_init_0 : decode cX9_init 0 = .ok (.aload_n 0, 1) := by decide +kernel
theorem dX9_init_1 : decode cX9_init 1 = .ok (.invokespecial 3, 3) := by decide +kernel
theorem dX9_init_4 : decode cX9_init 4 = .ok (.aload_n 0, 1) := by decide +kernel
theorem dX9_init_5 : decode cX9_init 5 = .ok (.new 9, 3) := by decide +kernel
theorem dX9_init_8 : decode cX9_init 8 = .ok (.dup, 1) := by decide +kernel
theorem dX9_init_9 : decode cX9_init 9 = .ok (.invokespecial 11, 3) := by decide +kernel
theorem dX9_init_12 : decode cX9_init 12 = .ok (.putfield 12, 3) := by decide +kernel
theorem dX9_init_15 : decode cX9_init 15 = .ok (.aload_n 0, 1) := by decide +kernel
theorem dX9_init_16 : decode cX9_init 16 = .ok (.new 16, 3) := by decide +kernel
theorem dX9_init_19 : decode cX9_init 19 = .ok (.dup, 1) := by decide +kernel
theorem dX9_init_20 : decode cX9_init 20 = .ok (.invokespecial 18, 3) := by decide +kernel
theorem dX9_init_23 : decode cX9_init 23 = .ok (.putfield 19, 3) := by decide +kernel
theorem dX9_init_26 : decode cX9_init 26 = .ok (.aload_n 0, 1) := by decide +kernel
theorem dX9_init_27 : decode cX9_init 27 = .ok (.new 23, 3) := by decide +kernel
theorem dX9_init_30 : decode cX9_init 30 = .ok (.dup, 1) := by decide +kernel
theorem dX9_init_31 : decode cX9_init 31 = .ok (.invokespecial 25, 3) := by decide +kernel
theorem dX9_init_34 : decode cX9_init 34 = .ok (.putfield 26, 3) := by decide +kernel
theorem dX9_init_37 : decode cX9_init 37 = .ok (.aload_n 0, 1) := by decide +kernel
theorem dX9_init_38 : decode cX9_init 38 = .ok (.new 30, 3) := by decide +kernel
theorem dX9_init_41 : decode cX9_init 41 = .ok (.dup, 1) := by decide +kernel
theorem dX9_init_42 : decode cX9_init 42 = .ok (.bipush 8, 2) := by decide +kernel
theorem dX9_init_44 : decode cX9_init 44 = .ok (.invokespecial 32, 3) := by decide +kernel
theorem dX9_init_47 : decode cX9_init 47 = .ok (.putfield 35, 3) := by decide +kernel
theorem dX9_init_50 : decode cX9_init 50 = .ok (.aload_n 0, 1) := by decide +kernel
theorem dX9_init_51 : decode cX9_init 51 = .ok (.new 30, 3) := by decide +kernel
theorem dX9_init_54 : decode cX9_init 54 = .ok (.dup, 1) := by decide +kernel
theorem dX9_init_55 : decode cX9_init 55 = .ok (.iconst 2, 1) := by decide +kernel
theorem dX9_init_56 : decode cX9_init 56 = .ok (.invokespecial 32, 3) := by decide +kernel
theorem dX9_init_59 : decode cX9_init 59 = .ok (.putfield 39, 3) := by decide +kernel
theorem dX9_init_62 : decode cX9_init 62 = .ok (.aload_n 0, 1) := by decide +kernel
theorem dX9_init_63 : decode cX9_init 63 = .ok (.new 42, 3) := by decide +kernel
theorem dX9_init_66 : decode cX9_init 66 = .ok (.dup, 1) := by decide +kernel
theorem dX9_init_67 : decode cX9_init 67 = .ok (.invokespecial 44, 3) := by decide +kernel
theorem dX9_init_70 : decode cX9_init 70 = .ok (.putfield 45, 3) := by decide +kernel
theorem dX9_init_73 : decode cX9_init 73 = .ok (.aload_n 0, 1) := by decide +kernel
theorem dX9_init_74 : decode cX9_init 74 = .ok (.new 49, 3) := by decide +kernel
theorem dX9_init_77 : decode cX9_init 77 = .ok (.dup, 1) := by decide +kernel
theorem dX9_init_78 : decode cX9_init 78 = .ok (.invokespecial 51, 3) := by decide +kernel
theorem dX9_init_81 : decode cX9_init 81 = .ok (.putfield 52, 3) := by decide +kernel
theorem dX9_init_84 : decode cX9_init 84 = .ok (.aload_n 0, 1) := by decide +kernel
theorem dX9_init_85 : decode cX9_init 85 = .ok (.new 56, 3) := by decide +kernel
theorem dX9_init_88 : decode cX9_init 88 = .ok (.dup, 1) := by decide +kernel
theorem dX9_init_89 : decode cX9_init 89 = .ok (.invokespecial 58, 3) := by decide +kernel
theorem dX9_init_92 : decode cX9_init 92 = .ok (.putfield 59, 3) := by decide +kernel
theorem dX9_init_95 : decode cX9_init 95 = .ok (.iconst 0, 1) := by decide +kernel
theorem dX9_init_96 : decode cX9_init 96 = .ok (.istore_n 1, 1) := by decide +kernel
theorem dX9_init_97 : decode cX9_init 97 = .ok (.iload_n 1, 1) := by decide +kernel
theorem dX9_init_98 : decode cX9_init 98 = .ok (.ldc 63, 2) := by decide +kernel
theorem dX9_init_100 : decode cX9_init 100 = .ok (.invokevirtual 65, 3) := by decide +kernel
theorem dX9_init_103 : decode cX9_init 103 = .ok (.if_icmp .ge 23, 3) := by decide +kernel
theorem dX9_init_106 : decode cX9_init 106 = .ok (.aload_n 0, 1) := by decide +kernel
theorem dX9_init_107 : decode cX9_init 107 = .ok (.getfield 12, 3) := by decide +kernel
theorem dX9_init_110 : decode cX9_init 110 = .ok (.ldc 63, 2) := by decide +kernel
theorem dX9_init_112 : decode cX9_init 112 = .ok (.iload_n 1, 1) := by decide +kernel
theorem dX9_init_113 : decode cX9_init 113 = .ok (.invokevirtual 71, 3) := by decide +kernel
theorem dX9_init_116 : decode cX9_init 116 = .ok (.invokevirtual 75, 3) := by decide +kernel
theorem dX9_init_119 : decode cX9_init 119 = .ok (.pop, 1) := by decide +kernel
theorem dX9_init_120 : decode cX9_init 120 = .ok (.iinc 1 1, 3) := by decide +kernel
theorem dX9_init_123 : decode cX9_init 123 = .ok (.goto (-26), 3) := by decide +kernel
theorem dX9_init_126 : decode cX9_init 126 = .ok (.aload_n 0, 1) := by decide +kernel
theorem dX9_init_127 : decode cX9_init 127 = .ok (.invokevirtual 79, 3) := by decide +kernel
theorem dX9_init_130 : decode cX9_init 130 = .ok (.pop, 1) := by decide +kernel
theorem dX9_init_131 : decode cX9_init 131 = .ok (.aload_n 0, 1) := by decide +kernel
theorem dX9_init_132 : decode cX9_init 132 = .ok (.getfield 12, 3) := by decide +kernel
theorem dX9_init_135 : decode cX9_init 135 = .ok (.invokevirtual 83, 3) := by decide +kernel
theorem dX9_init_138 : decode cX9_init 138 = .ok (.return_, 1) := by decide +kernel
theorem dX9_write_0 : decode cX9_write 0 = .ok (.iload_n 1, 1) := by decide +kernel
theorem dX9_write_1 : decode cX9_write 1 = .ok (.bipush 32, 2) := by decide +kernel
theorem dX9_write_3 : decode cX9_write 3 = .ok (.if_icmp .lt 9, 3) := by decide +kernel
theorem dX9_write_6 : decode cX9_write 6 = .ok (.iload_n 1, 1) := by decide +kernel
theorem dX9_write_7 : decode cX9_write 7 = .ok (.bipush 126, 2) := by decide +kernel
theorem dX9_write_9 : decode cX9_write 9 = .ok (.if_icmp .le 5, 3) := by decide +kernel
theorem dX9_write_12 : decode cX9_write 12 = .ok (.iconst (-1), 1) := by decide +kernel
theorem dX9_write_13 : decode cX9_write 13 = .ok (.ireturn, 1) := by decide +kernel
theorem dX9_write_14 : decode cX9_write 14 = .ok (.aload_n 0, 1) := by decide +kernel
theorem dX9_write_15 : decode cX9_write 15 = .ok (.getfield 12, 3) := by decide +kernel
theorem dX9_write_18 : decode cX9_write 18 = .ok (.iload_n 1, 1) := by decide +kernel
theorem dX9_write_19 : decode cX9_write 19 = .ok (.i2c, 1) := by decide +kernel
theorem dX9_write_20 : decode cX9_write 20 = .ok (.invokevirtual 75, 3) := by decide +kernel
theorem dX9_write_23 : decode cX9_write 23 = .ok (.ifCond .eq 13, 3) := by decide +kernel
theorem dX9_write_26 : decode cX9_write 26 = .ok (.aload_n 0, 1) := by decide +kernel
theorem dX9_write_27 : decode cX9_write 27 = .ok (.getfield 12, 3) := by decide +kernel
theorem dX9_write_30 : decode cX9_write 30 = .ok (.invokevirtual 86, 3) := by decide +kernel
theorem dX9_write_33 : decode cX9_write 33 = .ok (.goto 5, 3) := by decide +kernel
theorem dX9_write_36 : decode cX9_write 36 = .ok (.bipush (-3), 2) := by decide +kernel
theorem dX9_write_38 : decode cX9_write 38 = .ok (.ireturn, 1) := by decide +kernel
theorem dX9_wipe_0 : decode cX9_wipe 0 = .ok (.aload_n 0, 1) := by decide +kernel
theorem dX9_wipe_1 : decode cX9_wipe 1 = .ok (.getfield 12, 3) := by decide +kernel
theorem dX9_wipe_4 : decode cX9_wipe 4 = .ok (.invokevirtual 86, 3) := by decide +kernel
theorem dX9_wipe_7 : decode cX9_wipe 7 = .ok (.istore_n 1, 1) := by decide +kernel
theorem dX9_wipe_8 : decode cX9_wipe 8 = .ok (.aload_n 0, 1) := by decide +kernel
theorem dX9_wipe_9 : decode cX9_wipe 9 = .ok (.getfield 12, 3) := by decide +kernel
theorem dX9_wipe_12 : decode cX9_wipe 12 = .ok (.invokevirtual 83, 3) := by decide +kernel
theorem dX9_wipe_15 : decode cX9_wipe 15 = .ok (.iload_n 1, 1) := by decide +kernel
theorem dX9_wipe_16 : decode cX9_wipe 16 = .ok (.ireturn, 1) := by decide +kernel
theorem dX9_fault_0 : decode cX9_fault 0 = .ok (.aload_n 0, 1) := by decide +kernel
theorem dX9_fault_1 : decode cX9_fault 1 = .ok (.getfield 19, 3) := by decide +kernel
theorem dX9_fault_4 : decode cX9_fault 4 = .ok (.aload_n 0, 1) := by decide +kernel
theorem dX9_fault_5 : decode cX9_fault 5 = .ok (.getfield 12, 3) := by decide +kernel
theorem dX9_fault_8 : decode cX9_fault 8 = .ok (.invokevirtual 87, 3) := by decide +kernel
theorem dX9_fault_11 : decode cX9_fault 11 = .ok (.ireturn, 1) := by decide +kernel
theorem dX9_lay_0 : decode cX9_lay 0 = .ok (.aload_n 0, 1) := by decide +kernel
theorem dX9_lay_1 : decode cX9_lay 1 = .ok (.invokevirtual 79, 3) := by decide +kernel
theorem dX9_lay_4 : decode cX9_lay 4 = .ok (.ifCond .eq 16, 3) := by decide +kernel
theorem dX9_lay_7 : decode cX9_lay 7 = .ok (.aload_n 0, 1) := by decide +kernel
theorem dX9_lay_8 : decode cX9_lay 8 = .ok (.getfield 26, 3) := by decide +kernel
theorem dX9_lay_11 : decode cX9_lay 11 = .ok (.getfield 91, 3) := by decide +kernel
theorem dX9_lay_14 : decode cX9_lay 14 = .ok (.invokevirtual 95, 3) := by decide +kernel
theorem dX9_lay_17 : decode cX9_lay 17 = .ok (.goto 5, 3) := by decide +kernel
theorem dX9_lay_20 : decode cX9_lay 20 = .ok (.bipush (-2), 2) := by decide +kernel
theorem dX9_lay_22 : decode cX9_lay 22 = .ok (.ireturn, 1) := by decide +kernel
theorem dX9_thing_0 : decode cX9_thing 0 = .ok (.aload_n 0, 1) := by decide +kernel
theorem dX9_thing_1 : decode cX9_thing 1 = .ok (.getfield 26, 3) := by decide +kernel
theorem dX9_thing_4 : decode cX9_thing 4 = .ok (.getfield 100, 3) := by decide +kernel
theorem dX9_thing_7 : decode cX9_thing 7 = .ok (.iload_n 1, 1) := by decide +kernel
theorem dX9_thing_8 : decode cX9_thing 8 = .ok (.invokevirtual 103, 3) := by decide +kernel
theorem dX9_thing_11 : decode cX9_thing 11 = .ok (.ifCond .ne 5, 3) := by decide +kernel
theorem dX9_thing_14 : decode cX9_thing 14 = .ok (.iconst (-1), 1) := by decide +kernel
theorem dX9_thing_15 : decode cX9_thing 15 = .ok (.ireturn, 1) := by decide +kernel
theorem dX9_thing_16 : decode cX9_thing 16 = .ok (.iload_n 2, 1) := by decide +kernel
theorem dX9_thing_17 : decode cX9_thing 17 = .ok (.tableswitch 137 0 5 #[39, 51, 63, 75, 87, 112], 39) := by decide +kernel
theorem dX9_thing_56 : decode cX9_thing 56 = .ok (.aload_n 0, 1) := by decide +kernel
theorem dX9_thing_57 : decode cX9_thing 57 = .ok (.getfield 26, 3) := by decide +kernel
theorem dX9_thing_60 : decode cX9_thing 60 = .ok (.getfield 100, 3) := by decide +kernel
theorem dX9_thing_63 : decode cX9_thing 63 = .ok (.iload_n 1, 1) := by decide +kernel
theorem dX9_thing_64 : decode cX9_thing 64 = .ok (.invokevirtual 107, 3) := by decide +kernel
theorem dX9_thing_67 : decode cX9_thing 67 = .ok (.ireturn, 1) := by decide +kernel
theorem dX9_thing_68 : decode cX9_thing 68 = .ok (.aload_n 0, 1) := by decide +kernel
theorem dX9_thing_69 : decode cX9_thing 69 = .ok (.getfield 26, 3) := by decide +kernel
theorem dX9_thing_72 : decode cX9_thing 72 = .ok (.getfield 100, 3) := by decide +kernel
theorem dX9_thing_75 : decode cX9_thing 75 = .ok (.iload_n 1, 1) := by decide +kernel
theorem dX9_thing_76 : decode cX9_thing 76 = .ok (.invokevirtual 111, 3) := by decide +kernel
theorem dX9_thing_79 : decode cX9_thing 79 = .ok (.ireturn, 1) := by decide +kernel
theorem dX9_thing_80 : decode cX9_thing 80 = .ok (.aload_n 0, 1) := by decide +kernel
theorem dX9_thing_81 : decode cX9_thing 81 = .ok (.getfield 26, 3) := by decide +kernel
theorem dX9_thing_84 : decode cX9_thing 84 = .ok (.getfield 100, 3) := by decide +kernel
theorem dX9_thing_87 : decode cX9_thing 87 = .ok (.iload_n 1, 1) := by decide +kernel
theorem dX9_thing_88 : decode cX9_thing 88 = .ok (.invokevirtual 114, 3) := by decide +kernel
theorem dX9_thing_91 : decode cX9_thing 91 = .ok (.ireturn, 1) := by decide +kernel
theorem dX9_thing_92 : decode cX9_thing 92 = .ok (.aload_n 0, 1) := by decide +kernel
theorem dX9_thing_93 : decode cX9_thing 93 = .ok (.getfield 26, 3) := by decide +kernel
theorem dX9_thing_96 : decode cX9_thing 96 = .ok (.getfield 100, 3) := by decide +kernel
theorem dX9_thing_99 : decode cX9_thing 99 = .ok (.iload_n 1, 1) := by decide +kernel
theorem dX9_thing_100 : decode cX9_thing 100 = .ok (.invokevirtual 117, 3) := by decide +kernel
theorem dX9_thing_103 : decode cX9_thing 103 = .ok (.ireturn, 1) := by decide +kernel
theorem dX9_thing_104 : decode cX9_thing 104 = .ok (.aload_n 0, 1) := by decide +kernel
theorem dX9_thing_105 : decode cX9_thing 105 = .ok (.getfield 26, 3) := by decide +kernel
theorem dX9_thing_108 : decode cX9_thing 108 = .ok (.getfield 100, 3) := by decide +kernel
theorem dX9_thing_111 : decode cX9_thing 111 = .ok (.iload_n 1, 1) := by decide +kernel
theorem dX9_thing_112 : decode cX9_thing 112 = .ok (.aload_n 0, 1) := by decide +kernel
theorem dX9_thing_113 : decode cX9_thing 113 = .ok (.getfield 26, 3) := by decide +kernel
theorem dX9_thing_116 : decode cX9_thing 116 = .ok (.getfield 100, 3) := by decide +kernel
theorem dX9_thing_119 : decode cX9_thing 119 = .ok (.getfield 120, 3) := by decide +kernel
theorem dX9_thing_122 : decode cX9_thing 122 = .ok (.invokevirtual 124, 3) := by decide +kernel
theorem dX9_thing_125 : decode cX9_thing 125 = .ok (.invokestatic 128, 3) := by decide +kernel
theorem dX9_thing_128 : decode cX9_thing 128 = .ok (.ireturn, 1) := by decide +kernel
theorem dX9_thing_129 : decode cX9_thing 129 = .ok (.aload_n 0, 1) := by decide +kernel
theorem dX9_thing_130 : decode cX9_thing 130 = .ok (.getfield 26, 3) := by decide +kernel
theorem dX9_thing_133 : decode cX9_thing 133 = .ok (.getfield 100, 3) := by decide +kernel
theorem dX9_thing_136 : decode cX9_thing 136 = .ok (.iload_n 1, 1) := by decide +kernel
theorem dX9_thing_137 : decode cX9_thing 137 = .ok (.aload_n 0, 1) := by decide +kernel
theorem dX9_thing_138 : decode cX9_thing 138 = .ok (.getfield 26, 3) := by decide +kernel
theorem dX9_thing_141 : decode cX9_thing 141 = .ok (.getfield 100, 3) := by decide +kernel
theorem dX9_thing_144 : decode cX9_thing 144 = .ok (.getfield 120, 3) := by decide +kernel
theorem dX9_thing_147 : decode cX9_thing 147 = .ok (.invokevirtual 132, 3) := by decide +kernel
theorem dX9_thing_150 : decode cX9_thing 150 = .ok (.invokestatic 128, 3) := by decide +kernel
theorem dX9_thing_153 : decode cX9_thing 153 = .ok (.ireturn, 1) := by decide +kernel
theorem dX9_thing_154 : decode cX9_thing 154 = .ok (.iconst (-1), 1) := by decide +kernel
theorem dX9_thing_155 : decode cX9_thing 155 = .ok (.ireturn, 1) := by decide +kernel
theorem dX9_at_0 : decode cX9_at 0 = .ok (.aload_n 0, 1) := by decide +kernel
theorem dX9_at_1 : decode cX9_at 1 = .ok (.getfield 26, 3) := by decide +kernel
theorem dX9_at_4 : decode cX9_at 4 = .ok (.getfield 91, 3) := by decide +kernel
theorem dX9_at_7 : decode cX9_at 7 = .ok (.iload_n 1, 1) := by decide +kernel
theorem dX9_at_8 : decode cX9_at 8 = .ok (.invokevirtual 135, 3) := by decide +kernel
theorem dX9_at_11 : decode cX9_at 11 = .ok (.ifCond .eq 17, 3) := by decide +kernel
theorem dX9_at_14 : decode cX9_at 14 = .ok (.aload_n 0, 1) := by decide +kernel
theorem dX9_at_15 : decode cX9_at 15 = .ok (.getfield 26, 3) := by decide +kernel
theorem dX9_at_18 : decode cX9_at 18 = .ok (.getfield 100, 3) := by decide +kernel
theorem dX9_at_21 : decode cX9_at 21 = .ok (.iload_n 1, 1) := by decide +kernel
theorem dX9_at_22 : decode cX9_at 22 = .ok (.invokevirtual 136, 3) := by decide +kernel
theorem dX9_at_25 : decode cX9_at 25 = .ok (.goto 4, 3) := by decide +kernel
theorem dX9_at_28 : decode cX9_at 28 = .ok (.iconst (-1), 1) := by decide +kernel
theorem dX9_at_29 : decode cX9_at 29 = .ok (.ireturn, 1) := by decide +kernel
theorem dX9_free_0 : decode cX9_free 0 = .ok (.aload_n 0, 1) := by decide +kernel
theorem dX9_free_1 : decode cX9_free 1 = .ok (.getfield 26, 3) := by decide +kernel
theorem dX9_free_4 : decode cX9_free 4 = .ok (.getfield 91, 3) := by decide +kernel
theorem dX9_free_7 : decode cX9_free 7 = .ok (.iload_n 1, 1) := by decide +kernel
theorem dX9_free_8 : decode cX9_free 8 = .ok (.invokevirtual 135, 3) := by decide +kernel
theorem dX9_free_11 : decode cX9_free 11 = .ok (.ifCond .eq 14, 3) := by decide +kernel
theorem dX9_free_14 : decode cX9_free 14 = .ok (.iload_n 2, 1) := by decide +kernel
theorem dX9_free_15 : decode cX9_free 15 = .ok (.ifCond .lt 10, 3) := by decide +kernel
theorem dX9_free_18 : decode cX9_free 18 = .ok (.iload_n 2, 1) := by decide +kernel
theorem dX9_free_19 : decode cX9_free 19 = .ok (.sipush 199, 3) := by decide +kernel
theorem dX9_free_22 : decode cX9_free 22 = .ok (.if_icmp .le 5, 3) := by decide +kernel
theorem dX9_free_25 : decode cX9_free 25 = .ok (.iconst (-1), 1) := by decide +kernel
theorem dX9_free_26 : decode cX9_free 26 = .ok (.ireturn, 1) := by decide +kernel
theorem dX9_free_27 : decode cX9_free 27 = .ok (.aload_n 0, 1) := by decide +kernel
theorem dX9_free_28 : decode cX9_free 28 = .ok (.getfield 26, 3) := by decide +kernel
theorem dX9_free_31 : decode cX9_free 31 = .ok (.getfield 100, 3) := by decide +kernel
theorem dX9_free_34 : decode cX9_free 34 = .ok (.iload_n 2, 1) := by decide +kernel
theorem dX9_free_35 : decode cX9_free 35 = .ok (.invokevirtual 139, 3) := by decide +kernel
theorem dX9_free_38 : decode cX9_free 38 = .ok (.iload_n 1, 1) := by decide +kernel
theorem dX9_free_39 : decode cX9_free 39 = .ok (.invokestatic 143, 3) := by decide +kernel
theorem dX9_free_42 : decode cX9_free 42 = .ok (.ifCond .ne 7, 3) := by decide +kernel
theorem dX9_free_45 : decode cX9_free 45 = .ok (.iconst 1, 1) := by decide +kernel
theorem dX9_free_46 : decode cX9_free 46 = .ok (.goto 4, 3) := by decide +kernel
theorem dX9_free_49 : decode cX9_free 49 = .ok (.iconst 0, 1) := by decide +kernel
theorem dX9_free_50 : decode cX9_free 50 = .ok (.invokestatic 128, 3) := by decide +kernel
theorem dX9_free_53 : decode cX9_free 53 = .ok (.ireturn, 1) := by decide +kernel
theorem dX9_map_0 : decode cX9_map 0 = .ok (.aload_n 0, 1) := by decide +kernel
theorem dX9_map_1 : decode cX9_map 1 = .ok (.getfield 26, 3) := by decide +kernel
theorem dX9_map_4 : decode cX9_map 4 = .ok (.getfield 147, 3) := by decide +kernel
theorem dX9_map_7 : decode cX9_map 7 = .ok (.iload_n 1, 1) := by decide +kernel
theorem dX9_map_8 : decode cX9_map 8 = .ok (.invokevirtual 151, 3) := by decide +kernel
theorem dX9_map_11 : decode cX9_map 11 = .ok (.ifCond .ne 5, 3) := by decide +kernel
theorem dX9_map_14 : decode cX9_map 14 = .ok (.iconst (-1), 1) := by decide +kernel
theorem dX9_map_15 : decode cX9_map 15 = .ok (.ireturn, 1) := by decide +kernel
theorem dX9_map_16 : decode cX9_map 16 = .ok (.iload_n 2, 1) := by decide +kernel
theorem dX9_map_17 : decode cX9_map 17 = .ok (.tableswitch 79 0 3 #[31, 43, 55, 67], 31) := by decide +kernel
theorem dX9_map_48 : decode cX9_map 48 = .ok (.aload_n 0, 1) := by decide +kernel
theorem dX9_map_49 : decode cX9_map 49 = .ok (.getfield 26, 3) := by decide +kernel
theorem dX9_map_52 : decode cX9_map 52 = .ok (.getfield 147, 3) := by decide +kernel
theorem dX9_map_55 : decode cX9_map 55 = .ok (.iload_n 1, 1) := by decide +kernel
theorem dX9_map_56 : decode cX9_map 56 = .ok (.invokevirtual 154, 3) := by decide +kernel
theorem dX9_map_59 : decode cX9_map 59 = .ok (.ireturn, 1) := by decide +kernel
theorem dX9_map_60 : decode cX9_map 60 = .ok (.aload_n 0, 1) := by decide +kernel
theorem dX9_map_61 : decode cX9_map 61 = .ok (.getfield 26, 3) := by decide +kernel
theorem dX9_map_64 : decode cX9_map 64 = .ok (.getfield 147, 3) := by decide +kernel
theorem dX9_map_67 : decode cX9_map 67 = .ok (.iload_n 1, 1) := by decide +kernel
theorem dX9_map_68 : decode cX9_map 68 = .ok (.invokevirtual 157, 3) := by decide +kernel
theorem dX9_map_71 : decode cX9_map 71 = .ok (.ireturn, 1) := by decide +kernel
theorem dX9_map_72 : decode cX9_map 72 = .ok (.aload_n 0, 1) := by decide +kernel
theorem dX9_map_73 : decode cX9_map 73 = .ok (.getfield 26, 3) := by decide +kernel
theorem dX9_map_76 : decode cX9_map 76 = .ok (.getfield 147, 3) := by decide +kernel
theorem dX9_map_79 : decode cX9_map 79 = .ok (.iload_n 1, 1) := by decide +kernel
theorem dX9_map_80 : decode cX9_map 80 = .ok (.invokevirtual 160, 3) := by decide +kernel
theorem dX9_map_83 : decode cX9_map 83 = .ok (.ireturn, 1) := by decide +kernel
theorem dX9_map_84 : decode cX9_map 84 = .ok (.aload_n 0, 1) := by decide +kernel
theorem dX9_map_85 : decode cX9_map 85 = .ok (.getfield 26, 3) := by decide +kernel
theorem dX9_map_88 : decode cX9_map 88 = .ok (.iload_n 1, 1) := by decide +kernel
theorem dX9_map_89 : decode cX9_map 89 = .ok (.invokevirtual 163, 3) := by decide +kernel
theorem dX9_map_92 : decode cX9_map 92 = .ok (.invokestatic 166, 3) := by decide +kernel
theorem dX9_map_95 : decode cX9_map 95 = .ok (.ireturn, 1) := by decide +kernel
theorem dX9_map_96 : decode cX9_map 96 = .ok (.iconst (-1), 1) := by decide +kernel
theorem dX9_map_97 : decode cX9_map 97 = .ok (.ireturn, 1) := by decide +kernel
theorem dX9_shows_0 : decode cX9_shows 0 = .ok (.aload_n 0, 1) := by decide +kernel
theorem dX9_shows_1 : decode cX9_shows 1 = .ok (.getfield 26, 3) := by decide +kernel
theorem dX9_shows_4 : decode cX9_shows 4 = .ok (.getfield 147, 3) := by decide +kernel
theorem dX9_shows_7 : decode cX9_shows 7 = .ok (.iload_n 1, 1) := by decide +kernel
theorem dX9_shows_8 : decode cX9_shows 8 = .ok (.invokevirtual 151, 3) := by decide +kernel
theorem dX9_shows_11 : decode cX9_shows 11 = .ok (.ifCond .eq 17, 3) := by decide +kernel
theorem dX9_shows_14 : decode cX9_shows 14 = .ok (.aload_n 0, 1) := by decide +kernel
theorem dX9_shows_15 : decode cX9_shows 15 = .ok (.getfield 26, 3) := by decide +kernel
theorem dX9_shows_18 : decode cX9_shows 18 = .ok (.getfield 91, 3) := by decide +kernel
theorem dX9_shows_21 : decode cX9_shows 21 = .ok (.iload_n 2, 1) := by decide +kernel
theorem dX9_shows_22 : decode cX9_shows 22 = .ok (.invokevirtual 135, 3) := by decide +kernel
theorem dX9_shows_25 : decode cX9_shows 25 = .ok (.ifCond .ne 5, 3) := by decide +kernel
theorem dX9_shows_28 : decode cX9_shows 28 = .ok (.iconst (-1), 1) := by decide +kernel
theorem dX9_shows_29 : decode cX9_shows 29 = .ok (.ireturn, 1) := by decide +kernel
theorem dX9_shows_30 : decode cX9_shows 30 = .ok (.aload_n 0, 1) := by decide +kernel
theorem dX9_shows_31 : decode cX9_shows 31 = .ok (.getfield 26, 3) := by decide +kernel
theorem dX9_shows_34 : decode cX9_shows 34 = .ok (.iload_n 1, 1) := by decide +kernel
theorem dX9_shows_35 : decode cX9_shows 35 = .ok (.invokevirtual 163, 3) := by decide +kernel
theorem dX9_shows_38 : decode cX9_shows 38 = .ok (.iload_n 2, 1) := by decide +kernel
theorem dX9_shows_39 : decode cX9_shows 39 = .ok (.invokestatic 143, 3) := by decide +kernel
theorem dX9_shows_42 : decode cX9_shows 42 = .ok (.invokestatic 128, 3) := by decide +kernel
theorem dX9_shows_45 : decode cX9_shows 45 = .ok (.ireturn, 1) := by decide +kernel
theorem dX9_pass_0 : decode cX9_pass 0 = .ok (.iload_n 1, 1) := by decide +kernel
theorem dX9_pass_1 : decode cX9_pass 1 = .ok (.iconst 1, 1) := by decide +kernel
theorem dX9_pass_2 : decode cX9_pass 2 = .ok (.if_icmp .lt 9, 3) := by decide +kernel
theorem dX9_pass_5 : decode cX9_pass 5 = .ok (.iload_n 1, 1) := by decide +kernel
theorem dX9_pass_6 : decode cX9_pass 6 = .ok (.bipush 30, 2) := by decide +kernel
theorem dX9_pass_8 : decode cX9_pass 8 = .ok (.if_icmp .le 5, 3) := by decide +kernel
theorem dX9_pass_11 : decode cX9_pass 11 = .ok (.iconst (-1), 1) := by decide +kernel
theorem dX9_pass_12 : decode cX9_pass 12 = .ok (.ireturn, 1) := by decide +kernel
theorem dX9_pass_13 : decode cX9_pass 13 = .ok (.aload_n 0, 1) := by decide +kernel
theorem dX9_pass_14 : decode cX9_pass 14 = .ok (.getfield 26, 3) := by decide +kernel
theorem dX9_pass_17 : decode cX9_pass 17 = .ok (.getfield 100, 3) := by decide +kernel
theorem dX9_pass_20 : decode cX9_pass 20 = .ok (.getfield 120, 3) := by decide +kernel
theorem dX9_pass_23 : decode cX9_pass 23 = .ok (.iload_n 1, 1) := by decide +kernel
theorem dX9_pass_24 : decode cX9_pass 24 = .ok (.iadd, 1) := by decide +kernel
theorem dX9_pass_25 : decode cX9_pass 25 = .ok (.bipush 98, 2) := by decide +kernel
theorem dX9_pass_27 : decode cX9_pass 27 = .ok (.if_icmp .le 6, 3) := by decide +kernel
theorem dX9_pass_30 : decode cX9_pass 30 = .ok (.bipush (-2), 2) := by decide +kernel
theorem dX9_pass_32 : decode cX9_pass 32 = .ok (.ireturn, 1) := by decide +kernel
theorem dX9_pass_33 : decode cX9_pass 33 = .ok (.aload_n 0, 1) := by decide +kernel
theorem dX9_pass_34 : decode cX9_pass 34 = .ok (.getfield 35, 3) := by decide +kernel
theorem dX9_pass_37 : decode cX9_pass 37 = .ok (.aload_n 0, 1) := by decide +kernel
theorem dX9_pass_38 : decode cX9_pass 38 = .ok (.getfield 26, 3) := by decide +kernel
theorem dX9_pass_41 : decode cX9_pass 41 = .ok (.getfield 100, 3) := by decide +kernel
theorem dX9_pass_44 : decode cX9_pass 44 = .ok (.invokevirtual 172, 3) := by decide +kernel
theorem dX9_pass_47 : decode cX9_pass 47 = .ok (.aload_n 0, 1) := by decide +kernel
theorem dX9_pass_48 : decode cX9_pass 48 = .ok (.getfield 26, 3) := by decide +kernel
theorem dX9_pass_51 : decode cX9_pass 51 = .ok (.getfield 100, 3) := by decide +kernel
theorem dX9_pass_54 : decode cX9_pass 54 = .ok (.dup, 1) := by decide +kernel
theorem dX9_pass_55 : decode cX9_pass 55 = .ok (.getfield 120, 3) := by decide +kernel
theorem dX9_pass_58 : decode cX9_pass 58 = .ok (.iload_n 1, 1) := by decide +kernel
theorem dX9_pass_59 : decode cX9_pass 59 = .ok (.iadd, 1) := by decide +kernel
theorem dX9_pass_60 : decode cX9_pass 60 = .ok (.putfield 120, 3) := by decide +kernel
theorem dX9_pass_63 : decode cX9_pass 63 = .ok (.aload_n 0, 1) := by decide +kernel
theorem dX9_pass_64 : decode cX9_pass 64 = .ok (.getfield 26, 3) := by decide +kernel
theorem dX9_pass_67 : decode cX9_pass 67 = .ok (.getfield 100, 3) := by decide +kernel
theorem dX9_pass_70 : decode cX9_pass 70 = .ok (.getfield 120, 3) := by decide +kernel
theorem dX9_pass_73 : decode cX9_pass 73 = .ok (.ireturn, 1) := by decide +kernel
theorem dX9_burn_0 : decode cX9_burn 0 = .ok (.aload_n 0, 1) := by decide +kernel
theorem dX9_burn_1 : decode cX9_burn 1 = .ok (.getfield 26, 3) := by decide +kernel
theorem dX9_burn_4 : decode cX9_burn 4 = .ok (.getfield 100, 3) := by decide +kernel
theorem dX9_burn_7 : decode cX9_burn 7 = .ok (.iload_n 1, 1) := by decide +kernel
theorem dX9_burn_8 : decode cX9_burn 8 = .ok (.invokevirtual 103, 3) := by decide +kernel
theorem dX9_burn_11 : decode cX9_burn 11 = .ok (.ifCond .ne 5, 3) := by decide +kernel
theorem dX9_burn_14 : decode cX9_burn 14 = .ok (.iconst (-1), 1) := by decide +kernel
theorem dX9_burn_15 : decode cX9_burn 15 = .ok (.ireturn, 1) := by decide +kernel
theorem dX9_burn_16 : decode cX9_burn 16 = .ok (.aload_n 0, 1) := by decide +kernel
theorem dX9_burn_17 : decode cX9_burn 17 = .ok (.getfield 26, 3) := by decide +kernel
theorem dX9_burn_20 : decode cX9_burn 20 = .ok (.getfield 100, 3) := by decide +kernel
theorem dX9_burn_23 : decode cX9_burn 23 = .ok (.iload_n 1, 1) := by decide +kernel
theorem dX9_burn_24 : decode cX9_burn 24 = .ok (.invokevirtual 176, 3) := by decide +kernel
theorem dX9_burn_27 : decode cX9_burn 27 = .ok (.ifCond .ne 6, 3) := by decide +kernel
theorem dX9_burn_30 : decode cX9_burn 30 = .ok (.bipush (-2), 2) := by decide +kernel
theorem dX9_burn_32 : decode cX9_burn 32 = .ok (.ireturn, 1) := by decide +kernel
theorem dX9_burn_33 : decode cX9_burn 33 = .ok (.aload_n 0, 1) := by decide +kernel
theorem dX9_burn_34 : decode cX9_burn 34 = .ok (.getfield 35, 3) := by decide +kernel
theorem dX9_burn_37 : decode cX9_burn 37 = .ok (.aload_n 0, 1) := by decide +kernel
theorem dX9_burn_38 : decode cX9_burn 38 = .ok (.getfield 26, 3) := by decide +kernel
theorem dX9_burn_41 : decode cX9_burn 41 = .ok (.getfield 100, 3) := by decide +kernel
theorem dX9_burn_44 : decode cX9_burn 44 = .ok (.invokevirtual 172, 3) := by decide +kernel
theorem dX9_burn_47 : decode cX9_burn 47 = .ok (.aload_n 0, 1) := by decide +kernel
theorem dX9_burn_48 : decode cX9_burn 48 = .ok (.getfield 26, 3) := by decide +kernel
theorem dX9_burn_51 : decode cX9_burn 51 = .ok (.getfield 100, 3) := by decide +kernel
theorem dX9_burn_54 : decode cX9_burn 54 = .ok (.iload_n 1, 1) := by decide +kernel
theorem dX9_burn_55 : decode cX9_burn 55 = .ok (.invokevirtual 179, 3) := by decide +kernel
theorem dX9_burn_58 : decode cX9_burn 58 = .ok (.aload_n 0, 1) := by decide +kernel
theorem dX9_burn_59 : decode cX9_burn 59 = .ok (.getfield 26, 3) := by decide +kernel
theorem dX9_burn_62 : decode cX9_burn 62 = .ok (.getfield 100, 3) := by decide +kernel
theorem dX9_burn_65 : decode cX9_burn 65 = .ok (.iload_n 1, 1) := by decide +kernel
theorem dX9_burn_66 : decode cX9_burn 66 = .ok (.invokevirtual 117, 3) := by decide +kernel
theorem dX9_burn_69 : decode cX9_burn 69 = .ok (.ireturn, 1) := by decide +kernel
theorem dX9_build_0 : decode cX9_build 0 = .ok (.aload_n 0, 1) := by decide +kernel
theorem dX9_build_1 : decode cX9_build 1 = .ok (.getfield 26, 3) := by decide +kernel
theorem dX9_build_4 : decode cX9_build 4 = .ok (.getfield 91, 3) := by decide +kernel
theorem dX9_build_7 : decode cX9_build 7 = .ok (.iload_n 1, 1) := by decide +kernel
theorem dX9_build_8 : decode cX9_build 8 = .ok (.invokevirtual 135, 3) := by decide +kernel
theorem dX9_build_11 : decode cX9_build 11 = .ok (.ifCond .ne 5, 3) := by decide +kernel
theorem dX9_build_14 : decode cX9_build 14 = .ok (.iconst (-1), 1) := by decide +kernel
theorem dX9_build_15 : decode cX9_build 15 = .ok (.ireturn, 1) := by decide +kernel
theorem dX9_build_16 : decode cX9_build 16 = .ok (.aload_n 0, 1) := by decide +kernel
theorem dX9_build_17 : decode cX9_build 17 = .ok (.getfield 26, 3) := by decide +kernel
theorem dX9_build_20 : decode cX9_build 20 = .ok (.getfield 100, 3) := by decide +kernel
theorem dX9_build_23 : decode cX9_build 23 = .ok (.iload_n 1, 1) := by decide +kernel
theorem dX9_build_24 : decode cX9_build 24 = .ok (.invokevirtual 136, 3) := by decide +kernel
theorem dX9_build_27 : decode cX9_build 27 = .ok (.bipush (-4), 2) := by decide +kernel
theorem dX9_build_29 : decode cX9_build 29 = .ok (.if_icmp .eq 6, 3) := by decide +kernel
theorem dX9_build_32 : decode cX9_build 32 = .ok (.bipush (-2), 2) := by decide +kernel
theorem dX9_build_34 : decode cX9_build 34 = .ok (.ireturn, 1) := by decide +kernel
theorem dX9_build_35 : decode cX9_build 35 = .ok (.aload_n 0, 1) := by decide +kernel
theorem dX9_build_36 : decode cX9_build 36 = .ok (.getfield 26, 3) := by decide +kernel
theorem dX9_build_39 : decode cX9_build 39 = .ok (.getfield 100, 3) := by decide +kernel
theorem dX9_build_42 : decode cX9_build 42 = .ok (.invokevirtual 182, 3) := by decide +kernel
theorem dX9_build_45 : decode cX9_build 45 = .ok (.ifCond .eq 6, 3) := by decide +kernel
theorem dX9_build_48 : decode cX9_build 48 = .ok (.bipush (-3), 2) := by decide +kernel
theorem dX9_build_50 : decode cX9_build 50 = .ok (.ireturn, 1) := by decide +kernel
theorem dX9_build_51 : decode cX9_build 51 = .ok (.aload_n 0, 1) := by decide +kernel
theorem dX9_build_52 : decode cX9_build 52 = .ok (.getfield 35, 3) := by decide +kernel
theorem dX9_build_55 : decode cX9_build 55 = .ok (.aload_n 0, 1) := by decide +kernel
theorem dX9_build_56 : decode cX9_build 56 = .ok (.getfield 26, 3) := by decide +kernel
theorem dX9_build_59 : decode cX9_build 59 = .ok (.getfield 100, 3) := by decide +kernel
theorem dX9_build_62 : decode cX9_build 62 = .ok (.invokevirtual 172, 3) := by decide +kernel
theorem dX9_build_65 : decode cX9_build 65 = .ok (.aload_n 0, 1) := by decide +kernel
theorem dX9_build_66 : decode cX9_build 66 = .ok (.getfield 26, 3) := by decide +kernel
theorem dX9_build_69 : decode cX9_build 69 = .ok (.getfield 100, 3) := by decide +kernel
theorem dX9_build_72 : decode cX9_build 72 = .ok (.iload_n 1, 1) := by decide +kernel
theorem dX9_build_73 : decode cX9_build 73 = .ok (.aload_n 0, 1) := by decide +kernel
theorem dX9_build_74 : decode cX9_build 74 = .ok (.getfield 26, 3) := by decide +kernel
theorem dX9_build_77 : decode cX9_build 77 = .ok (.getfield 100, 3) := by decide +kernel
theorem dX9_build_80 : decode cX9_build 80 = .ok (.getfield 120, 3) := by decide +kernel
theorem dX9_build_83 : decode cX9_build 83 = .ok (.sipush 1000, 3) := by decide +kernel
theorem dX9_build_86 : decode cX9_build 86 = .ok (.iconst 0, 1) := by decide +kernel
theorem dX9_build_87 : decode cX9_build 87 = .ok (.invokevirtual 185, 3) := by decide +kernel
theorem dX9_build_90 : decode cX9_build 90 = .ok (.ireturn, 1) := by decide +kernel
theorem dX9_undo_0 : decode cX9_undo 0 = .ok (.aload_n 0, 1) := by decide +kernel
theorem dX9_undo_1 : decode cX9_undo 1 = .ok (.getfield 35, 3) := by decide +kernel
theorem dX9_undo_4 : decode cX9_undo 4 = .ok (.aload_n 0, 1) := by decide +kernel
theorem dX9_undo_5 : decode cX9_undo 5 = .ok (.getfield 26, 3) := by decide +kernel
theorem dX9_undo_8 : decode cX9_undo 8 = .ok (.getfield 100, 3) := by decide +kernel
theorem dX9_undo_11 : decode cX9_undo 11 = .ok (.invokevirtual 189, 3) := by decide +kernel
theorem dX9_undo_14 : decode cX9_undo 14 = .ok (.ifCond .eq 13, 3) := by decide +kernel
theorem dX9_undo_17 : decode cX9_undo 17 = .ok (.aload_n 0, 1) := by decide +kernel
theorem dX9_undo_18 : decode cX9_undo 18 = .ok (.getfield 35, 3) := by decide +kernel
theorem dX9_undo_21 : decode cX9_undo 21 = .ok (.invokevirtual 193, 3) := by decide +kernel
theorem dX9_undo_24 : decode cX9_undo 24 = .ok (.goto 5, 3) := by decide +kernel
theorem dX9_undo_27 : decode cX9_undo 27 = .ok (.bipush (-2), 2) := by decide +kernel
theorem dX9_undo_29 : decode cX9_undo 29 = .ok (.ireturn, 1) := by decide +kernel
theorem dX9_way_0 : decode cX9_way 0 = .ok (.aload_n 0, 1) := by decide +kernel
theorem dX9_way_1 : decode cX9_way 1 = .ok (.iload_n 1, 1) := by decide +kernel
theorem dX9_way_2 : decode cX9_way 2 = .ok (.iload_n 2, 1) := by decide +kernel
theorem dX9_way_3 : decode cX9_way 3 = .ok (.invokevirtual 196, 3) := by decide +kernel
theorem dX9_way_6 : decode cX9_way 6 = .ok (.ifCond .ne 5, 3) := by decide +kernel
theorem dX9_way_9 : decode cX9_way 9 = .ok (.iconst (-1), 1) := by decide +kernel
theorem dX9_way_10 : decode cX9_way 10 = .ok (.ireturn, 1) := by decide +kernel
theorem dX9_way_11 : decode cX9_way 11 = .ok (.aload_n 0, 1) := by decide +kernel
theorem dX9_way_12 : decode cX9_way 12 = .ok (.getfield 52, 3) := by decide +kernel
theorem dX9_way_15 : decode cX9_way 15 = .ok (.aload_n 0, 1) := by decide +kernel
theorem dX9_way_16 : decode cX9_way 16 = .ok (.getfield 26, 3) := by decide +kernel
theorem dX9_way_19 : decode cX9_way 19 = .ok (.getfield 91, 3) := by decide +kernel
theorem dX9_way_22 : decode cX9_way 22 = .ok (.aload_n 0, 1) := by decide +kernel
theorem dX9_way_23 : decode cX9_way 23 = .ok (.invokevirtual 199, 3) := by decide +kernel
theorem dX9_way_26 : decode cX9_way 26 = .ok (.iload_n 1, 1) := by decide +kernel
theorem dX9_way_27 : decode cX9_way 27 = .ok (.iload_n 2, 1) := by decide +kernel
theorem dX9_way_28 : decode cX9_way 28 = .ok (.invokevirtual 203, 3) := by decide +kernel
theorem dX9_way_31 : decode cX9_way 31 = .ok (.invokestatic 207, 3) := by decide +kernel
theorem dX9_way_34 : decode cX9_way 34 = .ok (.ireturn, 1) := by decide +kernel
theorem dX9_sure_0 : decode cX9_sure 0 = .ok (.aload_n 0, 1) := by decide +kernel
theorem dX9_sure_1 : decode cX9_sure 1 = .ok (.getfield 26, 3) := by decide +kernel
theorem dX9_sure_4 : decode cX9_sure 4 = .ok (.getfield 147, 3) := by decide +kernel
theorem dX9_sure_7 : decode cX9_sure 7 = .ok (.iload_n 1, 1) := by decide +kernel
theorem dX9_sure_8 : decode cX9_sure 8 = .ok (.invokevirtual 151, 3) := by decide +kernel
theorem dX9_sure_11 : decode cX9_sure 11 = .ok (.ifCond .eq 12, 3) := by decide +kernel
theorem dX9_sure_14 : decode cX9_sure 14 = .ok (.aload_n 0, 1) := by decide +kernel
theorem dX9_sure_15 : decode cX9_sure 15 = .ok (.iload_n 2, 1) := by decide +kernel
theorem dX9_sure_16 : decode cX9_sure 16 = .ok (.iload_n 3, 1) := by decide +kernel
theorem dX9_sure_17 : decode cX9_sure 17 = .ok (.invokevirtual 196, 3) := by decide +kernel
theorem dX9_sure_20 : decode cX9_sure 20 = .ok (.ifCond .ne 5, 3) := by decide +kernel
theorem dX9_sure_23 : decode cX9_sure 23 = .ok (.iconst (-1), 1) := by decide +kernel
theorem dX9_sure_24 : decode cX9_sure 24 = .ok (.ireturn, 1) := by decide +kernel
theorem dX9_sure_25 : decode cX9_sure 25 = .ok (.aload_n 0, 1) := by decide +kernel
theorem dX9_sure_26 : decode cX9_sure 26 = .ok (.getfield 52, 3) := by decide +kernel
theorem dX9_sure_29 : decode cX9_sure 29 = .ok (.aload_n 0, 1) := by decide +kernel
theorem dX9_sure_30 : decode cX9_sure 30 = .ok (.getfield 26, 3) := by decide +kernel
theorem dX9_sure_33 : decode cX9_sure 33 = .ok (.getfield 91, 3) := by decide +kernel
theorem dX9_sure_36 : decode cX9_sure 36 = .ok (.aload_n 0, 1) := by decide +kernel
theorem dX9_sure_37 : decode cX9_sure 37 = .ok (.getfield 26, 3) := by decide +kernel
theorem dX9_sure_40 : decode cX9_sure 40 = .ok (.iload_n 1, 1) := by decide +kernel
theorem dX9_sure_41 : decode cX9_sure 41 = .ok (.invokevirtual 163, 3) := by decide +kernel
theorem dX9_sure_44 : decode cX9_sure 44 = .ok (.iload_n 2, 1) := by decide +kernel
theorem dX9_sure_45 : decode cX9_sure 45 = .ok (.iload_n 3, 1) := by decide +kernel
theorem dX9_sure_46 : decode cX9_sure 46 = .ok (.invokevirtual 203, 3) := by decide +kernel
theorem dX9_sure_49 : decode cX9_sure 49 = .ok (.invokestatic 207, 3) := by decide +kernel
theorem dX9_sure_52 : decode cX9_sure 52 = .ok (.ireturn, 1) := by decide +kernel
theorem dX9_pull_0 : decode cX9_pull 0 = .ok (.aload_n 0, 1) := by decide +kernel
theorem dX9_pull_1 : decode cX9_pull 1 = .ok (.iload_n 1, 1) := by decide +kernel
theorem dX9_pull_2 : decode cX9_pull 2 = .ok (.iload_n 2, 1) := by decide +kernel
theorem dX9_pull_3 : decode cX9_pull 3 = .ok (.invokevirtual 196, 3) := by decide +kernel
theorem dX9_pull_6 : decode cX9_pull 6 = .ok (.ifCond .ne 5, 3) := by decide +kernel
theorem dX9_pull_9 : decode cX9_pull 9 = .ok (.iconst (-1), 1) := by decide +kernel
theorem dX9_pull_10 : decode cX9_pull 10 = .ok (.ireturn, 1) := by decide +kernel
theorem dX9_pull_11 : decode cX9_pull 11 = .ok (.iload_n 3, 1) := by decide +kernel
theorem dX9_pull_12 : decode cX9_pull 12 = .ok (.ifCond .eq 39, 3) := by decide +kernel
theorem dX9_pull_15 : decode cX9_pull 15 = .ok (.aload_n 0, 1) := by decide +kernel
theorem dX9_pull_16 : decode cX9_pull 16 = .ok (.getfield 52, 3) := by decide +kernel
theorem dX9_pull_19 : decode cX9_pull 19 = .ok (.aload_n 0, 1) := by decide +kernel
theorem dX9_pull_20 : decode cX9_pull 20 = .ok (.getfield 26, 3) := by decide +kernel
theorem dX9_pull_23 : decode cX9_pull 23 = .ok (.aload_n 0, 1) := by decide +kernel
theorem dX9_pull_24 : decode cX9_pull 24 = .ok (.getfield 26, 3) := by decide +kernel
theorem dX9_pull_27 : decode cX9_pull 27 = .ok (.getfield 100, 3) := by decide +kernel
theorem dX9_pull_30 : decode cX9_pull 30 = .ok (.getfield 120, 3) := by decide +kernel
theorem dX9_pull_33 : decode cX9_pull 33 = .ok (.invokevirtual 210, 3) := by decide +kernel
theorem dX9_pull_36 : decode cX9_pull 36 = .ok (.iconst 0, 1) := by decide +kernel
theorem dX9_pull_37 : decode cX9_pull 37 = .ok (.aload_n 0, 1) := by decide +kernel
theorem dX9_pull_38 : decode cX9_pull 38 = .ok (.getfield 26, 3) := by decide +kernel
theorem dX9_pull_41 : decode cX9_pull 41 = .ok (.invokevirtual 213, 3) := by decide +kernel
theorem dX9_pull_44 : decode cX9_pull 44 = .ok (.iconst 1, 1) := by decide +kernel
theorem dX9_pull_45 : decode cX9_pull 45 = .ok (.invokevirtual 216, 3) := by decide +kernel
theorem dX9_pull_48 : decode cX9_pull 48 = .ok (.goto 24, 3) := by decide +kernel
theorem dX9_pull_51 : decode cX9_pull 51 = .ok (.aload_n 0, 1) := by decide +kernel
theorem dX9_pull_52 : decode cX9_pull 52 = .ok (.getfield 52, 3) := by decide +kernel
theorem dX9_pull_55 : decode cX9_pull 55 = .ok (.aload_n 0, 1) := by decide +kernel
theorem dX9_pull_56 : decode cX9_pull 56 = .ok (.invokevirtual 199, 3) := by decide +kernel
theorem dX9_pull_59 : decode cX9_pull 59 = .ok (.iconst 0, 1) := by decide +kernel
theorem dX9_pull_60 : decode cX9_pull 60 = .ok (.aload_n 0, 1) := by decide +kernel
theorem dX9_pull_61 : decode cX9_pull 61 = .ok (.invokevirtual 199, 3) := by decide +kernel
theorem dX9_pull_64 : decode cX9_pull 64 = .ok (.ldc2_w 220, 3) := by decide +kernel
theorem dX9_pull_67 : decode cX9_pull 67 = .ok (.lxor, 1) := by decide +kernel
theorem dX9_pull_68 : decode cX9_pull 68 = .ok (.iconst 1, 1) := by decide +kernel
theorem dX9_pull_69 : decode cX9_pull 69 = .ok (.invokevirtual 216, 3) := by decide +kernel
theorem dX9_pull_72 : decode cX9_pull 72 = .ok (.aload_n 0, 1) := by decide +kernel
theorem dX9_pull_73 : decode cX9_pull 73 = .ok (.getfield 52, 3) := by decide +kernel
theorem dX9_pull_76 : decode cX9_pull 76 = .ok (.aload_n 0, 1) := by decide +kernel
theorem dX9_pull_77 : decode cX9_pull 77 = .ok (.getfield 26, 3) := by decide +kernel
theorem dX9_pull_80 : decode cX9_pull 80 = .ok (.getfield 91, 3) := by decide +kernel
theorem dX9_pull_83 : decode cX9_pull 83 = .ok (.iload_n 2, 1) := by decide +kernel
theorem dX9_pull_84 : decode cX9_pull 84 = .ok (.invokevirtual 222, 3) := by decide +kernel
theorem dX9_pull_87 : decode cX9_pull 87 = .ok (.aload_n 0, 1) := by decide +kernel
theorem dX9_pull_88 : decode cX9_pull 88 = .ok (.getfield 52, 3) := by decide +kernel
theorem dX9_pull_91 : decode cX9_pull 91 = .ok (.iload_n 1, 1) := by decide +kernel
theorem dX9_pull_92 : decode cX9_pull 92 = .ok (.invokevirtual 226, 3) := by decide +kernel
theorem dX9_pull_95 : decode cX9_pull 95 = .ok (.aload_n 0, 1) := by decide +kernel
theorem dX9_pull_96 : decode cX9_pull 96 = .ok (.getfield 52, 3) := by decide +kernel
theorem dX9_pull_99 : decode cX9_pull 99 = .ok (.iload_n 1, 1) := by decide +kernel
theorem dX9_pull_100 : decode cX9_pull 100 = .ok (.invokevirtual 229, 3) := by decide +kernel
theorem dX9_pull_103 : decode cX9_pull 103 = .ok (.iadd, 1) := by decide +kernel
theorem dX9_pull_104 : decode cX9_pull 104 = .ok (.invokestatic 207, 3) := by decide +kernel
theorem dX9_pull_107 : decode cX9_pull 107 = .ok (.ireturn, 1) := by decide +kernel
theorem dX9_wander_0 : decode cX9_wander 0 = .ok (.aload_n 0, 1) := by decide +kernel
theorem dX9_wander_1 : decode cX9_wander 1 = .ok (.getfield 26, 3) := by decide +kernel
theorem dX9_wander_4 : decode cX9_wander 4 = .ok (.getfield 147, 3) := by decide +kernel
theorem dX9_wander_7 : decode cX9_wander 7 = .ok (.iload_n 1, 1) := by decide +kernel
theorem dX9_wander_8 : decode cX9_wander 8 = .ok (.invokevirtual 151, 3) := by decide +kernel
theorem dX9_wander_11 : decode cX9_wander 11 = .ok (.ifCond .eq 12, 3) := by decide +kernel
theorem dX9_wander_14 : decode cX9_wander 14 = .ok (.aload_n 0, 1) := by decide +kernel
theorem dX9_wander_15 : decode cX9_wander 15 = .ok (.iload_n 2, 1) := by decide +kernel
theorem dX9_wander_16 : decode cX9_wander 16 = .ok (.iload_n 3, 1) := by decide +kernel
theorem dX9_wander_17 : decode cX9_wander 17 = .ok (.invokevirtual 196, 3) := by decide +kernel
theorem dX9_wander_20 : decode cX9_wander 20 = .ok (.ifCond .ne 5, 3) := by decide +kernel
theorem dX9_wander_23 : decode cX9_wander 23 = .ok (.iconst (-1), 1) := by decide +kernel
theorem dX9_wander_24 : decode cX9_wander 24 = .ok (.ireturn, 1) := by decide +kernel
theorem dX9_wander_25 : decode cX9_wander 25 = .ok (.aload_n 0, 1) := by decide +kernel
theorem dX9_wander_26 : decode cX9_wander 26 = .ok (.invokevirtual 199, 3) := by decide +kernel
theorem dX9_wander_29 : decode cX9_wander 29 = .ok (.iload_n 2, 1) := by decide +kernel
theorem dX9_wander_30 : decode cX9_wander 30 = .ok (.invokestatic 143, 3) := by decide +kernel
theorem dX9_wander_33 : decode cX9_wander 33 = .ok (.ifCond .eq 14, 3) := by decide +kernel
theorem dX9_wander_36 : decode cX9_wander 36 = .ok (.aload_n 0, 1) := by decide +kernel
theorem dX9_wander_37 : decode cX9_wander 37 = .ok (.invokevirtual 199, 3) := by decide +kernel
theorem dX9_wander_40 : decode cX9_wander 40 = .ok (.iload_n 3, 1) := by decide +kernel
theorem dX9_wander_41 : decode cX9_wander 41 = .ok (.invokestatic 143, 3) := by decide +kernel
theorem dX9_wander_44 : decode cX9_wander 44 = .ok (.ifCond .ne 6, 3) := by decide +kernel
theorem dX9_wander_47 : decode cX9_wander 47 = .ok (.bipush (-4), 2) := by decide +kernel
theorem dX9_wander_49 : decode cX9_wander 49 = .ok (.ireturn, 1) := by decide +kernel
theorem dX9_wander_50 : decode cX9_wander 50 = .ok (.aload_n 0, 1) := by decide +kernel
theorem dX9_wander_51 : decode cX9_wander 51 = .ok (.aload_n 0, 1) := by decide +kernel
theorem dX9_wander_52 : decode cX9_wander 52 = .ok (.getfield 26, 3) := by decide +kernel
theorem dX9_wander_55 : decode cX9_wander 55 = .ok (.iload_n 1, 1) := by decide +kernel
theorem dX9_wander_56 : decode cX9_wander 56 = .ok (.invokevirtual 163, 3) := by decide +kernel
theorem dX9_wander_59 : decode cX9_wander 59 = .ok (.aload_n 0, 1) := by decide +kernel
theorem dX9_wander_60 : decode cX9_wander 60 = .ok (.invokevirtual 199, 3) := by decide +kernel
theorem dX9_wander_63 : decode cX9_wander 63 = .ok (.ldc2_w 220, 3) := by decide +kernel
theorem dX9_wander_66 : decode cX9_wander 66 = .ok (.lxor, 1) := by decide +kernel
theorem dX9_wander_67 : decode cX9_wander 67 = .ok (.iload_n 2, 1) := by decide +kernel
theorem dX9_wander_68 : decode cX9_wander 68 = .ok (.iload_n 3, 1) := by decide +kernel
theorem dX9_wander_69 : decode cX9_wander 69 = .ok (.invokevirtual 232, 3) := by decide +kernel
theorem dX9_wander_72 : decode cX9_wander 72 = .ok (.ireturn, 1) := by decide +kernel
theorem dX9_wrong_0 : decode cX9_wrong 0 = .ok (.aload_n 0, 1) := by decide +kernel
theorem dX9_wrong_1 : decode cX9_wrong 1 = .ok (.getfield 26, 3) := by decide +kernel
theorem dX9_wrong_4 : decode cX9_wrong 4 = .ok (.getfield 147, 3) := by decide +kernel
theorem dX9_wrong_7 : decode cX9_wrong 7 = .ok (.iload_n 1, 1) := by decide +kernel
theorem dX9_wrong_8 : decode cX9_wrong 8 = .ok (.invokevirtual 151, 3) := by decide +kernel
theorem dX9_wrong_11 : decode cX9_wrong 11 = .ok (.ifCond .eq 10, 3) := by decide +kernel
theorem dX9_wrong_14 : decode cX9_wrong 14 = .ok (.iload_n 2, 1) := by decide +kernel
theorem dX9_wrong_15 : decode cX9_wrong 15 = .ok (.invokestatic 236, 3) := by decide +kernel
theorem dX9_wrong_18 : decode cX9_wrong 18 = .ok (.ifCond .ne 5, 3) := by decide +kernel
theorem dX9_wrong_21 : decode cX9_wrong 21 = .ok (.iconst (-1), 1) := by decide +kernel
theorem dX9_wrong_22 : decode cX9_wrong 22 = .ok (.ireturn, 1) := by decide +kernel
theorem dX9_wrong_23 : decode cX9_wrong 23 = .ok (.aload_n 0, 1) := by decide +kernel
theorem dX9_wrong_24 : decode cX9_wrong 24 = .ok (.getfield 26, 3) := by decide +kernel
theorem dX9_wrong_27 : decode cX9_wrong 27 = .ok (.iload_n 1, 1) := by decide +kernel
theorem dX9_wrong_28 : decode cX9_wrong 28 = .ok (.invokevirtual 163, 3) := by decide +kernel
theorem dX9_wrong_31 : decode cX9_wrong 31 = .ok (.aload_n 0, 1) := by decide +kernel
theorem dX9_wrong_32 : decode cX9_wrong 32 = .ok (.getfield 26, 3) := by decide +kernel
theorem dX9_wrong_35 : decode cX9_wrong 35 = .ok (.getfield 100, 3) := by decide +kernel
theorem dX9_wrong_38 : decode cX9_wrong 38 = .ok (.aload_n 0, 1) := by decide +kernel
theorem dX9_wrong_39 : decode cX9_wrong 39 = .ok (.getfield 26, 3) := by decide +kernel
theorem dX9_wrong_42 : decode cX9_wrong 42 = .ok (.getfield 147, 3) := by decide +kernel
theorem dX9_wrong_45 : decode cX9_wrong 45 = .ok (.iload_n 1, 1) := by decide +kernel
theorem dX9_wrong_46 : decode cX9_wrong 46 = .ok (.invokevirtual 154, 3) := by decide +kernel
theorem dX9_wrong_49 : decode cX9_wrong 49 = .ok (.invokevirtual 239, 3) := by decide +kernel
theorem dX9_wrong_52 : decode cX9_wrong 52 = .ok (.ldc2_w 220, 3) := by decide +kernel
theorem dX9_wrong_55 : decode cX9_wrong 55 = .ok (.lxor, 1) := by decide +kernel
theorem dX9_wrong_56 : decode cX9_wrong 56 = .ok (.land, 1) := by decide +kernel
theorem dX9_wrong_57 : decode cX9_wrong 57 = .ok (.lstore_n 3, 1) := by decide +kernel
theorem dX9_wrong_58 : decode cX9_wrong 58 = .ok (.iload_n 2, 1) := by decide +kernel
theorem dX9_wrong_59 : decode cX9_wrong 59 = .ok (.ifCond .ne 10, 3) := by decide +kernel
theorem dX9_wrong_62 : decode cX9_wrong 62 = .ok (.lload_n 3, 1) := by decide +kernel
theorem dX9_wrong_63 : decode cX9_wrong 63 = .ok (.invokestatic 166, 3) := by decide +kernel
theorem dX9_wrong_66 : decode cX9_wrong 66 = .ok (.goto 7, 3) := by decide +kernel
theorem dX9_wrong_69 : decode cX9_wrong 69 = .ok (.lload_n 3, 1) := by decide +kernel
theorem dX9_wrong_70 : decode cX9_wrong 70 = .ok (.invokestatic 242, 3) := by decide +kernel
theorem dX9_wrong_73 : decode cX9_wrong 73 = .ok (.ireturn, 1) := by decide +kernel
theorem dX9_older_0 : decode cX9_older 0 = .ok (.aload_n 0, 1) := by decide +kernel
theorem dX9_older_1 : decode cX9_older 1 = .ok (.getfield 26, 3) := by decide +kernel
theorem dX9_older_4 : decode cX9_older 4 = .ok (.getfield 147, 3) := by decide +kernel
theorem dX9_older_7 : decode cX9_older 7 = .ok (.invokevirtual 245, 3) := by decide +kernel
theorem dX9_older_10 : decode cX9_older 10 = .ok (.ifCond .ne 8, 3) := by decide +kernel
theorem dX9_older_13 : decode cX9_older 13 = .ok (.bipush (-4), 2) := by decide +kernel
theorem dX9_older_15 : decode cX9_older 15 = .ok (.goto 10, 3) := by decide +kernel
theorem dX9_older_18 : decode cX9_older 18 = .ok (.aload_n 0, 1) := by decide +kernel
theorem dX9_older_19 : decode cX9_older 19 = .ok (.getfield 26, 3) := by decide +kernel
theorem dX9_older_22 : decode cX9_older 22 = .ok (.invokevirtual 246, 3) := by decide +kernel
theorem dX9_older_25 : decode cX9_older 25 = .ok (.ireturn, 1) := by decide +kernel
theorem dX9_seen_0 : decode cX9_seen 0 = .ok (.aload_n 0, 1) := by decide +kernel
theorem dX9_seen_1 : decode cX9_seen 1 = .ok (.getfield 26, 3) := by decide +kernel
theorem dX9_seen_4 : decode cX9_seen 4 = .ok (.getfield 91, 3) := by decide +kernel
theorem dX9_seen_7 : decode cX9_seen 7 = .ok (.iload_n 1, 1) := by decide +kernel
theorem dX9_seen_8 : decode cX9_seen 8 = .ok (.invokevirtual 135, 3) := by decide +kernel
theorem dX9_seen_11 : decode cX9_seen 11 = .ok (.ifCond .ne 5, 3) := by decide +kernel
theorem dX9_seen_14 : decode cX9_seen 14 = .ok (.iconst (-1), 1) := by decide +kernel
theorem dX9_seen_15 : decode cX9_seen 15 = .ok (.ireturn, 1) := by decide +kernel
theorem dX9_seen_16 : decode cX9_seen 16 = .ok (.aload_n 0, 1) := by decide +kernel
theorem dX9_seen_17 : decode cX9_seen 17 = .ok (.getfield 249, 3) := by decide +kernel
theorem dX9_seen_20 : decode cX9_seen 20 = .ok (.bipush 12, 2) := by decide +kernel
theorem dX9_seen_22 : decode cX9_seen 22 = .ok (.if_icmp .lt 6, 3) := by decide +kernel
theorem dX9_seen_25 : decode cX9_seen 25 = .ok (.bipush (-3), 2) := by decide +kernel
theorem dX9_seen_27 : decode cX9_seen 27 = .ok (.ireturn, 1) := by decide +kernel
theorem dX9_seen_28 : decode cX9_seen 28 = .ok (.aload_n 0, 1) := by decide +kernel
theorem dX9_seen_29 : decode cX9_seen 29 = .ok (.dup, 1) := by decide +kernel
theorem dX9_seen_30 : decode cX9_seen 30 = .ok (.getfield 252, 3) := by decide +kernel
theorem dX9_seen_33 : decode cX9_seen 33 = .ok (.iload_n 1, 1) := by decide +kernel
theorem dX9_seen_34 : decode cX9_seen 34 = .ok (.invokestatic 256, 3) := by decide +kernel
theorem dX9_seen_37 : decode cX9_seen 37 = .ok (.lor, 1) := by decide +kernel
theorem dX9_seen_38 : decode cX9_seen 38 = .ok (.putfield 252, 3) := by decide +kernel
theorem dX9_seen_41 : decode cX9_seen 41 = .ok (.aload_n 0, 1) := by decide +kernel
theorem dX9_seen_42 : decode cX9_seen 42 = .ok (.dup, 1) := by decide +kernel
theorem dX9_seen_43 : decode cX9_seen 43 = .ok (.getfield 249, 3) := by decide +kernel
theorem dX9_seen_46 : decode cX9_seen 46 = .ok (.iconst 1, 1) := by decide +kernel
theorem dX9_seen_47 : decode cX9_seen 47 = .ok (.iadd, 1) := by decide +kernel
theorem dX9_seen_48 : decode cX9_seen 48 = .ok (.putfield 249, 3) := by decide +kernel
theorem dX9_seen_51 : decode cX9_seen 51 = .ok (.aload_n 0, 1) := by decide +kernel
theorem dX9_seen_52 : decode cX9_seen 52 = .ok (.getfield 249, 3) := by decide +kernel
theorem dX9_seen_55 : decode cX9_seen 55 = .ok (.ireturn, 1) := by decide +kernel
theorem dX9_forget_0 : decode cX9_forget 0 = .ok (.aload_n 0, 1) := by decide +kernel
theorem dX9_forget_1 : decode cX9_forget 1 = .ok (.getfield 249, 3) := by decide +kernel
theorem dX9_forget_4 : decode cX9_forget 4 = .ok (.istore_n 1, 1) := by decide +kernel
theorem dX9_forget_5 : decode cX9_forget 5 = .ok (.aload_n 0, 1) := by decide +kernel
theorem dX9_forget_6 : decode cX9_forget 6 = .ok (.invokevirtual 259, 3) := by decide +kernel
theorem dX9_forget_9 : decode cX9_forget 9 = .ok (.iload_n 1, 1) := by decide +kernel
theorem dX9_forget_10 : decode cX9_forget 10 = .ok (.ireturn, 1) := by decide +kernel
theorem dX9_found_0 : decode cX9_found 0 = .ok (.iload_n 1, 1) := by decide +kernel
theorem dX9_found_1 : decode cX9_found 1 = .ok (.invokestatic 236, 3) := by decide +kernel
theorem dX9_found_4 : decode cX9_found 4 = .ok (.ifCond .ne 5, 3) := by decide +kernel
theorem dX9_found_7 : decode cX9_found 7 = .ok (.iconst (-1), 1) := by decide +kernel
theorem dX9_found_8 : decode cX9_found 8 = .ok (.ireturn, 1) := by decide +kernel
theorem dX9_found_9 : decode cX9_found 9 = .ok (.iconst 0, 1) := by decide +kernel
theorem dX9_found_10 : decode cX9_found 10 = .ok (.istore_n 2, 1) := by decide +kernel
theorem dX9_found_11 : decode cX9_found 11 = .ok (.bipush (-4), 2) := by decide +kernel
theorem dX9_found_13 : decode cX9_found 13 = .ok (.istore_n 3, 1) := by decide +kernel
theorem dX9_found_14 : decode cX9_found 14 = .ok (.lconst 0, 1) := by decide +kernel
theorem dX9_found_15 : decode cX9_found 15 = .ok (.lstore 4, 2) := by decide +kernel
theorem dX9_found_17 : decode cX9_found 17 = .ok (.aload_n 0, 1) := by decide +kernel
theorem dX9_found_18 : decode cX9_found 18 = .ok (.lload 4, 2) := by decide +kernel
theorem dX9_found_20 : decode cX9_found 20 = .ok (.invokevirtual 262, 3) := by decide +kernel
theorem dX9_found_23 : decode cX9_found 23 = .ok (.istore 6, 2) := by decide +kernel
theorem dX9_found_25 : decode cX9_found 25 = .ok (.iconst 0, 1) := by decide +kernel
theorem dX9_found_26 : decode cX9_found 26 = .ok (.istore 7, 2) := by decide +kernel
theorem dX9_found_28 : decode cX9_found 28 = .ok (.iload 7, 2) := by decide +kernel
theorem dX9_found_30 : decode cX9_found 30 = .ok (.aload_n 0, 1) := by decide +kernel
theorem dX9_found_31 : decode cX9_found 31 = .ok (.getfield 26, 3) := by decide +kernel
theorem dX9_found_34 : decode cX9_found 34 = .ok (.getfield 100, 3) := by decide +kernel
theorem dX9_found_37 : decode cX9_found 37 = .ok (.getfield 120, 3) := by decide +kernel
theorem dX9_found_40 : decode cX9_found 40 = .ok (.if_icmp .gt 70, 3) := by decide +kernel
theorem dX9_found_43 : decode cX9_found 43 = .ok (.lload 4, 2) := by decide +kernel
theorem dX9_found_45 : decode cX9_found 45 = .ok (.aload_n 0, 1) := by decide +kernel
theorem dX9_found_46 : decode cX9_found 46 = .ok (.getfield 26, 3) := by decide +kernel
theorem dX9_found_49 : decode cX9_found 49 = .ok (.iload 7, 2) := by decide +kernel
theorem dX9_found_51 : decode cX9_found 51 = .ok (.invokevirtual 210, 3) := by decide +kernel
theorem dX9_found_54 : decode cX9_found 54 = .ok (.lcmp, 1) := by decide +kernel
theorem dX9_found_55 : decode cX9_found 55 = .ok (.ifCond .eq 22, 3) := by decide +kernel
theorem dX9_found_58 : decode cX9_found 58 = .ok (.aload_n 0, 1) := by decide +kernel
theorem dX9_found_59 : decode cX9_found 59 = .ok (.getfield 26, 3) := by decide +kernel
theorem dX9_found_62 : decode cX9_found 62 = .ok (.iload 7, 2) := by decide +kernel
theorem dX9_found_64 : decode cX9_found 64 = .ok (.invokevirtual 210, 3) := by decide +kernel
theorem dX9_found_67 : decode cX9_found 67 = .ok (.lstore 4, 2) := by decide +kernel
theorem dX9_found_69 : decode cX9_found 69 = .ok (.aload_n 0, 1) := by decide +kernel
theorem dX9_found_70 : decode cX9_found 70 = .ok (.lload 4, 2) := by decide +kernel
theorem dX9_found_72 : decode cX9_found 72 = .ok (.invokevirtual 262, 3) := by decide +kernel
theorem dX9_found_75 : decode cX9_found 75 = .ok (.istore 6, 2) := by decide +kernel
theorem dX9_found_77 : decode cX9_found 77 = .ok (.iload_n 2, 1) := by decide +kernel
theorem dX9_found_78 : decode cX9_found 78 = .ok (.ifCond .ne 21, 3) := by decide +kernel
theorem dX9_found_81 : decode cX9_found 81 = .ok (.iload 6, 2) := by decide +kernel
theorem dX9_found_83 : decode cX9_found 83 = .ok (.ifCond .le 16, 3) := by decide +kernel
theorem dX9_found_86 : decode cX9_found 86 = .ok (.bipush 25, 2) := by decide +kernel
theorem dX9_found_88 : decode cX9_found 88 = .ok (.iload 7, 2) := by decide +kernel
theorem dX9_found_90 : decode cX9_found 90 = .ok (.imul, 1) := by decide +kernel
theorem dX9_found_91 : decode cX9_found 91 = .ok (.aload_n 0, 1) := by decide +kernel
theorem dX9_found_92 : decode cX9_found 92 = .ok (.lload 4, 2) := by decide +kernel
theorem dX9_found_94 : decode cX9_found 94 = .ok (.invokevirtual 265, 3) := by decide +kernel
theorem dX9_found_97 : decode cX9_found 97 = .ok (.iadd, 1) := by decide +kernel
theorem dX9_found_98 : decode cX9_found 98 = .ok (.istore_n 3, 1) := by decide +kernel
theorem dX9_found_99 : decode cX9_found 99 = .ok (.iload_n 2, 1) := by decide +kernel
theorem dX9_found_100 : decode cX9_found 100 = .ok (.iload 6, 2) := by decide +kernel
theorem dX9_found_102 : decode cX9_found 102 = .ok (.iadd, 1) := by decide +kernel
theorem dX9_found_103 : decode cX9_found 103 = .ok (.istore_n 2, 1) := by decide +kernel
theorem dX9_found_104 : decode cX9_found 104 = .ok (.iinc 7 1, 3) := by decide +kernel
theorem dX9_found_107 : decode cX9_found 107 = .ok (.goto (-79), 3) := by decide +kernel
theorem dX9_found_110 : decode cX9_found 110 = .ok (.iload_n 1, 1) := by decide +kernel
theorem dX9_found_111 : decode cX9_found 111 = .ok (.ifCond .ne 7, 3) := by decide +kernel
theorem dX9_found_114 : decode cX9_found 114 = .ok (.iload_n 2, 1) := by decide +kernel
theorem dX9_found_115 : decode cX9_found 115 = .ok (.goto 4, 3) := by decide +kernel
theorem dX9_found_118 : decode cX9_found 118 = .ok (.iload_n 3, 1) := by decide +kernel
theorem dX9_found_119 : decode cX9_found 119 = .ok (.ireturn, 1) := by decide +kernel
theorem dX9_round_0 : decode cX9_round 0 = .ok (.aload_n 0, 1) := by decide +kernel
theorem dX9_round_1 : decode cX9_round 1 = .ok (.getfield 26, 3) := by decide +kernel
theorem dX9_round_4 : decode cX9_round 4 = .ok (.getfield 91, 3) := by decide +kernel
theorem dX9_round_7 : decode cX9_round 7 = .ok (.iload_n 1, 1) := by decide +kernel
theorem dX9_round_8 : decode cX9_round 8 = .ok (.invokevirtual 135, 3) := by decide +kernel
theorem dX9_round_11 : decode cX9_round 11 = .ok (.ifCond .ne 5, 3) := by decide +kernel
theorem dX9_round_14 : decode cX9_round 14 = .ok (.iconst (-1), 1) := by decide +kernel
theorem dX9_round_15 : decode cX9_round 15 = .ok (.ireturn, 1) := by decide +kernel
theorem dX9_round_16 : decode cX9_round 16 = .ok (.aload_n 0, 1) := by decide +kernel
theorem dX9_round_17 : decode cX9_round 17 = .ok (.getfield 59, 3) := by decide +kernel
theorem dX9_round_20 : decode cX9_round 20 = .ok (.iload_n 1, 1) := by decide +kernel
theorem dX9_round_21 : decode cX9_round 21 = .ok (.invokevirtual 268, 3) := by decide +kernel
theorem dX9_round_24 : decode cX9_round 24 = .ok (.iconst 0, 1) := by decide +kernel
theorem dX9_round_25 : decode cX9_round 25 = .ok (.istore_n 2, 1) := by decide +kernel
theorem dX9_round_26 : decode cX9_round 26 = .ok (.iload_n 2, 1) := by decide +kernel
theorem dX9_round_27 : decode cX9_round 27 = .ok (.aload_n 0, 1) := by decide +kernel
theorem dX9_round_28 : decode cX9_round 28 = .ok (.getfield 26, 3) := by decide +kernel
theorem dX9_round_31 : decode cX9_round 31 = .ok (.getfield 100, 3) := by decide +kernel
theorem dX9_round_34 : decode cX9_round 34 = .ok (.invokevirtual 271, 3) := by decide +kernel
theorem dX9_round_37 : decode cX9_round 37 = .ok (.if_icmp .ge 57, 3) := by decide +kernel
theorem dX9_round_40 : decode cX9_round 40 = .ok (.aload_n 0, 1) := by decide +kernel
theorem dX9_round_41 : decode cX9_round 41 = .ok (.getfield 26, 3) := by decide +kernel
theorem dX9_round_44 : decode cX9_round 44 = .ok (.getfield 100, 3) := by decide +kernel
theorem dX9_round_47 : decode cX9_round 47 = .ok (.iload_n 2, 1) := by decide +kernel
theorem dX9_round_48 : decode cX9_round 48 = .ok (.aload_n 0, 1) := by decide +kernel
theorem dX9_round_49 : decode cX9_round 49 = .ok (.getfield 26, 3) := by decide +kernel
theorem dX9_round_52 : decode cX9_round 52 = .ok (.getfield 100, 3) := by decide +kernel
theorem dX9_round_55 : decode cX9_round 55 = .ok (.getfield 120, 3) := by decide +kernel
theorem dX9_round_58 : decode cX9_round 58 = .ok (.invokevirtual 272, 3) := by decide +kernel
theorem dX9_round_61 : decode cX9_round 61 = .ok (.ifCond .eq 27, 3) := by decide +kernel
theorem dX9_round_64 : decode cX9_round 64 = .ok (.aload_n 0, 1) := by decide +kernel
theorem dX9_round_65 : decode cX9_round 65 = .ok (.getfield 59, 3) := by decide +kernel
theorem dX9_round_68 : decode cX9_round 68 = .ok (.aload_n 0, 1) := by decide +kernel
theorem dX9_round_69 : decode cX9_round 69 = .ok (.getfield 26, 3) := by decide +kernel
theorem dX9_round_72 : decode cX9_round 72 = .ok (.getfield 100, 3) := by decide +kernel
theorem dX9_round_75 : decode cX9_round 75 = .ok (.iload_n 2, 1) := by decide +kernel
theorem dX9_round_76 : decode cX9_round 76 = .ok (.invokevirtual 107, 3) := by decide +kernel
theorem dX9_round_79 : decode cX9_round 79 = .ok (.invokevirtual 275, 3) := by decide +kernel
theorem dX9_round_82 : decode cX9_round 82 = .ok (.ifCond .ne 6, 3) := by decide +kernel
theorem dX9_round_85 : decode cX9_round 85 = .ok (.bipush (-4), 2) := by decide +kernel
theorem dX9_round_87 : decode cX9_round 87 = .ok (.ireturn, 1) := by decide +kernel
theorem dX9_round_88 : decode cX9_round 88 = .ok (.iinc 2 1, 3) := by decide +kernel
theorem dX9_round_91 : decode cX9_round 91 = .ok (.goto (-65), 3) := by decide +kernel
theorem dX9_round_94 : decode cX9_round 94 = .ok (.aload_n 0, 1) := by decide +kernel
theorem dX9_round_95 : decode cX9_round 95 = .ok (.getfield 59, 3) := by decide +kernel
theorem dX9_round_98 : decode cX9_round 98 = .ok (.invokevirtual 278, 3) := by decide +kernel
theorem dX9_round_101 : decode cX9_round 101 = .ok (.ifCond .ne 8, 3) := by decide +kernel
theorem dX9_round_104 : decode cX9_round 104 = .ok (.bipush (-4), 2) := by decide +kernel
theorem dX9_round_106 : decode cX9_round 106 = .ok (.goto 17, 3) := by decide +kernel
theorem dX9_round_109 : decode cX9_round 109 = .ok (.aload_n 0, 1) := by decide +kernel
theorem dX9_round_110 : decode cX9_round 110 = .ok (.getfield 59, 3) := by decide +kernel
theorem dX9_round_113 : decode cX9_round 113 = .ok (.aload_n 0, 1) := by decide +kernel
theorem dX9_round_114 : decode cX9_round 114 = .ok (.getfield 26, 3) := by decide +kernel
theorem dX9_round_117 : decode cX9_round 117 = .ok (.getfield 91, 3) := by decide +kernel
theorem dX9_round_120 : decode cX9_round 120 = .ok (.invokevirtual 279, 3) := by decide +kernel
theorem dX9_round_123 : decode cX9_round 123 = .ok (.ireturn, 1) := by decide +kernel
theorem dX9_fire_0 : decode cX9_fire 0 = .ok (.aload_n 0, 1) := by decide +kernel
theorem dX9_fire_1 : decode cX9_fire 1 = .ok (.iload_n 1, 1) := by decide +kernel
theorem dX9_fire_2 : decode cX9_fire 2 = .ok (.iload_n 2, 1) := by decide +kernel
theorem dX9_fire_3 : decode cX9_fire 3 = .ok (.invokevirtual 196, 3) := by decide +kernel
theorem dX9_fire_6 : decode cX9_fire 6 = .ok (.ifCond .eq 10, 3) := by decide +kernel
theorem dX9_fire_9 : decode cX9_fire 9 = .ok (.iload_n 3, 1) := by decide +kernel
theorem dX9_fire_10 : decode cX9_fire 10 = .ok (.invokestatic 236, 3) := by decide +kernel
theorem dX9_fire_13 : decode cX9_fire 13 = .ok (.ifCond .ne 5, 3) := by decide +kernel
theorem dX9_fire_16 : decode cX9_fire 16 = .ok (.iconst (-1), 1) := by decide +kernel
theorem dX9_fire_17 : decode cX9_fire 17 = .ok (.ireturn, 1) := by decide +kernel
theorem dX9_fire_18 : decode cX9_fire 18 = .ok (.aload_n 0, 1) := by decide +kernel
theorem dX9_fire_19 : decode cX9_fire 19 = .ok (.getfield 52, 3) := by decide +kernel
theorem dX9_fire_22 : decode cX9_fire 22 = .ok (.aload_n 0, 1) := by decide +kernel
theorem dX9_fire_23 : decode cX9_fire 23 = .ok (.getfield 26, 3) := by decide +kernel
theorem dX9_fire_26 : decode cX9_fire 26 = .ok (.getfield 91, 3) := by decide +kernel
theorem dX9_fire_29 : decode cX9_fire 29 = .ok (.aload_n 0, 1) := by decide +kernel
theorem dX9_fire_30 : decode cX9_fire 30 = .ok (.invokevirtual 199, 3) := by decide +kernel
theorem dX9_fire_33 : decode cX9_fire 33 = .ok (.iload_n 1, 1) := by decide +kernel
theorem dX9_fire_34 : decode cX9_fire 34 = .ok (.iload_n 2, 1) := by decide +kernel
theorem dX9_fire_35 : decode cX9_fire 35 = .ok (.invokevirtual 203, 3) := by decide +kernel
theorem dX9_fire_38 : decode cX9_fire 38 = .ok (.istore 4, 2) := by decide +kernel
theorem dX9_fire_40 : decode cX9_fire 40 = .ok (.bipush (-4), 2) := by decide +kernel
theorem dX9_fire_42 : decode cX9_fire 42 = .ok (.istore 5, 2) := by decide +kernel
theorem dX9_fire_44 : decode cX9_fire 44 = .ok (.iconst 0, 1) := by decide +kernel
theorem dX9_fire_45 : decode cX9_fire 45 = .ok (.istore 6, 2) := by decide +kernel
theorem dX9_fire_47 : decode cX9_fire 47 = .ok (.iload 6, 2) := by decide +kernel
theorem dX9_fire_49 : decode cX9_fire 49 = .ok (.aload_n 0, 1) := by decide +kernel
theorem dX9_fire_50 : decode cX9_fire 50 = .ok (.getfield 26, 3) := by decide +kernel
theorem dX9_fire_53 : decode cX9_fire 53 = .ok (.getfield 100, 3) := by decide +kernel
theorem dX9_fire_56 : decode cX9_fire 56 = .ok (.invokevirtual 271, 3) := by decide +kernel
theorem dX9_fire_59 : decode cX9_fire 59 = .ok (.if_icmp .ge 81, 3) := by decide +kernel
theorem dX9_fire_62 : decode cX9_fire 62 = .ok (.aload_n 0, 1) := by decide +kernel
theorem dX9_fire_63 : decode cX9_fire 63 = .ok (.getfield 26, 3) := by decide +kernel
theorem dX9_fire_66 : decode cX9_fire 66 = .ok (.getfield 100, 3) := by decide +kernel
theorem dX9_fire_69 : decode cX9_fire 69 = .ok (.iload 6, 2) := by decide +kernel
theorem dX9_fire_71 : decode cX9_fire 71 = .ok (.invokevirtual 176, 3) := by decide +kernel
theorem dX9_fire_74 : decode cX9_fire 74 = .ok (.ifCond .eq 60, 3) := by decide +kernel
theorem dX9_fire_77 : decode cX9_fire 77 = .ok (.aload_n 0, 1) := by decide +kernel
theorem dX9_fire_78 : decode cX9_fire 78 = .ok (.invokevirtual 199, 3) := by decide +kernel
theorem dX9_fire_81 : decode cX9_fire 81 = .ok (.aload_n 0, 1) := by decide +kernel
theorem dX9_fire_82 : decode cX9_fire 82 = .ok (.getfield 26, 3) := by decide +kernel
theorem dX9_fire_85 : decode cX9_fire 85 = .ok (.getfield 100, 3) := by decide +kernel
theorem dX9_fire_88 : decode cX9_fire 88 = .ok (.iload 6, 2) := by decide +kernel
theorem dX9_fire_90 : decode cX9_fire 90 = .ok (.invokevirtual 107, 3) := by decide +kernel
theorem dX9_fire_93 : decode cX9_fire 93 = .ok (.invokestatic 256, 3) := by decide +kernel
theorem dX9_fire_96 : decode cX9_fire 96 = .ok (.lor, 1) := by decide +kernel
theorem dX9_fire_97 : decode cX9_fire 97 = .ok (.lstore 7, 2) := by decide +kernel
theorem dX9_fire_99 : decode cX9_fire 99 = .ok (.aload_n 0, 1) := by decide +kernel
theorem dX9_fire_100 : decode cX9_fire 100 = .ok (.getfield 52, 3) := by decide +kernel
theorem dX9_fire_103 : decode cX9_fire 103 = .ok (.aload_n 0, 1) := by decide +kernel
theorem dX9_fire_104 : decode cX9_fire 104 = .ok (.getfield 26, 3) := by decide +kernel
theorem dX9_fire_107 : decode cX9_fire 107 = .ok (.getfield 91, 3) := by decide +kernel
theorem dX9_fire_110 : decode cX9_fire 110 = .ok (.lload 7, 2) := by decide +kernel
theorem dX9_fire_112 : decode cX9_fire 112 = .ok (.iload_n 1, 1) := by decide +kernel
theorem dX9_fire_113 : decode cX9_fire 113 = .ok (.iload_n 2, 1) := by decide +kernel
theorem dX9_fire_114 : decode cX9_fire 114 = .ok (.invokevirtual 203, 3) := by decide +kernel
theorem dX9_fire_117 : decode cX9_fire 117 = .ok (.istore 9, 2) := by decide +kernel
theorem dX9_fire_119 : decode cX9_fire 119 = .ok (.iload 9, 2) := by decide +kernel
theorem dX9_fire_121 : decode cX9_fire 121 = .ok (.iload 4, 2) := by decide +kernel
theorem dX9_fire_123 : decode cX9_fire 123 = .ok (.if_icmp .ge 11, 3) := by decide +kernel
theorem dX9_fire_126 : decode cX9_fire 126 = .ok (.iload 9, 2) := by decide +kernel
theorem dX9_fire_128 : decode cX9_fire 128 = .ok (.istore 4, 2) := by decide +kernel
theorem dX9_fire_130 : decode cX9_fire 130 = .ok (.iload 6, 2) := by decide +kernel
theorem dX9_fire_132 : decode cX9_fire 132 = .ok (.istore 5, 2) := by decide +kernel
theorem dX9_fire_134 : decode cX9_fire 134 = .ok (.iinc 6 1, 3) := by decide +kernel
theorem dX9_fire_137 : decode cX9_fire 137 = .ok (.goto (-90), 3) := by decide +kernel
theorem dX9_fire_140 : decode cX9_fire 140 = .ok (.iload_n 3, 1) := by decide +kernel
theorem dX9_fire_141 : decode cX9_fire 141 = .ok (.ifCond .eq 10, 3) := by decide +kernel
theorem dX9_fire_144 : decode cX9_fire 144 = .ok (.iload 5, 2) := by decide +kernel
theorem dX9_fire_146 : decode cX9_fire 146 = .ok (.bipush (-4), 2) := by decide +kernel
theorem dX9_fire_148 : decode cX9_fire 148 = .ok (.if_icmp .ne 8, 3) := by decide +kernel
theorem dX9_fire_151 : decode cX9_fire 151 = .ok (.iload 5, 2) := by decide +kernel
theorem dX9_fire_153 : decode cX9_fire 153 = .ok (.goto 5, 3) := by decide +kernel
theorem dX9_fire_156 : decode cX9_fire 156 = .ok (.iload 4, 2) := by decide +kernel
theorem dX9_fire_158 : decode cX9_fire 158 = .ok (.ireturn, 1) := by decide +kernel
theorem dX9_land_0 : decode cX9_land 0 = .ok (.iload_n 1, 1) := by decide +kernel
theorem dX9_land_1 : decode cX9_land 1 = .ok (.ifCond .lt 28, 3) := by decide +kernel
theorem dX9_land_4 : decode cX9_land 4 = .ok (.iload_n 1, 1) := by decide +kernel
theorem dX9_land_5 : decode cX9_land 5 = .ok (.sipush 9999, 3) := by decide +kernel
theorem dX9_land_8 : decode cX9_land 8 = .ok (.if_icmp .gt 21, 3) := by decide +kernel
theorem dX9_land_11 : decode cX9_land 11 = .ok (.iload_n 2, 1) := by decide +kernel
theorem dX9_land_12 : decode cX9_land 12 = .ok (.iconst 1, 1) := by decide +kernel
theorem dX9_land_13 : decode cX9_land 13 = .ok (.if_icmp .lt 16, 3) := by decide +kernel
theorem dX9_land_16 : decode cX9_land 16 = .ok (.iload_n 2, 1) := by decide +kernel
theorem dX9_land_17 : decode cX9_land 17 = .ok (.bipush 60, 2) := by decide +kernel
theorem dX9_land_19 : decode cX9_land 19 = .ok (.if_icmp .gt 10, 3) := by decide +kernel
theorem dX9_land_22 : decode cX9_land 22 = .ok (.iload_n 3, 1) := by decide +kernel
theorem dX9_land_23 : decode cX9_land 23 = .ok (.invokestatic 236, 3) := by decide +kernel
theorem dX9_land_26 : decode cX9_land 26 = .ok (.ifCond .ne 5, 3) := by decide +kernel
theorem dX9_land_29 : decode cX9_land 29 = .ok (.iconst (-1), 1) := by decide +kernel
theorem dX9_land_30 : decode cX9_land 30 = .ok (.ireturn, 1) := by decide +kernel
theorem dX9_land_31 : decode cX9_land 31 = .ok (.aload_n 0, 1) := by decide +kernel
theorem dX9_land_32 : decode cX9_land 32 = .ok (.getfield 45, 3) := by decide +kernel
theorem dX9_land_35 : decode cX9_land 35 = .ok (.aload_n 0, 1) := by decide +kernel
theorem dX9_land_36 : decode cX9_land 36 = .ok (.getfield 26, 3) := by decide +kernel
theorem dX9_land_39 : decode cX9_land 39 = .ok (.getfield 100, 3) := by decide +kernel
theorem dX9_land_42 : decode cX9_land 42 = .ok (.invokevirtual 283, 3) := by decide +kernel
theorem dX9_land_45 : decode cX9_land 45 = .ok (.iconst 0, 1) := by decide +kernel
theorem dX9_land_46 : decode cX9_land 46 = .ok (.istore 4, 2) := by decide +kernel
theorem dX9_land_48 : decode cX9_land 48 = .ok (.iload 4, 2) := by decide +kernel
theorem dX9_land_50 : decode cX9_land 50 = .ok (.iload_n 2, 1) := by decide +kernel
theorem dX9_land_51 : decode cX9_land 51 = .ok (.if_icmp .ge 35, 3) := by decide +kernel
theorem dX9_land_54 : decode cX9_land 54 = .ok (.aload_n 0, 1) := by decide +kernel
theorem dX9_land_55 : decode cX9_land 55 = .ok (.getfield 45, 3) := by decide +kernel
theorem dX9_land_58 : decode cX9_land 58 = .ok (.iload_n 1, 1) := by decide +kernel
theorem dX9_land_59 : decode cX9_land 59 = .ok (.iload 4, 2) := by decide +kernel
theorem dX9_land_61 : decode cX9_land 61 = .ok (.invokestatic 286, 3) := by decide +kernel
theorem dX9_land_64 : decode cX9_land 64 = .ok (.invokevirtual 290, 3) := by decide +kernel
theorem dX9_land_67 : decode cX9_land 67 = .ok (.aload_n 0, 1) := by decide +kernel
theorem dX9_land_68 : decode cX9_land 68 = .ok (.getfield 45, 3) := by decide +kernel
theorem dX9_land_71 : decode cX9_land 71 = .ok (.dup, 1) := by decide +kernel
theorem dX9_land_72 : decode cX9_land 72 = .ok (.getfield 120, 3) := by decide +kernel
theorem dX9_land_75 : decode cX9_land 75 = .ok (.iconst 1, 1) := by decide +kernel
theorem dX9_land_76 : decode cX9_land 76 = .ok (.iadd, 1) := by decide +kernel
theorem dX9_land_77 : decode cX9_land 77 = .ok (.putfield 120, 3) := by decide +kernel
theorem dX9_land_80 : decode cX9_land 80 = .ok (.iinc 4 1, 3) := by decide +kernel
theorem dX9_land_83 : decode cX9_land 83 = .ok (.goto (-35), 3) := by decide +kernel
theorem dX9_land_86 : decode cX9_land 86 = .ok (.iload_n 3, 1) := by decide +kernel
theorem dX9_land_87 : decode cX9_land 87 = .ok (.ifCond .ne 13, 3) := by decide +kernel
theorem dX9_land_90 : decode cX9_land 90 = .ok (.aload_n 0, 1) := by decide +kernel
theorem dX9_land_91 : decode cX9_land 91 = .ok (.getfield 45, 3) := by decide +kernel
theorem dX9_land_94 : decode cX9_land 94 = .ok (.invokevirtual 293, 3) := by decide +kernel
theorem dX9_land_97 : decode cX9_land 97 = .ok (.goto 10, 3) := by decide +kernel
theorem dX9_land_100 : decode cX9_land 100 = .ok (.aload_n 0, 1) := by decide +kernel
theorem dX9_land_101 : decode cX9_land 101 = .ok (.getfield 45, 3) := by decide +kernel
theorem dX9_land_104 : decode cX9_land 104 = .ok (.invokevirtual 296, 3) := by decide +kernel
theorem dX9_land_107 : decode cX9_land 107 = .ok (.ireturn, 1) := by decide +kernel
theorem dX9_keep_0 : decode cX9_keep 0 = .ok (.aload_n 0, 1) := by decide +kernel
theorem dX9_keep_1 : decode cX9_keep 1 = .ok (.getfield 39, 3) := by decide +kernel
theorem dX9_keep_4 : decode cX9_keep 4 = .ok (.invokevirtual 299, 3) := by decide +kernel
theorem dX9_keep_7 : decode cX9_keep 7 = .ok (.ifCond .eq 6, 3) := by decide +kernel
theorem dX9_keep_10 : decode cX9_keep 10 = .ok (.bipush (-3), 2) := by decide +kernel
theorem dX9_keep_12 : decode cX9_keep 12 = .ok (.ireturn, 1) := by decide +kernel
theorem dX9_keep_13 : decode cX9_keep 13 = .ok (.aload_n 0, 1) := by decide +kernel
theorem dX9_keep_14 : decode cX9_keep 14 = .ok (.getfield 39, 3) := by decide +kernel
theorem dX9_keep_17 : decode cX9_keep 17 = .ok (.aload_n 0, 1) := by decide +kernel
theorem dX9_keep_18 : decode cX9_keep 18 = .ok (.getfield 26, 3) := by decide +kernel
theorem dX9_keep_21 : decode cX9_keep 21 = .ok (.getfield 100, 3) := by decide +kernel
theorem dX9_keep_24 : decode cX9_keep 24 = .ok (.invokevirtual 172, 3) := by decide +kernel
theorem dX9_keep_27 : decode cX9_keep 27 = .ok (.aload_n 0, 1) := by decide +kernel
theorem dX9_keep_28 : decode cX9_keep 28 = .ok (.getfield 39, 3) := by decide +kernel
theorem dX9_keep_31 : decode cX9_keep 31 = .ok (.invokevirtual 193, 3) := by decide +kernel
theorem dX9_keep_34 : decode cX9_keep 34 = .ok (.ireturn, 1) := by decide +kernel
theorem dX9_back_0 : decode cX9_back 0 = .ok (.aload_n 0, 1) := by decide +kernel
theorem dX9_back_1 : decode cX9_back 1 = .ok (.getfield 39, 3) := by decide +kernel
theorem dX9_back_4 : decode cX9_back 4 = .ok (.aload_n 0, 1) := by decide +kernel
theorem dX9_back_5 : decode cX9_back 5 = .ok (.getfield 26, 3) := by decide +kernel
theorem dX9_back_8 : decode cX9_back 8 = .ok (.getfield 100, 3) := by decide +kernel
theorem dX9_back_11 : decode cX9_back 11 = .ok (.invokevirtual 189, 3) := by decide +kernel
theorem dX9_back_14 : decode cX9_back 14 = .ok (.ifCond .ne 6, 3) := by decide +kernel
theorem dX9_back_17 : decode cX9_back 17 = .ok (.bipush (-2), 2) := by decide +kernel
theorem dX9_back_19 : decode cX9_back 19 = .ok (.ireturn, 1) := by decide +kernel
theorem dX9_back_20 : decode cX9_back 20 = .ok (.aload_n 0, 1) := by decide +kernel
theorem dX9_back_21 : decode cX9_back 21 = .ok (.getfield 35, 3) := by decide +kernel
theorem dX9_back_24 : decode cX9_back 24 = .ok (.invokevirtual 300, 3) := by decide +kernel
theorem dX9_back_27 : decode cX9_back 27 = .ok (.aload_n 0, 1) := by decide +kernel
theorem dX9_back_28 : decode cX9_back 28 = .ok (.getfield 39, 3) := by decide +kernel
theorem dX9_back_31 : decode cX9_back 31 = .ok (.invokevirtual 193, 3) := by decide +kernel
theorem dX9_back_34 : decode cX9_back 34 = .ok (.ireturn, 1) := by decide +kernel
theorem dX9_count_0 : decode cX9_count 0 = .ok (.iload_n 1, 1) := by decide +kernel
theorem dX9_count_1 : decode cX9_count 1 = .ok (.tableswitch 150 0 9 #[55, 66, 77, 88, 99, 110, 121, 126, 134, 142], 55) := by decide +kernel
theorem dX9_count_56 : decode cX9_count 56 = .ok (.aload_n 0, 1) := by decide +kernel
theorem dX9_count_57 : decode cX9_count 57 = .ok (.getfield 26, 3) := by decide +kernel
theorem dX9_count_60 : decode cX9_count 60 = .ok (.getfield 91, 3) := by decide +kernel
theorem dX9_count_63 : decode cX9_count 63 = .ok (.invokevirtual 95, 3) := by decide +kernel
theorem dX9_count_66 : decode cX9_count 66 = .ok (.ireturn, 1) := by decide +kernel
theorem dX9_count_67 : decode cX9_count 67 = .ok (.aload_n 0, 1) := by decide +kernel
theorem dX9_count_68 : decode cX9_count 68 = .ok (.getfield 26, 3) := by decide +kernel
theorem dX9_count_71 : decode cX9_count 71 = .ok (.getfield 100, 3) := by decide +kernel
theorem dX9_count_74 : decode cX9_count 74 = .ok (.invokevirtual 271, 3) := by decide +kernel
theorem dX9_count_77 : decode cX9_count 77 = .ok (.ireturn, 1) := by decide +kernel
theorem dX9_count_78 : decode cX9_count 78 = .ok (.aload_n 0, 1) := by decide +kernel
theorem dX9_count_79 : decode cX9_count 79 = .ok (.getfield 26, 3) := by decide +kernel
theorem dX9_count_82 : decode cX9_count 82 = .ok (.getfield 147, 3) := by decide +kernel
theorem dX9_count_85 : decode cX9_count 85 = .ok (.invokevirtual 245, 3) := by decide +kernel
theorem dX9_count_88 : decode cX9_count 88 = .ok (.ireturn, 1) := by decide +kernel
theorem dX9_count_89 : decode cX9_count 89 = .ok (.aload_n 0, 1) := by decide +kernel
theorem dX9_count_90 : decode cX9_count 90 = .ok (.getfield 26, 3) := by decide +kernel
theorem dX9_count_93 : decode cX9_count 93 = .ok (.getfield 100, 3) := by decide +kernel
theorem dX9_count_96 : decode cX9_count 96 = .ok (.getfield 120, 3) := by decide +kernel
theorem dX9_count_99 : decode cX9_count 99 = .ok (.ireturn, 1) := by decide +kernel
theorem dX9_count_100 : decode cX9_count 100 = .ok (.aload_n 0, 1) := by decide +kernel
theorem dX9_count_101 : decode cX9_count 101 = .ok (.getfield 26, 3) := by decide +kernel
theorem dX9_count_104 : decode cX9_count 104 = .ok (.getfield 100, 3) := by decide +kernel
theorem dX9_count_107 : decode cX9_count 107 = .ok (.invokevirtual 293, 3) := by decide +kernel
theorem dX9_count_110 : decode cX9_count 110 = .ok (.ireturn, 1) := by decide +kernel
theorem dX9_count_111 : decode cX9_count 111 = .ok (.aload_n 0, 1) := by decide +kernel
theorem dX9_count_112 : decode cX9_count 112 = .ok (.getfield 26, 3) := by decide +kernel
theorem dX9_count_115 : decode cX9_count 115 = .ok (.getfield 100, 3) := by decide +kernel
theorem dX9_count_118 : decode cX9_count 118 = .ok (.invokevirtual 296, 3) := by decide +kernel
theorem dX9_count_121 : decode cX9_count 121 = .ok (.ireturn, 1) := by decide +kernel
theorem dX9_count_122 : decode cX9_count 122 = .ok (.aload_n 0, 1) := by decide +kernel
theorem dX9_count_123 : decode cX9_count 123 = .ok (.getfield 249, 3) := by decide +kernel
theorem dX9_count_126 : decode cX9_count 126 = .ok (.ireturn, 1) := by decide +kernel
theorem dX9_count_127 : decode cX9_count 127 = .ok (.aload_n 0, 1) := by decide +kernel
theorem dX9_count_128 : decode cX9_count 128 = .ok (.getfield 35, 3) := by decide +kernel
theorem dX9_count_131 : decode cX9_count 131 = .ok (.invokevirtual 193, 3) := by decide +kernel
theorem dX9_count_134 : decode cX9_count 134 = .ok (.ireturn, 1) := by decide +kernel
theorem dX9_count_135 : decode cX9_count 135 = .ok (.aload_n 0, 1) := by decide +kernel
theorem dX9_count_136 : decode cX9_count 136 = .ok (.getfield 39, 3) := by decide +kernel
theorem dX9_count_139 : decode cX9_count 139 = .ok (.invokevirtual 193, 3) := by decide +kernel
theorem dX9_count_142 : decode cX9_count 142 = .ok (.ireturn, 1) := by decide +kernel
theorem dX9_count_143 : decode cX9_count 143 = .ok (.aload_n 0, 1) := by decide +kernel
theorem dX9_count_144 : decode cX9_count 144 = .ok (.getfield 12, 3) := by decide +kernel
theorem dX9_count_147 : decode cX9_count 147 = .ok (.invokevirtual 86, 3) := by decide +kernel
theorem dX9_count_150 : decode cX9_count 150 = .ok (.ireturn, 1) := by decide +kernel
theorem dX9_count_151 : decode cX9_count 151 = .ok (.iconst (-1), 1) := by decide +kernel
theorem dX9_count_152 : decode cX9_count 152 = .ok (.ireturn, 1) := by decide +kernel
theorem dX9_layText_0 : decode cX9_layText 0 = .ok (.aload_n 0, 1) := by decide +kernel
theorem dX9_layText_1 : decode cX9_layText 1 = .ok (.getfield 19, 3) := by decide +kernel
theorem dX9_layText_4 : decode cX9_layText 4 = .ok (.aload_n 0, 1) := by decide +kernel
theorem dX9_layText_5 : decode cX9_layText 5 = .ok (.getfield 12, 3) := by decide +kernel
theorem dX9_layText_8 : decode cX9_layText 8 = .ok (.invokevirtual 87, 3) := by decide +kernel
theorem dX9_layText_11 : decode cX9_layText 11 = .ok (.bipush (-4), 2) := by decide +kernel
theorem dX9_layText_13 : decode cX9_layText 13 = .ok (.if_icmp .ne 19, 3) := by decide +kernel
theorem dX9_layText_16 : decode cX9_layText 16 = .ok (.aload_n 0, 1) := by decide +kernel
theorem dX9_layText_17 : decode cX9_layText 17 = .ok (.getfield 19, 3) := by decide +kernel
theorem dX9_layText_20 : decode cX9_layText 20 = .ok (.getfield 301, 3) := by decide +kernel
theorem dX9_layText_23 : decode cX9_layText 23 = .ok (.getfield 100, 3) := by decide +kernel
theorem dX9_layText_26 : decode cX9_layText 26 = .ok (.invokevirtual 271, 3) := by decide +kernel
theorem dX9_layText_29 : decode cX9_layText 29 = .ok (.ifCond .ne 5, 3) := by decide +kernel
theorem dX9_layText_32 : decode cX9_layText 32 = .ok (.iconst 0, 1) := by decide +kernel
theorem dX9_layText_33 : decode cX9_layText 33 = .ok (.ireturn, 1) := by decide +kernel
theorem dX9_layText_34 : decode cX9_layText 34 = .ok (.aload_n 0, 1) := by decide +kernel
theorem dX9_layText_35 : decode cX9_layText 35 = .ok (.getfield 26, 3) := by decide +kernel
theorem dX9_layText_38 : decode cX9_layText 38 = .ok (.aload_n 0, 1) := by decide +kernel
theorem dX9_layText_39 : decode cX9_layText 39 = .ok (.getfield 19, 3) := by decide +kernel
theorem dX9_layText_42 : decode cX9_layText 42 = .ok (.getfield 301, 3) := by decide +kernel
theorem dX9_layText_45 : decode cX9_layText 45 = .ok (.invokevirtual 304, 3) := by decide +kernel
theorem dX9_layText_48 : decode cX9_layText 48 = .ok (.aload_n 0, 1) := by decide +kernel
theorem dX9_layText_49 : decode cX9_layText 49 = .ok (.invokevirtual 259, 3) := by decide +kernel
theorem dX9_layText_52 : decode cX9_layText 52 = .ok (.aload_n 0, 1) := by decide +kernel
theorem dX9_layText_53 : decode cX9_layText 53 = .ok (.getfield 35, 3) := by decide +kernel
theorem dX9_layText_56 : decode cX9_layText 56 = .ok (.invokevirtual 300, 3) := by decide +kernel
theorem dX9_layText_59 : decode cX9_layText 59 = .ok (.aload_n 0, 1) := by decide +kernel
theorem dX9_layText_60 : decode cX9_layText 60 = .ok (.getfield 39, 3) := by decide +kernel
theorem dX9_layText_63 : decode cX9_layText 63 = .ok (.invokevirtual 300, 3) := by decide +kernel
theorem dX9_layText_66 : decode cX9_layText 66 = .ok (.iconst 1, 1) := by decide +kernel
theorem dX9_layText_67 : decode cX9_layText 67 = .ok (.ireturn, 1) := by decide +kernel
theorem dX9_forgetAll_0 : decode cX9_forgetAll 0 = .ok (.aload_n 0, 1) := by decide +kernel
theorem dX9_forgetAll_1 : decode cX9_forgetAll 1 = .ok (.lconst 0, 1) := by decide +kernel
theorem dX9_forgetAll_2 : decode cX9_forgetAll 2 = .ok (.putfield 252, 3) := by decide +kernel
theorem dX9_forgetAll_5 : decode cX9_forgetAll 5 = .ok (.aload_n 0, 1) := by decide +kernel
theorem dX9_forgetAll_6 : decode cX9_forgetAll 6 = .ok (.iconst 0, 1) := by decide +kernel
theorem dX9_forgetAll_7 : decode cX9_forgetAll 7 = .ok (.putfield 249, 3) := by decide +kernel
theorem dX9_forgetAll_10 : decode cX9_forgetAll 10 = .ok (.return_, 1) := by decide +kernel
theorem dX9_areCells_0 : decode cX9_areCells 0 = .ok (.aload_n 0, 1) := by decide +kernel
theorem dX9_areCells_1 : decode cX9_areCells 1 = .ok (.getfield 26, 3) := by decide +kernel
theorem dX9_areCells_4 : decode cX9_areCells 4 = .ok (.getfield 91, 3) := by decide +kernel
theorem dX9_areCells_7 : decode cX9_areCells 7 = .ok (.iload_n 1, 1) := by decide +kernel
theorem dX9_areCells_8 : decode cX9_areCells 8 = .ok (.invokevirtual 135, 3) := by decide +kernel
theorem dX9_areCells_11 : decode cX9_areCells 11 = .ok (.ifCond .eq 21, 3) := by decide +kernel
theorem dX9_areCells_14 : decode cX9_areCells 14 = .ok (.aload_n 0, 1) := by decide +kernel
theorem dX9_areCells_15 : decode cX9_areCells 15 = .ok (.getfield 26, 3) := by decide +kernel
theorem dX9_areCells_18 : decode cX9_areCells 18 = .ok (.getfield 91, 3) := by decide +kernel
theorem dX9_areCells_21 : decode cX9_areCells 21 = .ok (.iload_n 2, 1) := by decide +kernel
theorem dX9_areCells_22 : decode cX9_areCells 22 = .ok (.invokevirtual 135, 3) := by decide +kernel
theorem dX9_areCells_25 : decode cX9_areCells 25 = .ok (.ifCond .eq 7, 3) := by decide +kernel
theorem dX9_areCells_28 : decode cX9_areCells 28 = .ok (.iconst 1, 1) := by decide +kernel
theorem dX9_areCells_29 : decode cX9_areCells 29 = .ok (.goto 4, 3) := by decide +kernel
theorem dX9_areCells_32 : decode cX9_areCells 32 = .ok (.iconst 0, 1) := by decide +kernel
theorem dX9_areCells_33 : decode cX9_areCells 33 = .ok (.ireturn, 1) := by decide +kernel
theorem dX9_freeCells_0 : decode cX9_freeCells 0 = .ok (.aload_n 0, 1) := by decide +kernel
theorem dX9_freeCells_1 : decode cX9_freeCells 1 = .ok (.getfield 26, 3) := by decide +kernel
theorem dX9_freeCells_4 : decode cX9_freeCells 4 = .ok (.getfield 100, 3) := by decide +kernel
theorem dX9_freeCells_7 : decode cX9_freeCells 7 = .ok (.aload_n 0, 1) := by decide +kernel
theorem dX9_freeCells_8 : decode cX9_freeCells 8 = .ok (.getfield 26, 3) := by decide +kernel
theorem dX9_freeCells_11 : decode cX9_freeCells 11 = .ok (.getfield 100, 3) := by decide +kernel
theorem dX9_freeCells_14 : decode cX9_freeCells 14 = .ok (.getfield 120, 3) := by decide +kernel
theorem dX9_freeCells_17 : decode cX9_freeCells 17 = .ok (.invokevirtual 139, 3) := by decide +kernel
theorem dX9_freeCells_20 : decode cX9_freeCells 20 = .ok (.ldc2_w 220, 3) := by decide +kernel
theorem dX9_freeCells_23 : decode cX9_freeCells 23 = .ok (.lxor, 1) := by decide +kernel
theorem dX9_freeCells_24 : decode cX9_freeCells 24 = .ok (.lreturn, 1) := by decide +kernel
theorem dX9_stepsOfWanderer_0 : decode cX9_stepsOfWanderer 0 = .ok (.lconst 0, 1) := by decide +kernel
theorem dX9_stepsOfWanderer_1 : decode cX9_stepsOfWanderer 1 = .ok (.lstore 7, 2) := by decide +kernel
theorem dX9_stepsOfWanderer_3 : decode cX9_stepsOfWanderer 3 = .ok (.iload 5, 2) := by decide +kernel
theorem dX9_stepsOfWanderer_5 : decode cX9_stepsOfWanderer 5 = .ok (.istore 9, 2) := by decide +kernel
theorem dX9_stepsOfWanderer_7 : decode cX9_stepsOfWanderer 7 = .ok (.iconst 0, 1) := by decide +kernel
theorem dX9_stepsOfWanderer_8 : decode cX9_stepsOfWanderer 8 = .ok (.istore 10, 2) := by decide +kernel
theorem dX9_stepsOfWanderer_10 : decode cX9_stepsOfWanderer 10 = .ok (.iload 10, 2) := by decide +kernel
theorem dX9_stepsOfWanderer_12 : decode cX9_stepsOfWanderer 12 = .ok (.sipush 200, 3) := by decide +kernel
theorem dX9_stepsOfWanderer_15 : decode cX9_stepsOfWanderer 15 = .ok (.if_icmp .gt 121, 3) := by decide +kernel
theorem dX9_stepsOfWanderer_18 : decode cX9_stepsOfWanderer 18 = .ok (.iload 9, 2) := by decide +kernel
theorem dX9_stepsOfWanderer_20 : decode cX9_stepsOfWanderer 20 = .ok (.iload 6, 2) := by decide +kernel
theorem dX9_stepsOfWanderer_22 : decode cX9_stepsOfWanderer 22 = .ok (.if_icmp .ne 6, 3) := by decide +kernel
theorem dX9_stepsOfWanderer_25 : decode cX9_stepsOfWanderer 25 = .ok (.iload 10, 2) := by decide +kernel
theorem dX9_stepsOfWanderer_27 : decode cX9_stepsOfWanderer 27 = .ok (.ireturn, 1) := by decide +kernel
theorem dX9_stepsOfWanderer_28 : decode cX9_stepsOfWanderer 28 = .ok (.lload 7, 2) := by decide +kernel
theorem dX9_stepsOfWanderer_30 : decode cX9_stepsOfWanderer 30 = .ok (.lload_n 3, 1) := by decide +kernel
theorem dX9_stepsOfWanderer_31 : decode cX9_stepsOfWanderer 31 = .ok (.aload_n 0, 1) := by decide +kernel
theorem dX9_stepsOfWanderer_32 : decode cX9_stepsOfWanderer 32 = .ok (.getfield 26, 3) := by decide +kernel
theorem dX9_stepsOfWanderer_35 : decode cX9_stepsOfWanderer 35 = .ok (.getfield 91, 3) := by decide +kernel
theorem dX9_stepsOfWanderer_38 : decode cX9_stepsOfWanderer 38 = .ok (.iload 9, 2) := by decide +kernel
theorem dX9_stepsOfWanderer_40 : decode cX9_stepsOfWanderer 40 = .ok (.invokevirtual 307, 3) := by decide +kernel
theorem dX9_stepsOfWanderer_43 : decode cX9_stepsOfWanderer 43 = .ok (.land, 1) := by decide +kernel
theorem dX9_stepsOfWanderer_44 : decode cX9_stepsOfWanderer 44 = .ok (.lor, 1) := by decide +kernel
theorem dX9_stepsOfWanderer_45 : decode cX9_stepsOfWanderer 45 = .ok (.lstore 11, 2) := by decide +kernel
theorem dX9_stepsOfWanderer_47 : decode cX9_stepsOfWanderer 47 = .ok (.iload 10, 2) := by decide +kernel
theorem dX9_stepsOfWanderer_49 : decode cX9_stepsOfWanderer 49 = .ok (.ifCond .eq 11, 3) := by decide +kernel
theorem dX9_stepsOfWanderer_52 : decode cX9_stepsOfWanderer 52 = .ok (.lload 11, 2) := by decide +kernel
theorem dX9_stepsOfWanderer_54 : decode cX9_stepsOfWanderer 54 = .ok (.lload 7, 2) := by decide +kernel
theorem dX9_stepsOfWanderer_56 : decode cX9_stepsOfWanderer 56 = .ok (.lcmp, 1) := by decide +kernel
theorem dX9_stepsOfWanderer_57 : decode cX9_stepsOfWanderer 57 = .ok (.ifCond .eq 46, 3) := by decide +kernel
theorem dX9_stepsOfWanderer_60 : decode cX9_stepsOfWanderer 60 = .ok (.lload 11, 2) := by decide +kernel
theorem dX9_stepsOfWanderer_62 : decode cX9_stepsOfWanderer 62 = .ok (.lstore 7, 2) := by decide +kernel
theorem dX9_stepsOfWanderer_64 : decode cX9_stepsOfWanderer 64 = .ok (.aload_n 0, 1) := by decide +kernel
theorem dX9_stepsOfWanderer_65 : decode cX9_stepsOfWanderer 65 = .ok (.getfield 52, 3) := by decide +kernel
theorem dX9_stepsOfWanderer_68 : decode cX9_stepsOfWanderer 68 = .ok (.lload_n 1, 1) := by decide +kernel
theorem dX9_stepsOfWanderer_69 : decode cX9_stepsOfWanderer 69 = .ok (.lload 7, 2) := by decide +kernel
theorem dX9_stepsOfWanderer_71 : decode cX9_stepsOfWanderer 71 = .ok (.ldc2_w 220, 3) := by decide +kernel
theorem dX9_stepsOfWanderer_74 : decode cX9_stepsOfWanderer 74 = .ok (.lxor, 1) := by decide +kernel
theorem dX9_stepsOfWanderer_75 : decode cX9_stepsOfWanderer 75 = .ok (.land, 1) := by decide +kernel
theorem dX9_stepsOfWanderer_76 : decode cX9_stepsOfWanderer 76 = .ok (.iconst 1, 1) := by decide +kernel
theorem dX9_stepsOfWanderer_77 : decode cX9_stepsOfWanderer 77 = .ok (.lload 7, 2) := by decide +kernel
theorem dX9_stepsOfWanderer_79 : decode cX9_stepsOfWanderer 79 = .ok (.ldc2_w 220, 3) := by decide +kernel
theorem dX9_stepsOfWanderer_82 : decode cX9_stepsOfWanderer 82 = .ok (.lxor, 1) := by decide +kernel
theorem dX9_stepsOfWanderer_83 : decode cX9_stepsOfWanderer 83 = .ok (.iconst 2, 1) := by decide +kernel
theorem dX9_stepsOfWanderer_84 : decode cX9_stepsOfWanderer 84 = .ok (.invokevirtual 216, 3) := by decide +kernel
theorem dX9_stepsOfWanderer_87 : decode cX9_stepsOfWanderer 87 = .ok (.aload_n 0, 1) := by decide +kernel
theorem dX9_stepsOfWanderer_88 : decode cX9_stepsOfWanderer 88 = .ok (.getfield 52, 3) := by decide +kernel
theorem dX9_stepsOfWanderer_91 : decode cX9_stepsOfWanderer 91 = .ok (.aload_n 0, 1) := by decide +kernel
theorem dX9_stepsOfWanderer_92 : decode cX9_stepsOfWanderer 92 = .ok (.getfield 26, 3) := by decide +kernel
theorem dX9_stepsOfWanderer_95 : decode cX9_stepsOfWanderer 95 = .ok (.getfield 91, 3) := by decide +kernel
theorem dX9_stepsOfWanderer_98 : decode cX9_stepsOfWanderer 98 = .ok (.iload 6, 2) := by decide +kernel
theorem dX9_stepsOfWanderer_100 : decode cX9_stepsOfWanderer 100 = .ok (.invokevirtual 222, 3) := by decide +kernel
theorem dX9_stepsOfWanderer_103 : decode cX9_stepsOfWanderer 103 = .ok (.aload_n 0, 1) := by decide +kernel
theorem dX9_stepsOfWanderer_104 : decode cX9_stepsOfWanderer 104 = .ok (.getfield 52, 3) := by decide +kernel
theorem dX9_stepsOfWanderer_107 : decode cX9_stepsOfWanderer 107 = .ok (.aload_n 0, 1) := by decide +kernel
theorem dX9_stepsOfWanderer_108 : decode cX9_stepsOfWanderer 108 = .ok (.getfield 26, 3) := by decide +kernel
theorem dX9_stepsOfWanderer_111 : decode cX9_stepsOfWanderer 111 = .ok (.getfield 91, 3) := by decide +kernel
theorem dX9_stepsOfWanderer_114 : decode cX9_stepsOfWanderer 114 = .ok (.iload 9, 2) := by decide +kernel
theorem dX9_stepsOfWanderer_116 : decode cX9_stepsOfWanderer 116 = .ok (.invokevirtual 310, 3) := by decide +kernel
theorem dX9_stepsOfWanderer_119 : decode cX9_stepsOfWanderer 119 = .ok (.istore 9, 2) := by decide +kernel
theorem dX9_stepsOfWanderer_121 : decode cX9_stepsOfWanderer 121 = .ok (.iload 9, 2) := by decide +kernel
theorem dX9_stepsOfWanderer_123 : decode cX9_stepsOfWanderer 123 = .ok (.iconst (-1), 1) := by decide +kernel
theorem dX9_stepsOfWanderer_124 : decode cX9_stepsOfWanderer 124 = .ok (.if_icmp .ne 6, 3) := by decide +kernel
theorem dX9_stepsOfWanderer_127 : decode cX9_stepsOfWanderer 127 = .ok (.bipush (-4), 2) := by decide +kernel
theorem dX9_stepsOfWanderer_129 : decode cX9_stepsOfWanderer 129 = .ok (.ireturn, 1) := by decide +kernel
theorem dX9_stepsOfWanderer_130 : decode cX9_stepsOfWanderer 130 = .ok (.iinc 10 1, 3) := by decide +kernel
theorem dX9_stepsOfWanderer_133 : decode cX9_stepsOfWanderer 133 = .ok (.goto (-123), 3) := by decide +kernel
theorem dX9_stepsOfWanderer_136 : decode cX9_stepsOfWanderer 136 = .ok (.bipush (-4), 2) := by decide +kernel
theorem dX9_stepsOfWanderer_138 : decode cX9_stepsOfWanderer 138 = .ok (.ireturn, 1) := by decide +kernel
theorem dX9_handsShowing_0 : decode cX9_handsShowing 0 = .ok (.iconst 0, 1) := by decide +kernel
theorem dX9_handsShowing_1 : decode cX9_handsShowing 1 = .ok (.istore_n 3, 1) := by decide +kernel
theorem dX9_handsShowing_2 : decode cX9_handsShowing 2 = .ok (.iconst 0, 1) := by decide +kernel
theorem dX9_handsShowing_3 : decode cX9_handsShowing 3 = .ok (.istore 4, 2) := by decide +kernel
theorem dX9_handsShowing_5 : decode cX9_handsShowing 5 = .ok (.iload 4, 2) := by decide +kernel
theorem dX9_handsShowing_7 : decode cX9_handsShowing 7 = .ok (.bipush 25, 2) := by decide +kernel
theorem dX9_handsShowing_9 : decode cX9_handsShowing 9 = .ok (.if_icmp .ge 27, 3) := by decide +kernel
theorem dX9_handsShowing_12 : decode cX9_handsShowing 12 = .ok (.iload_n 3, 1) := by decide +kernel
theorem dX9_handsShowing_13 : decode cX9_handsShowing 13 = .ok (.aload_n 0, 1) := by decide +kernel
theorem dX9_handsShowing_14 : decode cX9_handsShowing 14 = .ok (.lload_n 1, 1) := by decide +kernel
theorem dX9_handsShowing_15 : decode cX9_handsShowing 15 = .ok (.iload 4, 2) := by decide +kernel
theorem dX9_handsShowing_17 : decode cX9_handsShowing 17 = .ok (.invokevirtual 314, 3) := by decide +kernel
theorem dX9_handsShowing_20 : decode cX9_handsShowing 20 = .ok (.ifCond .eq 7, 3) := by decide +kernel
theorem dX9_handsShowing_23 : decode cX9_handsShowing 23 = .ok (.iconst 1, 1) := by decide +kernel
theorem dX9_handsShowing_24 : decode cX9_handsShowing 24 = .ok (.goto 4, 3) := by decide +kernel
theorem dX9_handsShowing_27 : decode cX9_handsShowing 27 = .ok (.iconst 0, 1) := by decide +kernel
theorem dX9_handsShowing_28 : decode cX9_handsShowing 28 = .ok (.iadd, 1) := by decide +kernel
theorem dX9_handsShowing_29 : decode cX9_handsShowing 29 = .ok (.istore_n 3, 1) := by decide +kernel
theorem dX9_handsShowing_30 : decode cX9_handsShowing 30 = .ok (.iinc 4 1, 3) := by decide +kernel
theorem dX9_handsShowing_33 : decode cX9_handsShowing 33 = .ok (.goto (-28), 3) := by decide +kernel
theorem dX9_handsShowing_36 : decode cX9_handsShowing 36 = .ok (.iload_n 3, 1) := by decide +kernel
theorem dX9_handsShowing_37 : decode cX9_handsShowing 37 = .ok (.ireturn, 1) := by decide +kernel
theorem dX9_firstHandShowing_0 : decode cX9_firstHandShowing 0 = .ok (.iconst 0, 1) := by decide +kernel
theorem dX9_firstHandShowing_1 : decode cX9_firstHandShowing 1 = .ok (.istore_n 3, 1) := by decide +kernel
theorem dX9_firstHandShowing_2 : decode cX9_firstHandShowing 2 = .ok (.iload_n 3, 1) := by decide +kernel
theorem dX9_firstHandShowing_3 : decode cX9_firstHandShowing 3 = .ok (.bipush 25, 2) := by decide +kernel
theorem dX9_firstHandShowing_5 : decode cX9_firstHandShowing 5 = .ok (.if_icmp .ge 20, 3) := by decide +kernel
theorem dX9_firstHandShowing_8 : decode cX9_firstHandShowing 8 = .ok (.aload_n 0, 1) := by decide +kernel
theorem dX9_firstHandShowing_9 : decode cX9_firstHandShowing 9 = .ok (.lload_n 1, 1) := by decide +kernel
theorem dX9_firstHandShowing_10 : decode cX9_firstHandShowing 10 = .ok (.iload_n 3, 1) := by decide +kernel
theorem dX9_firstHandShowing_11 : decode cX9_firstHandShowing 11 = .ok (.invokevirtual 314, 3) := by decide +kernel
theorem dX9_firstHandShowing_14 : decode cX9_firstHandShowing 14 = .ok (.ifCond .eq 5, 3) := by decide +kernel
theorem dX9_firstHandShowing_17 : decode cX9_firstHandShowing 17 = .ok (.iload_n 3, 1) := by decide +kernel
theorem dX9_firstHandShowing_18 : decode cX9_firstHandShowing 18 = .ok (.ireturn, 1) := by decide +kernel
theorem dX9_firstHandShowing_19 : decode cX9_firstHandShowing 19 = .ok (.iinc 3 1, 3) := by decide +kernel
theorem dX9_firstHandShowing_22 : decode cX9_firstHandShowing 22 = .ok (.goto (-20), 3) := by decide +kernel
theorem dX9_firstHandShowing_25 : decode cX9_firstHandShowing 25 = .ok (.bipush (-4), 2) := by decide +kernel
theorem dX9_firstHandShowing_27 : decode cX9_firstHandShowing 27 = .ok (.ireturn, 1) := by decide +kernel
theorem dX9_showsJustSeen_0 : decode cX9_showsJustSeen 0 = .ok (.iload_n 3, 1) := by decide +kernel
theorem dX9_showsJustSeen_1 : decode cX9_showsJustSeen 1 = .ok (.iconst 5, 1) := by decide +kernel
theorem dX9_showsJustSeen_2 : decode cX9_showsJustSeen 2 = .ok (.idiv, 1) := by decide +kernel
theorem dX9_showsJustSeen_3 : decode cX9_showsJustSeen 3 = .ok (.iconst 2, 1) := by decide +kernel
theorem dX9_showsJustSeen_4 : decode cX9_showsJustSeen 4 = .ok (.isub, 1) := by decide +kernel
theorem dX9_showsJustSeen_5 : decode cX9_showsJustSeen 5 = .ok (.istore 4, 2) := by decide +kernel
theorem dX9_showsJustSeen_7 : decode cX9_showsJustSeen 7 = .ok (.iload_n 3, 1) := by decide +kernel
theorem dX9_showsJustSeen_8 : decode cX9_showsJustSeen 8 = .ok (.iconst 5, 1) := by decide +kernel
theorem dX9_showsJustSeen_9 : decode cX9_showsJustSeen 9 = .ok (.irem, 1) := by decide +kernel
theorem dX9_showsJustSeen_10 : decode cX9_showsJustSeen 10 = .ok (.iconst 2, 1) := by decide +kernel
theorem dX9_showsJustSeen_11 : decode cX9_showsJustSeen 11 = .ok (.isub, 1) := by decide +kernel
theorem dX9_showsJustSeen_12 : decode cX9_showsJustSeen 12 = .ok (.istore 5, 2) := by decide +kernel
theorem dX9_showsJustSeen_14 : decode cX9_showsJustSeen 14 = .ok (.aload_n 0, 1) := by decide +kernel
theorem dX9_showsJustSeen_15 : decode cX9_showsJustSeen 15 = .ok (.getfield 26, 3) := by decide +kernel
theorem dX9_showsJustSeen_18 : decode cX9_showsJustSeen 18 = .ok (.getfield 91, 3) := by decide +kernel
theorem dX9_showsJustSeen_21 : decode cX9_showsJustSeen 21 = .ok (.lload_n 1, 1) := by decide +kernel
theorem dX9_showsJustSeen_22 : decode cX9_showsJustSeen 22 = .ok (.iload 4, 2) := by decide +kernel
theorem dX9_showsJustSeen_24 : decode cX9_showsJustSeen 24 = .ok (.iload 5, 2) := by decide +kernel
theorem dX9_showsJustSeen_26 : decode cX9_showsJustSeen 26 = .ok (.invokevirtual 317, 3) := by decide +kernel
theorem dX9_showsJustSeen_29 : decode cX9_showsJustSeen 29 = .ok (.aload_n 0, 1) := by decide +kernel
theorem dX9_showsJustSeen_30 : decode cX9_showsJustSeen 30 = .ok (.getfield 252, 3) := by decide +kernel
theorem dX9_showsJustSeen_33 : decode cX9_showsJustSeen 33 = .ok (.lcmp, 1) := by decide +kernel
theorem dX9_showsJustSeen_34 : decode cX9_showsJustSeen 34 = .ok (.ifCond .ne 7, 3) := by decide +kernel
theorem dX9_showsJustSeen_37 : decode cX9_showsJustSeen 37 = .ok (.iconst 1, 1) := by decide +kernel
theorem dX9_showsJustSeen_38 : decode cX9_showsJustSeen 38 = .ok (.goto 4, 3) := by decide +kernel
theorem dX9_showsJustSeen_41 : decode cX9_showsJustSeen 41 = .ok (.iconst 0, 1) := by decide +kernel
theorem dX9_showsJustSeen_42 : decode cX9_showsJustSeen 42 = .ok (.ireturn, 1) := by decide +kernel
theorem dX9_drawOf_0 : decode cX9_drawOf 0 = .ok (.ldc2_w 321, 3) := by decide +kernel
theorem dX9_drawOf_3 : decode cX9_drawOf 3 = .ok (.iload_n 0, 1) := by decide +kernel
theorem dX9_drawOf_4 : decode cX9_drawOf 4 = .ok (.i2l, 1) := by decide +kernel
theorem dX9_drawOf_5 : decode cX9_drawOf 5 = .ok (.lmul, 1) := by decide +kernel
theorem dX9_drawOf_6 : decode cX9_drawOf 6 = .ok (.ldc2_w 323, 3) := by decide +kernel
theorem dX9_drawOf_9 : decode cX9_drawOf 9 = .ok (.iload_n 1, 1) := by decide +kernel
theorem dX9_drawOf_10 : decode cX9_drawOf 10 = .ok (.i2l, 1) := by decide +kernel
theorem dX9_drawOf_11 : decode cX9_drawOf 11 = .ok (.lmul, 1) := by decide +kernel
theorem dX9_drawOf_12 : decode cX9_drawOf 12 = .ok (.ladd, 1) := by decide +kernel
theorem dX9_drawOf_13 : decode cX9_drawOf 13 = .ok (.lconst 1, 1) := by decide +kernel
theorem dX9_drawOf_14 : decode cX9_drawOf 14 = .ok (.ladd, 1) := by decide +kernel
theorem dX9_drawOf_15 : decode cX9_drawOf 15 = .ok (.lstore_n 2, 1) := by decide +kernel
theorem dX9_drawOf_16 : decode cX9_drawOf 16 = .ok (.lload_n 2, 1) := by decide +kernel
theorem dX9_drawOf_17 : decode cX9_drawOf 17 = .ok (.lload_n 2, 1) := by decide +kernel
theorem dX9_drawOf_18 : decode cX9_drawOf 18 = .ok (.lmul, 1) := by decide +kernel
theorem dX9_drawOf_19 : decode cX9_drawOf 19 = .ok (.ldc2_w 325, 3) := by decide +kernel
theorem dX9_drawOf_22 : decode cX9_drawOf 22 = .ok (.lrem, 1) := by decide +kernel
theorem dX9_drawOf_23 : decode cX9_drawOf 23 = .ok (.l2i, 1) := by decide +kernel
theorem dX9_drawOf_24 : decode cX9_drawOf 24 = .ok (.ireturn, 1) := by decide +kernel
theorem dX9_isZeroOrOne_0 : decode cX9_isZeroOrOne 0 = .ok (.iload_n 0, 1) := by decide +kernel
theorem dX9_isZeroOrOne_1 : decode cX9_isZeroOrOne 1 = .ok (.ifCond .eq 8, 3) := by decide +kernel
theorem dX9_isZeroOrOne_4 : decode cX9_isZeroOrOne 4 = .ok (.iload_n 0, 1) := by decide +kernel
theorem dX9_isZeroOrOne_5 : decode cX9_isZeroOrOne 5 = .ok (.iconst 1, 1) := by decide +kernel
theorem dX9_isZeroOrOne_6 : decode cX9_isZeroOrOne 6 = .ok (.if_icmp .ne 7, 3) := by decide +kernel
theorem dX9_isZeroOrOne_9 : decode cX9_isZeroOrOne 9 = .ok (.iconst 1, 1) := by decide +kernel
theorem dX9_isZeroOrOne_10 : decode cX9_isZeroOrOne 10 = .ok (.goto 4, 3) := by decide +kernel
theorem dX9_isZeroOrOne_13 : decode cX9_isZeroOrOne 13 = .ok (.iconst 0, 1) := by decide +kernel
theorem dX9_isZeroOrOne_14 : decode cX9_isZeroOrOne 14 = .ok (.ireturn, 1) := by decide +kernel
theorem dX9_oneIf_0 : decode cX9_oneIf 0 = .ok (.iload_n 0, 1) := by decide +kernel
theorem dX9_oneIf_1 : decode cX9_oneIf 1 = .ok (.ifCond .eq 7, 3) := by decide +kernel
theorem dX9_oneIf_4 : decode cX9_oneIf 4 = .ok (.iconst 1, 1) := by decide +kernel
theorem dX9_oneIf_5 : decode cX9_oneIf 5 = .ok (.goto 4, 3) := by decide +kernel
theorem dX9_oneIf_8 : decode cX9_oneIf 8 = .ok (.iconst 0, 1) := by decide +kernel
theorem dX9_oneIf_9 : decode cX9_oneIf 9 = .ok (.ireturn, 1) := by decide +kernel
theorem dX9_orNone_0 : decode cX9_orNone 0 = .ok (.iload_n 0, 1) := by decide +kernel
theorem dX9_orNone_1 : decode cX9_orNone 1 = .ok (.ldc_w 327, 3) := by decide +kernel
theorem dX9_orNone_4 : decode cX9_orNone 4 = .ok (.if_icmp .ge 7, 3) := by decide +kernel
theorem dX9_orNone_7 : decode cX9_orNone 7 = .ok (.iload_n 0, 1) := by decide +kernel
theorem dX9_orNone_8 : decode cX9_orNone 8 = .ok (.goto 5, 3) := by decide +kernel
theorem dX9_orNone_11 : decode cX9_orNone 11 = .ok (.bipush (-4), 2) := by decide +kernel
theorem dX9_orNone_13 : decode cX9_orNone 13 = .ok (.ireturn, 1) := by decide +kernel
theorem dX9_bitOf_0 : decode cX9_bitOf 0 = .ok (.lconst 1, 1) := by decide +kernel
theorem dX9_bitOf_1 : decode cX9_bitOf 1 = .ok (.iload_n 0, 1) := by decide +kernel
theorem dX9_bitOf_2 : decode cX9_bitOf 2 = .ok (.lshl, 1) := by decide +kernel
theorem dX9_bitOf_3 : decode cX9_bitOf 3 = .ok (.lreturn, 1) := by decide +kernel
theorem dX9_holds_0 : decode cX9_holds 0 = .ok (.lload_n 0, 1) := by decide +kernel
theorem dX9_holds_1 : decode cX9_holds 1 = .ok (.iload_n 2, 1) := by decide +kernel
theorem dX9_holds_2 : decode cX9_holds 2 = .ok (.invokestatic 256, 3) := by decide +kernel
theorem dX9_holds_5 : decode cX9_holds 5 = .ok (.land, 1) := by decide +kernel
theorem dX9_holds_6 : decode cX9_holds 6 = .ok (.lconst 0, 1) := by decide +kernel
theorem dX9_holds_7 : decode cX9_holds 7 = .ok (.lcmp, 1) := by decide +kernel
theorem dX9_holds_8 : decode cX9_holds 8 = .ok (.ifCond .eq 7, 3) := by decide +kernel
theorem dX9_holds_11 : decode cX9_holds 11 = .ok (.iconst 1, 1) := by decide +kernel
theorem dX9_holds_12 : decode cX9_holds 12 = .ok (.goto 4, 3) := by decide +kernel
theorem dX9_holds_15 : decode cX9_holds 15 = .ok (.iconst 0, 1) := by decide +kernel
theorem dX9_holds_16 : decode cX9_holds 16 = .ok (.ireturn, 1) := by decide +kernel
theorem dX9_lowestOf_0 : decode cX9_lowestOf 0 = .ok (.iconst 0, 1) := by decide +kernel
theorem dX9_lowestOf_1 : decode cX9_lowestOf 1 = .ok (.istore_n 2, 1) := by decide +kernel
theorem dX9_lowestOf_2 : decode cX9_lowestOf 2 = .ok (.iload_n 2, 1) := by decide +kernel
theorem dX9_lowestOf_3 : decode cX9_lowestOf 3 = .ok (.bipush 64, 2) := by decide +kernel
theorem dX9_lowestOf_5 : decode cX9_lowestOf 5 = .ok (.if_icmp .ge 19, 3) := by decide +kernel
theorem dX9_lowestOf_8 : decode cX9_lowestOf 8 = .ok (.lload_n 0, 1) := by decide +kernel
theorem dX9_lowestOf_9 : decode cX9_lowestOf 9 = .ok (.iload_n 2, 1) := by decide +kernel
theorem dX9_lowestOf_10 : decode cX9_lowestOf 10 = .ok (.invokestatic 143, 3) := by decide +kernel
theorem dX9_lowestOf_13 : decode cX9_lowestOf 13 = .ok (.ifCond .eq 5, 3) := by decide +kernel
theorem dX9_lowestOf_16 : decode cX9_lowestOf 16 = .ok (.iload_n 2, 1) := by decide +kernel
theorem dX9_lowestOf_17 : decode cX9_lowestOf 17 = .ok (.ireturn, 1) := by decide +kernel
theorem dX9_lowestOf_18 : decode cX9_lowestOf 18 = .ok (.iinc 2 1, 3) := by decide +kernel
theorem dX9_lowestOf_21 : decode cX9_lowestOf 21 = .ok (.goto (-19), 3) := by decide +kernel
theorem dX9_lowestOf_24 : decode cX9_lowestOf 24 = .ok (.bipush (-4), 2) := by decide +kernel
theorem dX9_lowestOf_26 : decode cX9_lowestOf 26 = .ok (.ireturn, 1) := by decide +kernel

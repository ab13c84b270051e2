theorem dX5_meet_35 : decode cX5_meet 35 = .ok (.if_icmp .ge 7, 3) := by decide +kernel
theorem dX5_meet_38 : decode cX5_meet 38 = .ok (.iconst 1, 1) := by decide +kernel
theorem dX5_meet_39 : decode cX5_meet 39 = .ok (.goto 4, 3) := by decide +kernel
theorem dX5_meet_42 : decode cX5_meet 42 = .ok (.iconst 0, 1) := by decide +kernel
theorem dX5_meet_43 : decode cX5_meet 43 = .ok (.ireturn, 1) := by decide +kernel
theorem dX5_isThere_0 : decode cX5_isThere 0 = .ok (.aload_n 0, 1) := by decide +kernel
theorem dX5_isThere_1 : decode cX5_isThere 1 = .ok (.getfield 44, 3) := by decide +kernel
theorem dX5_isThere_4 : decode cX5_isThere 4 = .ok (.ireturn, 1) := by decide +kernel
theorem dX5_cost_0 : decode cX5_cost 0 = .ok (.aload_n 0, 1) := by decide +kernel
theorem dX5_cost_1 : decode cX5_cost 1 = .ok (.getfield 52, 3) := by decide +kernel
theorem dX5_cost_4 : decode cX5_cost 4 = .ok (.ireturn, 1) := by decide +kernel
theorem dX5_lineCount_0 : decode cX5_lineCount 0 = .ok (.aload_n 0, 1) := by decide +kernel
theorem dX5_lineCount_1 : decode cX5_lineCount 1 = .ok (.getfield 14, 3) := by decide +kernel
theorem dX5_lineCount_4 : decode cX5_lineCount 4 = .ok (.invokevirtual 70, 3) := by decide +kernel
theorem dX5_lineCount_7 : decode cX5_lineCount 7 = .ok (.ireturn, 1) := by decide +kernel
theorem dX5_startOf_0 : decode cX5_startOf 0 = .ok (.iload_n 1, 1) := by decide +kernel
theorem dX5_startOf_1 : decode cX5_startOf 1 = .ok (.ifCond .le 16, 3) := by decide +kernel
theorem dX5_startOf_4 : decode cX5_startOf 4 = .ok (.aload_n 0, 1) := by decide +kernel
theorem dX5_startOf_5 : decode cX5_startOf 5 = .ok (.getfield 14, 3) := by decide +kernel
theorem dX5_startOf_8 : decode cX5_startOf 8 = .ok (.iload_n 1, 1) := by decide +kernel
theorem dX5_startOf_9 : decode cX5_startOf 9 = .ok (.iconst 1, 1) := by decide +kernel
theorem dX5_startOf_10 : decode cX5_startOf 10 = .ok (.isub, 1) := by decide +kernel
theorem dX5_startOf_11 : decode cX5_startOf 11 = .ok (.invokevirtual 104, 3) := by decide +kernel
theorem dX5_startOf_14 : decode cX5_startOf 14 = .ok (.goto 4, 3) := by decide +kernel
theorem dX5_startOf_17 : decode cX5_startOf 17 = .ok (.iconst (-1), 1) := by decide +kernel
theorem dX5_startOf_18 : decode cX5_startOf 18 = .ok (.ireturn, 1) := by decide +kernel
theorem dX5_endOf_0 : decode cX5_endOf 0 = .ok (.aload_n 0, 1) := by decide +kernel
theorem dX5_endOf_1 : decode cX5_endOf 1 = .ok (.getfield 14, 3) := by decide +kernel
theorem dX5_endOf_4 : decode cX5_endOf 4 = .ok (.iload_n 1, 1) := by decide +kernel
theorem dX5_endOf_5 : decode cX5_endOf 5 = .ok (.invokevirtual 104, 3) := by decide +kernel
theorem dX5_endOf_8 : decode cX5_endOf 8 = .ok (.ireturn, 1) := by decide +kernel
theorem dX5_slashEnds_0 : decode cX5_slashEnds 0 = .ok (.iconst 0, 1) := by decide +kernel
theorem dX5_slashEnds_1 : decode cX5_slashEnds 1 = .ok (.istore_n 2, 1) := by decide +kernel
theorem dX5_slashEnds_2 : decode cX5_slashEnds 2 = .ok (.iconst 0, 1) := by decide +kernel
theorem dX5_slashEnds_3 : decode cX5_slashEnds 3 = .ok (.istore_n 3, 1) := by decide +kernel
theorem dX5_slashEnds_4 : decode cX5_slashEnds 4 = .ok (.iload_n 3, 1) := by decide +kernel
theorem dX5_slashEnds_5 : decode cX5_slashEnds 5 = .ok (.aload_n 0, 1) := by decide +kernel
theorem dX5_slashEnds_6 : decode cX5_slashEnds 6 = .ok (.getfield 14, 3) := by decide +kernel
theorem dX5_slashEnds_9 : decode cX5_slashEnds 9 = .ok (.invokevirtual 70, 3) := by decide +kernel
theorem dX5_slashEnds_12 : decode cX5_slashEnds 12 = .ok (.if_icmp .ge 32, 3) := by decide +kernel
theorem dX5_slashEnds_15 : decode cX5_slashEnds 15 = .ok (.iload_n 2, 1) := by decide +kernel
theorem dX5_slashEnds_16 : decode cX5_slashEnds 16 = .ok (.aload_n 1, 1) := by decide +kernel
theorem dX5_slashEnds_17 : decode cX5_slashEnds 17 = .ok (.aload_n 0, 1) := by decide +kernel
theorem dX5_slashEnds_18 : decode cX5_slashEnds 18 = .ok (.getfield 14, 3) := by decide +kernel
theorem dX5_slashEnds_21 : decode cX5_slashEnds 21 = .ok (.iload_n 3, 1) := by decide +kernel
theorem dX5_slashEnds_22 : decode cX5_slashEnds 22 = .ok (.invokevirtual 104, 3) := by decide +kernel
theorem dX5_slashEnds_25 : decode cX5_slashEnds 25 = .ok (.invokevirtual 85, 3) := by decide +kernel
theorem dX5_slashEnds_28 : decode cX5_slashEnds 28 = .ok (.ifCond .eq 7, 3) := by decide +kernel
theorem dX5_slashEnds_31 : decode cX5_slashEnds 31 = .ok (.iconst 1, 1) := by decide +kernel
theorem dX5_slashEnds_32 : decode cX5_slashEnds 32 = .ok (.goto 4, 3) := by decide +kernel
theorem dX5_slashEnds_35 : decode cX5_slashEnds 35 = .ok (.iconst 0, 1) := by decide +kernel
theorem dX5_slashEnds_36 : decode cX5_slashEnds 36 = .ok (.iadd, 1) := by decide +kernel
theorem dX5_slashEnds_37 : decode cX5_slashEnds 37 = .ok (.istore_n 2, 1) := by decide +kernel
theorem dX5_slashEnds_38 : decode cX5_slashEnds 38 = .ok (.iinc 3 1, 3) := by decide +kernel
theorem dX5_slashEnds_41 : decode cX5_slashEnds 41 = .ok (.goto (-37), 3) := by decide +kernel
theorem dX5_slashEnds_44 : decode cX5_slashEnds 44 = .ok (.iload_n 2, 1) := by decide +kernel
theorem dX5_slashEnds_45 : decode cX5_slashEnds 45 = .ok (.ireturn, 1) := by decide +kernel
theorem dX5_rough_0 : decode cX5_rough 0 = .ok (.iconst 0, 1) := by decide +kernel
theorem dX5_rough_1 : decode cX5_rough 1 = .ok (.istore_n 2, 1) := by decide +kernel
theorem dX5_rough_2 : decode cX5_rough 2 = .ok (.iconst 0, 1) := by decide +kernel
theorem dX5_rough_3 : decode cX5_rough 3 = .ok (.istore_n 3, 1) := by decide +kernel
theorem dX5_rough_4 : decode cX5_rough 4 = .ok (.iload_n 3, 1) := by decide +kernel
theorem dX5_rough_5 : decode cX5_rough 5 = .ok (.iconst 1, 1) := by decide +kernel
theorem dX5_rough_6 : decode cX5_rough 6 = .ok (.iadd, 1) := by decide +kernel
theorem dX5_rough_7 : decode cX5_rough 7 = .ok (.aload_n 0, 1) := by decide +kernel
theorem dX5_rough_8 : decode cX5_rough 8 = .ok (.getfield 14, 3) := by decide +kernel
theorem dX5_rough_11 : decode cX5_rough 11 = .ok (.invokevirtual 70, 3) := by decide +kernel
theorem dX5_rough_14 : decode cX5_rough 14 = .ok (.if_icmp .ge 41, 3) := by decide +kernel
theorem dX5_rough_17 : decode cX5_rough 17 = .ok (.iload_n 2, 1) := by decide +kernel
theorem dX5_rough_18 : decode cX5_rough 18 = .ok (.aload_n 1, 1) := by decide +kernel
theorem dX5_rough_19 : decode cX5_rough 19 = .ok (.aload_n 0, 1) := by decide +kernel
theorem dX5_rough_20 : decode cX5_rough 20 = .ok (.iload_n 3, 1) := by decide +kernel
theorem dX5_rough_21 : decode cX5_rough 21 = .ok (.invokevirtual 123, 3) := by decide +kernel
theorem dX5_rough_24 : decode cX5_rough 24 = .ok (.aload_n 0, 1) := by decide +kernel
theorem dX5_rough_25 : decode cX5_rough 25 = .ok (.iload_n 3, 1) := by decide +kernel
theorem dX5_rough_26 : decode cX5_rough 26 = .ok (.invokevirtual 126, 3) := by decide +kernel
theorem dX5_rough_29 : decode cX5_rough 29 = .ok (.invokevirtual 129, 3) := by decide +kernel
theorem dX5_rough_32 : decode cX5_rough 32 = .ok (.aload_n 1, 1) := by decide +kernel
theorem dX5_rough_33 : decode cX5_rough 33 = .ok (.aload_n 0, 1) := by decide +kernel
theorem dX5_rough_34 : decode cX5_rough 34 = .ok (.iload_n 3, 1) := by decide +kernel
theorem dX5_rough_35 : decode cX5_rough 35 = .ok (.invokevirtual 123, 3) := by decide +kernel
theorem dX5_rough_38 : decode cX5_rough 38 = .ok (.aload_n 0, 1) := by decide +kernel
theorem dX5_rough_39 : decode cX5_rough 39 = .ok (.iload_n 3, 1) := by decide +kernel
theorem dX5_rough_40 : decode cX5_rough 40 = .ok (.invokevirtual 126, 3) := by decide +kernel
theorem dX5_rough_43 : decode cX5_rough 43 = .ok (.invokevirtual 82, 3) := by decide +kernel
theorem dX5_rough_46 : decode cX5_rough 46 = .ok (.isub, 1) := by decide +kernel
theorem dX5_rough_47 : decode cX5_rough 47 = .ok (.iadd, 1) := by decide +kernel
theorem dX5_rough_48 : decode cX5_rough 48 = .ok (.istore_n 2, 1) := by decide +kernel
theorem dX5_rough_49 : decode cX5_rough 49 = .ok (.iinc 3 1, 3) := by decide +kernel
theorem dX5_rough_52 : decode cX5_rough 52 = .ok (.goto (-48), 3) := by decide +kernel
theorem dX5_rough_55 : decode cX5_rough 55 = .ok (.iload_n 2, 1) := by decide +kernel
theorem dX5_rough_56 : decode cX5_rough 56 = .ok (.ireturn, 1) := by decide +kernel
theorem dX5_springs_0 : decode cX5_springs 0 = .ok (.iconst 0, 1) := by decide +kernel
theorem dX5_springs_1 : decode cX5_springs 1 = .ok (.istore_n 1, 1) := by decide +kernel
theorem dX5_springs_2 : decode cX5_springs 2 = .ok (.iconst 0, 1) := by decide +kernel
theorem dX5_springs_3 : decode cX5_springs 3 = .ok (.istore_n 2, 1) := by decide +kernel
theorem dX5_springs_4 : decode cX5_springs 4 = .ok (.iload_n 2, 1) := by decide +kernel
theorem dX5_springs_5 : decode cX5_springs 5 = .ok (.aload_n 0, 1) := by decide +kernel
theorem dX5_springs_6 : decode cX5_springs 6 = .ok (.getfield 32, 3) := by decide +kernel
theorem dX5_springs_9 : decode cX5_springs 9 = .ok (.invokevirtual 70, 3) := by decide +kernel
theorem dX5_springs_12 : decode cX5_springs 12 = .ok (.if_icmp .ge 20, 3) := by decide +kernel
theorem dX5_springs_15 : decode cX5_springs 15 = .ok (.iload_n 1, 1) := by decide +kernel
theorem dX5_springs_16 : decode cX5_springs 16 = .ok (.aload_n 0, 1) := by decide +kernel
theorem dX5_springs_17 : decode cX5_springs 17 = .ok (.getfield 32, 3) := by decide +kernel
theorem dX5_springs_20 : decode cX5_springs 20 = .ok (.iload_n 2, 1) := by decide +kernel
theorem dX5_springs_21 : decode cX5_springs 21 = .ok (.invokevirtual 104, 3) := by decide +kernel
theorem dX5_springs_24 : decode cX5_springs 24 = .ok (.iadd, 1) := by decide +kernel
theorem dX5_springs_25 : decode cX5_springs 25 = .ok (.istore_n 1, 1) := by decide +kernel
theorem dX5_springs_26 : decode cX5_springs 26 = .ok (.iinc 2 1, 3) := by decide +kernel
theorem dX5_springs_29 : decode cX5_springs 29 = .ok (.goto (-25), 3) := by decide +kernel
theorem dX5_springs_32 : decode cX5_springs 32 = .ok (.iload_n 1, 1) := by decide +kernel
theorem dX5_springs_33 : decode cX5_springs 33 = .ok (.ireturn, 1) := by decide +kernel
theorem dX5_longest_0 : decode cX5_longest 0 = .ok (.iconst 0, 1) := by decide +kernel
theorem dX5_longest_1 : decode cX5_longest 1 = .ok (.istore_n 1, 1) := by decide +kernel
theorem dX5_longest_2 : decode cX5_longest 2 = .ok (.iconst 0, 1) := by decide +kernel
theorem dX5_longest_3 : decode cX5_longest 3 = .ok (.istore_n 2, 1) := by decide +kernel
theorem dX5_longest_4 : decode cX5_longest 4 = .ok (.iload_n 2, 1) := by decide +kernel
theorem dX5_longest_5 : decode cX5_longest 5 = .ok (.aload_n 0, 1) := by decide +kernel
theorem dX5_longest_6 : decode cX5_longest 6 = .ok (.getfield 29, 3) := by decide +kernel
theorem dX5_longest_9 : decode cX5_longest 9 = .ok (.invokevirtual 70, 3) := by decide +kernel
theorem dX5_longest_12 : decode cX5_longest 12 = .ok (.if_icmp .ge 22, 3) := by decide +kernel
theorem dX5_longest_15 : decode cX5_longest 15 = .ok (.iload_n 1, 1) := by decide +kernel
theorem dX5_longest_16 : decode cX5_longest 16 = .ok (.aload_n 0, 1) := by decide +kernel
theorem dX5_longest_17 : decode cX5_longest 17 = .ok (.getfield 29, 3) := by decide +kernel
theorem dX5_longest_20 : decode cX5_longest 20 = .ok (.iload_n 2, 1) := by decide +kernel
theorem dX5_longest_21 : decode cX5_longest 21 = .ok (.invokevirtual 104, 3) := by decide +kernel
theorem dX5_longest_24 : decode cX5_longest 24 = .ok (.invokestatic 120, 3) := by decide +kernel
theorem dX5_longest_27 : decode cX5_longest 27 = .ok (.istore_n 1, 1) := by decide +kernel
theorem dX5_longest_28 : decode cX5_longest 28 = .ok (.iinc 2 1, 3) := by decide +kernel
theorem dX5_longest_31 : decode cX5_longest 31 = .ok (.goto (-27), 3) := by decide +kernel
theorem dX5_longest_34 : decode cX5_longest 34 = .ok (.iload_n 1, 1) := by decide +kernel
theorem dX5_longest_35 : decode cX5_longest 35 = .ok (.ireturn, 1) := by decide +kernel
theorem dX5_blankCount_0 : decode cX5_blankCount 0 = .ok (.aload_n 0, 1) := by decide +kernel
theorem dX5_blankCount_1 : decode cX5_blankCount 1 = .ok (.getfield 20, 3) := by decide +kernel
theorem dX5_blankCount_4 : decode cX5_blankCount 4 = .ok (.iload_n 1, 1) := by decide +kernel
theorem dX5_blankCount_5 : decode cX5_blankCount 5 = .ok (.iconst 1, 1) := by decide +kernel
theorem dX5_blankCount_6 : decode cX5_blankCount 6 = .ok (.iadd, 1) := by decide +kernel
theorem dX5_blankCount_7 : decode cX5_blankCount 7 = .ok (.invokevirtual 104, 3) := by decide +kernel
theorem dX5_blankCount_10 : decode cX5_blankCount 10 = .ok (.aload_n 0, 1) := by decide +kernel
theorem dX5_blankCount_11 : decode cX5_blankCount 11 = .ok (.getfield 20, 3) := by decide +kernel
theorem dX5_blankCount_14 : decode cX5_blankCount 14 = .ok (.iload_n 1, 1) := by decide +kernel
theorem dX5_blankCount_15 : decode cX5_blankCount 15 = .ok (.invokevirtual 104, 3) := by decide +kernel
theorem dX5_blankCount_18 : decode cX5_blankCount 18 = .ok (.isub, 1) := by decide +kernel
theorem dX5_blankCount_19 : decode cX5_blankCount 19 = .ok (.ireturn, 1) := by decide +kernel
theorem dX5_blankOf_0 : decode cX5_blankOf 0 = .ok (.aload_n 0, 1) := by decide +kernel
theorem dX5_blankOf_1 : decode cX5_blankOf 1 = .ok (.getfield 20, 3) := by decide +kernel
theorem dX5_blankOf_4 : decode cX5_blankOf 4 = .ok (.iload_n 1, 1) := by decide +kernel
theorem dX5_blankOf_5 : decode cX5_blankOf 5 = .ok (.invokevirtual 104, 3) := by decide +kernel
theorem dX5_blankOf_8 : decode cX5_blankOf 8 = .ok (.iload_n 2, 1) := by decide +kernel
theorem dX5_blankOf_9 : decode cX5_blankOf 9 = .ok (.iadd, 1) := by decide +kernel
theorem dX5_blankOf_10 : decode cX5_blankOf 10 = .ok (.istore 4, 2) := by decide +kernel
theorem dX5_blankOf_12 : decode cX5_blankOf 12 = .ok (.iload_n 3, 1) := by decide +kernel
theorem dX5_blankOf_13 : decode cX5_blankOf 13 = .ok (.tableswitch 57 0 2 #[27, 37, 47], 27) := by decide +kernel
theorem dX5_blankOf_40 : decode cX5_blankOf 40 = .ok (.aload_n 0, 1) := by decide +kernel
theorem dX5_blankOf_41 : decode cX5_blankOf 41 = .ok (.getfield 23, 3) := by decide +kernel
theorem dX5_blankOf_44 : decode cX5_blankOf 44 = .ok (.iload 4, 2) := by decide +kernel
theorem dX5_blankOf_46 : decode cX5_blankOf 46 = .ok (.invokevirtual 104, 3) := by decide +kernel
theorem dX5_blankOf_49 : decode cX5_blankOf 49 = .ok (.ireturn, 1) := by decide +kernel
theorem dX5_blankOf_50 : decode cX5_blankOf 50 = .ok (.aload_n 0, 1) := by decide +kernel
theorem dX5_blankOf_51 : decode cX5_blankOf 51 = .ok (.getfield 26, 3) := by decide +kernel
theorem dX5_blankOf_54 : decode cX5_blankOf 54 = .ok (.iload 4, 2) := by decide +kernel
theorem dX5_blankOf_56 : decode cX5_blankOf 56 = .ok (.invokevirtual 104, 3) := by decide +kernel
theorem dX5_blankOf_59 : decode cX5_blankOf 59 = .ok (.ireturn, 1) := by decide +kernel
theorem dX5_blankOf_60 : decode cX5_blankOf 60 = .ok (.aload_n 0, 1) := by decide +kernel
theorem dX5_blankOf_61 : decode cX5_blankOf 61 = .ok (.getfield 29, 3) := by decide +kernel
theorem dX5_blankOf_64 : decode cX5_blankOf 64 = .ok (.iload 4, 2) := by decide +kernel
theorem dX5_blankOf_66 : decode cX5_blankOf 66 = .ok (.invokevirtual 104, 3) := by decide +kernel
theorem dX5_blankOf_69 : decode cX5_blankOf 69 = .ok (.ireturn, 1) := by decide +kernel
theorem dX5_blankOf_70 : decode cX5_blankOf 70 = .ok (.aload_n 0, 1) := by decide +kernel
theorem dX5_blankOf_71 : decode cX5_blankOf 71 = .ok (.getfield 32, 3) := by decide +kernel
theorem dX5_blankOf_74 : decode cX5_blankOf 74 = .ok (.iload 4, 2) := by decide +kernel
theorem dX5_blankOf_76 : decode cX5_blankOf 76 = .ok (.invokevirtual 104, 3) := by decide +kernel
theorem dX5_blankOf_79 : decode cX5_blankOf 79 = .ok (.ireturn, 1) := by decide +kernel
theorem dX6_init_0 : decode cX6_init 0 = .ok (.aload_n 0, 1) := by decide +kernel
theorem dX6_init_1 : decode cX6_init 1 = .ok (.invokespecial 3, 3) := by decide +kernel
theorem dX6_init_4 : decode cX6_init 4 = .ok (.aload_n 0, 1) := by decide +kernel
theorem dX6_init_5 : decode cX6_init 5 = .ok (.sipush 191, 3) := by decide +kernel
theorem dX6_init_8 : decode cX6_init 8 = .ok (.newarray .boolean, 2) := by decide +kernel
theorem dX6_init_10 : decode cX6_init 10 = .ok (.putfield 9, 3) := by decide +kernel
theorem dX6_init_13 : decode cX6_init 13 = .ok (.aload_n 0, 1) := by decide +kernel
theorem dX6_init_14 : decode cX6_init 14 = .ok (.sipush 382, 3) := by decide +kernel
theorem dX6_init_17 : decode cX6_init 17 = .ok (.newarray .long, 2) := by decide +kernel
theorem dX6_init_19 : decode cX6_init 19 = .ok (.putfield 15, 3) := by decide +kernel
theorem dX6_init_22 : decode cX6_init 22 = .ok (.aload_n 0, 1) := by decide +kernel
theorem dX6_init_23 : decode cX6_init 23 = .ok (.sipush 191, 3) := by decide +kernel
theorem dX6_init_26 : decode cX6_init 26 = .ok (.newarray .boolean, 2) := by decide +kernel
theorem dX6_init_28 : decode cX6_init 28 = .ok (.putfield 19, 3) := by decide +kernel
theorem dX6_init_31 : decode cX6_init 31 = .ok (.return_, 1) := by decide +kernel
theorem dX6_goThrough_0 : decode cX6_goThrough 0 = .ok (.iconst 0, 1) := by decide +kernel
theorem dX6_goThrough_1 : decode cX6_goThrough 1 = .ok (.istore_n 3, 1) := by decide +kernel
theorem dX6_goThrough_2 : decode cX6_goThrough 2 = .ok (.iload_n 3, 1) := by decide +kernel
theorem dX6_goThrough_3 : decode cX6_goThrough 3 = .ok (.sipush 191, 3) := by decide +kernel
theorem dX6_goThrough_6 : decode cX6_goThrough 6 = .ok (.if_icmp .ge 34, 3) := by decide +kernel
theorem dX6_goThrough_9 : decode cX6_goThrough 9 = .ok (.aload_n 2, 1) := by decide +kernel
theorem dX6_goThrough_10 : decode cX6_goThrough 10 = .ok (.aload_n 1, 1) := by decide +kernel
theorem dX6_goThrough_11 : decode cX6_goThrough 11 = .ok (.bipush 10, 2) := by decide +kernel
theorem dX6_goThrough_13 : decode cX6_goThrough 13 = .ok (.iload_n 3, 1) := by decide +kernel
theorem dX6_goThrough_14 : decode cX6_goThrough 14 = .ok (.iadd, 1) := by decide +kernel
theorem dX6_goThrough_15 : decode cX6_goThrough 15 = .ok (.invokevirtual 22, 3) := by decide +kernel
theorem dX6_goThrough_18 : decode cX6_goThrough 18 = .ok (.aload_n 0, 1) := by decide +kernel
theorem dX6_goThrough_19 : decode cX6_goThrough 19 = .ok (.getfield 9, 3) := by decide +kernel
theorem dX6_goThrough_22 : decode cX6_goThrough 22 = .ok (.iload_n 3, 1) := by decide +kernel
theorem dX6_goThrough_23 : decode cX6_goThrough 23 = .ok (.aload_n 2, 1) := by decide +kernel
theorem dX6_goThrough_24 : decode cX6_goThrough 24 = .ok (.invokevirtual 28, 3) := by decide +kernel
theorem dX6_goThrough_27 : decode cX6_goThrough 27 = .ok (.bastore, 1) := by decide +kernel
theorem dX6_goThrough_28 : decode cX6_goThrough 28 = .ok (.aload_n 0, 1) := by decide +kernel
theorem dX6_goThrough_29 : decode cX6_goThrough 29 = .ok (.iload_n 3, 1) := by decide +kernel
theorem dX6_goThrough_30 : decode cX6_goThrough 30 = .ok (.aload_n 2, 1) := by decide +kernel
theorem dX6_goThrough_31 : decode cX6_goThrough 31 = .ok (.invokevirtual 32, 3) := by decide +kernel
theorem dX6_goThrough_34 : decode cX6_goThrough 34 = .ok (.iinc 3 1, 3) := by decide +kernel
theorem dX6_goThrough_37 : decode cX6_goThrough 37 = .ok (.goto (-35), 3) := by decide +kernel
theorem dX6_goThrough_40 : decode cX6_goThrough 40 = .ok (.return_, 1) := by decide +kernel
theorem dX6_note_0 : decode cX6_note 0 = .ok (.lconst 0, 1) := by decide +kernel
theorem dX6_note_1 : decode cX6_note 1 = .ok (.lstore_n 3, 1) := by decide +kernel
theorem dX6_note_2 : decode cX6_note 2 = .ok (.lconst 0, 1) := by decide +kernel
theorem dX6_note_3 : decode cX6_note 3 = .ok (.lstore 5, 2) := by decide +kernel
theorem dX6_note_5 : decode cX6_note 5 = .ok (.iconst (-1), 1) := by decide +kernel
theorem dX6_note_6 : decode cX6_note 6 = .ok (.istore 7, 2) := by decide +kernel
theorem dX6_note_8 : decode cX6_note 8 = .ok (.iconst 0, 1) := by decide +kernel
theorem dX6_note_9 : decode cX6_note 9 = .ok (.istore 8, 2) := by decide +kernel
theorem dX6_note_11 : decode cX6_note 11 = .ok (.iload 8, 2) := by decide +kernel
theorem dX6_note_13 : decode cX6_note 13 = .ok (.aload_n 2, 1) := by decide +kernel
theorem dX6_note_14 : decode cX6_note 14 = .ok (.invokevirtual 36, 3) := by decide +kernel
theorem dX6_note_17 : decode cX6_note 17 = .ok (.if_icmp .ge 46, 3) := by decide +kernel
theorem dX6_note_20 : decode cX6_note 20 = .ok (.aload_n 2, 1) := by decide +kernel
theorem dX6_note_21 : decode cX6_note 21 = .ok (.iload 7, 2) := by decide +kernel
theorem dX6_note_23 : decode cX6_note 23 = .ok (.invokevirtual 40, 3) := by decide +kernel
theorem dX6_note_26 : decode cX6_note 26 = .ok (.istore 7, 2) := by decide +kernel
theorem dX6_note_28 : decode cX6_note 28 = .ok (.iload 7, 2) := by decide +kernel
theorem dX6_note_30 : decode cX6_note 30 = .ok (.bipush 64, 2) := by decide +kernel
theorem dX6_note_32 : decode cX6_note 32 = .ok (.if_icmp .ge 13, 3) := by decide +kernel
theorem dX6_note_35 : decode cX6_note 35 = .ok (.lload_n 3, 1) := by decide +kernel
theorem dX6_note_36 : decode cX6_note 36 = .ok (.lconst 1, 1) := by decide +kernel
theorem dX6_note_37 : decode cX6_note 37 = .ok (.iload 7, 2) := by decide +kernel
theorem dX6_note_39 : decode cX6_note 39 = .ok (.lshl, 1) := by decide +kernel
theorem dX6_note_40 : decode cX6_note 40 = .ok (.lor, 1) := by decide +kernel
theorem dX6_note_41 : decode cX6_note 41 = .ok (.lstore_n 3, 1) := by decide +kernel
theorem dX6_note_42 : decode cX6_note 42 = .ok (.goto 15, 3) := by decide +kernel
theorem dX6_note_45 : decode cX6_note 45 = .ok (.lload 5, 2) := by decide +kernel
theorem dX6_note_47 : decode cX6_note 47 = .ok (.lconst 1, 1) := by decide +kernel
theorem dX6_note_48 : decode cX6_note 48 = .ok (.iload 7, 2) := by decide +kernel
theorem dX6_note_50 : decode cX6_note 50 = .ok (.bipush 64, 2) := by decide +kernel
theorem dX6_note_52 : decode cX6_note 52 = .ok (.isub, 1) := by decide +kernel
theorem dX6_note_53 : decode cX6_note 53 = .ok (.lshl, 1) := by decide +kernel
theorem dX6_note_54 : decode cX6_note 54 = .ok (.lor, 1) := by decide +kernel
theorem dX6_note_55 : decode cX6_note 55 = .ok (.lstore 5, 2) := by decide +kernel
theorem dX6_note_57 : decode cX6_note 57 = .ok (.iinc 8 1, 3) := by decide +kernel
theorem dX6_note_60 : decode cX6_note 60 = .ok (.goto (-49), 3) := by decide +kernel
theorem dX6_note_63 : decode cX6_note 63 = .ok (.iload_n 1, 1) := by decide +kernel
theorem dX6_note_64 : decode cX6_note 64 = .ok (.ifCond .lt 31, 3) := by decide +kernel
theorem dX6_note_67 : decode cX6_note 67 = .ok (.iload_n 1, 1) := by decide +kernel
theorem dX6_note_68 : decode cX6_note 68 = .ok (.sipush 191, 3) := by decide +kernel
theorem dX6_note_71 : decode cX6_note 71 = .ok (.if_icmp .ge 24, 3) := by decide +kernel
theorem dX6_note_74 : decode cX6_note 74 = .ok (.aload_n 0, 1) := by decide +kernel
theorem dX6_note_75 : decode cX6_note 75 = .ok (.getfield 15, 3) := by decide +kernel
theorem dX6_note_78 : decode cX6_note 78 = .ok (.iload_n 1, 1) := by decide +kernel
theorem dX6_note_79 : decode cX6_note 79 = .ok (.iconst 2, 1) := by decide +kernel
theorem dX6_note_80 : decode cX6_note 80 = .ok (.imul, 1) := by decide +kernel
theorem dX6_note_81 : decode cX6_note 81 = .ok (.lload_n 3, 1) := by decide +kernel
theorem dX6_note_82 : decode cX6_note 82 = .ok (.lastore, 1) := by decide +kernel
theorem dX6_note_83 : decode cX6_note 83 = .ok (.aload_n 0, 1) := by decide +kernel
theorem dX6_note_84 : decode cX6_note 84 = .ok (.getfield 15, 3) := by decide +kernel
theorem dX6_note_87 : decode cX6_note 87 = .ok (.iload_n 1, 1) := by decide +kernel
theorem dX6_note_88 : decode cX6_note 88 = .ok (.iconst 2, 1) := by decide +kernel
theorem dX6_note_89 : decode cX6_note 89 = .ok (.imul, 1) := by decide +kernel
theorem dX6_note_90 : decode cX6_note 90 = .ok (.iconst 1, 1) := by decide +kernel
theorem dX6_note_91 : decode cX6_note 91 = .ok (.iadd, 1) := by decide +kernel
theorem dX6_note_92 : decode cX6_note 92 = .ok (.lload 5, 2) := by decide +kernel
theorem dX6_note_94 : decode cX6_note 94 = .ok (.lastore, 1) := by decide +kernel
theorem dX6_note_95 : decode cX6_note 95 = .ok (.return_, 1) := by decide +kernel
theorem dX6_endsAt_0 : decode cX6_endsAt 0 = .ok (.iload_n 1, 1) := by decide +kernel
theorem dX6_endsAt_1 : decode cX6_endsAt 1 = .ok (.ifCond .lt 21, 3) := by decide +kernel
theorem dX6_endsAt_4 : decode cX6_endsAt 4 = .ok (.iload_n 1, 1) := by decide +kernel
theorem dX6_endsAt_5 : decode cX6_endsAt 5 = .ok (.sipush 191, 3) := by decide +kernel
theorem dX6_endsAt_8 : decode cX6_endsAt 8 = .ok (.if_icmp .ge 14, 3) := by decide +kernel
theorem dX6_endsAt_11 : decode cX6_endsAt 11 = .ok (.iload_n 2, 1) := by decide +kernel
theorem dX6_endsAt_12 : decode cX6_endsAt 12 = .ok (.ifCond .lt 10, 3) := by decide +kernel
theorem dX6_endsAt_15 : decode cX6_endsAt 15 = .ok (.iload_n 2, 1) := by decide +kernel
theorem dX6_endsAt_16 : decode cX6_endsAt 16 = .ok (.sipush 128, 3) := by decide +kernel
theorem dX6_endsAt_19 : decode cX6_endsAt 19 = .ok (.if_icmp .lt 5, 3) := by decide +kernel
theorem dX6_endsAt_22 : decode cX6_endsAt 22 = .ok (.iconst 0, 1) := by decide +kernel
theorem dX6_endsAt_23 : decode cX6_endsAt 23 = .ok (.ireturn, 1) := by decide +kernel
theorem dX6_endsAt_24 : decode cX6_endsAt 24 = .ok (.aload_n 0, 1) := by decide +kernel
theorem dX6_endsAt_25 : decode cX6_endsAt 25 = .ok (.getfield 15, 3) := by decide +kernel
theorem dX6_endsAt_28 : decode cX6_endsAt 28 = .ok (.iload_n 1, 1) := by decide +kernel
theorem dX6_endsAt_29 : decode cX6_endsAt 29 = .ok (.iconst 2, 1) := by decide +kernel
theorem dX6_endsAt_30 : decode cX6_endsAt 30 = .ok (.imul, 1) := by decide +kernel
theorem dX6_endsAt_31 : decode cX6_endsAt 31 = .ok (.iload_n 2, 1) := by decide +kernel
theorem dX6_endsAt_32 : decode cX6_endsAt 32 = .ok (.bipush 64, 2) := by decide +kernel
theorem dX6_endsAt_34 : decode cX6_endsAt 34 = .ok (.idiv, 1) := by decide +kernel
theorem dX6_endsAt_35 : decode cX6_endsAt 35 = .ok (.iadd, 1) := by decide +kernel
theorem dX6_endsAt_36 : decode cX6_endsAt 36 = .ok (.laload, 1) := by decide +kernel
theorem dX6_endsAt_37 : decode cX6_endsAt 37 = .ok (.iload_n 2, 1) := by decide +kernel
theorem dX6_endsAt_38 : decode cX6_endsAt 38 = .ok (.bipush 64, 2) := by decide +kernel
theorem dX6_endsAt_40 : decode cX6_endsAt 40 = .ok (.irem, 1) := by decide +kernel
theorem dX6_endsAt_41 : decode cX6_endsAt 41 = .ok (.lushr, 1) := by decide +kernel
theorem dX6_endsAt_42 : decode cX6_endsAt 42 = .ok (.lconst 1, 1) := by decide +kernel
theorem dX6_endsAt_43 : decode cX6_endsAt 43 = .ok (.land, 1) := by decide +kernel
theorem dX6_endsAt_44 : decode cX6_endsAt 44 = .ok (.lconst 1, 1) := by decide +kernel
theorem dX6_endsAt_45 : decode cX6_endsAt 45 = .ok (.lcmp, 1) := by decide +kernel
theorem dX6_endsAt_46 : decode cX6_endsAt 46 = .ok (.ifCond .ne 7, 3) := by decide +kernel
theorem dX6_endsAt_49 : decode cX6_endsAt 49 = .ok (.iconst 1, 1) := by decide +kernel
theorem dX6_endsAt_50 : decode cX6_endsAt 50 = .ok (.goto 4, 3) := by decide +kernel
theorem dX6_endsAt_53 : decode cX6_endsAt 53 = .ok (.iconst 0, 1) := by decide +kernel
theorem dX6_endsAt_54 : decode cX6_endsAt 54 = .ok (.ireturn, 1) := by decide +kernel
theorem dX6_pickAlike_0 : decode cX6_pickAlike 0 = .ok (.iconst 0, 1) := by decide +kernel
theorem dX6_pickAlike_1 : decode cX6_pickAlike 1 = .ok (.sipush 190, 3) := by decide +kernel
theorem dX6_pickAlike_4 : decode cX6_pickAlike 4 = .ok (.iload_n 1, 1) := by decide +kernel
theorem dX6_pickAlike_5 : decode cX6_pickAlike 5 = .ok (.bipush 10, 2) := by decide +kernel
theorem dX6_pickAlike_7 : decode cX6_pickAlike 7 = .ok (.isub, 1) := by decide +kernel
theorem dX6_pickAlike_8 : decode cX6_pickAlike 8 = .ok (.invokestatic 44, 3) := by decide +kernel
theorem dX6_pickAlike_11 : decode cX6_pickAlike 11 = .ok (.invokestatic 50, 3) := by decide +kernel
theorem dX6_pickAlike_14 : decode cX6_pickAlike 14 = .ok (.istore_n 2, 1) := by decide +kernel
theorem dX6_pickAlike_15 : decode cX6_pickAlike 15 = .ok (.iconst 0, 1) := by decide +kernel
theorem dX6_pickAlike_16 : decode cX6_pickAlike 16 = .ok (.istore_n 3, 1) := by decide +kernel
theorem dX6_pickAlike_17 : decode cX6_pickAlike 17 = .ok (.iload_n 3, 1) := by decide +kernel
theorem dX6_pickAlike_18 : decode cX6_pickAlike 18 = .ok (.sipush 191, 3) := by decide +kernel
theorem dX6_pickAlike_21 : decode cX6_pickAlike 21 = .ok (.if_icmp .ge 73, 3) := by decide +kernel
theorem dX6_pickAlike_24 : decode cX6_pickAlike 24 = .ok (.aload_n 0, 1) := by decide +kernel
theorem dX6_pickAlike_25 : decode cX6_pickAlike 25 = .ok (.getfield 19, 3) := by decide +kernel
theorem dX6_pickAlike_28 : decode cX6_pickAlike 28 = .ok (.iload_n 3, 1) := by decide +kernel
theorem dX6_pickAlike_29 : decode cX6_pickAlike 29 = .ok (.aload_n 0, 1) := by decide +kernel
theorem dX6_pickAlike_30 : decode cX6_pickAlike 30 = .ok (.getfield 9, 3) := by decide +kernel
theorem dX6_pickAlike_33 : decode cX6_pickAlike 33 = .ok (.iload_n 3, 1) := by decide +kernel
theorem dX6_pickAlike_34 : decode cX6_pickAlike 34 = .ok (.baload, 1) := by decide +kernel
theorem dX6_pickAlike_35 : decode cX6_pickAlike 35 = .ok (.ifCond .eq 51, 3) := by decide +kernel
theorem dX6_pickAlike_38 : decode cX6_pickAlike 38 = .ok (.aload_n 0, 1) := by decide +kernel
theorem dX6_pickAlike_39 : decode cX6_pickAlike 39 = .ok (.getfield 15, 3) := by decide +kernel
theorem dX6_pickAlike_42 : decode cX6_pickAlike 42 = .ok (.iload_n 3, 1) := by decide +kernel
theorem dX6_pickAlike_43 : decode cX6_pickAlike 43 = .ok (.iconst 2, 1) := by decide +kernel
theorem dX6_pickAlike_44 : decode cX6_pickAlike 44 = .ok (.imul, 1) := by decide +kernel
theorem dX6_pickAlike_45 : decode cX6_pickAlike 45 = .ok (.laload, 1) := by decide +kernel
theorem dX6_pickAlike_46 : decode cX6_pickAlike 46 = .ok (.aload_n 0, 1) := by decide +kernel
theorem dX6_pickAlike_47 : decode cX6_pickAlike 47 = .ok (.getfield 15, 3) := by decide +kernel
theorem dX6_pickAlike_50 : decode cX6_pickAlike 50 = .ok (.iload_n 2, 1) := by decide +kernel
theorem dX6_pickAlike_51 : decode cX6_pickAlike 51 = .ok (.iconst 2, 1) := by decide +kernel
theorem dX6_pickAlike_52 : decode cX6_pickAlike 52 = .ok (.imul, 1) := by decide +kernel
theorem dX6_pickAlike_53 : decode cX6_pickAlike 53 = .ok (.laload, 1) := by decide +kernel
theorem dX6_pickAlike_54 : decode cX6_pickAlike 54 = .ok (.lcmp, 1) := by decide +kernel
theorem dX6_pickAlike_55 : decode cX6_pickAlike 55 = .ok (.ifCond .ne 31, 3) := by decide +kernel
theorem dX6_pickAlike_58 : decode cX6_pickAlike 58 = .ok (.aload_n 0, 1) := by decide +kernel
theorem dX6_pickAlike_59 : decode cX6_pickAlike 59 = .ok (.getfield 15, 3) := by decide +kernel
theorem dX6_pickAlike_62 : decode cX6_pickAlike 62 = .ok (.iload_n 3, 1) := by decide +kernel
theorem dX6_pickAlike_63 : decode cX6_pickAlike 63 = .ok (.iconst 2, 1) := by decide +kernel
theorem dX6_pickAlike_64 : decode cX6_pickAlike 64 = .ok (.imul, 1) := by decide +kernel
theorem dX6_pickAlike_65 : decode cX6_pickAlike 65 = .ok (.iconst 1, 1) := by decide +kernel
theorem dX6_pickAlike_66 : decode cX6_pickAlike 66 = .ok (.iadd, 1) := by decide +kernel
theorem dX6_pickAlike_67 : decode cX6_pickAlike 67 = .ok (.laload, 1) := by decide +kernel
theorem dX6_pickAlike_68 : decode cX6_pickAlike 68 = .ok (.aload_n 0, 1) := by decide +kernel
theorem dX6_pickAlike_69 : decode cX6_pickAlike 69 = .ok (.getfield 15, 3) := by decide +kernel
theorem dX6_pickAlike_72 : decode cX6_pickAlike 72 = .ok (.iload_n 2, 1) := by decide +kernel
theorem dX6_pickAlike_73 : decode cX6_pickAlike 73 = .ok (.iconst 2, 1) := by decide +kernel
theorem dX6_pickAlike_74 : decode cX6_pickAlike 74 = .ok (.imul, 1) := by decide +kernel
theorem dX6_pickAlike_75 : decode cX6_pickAlike 75 = .ok (.iconst 1, 1) := by decide +kernel
theorem dX6_pickAlike_76 : decode cX6_pickAlike 76 = .ok (.iadd, 1) := by decide +kernel
theorem dX6_pickAlike_77 : decode cX6_pickAlike 77 = .ok (.laload, 1) := by decide +kernel
theorem dX6_pickAlike_78 : decode cX6_pickAlike 78 = .ok (.lcmp, 1) := by decide +kernel
theorem dX6_pickAlike_79 : decode cX6_pickAlike 79 = .ok (.ifCond .ne 7, 3) := by decide +kernel
theorem dX6_pickAlike_82 : decode cX6_pickAlike 82 = .ok (.iconst 1, 1) := by decide +kernel
theorem dX6_pickAlike_83 : decode cX6_pickAlike 83 = .ok (.goto 4, 3) := by decide +kernel
theorem dX6_pickAlike_86 : decode cX6_pickAlike 86 = .ok (.iconst 0, 1) := by decide +kernel
theorem dX6_pickAlike_87 : decode cX6_pickAlike 87 = .ok (.bastore, 1) := by decide +kernel
theorem dX6_pickAlike_88 : decode cX6_pickAlike 88 = .ok (.iinc 3 1, 3) := by decide +kernel
theorem dX6_pickAlike_91 : decode cX6_pickAlike 91 = .ok (.goto (-74), 3) := by decide +kernel
theorem dX6_pickAlike_94 : decode cX6_pickAlike 94 = .ok (.return_, 1) := by decide +kernel
theorem dX6_pickSeen_0 : decode cX6_pickSeen 0 = .ok (.iconst 0, 1) := by decide +kernel
theorem dX6_pickSeen_1 : decode cX6_pickSeen 1 = .ok (.istore 4, 2) := by decide +kernel
theorem dX6_pickSeen_3 : decode cX6_pickSeen 3 = .ok (.iload 4, 2) := by decide +kernel
theorem dX6_pickSeen_5 : decode cX6_pickSeen 5 = .ok (.sipush 191, 3) := by decide +kernel
theorem dX6_pickSeen_8 : decode cX6_pickSeen 8 = .ok (.if_icmp .ge 98, 3) := by decide +kernel
theorem dX6_pickSeen_11 : decode cX6_pickSeen 11 = .ok (.aload_n 0, 1) := by decide +kernel
theorem dX6_pickSeen_12 : decode cX6_pickSeen 12 = .ok (.getfield 19, 3) := by decide +kernel
theorem dX6_pickSeen_15 : decode cX6_pickSeen 15 = .ok (.iload 4, 2) := by decide +kernel
theorem dX6_pickSeen_17 : decode cX6_pickSeen 17 = .ok (.aload_n 0, 1) := by decide +kernel
theorem dX6_pickSeen_18 : decode cX6_pickSeen 18 = .ok (.getfield 9, 3) := by decide +kernel
theorem dX6_pickSeen_21 : decode cX6_pickSeen 21 = .ok (.iload 4, 2) := by decide +kernel
theorem dX6_pickSeen_23 : decode cX6_pickSeen 23 = .ok (.baload, 1) := by decide +kernel
theorem dX6_pickSeen_24 : decode cX6_pickSeen 24 = .ok (.bastore, 1) := by decide +kernel
theorem dX6_pickSeen_25 : decode cX6_pickSeen 25 = .ok (.iconst 0, 1) := by decide +kernel
theorem dX6_pickSeen_26 : decode cX6_pickSeen 26 = .ok (.istore 5, 2) := by decide +kernel
theorem dX6_pickSeen_28 : decode cX6_pickSeen 28 = .ok (.iload 5, 2) := by decide +kernel
theorem dX6_pickSeen_30 : decode cX6_pickSeen 30 = .ok (.aload_n 2, 1) := by decide +kernel
theorem dX6_pickSeen_31 : decode cX6_pickSeen 31 = .ok (.invokevirtual 53, 3) := by decide +kernel
theorem dX6_pickSeen_34 : decode cX6_pickSeen 34 = .ok (.if_icmp .ge 66, 3) := by decide +kernel
theorem dX6_pickSeen_37 : decode cX6_pickSeen 37 = .ok (.aload_n 0, 1) := by decide +kernel
theorem dX6_pickSeen_38 : decode cX6_pickSeen 38 = .ok (.iload 4, 2) := by decide +kernel
theorem dX6_pickSeen_40 : decode cX6_pickSeen 40 = .ok (.aload_n 1, 1) := by decide +kernel
theorem dX6_pickSeen_41 : decode cX6_pickSeen 41 = .ok (.aload_n 2, 1) := by decide +kernel
theorem dX6_pickSeen_42 : decode cX6_pickSeen 42 = .ok (.iload 5, 2) := by decide +kernel
theorem dX6_pickSeen_44 : decode cX6_pickSeen 44 = .ok (.invokevirtual 58, 3) := by decide +kernel
theorem dX6_pickSeen_47 : decode cX6_pickSeen 47 = .ok (.invokevirtual 61, 3) := by decide +kernel
theorem dX6_pickSeen_50 : decode cX6_pickSeen 50 = .ok (.istore 6, 2) := by decide +kernel
theorem dX6_pickSeen_52 : decode cX6_pickSeen 52 = .ok (.aload_n 0, 1) := by decide +kernel
theorem dX6_pickSeen_53 : decode cX6_pickSeen 53 = .ok (.getfield 19, 3) := by decide +kernel
theorem dX6_pickSeen_56 : decode cX6_pickSeen 56 = .ok (.iload 4, 2) := by decide +kernel
theorem dX6_pickSeen_58 : decode cX6_pickSeen 58 = .ok (.aload_n 0, 1) := by decide +kernel
theorem dX6_pickSeen_59 : decode cX6_pickSeen 59 = .ok (.getfield 19, 3) := by decide +kernel
theorem dX6_pickSeen_62 : decode cX6_pickSeen 62 = .ok (.iload 4, 2) := by decide +kernel
theorem dX6_pickSeen_64 : decode cX6_pickSeen 64 = .ok (.baload, 1) := by decide +kernel
theorem dX6_pickSeen_65 : decode cX6_pickSeen 65 = .ok (.ifCond .eq 27, 3) := by decide +kernel
theorem dX6_pickSeen_68 : decode cX6_pickSeen 68 = .ok (.iload 6, 2) := by decide +kernel
theorem dX6_pickSeen_70 : decode cX6_pickSeen 70 = .ok (.aload_n 3, 1) := by decide +kernel
theorem dX6_pickSeen_71 : decode cX6_pickSeen 71 = .ok (.iload 5, 2) := by decide +kernel
theorem dX6_pickSeen_73 : decode cX6_pickSeen 73 = .ok (.invokevirtual 58, 3) := by decide +kernel
theorem dX6_pickSeen_76 : decode cX6_pickSeen 76 = .ok (.iconst 1, 1) := by decide +kernel
theorem dX6_pickSeen_77 : decode cX6_pickSeen 77 = .ok (.if_icmp .ne 7, 3) := by decide +kernel
theorem dX6_pickSeen_80 : decode cX6_pickSeen 80 = .ok (.iconst 1, 1) := by decide +kernel
theorem dX6_pickSeen_81 : decode cX6_pickSeen 81 = .ok (.goto 4, 3) := by decide +kernel
theorem dX6_pickSeen_84 : decode cX6_pickSeen 84 = .ok (.iconst 0, 1) := by decide +kernel
theorem dX6_pickSeen_85 : decode cX6_pickSeen 85 = .ok (.if_icmp .ne 7, 3) := by decide +kernel
theorem dX6_pickSeen_88 : decode cX6_pickSeen 88 = .ok (.iconst 1, 1) := by decide +kernel
theorem dX6_pickSeen_89 : decode cX6_pickSeen 89 = .ok (.goto 4, 3) := by decide +kernel
theorem dX6_pickSeen_92 : decode cX6_pickSeen 92 = .ok (.iconst 0, 1) := by decide +kernel
theorem dX6_pickSeen_93 : decode cX6_pickSeen 93 = .ok (.bastore, 1) := by decide +kernel
theorem dX6_pickSeen_94 : decode cX6_pickSeen 94 = .ok (.iinc 5 1, 3) := by decide +kernel
theorem dX6_pickSeen_97 : decode cX6_pickSeen 97 = .ok (.goto (-69), 3) := by decide +kernel
theorem dX6_pickSeen_100 : decode cX6_pickSeen 100 = .ok (.iinc 4 1, 3) := by decide +kernel
theorem dX6_pickSeen_103 : decode cX6_pickSeen 103 = .ok (.goto (-100), 3) := by decide +kernel
theorem dX6_pickSeen_106 : decode cX6_pickSeen 106 = .ok (.return_, 1) := by decide +kernel
theorem dX6_beginsLine_0 : decode cX6_beginsLine 0 = .ok (.iload_n 3, 1) := by decide +kernel
theorem dX6_beginsLine_1 : decode cX6_beginsLine 1 = .ok (.ifCond .eq 18, 3) := by decide +kernel
theorem dX6_beginsLine_4 : decode cX6_beginsLine 4 = .ok (.aload_n 0, 1) := by decide +kernel
theorem dX6_beginsLine_5 : decode cX6_beginsLine 5 = .ok (.iload_n 1, 1) := by decide +kernel
theorem dX6_beginsLine_6 : decode cX6_beginsLine 6 = .ok (.aload_n 2, 1) := by decide +kernel
theorem dX6_beginsLine_7 : decode cX6_beginsLine 7 = .ok (.iload_n 3, 1) := by decide +kernel
theorem dX6_beginsLine_8 : decode cX6_beginsLine 8 = .ok (.iconst 1, 1) := by decide +kernel
theorem dX6_beginsLine_9 : decode cX6_beginsLine 9 = .ok (.isub, 1) := by decide +kernel
theorem dX6_beginsLine_10 : decode cX6_beginsLine 10 = .ok (.invokevirtual 65, 3) := by decide +kernel
theorem dX6_beginsLine_13 : decode cX6_beginsLine 13 = .ok (.invokevirtual 70, 3) := by decide +kernel
theorem dX6_beginsLine_16 : decode cX6_beginsLine 16 = .ok (.ifCond .eq 7, 3) := by decide +kernel
theorem dX6_beginsLine_19 : decode cX6_beginsLine 19 = .ok (.iconst 1, 1) := by decide +kernel
theorem dX6_beginsLine_20 : decode cX6_beginsLine 20 = .ok (.goto 4, 3) := by decide +kernel
theorem dX6_beginsLine_23 : decode cX6_beginsLine 23 = .ok (.iconst 0, 1) := by decide +kernel
theorem dX6_beginsLine_24 : decode cX6_beginsLine 24 = .ok (.ireturn, 1) := by decide +kernel
theorem dX6_picked_0 : decode cX6_picked 0 = .ok (.iconst 0, 1) := by decide +kernel
theorem dX6_picked_1 : decode cX6_picked 1 = .ok (.istore_n 2, 1) := by decide +kernel
theorem dX6_picked_2 : decode cX6_picked 2 = .ok (.bipush (-9), 2) := by decide +kernel
theorem dX6_picked_4 : decode cX6_picked 4 = .ok (.istore_n 3, 1) := by decide +kernel
theorem dX6_picked_5 : decode cX6_picked 5 = .ok (.bipush (-9), 2) := by decide +kernel
theorem dX6_picked_7 : decode cX6_picked 7 = .ok (.istore 4, 2) := by decide +kernel
theorem dX6_picked_9 : decode cX6_picked 9 = .ok (.iconst 0, 1) := by decide +kernel
theorem dX6_picked_10 : decode cX6_picked 10 = .ok (.istore 5, 2) := by decide +kernel
theorem dX6_picked_12 : decode cX6_picked 12 = .ok (.iload 5, 2) := by decide +kernel
theorem dX6_picked_14 : decode cX6_picked 14 = .ok (.sipush 191, 3) := by decide +kernel
theorem dX6_picked_17 : decode cX6_picked 17 = .ok (.if_icmp .ge 45, 3) := by decide +kernel
theorem dX6_picked_20 : decode cX6_picked 20 = .ok (.aload_n 0, 1) := by decide +kernel
theorem dX6_picked_21 : decode cX6_picked 21 = .ok (.getfield 19, 3) := by decide +kernel
theorem dX6_picked_24 : decode cX6_picked 24 = .ok (.iload 5, 2) := by decide +kernel
theorem dX6_picked_26 : decode cX6_picked 26 = .ok (.baload, 1) := by decide +kernel
theorem dX6_picked_27 : decode cX6_picked 27 = .ok (.ifCond .eq 29, 3) := by decide +kernel
theorem dX6_picked_30 : decode cX6_picked 30 = .ok (.iinc 2 1, 3) := by decide +kernel
theorem dX6_picked_33 : decode cX6_picked 33 = .ok (.iload_n 3, 1) := by decide +kernel
theorem dX6_picked_34 : decode cX6_picked 34 = .ok (.bipush (-9), 2) := by decide +kernel
theorem dX6_picked_36 : decode cX6_picked 36 = .ok (.if_icmp .ne 11, 3) := by decide +kernel
theorem dX6_picked_39 : decode cX6_picked 39 = .ok (.bipush 10, 2) := by decide +kernel
theorem dX6_picked_41 : decode cX6_picked 41 = .ok (.iload 5, 2) := by decide +kernel
theorem dX6_picked_43 : decode cX6_picked 43 = .ok (.iadd, 1) := by decide +kernel
theorem dX6_picked_44 : decode cX6_picked 44 = .ok (.goto 4, 3) := by decide +kernel
theorem dX6_picked_47 : decode cX6_picked 47 = .ok (.iload_n 3, 1) := by decide +kernel
theorem dX6_picked_48 : decode cX6_picked 48 = .ok (.istore_n 3, 1) := by decide +kernel
theorem dX6_picked_49 : decode cX6_picked 49 = .ok (.bipush 10, 2) := by decide +kernel
theorem dX6_picked_51 : decode cX6_picked 51 = .ok (.iload 5, 2) := by decide +kernel
theorem dX6_picked_53 : decode cX6_picked 53 = .ok (.iadd, 1) := by decide +kernel
theorem dX6_picked_54 : decode cX6_picked 54 = .ok (.istore 4, 2) := by decide +kernel
theorem dX6_picked_56 : decode cX6_picked 56 = .ok (.iinc 5 1, 3) := by decide +kernel
theorem dX6_picked_59 : decode cX6_picked 59 = .ok (.goto (-47), 3) := by decide +kernel
theorem dX6_picked_62 : decode cX6_picked 62 = .ok (.iload_n 1, 1) := by decide +kernel
theorem dX6_picked_63 : decode cX6_picked 63 = .ok (.ifCond .ne 7, 3) := by decide +kernel
theorem dX6_picked_66 : decode cX6_picked 66 = .ok (.iload_n 2, 1) := by decide +kernel
theorem dX6_picked_67 : decode cX6_picked 67 = .ok (.goto 14, 3) := by decide +kernel
theorem dX6_picked_70 : decode cX6_picked 70 = .ok (.iload_n 1, 1) := by decide +kernel
theorem dX6_picked_71 : decode cX6_picked 71 = .ok (.iconst 1, 1) := by decide +kernel
theorem dX6_picked_72 : decode cX6_picked 72 = .ok (.if_icmp .ne 7, 3) := by decide +kernel
theorem dX6_picked_75 : decode cX6_picked 75 = .ok (.iload_n 3, 1) := by decide +kernel
theorem dX6_picked_76 : decode cX6_picked 76 = .ok (.goto 5, 3) := by decide +kernel
theorem dX6_picked_79 : decode cX6_picked 79 = .ok (.iload 4, 2) := by decide +kernel
theorem dX6_picked_81 : decode cX6_picked 81 = .ok (.ireturn, 1) := by decide +kernel
theorem dX7_init_0 : decode cX7_init 0 = .ok (.aload_n 0, 1) := by decide +kernel
theorem dX7_init_1 : decode cX7_init 1 = .ok (.invokespecial 3, 3) := by decide +kernel
theorem dX7_init_4 : decode cX7_init 4 = .ok (.aload_n 0, 1) := by decide +kernel
theorem dX7_init_5 : decode cX7_init 5 = .ok (.new 9, 3) := by decide +kernel
theorem dX7_init_8 : decode cX7_init 8 = .ok (.dup, 1) := by decide +kernel
theorem dX7_init_9 : decode cX7_init 9 = .ok (.sipush 200, 3) := by decide +kernel
theorem dX7_init_12 : decode cX7_init 12 = .ok (.invokespecial 11, 3) := by decide +kernel
theorem dX7_init_15 : decode cX7_init 15 = .ok (.putfield 14, 3) := by decide +kernel
theorem dX7_init_18 : decode cX7_init 18 = .ok (.aload_n 0, 1) := by decide +kernel
theorem dX7_init_19 : decode cX7_init 19 = .ok (.new 18, 3) := by decide +kernel
theorem dX7_init_22 : decode cX7_init 22 = .ok (.dup, 1) := by decide +kernel
theorem dX7_init_23 : decode cX7_init 23 = .ok (.invokespecial 20, 3) := by decide +kernel
theorem dX7_init_26 : decode cX7_init 26 = .ok (.putfield 21, 3) := by decide +kernel
theorem dX7_init_29 : decode cX7_init 29 = .ok (.aload_n 0, 1) := by decide +kernel
theorem dX7_init_30 : decode cX7_init 30 = .ok (.new 25, 3) := by decide +kernel
theorem dX7_init_33 : decode cX7_init 33 = .ok (.dup, 1) := by decide +kernel
theorem dX7_init_34 : decode cX7_init 34 = .ok (.invokespecial 27, 3) := by decide +kernel
theorem dX7_init_37 : decode cX7_init 37 = .ok (.putfield 28, 3) := by decide +kernel
theorem dX7_init_40 : decode cX7_init 40 = .ok (.aload_n 0, 1) := by decide +kernel
theorem dX7_init_41 : decode cX7_init 41 = .ok (.new 9, 3) := by decide +kernel
theorem dX7_init_44 : decode cX7_init 44 = .ok (.dup, 1) := by decide +kernel
theorem dX7_init_45 : decode cX7_init 45 = .ok (.bipush 100, 2) := by decide +kernel
theorem dX7_init_47 : decode cX7_init 47 = .ok (.invokespecial 11, 3) := by decide +kernel
theorem dX7_init_50 : decode cX7_init 50 = .ok (.putfield 32, 3) := by decide +kernel
theorem dX7_init_53 : decode cX7_init 53 = .ok (.aload_n 0, 1) := by decide +kernel
theorem dX7_init_54 : decode cX7_init 54 = .ok (.new 9, 3) := by decide +kernel
theorem dX7_init_57 : decode cX7_init 57 = .ok (.dup, 1) := by decide +kernel
theorem dX7_init_58 : decode cX7_init 58 = .ok (.bipush 6, 2) := by decide +kernel
theorem dX7_init_60 : decode cX7_init 60 = .ok (.invokespecial 11, 3) := by decide +kernel
theorem dX7_init_63 : decode cX7_init 63 = .ok (.putfield 35, 3) := by decide +kernel
theorem dX7_init_66 : decode cX7_init 66 = .ok (.aload_n 0, 1) := by decide +kernel
theorem dX7_init_67 : decode cX7_init 67 = .ok (.new 9, 3) := by decide +kernel
theorem dX7_init_70 : decode cX7_init 70 = .ok (.dup, 1) := by decide +kernel
theorem dX7_init_71 : decode cX7_init 71 = .ok (.bipush 6, 2) := by decide +kernel
theorem dX7_init_73 : decode cX7_init 73 = .ok (.invokespecial 11, 3) := by decide +kernel
theorem dX7_init_76 : decode cX7_init 76 = .ok (.putfield 38, 3) := by decide +kernel
theorem dX7_init_79 : decode cX7_init 79 = .ok (.aload_n 0, 1) := by decide +kernel
theorem dX7_init_80 : decode cX7_init 80 = .ok (.new 41, 3) := by decide +kernel
theorem dX7_init_83 : decode cX7_init 83 = .ok (.dup, 1) := by decide +kernel
theorem dX7_init_84 : decode cX7_init 84 = .ok (.invokespecial 43, 3) := by decide +kernel
theorem dX7_init_87 : decode cX7_init 87 = .ok (.putfield 44, 3) := by decide +kernel
theorem dX7_init_90 : decode cX7_init 90 = .ok (.aload_n 0, 1) := by decide +kernel
theorem dX7_init_91 : decode cX7_init 91 = .ok (.new 48, 3) := by decide +kernel
theorem dX7_init_94 : decode cX7_init 94 = .ok (.dup, 1) := by decide +kernel
theorem dX7_init_95 : decode cX7_init 95 = .ok (.invokespecial 50, 3) := by decide +kernel
theorem dX7_init_98 : decode cX7_init 98 = .ok (.putfield 51, 3) := by decide +kernel
theorem dX7_init_101 : decode cX7_init 101 = .ok (.aload_n 0, 1) := by decide +kernel
theorem dX7_init_102 : decode cX7_init 102 = .ok (.new 55, 3) := by decide +kernel
theorem dX7_init_105 : decode cX7_init 105 = .ok (.dup, 1) := by decide +kernel
theorem dX7_init_106 : decode cX7_init 106 = .ok (.invokespecial 57, 3) := by decide +kernel
theorem dX7_init_109 : decode cX7_init 109 = .ok (.putfield 58, 3) := by decide +kernel
theorem dX7_init_112 : decode cX7_init 112 = .ok (.aload_n 0, 1) := by decide +kernel
theorem dX7_init_113 : decode cX7_init 113 = .ok (.new 62, 3) := by decide +kernel
theorem dX7_init_116 : decode cX7_init 116 = .ok (.dup, 1) := by decide +kernel
theorem dX7_init_117 : decode cX7_init 117 = .ok (.invokespecial 64, 3) := by decide +kernel
theorem dX7_init_120 : decode cX7_init 120 = .ok (.putfield 65, 3) := by decide +kernel
theorem dX7_init_123 : decode cX7_init 123 = .ok (.aload_n 0, 1) := by decide +kernel
theorem dX7_init_124 : decode cX7_init 124 = .ok (.iconst 1, 1) := by decide +kernel
theorem dX7_init_125 : decode cX7_init 125 = .ok (.putfield 69, 3) := by decide +kernel
theorem dX7_init_128 : decode cX7_init 128 = .ok (.aload_n 0, 1) := by decide +kernel
theorem dX7_init_129 : decode cX7_init 129 = .ok (.iconst 1, 1) := by decide +kernel
theorem dX7_init_130 : decode cX7_init 130 = .ok (.putfield 73, 3) := by decide +kernel
theorem dX7_init_133 : decode cX7_init 133 = .ok (.return_, 1) := by decide +kernel
theorem dX7_type_0 : decode cX7_type 0 = .ok (.iload_n 1, 1) := by decide +kernel
theorem dX7_type_1 : decode cX7_type 1 = .ok (.ifCond .lt 10, 3) := by decide +kernel
theorem dX7_type_4 : decode cX7_type 4 = .ok (.iload_n 1, 1) := by decide +kernel
theorem dX7_type_5 : decode cX7_type 5 = .ok (.sipush 255, 3) := by decide +kernel
theorem dX7_type_8 : decode cX7_type 8 = .ok (.if_icmp .le 5, 3) := by decide +kernel
theorem dX7_type_11 : decode cX7_type 11 = .ok (.iconst (-1), 1) := by decide +kernel
theorem dX7_type_12 : decode cX7_type 12 = .ok (.ireturn, 1) := by decide +kernel
theorem dX7_type_13 : decode cX7_type 13 = .ok (.aload_n 0, 1) := by decide +kernel
theorem dX7_type_14 : decode cX7_type 14 = .ok (.getfield 14, 3) := by decide +kernel
theorem dX7_type_17 : decode cX7_type 17 = .ok (.iload_n 1, 1) := by decide +kernel
theorem dX7_type_18 : decode cX7_type 18 = .ok (.invokevirtual 76, 3) := by decide +kernel
theorem dX7_type_21 : decode cX7_type 21 = .ok (.ifCond .eq 13, 3) := by decide +kernel
theorem dX7_type_24 : decode cX7_type 24 = .ok (.aload_n 0, 1) := by decide +kernel
theorem dX7_type_25 : decode cX7_type 25 = .ok (.getfield 14, 3) := by decide +kernel
theorem dX7_type_28 : decode cX7_type 28 = .ok (.invokevirtual 80, 3) := by decide +kernel
theorem dX7_type_31 : decode cX7_type 31 = .ok (.goto 5, 3) := by decide +kernel
theorem dX7_type_34 : decode cX7_type 34 = .ok (.bipush (-3), 2) := by decide +kernel
theorem dX7_type_36 : decode cX7_type 36 = .ok (.ireturn, 1) := by decide +kernel
theorem dX7_clear_0 : decode cX7_clear 0 = .ok (.aload_n 0, 1) := by decide +kernel
theorem dX7_clear_1 : decode cX7_clear 1 = .ok (.getfield 14, 3) := by decide +kernel
theorem dX7_clear_4 : decode cX7_clear 4 = .ok (.invokevirtual 80, 3) := by decide +kernel
theorem dX7_clear_7 : decode cX7_clear 7 = .ok (.istore_n 1, 1) := by decide +kernel
theorem dX7_clear_8 : decode cX7_clear 8 = .ok (.aload_n 0, 1) := by decide +kernel
theorem dX7_clear_9 : decode cX7_clear 9 = .ok (.getfield 14, 3) := by decide +kernel
theorem dX7_clear_12 : decode cX7_clear 12 = .ok (.invokevirtual 84, 3) := by decide +kernel
theorem dX7_clear_15 : decode cX7_clear 15 = .ok (.iload_n 1, 1) := by decide +kernel
theorem dX7_clear_16 : decode cX7_clear 16 = .ok (.ireturn, 1) := by decide +kernel
theorem dX7_words_0 : decode cX7_words 0 = .ok (.aload_n 0, 1) := by decide +kernel
theorem dX7_words_1 : decode cX7_words 1 = .ok (.getfield 14, 3) := by decide +kernel
theorem dX7_words_4 : decode cX7_words 4 = .ok (.invokestatic 87, 3) := by decide +kernel
theorem dX7_words_7 : decode cX7_words 7 = .ok (.istore_n 1, 1) := by decide +kernel
theorem dX7_words_8 : decode cX7_words 8 = .ok (.iload_n 1, 1) := by decide +kernel
theorem dX7_words_9 : decode cX7_words 9 = .ok (.ifCond .lt 8, 3) := by decide +kernel
theorem dX7_words_12 : decode cX7_words 12 = .ok (.bipush (-10), 2) := by decide +kernel
theorem dX7_words_14 : decode cX7_words 14 = .ok (.iload_n 1, 1) := by decide +kernel
theorem dX7_words_15 : decode cX7_words 15 = .ok (.isub, 1) := by decide +kernel
theorem dX7_words_16 : decode cX7_words 16 = .ok (.ireturn, 1) := by decide +kernel
theorem dX7_words_17 : decode cX7_words 17 = .ok (.aload_n 0, 1) := by decide +kernel
theorem dX7_words_18 : decode cX7_words 18 = .ok (.getfield 21, 3) := by decide +kernel
theorem dX7_words_21 : decode cX7_words 21 = .ok (.aload_n 0, 1) := by decide +kernel
theorem dX7_words_22 : decode cX7_words 22 = .ok (.getfield 14, 3) := by decide +kernel
theorem dX7_words_25 : decode cX7_words 25 = .ok (.invokevirtual 91, 3) := by decide +kernel
theorem dX7_words_28 : decode cX7_words 28 = .ok (.aload_n 0, 1) := by decide +kernel
theorem dX7_words_29 : decode cX7_words 29 = .ok (.getfield 14, 3) := by decide +kernel
theorem dX7_words_32 : decode cX7_words 32 = .ok (.invokevirtual 84, 3) := by decide +kernel
theorem dX7_words_35 : decode cX7_words 35 = .ok (.aload_n 0, 1) := by decide +kernel
theorem dX7_words_36 : decode cX7_words 36 = .ok (.getfield 28, 3) := by decide +kernel
theorem dX7_words_39 : decode cX7_words 39 = .ok (.invokevirtual 95, 3) := by decide +kernel
theorem dX7_words_42 : decode cX7_words 42 = .ok (.aload_n 0, 1) := by decide +kernel
theorem dX7_words_43 : decode cX7_words 43 = .ok (.getfield 32, 3) := by decide +kernel
theorem dX7_words_46 : decode cX7_words 46 = .ok (.invokevirtual 84, 3) := by decide +kernel
theorem dX7_words_49 : decode cX7_words 49 = .ok (.aload_n 0, 1) := by decide +kernel
theorem dX7_words_50 : decode cX7_words 50 = .ok (.getfield 35, 3) := by decide +kernel
theorem dX7_words_53 : decode cX7_words 53 = .ok (.invokevirtual 84, 3) := by decide +kernel
theorem dX7_words_56 : decode cX7_words 56 = .ok (.aload_n 0, 1) := by decide +kernel
theorem dX7_words_57 : decode cX7_words 57 = .ok (.getfield 38, 3) := by decide +kernel
theorem dX7_words_60 : decode cX7_words 60 = .ok (.invokevirtual 84, 3) := by decide +kernel
theorem dX7_words_63 : decode cX7_words 63 = .ok (.aload_n 0, 1) := by decide +kernel
theorem dX7_words_64 : decode cX7_words 64 = .ok (.iconst 1, 1) := by decide +kernel
theorem dX7_words_65 : decode cX7_words 65 = .ok (.putfield 69, 3) := by decide +kernel
theorem dX7_words_68 : decode cX7_words 68 = .ok (.aload_n 0, 1) := by decide +kernel
theorem dX7_words_69 : decode cX7_words 69 = .ok (.iconst 1, 1) := by decide +kernel
theorem dX7_words_70 : decode cX7_words 70 = .ok (.putfield 73, 3) := by decide +kernel
theorem dX7_words_73 : decode cX7_words 73 = .ok (.aload_n 0, 1) := by decide +kernel
theorem dX7_words_74 : decode cX7_words 74 = .ok (.getfield 21, 3) := by decide +kernel
theorem dX7_words_77 : decode cX7_words 77 = .ok (.invokevirtual 98, 3) := by decide +kernel
theorem dX7_words_80 : decode cX7_words 80 = .ok (.ireturn, 1) := by decide +kernel
theorem dX7_word_0 : decode cX7_word 0 = .ok (.iload_n 1, 1) := by decide +kernel
theorem dX7_word_1 : decode cX7_word 1 = .ok (.ifCond .lt 19, 3) := by decide +kernel
theorem dX7_word_4 : decode cX7_word 4 = .ok (.iload_n 1, 1) := by decide +kernel
theorem dX7_word_5 : decode cX7_word 5 = .ok (.aload_n 0, 1) := by decide +kernel
theorem dX7_word_6 : decode cX7_word 6 = .ok (.getfield 21, 3) := by decide +kernel
theorem dX7_word_9 : decode cX7_word 9 = .ok (.invokevirtual 98, 3) := by decide +kernel
theorem dX7_word_12 : decode cX7_word 12 = .ok (.if_icmp .ge 8, 3) := by decide +kernel
theorem dX7_word_15 : decode cX7_word 15 = .ok (.iload_n 2, 1) := by decide +kernel
theorem dX7_word_16 : decode cX7_word 16 = .ok (.iconst (-1), 1) := by decide +kernel
theorem dX7_word_17 : decode cX7_word 17 = .ok (.if_icmp .ge 5, 3) := by decide +kernel
theorem dX7_word_20 : decode cX7_word 20 = .ok (.iconst (-1), 1) := by decide +kernel
theorem dX7_word_21 : decode cX7_word 21 = .ok (.ireturn, 1) := by decide +kernel
theorem dX7_word_22 : decode cX7_word 22 = .ok (.iload_n 2, 1) := by decide +kernel
theorem dX7_word_23 : decode cX7_word 23 = .ok (.iconst (-1), 1) := by decide +kernel
theorem dX7_word_24 : decode cX7_word 24 = .ok (.if_icmp .ne 12, 3) := by decide +kernel
theorem dX7_word_27 : decode cX7_word 27 = .ok (.aload_n 0, 1) := by decide +kernel
theorem dX7_word_28 : decode cX7_word 28 = .ok (.getfield 21, 3) := by decide +kernel
theorem dX7_word_31 : decode cX7_word 31 = .ok (.iload_n 1, 1) := by decide +kernel
theorem dX7_word_32 : decode cX7_word 32 = .ok (.invokevirtual 101, 3) := by decide +kernel
theorem dX7_word_35 : decode cX7_word 35 = .ok (.ireturn, 1) := by decide +kernel
theorem dX7_word_36 : decode cX7_word 36 = .ok (.iload_n 2, 1) := by decide +kernel
theorem dX7_word_37 : decode cX7_word 37 = .ok (.aload_n 0, 1) := by decide +kernel
theorem dX7_word_38 : decode cX7_word 38 = .ok (.getfield 21, 3) := by decide +kernel
theorem dX7_word_41 : decode cX7_word 41 = .ok (.iload_n 1, 1) := by decide +kernel
theorem dX7_word_42 : decode cX7_word 42 = .ok (.invokevirtual 101, 3) := by decide +kernel
theorem dX7_word_45 : decode cX7_word 45 = .ok (.if_icmp .ge 15, 3) := by decide +kernel
theorem dX7_word_48 : decode cX7_word 48 = .ok (.aload_n 0, 1) := by decide +kernel
theorem dX7_word_49 : decode cX7_word 49 = .ok (.getfield 21, 3) := by decide +kernel
theorem dX7_word_52 : decode cX7_word 52 = .ok (.iload_n 1, 1) := by decide +kernel
theorem dX7_word_53 : decode cX7_word 53 = .ok (.iload_n 2, 1) := by decide +kernel
theorem dX7_word_54 : decode cX7_word 54 = .ok (.invokevirtual 105, 3) := by decide +kernel
theorem dX7_word_57 : decode cX7_word 57 = .ok (.goto 5, 3) := by decide +kernel
theorem dX7_word_60 : decode cX7_word 60 = .ok (.bipush (-9), 2) := by decide +kernel
theorem dX7_word_62 : decode cX7_word 62 = .ok (.ireturn, 1) := by decide +kernel
theorem dX7_different_0 : decode cX7_different 0 = .ok (.iload_n 1, 1) := by decide +kernel
theorem dX7_different_1 : decode cX7_different 1 = .ok (.ifCond .lt 12, 3) := by decide +kernel
theorem dX7_different_4 : decode cX7_different 4 = .ok (.iload_n 2, 1) := by decide +kernel
theorem dX7_different_5 : decode cX7_different 5 = .ok (.ifCond .lt 8, 3) := by decide +kernel
theorem dX7_different_8 : decode cX7_different 8 = .ok (.iload_n 2, 1) := by decide +kernel
theorem dX7_different_9 : decode cX7_different 9 = .ok (.iconst 1, 1) := by decide +kernel
theorem dX7_different_10 : decode cX7_different 10 = .ok (.if_icmp .le 5, 3) := by decide +kernel
theorem dX7_different_13 : decode cX7_different 13 = .ok (.iconst (-1), 1) := by decide +kernel
theorem dX7_different_14 : decode cX7_different 14 = .ok (.ireturn, 1) := by decide +kernel
theorem dX7_different_15 : decode cX7_different 15 = .ok (.iload_n 1, 1) := by decide +kernel
theorem dX7_different_16 : decode cX7_different 16 = .ok (.aload_n 0, 1) := by decide +kernel
theorem dX7_different_17 : decode cX7_different 17 = .ok (.getfield 21, 3) := by decide +kernel
theorem dX7_different_20 : decode cX7_different 20 = .ok (.invokevirtual 109, 3) := by decide +kernel
theorem dX7_different_23 : decode cX7_different 23 = .ok (.if_icmp .lt 6, 3) := by decide +kernel
theorem dX7_different_26 : decode cX7_different 26 = .ok (.bipush (-9), 2) := by decide +kernel
theorem dX7_different_28 : decode cX7_different 28 = .ok (.ireturn, 1) := by decide +kernel
theorem dX7_different_29 : decode cX7_different 29 = .ok (.iload_n 2, 1) := by decide +kernel
theorem dX7_different_30 : decode cX7_different 30 = .ok (.ifCond .ne 14, 3) := by decide +kernel
theorem dX7_different_33 : decode cX7_different 33 = .ok (.aload_n 0, 1) := by decide +kernel
theorem dX7_different_34 : decode cX7_different 34 = .ok (.getfield 21, 3) := by decide +kernel
theorem dX7_different_37 : decode cX7_different 37 = .ok (.iload_n 1, 1) := by decide +kernel
theorem dX7_different_38 : decode cX7_different 38 = .ok (.invokevirtual 112, 3) := by decide +kernel
theorem dX7_different_41 : decode cX7_different 41 = .ok (.goto 11, 3) := by decide +kernel
theorem dX7_different_44 : decode cX7_different 44 = .ok (.aload_n 0, 1) := by decide +kernel
theorem dX7_different_45 : decode cX7_different 45 = .ok (.getfield 21, 3) := by decide +kernel
theorem dX7_different_48 : decode cX7_different 48 = .ok (.iload_n 1, 1) := by decide +kernel
theorem dX7_different_49 : decode cX7_different 49 = .ok (.invokevirtual 115, 3) := by decide +kernel
theorem dX7_different_52 : decode cX7_different 52 = .ok (.ireturn, 1) := by decide +kernel
theorem dX7_place_0 : decode cX7_place 0 = .ok (.aload_n 0, 1) := by decide +kernel
theorem dX7_place_1 : decode cX7_place 1 = .ok (.iload_n 1, 1) := by decide +kernel
theorem dX7_place_2 : decode cX7_place 2 = .ok (.invokevirtual 118, 3) := by decide +kernel
theorem dX7_place_5 : decode cX7_place 5 = .ok (.ifCond .ne 5, 3) := by decide +kernel
theorem dX7_place_8 : decode cX7_place 8 = .ok (.iconst (-1), 1) := by decide +kernel
theorem dX7_place_9 : decode cX7_place 9 = .ok (.ireturn, 1) := by decide +kernel
theorem dX7_place_10 : decode cX7_place 10 = .ok (.iload_n 2, 1) := by decide +kernel
theorem dX7_place_11 : decode cX7_place 11 = .ok (.tableswitch 60 0 2 #[25, 34, 43], 25) := by decide +kernel
theorem dX7_place_36 : decode cX7_place 36 = .ok (.aload_n 0, 1) := by decide +kernel
theorem dX7_place_37 : decode cX7_place 37 = .ok (.getfield 21, 3) := by decide +kernel
theorem dX7_place_40 : decode cX7_place 40 = .ok (.iload_n 1, 1) := by decide +kernel
theorem dX7_place_41 : decode cX7_place 41 = .ok (.invokevirtual 121, 3) := by decide +kernel
theorem dX7_place_44 : decode cX7_place 44 = .ok (.ireturn, 1) := by decide +kernel
theorem dX7_place_45 : decode cX7_place 45 = .ok (.aload_n 0, 1) := by decide +kernel
theorem dX7_place_46 : decode cX7_place 46 = .ok (.getfield 21, 3) := by decide +kernel
theorem dX7_place_49 : decode cX7_place 49 = .ok (.iload_n 1, 1) := by decide +kernel
theorem dX7_place_50 : decode cX7_place 50 = .ok (.invokevirtual 124, 3) := by decide +kernel
theorem dX7_place_53 : decode cX7_place 53 = .ok (.ireturn, 1) := by decide +kernel
theorem dX7_place_54 : decode cX7_place 54 = .ok (.aload_n 0, 1) := by decide +kernel
theorem dX7_place_55 : decode cX7_place 55 = .ok (.getfield 21, 3) := by decide +kernel
theorem dX7_place_58 : decode cX7_place 58 = .ok (.iload_n 1, 1) := by decide +kernel
theorem dX7_place_59 : decode cX7_place 59 = .ok (.invokevirtual 127, 3) := by decide +kernel
theorem dX7_place_62 : decode cX7_place 62 = .ok (.ifCond .eq 7, 3) := by decide +kernel
theorem dX7_place_65 : decode cX7_place 65 = .ok (.iconst 1, 1) := by decide +kernel
theorem dX7_place_66 : decode cX7_place 66 = .ok (.goto 4, 3) := by decide +kernel
theorem dX7_place_69 : decode cX7_place 69 = .ok (.iconst 0, 1) := by decide +kernel
theorem dX7_place_70 : decode cX7_place 70 = .ok (.ireturn, 1) := by decide +kernel
theorem dX7_place_71 : decode cX7_place 71 = .ok (.iconst (-1), 1) := by decide +kernel
theorem dX7_place_72 : decode cX7_place 72 = .ok (.ireturn, 1) := by decide +kernel
theorem dX7_wide_0 : decode cX7_wide 0 = .ok (.iload_n 1, 1) := by decide +kernel
theorem dX7_wide_1 : decode cX7_wide 1 = .ok (.invokestatic 130, 3) := by decide +kernel
theorem dX7_wide_4 : decode cX7_wide 4 = .ok (.istore_n 3, 1) := by decide +kernel
theorem dX7_wide_5 : decode cX7_wide 5 = .ok (.iload_n 3, 1) := by decide +kernel
theorem dX7_wide_6 : decode cX7_wide 6 = .ok (.ifCond .lt 13, 3) := by decide +kernel
theorem dX7_wide_9 : decode cX7_wide 9 = .ok (.iload_n 2, 1) := by decide +kernel
theorem dX7_wide_10 : decode cX7_wide 10 = .ok (.ifCond .lt 9, 3) := by decide +kernel
theorem dX7_wide_13 : decode cX7_wide 13 = .ok (.iload_n 2, 1) := by decide +kernel
theorem dX7_wide_14 : decode cX7_wide 14 = .ok (.bipush 9, 2) := by decide +kernel
theorem dX7_wide_16 : decode cX7_wide 16 = .ok (.if_icmp .le 5, 3) := by decide +kernel
theorem dX7_wide_19 : decode cX7_wide 19 = .ok (.iconst (-1), 1) := by decide +kernel
theorem dX7_wide_20 : decode cX7_wide 20 = .ok (.ireturn, 1) := by decide +kernel
theorem dX7_wide_21 : decode cX7_wide 21 = .ok (.aload_n 0, 1) := by decide +kernel
theorem dX7_wide_22 : decode cX7_wide 22 = .ok (.iload_n 3, 1) := by decide +kernel
theorem dX7_wide_23 : decode cX7_wide 23 = .ok (.iload_n 2, 1) := by decide +kernel
theorem dX7_wide_24 : decode cX7_wide 24 = .ok (.invokevirtual 133, 3) := by decide +kernel
theorem dX7_wide_27 : decode cX7_wide 27 = .ok (.ireturn, 1) := by decide +kernel
theorem dX7_hangs_0 : decode cX7_hangs 0 = .ok (.iload_n 1, 1) := by decide +kernel
theorem dX7_hangs_1 : decode cX7_hangs 1 = .ok (.invokestatic 136, 3) := by decide +kernel
theorem dX7_hangs_4 : decode cX7_hangs 4 = .ok (.istore_n 3, 1) := by decide +kernel
theorem dX7_hangs_5 : decode cX7_hangs 5 = .ok (.iload_n 3, 1) := by decide +kernel
theorem dX7_hangs_6 : decode cX7_hangs 6 = .ok (.ifCond .lt 13, 3) := by decide +kernel
theorem dX7_hangs_9 : decode cX7_hangs 9 = .ok (.iload_n 2, 1) := by decide +kernel
theorem dX7_hangs_10 : decode cX7_hangs 10 = .ok (.ifCond .lt 9, 3) := by decide +kernel
theorem dX7_hangs_13 : decode cX7_hangs 13 = .ok (.iload_n 2, 1) := by decide +kernel
theorem dX7_hangs_14 : decode cX7_hangs 14 = .ok (.bipush 10, 2) := by decide +kernel
theorem dX7_hangs_16 : decode cX7_hangs 16 = .ok (.if_icmp .le 5, 3) := by decide +kernel
theorem dX7_hangs_19 : decode cX7_hangs 19 = .ok (.iconst (-1), 1) := by decide +kernel
theorem dX7_hangs_20 : decode cX7_hangs 20 = .ok (.ireturn, 1) := by decide +kernel
theorem dX7_hangs_21 : decode cX7_hangs 21 = .ok (.aload_n 0, 1) := by decide +kernel
theorem dX7_hangs_22 : decode cX7_hangs 22 = .ok (.iload_n 3, 1) := by decide +kernel
theorem dX7_hangs_23 : decode cX7_hangs 23 = .ok (.iload_n 2, 1) := by decide +kernel
theorem dX7_hangs_24 : decode cX7_hangs 24 = .ok (.invokevirtual 133, 3) := by decide +kernel
theorem dX7_hangs_27 : decode cX7_hangs 27 = .ok (.ireturn, 1) := by decide +kernel
theorem dX7_sets_0 : decode cX7_sets 0 = .ok (.iload_n 1, 1) := by decide +kernel
theorem dX7_sets_1 : decode cX7_sets 1 = .ok (.ifCond .lt 19, 3) := by decide +kernel
theorem dX7_sets_4 : decode cX7_sets 4 = .ok (.iload_n 1, 1) := by decide +kernel
theorem dX7_sets_5 : decode cX7_sets 5 = .ok (.getstatic 139, 3) := by decide +kernel
theorem dX7_sets_8 : decode cX7_sets 8 = .ok (.arraylength, 1) := by decide +kernel
theorem dX7_sets_9 : decode cX7_sets 9 = .ok (.if_icmp .ge 11, 3) := by decide +kernel
theorem dX7_sets_12 : decode cX7_sets 12 = .ok (.iload_n 1, 1) := by decide +kernel
theorem dX7_sets_13 : decode cX7_sets 13 = .ok (.getstatic 143, 3) := by decide +kernel
theorem dX7_sets_16 : decode cX7_sets 16 = .ok (.arraylength, 1) := by decide +kernel
theorem dX7_sets_17 : decode cX7_sets 17 = .ok (.if_icmp .lt 5, 3) := by decide +kernel
theorem dX7_sets_20 : decode cX7_sets 20 = .ok (.iconst (-1), 1) := by decide +kernel
theorem dX7_sets_21 : decode cX7_sets 21 = .ok (.ireturn, 1) := by decide +kernel
theorem dX7_sets_22 : decode cX7_sets 22 = .ok (.iload_n 2, 1) := by decide +kernel
theorem dX7_sets_23 : decode cX7_sets 23 = .ok (.getstatic 139, 3) := by decide +kernel
theorem dX7_sets_26 : decode cX7_sets 26 = .ok (.iload_n 1, 1) := by decide +kernel
theorem dX7_sets_27 : decode cX7_sets 27 = .ok (.iaload, 1) := by decide +kernel
theorem dX7_sets_28 : decode cX7_sets 28 = .ok (.if_icmp .lt 12, 3) := by decide +kernel
theorem dX7_sets_31 : decode cX7_sets 31 = .ok (.iload_n 2, 1) := by decide +kernel
theorem dX7_sets_32 : decode cX7_sets 32 = .ok (.getstatic 143, 3) := by decide +kernel
theorem dX7_sets_35 : decode cX7_sets 35 = .ok (.iload_n 1, 1) := by decide +kernel
theorem dX7_sets_36 : decode cX7_sets 36 = .ok (.iaload, 1) := by decide +kernel
theorem dX7_sets_37 : decode cX7_sets 37 = .ok (.if_icmp .le 5, 3) := by decide +kernel
theorem dX7_sets_40 : decode cX7_sets 40 = .ok (.iconst (-1), 1) := by decide +kernel
theorem dX7_sets_41 : decode cX7_sets 41 = .ok (.ireturn, 1) := by decide +kernel
theorem dX7_sets_42 : decode cX7_sets 42 = .ok (.aload_n 0, 1) := by decide +kernel
theorem dX7_sets_43 : decode cX7_sets 43 = .ok (.bipush 34, 2) := by decide +kernel
theorem dX7_sets_45 : decode cX7_sets 45 = .ok (.iload_n 1, 1) := by decide +kernel
theorem dX7_sets_46 : decode cX7_sets 46 = .ok (.iadd, 1) := by decide +kernel
theorem dX7_sets_47 : decode cX7_sets 47 = .ok (.iload_n 2, 1) := by decide +kernel
theorem dX7_sets_48 : decode cX7_sets 48 = .ok (.invokevirtual 133, 3) := by decide +kernel
theorem dX7_sets_51 : decode cX7_sets 51 = .ok (.ireturn, 1) := by decide +kernel
theorem dX7_undo_0 : decode cX7_undo 0 = .ok (.aload_n 0, 1) := by decide +kernel
theorem dX7_undo_1 : decode cX7_undo 1 = .ok (.getfield 28, 3) := by decide +kernel
theorem dX7_undo_4 : decode cX7_undo 4 = .ok (.invokevirtual 146, 3) := by decide +kernel
theorem dX7_undo_7 : decode cX7_undo 7 = .ok (.ifCond .ne 6, 3) := by decide +kernel
theorem dX7_undo_10 : decode cX7_undo 10 = .ok (.bipush (-2), 2) := by decide +kernel
theorem dX7_undo_12 : decode cX7_undo 12 = .ok (.ireturn, 1) := by decide +kernel
theorem dX7_undo_13 : decode cX7_undo 13 = .ok (.aload_n 0, 1) := by decide +kernel
theorem dX7_undo_14 : decode cX7_undo 14 = .ok (.aload_n 0, 1) := by decide +kernel
theorem dX7_undo_15 : decode cX7_undo 15 = .ok (.getfield 28, 3) := by decide +kernel
theorem dX7_undo_18 : decode cX7_undo 18 = .ok (.invokevirtual 149, 3) := by decide +kernel
theorem dX7_undo_21 : decode cX7_undo 21 = .ok (.invokevirtual 152, 3) := by decide +kernel
theorem dX7_undo_24 : decode cX7_undo 24 = .ok (.aload_n 0, 1) := by decide +kernel
theorem dX7_undo_25 : decode cX7_undo 25 = .ok (.getfield 28, 3) := by decide +kernel
theorem dX7_undo_28 : decode cX7_undo 28 = .ok (.invokevirtual 146, 3) := by decide +kernel
theorem dX7_undo_31 : decode cX7_undo 31 = .ok (.ireturn, 1) := by decide +kernel
theorem dX7_page_0 : decode cX7_page 0 = .ok (.iload_n 1, 1) := by decide +kernel
theorem dX7_page_1 : decode cX7_page 1 = .ok (.ifCond .lt 8, 3) := by decide +kernel
theorem dX7_page_4 : decode cX7_page 4 = .ok (.iload_n 1, 1) := by decide +kernel
theorem dX7_page_5 : decode cX7_page 5 = .ok (.iconst 5, 1) := by decide +kernel
theorem dX7_page_6 : decode cX7_page 6 = .ok (.if_icmp .le 5, 3) := by decide +kernel
theorem dX7_page_9 : decode cX7_page 9 = .ok (.iconst (-1), 1) := by decide +kernel
theorem dX7_page_10 : decode cX7_page 10 = .ok (.ireturn, 1) := by decide +kernel
theorem dX7_page_11 : decode cX7_page 11 = .ok (.aload_n 0, 1) := by decide +kernel
theorem dX7_page_12 : decode cX7_page 12 = .ok (.invokevirtual 155, 3) := by decide +kernel
theorem dX7_page_15 : decode cX7_page 15 = .ok (.aload_n 0, 1) := by decide +kernel
theorem dX7_page_16 : decode cX7_page 16 = .ok (.getfield 58, 3) := by decide +kernel
theorem dX7_page_19 : decode cX7_page 19 = .ok (.invokevirtual 158, 3) := by decide +kernel
theorem dX7_page_22 : decode cX7_page 22 = .ok (.ifCond .ne 6, 3) := by decide +kernel
theorem dX7_page_25 : decode cX7_page 25 = .ok (.bipush (-9), 2) := by decide +kernel
theorem dX7_page_27 : decode cX7_page 27 = .ok (.ireturn, 1) := by decide +kernel
theorem dX7_page_28 : decode cX7_page 28 = .ok (.iload_n 1, 1) := by decide +kernel
theorem dX7_page_29 : decode cX7_page 29 = .ok (.tableswitch 83 0 4 #[35, 43, 51, 63, 75], 35) := by decide +kernel
theorem dX7_page_64 : decode cX7_page 64 = .ok (.aload_n 0, 1) := by decide +kernel
theorem dX7_page_65 : decode cX7_page 65 = .ok (.getfield 58, 3) := by decide +kernel
theorem dX7_page_68 : decode cX7_page 68 = .ok (.invokevirtual 162, 3) := by decide +kernel
theorem dX7_page_71 : decode cX7_page 71 = .ok (.ireturn, 1) := by decide +kernel
theorem dX7_page_72 : decode cX7_page 72 = .ok (.aload_n 0, 1) := by decide +kernel
theorem dX7_page_73 : decode cX7_page 73 = .ok (.getfield 58, 3) := by decide +kernel
theorem dX7_page_76 : decode cX7_page 76 = .ok (.invokevirtual 165, 3) := by decide +kernel
theorem dX7_page_79 : decode cX7_page 79 = .ok (.ireturn, 1) := by decide +kernel
theorem dX7_page_80 : decode cX7_page 80 = .ok (.aload_n 0, 1) := by decide +kernel
theorem dX7_page_81 : decode cX7_page 81 = .ok (.getfield 58, 3) := by decide +kernel
theorem dX7_page_84 : decode cX7_page 84 = .ok (.aload_n 0, 1) := by decide +kernel
theorem dX7_page_85 : decode cX7_page 85 = .ok (.getfield 44, 3) := by decide +kernel
theorem dX7_page_88 : decode cX7_page 88 = .ok (.invokevirtual 168, 3) := by decide +kernel
theorem dX7_page_91 : decode cX7_page 91 = .ok (.ireturn, 1) := by decide +kernel
theorem dX7_page_92 : decode cX7_page 92 = .ok (.aload_n 0, 1) := by decide +kernel
theorem dX7_page_93 : decode cX7_page 93 = .ok (.getfield 58, 3) := by decide +kernel
theorem dX7_page_96 : decode cX7_page 96 = .ok (.aload_n 0, 1) := by decide +kernel
theorem dX7_page_97 : decode cX7_page 97 = .ok (.getfield 44, 3) := by decide +kernel
theorem dX7_page_100 : decode cX7_page 100 = .ok (.invokevirtual 172, 3) := by decide +kernel
theorem dX7_page_103 : decode cX7_page 103 = .ok (.ireturn, 1) := by decide +kernel
theorem dX7_page_104 : decode cX7_page 104 = .ok (.aload_n 0, 1) := by decide +kernel
theorem dX7_page_105 : decode cX7_page 105 = .ok (.getfield 58, 3) := by decide +kernel
theorem dX7_page_108 : decode cX7_page 108 = .ok (.invokevirtual 175, 3) := by decide +kernel
theorem dX7_page_111 : decode cX7_page 111 = .ok (.ireturn, 1) := by decide +kernel
theorem dX7_page_112 : decode cX7_page 112 = .ok (.aload_n 0, 1) := by decide +kernel
theorem dX7_page_113 : decode cX7_page 113 = .ok (.getfield 58, 3) := by decide +kernel
theorem dX7_page_116 : decode cX7_page 116 = .ok (.invokevirtual 178, 3) := by decide +kernel
theorem dX7_page_119 : decode cX7_page 119 = .ok (.ireturn, 1) := by decide +kernel
theorem dX7_line_0 : decode cX7_line 0 = .ok (.iload_n 1, 1) := by decide +kernel
theorem dX7_line_1 : decode cX7_line 1 = .ok (.ifCond .lt 13, 3) := by decide +kernel
theorem dX7_line_4 : decode cX7_line 4 = .ok (.iload_n 2, 1) := by decide +kernel
theorem dX7_line_5 : decode cX7_line 5 = .ok (.ifCond .lt 9, 3) := by decide +kernel
theorem dX7_line_8 : decode cX7_line 8 = .ok (.iload_n 2, 1) := by decide +kernel
theorem dX7_line_9 : decode cX7_line 9 = .ok (.bipush 6, 2) := by decide +kernel
theorem dX7_line_11 : decode cX7_line 11 = .ok (.if_icmp .le 5, 3) := by decide +kernel
theorem dX7_line_14 : decode cX7_line 14 = .ok (.iconst (-1), 1) := by decide +kernel
theorem dX7_line_15 : decode cX7_line 15 = .ok (.ireturn, 1) := by decide +kernel
theorem dX7_line_16 : decode cX7_line 16 = .ok (.aload_n 0, 1) := by decide +kernel
theorem dX7_line_17 : decode cX7_line 17 = .ok (.invokevirtual 155, 3) := by decide +kernel
theorem dX7_line_20 : decode cX7_line 20 = .ok (.aload_n 0, 1) := by decide +kernel
theorem dX7_line_21 : decode cX7_line 21 = .ok (.getfield 58, 3) := by decide +kernel
theorem dX7_line_24 : decode cX7_line 24 = .ok (.invokevirtual 158, 3) := by decide +kernel
theorem dX7_line_27 : decode cX7_line 27 = .ok (.ifCond .ne 6, 3) := by decide +kernel
theorem dX7_line_30 : decode cX7_line 30 = .ok (.bipush (-9), 2) := by decide +kernel
theorem dX7_line_32 : decode cX7_line 32 = .ok (.ireturn, 1) := by decide +kernel
theorem dX7_line_33 : decode cX7_line 33 = .ok (.iload_n 1, 1) := by decide +kernel
theorem dX7_line_34 : decode cX7_line 34 = .ok (.aload_n 0, 1) := by decide +kernel
theorem dX7_line_35 : decode cX7_line 35 = .ok (.getfield 58, 3) := by decide +kernel
theorem dX7_line_38 : decode cX7_line 38 = .ok (.invokevirtual 165, 3) := by decide +kernel
theorem dX7_line_41 : decode cX7_line 41 = .ok (.if_icmp .lt 5, 3) := by decide +kernel
theorem dX7_line_44 : decode cX7_line 44 = .ok (.iconst (-1), 1) := by decide +kernel
theorem dX7_line_45 : decode cX7_line 45 = .ok (.ireturn, 1) := by decide +kernel
theorem dX7_line_46 : decode cX7_line 46 = .ok (.aload_n 0, 1) := by decide +kernel
theorem dX7_line_47 : decode cX7_line 47 = .ok (.getfield 58, 3) := by decide +kernel
theorem dX7_line_50 : decode cX7_line 50 = .ok (.iload_n 1, 1) := by decide +kernel
theorem dX7_line_51 : decode cX7_line 51 = .ok (.invokevirtual 181, 3) := by decide +kernel
theorem dX7_line_54 : decode cX7_line 54 = .ok (.istore_n 3, 1) := by decide +kernel
theorem dX7_line_55 : decode cX7_line 55 = .ok (.aload_n 0, 1) := by decide +kernel
theorem dX7_line_56 : decode cX7_line 56 = .ok (.getfield 58, 3) := by decide +kernel
theorem dX7_line_59 : decode cX7_line 59 = .ok (.iload_n 1, 1) := by decide +kernel
theorem dX7_line_60 : decode cX7_line 60 = .ok (.invokevirtual 184, 3) := by decide +kernel
theorem dX7_line_63 : decode cX7_line 63 = .ok (.istore 4, 2) := by decide +kernel
theorem dX7_line_65 : decode cX7_line 65 = .ok (.iload_n 2, 1) := by decide +kernel
theorem dX7_line_66 : decode cX7_line 66 = .ok (.tableswitch 95 0 5 #[38, 41, 52, 62, 73, 84], 38) := by decide +kernel
theorem dX7_line_104 : decode cX7_line 104 = .ok (.iload 4, 2) := by decide +kernel
theorem dX7_line_106 : decode cX7_line 106 = .ok (.ireturn, 1) := by decide +kernel
theorem dX7_line_107 : decode cX7_line 107 = .ok (.aload_n 0, 1) := by decide +kernel
theorem dX7_line_108 : decode cX7_line 108 = .ok (.getfield 44, 3) := by decide +kernel
theorem dX7_line_111 : decode cX7_line 111 = .ok (.iload_n 3, 1) := by decide +kernel
theorem dX7_line_112 : decode cX7_line 112 = .ok (.iload 4, 2) := by decide +kernel
theorem dX7_line_114 : decode cX7_line 114 = .ok (.invokevirtual 187, 3) := by decide +kernel
theorem dX7_line_117 : decode cX7_line 117 = .ok (.ireturn, 1) := by decide +kernel
theorem dX7_line_118 : decode cX7_line 118 = .ok (.aload_n 0, 1) := by decide +kernel
theorem dX7_line_119 : decode cX7_line 119 = .ok (.getfield 44, 3) := by decide +kernel
theorem dX7_line_122 : decode cX7_line 122 = .ok (.iload 4, 2) := by decide +kernel
theorem dX7_line_124 : decode cX7_line 124 = .ok (.invokevirtual 190, 3) := by decide +kernel
theorem dX7_line_127 : decode cX7_line 127 = .ok (.ireturn, 1) := by decide +kernel
theorem dX7_line_128 : decode cX7_line 128 = .ok (.aload_n 0, 1) := by decide +kernel
theorem dX7_line_129 : decode cX7_line 129 = .ok (.getfield 44, 3) := by decide +kernel
theorem dX7_line_132 : decode cX7_line 132 = .ok (.iload_n 3, 1) := by decide +kernel
theorem dX7_line_133 : decode cX7_line 133 = .ok (.iload 4, 2) := by decide +kernel
theorem dX7_line_135 : decode cX7_line 135 = .ok (.invokevirtual 193, 3) := by decide +kernel
theorem dX7_line_138 : decode cX7_line 138 = .ok (.ireturn, 1) := by decide +kernel
theorem dX7_line_139 : decode cX7_line 139 = .ok (.aload_n 0, 1) := by decide +kernel
theorem dX7_line_140 : decode cX7_line 140 = .ok (.getfield 44, 3) := by decide +kernel
theorem dX7_line_143 : decode cX7_line 143 = .ok (.iload_n 3, 1) := by decide +kernel
theorem dX7_line_144 : decode cX7_line 144 = .ok (.iload 4, 2) := by decide +kernel
theorem dX7_line_146 : decode cX7_line 146 = .ok (.invokevirtual 196, 3) := by decide +kernel
theorem dX7_line_149 : decode cX7_line 149 = .ok (.ireturn, 1) := by decide +kernel
theorem dX7_line_150 : decode cX7_line 150 = .ok (.aload_n 0, 1) := by decide +kernel
theorem dX7_line_151 : decode cX7_line 151 = .ok (.getfield 44, 3) := by decide +kernel
theorem dX7_line_154 : decode cX7_line 154 = .ok (.iload_n 3, 1) := by decide +kernel
theorem dX7_line_155 : decode cX7_line 155 = .ok (.iload 4, 2) := by decide +kernel
theorem dX7_line_157 : decode cX7_line 157 = .ok (.invokevirtual 198, 3) := by decide +kernel
theorem dX7_line_160 : decode cX7_line 160 = .ok (.ireturn, 1) := by decide +kernel
theorem dX7_line_161 : decode cX7_line 161 = .ok (.aload_n 0, 1) := by decide +kernel
theorem dX7_line_162 : decode cX7_line 162 = .ok (.getfield 44, 3) := by decide +kernel
theorem dX7_line_165 : decode cX7_line 165 = .ok (.iload_n 3, 1) := by decide +kernel
theorem dX7_line_166 : decode cX7_line 166 = .ok (.iload 4, 2) := by decide +kernel
theorem dX7_line_168 : decode cX7_line 168 = .ok (.invokevirtual 187, 3) := by decide +kernel
theorem dX7_line_171 : decode cX7_line 171 = .ok (.aload_n 0, 1) := by decide +kernel
theorem dX7_line_172 : decode cX7_line 172 = .ok (.getfield 44, 3) := by decide +kernel
theorem dX7_line_175 : decode cX7_line 175 = .ok (.iload_n 3, 1) := by decide +kernel
theorem dX7_line_176 : decode cX7_line 176 = .ok (.iload 4, 2) := by decide +kernel
theorem dX7_line_178 : decode cX7_line 178 = .ok (.invokevirtual 201, 3) := by decide +kernel
theorem dX7_line_181 : decode cX7_line 181 = .ok (.iadd, 1) := by decide +kernel
theorem dX7_line_182 : decode cX7_line 182 = .ok (.ireturn, 1) := by decide +kernel
theorem dX7_blank_0 : decode cX7_blank 0 = .ok (.iload_n 1, 1) := by decide +kernel
theorem dX7_blank_1 : decode cX7_blank 1 = .ok (.ifCond .lt 16, 3) := by decide +kernel
theorem dX7_blank_4 : decode cX7_blank 4 = .ok (.iload_n 2, 1) := by decide +kernel
theorem dX7_blank_5 : decode cX7_blank 5 = .ok (.ifCond .lt 12, 3) := by decide +kernel
theorem dX7_blank_8 : decode cX7_blank 8 = .ok (.iload_n 3, 1) := by decide +kernel
theorem dX7_blank_9 : decode cX7_blank 9 = .ok (.ifCond .lt 8, 3) := by decide +kernel
theorem dX7_blank_12 : decode cX7_blank 12 = .ok (.iload_n 3, 1) := by decide +kernel
theorem dX7_blank_13 : decode cX7_blank 13 = .ok (.iconst 3, 1) := by decide +kernel
theorem dX7_blank_14 : decode cX7_blank 14 = .ok (.if_icmp .le 5, 3) := by decide +kernel
theorem dX7_blank_17 : decode cX7_blank 17 = .ok (.iconst (-1), 1) := by decide +kernel
theorem dX7_blank_18 : decode cX7_blank 18 = .ok (.ireturn, 1) := by decide +kernel
theorem dX7_blank_19 : decode cX7_blank 19 = .ok (.aload_n 0, 1) := by decide +kernel
theorem dX7_blank_20 : decode cX7_blank 20 = .ok (.invokevirtual 155, 3) := by decide +kernel
theorem dX7_blank_23 : decode cX7_blank 23 = .ok (.aload_n 0, 1) := by decide +kernel
theorem dX7_blank_24 : decode cX7_blank 24 = .ok (.getfield 58, 3) := by decide +kernel
theorem dX7_blank_27 : decode cX7_blank 27 = .ok (.invokevirtual 158, 3) := by decide +kernel
theorem dX7_blank_30 : decode cX7_blank 30 = .ok (.ifCond .ne 6, 3) := by decide +kernel
theorem dX7_blank_33 : decode cX7_blank 33 = .ok (.bipush (-9), 2) := by decide +kernel
theorem dX7_blank_35 : decode cX7_blank 35 = .ok (.ireturn, 1) := by decide +kernel
theorem dX7_blank_36 : decode cX7_blank 36 = .ok (.iload_n 1, 1) := by decide +kernel
theorem dX7_blank_37 : decode cX7_blank 37 = .ok (.aload_n 0, 1) := by decide +kernel
theorem dX7_blank_38 : decode cX7_blank 38 = .ok (.getfield 58, 3) := by decide +kernel
theorem dX7_blank_41 : decode cX7_blank 41 = .ok (.invokevirtual 165, 3) := by decide +kernel
theorem dX7_blank_44 : decode cX7_blank 44 = .ok (.if_icmp .lt 5, 3) := by decide +kernel
theorem dX7_blank_47 : decode cX7_blank 47 = .ok (.iconst (-1), 1) := by decide +kernel
theorem dX7_blank_48 : decode cX7_blank 48 = .ok (.ireturn, 1) := by decide +kernel
theorem dX7_blank_49 : decode cX7_blank 49 = .ok (.iload_n 2, 1) := by decide +kernel
theorem dX7_blank_50 : decode cX7_blank 50 = .ok (.aload_n 0, 1) := by decide +kernel
theorem dX7_blank_51 : decode cX7_blank 51 = .ok (.getfield 58, 3) := by decide +kernel
theorem dX7_blank_54 : decode cX7_blank 54 = .ok (.iload_n 1, 1) := by decide +kernel
theorem dX7_blank_55 : decode cX7_blank 55 = .ok (.invokevirtual 204, 3) := by decide +kernel
theorem dX7_blank_58 : decode cX7_blank 58 = .ok (.if_icmp .lt 6, 3) := by decide +kernel
theorem dX7_blank_61 : decode cX7_blank 61 = .ok (.bipush (-9), 2) := by decide +kernel
theorem dX7_blank_63 : decode cX7_blank 63 = .ok (.ireturn, 1) := by decide +kernel
theorem dX7_blank_64 : decode cX7_blank 64 = .ok (.aload_n 0, 1) := by decide +kernel
theorem dX7_blank_65 : decode cX7_blank 65 = .ok (.getfield 58, 3) := by decide +kernel
theorem dX7_blank_68 : decode cX7_blank 68 = .ok (.iload_n 1, 1) := by decide +kernel
theorem dX7_blank_69 : decode cX7_blank 69 = .ok (.iload_n 2, 1) := by decide +kernel
theorem dX7_blank_70 : decode cX7_blank 70 = .ok (.iload_n 3, 1) := by decide +kernel
theorem dX7_blank_71 : decode cX7_blank 71 = .ok (.invokevirtual 207, 3) := by decide +kernel
theorem dX7_blank_74 : decode cX7_blank 74 = .ok (.ireturn, 1) := by decide +kernel
theorem dX7_leftOf_0 : decode cX7_leftOf 0 = .ok (.iload_n 1, 1) := by decide +kernel
theorem dX7_leftOf_1 : decode cX7_leftOf 1 = .ok (.iconst (-1), 1) := by decide +kernel
theorem dX7_leftOf_2 : decode cX7_leftOf 2 = .ok (.if_icmp .lt 16, 3) := by decide +kernel
theorem dX7_leftOf_5 : decode cX7_leftOf 5 = .ok (.iload_n 2, 1) := by decide +kernel
theorem dX7_leftOf_6 : decode cX7_leftOf 6 = .ok (.iload_n 1, 1) := by decide +kernel
theorem dX7_leftOf_7 : decode cX7_leftOf 7 = .ok (.if_icmp .le 11, 3) := by decide +kernel
theorem dX7_leftOf_10 : decode cX7_leftOf 10 = .ok (.aload_n 0, 1) := by decide +kernel
theorem dX7_leftOf_11 : decode cX7_leftOf 11 = .ok (.iload_n 2, 1) := by decide +kernel
theorem dX7_leftOf_12 : decode cX7_leftOf 12 = .ok (.invokevirtual 118, 3) := by decide +kernel
theorem dX7_leftOf_15 : decode cX7_leftOf 15 = .ok (.ifCond .ne 6, 3) := by decide +kernel
theorem dX7_leftOf_18 : decode cX7_leftOf 18 = .ok (.ldc 211, 2) := by decide +kernel
theorem dX7_leftOf_20 : decode cX7_leftOf 20 = .ok (.ireturn, 1) := by decide +kernel
theorem dX7_leftOf_21 : decode cX7_leftOf 21 = .ok (.aload_n 0, 1) := by decide +kernel
theorem dX7_leftOf_22 : decode cX7_leftOf 22 = .ok (.invokevirtual 155, 3) := by decide +kernel
theorem dX7_leftOf_25 : decode cX7_leftOf 25 = .ok (.aload_n 0, 1) := by decide +kernel
theorem dX7_leftOf_26 : decode cX7_leftOf 26 = .ok (.getfield 44, 3) := by decide +kernel
theorem dX7_leftOf_29 : decode cX7_leftOf 29 = .ok (.iload_n 1, 1) := by decide +kernel
theorem dX7_leftOf_30 : decode cX7_leftOf 30 = .ok (.iload_n 2, 1) := by decide +kernel
theorem dX7_leftOf_31 : decode cX7_leftOf 31 = .ok (.invokevirtual 193, 3) := by decide +kernel
theorem dX7_leftOf_34 : decode cX7_leftOf 34 = .ok (.ireturn, 1) := by decide +kernel
theorem dX7_puts_0 : decode cX7_puts 0 = .ok (.aload_n 0, 1) := by decide +kernel
theorem dX7_puts_1 : decode cX7_puts 1 = .ok (.iload_n 1, 1) := by decide +kernel
theorem dX7_puts_2 : decode cX7_puts 2 = .ok (.invokevirtual 118, 3) := by decide +kernel
theorem dX7_puts_5 : decode cX7_puts 5 = .ok (.ifCond .eq 11, 3) := by decide +kernel
theorem dX7_puts_8 : decode cX7_puts 8 = .ok (.iload_n 1, 1) := by decide +kernel
theorem dX7_puts_9 : decode cX7_puts 9 = .ok (.aload_n 0, 1) := by decide +kernel
theorem dX7_puts_10 : decode cX7_puts 10 = .ok (.invokevirtual 212, 3) := by decide +kernel
theorem dX7_puts_13 : decode cX7_puts 13 = .ok (.if_icmp .gt 5, 3) := by decide +kernel
theorem dX7_puts_16 : decode cX7_puts 16 = .ok (.iconst (-1), 1) := by decide +kernel
theorem dX7_puts_17 : decode cX7_puts 17 = .ok (.ireturn, 1) := by decide +kernel
theorem dX7_puts_18 : decode cX7_puts 18 = .ok (.aload_n 0, 1) := by decide +kernel
theorem dX7_puts_19 : decode cX7_puts 19 = .ok (.getfield 32, 3) := by decide +kernel
theorem dX7_puts_22 : decode cX7_puts 22 = .ok (.iload_n 1, 1) := by decide +kernel
theorem dX7_puts_23 : decode cX7_puts 23 = .ok (.invokevirtual 76, 3) := by decide +kernel
theorem dX7_puts_26 : decode cX7_puts 26 = .ok (.pop, 1) := by decide +kernel
theorem dX7_puts_27 : decode cX7_puts 27 = .ok (.aload_n 0, 1) := by decide +kernel
theorem dX7_puts_28 : decode cX7_puts 28 = .ok (.getfield 32, 3) := by decide +kernel
theorem dX7_puts_31 : decode cX7_puts 31 = .ok (.invokevirtual 80, 3) := by decide +kernel
theorem dX7_puts_34 : decode cX7_puts 34 = .ok (.ireturn, 1) := by decide +kernel
theorem dX7_takes_0 : decode cX7_takes 0 = .ok (.aload_n 0, 1) := by decide +kernel
theorem dX7_takes_1 : decode cX7_takes 1 = .ok (.getfield 32, 3) := by decide +kernel
theorem dX7_takes_4 : decode cX7_takes 4 = .ok (.invokevirtual 80, 3) := by decide +kernel
theorem dX7_takes_7 : decode cX7_takes 7 = .ok (.ifCond .ne 6, 3) := by decide +kernel
theorem dX7_takes_10 : decode cX7_takes 10 = .ok (.bipush (-2), 2) := by decide +kernel
theorem dX7_takes_12 : decode cX7_takes 12 = .ok (.ireturn, 1) := by decide +kernel
theorem dX7_takes_13 : decode cX7_takes 13 = .ok (.aload_n 0, 1) := by decide +kernel
theorem dX7_takes_14 : decode cX7_takes 14 = .ok (.invokevirtual 212, 3) := by decide +kernel
theorem dX7_takes_17 : decode cX7_takes 17 = .ok (.istore_n 1, 1) := by decide +kernel
theorem dX7_takes_18 : decode cX7_takes 18 = .ok (.aload_n 0, 1) := by decide +kernel
theorem dX7_takes_19 : decode cX7_takes 19 = .ok (.getfield 32, 3) := by decide +kernel
theorem dX7_takes_22 : decode cX7_takes 22 = .ok (.invokevirtual 215, 3) := by decide +kernel
theorem dX7_takes_25 : decode cX7_takes 25 = .ok (.iload_n 1, 1) := by decide +kernel
theorem dX7_takes_26 : decode cX7_takes 26 = .ok (.ireturn, 1) := by decide +kernel
theorem dX7_judged_0 : decode cX7_judged 0 = .ok (.iload_n 1, 1) := by decide +kernel
theorem dX7_judged_1 : decode cX7_judged 1 = .ok (.ifCond .lt 8, 3) := by decide +kernel
theorem dX7_judged_4 : decode cX7_judged 4 = .ok (.iload_n 1, 1) := by decide +kernel
theorem dX7_judged_5 : decode cX7_judged 5 = .ok (.iconst 2, 1) := by decide +kernel
theorem dX7_judged_6 : decode cX7_judged 6 = .ok (.if_icmp .le 5, 3) := by decide +kernel
theorem dX7_judged_9 : decode cX7_judged 9 = .ok (.iconst (-1), 1) := by decide +kernel
theorem dX7_judged_10 : decode cX7_judged 10 = .ok (.ireturn, 1) := by decide +kernel
theorem dX7_judged_11 : decode cX7_judged 11 = .ok (.aload_n 0, 1) := by decide +kernel
theorem dX7_judged_12 : decode cX7_judged 12 = .ok (.invokevirtual 155, 3) := by decide +kernel
theorem dX7_judged_15 : decode cX7_judged 15 = .ok (.aload_n 0, 1) := by decide +kernel
theorem dX7_judged_16 : decode cX7_judged 16 = .ok (.invokevirtual 218, 3) := by decide +kernel
theorem dX7_judged_19 : decode cX7_judged 19 = .ok (.istore_n 2, 1) := by decide +kernel
theorem dX7_judged_20 : decode cX7_judged 20 = .ok (.iload_n 2, 1) := by decide +kernel
theorem dX7_judged_21 : decode cX7_judged 21 = .ok (.ifCond .ge 7, 3) := by decide +kernel
theorem dX7_judged_24 : decode cX7_judged 24 = .ok (.iconst 1, 1) := by decide +kernel
theorem dX7_judged_25 : decode cX7_judged 25 = .ok (.goto 4, 3) := by decide +kernel
theorem dX7_judged_28 : decode cX7_judged 28 = .ok (.iconst 0, 1) := by decide +kernel
theorem dX7_judged_29 : decode cX7_judged 29 = .ok (.istore_n 3, 1) := by decide +kernel
theorem dX7_judged_30 : decode cX7_judged 30 = .ok (.iload_n 1, 1) := by decide +kernel
theorem dX7_judged_31 : decode cX7_judged 31 = .ok (.ifCond .ne 28, 3) := by decide +kernel
theorem dX7_judged_34 : decode cX7_judged 34 = .ok (.iload_n 3, 1) := by decide +kernel
theorem dX7_judged_35 : decode cX7_judged 35 = .ok (.ifCond .eq 7, 3) := by decide +kernel
theorem dX7_judged_38 : decode cX7_judged 38 = .ok (.iconst 0, 1) := by decide +kernel
theorem dX7_judged_39 : decode cX7_judged 39 = .ok (.goto 19, 3) := by decide +kernel
theorem dX7_judged_42 : decode cX7_judged 42 = .ok (.iload_n 2, 1) := by decide +kernel
theorem dX7_judged_43 : decode cX7_judged 43 = .ok (.aload_n 0, 1) := by decide +kernel
theorem dX7_judged_44 : decode cX7_judged 44 = .ok (.getfield 32, 3) := by decide +kernel
theorem dX7_judged_47 : decode cX7_judged 47 = .ok (.invokevirtual 80, 3) := by decide +kernel
theorem dX7_judged_50 : decode cX7_judged 50 = .ok (.if_icmp .ge 7, 3) := by decide +kernel
theorem dX7_judged_53 : decode cX7_judged 53 = .ok (.iconst 1, 1) := by decide +kernel
theorem dX7_judged_54 : decode cX7_judged 54 = .ok (.goto 4, 3) := by decide +kernel
theorem dX7_judged_57 : decode cX7_judged 57 = .ok (.iconst 2, 1) := by decide +kernel
theorem dX7_judged_58 : decode cX7_judged 58 = .ok (.ireturn, 1) := by decide +kernel
theorem dX7_judged_59 : decode cX7_judged 59 = .ok (.iload_n 1, 1) := by decide +kernel
theorem dX7_judged_60 : decode cX7_judged 60 = .ok (.iconst 1, 1) := by decide +kernel
theorem dX7_judged_61 : decode cX7_judged 61 = .ok (.if_icmp .ne 14, 3) := by decide +kernel
theorem dX7_judged_64 : decode cX7_judged 64 = .ok (.iload_n 3, 1) := by decide +kernel
theorem dX7_judged_65 : decode cX7_judged 65 = .ok (.ifCond .eq 8, 3) := by decide +kernel
theorem dX7_judged_68 : decode cX7_judged 68 = .ok (.bipush (-9), 2) := by decide +kernel
theorem dX7_judged_70 : decode cX7_judged 70 = .ok (.goto 4, 3) := by decide +kernel
theorem dX7_judged_73 : decode cX7_judged 73 = .ok (.iload_n 2, 1) := by decide +kernel
theorem dX7_judged_74 : decode cX7_judged 74 = .ok (.ireturn, 1) := by decide +kernel
theorem dX7_judged_75 : decode cX7_judged 75 = .ok (.iload_n 3, 1) := by decide +kernel
theorem dX7_judged_76 : decode cX7_judged 76 = .ok (.ifCond .eq 18, 3) := by decide +kernel
theorem dX7_judged_79 : decode cX7_judged 79 = .ok (.aload_n 0, 1) := by decide +kernel
theorem dX7_judged_80 : decode cX7_judged 80 = .ok (.invokevirtual 221, 3) := by decide +kernel
theorem dX7_judged_83 : decode cX7_judged 83 = .ok (.aload_n 0, 1) := by decide +kernel
theorem dX7_judged_84 : decode cX7_judged 84 = .ok (.getfield 58, 3) := by decide +kernel
theorem dX7_judged_87 : decode cX7_judged 87 = .ok (.invokevirtual 162, 3) := by decide +kernel
theorem dX7_judged_90 : decode cX7_judged 90 = .ok (.isub, 1) := by decide +kernel
theorem dX7_judged_91 : decode cX7_judged 91 = .ok (.goto 5, 3) := by decide +kernel
theorem dX7_judged_94 : decode cX7_judged 94 = .ok (.bipush (-9), 2) := by decide +kernel
theorem dX7_judged_96 : decode cX7_judged 96 = .ok (.ireturn, 1) := by decide +kernel
theorem dX7_alike_0 : decode cX7_alike 0 = .ok (.iload_n 1, 1) := by decide +kernel
theorem dX7_alike_1 : decode cX7_alike 1 = .ok (.ifCond .lt 8, 3) := by decide +kernel
theorem dX7_alike_4 : decode cX7_alike 4 = .ok (.iload_n 1, 1) := by decide +kernel
theorem dX7_alike_5 : decode cX7_alike 5 = .ok (.iconst 2, 1) := by decide +kernel
theorem dX7_alike_6 : decode cX7_alike 6 = .ok (.if_icmp .le 5, 3) := by decide +kernel
theorem dX7_alike_9 : decode cX7_alike 9 = .ok (.iconst (-1), 1) := by decide +kernel
theorem dX7_alike_10 : decode cX7_alike 10 = .ok (.ireturn, 1) := by decide +kernel
theorem dX7_alike_11 : decode cX7_alike 11 = .ok (.aload_n 0, 1) := by decide +kernel
theorem dX7_alike_12 : decode cX7_alike 12 = .ok (.invokevirtual 155, 3) := by decide +kernel
theorem dX7_alike_15 : decode cX7_alike 15 = .ok (.aload_n 0, 1) := by decide +kernel
theorem dX7_alike_16 : decode cX7_alike 16 = .ok (.getfield 58, 3) := by decide +kernel
theorem dX7_alike_19 : decode cX7_alike 19 = .ok (.invokevirtual 158, 3) := by decide +kernel
theorem dX7_alike_22 : decode cX7_alike 22 = .ok (.ifCond .ne 6, 3) := by decide +kernel
theorem dX7_alike_25 : decode cX7_alike 25 = .ok (.bipush (-9), 2) := by decide +kernel
theorem dX7_alike_27 : decode cX7_alike 27 = .ok (.ireturn, 1) := by decide +kernel
theorem dX7_alike_28 : decode cX7_alike 28 = .ok (.aload_n 0, 1) := by decide +kernel
theorem dX7_alike_29 : decode cX7_alike 29 = .ok (.invokevirtual 224, 3) := by decide +kernel
theorem dX7_alike_32 : decode cX7_alike 32 = .ok (.aload_n 0, 1) := by decide +kernel
theorem dX7_alike_33 : decode cX7_alike 33 = .ok (.getfield 65, 3) := by decide +kernel
theorem dX7_alike_36 : decode cX7_alike 36 = .ok (.aload_n 0, 1) := by decide +kernel
theorem dX7_alike_37 : decode cX7_alike 37 = .ok (.getfield 28, 3) := by decide +kernel
theorem dX7_alike_40 : decode cX7_alike 40 = .ok (.bipush 35, 2) := by decide +kernel
theorem dX7_alike_42 : decode cX7_alike 42 = .ok (.invokevirtual 227, 3) := by decide +kernel
theorem dX7_alike_45 : decode cX7_alike 45 = .ok (.invokevirtual 230, 3) := by decide +kernel
theorem dX7_alike_48 : decode cX7_alike 48 = .ok (.aload_n 0, 1) := by decide +kernel
theorem dX7_alike_49 : decode cX7_alike 49 = .ok (.getfield 65, 3) := by decide +kernel
theorem dX7_alike_52 : decode cX7_alike 52 = .ok (.iload_n 1, 1) := by decide +kernel
theorem dX7_alike_53 : decode cX7_alike 53 = .ok (.invokevirtual 233, 3) := by decide +kernel
theorem dX7_alike_56 : decode cX7_alike 56 = .ok (.ireturn, 1) := by decide +kernel
theorem dX7_sees_0 : decode cX7_sees 0 = .ok (.iload_n 1, 1) := by decide +kernel
theorem dX7_sees_1 : decode cX7_sees 1 = .ok (.ifCond .lt 23, 3) := by decide +kernel
theorem dX7_sees_4 : decode cX7_sees 4 = .ok (.iload_n 1, 1) := by decide +kernel
theorem dX7_sees_5 : decode cX7_sees 5 = .ok (.aload_n 0, 1) := by decide +kernel
theorem dX7_sees_6 : decode cX7_sees 6 = .ok (.getfield 21, 3) := by decide +kernel
theorem dX7_sees_9 : decode cX7_sees 9 = .ok (.invokevirtual 98, 3) := by decide +kernel
theorem dX7_sees_12 : decode cX7_sees 12 = .ok (.if_icmp .ge 12, 3) := by decide +kernel
theorem dX7_sees_15 : decode cX7_sees 15 = .ok (.iload_n 2, 1) := by decide +kernel
theorem dX7_sees_16 : decode cX7_sees 16 = .ok (.ifCond .lt 8, 3) := by decide +kernel
theorem dX7_sees_19 : decode cX7_sees 19 = .ok (.iload_n 2, 1) := by decide +kernel
theorem dX7_sees_20 : decode cX7_sees 20 = .ok (.iconst 1, 1) := by decide +kernel
theorem dX7_sees_21 : decode cX7_sees 21 = .ok (.if_icmp .le 5, 3) := by decide +kernel
theorem dX7_sees_24 : decode cX7_sees 24 = .ok (.iconst (-1), 1) := by decide +kernel
theorem dX7_sees_25 : decode cX7_sees 25 = .ok (.ireturn, 1) := by decide +kernel
theorem dX7_sees_26 : decode cX7_sees 26 = .ok (.aload_n 0, 1) := by decide +kernel
theorem dX7_sees_27 : decode cX7_sees 27 = .ok (.getfield 35, 3) := by decide +kernel
theorem dX7_sees_30 : decode cX7_sees 30 = .ok (.invokevirtual 80, 3) := by decide +kernel
theorem dX7_sees_33 : decode cX7_sees 33 = .ok (.bipush 6, 2) := by decide +kernel
theorem dX7_sees_35 : decode cX7_sees 35 = .ok (.if_icmp .lt 6, 3) := by decide +kernel
theorem dX7_sees_38 : decode cX7_sees 38 = .ok (.bipush (-3), 2) := by decide +kernel
theorem dX7_sees_40 : decode cX7_sees 40 = .ok (.ireturn, 1) := by decide +kernel
theorem dX7_sees_41 : decode cX7_sees 41 = .ok (.aload_n 0, 1) := by decide +kernel
theorem dX7_sees_42 : decode cX7_sees 42 = .ok (.getfield 35, 3) := by decide +kernel
theorem dX7_sees_45 : decode cX7_sees 45 = .ok (.iload_n 1, 1) := by decide +kernel
theorem dX7_sees_46 : decode cX7_sees 46 = .ok (.invokevirtual 76, 3) := by decide +kernel
theorem dX7_sees_49 : decode cX7_sees 49 = .ok (.pop, 1) := by decide +kernel
theorem dX7_sees_50 : decode cX7_sees 50 = .ok (.aload_n 0, 1) := by decide +kernel
theorem dX7_sees_51 : decode cX7_sees 51 = .ok (.getfield 38, 3) := by decide +kernel
theorem dX7_sees_54 : decode cX7_sees 54 = .ok (.iload_n 2, 1) := by decide +kernel
theorem dX7_sees_55 : decode cX7_sees 55 = .ok (.invokevirtual 76, 3) := by decide +kernel
theorem dX7_sees_58 : decode cX7_sees 58 = .ok (.pop, 1) := by decide +kernel
theorem dX7_sees_59 : decode cX7_sees 59 = .ok (.aload_n 0, 1) := by decide +kernel
theorem dX7_sees_60 : decode cX7_sees 60 = .ok (.getfield 35, 3) := by decide +kernel
theorem dX7_sees_63 : decode cX7_sees 63 = .ok (.invokevirtual 80, 3) := by decide +kernel
theorem dX7_sees_66 : decode cX7_sees 66 = .ok (.ireturn, 1) := by decide +kernel
theorem dX7_forget_0 : decode cX7_forget 0 = .ok (.aload_n 0, 1) := by decide +kernel
theorem dX7_forget_1 : decode cX7_forget 1 = .ok (.getfield 35, 3) := by decide +kernel
theorem dX7_forget_4 : decode cX7_forget 4 = .ok (.invokevirtual 80, 3) := by decide +kernel
theorem dX7_forget_7 : decode cX7_forget 7 = .ok (.istore_n 1, 1) := by decide +kernel
theorem dX7_forget_8 : decode cX7_forget 8 = .ok (.aload_n 0, 1) := by decide +kernel
theorem dX7_forget_9 : decode cX7_forget 9 = .ok (.getfield 35, 3) := by decide +kernel
theorem dX7_forget_12 : decode cX7_forget 12 = .ok (.invokevirtual 84, 3) := by decide +kernel
theorem dX7_forget_15 : decode cX7_forget 15 = .ok (.aload_n 0, 1) := by decide +kernel
theorem dX7_forget_16 : decode cX7_forget 16 = .ok (.getfield 38, 3) := by decide +kernel
theorem dX7_forget_19 : decode cX7_forget 19 = .ok (.invokevirtual 84, 3) := by decide +kernel
theorem dX7_forget_22 : decode cX7_forget 22 = .ok (.iload_n 1, 1) := by decide +kernel
theorem dX7_forget_23 : decode cX7_forget 23 = .ok (.ireturn, 1) := by decide +kernel
theorem dX7_unseen_0 : decode cX7_unseen 0 = .ok (.iload_n 1, 1) := by decide +kernel
theorem dX7_unseen_1 : decode cX7_unseen 1 = .ok (.ifCond .lt 8, 3) := by decide +kernel
theorem dX7_unseen_4 : decode cX7_unseen 4 = .ok (.iload_n 1, 1) := by decide +kernel
theorem dX7_unseen_5 : decode cX7_unseen 5 = .ok (.iconst 2, 1) := by decide +kernel
theorem dX7_unseen_6 : decode cX7_unseen 6 = .ok (.if_icmp .le 5, 3) := by decide +kernel
theorem dX7_unseen_9 : decode cX7_unseen 9 = .ok (.iconst (-1), 1) := by decide +kernel
theorem dX7_unseen_10 : decode cX7_unseen 10 = .ok (.ireturn, 1) := by decide +kernel
theorem dX7_unseen_11 : decode cX7_unseen 11 = .ok (.aload_n 0, 1) := by decide +kernel
theorem dX7_unseen_12 : decode cX7_unseen 12 = .ok (.invokevirtual 155, 3) := by decide +kernel
theorem dX7_unseen_15 : decode cX7_unseen 15 = .ok (.aload_n 0, 1) := by decide +kernel
theorem dX7_unseen_16 : decode cX7_unseen 16 = .ok (.invokevirtual 224, 3) := by decide +kernel
theorem dX7_unseen_19 : decode cX7_unseen 19 = .ok (.aload_n 0, 1) := by decide +kernel
theorem dX7_unseen_20 : decode cX7_unseen 20 = .ok (.getfield 65, 3) := by decide +kernel
theorem dX7_unseen_23 : decode cX7_unseen 23 = .ok (.aload_n 0, 1) := by decide +kernel
theorem dX7_unseen_24 : decode cX7_unseen 24 = .ok (.getfield 21, 3) := by decide +kernel
theorem dX7_unseen_27 : decode cX7_unseen 27 = .ok (.aload_n 0, 1) := by decide +kernel
theorem dX7_unseen_28 : decode cX7_unseen 28 = .ok (.getfield 35, 3) := by decide +kernel
theorem dX7_unseen_31 : decode cX7_unseen 31 = .ok (.aload_n 0, 1) := by decide +kernel
theorem dX7_unseen_32 : decode cX7_unseen 32 = .ok (.getfield 38, 3) := by decide +kernel
theorem dX7_unseen_35 : decode cX7_unseen 35 = .ok (.invokevirtual 236, 3) := by decide +kernel
theorem dX7_unseen_38 : decode cX7_unseen 38 = .ok (.aload_n 0, 1) := by decide +kernel
theorem dX7_unseen_39 : decode cX7_unseen 39 = .ok (.getfield 65, 3) := by decide +kernel
theorem dX7_unseen_42 : decode cX7_unseen 42 = .ok (.iload_n 1, 1) := by decide +kernel
theorem dX7_unseen_43 : decode cX7_unseen 43 = .ok (.invokevirtual 233, 3) := by decide +kernel
theorem dX7_unseen_46 : decode cX7_unseen 46 = .ok (.ireturn, 1) := by decide +kernel
theorem dX7_keep_0 : decode cX7_keep 0 = .ok (.iload_n 1, 1) := by decide +kernel
theorem dX7_keep_1 : decode cX7_keep 1 = .ok (.ifCond .lt 8, 3) := by decide +kernel
theorem dX7_keep_4 : decode cX7_keep 4 = .ok (.iload_n 1, 1) := by decide +kernel
theorem dX7_keep_5 : decode cX7_keep 5 = .ok (.iconst 2, 1) := by decide +kernel
theorem dX7_keep_6 : decode cX7_keep 6 = .ok (.if_icmp .lt 5, 3) := by decide +kernel
theorem dX7_keep_9 : decode cX7_keep 9 = .ok (.iconst (-1), 1) := by decide +kernel
theorem dX7_keep_10 : decode cX7_keep 10 = .ok (.ireturn, 1) := by decide +kernel
theorem dX7_keep_11 : decode cX7_keep 11 = .ok (.aload_n 0, 1) := by decide +kernel
theorem dX7_keep_12 : decode cX7_keep 12 = .ok (.getfield 28, 3) := by decide +kernel
theorem dX7_keep_15 : decode cX7_keep 15 = .ok (.iload_n 1, 1) := by decide +kernel
theorem dX7_keep_16 : decode cX7_keep 16 = .ok (.invokevirtual 240, 3) := by decide +kernel
theorem dX7_keep_19 : decode cX7_keep 19 = .ok (.aload_n 0, 1) := by decide +kernel
theorem dX7_keep_20 : decode cX7_keep 20 = .ok (.getfield 28, 3) := by decide +kernel
theorem dX7_keep_23 : decode cX7_keep 23 = .ok (.bipush 35, 2) := by decide +kernel
theorem dX7_keep_25 : decode cX7_keep 25 = .ok (.invokevirtual 227, 3) := by decide +kernel
theorem dX7_keep_28 : decode cX7_keep 28 = .ok (.ireturn, 1) := by decide +kernel
theorem dX7_back_0 : decode cX7_back 0 = .ok (.iload_n 1, 1) := by decide +kernel
theorem dX7_back_1 : decode cX7_back 1 = .ok (.ifCond .lt 8, 3) := by decide +kernel
theorem dX7_back_4 : decode cX7_back 4 = .ok (.iload_n 1, 1) := by decide +kernel
theorem dX7_back_5 : decode cX7_back 5 = .ok (.iconst 2, 1) := by decide +kernel
theorem dX7_back_6 : decode cX7_back 6 = .ok (.if_icmp .lt 5, 3) := by decide +kernel
theorem dX7_back_9 : decode cX7_back 9 = .ok (.iconst (-1), 1) := by decide +kernel
theorem dX7_back_10 : decode cX7_back 10 = .ok (.ireturn, 1) := by decide +kernel
theorem dX7_back_11 : decode cX7_back 11 = .ok (.aload_n 0, 1) := by decide +kernel
theorem dX7_back_12 : decode cX7_back 12 = .ok (.getfield 28, 3) := by decide +kernel
theorem dX7_back_15 : decode cX7_back 15 = .ok (.iload_n 1, 1) := by decide +kernel
theorem dX7_back_16 : decode cX7_back 16 = .ok (.invokevirtual 243, 3) := by decide +kernel
theorem dX7_back_19 : decode cX7_back 19 = .ok (.ifCond .ne 6, 3) := by decide +kernel
theorem dX7_back_22 : decode cX7_back 22 = .ok (.bipush (-2), 2) := by decide +kernel
theorem dX7_back_24 : decode cX7_back 24 = .ok (.ireturn, 1) := by decide +kernel
theorem dX7_back_25 : decode cX7_back 25 = .ok (.aload_n 0, 1) := by decide +kernel
theorem dX7_back_26 : decode cX7_back 26 = .ok (.getfield 28, 3) := by decide +kernel
theorem dX7_back_29 : decode cX7_back 29 = .ok (.iload_n 1, 1) := by decide +kernel
theorem dX7_back_30 : decode cX7_back 30 = .ok (.invokevirtual 246, 3) := by decide +kernel
theorem dX7_back_33 : decode cX7_back 33 = .ok (.aload_n 0, 1) := by decide +kernel
theorem dX7_back_34 : decode cX7_back 34 = .ok (.iconst 1, 1) := by decide +kernel
theorem dX7_back_35 : decode cX7_back 35 = .ok (.putfield 69, 3) := by decide +kernel
theorem dX7_back_38 : decode cX7_back 38 = .ok (.aload_n 0, 1) := by decide +kernel
theorem dX7_back_39 : decode cX7_back 39 = .ok (.iconst 1, 1) := by decide +kernel
theorem dX7_back_40 : decode cX7_back 40 = .ok (.putfield 73, 3) := by decide +kernel
theorem dX7_back_43 : decode cX7_back 43 = .ok (.aload_n 0, 1) := by decide +kernel
theorem dX7_back_44 : decode cX7_back 44 = .ok (.getfield 28, 3) := by decide +kernel
theorem dX7_back_47 : decode cX7_back 47 = .ok (.bipush 35, 2) := by decide +kernel
theorem dX7_back_49 : decode cX7_back 49 = .ok (.invokevirtual 227, 3) := by decide +kernel
theorem dX7_back_52 : decode cX7_back 52 = .ok (.ireturn, 1) := by decide +kernel
theorem dX7_count_0 : decode cX7_count 0 = .ok (.iload_n 1, 1) := by decide +kernel
theorem dX7_count_1 : decode cX7_count 1 = .ok (.tableswitch 155 0 10 #[59, 67, 75, 85, 95, 105, 115, 123, 131, 139, 147], 59) := by decide +kernel
theorem dX7_count_60 : decode cX7_count 60 = .ok (.aload_n 0, 1) := by decide +kernel
theorem dX7_count_61 : decode cX7_count 61 = .ok (.getfield 21, 3) := by decide +kernel
theorem dX7_count_64 : decode cX7_count 64 = .ok (.invokevirtual 98, 3) := by decide +kernel
theorem dX7_count_67 : decode cX7_count 67 = .ok (.ireturn, 1) := by decide +kernel
theorem dX7_count_68 : decode cX7_count 68 = .ok (.aload_n 0, 1) := by decide +kernel
theorem dX7_count_69 : decode cX7_count 69 = .ok (.getfield 21, 3) := by decide +kernel
theorem dX7_count_72 : decode cX7_count 72 = .ok (.invokevirtual 249, 3) := by decide +kernel
theorem dX7_count_75 : decode cX7_count 75 = .ok (.ireturn, 1) := by decide +kernel
theorem dX7_count_76 : decode cX7_count 76 = .ok (.aload_n 0, 1) := by decide +kernel
theorem dX7_count_77 : decode cX7_count 77 = .ok (.getfield 28, 3) := by decide +kernel
theorem dX7_count_80 : decode cX7_count 80 = .ok (.bipush 34, 2) := by decide +kernel
theorem dX7_count_82 : decode cX7_count 82 = .ok (.invokevirtual 227, 3) := by decide +kernel
theorem dX7_count_85 : decode cX7_count 85 = .ok (.ireturn, 1) := by decide +kernel
theorem dX7_count_86 : decode cX7_count 86 = .ok (.aload_n 0, 1) := by decide +kernel
theorem dX7_count_87 : decode cX7_count 87 = .ok (.getfield 28, 3) := by decide +kernel
theorem dX7_count_90 : decode cX7_count 90 = .ok (.bipush 35, 2) := by decide +kernel
theorem dX7_count_92 : decode cX7_count 92 = .ok (.invokevirtual 227, 3) := by decide +kernel
theorem dX7_count_95 : decode cX7_count 95 = .ok (.ireturn, 1) := by decide +kernel
theorem dX7_count_96 : decode cX7_count 96 = .ok (.aload_n 0, 1) := by decide +kernel
theorem dX7_count_97 : decode cX7_count 97 = .ok (.getfield 28, 3) := by decide +kernel
theorem dX7_count_100 : decode cX7_count 100 = .ok (.bipush 36, 2) := by decide +kernel
theorem dX7_count_102 : decode cX7_count 102 = .ok (.invokevirtual 227, 3) := by decide +kernel
theorem dX7_count_105 : decode cX7_count 105 = .ok (.ireturn, 1) := by decide +kernel
theorem dX7_count_106 : decode cX7_count 106 = .ok (.aload_n 0, 1) := by decide +kernel
theorem dX7_count_107 : decode cX7_count 107 = .ok (.getfield 28, 3) := by decide +kernel
theorem dX7_count_110 : decode cX7_count 110 = .ok (.bipush 37, 2) := by decide +kernel
theorem dX7_count_112 : decode cX7_count 112 = .ok (.invokevirtual 227, 3) := by decide +kernel
theorem dX7_count_115 : decode cX7_count 115 = .ok (.ireturn, 1) := by decide +kernel
theorem dX7_count_116 : decode cX7_count 116 = .ok (.aload_n 0, 1) := by decide +kernel
theorem dX7_count_117 : decode cX7_count 117 = .ok (.getfield 32, 3) := by decide +kernel
theorem dX7_count_120 : decode cX7_count 120 = .ok (.invokevirtual 80, 3) := by decide +kernel
theorem dX7_count_123 : decode cX7_count 123 = .ok (.ireturn, 1) := by decide +kernel
theorem dX7_count_124 : decode cX7_count 124 = .ok (.aload_n 0, 1) := by decide +kernel
theorem dX7_count_125 : decode cX7_count 125 = .ok (.getfield 35, 3) := by decide +kernel
theorem dX7_count_128 : decode cX7_count 128 = .ok (.invokevirtual 80, 3) := by decide +kernel
theorem dX7_count_131 : decode cX7_count 131 = .ok (.ireturn, 1) := by decide +kernel
theorem dX7_count_132 : decode cX7_count 132 = .ok (.aload_n 0, 1) := by decide +kernel
theorem dX7_count_133 : decode cX7_count 133 = .ok (.getfield 14, 3) := by decide +kernel
theorem dX7_count_136 : decode cX7_count 136 = .ok (.invokevirtual 80, 3) := by decide +kernel
theorem dX7_count_139 : decode cX7_count 139 = .ok (.ireturn, 1) := by decide +kernel
theorem dX7_count_140 : decode cX7_count 140 = .ok (.aload_n 0, 1) := by decide +kernel
theorem dX7_count_141 : decode cX7_count 141 = .ok (.getfield 28, 3) := by decide +kernel
theorem dX7_count_144 : decode cX7_count 144 = .ok (.invokevirtual 146, 3) := by decide +kernel
theorem dX7_count_147 : decode cX7_count 147 = .ok (.ireturn, 1) := by decide +kernel
theorem dX7_count_148 : decode cX7_count 148 = .ok (.aload_n 0, 1) := by decide +kernel
theorem dX7_count_149 : decode cX7_count 149 = .ok (.getfield 21, 3) := by decide +kernel
theorem dX7_count_152 : decode cX7_count 152 = .ok (.invokevirtual 109, 3) := by decide +kernel
theorem dX7_count_155 : decode cX7_count 155 = .ok (.ireturn, 1) := by decide +kernel
theorem dX7_count_156 : decode cX7_count 156 = .ok (.iconst (-1), 1) := by decide +kernel
theorem dX7_count_157 : decode cX7_count 157 = .ok (.ireturn, 1) := by decide +kernel
theorem dX7_isPlace_0 : decode cX7_isPlace 0 = .ok (.iload_n 1, 1) := by decide +kernel
theorem dX7_isPlace_1 : decode cX7_isPlace 1 = .ok (.ifCond .lt 18, 3) := by decide +kernel
theorem dX7_isPlace_4 : decode cX7_isPlace 4 = .ok (.iload_n 1, 1) := by decide +kernel
theorem dX7_isPlace_5 : decode cX7_isPlace 5 = .ok (.aload_n 0, 1) := by decide +kernel
theorem dX7_isPlace_6 : decode cX7_isPlace 6 = .ok (.getfield 21, 3) := by decide +kernel
theorem dX7_isPlace_9 : decode cX7_isPlace 9 = .ok (.invokevirtual 249, 3) := by decide +kernel
theorem dX7_isPlace_12 : decode cX7_isPlace 12 = .ok (.if_icmp .ge 7, 3) := by decide +kernel
theorem dX7_isPlace_15 : decode cX7_isPlace 15 = .ok (.iconst 1, 1) := by decide +kernel
theorem dX7_isPlace_16 : decode cX7_isPlace 16 = .ok (.goto 4, 3) := by decide +kernel
theorem dX7_isPlace_19 : decode cX7_isPlace 19 = .ok (.iconst 0, 1) := by decide +kernel
theorem dX7_isPlace_20 : decode cX7_isPlace 20 = .ok (.ireturn, 1) := by decide +kernel
theorem dX7_lastOfDraft_0 : decode cX7_lastOfDraft 0 = .ok (.aload_n 0, 1) := by decide +kernel
theorem dX7_lastOfDraft_1 : decode cX7_lastOfDraft 1 = .ok (.getfield 32, 3) := by decide +kernel
theorem dX7_lastOfDraft_4 : decode cX7_lastOfDraft 4 = .ok (.invokevirtual 80, 3) := by decide +kernel
theorem dX7_lastOfDraft_7 : decode cX7_lastOfDraft 7 = .ok (.ifCond .ne 7, 3) := by decide +kernel
theorem dX7_lastOfDraft_10 : decode cX7_lastOfDraft 10 = .ok (.iconst (-1), 1) := by decide +kernel
theorem dX7_lastOfDraft_11 : decode cX7_lastOfDraft 11 = .ok (.goto 19, 3) := by decide +kernel
theorem dX7_lastOfDraft_14 : decode cX7_lastOfDraft 14 = .ok (.aload_n 0, 1) := by decide +kernel
theorem dX7_lastOfDraft_15 : decode cX7_lastOfDraft 15 = .ok (.getfield 32, 3) := by decide +kernel
theorem dX7_lastOfDraft_18 : decode cX7_lastOfDraft 18 = .ok (.aload_n 0, 1) := by decide +kernel
theorem dX7_lastOfDraft_19 : decode cX7_lastOfDraft 19 = .ok (.getfield 32, 3) := by decide +kernel
theorem dX7_lastOfDraft_22 : decode cX7_lastOfDraft 22 = .ok (.invokevirtual 80, 3) := by decide +kernel
theorem dX7_lastOfDraft_25 : decode cX7_lastOfDraft 25 = .ok (.iconst 1, 1) := by decide +kernel
theorem dX7_lastOfDraft_26 : decode cX7_lastOfDraft 26 = .ok (.isub, 1) := by decide +kernel
theorem dX7_lastOfDraft_27 : decode cX7_lastOfDraft 27 = .ok (.invokevirtual 252, 3) := by decide +kernel
theorem dX7_lastOfDraft_30 : decode cX7_lastOfDraft 30 = .ok (.ireturn, 1) := by decide +kernel
theorem dX7_change_0 : decode cX7_change 0 = .ok (.aload_n 0, 1) := by decide +kernel
theorem dX7_change_1 : decode cX7_change 1 = .ok (.getfield 28, 3) := by decide +kernel
theorem dX7_change_4 : decode cX7_change 4 = .ok (.iload_n 1, 1) := by decide +kernel
theorem dX7_change_5 : decode cX7_change 5 = .ok (.invokevirtual 227, 3) := by decide +kernel
theorem dX7_change_8 : decode cX7_change 8 = .ok (.istore_n 3, 1) := by decide +kernel
theorem dX7_change_9 : decode cX7_change 9 = .ok (.iload_n 3, 1) := by decide +kernel
theorem dX7_change_10 : decode cX7_change 10 = .ok (.iload_n 2, 1) := by decide +kernel
theorem dX7_change_11 : decode cX7_change 11 = .ok (.if_icmp .ne 6, 3) := by decide +kernel
theorem dX7_change_14 : decode cX7_change 14 = .ok (.bipush (-2), 2) := by decide +kernel
theorem dX7_change_16 : decode cX7_change 16 = .ok (.ireturn, 1) := by decide +kernel
theorem dX7_change_17 : decode cX7_change 17 = .ok (.aload_n 0, 1) := by decide +kernel
theorem dX7_change_18 : decode cX7_change 18 = .ok (.getfield 28, 3) := by decide +kernel
theorem dX7_change_21 : decode cX7_change 21 = .ok (.iload_n 1, 1) := by decide +kernel
theorem dX7_change_22 : decode cX7_change 22 = .ok (.iload_n 2, 1) := by decide +kernel
theorem dX7_change_23 : decode cX7_change 23 = .ok (.invokevirtual 253, 3) := by decide +kernel
theorem dX7_change_26 : decode cX7_change 26 = .ok (.aload_n 0, 1) := by decide +kernel
theorem dX7_change_27 : decode cX7_change 27 = .ok (.iload_n 1, 1) := by decide +kernel
theorem dX7_change_28 : decode cX7_change 28 = .ok (.invokevirtual 152, 3) := by decide +kernel
theorem dX7_change_31 : decode cX7_change 31 = .ok (.iload_n 3, 1) := by decide +kernel
theorem dX7_change_32 : decode cX7_change 32 = .ok (.ireturn, 1) := by decide +kernel
theorem dX7_markStale_0 : decode cX7_markStale 0 = .ok (.aload_n 0, 1) := by decide +kernel
theorem dX7_markStale_1 : decode cX7_markStale 1 = .ok (.iconst 1, 1) := by decide +kernel
theorem dX7_markStale_2 : decode cX7_markStale 2 = .ok (.putfield 69, 3) := by decide +kernel
theorem dX7_markStale_5 : decode cX7_markStale 5 = .ok (.iload_n 1, 1) := by decide +kernel
theorem dX7_markStale_6 : decode cX7_markStale 6 = .ok (.bipush 35, 2) := by decide +kernel
theorem dX7_markStale_8 : decode cX7_markStale 8 = .ok (.if_icmp .eq 8, 3) := by decide +kernel
theorem dX7_markStale_11 : decode cX7_markStale 11 = .ok (.aload_n 0, 1) := by decide +kernel
theorem dX7_markStale_12 : decode cX7_markStale 12 = .ok (.iconst 1, 1) := by decide +kernel
theorem dX7_markStale_13 : decode cX7_markStale 13 = .ok (.putfield 73, 3) := by decide +kernel
theorem dX7_markStale_16 : decode cX7_markStale 16 = .ok (.return_, 1) := by decide +kernel
theorem dX7_freshen_0 : decode cX7_freshen 0 = .ok (.aload_n 0, 1) := by decide +kernel
theorem dX7_freshen_1 : decode cX7_freshen 1 = .ok (.getfield 69, 3) := by decide +kernel
theorem dX7_freshen_4 : decode cX7_freshen 4 = .ok (.ifCond .eq 58, 3) := by decide +kernel
theorem dX7_freshen_7 : decode cX7_freshen 7 = .ok (.aload_n 0, 1) := by decide +kernel
theorem dX7_freshen_8 : decode cX7_freshen 8 = .ok (.getfield 44, 3) := by decide +kernel
theorem dX7_freshen_11 : decode cX7_freshen 11 = .ok (.aload_n 0, 1) := by decide +kernel
theorem dX7_freshen_12 : decode cX7_freshen 12 = .ok (.getfield 21, 3) := by decide +kernel
theorem dX7_freshen_15 : decode cX7_freshen 15 = .ok (.aload_n 0, 1) := by decide +kernel
theorem dX7_freshen_16 : decode cX7_freshen 16 = .ok (.getfield 28, 3) := by decide +kernel
theorem dX7_freshen_19 : decode cX7_freshen 19 = .ok (.invokevirtual 256, 3) := by decide +kernel
theorem dX7_freshen_22 : decode cX7_freshen 22 = .ok (.aload_n 0, 1) := by decide +kernel
theorem dX7_freshen_23 : decode cX7_freshen 23 = .ok (.getfield 51, 3) := by decide +kernel
theorem dX7_freshen_26 : decode cX7_freshen 26 = .ok (.aload_n 0, 1) := by decide +kernel
theorem dX7_freshen_27 : decode cX7_freshen 27 = .ok (.getfield 44, 3) := by decide +kernel
theorem dX7_freshen_30 : decode cX7_freshen 30 = .ok (.aload_n 0, 1) := by decide +kernel
theorem dX7_freshen_31 : decode cX7_freshen 31 = .ok (.getfield 28, 3) := by decide +kernel
theorem dX7_freshen_34 : decode cX7_freshen 34 = .ok (.bipush 35, 2) := by decide +kernel
theorem dX7_freshen_36 : decode cX7_freshen 36 = .ok (.invokevirtual 227, 3) := by decide +kernel
theorem dX7_freshen_39 : decode cX7_freshen 39 = .ok (.invokevirtual 260, 3) := by decide +kernel
theorem dX7_freshen_42 : decode cX7_freshen 42 = .ok (.aload_n 0, 1) := by decide +kernel
theorem dX7_freshen_43 : decode cX7_freshen 43 = .ok (.getfield 58, 3) := by decide +kernel
theorem dX7_freshen_46 : decode cX7_freshen 46 = .ok (.aload_n 0, 1) := by decide +kernel
theorem dX7_freshen_47 : decode cX7_freshen 47 = .ok (.getfield 44, 3) := by decide +kernel
theorem dX7_freshen_50 : decode cX7_freshen 50 = .ok (.aload_n 0, 1) := by decide +kernel
theorem dX7_freshen_51 : decode cX7_freshen 51 = .ok (.getfield 51, 3) := by decide +kernel
theorem dX7_freshen_54 : decode cX7_freshen 54 = .ok (.invokevirtual 264, 3) := by decide +kernel
theorem dX7_freshen_57 : decode cX7_freshen 57 = .ok (.aload_n 0, 1) := by decide +kernel
theorem dX7_freshen_58 : decode cX7_freshen 58 = .ok (.iconst 0, 1) := by decide +kernel
theorem dX7_freshen_59 : decode cX7_freshen 59 = .ok (.putfield 69, 3) := by decide +kernel
theorem dX7_freshen_62 : decode cX7_freshen 62 = .ok (.return_, 1) := by decide +kernel
theorem dX7_freshenSurvey_0 : decode cX7_freshenSurvey 0 = .ok (.aload_n 0, 1) := by decide +kernel
theorem dX7_freshenSurvey_1 : decode cX7_freshenSurvey 1 = .ok (.getfield 73, 3) := by decide +kernel
theorem dX7_freshenSurvey_4 : decode cX7_freshenSurvey 4 = .ok (.ifCond .eq 23, 3) := by decide +kernel
theorem dX7_freshenSurvey_7 : decode cX7_freshenSurvey 7 = .ok (.aload_n 0, 1) := by decide +kernel
theorem dX7_freshenSurvey_8 : decode cX7_freshenSurvey 8 = .ok (.getfield 65, 3) := by decide +kernel
theorem dX7_freshenSurvey_11 : decode cX7_freshenSurvey 11 = .ok (.aload_n 0, 1) := by decide +kernel
theorem dX7_freshenSurvey_12 : decode cX7_freshenSurvey 12 = .ok (.getfield 44, 3) := by decide +kernel
theorem dX7_freshenSurvey_15 : decode cX7_freshenSurvey 15 = .ok (.aload_n 0, 1) := by decide +kernel
theorem dX7_freshenSurvey_16 : decode cX7_freshenSurvey 16 = .ok (.getfield 51, 3) := by decide +kernel
theorem dX7_freshenSurvey_19 : decode cX7_freshenSurvey 19 = .ok (.invokevirtual 268, 3) := by decide +kernel
theorem dX7_freshenSurvey_22 : decode cX7_freshenSurvey 22 = .ok (.aload_n 0, 1) := by decide +kernel
theorem dX7_freshenSurvey_23 : decode cX7_freshenSurvey 23 = .ok (.iconst 0, 1) := by decide +kernel
theorem dX7_freshenSurvey_24 : decode cX7_freshenSurvey 24 = .ok (.putfield 73, 3) := by decide +kernel
theorem dX7_freshenSurvey_27 : decode cX7_freshenSurvey 27 = .ok (.return_, 1) := by decide +kernel
theorem dX7_firstWrongLine_0 : decode cX7_firstWrongLine 0 = .ok (.iconst (-1), 1) := by decide +kernel
theorem dX7_firstWrongLine_1 : decode cX7_firstWrongLine 1 = .ok (.istore_n 1, 1) := by decide +kernel
theorem dX7_firstWrongLine_2 : decode cX7_firstWrongLine 2 = .ok (.iconst 0, 1) := by decide +kernel
theorem dX7_firstWrongLine_3 : decode cX7_firstWrongLine 3 = .ok (.istore_n 2, 1) := by decide +kernel
theorem dX7_firstWrongLine_4 : decode cX7_firstWrongLine 4 = .ok (.iload_n 2, 1) := by decide +kernel
theorem dX7_firstWrongLine_5 : decode cX7_firstWrongLine 5 = .ok (.aload_n 0, 1) := by decide +kernel
theorem dX7_firstWrongLine_6 : decode cX7_firstWrongLine 6 = .ok (.getfield 32, 3) := by decide +kernel
theorem dX7_firstWrongLine_9 : decode cX7_firstWrongLine 9 = .ok (.invokevirtual 80, 3) := by decide +kernel
theorem dX7_firstWrongLine_12 : decode cX7_firstWrongLine 12 = .ok (.if_icmp .ge 34, 3) := by decide +kernel
theorem dX7_firstWrongLine_15 : decode cX7_firstWrongLine 15 = .ok (.aload_n 0, 1) := by decide +kernel
theorem dX7_firstWrongLine_16 : decode cX7_firstWrongLine 16 = .ok (.getfield 32, 3) := by decide +kernel
theorem dX7_firstWrongLine_19 : decode cX7_firstWrongLine 19 = .ok (.iload_n 2, 1) := by decide +kernel
theorem dX7_firstWrongLine_20 : decode cX7_firstWrongLine 20 = .ok (.invokevirtual 252, 3) := by decide +kernel
theorem dX7_firstWrongLine_23 : decode cX7_firstWrongLine 23 = .ok (.istore_n 3, 1) := by decide +kernel
theorem dX7_firstWrongLine_24 : decode cX7_firstWrongLine 24 = .ok (.aload_n 0, 1) := by decide +kernel
theorem dX7_firstWrongLine_25 : decode cX7_firstWrongLine 25 = .ok (.getfield 44, 3) := by decide +kernel
theorem dX7_firstWrongLine_28 : decode cX7_firstWrongLine 28 = .ok (.iload_n 1, 1) := by decide +kernel
theorem dX7_firstWrongLine_29 : decode cX7_firstWrongLine 29 = .ok (.iload_n 3, 1) := by decide +kernel
theorem dX7_firstWrongLine_30 : decode cX7_firstWrongLine 30 = .ok (.invokevirtual 193, 3) := by decide +kernel
theorem dX7_firstWrongLine_33 : decode cX7_firstWrongLine 33 = .ok (.ifCond .ge 5, 3) := by decide +kernel
theorem dX7_firstWrongLine_36 : decode cX7_firstWrongLine 36 = .ok (.iload_n 2, 1) := by decide +kernel
theorem dX7_firstWrongLine_37 : decode cX7_firstWrongLine 37 = .ok (.ireturn, 1) := by decide +kernel
theorem dX7_firstWrongLine_38 : decode cX7_firstWrongLine 38 = .ok (.iload_n 3, 1) := by decide +kernel
theorem dX7_firstWrongLine_39 : decode cX7_firstWrongLine 39 = .ok (.istore_n 1, 1) := by decide +kernel
theorem dX7_firstWrongLine_40 : decode cX7_firstWrongLine 40 = .ok (.iinc 2 1, 3) := by decide +kernel
theorem dX7_firstWrongLine_43 : decode cX7_firstWrongLine 43 = .ok (.goto (-39), 3) := by decide +kernel
theorem dX7_firstWrongLine_46 : decode cX7_firstWrongLine 46 = .ok (.iload_n 1, 1) := by decide +kernel
theorem dX7_firstWrongLine_47 : decode cX7_firstWrongLine 47 = .ok (.aload_n 0, 1) := by decide +kernel
theorem dX7_firstWrongLine_48 : decode cX7_firstWrongLine 48 = .ok (.getfield 21, 3) := by decide +kernel
theorem dX7_firstWrongLine_51 : decode cX7_firstWrongLine 51 = .ok (.invokevirtual 249, 3) := by decide +kernel
theorem dX7_firstWrongLine_54 : decode cX7_firstWrongLine 54 = .ok (.iconst 1, 1) := by decide +kernel
theorem dX7_firstWrongLine_55 : decode cX7_firstWrongLine 55 = .ok (.isub, 1) := by decide +kernel
theorem dX7_firstWrongLine_56 : decode cX7_firstWrongLine 56 = .ok (.if_icmp .ne 7, 3) := by decide +kernel
theorem dX7_firstWrongLine_59 : decode cX7_firstWrongLine 59 = .ok (.iconst (-1), 1) := by decide +kernel
theorem dX7_firstWrongLine_60 : decode cX7_firstWrongLine 60 = .ok (.goto 10, 3) := by decide +kernel
theorem dX7_firstWrongLine_63 : decode cX7_firstWrongLine 63 = .ok (.aload_n 0, 1) := by decide +kernel
theorem dX7_firstWrongLine_64 : decode cX7_firstWrongLine 64 = .ok (.getfield 32, 3) := by decide +kernel
theorem dX7_firstWrongLine_67 : decode cX7_firstWrongLine 67 = .ok (.invokevirtual 80, 3) := by decide +kernel
theorem dX7_firstWrongLine_70 : decode cX7_firstWrongLine 70 = .ok (.ireturn, 1) := by decide +kernel
theorem dX7_costOfDraft_0 : decode cX7_costOfDraft 0 = .ok (.iconst 0, 1) := by decide +kernel
theorem dX7_costOfDraft_1 : decode cX7_costOfDraft 1 = .ok (.istore_n 1, 1) := by decide +kernel
theorem dX7_costOfDraft_2 : decode cX7_costOfDraft 2 = .ok (.iconst (-1), 1) := by decide +kernel
theorem dX7_costOfDraft_3 : decode cX7_costOfDraft 3 = .ok (.istore_n 2, 1) := by decide +kernel
theorem dX7_costOfDraft_4 : decode cX7_costOfDraft 4 = .ok (.iconst 0, 1) := by decide +kernel
theorem dX7_costOfDraft_5 : decode cX7_costOfDraft 5 = .ok (.istore_n 3, 1) := by decide +kernel
theorem dX7_costOfDraft_6 : decode cX7_costOfDraft 6 = .ok (.iload_n 3, 1) := by decide +kernel
theorem dX7_costOfDraft_7 : decode cX7_costOfDraft 7 = .ok (.aload_n 0, 1) := by decide +kernel
theorem dX7_costOfDraft_8 : decode cX7_costOfDraft 8 = .ok (.getfield 32, 3) := by decide +kernel
theorem dX7_costOfDraft_11 : decode cX7_costOfDraft 11 = .ok (.invokevirtual 80, 3) := by decide +kernel
theorem dX7_costOfDraft_14 : decode cX7_costOfDraft 14 = .ok (.if_icmp .ge 35, 3) := by decide +kernel
theorem dX7_costOfDraft_17 : decode cX7_costOfDraft 17 = .ok (.aload_n 0, 1) := by decide +kernel
theorem dX7_costOfDraft_18 : decode cX7_costOfDraft 18 = .ok (.getfield 32, 3) := by decide +kernel
theorem dX7_costOfDraft_21 : decode cX7_costOfDraft 21 = .ok (.iload_n 3, 1) := by decide +kernel
theorem dX7_costOfDraft_22 : decode cX7_costOfDraft 22 = .ok (.invokevirtual 252, 3) := by decide +kernel
theorem dX7_costOfDraft_25 : decode cX7_costOfDraft 25 = .ok (.istore 4, 2) := by decide +kernel
theorem dX7_costOfDraft_27 : decode cX7_costOfDraft 27 = .ok (.iload_n 1, 1) := by decide +kernel
theorem dX7_costOfDraft_28 : decode cX7_costOfDraft 28 = .ok (.aload_n 0, 1) := by decide +kernel
theorem dX7_costOfDraft_29 : decode cX7_costOfDraft 29 = .ok (.getfield 44, 3) := by decide +kernel
theorem dX7_costOfDraft_32 : decode cX7_costOfDraft 32 = .ok (.iload_n 2, 1) := by decide +kernel
theorem dX7_costOfDraft_33 : decode cX7_costOfDraft 33 = .ok (.iload 4, 2) := by decide +kernel
theorem dX7_costOfDraft_35 : decode cX7_costOfDraft 35 = .ok (.invokevirtual 196, 3) := by decide +kernel
theorem dX7_costOfDraft_38 : decode cX7_costOfDraft 38 = .ok (.iadd, 1) := by decide +kernel
theorem dX7_costOfDraft_39 : decode cX7_costOfDraft 39 = .ok (.istore_n 1, 1) := by decide +kernel
theorem dX7_costOfDraft_40 : decode cX7_costOfDraft 40 = .ok (.iload 4, 2) := by decide +kernel
theorem dX7_costOfDraft_42 : decode cX7_costOfDraft 42 = .ok (.istore_n 2, 1) := by decide +kernel
theorem dX7_costOfDraft_43 : decode cX7_costOfDraft 43 = .ok (.iinc 3 1, 3) := by decide +kernel
theorem dX7_costOfDraft_46 : decode cX7_costOfDraft 46 = .ok (.goto (-40), 3) := by decide +kernel
theorem dX7_costOfDraft_49 : decode cX7_costOfDraft 49 = .ok (.iload_n 1, 1) := by decide +kernel
theorem dX7_costOfDraft_50 : decode cX7_costOfDraft 50 = .ok (.ireturn, 1) := by decide +kernel
theorem dX7_isLetter_0 : decode cX7_isLetter 0 = .ok (.iload_n 0, 1) := by decide +kernel
theorem dX7_isLetter_1 : decode cX7_isLetter 1 = .ok (.bipush 97, 2) := by decide +kernel
theorem dX7_isLetter_3 : decode cX7_isLetter 3 = .ok (.if_icmp .lt 13, 3) := by decide +kernel
theorem dX7_isLetter_6 : decode cX7_isLetter 6 = .ok (.iload_n 0, 1) := by decide +kernel
theorem dX7_isLetter_7 : decode cX7_isLetter 7 = .ok (.bipush 122, 2) := by decide +kernel
theorem dX7_isLetter_9 : decode cX7_isLetter 9 = .ok (.if_icmp .gt 7, 3) := by decide +kernel
theorem dX7_isLetter_12 : decode cX7_isLetter 12 = .ok (.iconst 1, 1) := by decide +kernel
theorem dX7_isLetter_13 : decode cX7_isLetter 13 = .ok (.goto 4, 3) := by decide +kernel
theorem dX7_isLetter_16 : decode cX7_isLetter 16 = .ok (.iconst 0, 1) := by decide +kernel
theorem dX7_isLetter_17 : decode cX7_isLetter 17 = .ok (.ireturn, 1) := by decide +kernel
theorem dX7_markNumber_0 : decode cX7_markNumber 0 = .ok (.iload_n 0, 1) := by decide +kernel
theorem dX7_markNumber_1 : decode cX7_markNumber 1 = .ok (.tableswitch 55 39 46 #[53, 55, 55, 55, 55, 49, 51, 47], 47) := by decide +kernel
theorem dX7_markNumber_48 : decode cX7_markNumber 48 = .ok (.iconst 0, 1) := by decide +kernel
theorem dX7_markNumber_49 : decode cX7_markNumber 49 = .ok (.ireturn, 1) := by decide +kernel
theorem dX7_markNumber_50 : decode cX7_markNumber 50 = .ok (.iconst 1, 1) := by decide +kernel
theorem dX7_markNumber_51 : decode cX7_markNumber 51 = .ok (.ireturn, 1) := by decide +kernel
theorem dX7_markNumber_52 : decode cX7_markNumber 52 = .ok (.iconst 2, 1) := by decide +kernel
theorem dX7_markNumber_53 : decode cX7_markNumber 53 = .ok (.ireturn, 1) := by decide +kernel
theorem dX7_markNumber_54 : decode cX7_markNumber 54 = .ok (.iconst 3, 1) := by decide +kernel
theorem dX7_markNumber_55 : decode cX7_markNumber 55 = .ok (.ireturn, 1) := by decide +kernel
theorem dX7_markNumber_56 : decode cX7_markNumber 56 = .ok (.iconst (-1), 1) := by decide +kernel
theorem dX7_markNumber_57 : decode cX7_markNumber 57 = .ok (.ireturn, 1) := by decide +kernel
theorem dX7_widthSlot_0 : decode cX7_widthSlot 0 = .ok (.iload_n 0, 1) := by decide +kernel
theorem dX7_widthSlot_1 : decode cX7_widthSlot 1 = .ok (.invokestatic 271, 3) := by decide +kernel
theorem dX7_widthSlot_4 : decode cX7_widthSlot 4 = .ok (.ifCond .eq 8, 3) := by decide +kernel
theorem dX7_widthSlot_7 : decode cX7_widthSlot 7 = .ok (.iload_n 0, 1) := by decide +kernel
theorem dX7_widthSlot_8 : decode cX7_widthSlot 8 = .ok (.bipush 97, 2) := by decide +kernel
theorem dX7_widthSlot_10 : decode cX7_widthSlot 10 = .ok (.isub, 1) := by decide +kernel
theorem dX7_widthSlot_11 : decode cX7_widthSlot 11 = .ok (.ireturn, 1) := by decide +kernel
theorem dX7_widthSlot_12 : decode cX7_widthSlot 12 = .ok (.iload_n 0, 1) := by decide +kernel
theorem dX7_widthSlot_13 : decode cX7_widthSlot 13 = .ok (.invokestatic 274, 3) := by decide +kernel
theorem dX7_widthSlot_16 : decode cX7_widthSlot 16 = .ok (.istore_n 1, 1) := by decide +kernel
theorem dX7_widthSlot_17 : decode cX7_widthSlot 17 = .ok (.iload_n 1, 1) := by decide +kernel
theorem dX7_widthSlot_18 : decode cX7_widthSlot 18 = .ok (.ifCond .ge 7, 3) := by decide +kernel
theorem dX7_widthSlot_21 : decode cX7_widthSlot 21 = .ok (.iconst (-1), 1) := by decide +kernel
theorem dX7_widthSlot_22 : decode cX7_widthSlot 22 = .ok (.goto 7, 3) := by decide +kernel
theorem dX7_widthSlot_25 : decode cX7_widthSlot 25 = .ok (.bipush 26, 2) := by decide +kernel
theorem dX7_widthSlot_27 : decode cX7_widthSlot 27 = .ok (.iload_n 1, 1) := by decide +kernel
theorem dX7_widthSlot_28 : decode cX7_widthSlot 28 = .ok (.iadd, 1) := by decide +kernel
theorem dX7_widthSlot_29 : decode cX7_widthSlot 29 = .ok (.ireturn, 1) := by decide +kernel
theorem dX7_hangSlot_0 : decode cX7_hangSlot 0 = .ok (.iload_n 0, 1) := by decide +kernel
theorem dX7_hangSlot_1 : decode cX7_hangSlot 1 = .ok (.invokestatic 274, 3) := by decide +kernel
theorem dX7_hangSlot_4 : decode cX7_hangSlot 4 = .ok (.istore_n 1, 1) := by decide +kernel
theorem dX7_hangSlot_5 : decode cX7_hangSlot 5 = .ok (.iload_n 1, 1) := by decide +kernel
theorem dX7_hangSlot_6 : decode cX7_hangSlot 6 = .ok (.ifCond .ge 7, 3) := by decide +kernel
theorem dX7_hangSlot_9 : decode cX7_hangSlot 9 = .ok (.iconst (-1), 1) := by decide +kernel
theorem dX7_hangSlot_10 : decode cX7_hangSlot 10 = .ok (.goto 7, 3) := by decide +kernel
theorem dX7_hangSlot_13 : decode cX7_hangSlot 13 = .ok (.bipush 30, 2) := by decide +kernel
theorem dX7_hangSlot_15 : decode cX7_hangSlot 15 = .ok (.iload_n 1, 1) := by decide +kernel
theorem dX7_hangSlot_16 : decode cX7_hangSlot 16 = .ok (.iadd, 1) := by decide +kernel
theorem dX7_hangSlot_17 : decode cX7_hangSlot 17 = .ok (.ireturn, 1) := by decide +kernel
theorem dX7_isPlainSign_0 : decode cX7_isPlainSign 0 = .ok (.iload_n 0, 1) := by decide +kernel
theorem dX7_isPlainSign_1 : decode cX7_isPlainSign 1 = .ok (.invokestatic 130, 3) := by decide +kernel
theorem dX7_isPlainSign_4 : decode cX7_isPlainSign 4 = .ok (.ifCond .lt 7, 3) := by decide +kernel
theorem dX7_isPlainSign_7 : decode cX7_isPlainSign 7 = .ok (.iconst 1, 1) := by decide +kernel
theorem dX7_isPlainSign_8 : decode cX7_isPlainSign 8 = .ok (.goto 4, 3) := by decide +kernel
theorem dX7_isPlainSign_11 : decode cX7_isPlainSign 11 = .ok (.iconst 0, 1) := by decide +kernel
theorem dX7_isPlainSign_12 : decode cX7_isPlainSign 12 = .ok (.ireturn, 1) := by decide +kernel
theorem dX7_faultOf_0 : decode cX7_faultOf 0 = .ok (.iconst 0, 1) := by decide +kernel
theorem dX7_faultOf_1 : decode cX7_faultOf 1 = .ok (.istore_n 1, 1) := by decide +kernel
theorem dX7_faultOf_2 : decode cX7_faultOf 2 = .ok (.iconst 0, 1) := by decide +kernel
theorem dX7_faultOf_3 : decode cX7_faultOf 3 = .ok (.istore_n 2, 1) := by decide +kernel
theorem dX7_faultOf_4 : decode cX7_faultOf 4 = .ok (.iconst 0, 1) := by decide +kernel
theorem dX7_faultOf_5 : decode cX7_faultOf 5 = .ok (.istore_n 3, 1) := by decide +kernel
theorem dX7_faultOf_6 : decode cX7_faultOf 6 = .ok (.iload_n 3, 1) := by decide +kernel
theorem dX7_faultOf_7 : decode cX7_faultOf 7 = .ok (.aload_n 0, 1) := by decide +kernel
theorem dX7_faultOf_8 : decode cX7_faultOf 8 = .ok (.invokevirtual 80, 3) := by decide +kernel
theorem dX7_faultOf_11 : decode cX7_faultOf 11 = .ok (.if_icmp .ge 85, 3) := by decide +kernel
theorem dX7_faultOf_14 : decode cX7_faultOf 14 = .ok (.aload_n 0, 1) := by decide +kernel
theorem dX7_faultOf_15 : decode cX7_faultOf 15 = .ok (.iload_n 3, 1) := by decide +kernel
theorem dX7_faultOf_16 : decode cX7_faultOf 16 = .ok (.invokevirtual 252, 3) := by decide +kernel
theorem dX7_faultOf_19 : decode cX7_faultOf 19 = .ok (.istore 4, 2) := by decide +kernel
theorem dX7_faultOf_21 : decode cX7_faultOf 21 = .ok (.iload 4, 2) := by decide +kernel
theorem dX7_faultOf_23 : decode cX7_faultOf 23 = .ok (.bipush 32, 2) := by decide +kernel
theorem dX7_faultOf_25 : decode cX7_faultOf 25 = .ok (.if_icmp .ne 8, 3) := by decide +kernel
theorem dX7_faultOf_28 : decode cX7_faultOf 28 = .ok (.iconst 0, 1) := by decide +kernel
theorem dX7_faultOf_29 : decode cX7_faultOf 29 = .ok (.istore_n 2, 1) := by decide +kernel
theorem dX7_faultOf_30 : decode cX7_faultOf 30 = .ok (.goto 60, 3) := by decide +kernel
theorem dX7_faultOf_33 : decode cX7_faultOf 33 = .ok (.iload 4, 2) := by decide +kernel
theorem dX7_faultOf_35 : decode cX7_faultOf 35 = .ok (.bipush 47, 2) := by decide +kernel
theorem dX7_faultOf_37 : decode cX7_faultOf 37 = .ok (.if_icmp .ne 14, 3) := by decide +kernel
theorem dX7_faultOf_40 : decode cX7_faultOf 40 = .ok (.aload_n 0, 1) := by decide +kernel
theorem dX7_faultOf_41 : decode cX7_faultOf 41 = .ok (.iload_n 3, 1) := by decide +kernel
theorem dX7_faultOf_42 : decode cX7_faultOf 42 = .ok (.invokestatic 277, 3) := by decide +kernel
theorem dX7_faultOf_45 : decode cX7_faultOf 45 = .ok (.ifCond .ne 16, 3) := by decide +kernel
theorem dX7_faultOf_48 : decode cX7_faultOf 48 = .ok (.goto 11, 3) := by decide +kernel
theorem dX7_faultOf_51 : decode cX7_faultOf 51 = .ok (.iload 4, 2) := by decide +kernel
theorem dX7_faultOf_53 : decode cX7_faultOf 53 = .ok (.invokestatic 281, 3) := by decide +kernel
theorem dX7_faultOf_56 : decode cX7_faultOf 56 = .ok (.ifCond .ne 5, 3) := by decide +kernel
theorem dX7_faultOf_59 : decode cX7_faultOf 59 = .ok (.iload_n 3, 1) := by decide +kernel
theorem dX7_faultOf_60 : decode cX7_faultOf 60 = .ok (.ireturn, 1) := by decide +kernel
theorem dX7_faultOf_61 : decode cX7_faultOf 61 = .ok (.iload_n 1, 1) := by decide +kernel
theorem dX7_faultOf_62 : decode cX7_faultOf 62 = .ok (.iload_n 2, 1) := by decide +kernel
theorem dX7_faultOf_63 : decode cX7_faultOf 63 = .ok (.ifCond .ne 7, 3) := by decide +kernel
theorem dX7_faultOf_66 : decode cX7_faultOf 66 = .ok (.iconst 1, 1) := by decide +kernel
theorem dX7_faultOf_67 : decode cX7_faultOf 67 = .ok (.goto 4, 3) := by decide +kernel
theorem dX7_faultOf_70 : decode cX7_faultOf 70 = .ok (.iconst 0, 1) := by decide +kernel
theorem dX7_faultOf_71 : decode cX7_faultOf 71 = .ok (.iadd, 1) := by decide +kernel
theorem dX7_faultOf_72 : decode cX7_faultOf 72 = .ok (.istore_n 1, 1) := by decide +kernel
theorem dX7_faultOf_73 : decode cX7_faultOf 73 = .ok (.iinc 2 1, 3) := by decide +kernel
theorem dX7_faultOf_76 : decode cX7_faultOf 76 = .ok (.iload_n 2, 1) := by decide +kernel
theorem dX7_faultOf_77 : decode cX7_faultOf 77 = .ok (.bipush 16, 2) := by decide +kernel
theorem dX7_faultOf_79 : decode cX7_faultOf 79 = .ok (.if_icmp .gt 9, 3) := by decide +kernel
theorem dX7_faultOf_82 : decode cX7_faultOf 82 = .ok (.iload_n 1, 1) := by decide +kernel
theorem dX7_faultOf_83 : decode cX7_faultOf 83 = .ok (.bipush 30, 2) := by decide +kernel
theorem dX7_faultOf_85 : decode cX7_faultOf 85 = .ok (.if_icmp .le 5, 3) := by decide +kernel
theorem dX7_faultOf_88 : decode cX7_faultOf 88 = .ok (.iload_n 3, 1) := by decide +kernel
theorem dX7_faultOf_89 : decode cX7_faultOf 89 = .ok (.ireturn, 1) := by decide +kernel
theorem dX7_faultOf_90 : decode cX7_faultOf 90 = .ok (.iinc 3 1, 3) := by decide +kernel
theorem dX7_faultOf_93 : decode cX7_faultOf 93 = .ok (.goto (-87), 3) := by decide +kernel
theorem dX7_faultOf_96 : decode cX7_faultOf 96 = .ok (.iconst (-1), 1) := by decide +kernel
theorem dX7_faultOf_97 : decode cX7_faultOf 97 = .ok (.ireturn, 1) := by decide +kernel
theorem dX7_isBetweenSigns_0 : decode cX7_isBetweenSigns 0 = .ok (.iload_n 1, 1) := by decide +kernel
theorem dX7_isBetweenSigns_1 : decode cX7_isBetweenSigns 1 = .ok (.ifCond .le 43, 3) := by decide +kernel
theorem dX7_isBetweenSigns_4 : decode cX7_isBetweenSigns 4 = .ok (.iload_n 1, 1) := by decide +kernel
theorem dX7_isBetweenSigns_5 : decode cX7_isBetweenSigns 5 = .ok (.iconst 1, 1) := by decide +kernel
theorem dX7_isBetweenSigns_6 : decode cX7_isBetweenSigns 6 = .ok (.iadd, 1) := by decide +kernel
theorem dX7_isBetweenSigns_7 : decode cX7_isBetweenSigns 7 = .ok (.aload_n 0, 1) := by decide +kernel
theorem dX7_isBetweenSigns_8 : decode cX7_isBetweenSigns 8 = .ok (.invokevirtual 80, 3) := by decide +kernel
theorem dX7_isBetweenSigns_11 : decode cX7_isBetweenSigns 11 = .ok (.if_icmp .ge 33, 3) := by decide +kernel
theorem dX7_isBetweenSigns_14 : decode cX7_isBetweenSigns 14 = .ok (.aload_n 0, 1) := by decide +kernel
theorem dX7_isBetweenSigns_15 : decode cX7_isBetweenSigns 15 = .ok (.iload_n 1, 1) := by decide +kernel
theorem dX7_isBetweenSigns_16 : decode cX7_isBetweenSigns 16 = .ok (.iconst 1, 1) := by decide +kernel
theorem dX7_isBetweenSigns_17 : decode cX7_isBetweenSigns 17 = .ok (.isub, 1) := by decide +kernel
theorem dX7_isBetweenSigns_18 : decode cX7_isBetweenSigns 18 = .ok (.invokevirtual 252, 3) := by decide +kernel
theorem dX7_isBetweenSigns_21 : decode cX7_isBetweenSigns 21 = .ok (.invokestatic 281, 3) := by decide +kernel
theorem dX7_isBetweenSigns_24 : decode cX7_isBetweenSigns 24 = .ok (.ifCond .eq 20, 3) := by decide +kernel
theorem dX7_isBetweenSigns_27 : decode cX7_isBetweenSigns 27 = .ok (.aload_n 0, 1) := by decide +kernel
theorem dX7_isBetweenSigns_28 : decode cX7_isBetweenSigns 28 = .ok (.iload_n 1, 1) := by decide +kernel
theorem dX7_isBetweenSigns_29 : decode cX7_isBetweenSigns 29 = .ok (.iconst 1, 1) := by decide +kernel
theorem dX7_isBetweenSigns_30 : decode cX7_isBetweenSigns 30 = .ok (.iadd, 1) := by decide +kernel
theorem dX7_isBetweenSigns_31 : decode cX7_isBetweenSigns 31 = .ok (.invokevirtual 252, 3) := by decide +kernel
theorem dX7_isBetweenSigns_34 : decode cX7_isBetweenSigns 34 = .ok (.invokestatic 281, 3) := by decide +kernel
theorem dX7_isBetweenSigns_37 : decode cX7_isBetweenSigns 37 = .ok (.ifCond .eq 7, 3) := by decide +kernel
theorem dX7_isBetweenSigns_40 : decode cX7_isBetweenSigns 40 = .ok (.iconst 1, 1) := by decide +kernel
theorem dX7_isBetweenSigns_41 : decode cX7_isBetweenSigns 41 = .ok (.goto 4, 3) := by decide +kernel
theorem dX7_isBetweenSigns_44 : decode cX7_isBetweenSigns 44 = .ok (.iconst 0, 1) := by decide +kernel
theorem dX7_isBetweenSigns_45 : decode cX7_isBetweenSigns 45 = .ok (.ireturn, 1) := by decide +kernel
theorem dX8_in_0 : decode cX8_in 0 = .ok (.iload_n 0, 1) := by decide +kernel
theorem dX8_in_1 : decode cX8_in 1 = .ok (.iload_n 1, 1) := by decide +kernel
theorem dX8_in_2 : decode cX8_in 2 = .ok (.if_icmp .lt 12, 3) := by decide +kernel
theorem dX8_in_5 : decode cX8_in 5 = .ok (.iload_n 0, 1) := by decide +kernel
theorem dX8_in_6 : decode cX8_in 6 = .ok (.iload_n 2, 1) := by decide +kernel
theorem dX8_in_7 : decode cX8_in 7 = .ok (.if_icmp .gt 7, 3) := by decide +kernel
theorem dX8_in_10 : decode cX8_in 10 = .ok (.iconst 1, 1) := by decide +kernel
theorem dX8_in_11 : decode cX8_in 11 = .ok (.goto 4, 3) := by decide +kernel
theorem dX8_in_14 : decode cX8_in 14 = .ok (.iconst 0, 1) := by decide +kernel
theorem dX8_in_15 : decode cX8_in 15 = .ok (.ireturn, 1) := by decide +kernel
theorem dX8_init_0 : decode cX8_init 0 = .ok (.aload_n 0, 1) := by decide +kernel
theorem dX8_init_1 : decode cX8_init 1 = .ok (.invokespecial 1, 3) := by decide +kernel
theorem dX8_init_4 : decode cX8_init 4 = .ok (.aload_n 0, 1) := by decide +kernel
theorem dX8_init_5 : decode cX8_init 5 = .ok (.sipush 200, 3) := by decide +kernel
theorem dX8_init_8 : decode cX8_init 8 = .ok (.newarray .int, 2) := by decide +kernel
theorem dX8_init_10 : decode cX8_init 10 = .ok (.putfield 7, 3) := by decide +kernel
theorem dX8_init_13 : decode cX8_init 13 = .ok (.aload_n 0, 1) := by decide +kernel
theorem dX8_init_14 : decode cX8_init 14 = .ok (.sipush 200, 3) := by decide +kernel
theorem dX8_init_17 : decode cX8_init 17 = .ok (.newarray .int, 2) := by decide +kernel
theorem dX8_init_19 : decode cX8_init 19 = .ok (.putfield 13, 3) := by decide +kernel
theorem dX8_init_22 : decode cX8_init 22 = .ok (.aload_n 0, 1) := by decide +kernel
theorem dX8_init_23 : decode cX8_init 23 = .ok (.bipush 30, 2) := by decide +kernel
theorem dX8_init_25 : decode cX8_init 25 = .ok (.newarray .int, 2) := by decide +kernel
theorem dX8_init_27 : decode cX8_init 27 = .ok (.putfield 16, 3) := by decide +kernel
theorem dX8_init_30 : decode cX8_init 30 = .ok (.aload_n 0, 1) := by decide +kernel
theorem dX8_init_31 : decode cX8_init 31 = .ok (.bipush 30, 2) := by decide +kernel
theorem dX8_init_33 : decode cX8_init 33 = .ok (.newarray .int, 2) := by decide +kernel
theorem dX8_init_35 : decode cX8_init 35 = .ok (.putfield 19, 3) := by decide +kernel
theorem dX8_init_38 : decode cX8_init 38 = .ok (.aload_n 0, 1) := by decide +kernel
theorem dX8_init_39 : decode cX8_init 39 = .ok (.bipush 104, 2) := by decide +kernel
theorem dX8_init_41 : decode cX8_init 41 = .ok (.newarray .int, 2) := by decide +kernel
theorem dX8_init_43 : decode cX8_init 43 = .ok (.putfield 22, 3) := by decide +kernel
theorem dX8_init_46 : decode cX8_init 46 = .ok (.aload_n 0, 1) := by decide +kernel
theorem dX8_init_47 : decode cX8_init 47 = .ok (.bipush 104, 2) := by decide +kernel
theorem dX8_init_49 : decode cX8_init 49 = .ok (.newarray .int, 2) := by decide +kernel
theorem dX8_init_51 : decode cX8_init 51 = .ok (.putfield 25, 3) := by decide +kernel
theorem dX8_init_54 : decode cX8_init 54 = .ok (.aload_n 0, 1) := by decide +kernel
theorem dX8_init_55 : decode cX8_init 55 = .ok (.bipush 104, 2) := by decide +kernel
theorem dX8_init_57 : decode cX8_init 57 = .ok (.newarray .boolean, 2) := by decide +kernel
theorem dX8_init_59 : decode cX8_init 59 = .ok (.putfield 28, 3) := by decide +kernel
theorem dX8_init_62 : decode cX8_init 62 = .ok (.aload_n 0, 1) := by decide +kernel
theorem dX8_init_63 : decode cX8_init 63 = .ok (.bipush 38, 2) := by decide +kernel
theorem dX8_init_65 : decode cX8_init 65 = .ok (.newarray .int, 2) := by decide +kernel
theorem dX8_init_67 : decode cX8_init 67 = .ok (.putfield 32, 3) := by decide +kernel
theorem dX8_init_70 : decode cX8_init 70 = .ok (.aload_n 0, 1) := by decide +kernel
theorem dX8_init_71 : decode cX8_init 71 = .ok (.sipush 380, 3) := by decide +kernel

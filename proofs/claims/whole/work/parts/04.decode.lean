theorem d_X_init_0 : decode b_X_init 0 = .ok (.aload_n 0, 1) := by decide +kernel
theorem d_X_init_1 : decode b_X_init 1 = .ok (.invokespecial 1, 3) := by decide +kernel
theorem d_X_init_4 : decode b_X_init 4 = .ok (.aload_n 0, 1) := by decide +kernel
theorem d_X_init_5 : decode b_X_init 5 = .ok (.new 7, 3) := by decide +kernel
theorem d_X_init_8 : decode b_X_init 8 = .ok (.dup, 1) := by decide +kernel
theorem d_X_init_9 : decode b_X_init 9 = .ok (.invokespecial 9, 3) := by decide +kernel
theorem d_X_init_12 : decode b_X_init 12 = .ok (.putfield 10, 3) := by decide +kernel
theorem d_X_init_15 : decode b_X_init 15 = .ok (.aload_n 0, 1) := by decide +kernel
theorem d_X_init_16 : decode b_X_init 16 = .ok (.sipush 1000, 3) := by decide +kernel
theorem d_X_init_19 : decode b_X_init 19 = .ok (.newarray .int, 2) := by decide +kernel
theorem d_X_init_21 : decode b_X_init 21 = .ok (.putfield 16, 3) := by decide +kernel
theorem d_X_init_24 : decode b_X_init 24 = .ok (.aload_n 0, 1) := by decide +kernel
theorem d_X_init_25 : decode b_X_init 25 = .ok (.sipush 1000, 3) := by decide +kernel
theorem d_X_init_28 : decode b_X_init 28 = .ok (.newarray .int, 2) := by decide +kernel
theorem d_X_init_30 : decode b_X_init 30 = .ok (.putfield 20, 3) := by decide +kernel
theorem d_X_init_33 : decode b_X_init 33 = .ok (.aload_n 0, 1) := by decide +kernel
theorem d_X_init_34 : decode b_X_init 34 = .ok (.sipush 1000, 3) := by decide +kernel
theorem d_X_init_37 : decode b_X_init 37 = .ok (.newarray .int, 2) := by decide +kernel
theorem d_X_init_39 : decode b_X_init 39 = .ok (.putfield 23, 3) := by decide +kernel
theorem d_X_init_42 : decode b_X_init 42 = .ok (.aload_n 0, 1) := by decide +kernel
theorem d_X_init_43 : decode b_X_init 43 = .ok (.sipush 1000, 3) := by decide +kernel
theorem d_X_init_46 : decode b_X_init 46 = .ok (.newarray .int, 2) := by decide +kernel
theorem d_X_init_48 : decode b_X_init 48 = .ok (.putfield 26, 3) := by decide +kernel
theorem d_X_init_51 : decode b_X_init 51 = .ok (.aload_n 0, 1) := by decide +kernel
theorem d_X_init_52 : decode b_X_init 52 = .ok (.sipush 1000, 3) := by decide +kernel
theorem d_X_init_55 : decode b_X_init 55 = .ok (.newarray .int, 2) := by decide +kernel
theorem d_X_init_57 : decode b_X_init 57 = .ok (.putfield 29, 3) := by decide +kernel
theorem d_X_init_60 : decode b_X_init 60 = .ok (.aload_n 0, 1) := by decide +kernel
theorem d_X_init_61 : decode b_X_init 61 = .ok (.new 32, 3) := by decide +kernel
theorem d_X_init_64 : decode b_X_init 64 = .ok (.dup, 1) := by decide +kernel
theorem d_X_init_65 : decode b_X_init 65 = .ok (.invokespecial 34, 3) := by decide +kernel
theorem d_X_init_68 : decode b_X_init 68 = .ok (.putfield 35, 3) := by decide +kernel
theorem d_X_init_71 : decode b_X_init 71 = .ok (.aload_n 0, 1) := by decide +kernel
theorem d_X_init_72 : decode b_X_init 72 = .ok (.sipush 1000, 3) := by decide +kernel
theorem d_X_init_75 : decode b_X_init 75 = .ok (.newarray .int, 2) := by decide +kernel
theorem d_X_init_77 : decode b_X_init 77 = .ok (.putfield 39, 3) := by decide +kernel
theorem d_X_init_80 : decode b_X_init 80 = .ok (.aload_n 0, 1) := by decide +kernel
theorem d_X_init_81 : decode b_X_init 81 = .ok (.invokevirtual 42, 3) := by decide +kernel
theorem d_X_init_84 : decode b_X_init 84 = .ok (.return_, 1) := by decide +kernel
theorem d_X_free_0 : decode b_X_free 0 = .ok (.aload_n 0, 1) := by decide +kernel
theorem d_X_free_1 : decode b_X_free 1 = .ok (.invokevirtual 45, 3) := by decide +kernel
theorem d_X_free_4 : decode b_X_free 4 = .ok (.istore_n 1, 1) := by decide +kernel
theorem d_X_free_5 : decode b_X_free 5 = .ok (.aload_n 0, 1) := by decide +kernel
theorem d_X_free_6 : decode b_X_free 6 = .ok (.getfield 10, 3) := by decide +kernel
theorem d_X_free_9 : decode b_X_free 9 = .ok (.iload_n 1, 1) := by decide +kernel
theorem d_X_free_10 : decode b_X_free 10 = .ok (.iconst 0, 1) := by decide +kernel
theorem d_X_free_11 : decode b_X_free 11 = .ok (.iconst (-1), 1) := by decide +kernel
theorem d_X_free_12 : decode b_X_free 12 = .ok (.iconst (-1), 1) := by decide +kernel
theorem d_X_free_13 : decode b_X_free 13 = .ok (.invokevirtual 49, 3) := by decide +kernel
theorem d_X_free_16 : decode b_X_free 16 = .ok (.aload_n 0, 1) := by decide +kernel
theorem d_X_free_17 : decode b_X_free 17 = .ok (.iload_n 1, 1) := by decide +kernel
theorem d_X_free_18 : decode b_X_free 18 = .ok (.invokevirtual 53, 3) := by decide +kernel
theorem d_X_free_21 : decode b_X_free 21 = .ok (.iload_n 1, 1) := by decide +kernel
theorem d_X_free_22 : decode b_X_free 22 = .ok (.ireturn, 1) := by decide +kernel
theorem d_X_sum_0 : decode b_X_sum 0 = .ok (.aload_n 0, 1) := by decide +kernel
theorem d_X_sum_1 : decode b_X_sum 1 = .ok (.iconst 2, 1) := by decide +kernel
theorem d_X_sum_2 : decode b_X_sum 2 = .ok (.aload_n 0, 1) := by decide +kernel
theorem d_X_sum_3 : decode b_X_sum 3 = .ok (.iload_n 1, 1) := by decide +kernel
theorem d_X_sum_4 : decode b_X_sum 4 = .ok (.invokevirtual 57, 3) := by decide +kernel
theorem d_X_sum_7 : decode b_X_sum 7 = .ok (.aload_n 0, 1) := by decide +kernel
theorem d_X_sum_8 : decode b_X_sum 8 = .ok (.iload_n 2, 1) := by decide +kernel
theorem d_X_sum_9 : decode b_X_sum 9 = .ok (.invokevirtual 57, 3) := by decide +kernel
theorem d_X_sum_12 : decode b_X_sum 12 = .ok (.invokevirtual 61, 3) := by decide +kernel
theorem d_X_sum_15 : decode b_X_sum 15 = .ok (.ireturn, 1) := by decide +kernel
theorem d_X_pair_0 : decode b_X_pair 0 = .ok (.aload_n 0, 1) := by decide +kernel
theorem d_X_pair_1 : decode b_X_pair 1 = .ok (.iconst 3, 1) := by decide +kernel
theorem d_X_pair_2 : decode b_X_pair 2 = .ok (.aload_n 0, 1) := by decide +kernel
theorem d_X_pair_3 : decode b_X_pair 3 = .ok (.iload_n 1, 1) := by decide +kernel
theorem d_X_pair_4 : decode b_X_pair 4 = .ok (.invokevirtual 57, 3) := by decide +kernel
theorem d_X_pair_7 : decode b_X_pair 7 = .ok (.aload_n 0, 1) := by decide +kernel
theorem d_X_pair_8 : decode b_X_pair 8 = .ok (.iload_n 2, 1) := by decide +kernel
theorem d_X_pair_9 : decode b_X_pair 9 = .ok (.invokevirtual 57, 3) := by decide +kernel
theorem d_X_pair_12 : decode b_X_pair 12 = .ok (.invokevirtual 61, 3) := by decide +kernel
theorem d_X_pair_15 : decode b_X_pair 15 = .ok (.ireturn, 1) := by decide +kernel
theorem d_X_join_0 : decode b_X_join 0 = .ok (.aload_n 0, 1) := by decide +kernel
theorem d_X_join_1 : decode b_X_join 1 = .ok (.iload_n 1, 1) := by decide +kernel
theorem d_X_join_2 : decode b_X_join 2 = .ok (.invokevirtual 57, 3) := by decide +kernel
theorem d_X_join_5 : decode b_X_join 5 = .ok (.istore_n 3, 1) := by decide +kernel
theorem d_X_join_6 : decode b_X_join 6 = .ok (.aload_n 0, 1) := by decide +kernel
theorem d_X_join_7 : decode b_X_join 7 = .ok (.iload_n 2, 1) := by decide +kernel
theorem d_X_join_8 : decode b_X_join 8 = .ok (.invokevirtual 57, 3) := by decide +kernel
theorem d_X_join_11 : decode b_X_join 11 = .ok (.istore 4, 2) := by decide +kernel
theorem d_X_join_13 : decode b_X_join 13 = .ok (.iload_n 3, 1) := by decide +kernel
theorem d_X_join_14 : decode b_X_join 14 = .ok (.iload 4, 2) := by decide +kernel
theorem d_X_join_16 : decode b_X_join 16 = .ok (.if_icmp .ne 5, 3) := by decide +kernel
theorem d_X_join_19 : decode b_X_join 19 = .ok (.iconst 1, 1) := by decide +kernel
theorem d_X_join_20 : decode b_X_join 20 = .ok (.ireturn, 1) := by decide +kernel
theorem d_X_join_21 : decode b_X_join 21 = .ok (.aload_n 0, 1) := by decide +kernel
theorem d_X_join_22 : decode b_X_join 22 = .ok (.iload_n 3, 1) := by decide +kernel
theorem d_X_join_23 : decode b_X_join 23 = .ok (.iload 4, 2) := by decide +kernel
theorem d_X_join_25 : decode b_X_join 25 = .ok (.invokevirtual 65, 3) := by decide +kernel
theorem d_X_join_28 : decode b_X_join 28 = .ok (.ifCond .ne 5, 3) := by decide +kernel
theorem d_X_join_31 : decode b_X_join 31 = .ok (.iconst 0, 1) := by decide +kernel
theorem d_X_join_32 : decode b_X_join 32 = .ok (.ireturn, 1) := by decide +kernel
theorem d_X_join_33 : decode b_X_join 33 = .ok (.aload_n 0, 1) := by decide +kernel
theorem d_X_join_34 : decode b_X_join 34 = .ok (.invokevirtual 69, 3) := by decide +kernel
theorem d_X_join_37 : decode b_X_join 37 = .ok (.iconst 1, 1) := by decide +kernel
theorem d_X_join_38 : decode b_X_join 38 = .ok (.ireturn, 1) := by decide +kernel
theorem d_X_alike_0 : decode b_X_alike 0 = .ok (.aload_n 0, 1) := by decide +kernel
theorem d_X_alike_1 : decode b_X_alike 1 = .ok (.iload_n 1, 1) := by decide +kernel
theorem d_X_alike_2 : decode b_X_alike 2 = .ok (.invokevirtual 57, 3) := by decide +kernel
theorem d_X_alike_5 : decode b_X_alike 5 = .ok (.istore_n 3, 1) := by decide +kernel
theorem d_X_alike_6 : decode b_X_alike 6 = .ok (.aload_n 0, 1) := by decide +kernel
theorem d_X_alike_7 : decode b_X_alike 7 = .ok (.iload_n 2, 1) := by decide +kernel
theorem d_X_alike_8 : decode b_X_alike 8 = .ok (.invokevirtual 57, 3) := by decide +kernel
theorem d_X_alike_11 : decode b_X_alike 11 = .ok (.istore 4, 2) := by decide +kernel
theorem d_X_alike_13 : decode b_X_alike 13 = .ok (.iload_n 3, 1) := by decide +kernel
theorem d_X_alike_14 : decode b_X_alike 14 = .ok (.iload 4, 2) := by decide +kernel
theorem d_X_alike_16 : decode b_X_alike 16 = .ok (.if_icmp .eq 13, 3) := by decide +kernel
theorem d_X_alike_19 : decode b_X_alike 19 = .ok (.aload_n 0, 1) := by decide +kernel
theorem d_X_alike_20 : decode b_X_alike 20 = .ok (.iload_n 3, 1) := by decide +kernel
theorem d_X_alike_21 : decode b_X_alike 21 = .ok (.iload 4, 2) := by decide +kernel
theorem d_X_alike_23 : decode b_X_alike 23 = .ok (.invokevirtual 65, 3) := by decide +kernel
theorem d_X_alike_26 : decode b_X_alike 26 = .ok (.ifCond .eq 7, 3) := by decide +kernel
theorem d_X_alike_29 : decode b_X_alike 29 = .ok (.iconst 1, 1) := by decide +kernel
theorem d_X_alike_30 : decode b_X_alike 30 = .ok (.goto 4, 3) := by decide +kernel
theorem d_X_alike_33 : decode b_X_alike 33 = .ok (.iconst 0, 1) := by decide +kernel
theorem d_X_alike_34 : decode b_X_alike 34 = .ok (.ireturn, 1) := by decide +kernel
theorem d_X_same_0 : decode b_X_same 0 = .ok (.aload_n 0, 1) := by decide +kernel
theorem d_X_same_1 : decode b_X_same 1 = .ok (.iload_n 1, 1) := by decide +kernel
theorem d_X_same_2 : decode b_X_same 2 = .ok (.invokevirtual 57, 3) := by decide +kernel
theorem d_X_same_5 : decode b_X_same 5 = .ok (.aload_n 0, 1) := by decide +kernel
theorem d_X_same_6 : decode b_X_same 6 = .ok (.iload_n 2, 1) := by decide +kernel
theorem d_X_same_7 : decode b_X_same 7 = .ok (.invokevirtual 57, 3) := by decide +kernel
theorem d_X_same_10 : decode b_X_same 10 = .ok (.if_icmp .ne 7, 3) := by decide +kernel
theorem d_X_same_13 : decode b_X_same 13 = .ok (.iconst 1, 1) := by decide +kernel
theorem d_X_same_14 : decode b_X_same 14 = .ok (.goto 4, 3) := by decide +kernel
theorem d_X_same_17 : decode b_X_same 17 = .ok (.iconst 0, 1) := by decide +kernel
theorem d_X_same_18 : decode b_X_same 18 = .ok (.ireturn, 1) := by decide +kernel
theorem d_X_renamed_0 : decode b_X_renamed 0 = .ok (.aload_n 0, 1) := by decide +kernel
theorem d_X_renamed_1 : decode b_X_renamed 1 = .ok (.iload_n 1, 1) := by decide +kernel
theorem d_X_renamed_2 : decode b_X_renamed 2 = .ok (.invokevirtual 57, 3) := by decide +kernel
theorem d_X_renamed_5 : decode b_X_renamed 5 = .ok (.istore_n 3, 1) := by decide +kernel
theorem d_X_renamed_6 : decode b_X_renamed 6 = .ok (.aload_n 0, 1) := by decide +kernel
theorem d_X_renamed_7 : decode b_X_renamed 7 = .ok (.iload_n 2, 1) := by decide +kernel
theorem d_X_renamed_8 : decode b_X_renamed 8 = .ok (.invokevirtual 57, 3) := by decide +kernel
theorem d_X_renamed_11 : decode b_X_renamed 11 = .ok (.istore 4, 2) := by decide +kernel
theorem d_X_renamed_13 : decode b_X_renamed 13 = .ok (.aload_n 0, 1) := by decide +kernel
theorem d_X_renamed_14 : decode b_X_renamed 14 = .ok (.iload_n 3, 1) := by decide +kernel
theorem d_X_renamed_15 : decode b_X_renamed 15 = .ok (.iload 4, 2) := by decide +kernel
theorem d_X_renamed_17 : decode b_X_renamed 17 = .ok (.invokevirtual 72, 3) := by decide +kernel
theorem d_X_renamed_20 : decode b_X_renamed 20 = .ok (.ireturn, 1) := by decide +kernel
theorem d_X_kind_0 : decode b_X_kind 0 = .ok (.aload_n 0, 1) := by decide +kernel
theorem d_X_kind_1 : decode b_X_kind 1 = .ok (.getfield 10, 3) := by decide +kernel
theorem d_X_kind_4 : decode b_X_kind 4 = .ok (.getfield 75, 3) := by decide +kernel
theorem d_X_kind_7 : decode b_X_kind 7 = .ok (.aload_n 0, 1) := by decide +kernel
theorem d_X_kind_8 : decode b_X_kind 8 = .ok (.iload_n 1, 1) := by decide +kernel
theorem d_X_kind_9 : decode b_X_kind 9 = .ok (.invokevirtual 57, 3) := by decide +kernel
theorem d_X_kind_12 : decode b_X_kind 12 = .ok (.iaload, 1) := by decide +kernel
theorem d_X_kind_13 : decode b_X_kind 13 = .ok (.ireturn, 1) := by decide +kernel
theorem d_X_part_0 : decode b_X_part 0 = .ok (.aload_n 0, 1) := by decide +kernel
theorem d_X_part_1 : decode b_X_part 1 = .ok (.iload_n 1, 1) := by decide +kernel
theorem d_X_part_2 : decode b_X_part 2 = .ok (.invokevirtual 57, 3) := by decide +kernel
theorem d_X_part_5 : decode b_X_part 5 = .ok (.istore_n 3, 1) := by decide +kernel
theorem d_X_part_6 : decode b_X_part 6 = .ok (.aload_n 0, 1) := by decide +kernel
theorem d_X_part_7 : decode b_X_part 7 = .ok (.getfield 10, 3) := by decide +kernel
theorem d_X_part_10 : decode b_X_part 10 = .ok (.iload_n 3, 1) := by decide +kernel
theorem d_X_part_11 : decode b_X_part 11 = .ok (.invokevirtual 78, 3) := by decide +kernel
theorem d_X_part_14 : decode b_X_part 14 = .ok (.ifCond .ne 11, 3) := by decide +kernel
theorem d_X_part_17 : decode b_X_part 17 = .ok (.new 82, 3) := by decide +kernel
theorem d_X_part_20 : decode b_X_part 20 = .ok (.dup, 1) := by decide +kernel
theorem d_X_part_21 : decode b_X_part 21 = .ok (.invokespecial 84, 3) := by decide +kernel
theorem d_X_part_24 : decode b_X_part 24 = .ok (.athrow, 1) := by decide +kernel
theorem d_X_part_25 : decode b_X_part 25 = .ok (.aload_n 0, 1) := by decide +kernel
theorem d_X_part_26 : decode b_X_part 26 = .ok (.getfield 20, 3) := by decide +kernel
theorem d_X_part_29 : decode b_X_part 29 = .ok (.iload_n 2, 1) := by decide +kernel
theorem d_X_part_30 : decode b_X_part 30 = .ok (.ifCond .eq 15, 3) := by decide +kernel
theorem d_X_part_33 : decode b_X_part 33 = .ok (.aload_n 0, 1) := by decide +kernel
theorem d_X_part_34 : decode b_X_part 34 = .ok (.getfield 10, 3) := by decide +kernel
theorem d_X_part_37 : decode b_X_part 37 = .ok (.getfield 85, 3) := by decide +kernel
theorem d_X_part_40 : decode b_X_part 40 = .ok (.iload_n 3, 1) := by decide +kernel
theorem d_X_part_41 : decode b_X_part 41 = .ok (.iaload, 1) := by decide +kernel
theorem d_X_part_42 : decode b_X_part 42 = .ok (.goto 12, 3) := by decide +kernel
theorem d_X_part_45 : decode b_X_part 45 = .ok (.aload_n 0, 1) := by decide +kernel
theorem d_X_part_46 : decode b_X_part 46 = .ok (.getfield 10, 3) := by decide +kernel
theorem d_X_part_49 : decode b_X_part 49 = .ok (.getfield 88, 3) := by decide +kernel
theorem d_X_part_52 : decode b_X_part 52 = .ok (.iload_n 3, 1) := by decide +kernel
theorem d_X_part_53 : decode b_X_part 53 = .ok (.iaload, 1) := by decide +kernel
theorem d_X_part_54 : decode b_X_part 54 = .ok (.iaload, 1) := by decide +kernel
theorem d_X_part_55 : decode b_X_part 55 = .ok (.ireturn, 1) := by decide +kernel
theorem d_X_size_0 : decode b_X_size 0 = .ok (.aload_n 0, 1) := by decide +kernel
theorem d_X_size_1 : decode b_X_size 1 = .ok (.iload_n 1, 1) := by decide +kernel
theorem d_X_size_2 : decode b_X_size 2 = .ok (.invokevirtual 57, 3) := by decide +kernel
theorem d_X_size_5 : decode b_X_size 5 = .ok (.istore_n 2, 1) := by decide +kernel
theorem d_X_size_6 : decode b_X_size 6 = .ok (.iconst 0, 1) := by decide +kernel
theorem d_X_size_7 : decode b_X_size 7 = .ok (.istore_n 3, 1) := by decide +kernel
theorem d_X_size_8 : decode b_X_size 8 = .ok (.iload_n 3, 1) := by decide +kernel
theorem d_X_size_9 : decode b_X_size 9 = .ok (.aload_n 0, 1) := by decide +kernel
theorem d_X_size_10 : decode b_X_size 10 = .ok (.getfield 91, 3) := by decide +kernel
theorem d_X_size_13 : decode b_X_size 13 = .ok (.if_icmp .ge 30, 3) := by decide +kernel
theorem d_X_size_16 : decode b_X_size 16 = .ok (.aload_n 0, 1) := by decide +kernel
theorem d_X_size_17 : decode b_X_size 17 = .ok (.getfield 29, 3) := by decide +kernel
theorem d_X_size_20 : decode b_X_size 20 = .ok (.aload_n 0, 1) := by decide +kernel
theorem d_X_size_21 : decode b_X_size 21 = .ok (.getfield 23, 3) := by decide +kernel
theorem d_X_size_24 : decode b_X_size 24 = .ok (.iload_n 3, 1) := by decide +kernel
theorem d_X_size_25 : decode b_X_size 25 = .ok (.iaload, 1) := by decide +kernel
theorem d_X_size_26 : decode b_X_size 26 = .ok (.aload_n 0, 1) := by decide +kernel
theorem d_X_size_27 : decode b_X_size 27 = .ok (.aload_n 0, 1) := by decide +kernel
theorem d_X_size_28 : decode b_X_size 28 = .ok (.getfield 23, 3) := by decide +kernel
theorem d_X_size_31 : decode b_X_size 31 = .ok (.iload_n 3, 1) := by decide +kernel
theorem d_X_size_32 : decode b_X_size 32 = .ok (.iaload, 1) := by decide +kernel
theorem d_X_size_33 : decode b_X_size 33 = .ok (.invokevirtual 95, 3) := by decide +kernel
theorem d_X_size_36 : decode b_X_size 36 = .ok (.iastore, 1) := by decide +kernel
theorem d_X_size_37 : decode b_X_size 37 = .ok (.iinc 3 1, 3) := by decide +kernel
theorem d_X_size_40 : decode b_X_size 40 = .ok (.goto (-32), 3) := by decide +kernel
theorem d_X_size_43 : decode b_X_size 43 = .ok (.aload_n 0, 1) := by decide +kernel
theorem d_X_size_44 : decode b_X_size 44 = .ok (.getfield 29, 3) := by decide +kernel
theorem d_X_size_47 : decode b_X_size 47 = .ok (.iload_n 2, 1) := by decide +kernel
theorem d_X_size_48 : decode b_X_size 48 = .ok (.iaload, 1) := by decide +kernel
theorem d_X_size_49 : decode b_X_size 49 = .ok (.ireturn, 1) := by decide +kernel
theorem d_X_values_0 : decode b_X_values 0 = .ok (.aload_n 0, 1) := by decide +kernel
theorem d_X_values_1 : decode b_X_values 1 = .ok (.iload_n 1, 1) := by decide +kernel
theorem d_X_values_2 : decode b_X_values 2 = .ok (.invokevirtual 57, 3) := by decide +kernel
theorem d_X_values_5 : decode b_X_values 5 = .ok (.istore_n 2, 1) := by decide +kernel
theorem d_X_values_6 : decode b_X_values 6 = .ok (.iconst 0, 1) := by decide +kernel
theorem d_X_values_7 : decode b_X_values 7 = .ok (.istore_n 3, 1) := by decide +kernel
theorem d_X_values_8 : decode b_X_values 8 = .ok (.iload_n 3, 1) := by decide +kernel
theorem d_X_values_9 : decode b_X_values 9 = .ok (.aload_n 0, 1) := by decide +kernel
theorem d_X_values_10 : decode b_X_values 10 = .ok (.getfield 91, 3) := by decide +kernel
theorem d_X_values_13 : decode b_X_values 13 = .ok (.if_icmp .ge 30, 3) := by decide +kernel
theorem d_X_values_16 : decode b_X_values 16 = .ok (.aload_n 0, 1) := by decide +kernel
theorem d_X_values_17 : decode b_X_values 17 = .ok (.getfield 29, 3) := by decide +kernel
theorem d_X_values_20 : decode b_X_values 20 = .ok (.aload_n 0, 1) := by decide +kernel
theorem d_X_values_21 : decode b_X_values 21 = .ok (.getfield 23, 3) := by decide +kernel
theorem d_X_values_24 : decode b_X_values 24 = .ok (.iload_n 3, 1) := by decide +kernel
theorem d_X_values_25 : decode b_X_values 25 = .ok (.iaload, 1) := by decide +kernel
theorem d_X_values_26 : decode b_X_values 26 = .ok (.aload_n 0, 1) := by decide +kernel
theorem d_X_values_27 : decode b_X_values 27 = .ok (.aload_n 0, 1) := by decide +kernel
theorem d_X_values_28 : decode b_X_values 28 = .ok (.getfield 23, 3) := by decide +kernel
theorem d_X_values_31 : decode b_X_values 31 = .ok (.iload_n 3, 1) := by decide +kernel
theorem d_X_values_32 : decode b_X_values 32 = .ok (.iaload, 1) := by decide +kernel
theorem d_X_values_33 : decode b_X_values 33 = .ok (.invokevirtual 98, 3) := by decide +kernel
theorem d_X_values_36 : decode b_X_values 36 = .ok (.iastore, 1) := by decide +kernel
theorem d_X_values_37 : decode b_X_values 37 = .ok (.iinc 3 1, 3) := by decide +kernel
theorem d_X_values_40 : decode b_X_values 40 = .ok (.goto (-32), 3) := by decide +kernel
theorem d_X_values_43 : decode b_X_values 43 = .ok (.aload_n 0, 1) := by decide +kernel
theorem d_X_values_44 : decode b_X_values 44 = .ok (.getfield 29, 3) := by decide +kernel
theorem d_X_values_47 : decode b_X_values 47 = .ok (.iload_n 2, 1) := by decide +kernel
theorem d_X_values_48 : decode b_X_values 48 = .ok (.iaload, 1) := by decide +kernel
theorem d_X_values_49 : decode b_X_values 49 = .ok (.ireturn, 1) := by decide +kernel
theorem d_X_frees_0 : decode b_X_frees 0 = .ok (.aload_n 0, 1) := by decide +kernel
theorem d_X_frees_1 : decode b_X_frees 1 = .ok (.iload_n 1, 1) := by decide +kernel
theorem d_X_frees_2 : decode b_X_frees 2 = .ok (.invokevirtual 57, 3) := by decide +kernel
theorem d_X_frees_5 : decode b_X_frees 5 = .ok (.istore_n 2, 1) := by decide +kernel
theorem d_X_frees_6 : decode b_X_frees 6 = .ok (.aload_n 0, 1) := by decide +kernel
theorem d_X_frees_7 : decode b_X_frees 7 = .ok (.getfield 29, 3) := by decide +kernel
theorem d_X_frees_10 : decode b_X_frees 10 = .ok (.iconst 0, 1) := by decide +kernel
theorem d_X_frees_11 : decode b_X_frees 11 = .ok (.aload_n 0, 1) := by decide +kernel
theorem d_X_frees_12 : decode b_X_frees 12 = .ok (.getfield 101, 3) := by decide +kernel
theorem d_X_frees_15 : decode b_X_frees 15 = .ok (.iconst 0, 1) := by decide +kernel
theorem d_X_frees_16 : decode b_X_frees 16 = .ok (.invokestatic 104, 3) := by decide +kernel
theorem d_X_frees_19 : decode b_X_frees 19 = .ok (.aload_n 0, 1) := by decide +kernel
theorem d_X_frees_20 : decode b_X_frees 20 = .ok (.getfield 29, 3) := by decide +kernel
theorem d_X_frees_23 : decode b_X_frees 23 = .ok (.iload_n 2, 1) := by decide +kernel
theorem d_X_frees_24 : decode b_X_frees 24 = .ok (.iconst 2, 1) := by decide +kernel
theorem d_X_frees_25 : decode b_X_frees 25 = .ok (.iastore, 1) := by decide +kernel
theorem d_X_frees_26 : decode b_X_frees 26 = .ok (.iconst 0, 1) := by decide +kernel
theorem d_X_frees_27 : decode b_X_frees 27 = .ok (.istore_n 3, 1) := by decide +kernel
theorem d_X_frees_28 : decode b_X_frees 28 = .ok (.aload_n 0, 1) := by decide +kernel
theorem d_X_frees_29 : decode b_X_frees 29 = .ok (.getfield 91, 3) := by decide +kernel
theorem d_X_frees_32 : decode b_X_frees 32 = .ok (.iconst 1, 1) := by decide +kernel
theorem d_X_frees_33 : decode b_X_frees 33 = .ok (.isub, 1) := by decide +kernel
theorem d_X_frees_34 : decode b_X_frees 34 = .ok (.istore 4, 2) := by decide +kernel
theorem d_X_frees_36 : decode b_X_frees 36 = .ok (.iload 4, 2) := by decide +kernel
theorem d_X_frees_38 : decode b_X_frees 38 = .ok (.ifCond .lt 56, 3) := by decide +kernel
theorem d_X_frees_41 : decode b_X_frees 41 = .ok (.aload_n 0, 1) := by decide +kernel
theorem d_X_frees_42 : decode b_X_frees 42 = .ok (.getfield 23, 3) := by decide +kernel
theorem d_X_frees_45 : decode b_X_frees 45 = .ok (.iload 4, 2) := by decide +kernel
theorem d_X_frees_47 : decode b_X_frees 47 = .ok (.iaload, 1) := by decide +kernel
theorem d_X_frees_48 : decode b_X_frees 48 = .ok (.istore 5, 2) := by decide +kernel
theorem d_X_frees_50 : decode b_X_frees 50 = .ok (.aload_n 0, 1) := by decide +kernel
theorem d_X_frees_51 : decode b_X_frees 51 = .ok (.getfield 29, 3) := by decide +kernel
theorem d_X_frees_54 : decode b_X_frees 54 = .ok (.iload 5, 2) := by decide +kernel
theorem d_X_frees_56 : decode b_X_frees 56 = .ok (.iaload, 1) := by decide +kernel
theorem d_X_frees_57 : decode b_X_frees 57 = .ok (.iconst 2, 1) := by decide +kernel
theorem d_X_frees_58 : decode b_X_frees 58 = .ok (.if_icmp .ne 30, 3) := by decide +kernel
theorem d_X_frees_61 : decode b_X_frees 61 = .ok (.iload_n 3, 1) := by decide +kernel
theorem d_X_frees_62 : decode b_X_frees 62 = .ok (.aload_n 0, 1) := by decide +kernel
theorem d_X_frees_63 : decode b_X_frees 63 = .ok (.getfield 10, 3) := by decide +kernel
theorem d_X_frees_66 : decode b_X_frees 66 = .ok (.getfield 75, 3) := by decide +kernel
theorem d_X_frees_69 : decode b_X_frees 69 = .ok (.iload 5, 2) := by decide +kernel
theorem d_X_frees_71 : decode b_X_frees 71 = .ok (.iaload, 1) := by decide +kernel
theorem d_X_frees_72 : decode b_X_frees 72 = .ok (.ifCond .ne 7, 3) := by decide +kernel
theorem d_X_frees_75 : decode b_X_frees 75 = .ok (.iconst 1, 1) := by decide +kernel
theorem d_X_frees_76 : decode b_X_frees 76 = .ok (.goto 4, 3) := by decide +kernel
theorem d_X_frees_79 : decode b_X_frees 79 = .ok (.iconst 0, 1) := by decide +kernel
theorem d_X_frees_80 : decode b_X_frees 80 = .ok (.iadd, 1) := by decide +kernel
theorem d_X_frees_81 : decode b_X_frees 81 = .ok (.istore_n 3, 1) := by decide +kernel
theorem d_X_frees_82 : decode b_X_frees 82 = .ok (.aload_n 0, 1) := by decide +kernel
theorem d_X_frees_83 : decode b_X_frees 83 = .ok (.iload 5, 2) := by decide +kernel
theorem d_X_frees_85 : decode b_X_frees 85 = .ok (.invokevirtual 110, 3) := by decide +kernel
theorem d_X_frees_88 : decode b_X_frees 88 = .ok (.iinc 4 (-1), 3) := by decide +kernel
theorem d_X_frees_91 : decode b_X_frees 91 = .ok (.goto (-55), 3) := by decide +kernel
theorem d_X_frees_94 : decode b_X_frees 94 = .ok (.iload_n 3, 1) := by decide +kernel
theorem d_X_frees_95 : decode b_X_frees 95 = .ok (.ireturn, 1) := by decide +kernel
theorem d_X_clear_0 : decode b_X_clear 0 = .ok (.aload_n 0, 1) := by decide +kernel
theorem d_X_clear_1 : decode b_X_clear 1 = .ok (.getfield 101, 3) := by decide +kernel
theorem d_X_clear_4 : decode b_X_clear 4 = .ok (.istore_n 1, 1) := by decide +kernel
theorem d_X_clear_5 : decode b_X_clear 5 = .ok (.aload_n 0, 1) := by decide +kernel
theorem d_X_clear_6 : decode b_X_clear 6 = .ok (.invokevirtual 42, 3) := by decide +kernel
theorem d_X_clear_9 : decode b_X_clear 9 = .ok (.iload_n 1, 1) := by decide +kernel
theorem d_X_clear_10 : decode b_X_clear 10 = .ok (.ireturn, 1) := by decide +kernel
theorem d_X_count_0 : decode b_X_count 0 = .ok (.iload_n 1, 1) := by decide +kernel
theorem d_X_count_1 : decode b_X_count 1 = .ok (.tableswitch 42 0 2 #[27, 32, 37], 27) := by decide +kernel
theorem d_X_count_28 : decode b_X_count 28 = .ok (.aload_n 0, 1) := by decide +kernel
theorem d_X_count_29 : decode b_X_count 29 = .ok (.getfield 101, 3) := by decide +kernel
theorem d_X_count_32 : decode b_X_count 32 = .ok (.ireturn, 1) := by decide +kernel
theorem d_X_count_33 : decode b_X_count 33 = .ok (.aload_n 0, 1) := by decide +kernel
theorem d_X_count_34 : decode b_X_count 34 = .ok (.getfield 91, 3) := by decide +kernel
theorem d_X_count_37 : decode b_X_count 37 = .ok (.ireturn, 1) := by decide +kernel
theorem d_X_count_38 : decode b_X_count 38 = .ok (.aload_n 0, 1) := by decide +kernel
theorem d_X_count_39 : decode b_X_count 39 = .ok (.invokevirtual 113, 3) := by decide +kernel
theorem d_X_count_42 : decode b_X_count 42 = .ok (.ireturn, 1) := by decide +kernel
theorem d_X_count_43 : decode b_X_count 43 = .ok (.iconst (-1), 1) := by decide +kernel
theorem d_X_count_44 : decode b_X_count 44 = .ok (.ireturn, 1) := by decide +kernel
theorem d_X_begin_0 : decode b_X_begin 0 = .ok (.aload_n 0, 1) := by decide +kernel
theorem d_X_begin_1 : decode b_X_begin 1 = .ok (.iconst 1, 1) := by decide +kernel
theorem d_X_begin_2 : decode b_X_begin 2 = .ok (.putfield 101, 3) := by decide +kernel
theorem d_X_begin_5 : decode b_X_begin 5 = .ok (.aload_n 0, 1) := by decide +kernel
theorem d_X_begin_6 : decode b_X_begin 6 = .ok (.iconst 0, 1) := by decide +kernel
theorem d_X_begin_7 : decode b_X_begin 7 = .ok (.putfield 91, 3) := by decide +kernel
theorem d_X_begin_10 : decode b_X_begin 10 = .ok (.aload_n 0, 1) := by decide +kernel
theorem d_X_begin_11 : decode b_X_begin 11 = .ok (.getfield 10, 3) := by decide +kernel
theorem d_X_begin_14 : decode b_X_begin 14 = .ok (.invokevirtual 116, 3) := by decide +kernel
theorem d_X_begin_17 : decode b_X_begin 17 = .ok (.aload_n 0, 1) := by decide +kernel
theorem d_X_begin_18 : decode b_X_begin 18 = .ok (.getfield 10, 3) := by decide +kernel
theorem d_X_begin_21 : decode b_X_begin 21 = .ok (.iconst 0, 1) := by decide +kernel
theorem d_X_begin_22 : decode b_X_begin 22 = .ok (.iconst 1, 1) := by decide +kernel
theorem d_X_begin_23 : decode b_X_begin 23 = .ok (.iconst (-1), 1) := by decide +kernel
theorem d_X_begin_24 : decode b_X_begin 24 = .ok (.iconst (-1), 1) := by decide +kernel
theorem d_X_begin_25 : decode b_X_begin 25 = .ok (.invokevirtual 49, 3) := by decide +kernel
theorem d_X_begin_28 : decode b_X_begin 28 = .ok (.aload_n 0, 1) := by decide +kernel
theorem d_X_begin_29 : decode b_X_begin 29 = .ok (.iconst 0, 1) := by decide +kernel
theorem d_X_begin_30 : decode b_X_begin 30 = .ok (.invokevirtual 53, 3) := by decide +kernel
theorem d_X_begin_33 : decode b_X_begin 33 = .ok (.return_, 1) := by decide +kernel
theorem d_X_leaderOf_0 : decode b_X_leaderOf 0 = .ok (.iload_n 1, 1) := by decide +kernel
theorem d_X_leaderOf_1 : decode b_X_leaderOf 1 = .ok (.ifCond .lt 11, 3) := by decide +kernel
theorem d_X_leaderOf_4 : decode b_X_leaderOf 4 = .ok (.iload_n 1, 1) := by decide +kernel
theorem d_X_leaderOf_5 : decode b_X_leaderOf 5 = .ok (.aload_n 0, 1) := by decide +kernel
theorem d_X_leaderOf_6 : decode b_X_leaderOf 6 = .ok (.getfield 101, 3) := by decide +kernel
theorem d_X_leaderOf_9 : decode b_X_leaderOf 9 = .ok (.if_icmp .lt 11, 3) := by decide +kernel
theorem d_X_leaderOf_12 : decode b_X_leaderOf 12 = .ok (.new 82, 3) := by decide +kernel
theorem d_X_leaderOf_15 : decode b_X_leaderOf 15 = .ok (.dup, 1) := by decide +kernel
theorem d_X_leaderOf_16 : decode b_X_leaderOf 16 = .ok (.invokespecial 84, 3) := by decide +kernel
theorem d_X_leaderOf_19 : decode b_X_leaderOf 19 = .ok (.athrow, 1) := by decide +kernel
theorem d_X_leaderOf_20 : decode b_X_leaderOf 20 = .ok (.aload_n 0, 1) := by decide +kernel
theorem d_X_leaderOf_21 : decode b_X_leaderOf 21 = .ok (.getfield 16, 3) := by decide +kernel
theorem d_X_leaderOf_24 : decode b_X_leaderOf 24 = .ok (.iload_n 1, 1) := by decide +kernel
theorem d_X_leaderOf_25 : decode b_X_leaderOf 25 = .ok (.iaload, 1) := by decide +kernel
theorem d_X_leaderOf_26 : decode b_X_leaderOf 26 = .ok (.ireturn, 1) := by decide +kernel
theorem d_X_nextNumber_0 : decode b_X_nextNumber 0 = .ok (.aload_n 0, 1) := by decide +kernel
theorem d_X_nextNumber_1 : decode b_X_nextNumber 1 = .ok (.getfield 101, 3) := by decide +kernel
theorem d_X_nextNumber_4 : decode b_X_nextNumber 4 = .ok (.sipush 1000, 3) := by decide +kernel
theorem d_X_nextNumber_7 : decode b_X_nextNumber 7 = .ok (.if_icmp .lt 11, 3) := by decide +kernel
theorem d_X_nextNumber_10 : decode b_X_nextNumber 10 = .ok (.new 119, 3) := by decide +kernel
theorem d_X_nextNumber_13 : decode b_X_nextNumber 13 = .ok (.dup, 1) := by decide +kernel
theorem d_X_nextNumber_14 : decode b_X_nextNumber 14 = .ok (.invokespecial 121, 3) := by decide +kernel
theorem d_X_nextNumber_17 : decode b_X_nextNumber 17 = .ok (.athrow, 1) := by decide +kernel
theorem d_X_nextNumber_18 : decode b_X_nextNumber 18 = .ok (.aload_n 0, 1) := by decide +kernel
theorem d_X_nextNumber_19 : decode b_X_nextNumber 19 = .ok (.dup, 1) := by decide +kernel
theorem d_X_nextNumber_20 : decode b_X_nextNumber 20 = .ok (.getfield 101, 3) := by decide +kernel
theorem d_X_nextNumber_23 : decode b_X_nextNumber 23 = .ok (.iconst 1, 1) := by decide +kernel
theorem d_X_nextNumber_24 : decode b_X_nextNumber 24 = .ok (.iadd, 1) := by decide +kernel
theorem d_X_nextNumber_25 : decode b_X_nextNumber 25 = .ok (.putfield 101, 3) := by decide +kernel
theorem d_X_nextNumber_28 : decode b_X_nextNumber 28 = .ok (.aload_n 0, 1) := by decide +kernel
theorem d_X_nextNumber_29 : decode b_X_nextNumber 29 = .ok (.getfield 101, 3) := by decide +kernel
theorem d_X_nextNumber_32 : decode b_X_nextNumber 32 = .ok (.iconst 1, 1) := by decide +kernel
theorem d_X_nextNumber_33 : decode b_X_nextNumber 33 = .ok (.isub, 1) := by decide +kernel
theorem d_X_nextNumber_34 : decode b_X_nextNumber 34 = .ok (.ireturn, 1) := by decide +kernel
theorem d_X_addLeader_0 : decode b_X_addLeader 0 = .ok (.aload_n 0, 1) := by decide +kernel
theorem d_X_addLeader_1 : decode b_X_addLeader 1 = .ok (.getfield 16, 3) := by decide +kernel
theorem d_X_addLeader_4 : decode b_X_addLeader 4 = .ok (.iload_n 1, 1) := by decide +kernel
theorem d_X_addLeader_5 : decode b_X_addLeader 5 = .ok (.iload_n 1, 1) := by decide +kernel
theorem d_X_addLeader_6 : decode b_X_addLeader 6 = .ok (.iastore, 1) := by decide +kernel
theorem d_X_addLeader_7 : decode b_X_addLeader 7 = .ok (.aload_n 0, 1) := by decide +kernel
theorem d_X_addLeader_8 : decode b_X_addLeader 8 = .ok (.getfield 20, 3) := by decide +kernel
theorem d_X_addLeader_11 : decode b_X_addLeader 11 = .ok (.iload_n 1, 1) := by decide +kernel
theorem d_X_addLeader_12 : decode b_X_addLeader 12 = .ok (.iload_n 1, 1) := by decide +kernel
theorem d_X_addLeader_13 : decode b_X_addLeader 13 = .ok (.iastore, 1) := by decide +kernel
theorem d_X_addLeader_14 : decode b_X_addLeader 14 = .ok (.aload_n 0, 1) := by decide +kernel
theorem d_X_addLeader_15 : decode b_X_addLeader 15 = .ok (.getfield 23, 3) := by decide +kernel
theorem d_X_addLeader_18 : decode b_X_addLeader 18 = .ok (.aload_n 0, 1) := by decide +kernel
theorem d_X_addLeader_19 : decode b_X_addLeader 19 = .ok (.getfield 91, 3) := by decide +kernel
theorem d_X_addLeader_22 : decode b_X_addLeader 22 = .ok (.iload_n 1, 1) := by decide +kernel
theorem d_X_addLeader_23 : decode b_X_addLeader 23 = .ok (.iastore, 1) := by decide +kernel
theorem d_X_addLeader_24 : decode b_X_addLeader 24 = .ok (.aload_n 0, 1) := by decide +kernel
theorem d_X_addLeader_25 : decode b_X_addLeader 25 = .ok (.dup, 1) := by decide +kernel
theorem d_X_addLeader_26 : decode b_X_addLeader 26 = .ok (.getfield 91, 3) := by decide +kernel
theorem d_X_addLeader_29 : decode b_X_addLeader 29 = .ok (.iconst 1, 1) := by decide +kernel
theorem d_X_addLeader_30 : decode b_X_addLeader 30 = .ok (.iadd, 1) := by decide +kernel
theorem d_X_addLeader_31 : decode b_X_addLeader 31 = .ok (.putfield 91, 3) := by decide +kernel
theorem d_X_addLeader_34 : decode b_X_addLeader 34 = .ok (.return_, 1) := by decide +kernel
theorem d_X_makeWhole_0 : decode b_X_makeWhole 0 = .ok (.aload_n 0, 1) := by decide +kernel
theorem d_X_makeWhole_1 : decode b_X_makeWhole 1 = .ok (.invokevirtual 45, 3) := by decide +kernel
theorem d_X_makeWhole_4 : decode b_X_makeWhole 4 = .ok (.istore 4, 2) := by decide +kernel
theorem d_X_makeWhole_6 : decode b_X_makeWhole 6 = .ok (.aload_n 0, 1) := by decide +kernel
theorem d_X_makeWhole_7 : decode b_X_makeWhole 7 = .ok (.getfield 10, 3) := by decide +kernel
theorem d_X_makeWhole_10 : decode b_X_makeWhole 10 = .ok (.iload 4, 2) := by decide +kernel
theorem d_X_makeWhole_12 : decode b_X_makeWhole 12 = .ok (.iload_n 1, 1) := by decide +kernel
theorem d_X_makeWhole_13 : decode b_X_makeWhole 13 = .ok (.iload_n 2, 1) := by decide +kernel
theorem d_X_makeWhole_14 : decode b_X_makeWhole 14 = .ok (.iload_n 3, 1) := by decide +kernel
theorem d_X_makeWhole_15 : decode b_X_makeWhole 15 = .ok (.invokevirtual 49, 3) := by decide +kernel
theorem d_X_makeWhole_18 : decode b_X_makeWhole 18 = .ok (.aload_n 0, 1) := by decide +kernel
theorem d_X_makeWhole_19 : decode b_X_makeWhole 19 = .ok (.getfield 10, 3) := by decide +kernel
theorem d_X_makeWhole_22 : decode b_X_makeWhole 22 = .ok (.iload 4, 2) := by decide +kernel
theorem d_X_makeWhole_24 : decode b_X_makeWhole 24 = .ok (.invokevirtual 122, 3) := by decide +kernel
theorem d_X_makeWhole_27 : decode b_X_makeWhole 27 = .ok (.istore 5, 2) := by decide +kernel
theorem d_X_makeWhole_29 : decode b_X_makeWhole 29 = .ok (.iload 5, 2) := by decide +kernel
theorem d_X_makeWhole_31 : decode b_X_makeWhole 31 = .ok (.iconst (-1), 1) := by decide +kernel
theorem d_X_makeWhole_32 : decode b_X_makeWhole 32 = .ok (.if_icmp .ne 21, 3) := by decide +kernel
theorem d_X_makeWhole_35 : decode b_X_makeWhole 35 = .ok (.aload_n 0, 1) := by decide +kernel
theorem d_X_makeWhole_36 : decode b_X_makeWhole 36 = .ok (.getfield 10, 3) := by decide +kernel
theorem d_X_makeWhole_39 : decode b_X_makeWhole 39 = .ok (.iload 4, 2) := by decide +kernel
theorem d_X_makeWhole_41 : decode b_X_makeWhole 41 = .ok (.invokevirtual 125, 3) := by decide +kernel
theorem d_X_makeWhole_44 : decode b_X_makeWhole 44 = .ok (.aload_n 0, 1) := by decide +kernel
theorem d_X_makeWhole_45 : decode b_X_makeWhole 45 = .ok (.iload 4, 2) := by decide +kernel
theorem d_X_makeWhole_47 : decode b_X_makeWhole 47 = .ok (.invokevirtual 53, 3) := by decide +kernel
theorem d_X_makeWhole_50 : decode b_X_makeWhole 50 = .ok (.goto 12, 3) := by decide +kernel
theorem d_X_makeWhole_53 : decode b_X_makeWhole 53 = .ok (.aload_n 0, 1) := by decide +kernel
theorem d_X_makeWhole_54 : decode b_X_makeWhole 54 = .ok (.getfield 16, 3) := by decide +kernel
theorem d_X_makeWhole_57 : decode b_X_makeWhole 57 = .ok (.iload 4, 2) := by decide +kernel
theorem d_X_makeWhole_59 : decode b_X_makeWhole 59 = .ok (.iload 5, 2) := by decide +kernel
theorem d_X_makeWhole_61 : decode b_X_makeWhole 61 = .ok (.iastore, 1) := by decide +kernel
theorem d_X_makeWhole_62 : decode b_X_makeWhole 62 = .ok (.iload 4, 2) := by decide +kernel
theorem d_X_makeWhole_64 : decode b_X_makeWhole 64 = .ok (.ireturn, 1) := by decide +kernel
theorem d_X_countFreeLeaders_0 : decode b_X_countFreeLeaders 0 = .ok (.iconst 0, 1) := by decide +kernel
theorem d_X_countFreeLeaders_1 : decode b_X_countFreeLeaders 1 = .ok (.istore_n 1, 1) := by decide +kernel
theorem d_X_countFreeLeaders_2 : decode b_X_countFreeLeaders 2 = .ok (.iconst 0, 1) := by decide +kernel
theorem d_X_countFreeLeaders_3 : decode b_X_countFreeLeaders 3 = .ok (.istore_n 2, 1) := by decide +kernel
theorem d_X_countFreeLeaders_4 : decode b_X_countFreeLeaders 4 = .ok (.iload_n 2, 1) := by decide +kernel
theorem d_X_countFreeLeaders_5 : decode b_X_countFreeLeaders 5 = .ok (.aload_n 0, 1) := by decide +kernel
theorem d_X_countFreeLeaders_6 : decode b_X_countFreeLeaders 6 = .ok (.getfield 91, 3) := by decide +kernel
theorem d_X_countFreeLeaders_9 : decode b_X_countFreeLeaders 9 = .ok (.if_icmp .ge 34, 3) := by decide +kernel
theorem d_X_countFreeLeaders_12 : decode b_X_countFreeLeaders 12 = .ok (.iload_n 1, 1) := by decide +kernel
theorem d_X_countFreeLeaders_13 : decode b_X_countFreeLeaders 13 = .ok (.aload_n 0, 1) := by decide +kernel
theorem d_X_countFreeLeaders_14 : decode b_X_countFreeLeaders 14 = .ok (.getfield 10, 3) := by decide +kernel
theorem d_X_countFreeLeaders_17 : decode b_X_countFreeLeaders 17 = .ok (.getfield 75, 3) := by decide +kernel
theorem d_X_countFreeLeaders_20 : decode b_X_countFreeLeaders 20 = .ok (.aload_n 0, 1) := by decide +kernel
theorem d_X_countFreeLeaders_21 : decode b_X_countFreeLeaders 21 = .ok (.getfield 23, 3) := by decide +kernel
theorem d_X_countFreeLeaders_24 : decode b_X_countFreeLeaders 24 = .ok (.iload_n 2, 1) := by decide +kernel
theorem d_X_countFreeLeaders_25 : decode b_X_countFreeLeaders 25 = .ok (.iaload, 1) := by decide +kernel
theorem d_X_countFreeLeaders_26 : decode b_X_countFreeLeaders 26 = .ok (.iaload, 1) := by decide +kernel
theorem d_X_countFreeLeaders_27 : decode b_X_countFreeLeaders 27 = .ok (.ifCond .ne 7, 3) := by decide +kernel
theorem d_X_countFreeLeaders_30 : decode b_X_countFreeLeaders 30 = .ok (.iconst 1, 1) := by decide +kernel
theorem d_X_countFreeLeaders_31 : decode b_X_countFreeLeaders 31 = .ok (.goto 4, 3) := by decide +kernel
theorem d_X_countFreeLeaders_34 : decode b_X_countFreeLeaders 34 = .ok (.iconst 0, 1) := by decide +kernel
theorem d_X_countFreeLeaders_35 : decode b_X_countFreeLeaders 35 = .ok (.iadd, 1) := by decide +kernel
theorem d_X_countFreeLeaders_36 : decode b_X_countFreeLeaders 36 = .ok (.istore_n 1, 1) := by decide +kernel
theorem d_X_countFreeLeaders_37 : decode b_X_countFreeLeaders 37 = .ok (.iinc 2 1, 3) := by decide +kernel
theorem d_X_countFreeLeaders_40 : decode b_X_countFreeLeaders 40 = .ok (.goto (-36), 3) := by decide +kernel
theorem d_X_countFreeLeaders_43 : decode b_X_countFreeLeaders 43 = .ok (.iload_n 1, 1) := by decide +kernel
theorem d_X_countFreeLeaders_44 : decode b_X_countFreeLeaders 44 = .ok (.ireturn, 1) := by decide +kernel
theorem d_X_sizeByParts_0 : decode b_X_sizeByParts 0 = .ok (.aload_n 0, 1) := by decide +kernel
theorem d_X_sizeByParts_1 : decode b_X_sizeByParts 1 = .ok (.getfield 10, 3) := by decide +kernel
theorem d_X_sizeByParts_4 : decode b_X_sizeByParts 4 = .ok (.iload_n 1, 1) := by decide +kernel
theorem d_X_sizeByParts_5 : decode b_X_sizeByParts 5 = .ok (.invokevirtual 78, 3) := by decide +kernel
theorem d_X_sizeByParts_8 : decode b_X_sizeByParts 8 = .ok (.ifCond .ne 5, 3) := by decide +kernel
theorem d_X_sizeByParts_11 : decode b_X_sizeByParts 11 = .ok (.iconst 0, 1) := by decide +kernel
theorem d_X_sizeByParts_12 : decode b_X_sizeByParts 12 = .ok (.ireturn, 1) := by decide +kernel
theorem d_X_sizeByParts_13 : decode b_X_sizeByParts 13 = .ok (.aload_n 0, 1) := by decide +kernel
theorem d_X_sizeByParts_14 : decode b_X_sizeByParts 14 = .ok (.getfield 29, 3) := by decide +kernel
theorem d_X_sizeByParts_17 : decode b_X_sizeByParts 17 = .ok (.aload_n 0, 1) := by decide +kernel
theorem d_X_sizeByParts_18 : decode b_X_sizeByParts 18 = .ok (.getfield 10, 3) := by decide +kernel
theorem d_X_sizeByParts_21 : decode b_X_sizeByParts 21 = .ok (.getfield 88, 3) := by decide +kernel
theorem d_X_sizeByParts_24 : decode b_X_sizeByParts 24 = .ok (.iload_n 1, 1) := by decide +kernel
theorem d_X_sizeByParts_25 : decode b_X_sizeByParts 25 = .ok (.iaload, 1) := by decide +kernel
theorem d_X_sizeByParts_26 : decode b_X_sizeByParts 26 = .ok (.iaload, 1) := by decide +kernel
theorem d_X_sizeByParts_27 : decode b_X_sizeByParts 27 = .ok (.istore_n 2, 1) := by decide +kernel
theorem d_X_sizeByParts_28 : decode b_X_sizeByParts 28 = .ok (.aload_n 0, 1) := by decide +kernel
theorem d_X_sizeByParts_29 : decode b_X_sizeByParts 29 = .ok (.getfield 29, 3) := by decide +kernel
theorem d_X_sizeByParts_32 : decode b_X_sizeByParts 32 = .ok (.aload_n 0, 1) := by decide +kernel
theorem d_X_sizeByParts_33 : decode b_X_sizeByParts 33 = .ok (.getfield 10, 3) := by decide +kernel
theorem d_X_sizeByParts_36 : decode b_X_sizeByParts 36 = .ok (.getfield 85, 3) := by decide +kernel
theorem d_X_sizeByParts_39 : decode b_X_sizeByParts 39 = .ok (.iload_n 1, 1) := by decide +kernel
theorem d_X_sizeByParts_40 : decode b_X_sizeByParts 40 = .ok (.iaload, 1) := by decide +kernel
theorem d_X_sizeByParts_41 : decode b_X_sizeByParts 41 = .ok (.iaload, 1) := by decide +kernel
theorem d_X_sizeByParts_42 : decode b_X_sizeByParts 42 = .ok (.istore_n 3, 1) := by decide +kernel
theorem d_X_sizeByParts_43 : decode b_X_sizeByParts 43 = .ok (.aload_n 0, 1) := by decide +kernel
theorem d_X_sizeByParts_44 : decode b_X_sizeByParts 44 = .ok (.getfield 10, 3) := by decide +kernel
theorem d_X_sizeByParts_47 : decode b_X_sizeByParts 47 = .ok (.getfield 75, 3) := by decide +kernel
theorem d_X_sizeByParts_50 : decode b_X_sizeByParts 50 = .ok (.iload_n 1, 1) := by decide +kernel
theorem d_X_sizeByParts_51 : decode b_X_sizeByParts 51 = .ok (.iaload, 1) := by decide +kernel
theorem d_X_sizeByParts_52 : decode b_X_sizeByParts 52 = .ok (.iconst 2, 1) := by decide +kernel
theorem d_X_sizeByParts_53 : decode b_X_sizeByParts 53 = .ok (.if_icmp .ne 13, 3) := by decide +kernel
theorem d_X_sizeByParts_56 : decode b_X_sizeByParts 56 = .ok (.iconst 1, 1) := by decide +kernel
theorem d_X_sizeByParts_57 : decode b_X_sizeByParts 57 = .ok (.iload_n 2, 1) := by decide +kernel
theorem d_X_sizeByParts_58 : decode b_X_sizeByParts 58 = .ok (.iload_n 3, 1) := by decide +kernel
theorem d_X_sizeByParts_59 : decode b_X_sizeByParts 59 = .ok (.invokestatic 128, 3) := by decide +kernel
theorem d_X_sizeByParts_62 : decode b_X_sizeByParts 62 = .ok (.iadd, 1) := by decide +kernel
theorem d_X_sizeByParts_63 : decode b_X_sizeByParts 63 = .ok (.goto 6, 3) := by decide +kernel
theorem d_X_sizeByParts_66 : decode b_X_sizeByParts 66 = .ok (.iload_n 2, 1) := by decide +kernel
theorem d_X_sizeByParts_67 : decode b_X_sizeByParts 67 = .ok (.iload_n 3, 1) := by decide +kernel
theorem d_X_sizeByParts_68 : decode b_X_sizeByParts 68 = .ok (.iadd, 1) := by decide +kernel
theorem d_X_sizeByParts_69 : decode b_X_sizeByParts 69 = .ok (.istore 4, 2) := by decide +kernel
theorem d_X_sizeByParts_71 : decode b_X_sizeByParts 71 = .ok (.iload 4, 2) := by decide +kernel
theorem d_X_sizeByParts_73 : decode b_X_sizeByParts 73 = .ok (.ldc 134, 2) := by decide +kernel
theorem d_X_sizeByParts_75 : decode b_X_sizeByParts 75 = .ok (.invokestatic 135, 3) := by decide +kernel
theorem d_X_sizeByParts_78 : decode b_X_sizeByParts 78 = .ok (.ireturn, 1) := by decide +kernel
theorem d_X_valuesByParts_0 : decode b_X_valuesByParts 0 = .ok (.aload_n 0, 1) := by decide +kernel
theorem d_X_valuesByParts_1 : decode b_X_valuesByParts 1 = .ok (.getfield 10, 3) := by decide +kernel
theorem d_X_valuesByParts_4 : decode b_X_valuesByParts 4 = .ok (.iload_n 1, 1) := by decide +kernel
theorem d_X_valuesByParts_5 : decode b_X_valuesByParts 5 = .ok (.invokevirtual 78, 3) := by decide +kernel
theorem d_X_valuesByParts_8 : decode b_X_valuesByParts 8 = .ok (.ifCond .ne 5, 3) := by decide +kernel
theorem d_X_valuesByParts_11 : decode b_X_valuesByParts 11 = .ok (.iconst 1, 1) := by decide +kernel
theorem d_X_valuesByParts_12 : decode b_X_valuesByParts 12 = .ok (.ireturn, 1) := by decide +kernel
theorem d_X_valuesByParts_13 : decode b_X_valuesByParts 13 = .ok (.aload_n 0, 1) := by decide +kernel
theorem d_X_valuesByParts_14 : decode b_X_valuesByParts 14 = .ok (.getfield 29, 3) := by decide +kernel
theorem d_X_valuesByParts_17 : decode b_X_valuesByParts 17 = .ok (.aload_n 0, 1) := by decide +kernel
theorem d_X_valuesByParts_18 : decode b_X_valuesByParts 18 = .ok (.getfield 10, 3) := by decide +kernel
theorem d_X_valuesByParts_21 : decode b_X_valuesByParts 21 = .ok (.getfield 88, 3) := by decide +kernel
theorem d_X_valuesByParts_24 : decode b_X_valuesByParts 24 = .ok (.iload_n 1, 1) := by decide +kernel
theorem d_X_valuesByParts_25 : decode b_X_valuesByParts 25 = .ok (.iaload, 1) := by decide +kernel
theorem d_X_valuesByParts_26 : decode b_X_valuesByParts 26 = .ok (.iaload, 1) := by decide +kernel
theorem d_X_valuesByParts_27 : decode b_X_valuesByParts 27 = .ok (.i2l, 1) := by decide +kernel
theorem d_X_valuesByParts_28 : decode b_X_valuesByParts 28 = .ok (.lstore_n 2, 1) := by decide +kernel
theorem d_X_valuesByParts_29 : decode b_X_valuesByParts 29 = .ok (.aload_n 0, 1) := by decide +kernel
theorem d_X_valuesByParts_30 : decode b_X_valuesByParts 30 = .ok (.getfield 29, 3) := by decide +kernel
theorem d_X_valuesByParts_33 : decode b_X_valuesByParts 33 = .ok (.aload_n 0, 1) := by decide +kernel
theorem d_X_valuesByParts_34 : decode b_X_valuesByParts 34 = .ok (.getfield 10, 3) := by decide +kernel
theorem d_X_valuesByParts_37 : decode b_X_valuesByParts 37 = .ok (.getfield 85, 3) := by decide +kernel
theorem d_X_valuesByParts_40 : decode b_X_valuesByParts 40 = .ok (.iload_n 1, 1) := by decide +kernel
theorem d_X_valuesByParts_41 : decode b_X_valuesByParts 41 = .ok (.iaload, 1) := by decide +kernel
theorem d_X_valuesByParts_42 : decode b_X_valuesByParts 42 = .ok (.iaload, 1) := by decide +kernel
theorem d_X_valuesByParts_43 : decode b_X_valuesByParts 43 = .ok (.i2l, 1) := by decide +kernel
theorem d_X_valuesByParts_44 : decode b_X_valuesByParts 44 = .ok (.lstore 4, 2) := by decide +kernel
theorem d_X_valuesByParts_46 : decode b_X_valuesByParts 46 = .ok (.aload_n 0, 1) := by decide +kernel
theorem d_X_valuesByParts_47 : decode b_X_valuesByParts 47 = .ok (.getfield 10, 3) := by decide +kernel
theorem d_X_valuesByParts_50 : decode b_X_valuesByParts 50 = .ok (.getfield 75, 3) := by decide +kernel
theorem d_X_valuesByParts_53 : decode b_X_valuesByParts 53 = .ok (.iload_n 1, 1) := by decide +kernel
theorem d_X_valuesByParts_54 : decode b_X_valuesByParts 54 = .ok (.iaload, 1) := by decide +kernel
theorem d_X_valuesByParts_55 : decode b_X_valuesByParts 55 = .ok (.iconst 2, 1) := by decide +kernel
theorem d_X_valuesByParts_56 : decode b_X_valuesByParts 56 = .ok (.if_icmp .ne 10, 3) := by decide +kernel
theorem d_X_valuesByParts_59 : decode b_X_valuesByParts 59 = .ok (.lload_n 2, 1) := by decide +kernel
theorem d_X_valuesByParts_60 : decode b_X_valuesByParts 60 = .ok (.lload 4, 2) := by decide +kernel
theorem d_X_valuesByParts_62 : decode b_X_valuesByParts 62 = .ok (.ladd, 1) := by decide +kernel
theorem d_X_valuesByParts_63 : decode b_X_valuesByParts 63 = .ok (.goto 7, 3) := by decide +kernel
theorem d_X_valuesByParts_66 : decode b_X_valuesByParts 66 = .ok (.lload_n 2, 1) := by decide +kernel
theorem d_X_valuesByParts_67 : decode b_X_valuesByParts 67 = .ok (.lload 4, 2) := by decide +kernel
theorem d_X_valuesByParts_69 : decode b_X_valuesByParts 69 = .ok (.lmul, 1) := by decide +kernel
theorem d_X_valuesByParts_70 : decode b_X_valuesByParts 70 = .ok (.lstore 6, 2) := by decide +kernel
theorem d_X_valuesByParts_72 : decode b_X_valuesByParts 72 = .ok (.lload 6, 2) := by decide +kernel
theorem d_X_valuesByParts_74 : decode b_X_valuesByParts 74 = .ok (.ldc2_w 138, 3) := by decide +kernel
theorem d_X_valuesByParts_77 : decode b_X_valuesByParts 77 = .ok (.invokestatic 140, 3) := by decide +kernel
theorem d_X_valuesByParts_80 : decode b_X_valuesByParts 80 = .ok (.l2i, 1) := by decide +kernel
theorem d_X_valuesByParts_81 : decode b_X_valuesByParts 81 = .ok (.ireturn, 1) := by decide +kernel
theorem d_X_markParts_0 : decode b_X_markParts 0 = .ok (.aload_n 0, 1) := by decide +kernel
theorem d_X_markParts_1 : decode b_X_markParts 1 = .ok (.getfield 10, 3) := by decide +kernel
theorem d_X_markParts_4 : decode b_X_markParts 4 = .ok (.iload_n 1, 1) := by decide +kernel
theorem d_X_markParts_5 : decode b_X_markParts 5 = .ok (.invokevirtual 78, 3) := by decide +kernel
theorem d_X_markParts_8 : decode b_X_markParts 8 = .ok (.ifCond .eq 33, 3) := by decide +kernel
theorem d_X_markParts_11 : decode b_X_markParts 11 = .ok (.aload_n 0, 1) := by decide +kernel
theorem d_X_markParts_12 : decode b_X_markParts 12 = .ok (.getfield 29, 3) := by decide +kernel
theorem d_X_markParts_15 : decode b_X_markParts 15 = .ok (.aload_n 0, 1) := by decide +kernel
theorem d_X_markParts_16 : decode b_X_markParts 16 = .ok (.getfield 10, 3) := by decide +kernel
theorem d_X_markParts_19 : decode b_X_markParts 19 = .ok (.getfield 88, 3) := by decide +kernel
theorem d_X_markParts_22 : decode b_X_markParts 22 = .ok (.iload_n 1, 1) := by decide +kernel
theorem d_X_markParts_23 : decode b_X_markParts 23 = .ok (.iaload, 1) := by decide +kernel
theorem d_X_markParts_24 : decode b_X_markParts 24 = .ok (.iconst 2, 1) := by decide +kernel
theorem d_X_markParts_25 : decode b_X_markParts 25 = .ok (.iastore, 1) := by decide +kernel
theorem d_X_markParts_26 : decode b_X_markParts 26 = .ok (.aload_n 0, 1) := by decide +kernel
theorem d_X_markParts_27 : decode b_X_markParts 27 = .ok (.getfield 29, 3) := by decide +kernel
theorem d_X_markParts_30 : decode b_X_markParts 30 = .ok (.aload_n 0, 1) := by decide +kernel
theorem d_X_markParts_31 : decode b_X_markParts 31 = .ok (.getfield 10, 3) := by decide +kernel
theorem d_X_markParts_34 : decode b_X_markParts 34 = .ok (.getfield 85, 3) := by decide +kernel
theorem d_X_markParts_37 : decode b_X_markParts 37 = .ok (.iload_n 1, 1) := by decide +kernel
theorem d_X_markParts_38 : decode b_X_markParts 38 = .ok (.iaload, 1) := by decide +kernel
theorem d_X_markParts_39 : decode b_X_markParts 39 = .ok (.iconst 2, 1) := by decide +kernel
theorem d_X_markParts_40 : decode b_X_markParts 40 = .ok (.iastore, 1) := by decide +kernel
theorem d_X_markParts_41 : decode b_X_markParts 41 = .ok (.return_, 1) := by decide +kernel
theorem d_X_tryToLink_0 : decode b_X_tryToLink 0 = .ok (.aload_n 0, 1) := by decide +kernel
theorem d_X_tryToLink_1 : decode b_X_tryToLink 1 = .ok (.iload_n 1, 1) := by decide +kernel
theorem d_X_tryToLink_2 : decode b_X_tryToLink 2 = .ok (.iload_n 2, 1) := by decide +kernel
theorem d_X_tryToLink_3 : decode b_X_tryToLink 3 = .ok (.invokevirtual 143, 3) := by decide +kernel
theorem d_X_tryToLink_6 : decode b_X_tryToLink 6 = .ok (.ifCond .eq 14, 3) := by decide +kernel
theorem d_X_tryToLink_9 : decode b_X_tryToLink 9 = .ok (.aload_n 0, 1) := by decide +kernel
theorem d_X_tryToLink_10 : decode b_X_tryToLink 10 = .ok (.invokevirtual 146, 3) := by decide +kernel
theorem d_X_tryToLink_13 : decode b_X_tryToLink 13 = .ok (.ifCond .eq 7, 3) := by decide +kernel
theorem d_X_tryToLink_16 : decode b_X_tryToLink 16 = .ok (.iconst 1, 1) := by decide +kernel
theorem d_X_tryToLink_17 : decode b_X_tryToLink 17 = .ok (.goto 4, 3) := by decide +kernel
theorem d_X_tryToLink_20 : decode b_X_tryToLink 20 = .ok (.iconst 0, 1) := by decide +kernel
theorem d_X_tryToLink_21 : decode b_X_tryToLink 21 = .ok (.ireturn, 1) := by decide +kernel
theorem d_X_linkAll_0 : decode b_X_linkAll 0 = .ok (.aload_n 0, 1) := by decide +kernel
theorem d_X_linkAll_1 : decode b_X_linkAll 1 = .ok (.getfield 16, 3) := by decide +kernel
theorem d_X_linkAll_4 : decode b_X_linkAll 4 = .ok (.iconst 0, 1) := by decide +kernel
theorem d_X_linkAll_5 : decode b_X_linkAll 5 = .ok (.aload_n 0, 1) := by decide +kernel
theorem d_X_linkAll_6 : decode b_X_linkAll 6 = .ok (.getfield 26, 3) := by decide +kernel
theorem d_X_linkAll_9 : decode b_X_linkAll 9 = .ok (.iconst 0, 1) := by decide +kernel
theorem d_X_linkAll_10 : decode b_X_linkAll 10 = .ok (.aload_n 0, 1) := by decide +kernel
theorem d_X_linkAll_11 : decode b_X_linkAll 11 = .ok (.getfield 101, 3) := by decide +kernel
theorem d_X_linkAll_14 : decode b_X_linkAll 14 = .ok (.invokestatic 150, 3) := by decide +kernel
theorem d_X_linkAll_17 : decode b_X_linkAll 17 = .ok (.aload_n 0, 1) := by decide +kernel
theorem d_X_linkAll_18 : decode b_X_linkAll 18 = .ok (.getfield 35, 3) := by decide +kernel
theorem d_X_linkAll_21 : decode b_X_linkAll 21 = .ok (.iload_n 1, 1) := by decide +kernel
theorem d_X_linkAll_22 : decode b_X_linkAll 22 = .ok (.iload_n 2, 1) := by decide +kernel
theorem d_X_linkAll_23 : decode b_X_linkAll 23 = .ok (.invokevirtual 156, 3) := by decide +kernel
theorem d_X_linkAll_26 : decode b_X_linkAll 26 = .ok (.iconst 0, 1) := by decide +kernel
theorem d_X_linkAll_27 : decode b_X_linkAll 27 = .ok (.istore_n 3, 1) := by decide +kernel
theorem d_X_linkAll_28 : decode b_X_linkAll 28 = .ok (.iload_n 3, 1) := by decide +kernel
theorem d_X_linkAll_29 : decode b_X_linkAll 29 = .ok (.sipush 2000, 3) := by decide +kernel
theorem d_X_linkAll_32 : decode b_X_linkAll 32 = .ok (.if_icmp .ge 65, 3) := by decide +kernel
theorem d_X_linkAll_35 : decode b_X_linkAll 35 = .ok (.aload_n 0, 1) := by decide +kernel
theorem d_X_linkAll_36 : decode b_X_linkAll 36 = .ok (.getfield 35, 3) := by decide +kernel
theorem d_X_linkAll_39 : decode b_X_linkAll 39 = .ok (.getfield 160, 3) := by decide +kernel
theorem d_X_linkAll_42 : decode b_X_linkAll 42 = .ok (.ifCond .le 55, 3) := by decide +kernel
theorem d_X_linkAll_45 : decode b_X_linkAll 45 = .ok (.aload_n 0, 1) := by decide +kernel
theorem d_X_linkAll_46 : decode b_X_linkAll 46 = .ok (.aload_n 0, 1) := by decide +kernel
theorem d_X_linkAll_47 : decode b_X_linkAll 47 = .ok (.getfield 35, 3) := by decide +kernel
theorem d_X_linkAll_50 : decode b_X_linkAll 50 = .ok (.invokevirtual 163, 3) := by decide +kernel
theorem d_X_linkAll_53 : decode b_X_linkAll 53 = .ok (.invokevirtual 166, 3) := by decide +kernel
theorem d_X_linkAll_56 : decode b_X_linkAll 56 = .ok (.istore 4, 2) := by decide +kernel
theorem d_X_linkAll_58 : decode b_X_linkAll 58 = .ok (.aload_n 0, 1) := by decide +kernel
theorem d_X_linkAll_59 : decode b_X_linkAll 59 = .ok (.aload_n 0, 1) := by decide +kernel
theorem d_X_linkAll_60 : decode b_X_linkAll 60 = .ok (.getfield 35, 3) := by decide +kernel
theorem d_X_linkAll_63 : decode b_X_linkAll 63 = .ok (.invokevirtual 163, 3) := by decide +kernel
theorem d_X_linkAll_66 : decode b_X_linkAll 66 = .ok (.invokevirtual 166, 3) := by decide +kernel
theorem d_X_linkAll_69 : decode b_X_linkAll 69 = .ok (.istore 5, 2) := by decide +kernel
theorem d_X_linkAll_71 : decode b_X_linkAll 71 = .ok (.iload 5, 2) := by decide +kernel
theorem d_X_linkAll_73 : decode b_X_linkAll 73 = .ok (.iload 4, 2) := by decide +kernel
theorem d_X_linkAll_75 : decode b_X_linkAll 75 = .ok (.if_icmp .eq 16, 3) := by decide +kernel
theorem d_X_linkAll_78 : decode b_X_linkAll 78 = .ok (.aload_n 0, 1) := by decide +kernel
theorem d_X_linkAll_79 : decode b_X_linkAll 79 = .ok (.iload 5, 2) := by decide +kernel
theorem d_X_linkAll_81 : decode b_X_linkAll 81 = .ok (.iload 4, 2) := by decide +kernel
theorem d_X_linkAll_83 : decode b_X_linkAll 83 = .ok (.invokevirtual 169, 3) := by decide +kernel
theorem d_X_linkAll_86 : decode b_X_linkAll 86 = .ok (.ifCond .ne 5, 3) := by decide +kernel
theorem d_X_linkAll_89 : decode b_X_linkAll 89 = .ok (.iconst 0, 1) := by decide +kernel
theorem d_X_linkAll_90 : decode b_X_linkAll 90 = .ok (.ireturn, 1) := by decide +kernel
theorem d_X_linkAll_91 : decode b_X_linkAll 91 = .ok (.iinc 3 1, 3) := by decide +kernel
theorem d_X_linkAll_94 : decode b_X_linkAll 94 = .ok (.goto (-66), 3) := by decide +kernel
theorem d_X_linkAll_97 : decode b_X_linkAll 97 = .ok (.iconst 1, 1) := by decide +kernel
theorem d_X_linkAll_98 : decode b_X_linkAll 98 = .ok (.ireturn, 1) := by decide +kernel
theorem d_X_linkTwo_0 : decode b_X_linkTwo 0 = .ok (.aload_n 0, 1) := by decide +kernel
theorem d_X_linkTwo_1 : decode b_X_linkTwo 1 = .ok (.getfield 10, 3) := by decide +kernel
theorem d_X_linkTwo_4 : decode b_X_linkTwo 4 = .ok (.getfield 75, 3) := by decide +kernel
theorem d_X_linkTwo_7 : decode b_X_linkTwo 7 = .ok (.iload_n 1, 1) := by decide +kernel
theorem d_X_linkTwo_8 : decode b_X_linkTwo 8 = .ok (.iaload, 1) := by decide +kernel
theorem d_X_linkTwo_9 : decode b_X_linkTwo 9 = .ok (.ifCond .ne 12, 3) := by decide +kernel
theorem d_X_linkTwo_12 : decode b_X_linkTwo 12 = .ok (.aload_n 0, 1) := by decide +kernel
theorem d_X_linkTwo_13 : decode b_X_linkTwo 13 = .ok (.getfield 26, 3) := by decide +kernel
theorem d_X_linkTwo_16 : decode b_X_linkTwo 16 = .ok (.iload_n 1, 1) := by decide +kernel
theorem d_X_linkTwo_17 : decode b_X_linkTwo 17 = .ok (.iload_n 2, 1) := by decide +kernel
theorem d_X_linkTwo_18 : decode b_X_linkTwo 18 = .ok (.iastore, 1) := by decide +kernel
theorem d_X_linkTwo_19 : decode b_X_linkTwo 19 = .ok (.iconst 1, 1) := by decide +kernel
theorem d_X_linkTwo_20 : decode b_X_linkTwo 20 = .ok (.ireturn, 1) := by decide +kernel
theorem d_X_linkTwo_21 : decode b_X_linkTwo 21 = .ok (.aload_n 0, 1) := by decide +kernel
theorem d_X_linkTwo_22 : decode b_X_linkTwo 22 = .ok (.getfield 10, 3) := by decide +kernel
theorem d_X_linkTwo_25 : decode b_X_linkTwo 25 = .ok (.getfield 75, 3) := by decide +kernel
theorem d_X_linkTwo_28 : decode b_X_linkTwo 28 = .ok (.iload_n 2, 1) := by decide +kernel
theorem d_X_linkTwo_29 : decode b_X_linkTwo 29 = .ok (.iaload, 1) := by decide +kernel
theorem d_X_linkTwo_30 : decode b_X_linkTwo 30 = .ok (.ifCond .ne 12, 3) := by decide +kernel
theorem d_X_linkTwo_33 : decode b_X_linkTwo 33 = .ok (.aload_n 0, 1) := by decide +kernel
theorem d_X_linkTwo_34 : decode b_X_linkTwo 34 = .ok (.getfield 26, 3) := by decide +kernel
theorem d_X_linkTwo_37 : decode b_X_linkTwo 37 = .ok (.iload_n 2, 1) := by decide +kernel
theorem d_X_linkTwo_38 : decode b_X_linkTwo 38 = .ok (.iload_n 1, 1) := by decide +kernel
theorem d_X_linkTwo_39 : decode b_X_linkTwo 39 = .ok (.iastore, 1) := by decide +kernel
theorem d_X_linkTwo_40 : decode b_X_linkTwo 40 = .ok (.iconst 1, 1) := by decide +kernel
theorem d_X_linkTwo_41 : decode b_X_linkTwo 41 = .ok (.ireturn, 1) := by decide +kernel
theorem d_X_linkTwo_42 : decode b_X_linkTwo 42 = .ok (.aload_n 0, 1) := by decide +kernel
theorem d_X_linkTwo_43 : decode b_X_linkTwo 43 = .ok (.getfield 10, 3) := by decide +kernel
theorem d_X_linkTwo_46 : decode b_X_linkTwo 46 = .ok (.getfield 75, 3) := by decide +kernel
theorem d_X_linkTwo_49 : decode b_X_linkTwo 49 = .ok (.iload_n 1, 1) := by decide +kernel
theorem d_X_linkTwo_50 : decode b_X_linkTwo 50 = .ok (.iaload, 1) := by decide +kernel
theorem d_X_linkTwo_51 : decode b_X_linkTwo 51 = .ok (.aload_n 0, 1) := by decide +kernel
theorem d_X_linkTwo_52 : decode b_X_linkTwo 52 = .ok (.getfield 10, 3) := by decide +kernel
theorem d_X_linkTwo_55 : decode b_X_linkTwo 55 = .ok (.getfield 75, 3) := by decide +kernel
theorem d_X_linkTwo_58 : decode b_X_linkTwo 58 = .ok (.iload_n 2, 1) := by decide +kernel
theorem d_X_linkTwo_59 : decode b_X_linkTwo 59 = .ok (.iaload, 1) := by decide +kernel
theorem d_X_linkTwo_60 : decode b_X_linkTwo 60 = .ok (.if_icmp .eq 5, 3) := by decide +kernel
theorem d_X_linkTwo_63 : decode b_X_linkTwo 63 = .ok (.iconst 0, 1) := by decide +kernel
theorem d_X_linkTwo_64 : decode b_X_linkTwo 64 = .ok (.ireturn, 1) := by decide +kernel
theorem d_X_linkTwo_65 : decode b_X_linkTwo 65 = .ok (.aload_n 0, 1) := by decide +kernel
theorem d_X_linkTwo_66 : decode b_X_linkTwo 66 = .ok (.getfield 26, 3) := by decide +kernel
theorem d_X_linkTwo_69 : decode b_X_linkTwo 69 = .ok (.iload_n 1, 1) := by decide +kernel
theorem d_X_linkTwo_70 : decode b_X_linkTwo 70 = .ok (.iload_n 2, 1) := by decide +kernel
theorem d_X_linkTwo_71 : decode b_X_linkTwo 71 = .ok (.iastore, 1) := by decide +kernel
theorem d_X_linkTwo_72 : decode b_X_linkTwo 72 = .ok (.aload_n 0, 1) := by decide +kernel
theorem d_X_linkTwo_73 : decode b_X_linkTwo 73 = .ok (.iload_n 1, 1) := by decide +kernel
theorem d_X_linkTwo_74 : decode b_X_linkTwo 74 = .ok (.iload_n 2, 1) := by decide +kernel
theorem d_X_linkTwo_75 : decode b_X_linkTwo 75 = .ok (.invokevirtual 172, 3) := by decide +kernel
theorem d_X_linkTwo_78 : decode b_X_linkTwo 78 = .ok (.iconst 1, 1) := by decide +kernel
theorem d_X_linkTwo_79 : decode b_X_linkTwo 79 = .ok (.ireturn, 1) := by decide +kernel
theorem d_X_putPartsOfBoth_0 : decode b_X_putPartsOfBoth 0 = .ok (.aload_n 0, 1) := by decide +kernel
theorem d_X_putPartsOfBoth_1 : decode b_X_putPartsOfBoth 1 = .ok (.getfield 10, 3) := by decide +kernel
theorem d_X_putPartsOfBoth_4 : decode b_X_putPartsOfBoth 4 = .ok (.iload_n 1, 1) := by decide +kernel
theorem d_X_putPartsOfBoth_5 : decode b_X_putPartsOfBoth 5 = .ok (.invokevirtual 78, 3) := by decide +kernel
theorem d_X_putPartsOfBoth_8 : decode b_X_putPartsOfBoth 8 = .ok (.ifCond .eq 67, 3) := by decide +kernel
theorem d_X_putPartsOfBoth_11 : decode b_X_putPartsOfBoth 11 = .ok (.aload_n 0, 1) := by decide +kernel
theorem d_X_putPartsOfBoth_12 : decode b_X_putPartsOfBoth 12 = .ok (.getfield 35, 3) := by decide +kernel
theorem d_X_putPartsOfBoth_15 : decode b_X_putPartsOfBoth 15 = .ok (.aload_n 0, 1) := by decide +kernel
theorem d_X_putPartsOfBoth_16 : decode b_X_putPartsOfBoth 16 = .ok (.getfield 10, 3) := by decide +kernel
theorem d_X_putPartsOfBoth_19 : decode b_X_putPartsOfBoth 19 = .ok (.getfield 88, 3) := by decide +kernel
theorem d_X_putPartsOfBoth_22 : decode b_X_putPartsOfBoth 22 = .ok (.iload_n 1, 1) := by decide +kernel
theorem d_X_putPartsOfBoth_23 : decode b_X_putPartsOfBoth 23 = .ok (.iaload, 1) := by decide +kernel
theorem d_X_putPartsOfBoth_24 : decode b_X_putPartsOfBoth 24 = .ok (.invokevirtual 175, 3) := by decide +kernel
theorem d_X_putPartsOfBoth_27 : decode b_X_putPartsOfBoth 27 = .ok (.aload_n 0, 1) := by decide +kernel
theorem d_X_putPartsOfBoth_28 : decode b_X_putPartsOfBoth 28 = .ok (.getfield 35, 3) := by decide +kernel
theorem d_X_putPartsOfBoth_31 : decode b_X_putPartsOfBoth 31 = .ok (.aload_n 0, 1) := by decide +kernel
theorem d_X_putPartsOfBoth_32 : decode b_X_putPartsOfBoth 32 = .ok (.getfield 10, 3) := by decide +kernel
theorem d_X_putPartsOfBoth_35 : decode b_X_putPartsOfBoth 35 = .ok (.getfield 88, 3) := by decide +kernel
theorem d_X_putPartsOfBoth_38 : decode b_X_putPartsOfBoth 38 = .ok (.iload_n 2, 1) := by decide +kernel
theorem d_X_putPartsOfBoth_39 : decode b_X_putPartsOfBoth 39 = .ok (.iaload, 1) := by decide +kernel
theorem d_X_putPartsOfBoth_40 : decode b_X_putPartsOfBoth 40 = .ok (.invokevirtual 175, 3) := by decide +kernel
theorem d_X_putPartsOfBoth_43 : decode b_X_putPartsOfBoth 43 = .ok (.aload_n 0, 1) := by decide +kernel
theorem d_X_putPartsOfBoth_44 : decode b_X_putPartsOfBoth 44 = .ok (.getfield 35, 3) := by decide +kernel
theorem d_X_putPartsOfBoth_47 : decode b_X_putPartsOfBoth 47 = .ok (.aload_n 0, 1) := by decide +kernel
theorem d_X_putPartsOfBoth_48 : decode b_X_putPartsOfBoth 48 = .ok (.getfield 10, 3) := by decide +kernel
theorem d_X_putPartsOfBoth_51 : decode b_X_putPartsOfBoth 51 = .ok (.getfield 85, 3) := by decide +kernel
theorem d_X_putPartsOfBoth_54 : decode b_X_putPartsOfBoth 54 = .ok (.iload_n 1, 1) := by decide +kernel
theorem d_X_putPartsOfBoth_55 : decode b_X_putPartsOfBoth 55 = .ok (.iaload, 1) := by decide +kernel
theorem d_X_putPartsOfBoth_56 : decode b_X_putPartsOfBoth 56 = .ok (.invokevirtual 175, 3) := by decide +kernel
theorem d_X_putPartsOfBoth_59 : decode b_X_putPartsOfBoth 59 = .ok (.aload_n 0, 1) := by decide +kernel
theorem d_X_putPartsOfBoth_60 : decode b_X_putPartsOfBoth 60 = .ok (.getfield 35, 3) := by decide +kernel
theorem d_X_putPartsOfBoth_63 : decode b_X_putPartsOfBoth 63 = .ok (.aload_n 0, 1) := by decide +kernel
theorem d_X_putPartsOfBoth_64 : decode b_X_putPartsOfBoth 64 = .ok (.getfield 10, 3) := by decide +kernel
theorem d_X_putPartsOfBoth_67 : decode b_X_putPartsOfBoth 67 = .ok (.getfield 85, 3) := by decide +kernel
theorem d_X_putPartsOfBoth_70 : decode b_X_putPartsOfBoth 70 = .ok (.iload_n 2, 1) := by decide +kernel
theorem d_X_putPartsOfBoth_71 : decode b_X_putPartsOfBoth 71 = .ok (.iaload, 1) := by decide +kernel
theorem d_X_putPartsOfBoth_72 : decode b_X_putPartsOfBoth 72 = .ok (.invokevirtual 175, 3) := by decide +kernel
theorem d_X_putPartsOfBoth_75 : decode b_X_putPartsOfBoth 75 = .ok (.return_, 1) := by decide +kernel
theorem d_X_root_0 : decode b_X_root 0 = .ok (.iload_n 1, 1) := by decide +kernel
theorem d_X_root_1 : decode b_X_root 1 = .ok (.istore_n 2, 1) := by decide +kernel
theorem d_X_root_2 : decode b_X_root 2 = .ok (.iconst 0, 1) := by decide +kernel
theorem d_X_root_3 : decode b_X_root 3 = .ok (.istore_n 3, 1) := by decide +kernel
theorem d_X_root_4 : decode b_X_root 4 = .ok (.iload_n 3, 1) := by decide +kernel
theorem d_X_root_5 : decode b_X_root 5 = .ok (.sipush 1000, 3) := by decide +kernel
theorem d_X_root_8 : decode b_X_root 8 = .ok (.if_icmp .ge 43, 3) := by decide +kernel
theorem d_X_root_11 : decode b_X_root 11 = .ok (.aload_n 0, 1) := by decide +kernel
theorem d_X_root_12 : decode b_X_root 12 = .ok (.getfield 26, 3) := by decide +kernel
theorem d_X_root_15 : decode b_X_root 15 = .ok (.iload_n 2, 1) := by decide +kernel
theorem d_X_root_16 : decode b_X_root 16 = .ok (.iaload, 1) := by decide +kernel
theorem d_X_root_17 : decode b_X_root 17 = .ok (.iload_n 2, 1) := by decide +kernel
theorem d_X_root_18 : decode b_X_root 18 = .ok (.if_icmp .eq 33, 3) := by decide +kernel
theorem d_X_root_21 : decode b_X_root 21 = .ok (.aload_n 0, 1) := by decide +kernel
theorem d_X_root_22 : decode b_X_root 22 = .ok (.getfield 26, 3) := by decide +kernel
theorem d_X_root_25 : decode b_X_root 25 = .ok (.iload_n 2, 1) := by decide +kernel
theorem d_X_root_26 : decode b_X_root 26 = .ok (.aload_n 0, 1) := by decide +kernel
theorem d_X_root_27 : decode b_X_root 27 = .ok (.getfield 26, 3) := by decide +kernel
theorem d_X_root_30 : decode b_X_root 30 = .ok (.aload_n 0, 1) := by decide +kernel
theorem d_X_root_31 : decode b_X_root 31 = .ok (.getfield 26, 3) := by decide +kernel
theorem d_X_root_34 : decode b_X_root 34 = .ok (.iload_n 2, 1) := by decide +kernel
theorem d_X_root_35 : decode b_X_root 35 = .ok (.iaload, 1) := by decide +kernel
theorem d_X_root_36 : decode b_X_root 36 = .ok (.iaload, 1) := by decide +kernel
theorem d_X_root_37 : decode b_X_root 37 = .ok (.iastore, 1) := by decide +kernel
theorem d_X_root_38 : decode b_X_root 38 = .ok (.aload_n 0, 1) := by decide +kernel
theorem d_X_root_39 : decode b_X_root 39 = .ok (.getfield 26, 3) := by decide +kernel
theorem d_X_root_42 : decode b_X_root 42 = .ok (.iload_n 2, 1) := by decide +kernel
theorem d_X_root_43 : decode b_X_root 43 = .ok (.iaload, 1) := by decide +kernel
theorem d_X_root_44 : decode b_X_root 44 = .ok (.istore_n 2, 1) := by decide +kernel
theorem d_X_root_45 : decode b_X_root 45 = .ok (.iinc 3 1, 3) := by decide +kernel
theorem d_X_root_48 : decode b_X_root 48 = .ok (.goto (-44), 3) := by decide +kernel
theorem d_X_root_51 : decode b_X_root 51 = .ok (.iload_n 2, 1) := by decide +kernel
theorem d_X_root_52 : decode b_X_root 52 = .ok (.ireturn, 1) := by decide +kernel
theorem d_X_layOut_0 : decode b_X_layOut 0 = .ok (.aload_n 0, 1) := by decide +kernel
theorem d_X_layOut_1 : decode b_X_layOut 1 = .ok (.getfield 29, 3) := by decide +kernel
theorem d_X_layOut_4 : decode b_X_layOut 4 = .ok (.iconst 0, 1) := by decide +kernel
theorem d_X_layOut_5 : decode b_X_layOut 5 = .ok (.aload_n 0, 1) := by decide +kernel
theorem d_X_layOut_6 : decode b_X_layOut 6 = .ok (.getfield 101, 3) := by decide +kernel
theorem d_X_layOut_9 : decode b_X_layOut 9 = .ok (.iconst 0, 1) := by decide +kernel
theorem d_X_layOut_10 : decode b_X_layOut 10 = .ok (.invokestatic 104, 3) := by decide +kernel
theorem d_X_layOut_13 : decode b_X_layOut 13 = .ok (.aload_n 0, 1) := by decide +kernel
theorem d_X_layOut_14 : decode b_X_layOut 14 = .ok (.iconst 0, 1) := by decide +kernel
theorem d_X_layOut_15 : decode b_X_layOut 15 = .ok (.putfield 178, 3) := by decide +kernel
theorem d_X_layOut_18 : decode b_X_layOut 18 = .ok (.iconst 0, 1) := by decide +kernel
theorem d_X_layOut_19 : decode b_X_layOut 19 = .ok (.istore_n 1, 1) := by decide +kernel
theorem d_X_layOut_20 : decode b_X_layOut 20 = .ok (.iload_n 1, 1) := by decide +kernel
theorem d_X_layOut_21 : decode b_X_layOut 21 = .ok (.aload_n 0, 1) := by decide +kernel
theorem d_X_layOut_22 : decode b_X_layOut 22 = .ok (.getfield 101, 3) := by decide +kernel
theorem d_X_layOut_25 : decode b_X_layOut 25 = .ok (.if_icmp .ge 38, 3) := by decide +kernel
theorem d_X_layOut_28 : decode b_X_layOut 28 = .ok (.aload_n 0, 1) := by decide +kernel
theorem d_X_layOut_29 : decode b_X_layOut 29 = .ok (.getfield 26, 3) := by decide +kernel
theorem d_X_layOut_32 : decode b_X_layOut 32 = .ok (.iload_n 1, 1) := by decide +kernel
theorem d_X_layOut_33 : decode b_X_layOut 33 = .ok (.iaload, 1) := by decide +kernel
theorem d_X_layOut_34 : decode b_X_layOut 34 = .ok (.iload_n 1, 1) := by decide +kernel
theorem d_X_layOut_35 : decode b_X_layOut 35 = .ok (.if_icmp .ne 22, 3) := by decide +kernel
theorem d_X_layOut_38 : decode b_X_layOut 38 = .ok (.aload_n 0, 1) := by decide +kernel
theorem d_X_layOut_39 : decode b_X_layOut 39 = .ok (.getfield 29, 3) := by decide +kernel
theorem d_X_layOut_42 : decode b_X_layOut 42 = .ok (.iload_n 1, 1) := by decide +kernel
theorem d_X_layOut_43 : decode b_X_layOut 43 = .ok (.iaload, 1) := by decide +kernel
theorem d_X_layOut_44 : decode b_X_layOut 44 = .ok (.ifCond .ne 13, 3) := by decide +kernel
theorem d_X_layOut_47 : decode b_X_layOut 47 = .ok (.aload_n 0, 1) := by decide +kernel
theorem d_X_layOut_48 : decode b_X_layOut 48 = .ok (.iload_n 1, 1) := by decide +kernel
theorem d_X_layOut_49 : decode b_X_layOut 49 = .ok (.invokevirtual 181, 3) := by decide +kernel
theorem d_X_layOut_52 : decode b_X_layOut 52 = .ok (.ifCond .ne 5, 3) := by decide +kernel
theorem d_X_layOut_55 : decode b_X_layOut 55 = .ok (.iconst 0, 1) := by decide +kernel
theorem d_X_layOut_56 : decode b_X_layOut 56 = .ok (.ireturn, 1) := by decide +kernel
theorem d_X_layOut_57 : decode b_X_layOut 57 = .ok (.iinc 1 1, 3) := by decide +kernel
theorem d_X_layOut_60 : decode b_X_layOut 60 = .ok (.goto (-40), 3) := by decide +kernel
theorem d_X_layOut_63 : decode b_X_layOut 63 = .ok (.iconst 1, 1) := by decide +kernel
theorem d_X_layOut_64 : decode b_X_layOut 64 = .ok (.ireturn, 1) := by decide +kernel
theorem d_X_layOutFrom_0 : decode b_X_layOutFrom 0 = .ok (.aload_n 0, 1) := by decide +kernel
theorem d_X_layOutFrom_1 : decode b_X_layOutFrom 1 = .ok (.getfield 35, 3) := by decide +kernel
theorem d_X_layOutFrom_4 : decode b_X_layOutFrom 4 = .ok (.iconst 0, 1) := by decide +kernel
theorem d_X_layOutFrom_5 : decode b_X_layOutFrom 5 = .ok (.putfield 160, 3) := by decide +kernel
theorem d_X_layOutFrom_8 : decode b_X_layOutFrom 8 = .ok (.aload_n 0, 1) := by decide +kernel
theorem d_X_layOutFrom_9 : decode b_X_layOutFrom 9 = .ok (.getfield 35, 3) := by decide +kernel
theorem d_X_layOutFrom_12 : decode b_X_layOutFrom 12 = .ok (.iload_n 1, 1) := by decide +kernel
theorem d_X_layOutFrom_13 : decode b_X_layOutFrom 13 = .ok (.invokevirtual 175, 3) := by decide +kernel
theorem d_X_layOutFrom_16 : decode b_X_layOutFrom 16 = .ok (.iconst 0, 1) := by decide +kernel
theorem d_X_layOutFrom_17 : decode b_X_layOutFrom 17 = .ok (.istore_n 2, 1) := by decide +kernel
theorem d_X_layOutFrom_18 : decode b_X_layOutFrom 18 = .ok (.iload_n 2, 1) := by decide +kernel
theorem d_X_layOutFrom_19 : decode b_X_layOutFrom 19 = .ok (.sipush 4000, 3) := by decide +kernel
theorem d_X_layOutFrom_22 : decode b_X_layOutFrom 22 = .ok (.if_icmp .ge 66, 3) := by decide +kernel
theorem d_X_layOutFrom_25 : decode b_X_layOutFrom 25 = .ok (.aload_n 0, 1) := by decide +kernel
theorem d_X_layOutFrom_26 : decode b_X_layOutFrom 26 = .ok (.getfield 35, 3) := by decide +kernel
theorem d_X_layOutFrom_29 : decode b_X_layOutFrom 29 = .ok (.getfield 160, 3) := by decide +kernel
theorem d_X_layOutFrom_32 : decode b_X_layOutFrom 32 = .ok (.ifCond .le 56, 3) := by decide +kernel
theorem d_X_layOutFrom_35 : decode b_X_layOutFrom 35 = .ok (.aload_n 0, 1) := by decide +kernel
theorem d_X_layOutFrom_36 : decode b_X_layOutFrom 36 = .ok (.getfield 35, 3) := by decide +kernel
theorem d_X_layOutFrom_39 : decode b_X_layOutFrom 39 = .ok (.invokevirtual 184, 3) := by decide +kernel
theorem d_X_layOutFrom_42 : decode b_X_layOutFrom 42 = .ok (.istore_n 3, 1) := by decide +kernel
theorem d_X_layOutFrom_43 : decode b_X_layOutFrom 43 = .ok (.aload_n 0, 1) := by decide +kernel
theorem d_X_layOutFrom_44 : decode b_X_layOutFrom 44 = .ok (.getfield 29, 3) := by decide +kernel
theorem d_X_layOutFrom_47 : decode b_X_layOutFrom 47 = .ok (.iload_n 3, 1) := by decide +kernel
theorem d_X_layOutFrom_48 : decode b_X_layOutFrom 48 = .ok (.iaload, 1) := by decide +kernel
theorem d_X_layOutFrom_49 : decode b_X_layOutFrom 49 = .ok (.ifCond .ne 20, 3) := by decide +kernel
theorem d_X_layOutFrom_52 : decode b_X_layOutFrom 52 = .ok (.aload_n 0, 1) := by decide +kernel
theorem d_X_layOutFrom_53 : decode b_X_layOutFrom 53 = .ok (.getfield 29, 3) := by decide +kernel
theorem d_X_layOutFrom_56 : decode b_X_layOutFrom 56 = .ok (.iload_n 3, 1) := by decide +kernel
theorem d_X_layOutFrom_57 : decode b_X_layOutFrom 57 = .ok (.iconst 1, 1) := by decide +kernel
theorem d_X_layOutFrom_58 : decode b_X_layOutFrom 58 = .ok (.iastore, 1) := by decide +kernel
theorem d_X_layOutFrom_59 : decode b_X_layOutFrom 59 = .ok (.aload_n 0, 1) := by decide +kernel
theorem d_X_layOutFrom_60 : decode b_X_layOutFrom 60 = .ok (.iload_n 3, 1) := by decide +kernel
theorem d_X_layOutFrom_61 : decode b_X_layOutFrom 61 = .ok (.invokevirtual 187, 3) := by decide +kernel
theorem d_X_layOutFrom_64 : decode b_X_layOutFrom 64 = .ok (.ifCond .ne 18, 3) := by decide +kernel
theorem d_X_layOutFrom_67 : decode b_X_layOutFrom 67 = .ok (.iconst 0, 1) := by decide +kernel
theorem d_X_layOutFrom_68 : decode b_X_layOutFrom 68 = .ok (.ireturn, 1) := by decide +kernel
theorem d_X_layOutFrom_69 : decode b_X_layOutFrom 69 = .ok (.aload_n 0, 1) := by decide +kernel
theorem d_X_layOutFrom_70 : decode b_X_layOutFrom 70 = .ok (.getfield 35, 3) := by decide +kernel
theorem d_X_layOutFrom_73 : decode b_X_layOutFrom 73 = .ok (.invokevirtual 163, 3) := by decide +kernel
theorem d_X_layOutFrom_76 : decode b_X_layOutFrom 76 = .ok (.pop, 1) := by decide +kernel
theorem d_X_layOutFrom_77 : decode b_X_layOutFrom 77 = .ok (.aload_n 0, 1) := by decide +kernel
theorem d_X_layOutFrom_78 : decode b_X_layOutFrom 78 = .ok (.iload_n 3, 1) := by decide +kernel
theorem d_X_layOutFrom_79 : decode b_X_layOutFrom 79 = .ok (.invokevirtual 190, 3) := by decide +kernel
theorem d_X_layOutFrom_82 : decode b_X_layOutFrom 82 = .ok (.iinc 2 1, 3) := by decide +kernel
theorem d_X_layOutFrom_85 : decode b_X_layOutFrom 85 = .ok (.goto (-67), 3) := by decide +kernel
theorem d_X_layOutFrom_88 : decode b_X_layOutFrom 88 = .ok (.iconst 1, 1) := by decide +kernel
theorem d_X_layOutFrom_89 : decode b_X_layOutFrom 89 = .ok (.ireturn, 1) := by decide +kernel
theorem d_X_layDown_0 : decode b_X_layDown 0 = .ok (.aload_n 0, 1) := by decide +kernel
theorem d_X_layDown_1 : decode b_X_layDown 1 = .ok (.getfield 29, 3) := by decide +kernel
theorem d_X_layDown_4 : decode b_X_layDown 4 = .ok (.iload_n 1, 1) := by decide +kernel
theorem d_X_layDown_5 : decode b_X_layDown 5 = .ok (.iaload, 1) := by decide +kernel
theorem d_X_layDown_6 : decode b_X_layDown 6 = .ok (.iconst 1, 1) := by decide +kernel
theorem d_X_layDown_7 : decode b_X_layDown 7 = .ok (.if_icmp .ne 30, 3) := by decide +kernel
theorem d_X_layDown_10 : decode b_X_layDown 10 = .ok (.aload_n 0, 1) := by decide +kernel
theorem d_X_layDown_11 : decode b_X_layDown 11 = .ok (.getfield 29, 3) := by decide +kernel
theorem d_X_layDown_14 : decode b_X_layDown 14 = .ok (.iload_n 1, 1) := by decide +kernel
theorem d_X_layDown_15 : decode b_X_layDown 15 = .ok (.iconst 2, 1) := by decide +kernel
theorem d_X_layDown_16 : decode b_X_layDown 16 = .ok (.iastore, 1) := by decide +kernel
theorem d_X_layDown_17 : decode b_X_layDown 17 = .ok (.aload_n 0, 1) := by decide +kernel
theorem d_X_layDown_18 : decode b_X_layDown 18 = .ok (.getfield 39, 3) := by decide +kernel
theorem d_X_layDown_21 : decode b_X_layDown 21 = .ok (.aload_n 0, 1) := by decide +kernel
theorem d_X_layDown_22 : decode b_X_layDown 22 = .ok (.getfield 178, 3) := by decide +kernel
theorem d_X_layDown_25 : decode b_X_layDown 25 = .ok (.iload_n 1, 1) := by decide +kernel
theorem d_X_layDown_26 : decode b_X_layDown 26 = .ok (.iastore, 1) := by decide +kernel
theorem d_X_layDown_27 : decode b_X_layDown 27 = .ok (.aload_n 0, 1) := by decide +kernel
theorem d_X_layDown_28 : decode b_X_layDown 28 = .ok (.dup, 1) := by decide +kernel
theorem d_X_layDown_29 : decode b_X_layDown 29 = .ok (.getfield 178, 3) := by decide +kernel
theorem d_X_layDown_32 : decode b_X_layDown 32 = .ok (.iconst 1, 1) := by decide +kernel
theorem d_X_layDown_33 : decode b_X_layDown 33 = .ok (.iadd, 1) := by decide +kernel
theorem d_X_layDown_34 : decode b_X_layDown 34 = .ok (.putfield 178, 3) := by decide +kernel
theorem d_X_layDown_37 : decode b_X_layDown 37 = .ok (.return_, 1) := by decide +kernel
theorem d_X_putUnseenParts_0 : decode b_X_putUnseenParts 0 = .ok (.aload_n 0, 1) := by decide +kernel
theorem d_X_putUnseenParts_1 : decode b_X_putUnseenParts 1 = .ok (.getfield 10, 3) := by decide +kernel
theorem d_X_putUnseenParts_4 : decode b_X_putUnseenParts 4 = .ok (.iload_n 1, 1) := by decide +kernel
theorem d_X_putUnseenParts_5 : decode b_X_putUnseenParts 5 = .ok (.invokevirtual 78, 3) := by decide +kernel
theorem d_X_putUnseenParts_8 : decode b_X_putUnseenParts 8 = .ok (.ifCond .eq 43, 3) := by decide +kernel
theorem d_X_putUnseenParts_11 : decode b_X_putUnseenParts 11 = .ok (.aload_n 0, 1) := by decide +kernel
theorem d_X_putUnseenParts_12 : decode b_X_putUnseenParts 12 = .ok (.aload_n 0, 1) := by decide +kernel
theorem d_X_putUnseenParts_13 : decode b_X_putUnseenParts 13 = .ok (.aload_n 0, 1) := by decide +kernel
theorem d_X_putUnseenParts_14 : decode b_X_putUnseenParts 14 = .ok (.getfield 10, 3) := by decide +kernel
theorem d_X_putUnseenParts_17 : decode b_X_putUnseenParts 17 = .ok (.getfield 88, 3) := by decide +kernel
theorem d_X_putUnseenParts_20 : decode b_X_putUnseenParts 20 = .ok (.iload_n 1, 1) := by decide +kernel
theorem d_X_putUnseenParts_21 : decode b_X_putUnseenParts 21 = .ok (.iaload, 1) := by decide +kernel
theorem d_X_putUnseenParts_22 : decode b_X_putUnseenParts 22 = .ok (.invokevirtual 166, 3) := by decide +kernel
theorem d_X_putUnseenParts_25 : decode b_X_putUnseenParts 25 = .ok (.invokevirtual 193, 3) := by decide +kernel
theorem d_X_putUnseenParts_28 : decode b_X_putUnseenParts 28 = .ok (.ifCond .eq 27, 3) := by decide +kernel
theorem d_X_putUnseenParts_31 : decode b_X_putUnseenParts 31 = .ok (.aload_n 0, 1) := by decide +kernel
theorem d_X_putUnseenParts_32 : decode b_X_putUnseenParts 32 = .ok (.aload_n 0, 1) := by decide +kernel
theorem d_X_putUnseenParts_33 : decode b_X_putUnseenParts 33 = .ok (.aload_n 0, 1) := by decide +kernel
theorem d_X_putUnseenParts_34 : decode b_X_putUnseenParts 34 = .ok (.getfield 10, 3) := by decide +kernel
theorem d_X_putUnseenParts_37 : decode b_X_putUnseenParts 37 = .ok (.getfield 85, 3) := by decide +kernel
theorem d_X_putUnseenParts_40 : decode b_X_putUnseenParts 40 = .ok (.iload_n 1, 1) := by decide +kernel
theorem d_X_putUnseenParts_41 : decode b_X_putUnseenParts 41 = .ok (.iaload, 1) := by decide +kernel
theorem d_X_putUnseenParts_42 : decode b_X_putUnseenParts 42 = .ok (.invokevirtual 166, 3) := by decide +kernel
theorem d_X_putUnseenParts_45 : decode b_X_putUnseenParts 45 = .ok (.invokevirtual 193, 3) := by decide +kernel
theorem d_X_putUnseenParts_48 : decode b_X_putUnseenParts 48 = .ok (.ifCond .eq 7, 3) := by decide +kernel
theorem d_X_putUnseenParts_51 : decode b_X_putUnseenParts 51 = .ok (.iconst 1, 1) := by decide +kernel
theorem d_X_putUnseenParts_52 : decode b_X_putUnseenParts 52 = .ok (.goto 4, 3) := by decide +kernel
theorem d_X_putUnseenParts_55 : decode b_X_putUnseenParts 55 = .ok (.iconst 0, 1) := by decide +kernel
theorem d_X_putUnseenParts_56 : decode b_X_putUnseenParts 56 = .ok (.ireturn, 1) := by decide +kernel
theorem d_X_putUnseen_0 : decode b_X_putUnseen 0 = .ok (.aload_n 0, 1) := by decide +kernel
theorem d_X_putUnseen_1 : decode b_X_putUnseen 1 = .ok (.getfield 29, 3) := by decide +kernel
theorem d_X_putUnseen_4 : decode b_X_putUnseen 4 = .ok (.iload_n 1, 1) := by decide +kernel
theorem d_X_putUnseen_5 : decode b_X_putUnseen 5 = .ok (.iaload, 1) := by decide +kernel
theorem d_X_putUnseen_6 : decode b_X_putUnseen 6 = .ok (.ifCond .ne 11, 3) := by decide +kernel
theorem d_X_putUnseen_9 : decode b_X_putUnseen 9 = .ok (.aload_n 0, 1) := by decide +kernel
theorem d_X_putUnseen_10 : decode b_X_putUnseen 10 = .ok (.getfield 35, 3) := by decide +kernel
theorem d_X_putUnseen_13 : decode b_X_putUnseen 13 = .ok (.iload_n 1, 1) := by decide +kernel
theorem d_X_putUnseen_14 : decode b_X_putUnseen 14 = .ok (.invokevirtual 175, 3) := by decide +kernel
theorem d_X_putUnseen_17 : decode b_X_putUnseen 17 = .ok (.aload_n 0, 1) := by decide +kernel
theorem d_X_putUnseen_18 : decode b_X_putUnseen 18 = .ok (.getfield 29, 3) := by decide +kernel
theorem d_X_putUnseen_21 : decode b_X_putUnseen 21 = .ok (.iload_n 1, 1) := by decide +kernel
theorem d_X_putUnseen_22 : decode b_X_putUnseen 22 = .ok (.iaload, 1) := by decide +kernel
theorem d_X_putUnseen_23 : decode b_X_putUnseen 23 = .ok (.iconst 1, 1) := by decide +kernel
theorem d_X_putUnseen_24 : decode b_X_putUnseen 24 = .ok (.if_icmp .eq 7, 3) := by decide +kernel
theorem d_X_putUnseen_27 : decode b_X_putUnseen 27 = .ok (.iconst 1, 1) := by decide +kernel
theorem d_X_putUnseen_28 : decode b_X_putUnseen 28 = .ok (.goto 4, 3) := by decide +kernel
theorem d_X_putUnseen_31 : decode b_X_putUnseen 31 = .ok (.iconst 0, 1) := by decide +kernel
theorem d_X_putUnseen_32 : decode b_X_putUnseen 32 = .ok (.ireturn, 1) := by decide +kernel
theorem d_X_keepLinks_0 : decode b_X_keepLinks 0 = .ok (.aload_n 0, 1) := by decide +kernel
theorem d_X_keepLinks_1 : decode b_X_keepLinks 1 = .ok (.getfield 10, 3) := by decide +kernel
theorem d_X_keepLinks_4 : decode b_X_keepLinks 4 = .ok (.invokevirtual 116, 3) := by decide +kernel
theorem d_X_keepLinks_7 : decode b_X_keepLinks 7 = .ok (.aload_n 0, 1) := by decide +kernel
theorem d_X_keepLinks_8 : decode b_X_keepLinks 8 = .ok (.iconst 0, 1) := by decide +kernel
theorem d_X_keepLinks_9 : decode b_X_keepLinks 9 = .ok (.putfield 91, 3) := by decide +kernel
theorem d_X_keepLinks_12 : decode b_X_keepLinks 12 = .ok (.iconst 0, 1) := by decide +kernel
theorem d_X_keepLinks_13 : decode b_X_keepLinks 13 = .ok (.istore_n 1, 1) := by decide +kernel
theorem d_X_keepLinks_14 : decode b_X_keepLinks 14 = .ok (.iload_n 1, 1) := by decide +kernel
theorem d_X_keepLinks_15 : decode b_X_keepLinks 15 = .ok (.aload_n 0, 1) := by decide +kernel
theorem d_X_keepLinks_16 : decode b_X_keepLinks 16 = .ok (.getfield 178, 3) := by decide +kernel
theorem d_X_keepLinks_19 : decode b_X_keepLinks 19 = .ok (.if_icmp .ge 19, 3) := by decide +kernel
theorem d_X_keepLinks_22 : decode b_X_keepLinks 22 = .ok (.aload_n 0, 1) := by decide +kernel
theorem d_X_keepLinks_23 : decode b_X_keepLinks 23 = .ok (.aload_n 0, 1) := by decide +kernel
theorem d_X_keepLinks_24 : decode b_X_keepLinks 24 = .ok (.getfield 39, 3) := by decide +kernel
theorem d_X_keepLinks_27 : decode b_X_keepLinks 27 = .ok (.iload_n 1, 1) := by decide +kernel
theorem d_X_keepLinks_28 : decode b_X_keepLinks 28 = .ok (.iaload, 1) := by decide +kernel
theorem d_X_keepLinks_29 : decode b_X_keepLinks 29 = .ok (.invokevirtual 196, 3) := by decide +kernel
theorem d_X_keepLinks_32 : decode b_X_keepLinks 32 = .ok (.iinc 1 1, 3) := by decide +kernel
theorem d_X_keepLinks_35 : decode b_X_keepLinks 35 = .ok (.goto (-21), 3) := by decide +kernel
theorem d_X_keepLinks_38 : decode b_X_keepLinks 38 = .ok (.iconst 0, 1) := by decide +kernel
theorem d_X_keepLinks_39 : decode b_X_keepLinks 39 = .ok (.istore_n 1, 1) := by decide +kernel
theorem d_X_keepLinks_40 : decode b_X_keepLinks 40 = .ok (.iload_n 1, 1) := by decide +kernel
theorem d_X_keepLinks_41 : decode b_X_keepLinks 41 = .ok (.aload_n 0, 1) := by decide +kernel
theorem d_X_keepLinks_42 : decode b_X_keepLinks 42 = .ok (.getfield 101, 3) := by decide +kernel
theorem d_X_keepLinks_45 : decode b_X_keepLinks 45 = .ok (.if_icmp .ge 20, 3) := by decide +kernel
theorem d_X_keepLinks_48 : decode b_X_keepLinks 48 = .ok (.aload_n 0, 1) := by decide +kernel
theorem d_X_keepLinks_49 : decode b_X_keepLinks 49 = .ok (.getfield 16, 3) := by decide +kernel
theorem d_X_keepLinks_52 : decode b_X_keepLinks 52 = .ok (.iload_n 1, 1) := by decide +kernel
theorem d_X_keepLinks_53 : decode b_X_keepLinks 53 = .ok (.aload_n 0, 1) := by decide +kernel
theorem d_X_keepLinks_54 : decode b_X_keepLinks 54 = .ok (.iload_n 1, 1) := by decide +kernel
theorem d_X_keepLinks_55 : decode b_X_keepLinks 55 = .ok (.invokevirtual 166, 3) := by decide +kernel
theorem d_X_keepLinks_58 : decode b_X_keepLinks 58 = .ok (.iastore, 1) := by decide +kernel
theorem d_X_keepLinks_59 : decode b_X_keepLinks 59 = .ok (.iinc 1 1, 3) := by decide +kernel
theorem d_X_keepLinks_62 : decode b_X_keepLinks 62 = .ok (.goto (-22), 3) := by decide +kernel
theorem d_X_keepLinks_65 : decode b_X_keepLinks 65 = .ok (.aload_n 0, 1) := by decide +kernel
theorem d_X_keepLinks_66 : decode b_X_keepLinks 66 = .ok (.getfield 101, 3) := by decide +kernel
theorem d_X_keepLinks_69 : decode b_X_keepLinks 69 = .ok (.iconst 1, 1) := by decide +kernel
theorem d_X_keepLinks_70 : decode b_X_keepLinks 70 = .ok (.isub, 1) := by decide +kernel
theorem d_X_keepLinks_71 : decode b_X_keepLinks 71 = .ok (.istore_n 1, 1) := by decide +kernel
theorem d_X_keepLinks_72 : decode b_X_keepLinks 72 = .ok (.iload_n 1, 1) := by decide +kernel
theorem d_X_keepLinks_73 : decode b_X_keepLinks 73 = .ok (.ifCond .lt 21, 3) := by decide +kernel
theorem d_X_keepLinks_76 : decode b_X_keepLinks 76 = .ok (.aload_n 0, 1) := by decide +kernel
theorem d_X_keepLinks_77 : decode b_X_keepLinks 77 = .ok (.getfield 20, 3) := by decide +kernel
theorem d_X_keepLinks_80 : decode b_X_keepLinks 80 = .ok (.aload_n 0, 1) := by decide +kernel
theorem d_X_keepLinks_81 : decode b_X_keepLinks 81 = .ok (.getfield 16, 3) := by decide +kernel
theorem d_X_keepLinks_84 : decode b_X_keepLinks 84 = .ok (.iload_n 1, 1) := by decide +kernel
theorem d_X_keepLinks_85 : decode b_X_keepLinks 85 = .ok (.iaload, 1) := by decide +kernel
theorem d_X_keepLinks_86 : decode b_X_keepLinks 86 = .ok (.iload_n 1, 1) := by decide +kernel
theorem d_X_keepLinks_87 : decode b_X_keepLinks 87 = .ok (.iastore, 1) := by decide +kernel
theorem d_X_keepLinks_88 : decode b_X_keepLinks 88 = .ok (.iinc 1 (-1), 3) := by decide +kernel
theorem d_X_keepLinks_91 : decode b_X_keepLinks 91 = .ok (.goto (-19), 3) := by decide +kernel
theorem d_X_keepLinks_94 : decode b_X_keepLinks 94 = .ok (.return_, 1) := by decide +kernel
theorem d_X_keepRoot_0 : decode b_X_keepRoot 0 = .ok (.aload_n 0, 1) := by decide +kernel
theorem d_X_keepRoot_1 : decode b_X_keepRoot 1 = .ok (.getfield 10, 3) := by decide +kernel
theorem d_X_keepRoot_4 : decode b_X_keepRoot 4 = .ok (.iload_n 1, 1) := by decide +kernel
theorem d_X_keepRoot_5 : decode b_X_keepRoot 5 = .ok (.invokevirtual 78, 3) := by decide +kernel
theorem d_X_keepRoot_8 : decode b_X_keepRoot 8 = .ok (.ifCond .eq 76, 3) := by decide +kernel
theorem d_X_keepRoot_11 : decode b_X_keepRoot 11 = .ok (.aload_n 0, 1) := by decide +kernel
theorem d_X_keepRoot_12 : decode b_X_keepRoot 12 = .ok (.getfield 10, 3) := by decide +kernel
theorem d_X_keepRoot_15 : decode b_X_keepRoot 15 = .ok (.iload_n 1, 1) := by decide +kernel
theorem d_X_keepRoot_16 : decode b_X_keepRoot 16 = .ok (.aload_n 0, 1) := by decide +kernel
theorem d_X_keepRoot_17 : decode b_X_keepRoot 17 = .ok (.getfield 10, 3) := by decide +kernel
theorem d_X_keepRoot_20 : decode b_X_keepRoot 20 = .ok (.getfield 75, 3) := by decide +kernel
theorem d_X_keepRoot_23 : decode b_X_keepRoot 23 = .ok (.iload_n 1, 1) := by decide +kernel
theorem d_X_keepRoot_24 : decode b_X_keepRoot 24 = .ok (.iaload, 1) := by decide +kernel
theorem d_X_keepRoot_25 : decode b_X_keepRoot 25 = .ok (.aload_n 0, 1) := by decide +kernel
theorem d_X_keepRoot_26 : decode b_X_keepRoot 26 = .ok (.aload_n 0, 1) := by decide +kernel
theorem d_X_keepRoot_27 : decode b_X_keepRoot 27 = .ok (.getfield 10, 3) := by decide +kernel
theorem d_X_keepRoot_30 : decode b_X_keepRoot 30 = .ok (.getfield 88, 3) := by decide +kernel
theorem d_X_keepRoot_33 : decode b_X_keepRoot 33 = .ok (.iload_n 1, 1) := by decide +kernel
theorem d_X_keepRoot_34 : decode b_X_keepRoot 34 = .ok (.iaload, 1) := by decide +kernel
theorem d_X_keepRoot_35 : decode b_X_keepRoot 35 = .ok (.invokevirtual 166, 3) := by decide +kernel
theorem d_X_keepRoot_38 : decode b_X_keepRoot 38 = .ok (.aload_n 0, 1) := by decide +kernel
theorem d_X_keepRoot_39 : decode b_X_keepRoot 39 = .ok (.aload_n 0, 1) := by decide +kernel
theorem d_X_keepRoot_40 : decode b_X_keepRoot 40 = .ok (.getfield 10, 3) := by decide +kernel
theorem d_X_keepRoot_43 : decode b_X_keepRoot 43 = .ok (.getfield 85, 3) := by decide +kernel
theorem d_X_keepRoot_46 : decode b_X_keepRoot 46 = .ok (.iload_n 1, 1) := by decide +kernel
theorem d_X_keepRoot_47 : decode b_X_keepRoot 47 = .ok (.iaload, 1) := by decide +kernel
theorem d_X_keepRoot_48 : decode b_X_keepRoot 48 = .ok (.invokevirtual 166, 3) := by decide +kernel
theorem d_X_keepRoot_51 : decode b_X_keepRoot 51 = .ok (.invokevirtual 49, 3) := by decide +kernel
theorem d_X_keepRoot_54 : decode b_X_keepRoot 54 = .ok (.aload_n 0, 1) := by decide +kernel
theorem d_X_keepRoot_55 : decode b_X_keepRoot 55 = .ok (.getfield 10, 3) := by decide +kernel
theorem d_X_keepRoot_58 : decode b_X_keepRoot 58 = .ok (.iload_n 1, 1) := by decide +kernel
theorem d_X_keepRoot_59 : decode b_X_keepRoot 59 = .ok (.invokevirtual 122, 3) := by decide +kernel
theorem d_X_keepRoot_62 : decode b_X_keepRoot 62 = .ok (.istore_n 2, 1) := by decide +kernel
theorem d_X_keepRoot_63 : decode b_X_keepRoot 63 = .ok (.iload_n 2, 1) := by decide +kernel
theorem d_X_keepRoot_64 : decode b_X_keepRoot 64 = .ok (.iconst (-1), 1) := by decide +kernel
theorem d_X_keepRoot_65 : decode b_X_keepRoot 65 = .ok (.if_icmp .eq 11, 3) := by decide +kernel
theorem d_X_keepRoot_68 : decode b_X_keepRoot 68 = .ok (.aload_n 0, 1) := by decide +kernel
theorem d_X_keepRoot_69 : decode b_X_keepRoot 69 = .ok (.getfield 26, 3) := by decide +kernel
theorem d_X_keepRoot_72 : decode b_X_keepRoot 72 = .ok (.iload_n 1, 1) := by decide +kernel
theorem d_X_keepRoot_73 : decode b_X_keepRoot 73 = .ok (.iload_n 2, 1) := by decide +kernel
theorem d_X_keepRoot_74 : decode b_X_keepRoot 74 = .ok (.iastore, 1) := by decide +kernel
theorem d_X_keepRoot_75 : decode b_X_keepRoot 75 = .ok (.return_, 1) := by decide +kernel
theorem d_X_keepRoot_76 : decode b_X_keepRoot 76 = .ok (.aload_n 0, 1) := by decide +kernel
theorem d_X_keepRoot_77 : decode b_X_keepRoot 77 = .ok (.getfield 10, 3) := by decide +kernel
theorem d_X_keepRoot_80 : decode b_X_keepRoot 80 = .ok (.iload_n 1, 1) := by decide +kernel
theorem d_X_keepRoot_81 : decode b_X_keepRoot 81 = .ok (.invokevirtual 125, 3) := by decide +kernel
theorem d_X_keepRoot_84 : decode b_X_keepRoot 84 = .ok (.aload_n 0, 1) := by decide +kernel
theorem d_X_keepRoot_85 : decode b_X_keepRoot 85 = .ok (.getfield 23, 3) := by decide +kernel
theorem d_X_keepRoot_88 : decode b_X_keepRoot 88 = .ok (.aload_n 0, 1) := by decide +kernel
theorem d_X_keepRoot_89 : decode b_X_keepRoot 89 = .ok (.getfield 91, 3) := by decide +kernel
theorem d_X_keepRoot_92 : decode b_X_keepRoot 92 = .ok (.iload_n 1, 1) := by decide +kernel
theorem d_X_keepRoot_93 : decode b_X_keepRoot 93 = .ok (.iastore, 1) := by decide +kernel
theorem d_X_keepRoot_94 : decode b_X_keepRoot 94 = .ok (.aload_n 0, 1) := by decide +kernel
theorem d_X_keepRoot_95 : decode b_X_keepRoot 95 = .ok (.dup, 1) := by decide +kernel
theorem d_X_keepRoot_96 : decode b_X_keepRoot 96 = .ok (.getfield 91, 3) := by decide +kernel
theorem d_X_keepRoot_99 : decode b_X_keepRoot 99 = .ok (.iconst 1, 1) := by decide +kernel
theorem d_X_keepRoot_100 : decode b_X_keepRoot 100 = .ok (.iadd, 1) := by decide +kernel
theorem d_X_keepRoot_101 : decode b_X_keepRoot 101 = .ok (.putfield 91, 3) := by decide +kernel
theorem d_X_keepRoot_104 : decode b_X_keepRoot 104 = .ok (.return_, 1) := by decide +kernel
theorem d_X_matchAll_0 : decode b_X_matchAll 0 = .ok (.aload_n 0, 1) := by decide +kernel
theorem d_X_matchAll_1 : decode b_X_matchAll 1 = .ok (.getfield 26, 3) := by decide +kernel
theorem d_X_matchAll_4 : decode b_X_matchAll 4 = .ok (.iconst 0, 1) := by decide +kernel
theorem d_X_matchAll_5 : decode b_X_matchAll 5 = .ok (.aload_n 0, 1) := by decide +kernel
theorem d_X_matchAll_6 : decode b_X_matchAll 6 = .ok (.getfield 101, 3) := by decide +kernel
theorem d_X_matchAll_9 : decode b_X_matchAll 9 = .ok (.iconst (-1), 1) := by decide +kernel
theorem d_X_matchAll_10 : decode b_X_matchAll 10 = .ok (.invokestatic 104, 3) := by decide +kernel
theorem d_X_matchAll_13 : decode b_X_matchAll 13 = .ok (.aload_n 0, 1) := by decide +kernel
theorem d_X_matchAll_14 : decode b_X_matchAll 14 = .ok (.getfield 29, 3) := by decide +kernel
theorem d_X_matchAll_17 : decode b_X_matchAll 17 = .ok (.iconst 0, 1) := by decide +kernel
theorem d_X_matchAll_18 : decode b_X_matchAll 18 = .ok (.aload_n 0, 1) := by decide +kernel
theorem d_X_matchAll_19 : decode b_X_matchAll 19 = .ok (.getfield 101, 3) := by decide +kernel
theorem d_X_matchAll_22 : decode b_X_matchAll 22 = .ok (.iconst (-1), 1) := by decide +kernel
theorem d_X_matchAll_23 : decode b_X_matchAll 23 = .ok (.invokestatic 104, 3) := by decide +kernel
theorem d_X_matchAll_26 : decode b_X_matchAll 26 = .ok (.aload_n 0, 1) := by decide +kernel
theorem d_X_matchAll_27 : decode b_X_matchAll 27 = .ok (.getfield 35, 3) := by decide +kernel
theorem d_X_matchAll_30 : decode b_X_matchAll 30 = .ok (.iload_n 1, 1) := by decide +kernel
theorem d_X_matchAll_31 : decode b_X_matchAll 31 = .ok (.iload_n 2, 1) := by decide +kernel
theorem d_X_matchAll_32 : decode b_X_matchAll 32 = .ok (.invokevirtual 156, 3) := by decide +kernel
theorem d_X_matchAll_35 : decode b_X_matchAll 35 = .ok (.iconst 0, 1) := by decide +kernel
theorem d_X_matchAll_36 : decode b_X_matchAll 36 = .ok (.istore_n 3, 1) := by decide +kernel
theorem d_X_matchAll_37 : decode b_X_matchAll 37 = .ok (.iload_n 3, 1) := by decide +kernel
theorem d_X_matchAll_38 : decode b_X_matchAll 38 = .ok (.sipush 2000, 3) := by decide +kernel
theorem d_X_matchAll_41 : decode b_X_matchAll 41 = .ok (.if_icmp .gt 62, 3) := by decide +kernel
theorem d_X_matchAll_44 : decode b_X_matchAll 44 = .ok (.aload_n 0, 1) := by decide +kernel
theorem d_X_matchAll_45 : decode b_X_matchAll 45 = .ok (.getfield 35, 3) := by decide +kernel
theorem d_X_matchAll_48 : decode b_X_matchAll 48 = .ok (.getfield 160, 3) := by decide +kernel
theorem d_X_matchAll_51 : decode b_X_matchAll 51 = .ok (.ifCond .le 52, 3) := by decide +kernel
theorem d_X_matchAll_54 : decode b_X_matchAll 54 = .ok (.aload_n 0, 1) := by decide +kernel
theorem d_X_matchAll_55 : decode b_X_matchAll 55 = .ok (.getfield 35, 3) := by decide +kernel
theorem d_X_matchAll_58 : decode b_X_matchAll 58 = .ok (.invokevirtual 163, 3) := by decide +kernel
theorem d_X_matchAll_61 : decode b_X_matchAll 61 = .ok (.istore 4, 2) := by decide +kernel
theorem d_X_matchAll_63 : decode b_X_matchAll 63 = .ok (.aload_n 0, 1) := by decide +kernel
theorem d_X_matchAll_64 : decode b_X_matchAll 64 = .ok (.getfield 35, 3) := by decide +kernel
theorem d_X_matchAll_67 : decode b_X_matchAll 67 = .ok (.invokevirtual 163, 3) := by decide +kernel
theorem d_X_matchAll_70 : decode b_X_matchAll 70 = .ok (.istore 5, 2) := by decide +kernel
theorem d_X_matchAll_72 : decode b_X_matchAll 72 = .ok (.aload_n 0, 1) := by decide +kernel
theorem d_X_matchAll_73 : decode b_X_matchAll 73 = .ok (.getfield 26, 3) := by decide +kernel
theorem d_X_matchAll_76 : decode b_X_matchAll 76 = .ok (.iload 5, 2) := by decide +kernel
theorem d_X_matchAll_78 : decode b_X_matchAll 78 = .ok (.iaload, 1) := by decide +kernel
theorem d_X_matchAll_79 : decode b_X_matchAll 79 = .ok (.iload 4, 2) := by decide +kernel
theorem d_X_matchAll_81 : decode b_X_matchAll 81 = .ok (.if_icmp .eq 16, 3) := by decide +kernel
theorem d_X_matchAll_84 : decode b_X_matchAll 84 = .ok (.aload_n 0, 1) := by decide +kernel
theorem d_X_matchAll_85 : decode b_X_matchAll 85 = .ok (.iload 5, 2) := by decide +kernel
theorem d_X_matchAll_87 : decode b_X_matchAll 87 = .ok (.iload 4, 2) := by decide +kernel
theorem d_X_matchAll_89 : decode b_X_matchAll 89 = .ok (.invokevirtual 199, 3) := by decide +kernel
theorem d_X_matchAll_92 : decode b_X_matchAll 92 = .ok (.ifCond .ne 5, 3) := by decide +kernel
theorem d_X_matchAll_95 : decode b_X_matchAll 95 = .ok (.iconst 0, 1) := by decide +kernel
theorem d_X_matchAll_96 : decode b_X_matchAll 96 = .ok (.ireturn, 1) := by decide +kernel
theorem d_X_matchAll_97 : decode b_X_matchAll 97 = .ok (.iinc 3 1, 3) := by decide +kernel
theorem d_X_matchAll_100 : decode b_X_matchAll 100 = .ok (.goto (-63), 3) := by decide +kernel
theorem d_X_matchAll_103 : decode b_X_matchAll 103 = .ok (.iconst 1, 1) := by decide +kernel
theorem d_X_matchAll_104 : decode b_X_matchAll 104 = .ok (.ireturn, 1) := by decide +kernel
theorem d_X_matchTwo_0 : decode b_X_matchTwo 0 = .ok (.aload_n 0, 1) := by decide +kernel
theorem d_X_matchTwo_1 : decode b_X_matchTwo 1 = .ok (.getfield 26, 3) := by decide +kernel
theorem d_X_matchTwo_4 : decode b_X_matchTwo 4 = .ok (.iload_n 1, 1) := by decide +kernel
theorem d_X_matchTwo_5 : decode b_X_matchTwo 5 = .ok (.iaload, 1) := by decide +kernel
theorem d_X_matchTwo_6 : decode b_X_matchTwo 6 = .ok (.iconst (-1), 1) := by decide +kernel
theorem d_X_matchTwo_7 : decode b_X_matchTwo 7 = .ok (.if_icmp .ne 34, 3) := by decide +kernel
theorem d_X_matchTwo_10 : decode b_X_matchTwo 10 = .ok (.aload_n 0, 1) := by decide +kernel
theorem d_X_matchTwo_11 : decode b_X_matchTwo 11 = .ok (.getfield 29, 3) := by decide +kernel
theorem d_X_matchTwo_14 : decode b_X_matchTwo 14 = .ok (.iload_n 2, 1) := by decide +kernel
theorem d_X_matchTwo_15 : decode b_X_matchTwo 15 = .ok (.iaload, 1) := by decide +kernel
theorem d_X_matchTwo_16 : decode b_X_matchTwo 16 = .ok (.iconst (-1), 1) := by decide +kernel
theorem d_X_matchTwo_17 : decode b_X_matchTwo 17 = .ok (.if_icmp .ne 24, 3) := by decide +kernel
theorem d_X_matchTwo_20 : decode b_X_matchTwo 20 = .ok (.aload_n 0, 1) := by decide +kernel
theorem d_X_matchTwo_21 : decode b_X_matchTwo 21 = .ok (.getfield 10, 3) := by decide +kernel
theorem d_X_matchTwo_24 : decode b_X_matchTwo 24 = .ok (.getfield 75, 3) := by decide +kernel
theorem d_X_matchTwo_27 : decode b_X_matchTwo 27 = .ok (.iload_n 1, 1) := by decide +kernel
theorem d_X_matchTwo_28 : decode b_X_matchTwo 28 = .ok (.iaload, 1) := by decide +kernel
theorem d_X_matchTwo_29 : decode b_X_matchTwo 29 = .ok (.aload_n 0, 1) := by decide +kernel
theorem d_X_matchTwo_30 : decode b_X_matchTwo 30 = .ok (.getfield 10, 3) := by decide +kernel
theorem d_X_matchTwo_33 : decode b_X_matchTwo 33 = .ok (.getfield 75, 3) := by decide +kernel
theorem d_X_matchTwo_36 : decode b_X_matchTwo 36 = .ok (.iload_n 2, 1) := by decide +kernel
theorem d_X_matchTwo_37 : decode b_X_matchTwo 37 = .ok (.iaload, 1) := by decide +kernel
theorem d_X_matchTwo_38 : decode b_X_matchTwo 38 = .ok (.if_icmp .eq 5, 3) := by decide +kernel
theorem d_X_matchTwo_41 : decode b_X_matchTwo 41 = .ok (.iconst 0, 1) := by decide +kernel
theorem d_X_matchTwo_42 : decode b_X_matchTwo 42 = .ok (.ireturn, 1) := by decide +kernel
theorem d_X_matchTwo_43 : decode b_X_matchTwo 43 = .ok (.aload_n 0, 1) := by decide +kernel
theorem d_X_matchTwo_44 : decode b_X_matchTwo 44 = .ok (.getfield 26, 3) := by decide +kernel
theorem d_X_matchTwo_47 : decode b_X_matchTwo 47 = .ok (.iload_n 1, 1) := by decide +kernel
theorem d_X_matchTwo_48 : decode b_X_matchTwo 48 = .ok (.iload_n 2, 1) := by decide +kernel
theorem d_X_matchTwo_49 : decode b_X_matchTwo 49 = .ok (.iastore, 1) := by decide +kernel
theorem d_X_matchTwo_50 : decode b_X_matchTwo 50 = .ok (.aload_n 0, 1) := by decide +kernel
theorem d_X_matchTwo_51 : decode b_X_matchTwo 51 = .ok (.getfield 29, 3) := by decide +kernel
theorem d_X_matchTwo_54 : decode b_X_matchTwo 54 = .ok (.iload_n 2, 1) := by decide +kernel
theorem d_X_matchTwo_55 : decode b_X_matchTwo 55 = .ok (.iload_n 1, 1) := by decide +kernel
theorem d_X_matchTwo_56 : decode b_X_matchTwo 56 = .ok (.iastore, 1) := by decide +kernel
theorem d_X_matchTwo_57 : decode b_X_matchTwo 57 = .ok (.aload_n 0, 1) := by decide +kernel
theorem d_X_matchTwo_58 : decode b_X_matchTwo 58 = .ok (.iload_n 1, 1) := by decide +kernel
theorem d_X_matchTwo_59 : decode b_X_matchTwo 59 = .ok (.iload_n 2, 1) := by decide +kernel
theorem d_X_matchTwo_60 : decode b_X_matchTwo 60 = .ok (.invokevirtual 172, 3) := by decide +kernel
theorem d_X_matchTwo_63 : decode b_X_matchTwo 63 = .ok (.iconst 1, 1) := by decide +kernel
theorem d_X_matchTwo_64 : decode b_X_matchTwo 64 = .ok (.ireturn, 1) := by decide +kernel
theorem d_M_init_0 : decode b_M_init 0 = .ok (.aload_n 0, 1) := by decide +kernel
theorem d_M_init_1 : decode b_M_init 1 = .ok (.invokespecial 1, 3) := by decide +kernel
theorem d_M_init_4 : decode b_M_init 4 = .ok (.aload_n 0, 1) := by decide +kernel
theorem d_M_init_5 : decode b_M_init 5 = .ok (.iconst 0, 1) := by decide +kernel
theorem d_M_init_6 : decode b_M_init 6 = .ok (.putfield 7, 3) := by decide +kernel
theorem d_M_init_9 : decode b_M_init 9 = .ok (.aload_n 0, 1) := by decide +kernel
theorem d_M_init_10 : decode b_M_init 10 = .ok (.sipush 1000, 3) := by decide +kernel
theorem d_M_init_13 : decode b_M_init 13 = .ok (.newarray .int, 2) := by decide +kernel
theorem d_M_init_15 : decode b_M_init 15 = .ok (.putfield 13, 3) := by decide +kernel
theorem d_M_init_18 : decode b_M_init 18 = .ok (.aload_n 0, 1) := by decide +kernel
theorem d_M_init_19 : decode b_M_init 19 = .ok (.sipush 1000, 3) := by decide +kernel
theorem d_M_init_22 : decode b_M_init 22 = .ok (.newarray .int, 2) := by decide +kernel
theorem d_M_init_24 : decode b_M_init 24 = .ok (.putfield 17, 3) := by decide +kernel
theorem d_M_init_27 : decode b_M_init 27 = .ok (.aload_n 0, 1) := by decide +kernel
theorem d_M_init_28 : decode b_M_init 28 = .ok (.sipush 1000, 3) := by decide +kernel
theorem d_M_init_31 : decode b_M_init 31 = .ok (.newarray .int, 2) := by decide +kernel
theorem d_M_init_33 : decode b_M_init 33 = .ok (.putfield 20, 3) := by decide +kernel
theorem d_M_init_36 : decode b_M_init 36 = .ok (.aload_n 0, 1) := by decide +kernel
theorem d_M_init_37 : decode b_M_init 37 = .ok (.sipush 1000, 3) := by decide +kernel
theorem d_M_init_40 : decode b_M_init 40 = .ok (.newarray .int, 2) := by decide +kernel
theorem d_M_init_42 : decode b_M_init 42 = .ok (.putfield 23, 3) := by decide +kernel
theorem d_M_init_45 : decode b_M_init 45 = .ok (.aload_n 0, 1) := by decide +kernel
theorem d_M_init_46 : decode b_M_init 46 = .ok (.sipush 1000, 3) := by decide +kernel
theorem d_M_init_49 : decode b_M_init 49 = .ok (.newarray .int, 2) := by decide +kernel
theorem d_M_init_51 : decode b_M_init 51 = .ok (.putfield 26, 3) := by decide +kernel
theorem d_M_init_54 : decode b_M_init 54 = .ok (.aload_n 0, 1) := by decide +kernel
theorem d_M_init_55 : decode b_M_init 55 = .ok (.iconst 0, 1) := by decide +kernel
theorem d_M_init_56 : decode b_M_init 56 = .ok (.putfield 29, 3) := by decide +kernel
theorem d_M_init_59 : decode b_M_init 59 = .ok (.aload_n 0, 1) := by decide +kernel
theorem d_M_init_60 : decode b_M_init 60 = .ok (.sipush 1000, 3) := by decide +kernel
theorem d_M_init_63 : decode b_M_init 63 = .ok (.newarray .int, 2) := by decide +kernel
theorem d_M_init_65 : decode b_M_init 65 = .ok (.putfield 32, 3) := by decide +kernel
theorem d_M_init_68 : decode b_M_init 68 = .ok (.aload_n 0, 1) := by decide +kernel
theorem d_M_init_69 : decode b_M_init 69 = .ok (.sipush 1000, 3) := by decide +kernel
theorem d_M_init_72 : decode b_M_init 72 = .ok (.newarray .int, 2) := by decide +kernel
theorem d_M_init_74 : decode b_M_init 74 = .ok (.putfield 35, 3) := by decide +kernel
theorem d_M_init_77 : decode b_M_init 77 = .ok (.aload_n 0, 1) := by decide +kernel
theorem d_M_init_78 : decode b_M_init 78 = .ok (.sipush 1000, 3) := by decide +kernel
theorem d_M_init_81 : decode b_M_init 81 = .ok (.newarray .int, 2) := by decide +kernel
theorem d_M_init_83 : decode b_M_init 83 = .ok (.putfield 38, 3) := by decide +kernel
theorem d_M_init_86 : decode b_M_init 86 = .ok (.aload_n 0, 1) := by decide +kernel
theorem d_M_init_87 : decode b_M_init 87 = .ok (.sipush 1000, 3) := by decide +kernel
theorem d_M_init_90 : decode b_M_init 90 = .ok (.newarray .int, 2) := by decide +kernel
theorem d_M_init_92 : decode b_M_init 92 = .ok (.putfield 41, 3) := by decide +kernel
theorem d_M_init_95 : decode b_M_init 95 = .ok (.aload_n 0, 1) := by decide +kernel
theorem d_M_init_96 : decode b_M_init 96 = .ok (.sipush 1000, 3) := by decide +kernel
theorem d_M_init_99 : decode b_M_init 99 = .ok (.newarray .int, 2) := by decide +kernel
theorem d_M_init_101 : decode b_M_init 101 = .ok (.putfield 44, 3) := by decide +kernel
theorem d_M_init_104 : decode b_M_init 104 = .ok (.aload_n 0, 1) := by decide +kernel
theorem d_M_init_105 : decode b_M_init 105 = .ok (.iconst 0, 1) := by decide +kernel
theorem d_M_init_106 : decode b_M_init 106 = .ok (.putfield 47, 3) := by decide +kernel
theorem d_M_init_109 : decode b_M_init 109 = .ok (.aload_n 0, 1) := by decide +kernel
theorem d_M_init_110 : decode b_M_init 110 = .ok (.iconst 0, 1) := by decide +kernel
theorem d_M_init_111 : decode b_M_init 111 = .ok (.putfield 50, 3) := by decide +kernel
theorem d_M_init_114 : decode b_M_init 114 = .ok (.aload_n 0, 1) := by decide +kernel
theorem d_M_init_115 : decode b_M_init 115 = .ok (.sipush 1000, 3) := by decide +kernel
theorem d_M_init_118 : decode b_M_init 118 = .ok (.newarray .int, 2) := by decide +kernel
theorem d_M_init_120 : decode b_M_init 120 = .ok (.putfield 54, 3) := by decide +kernel
theorem d_M_init_123 : decode b_M_init 123 = .ok (.aload_n 0, 1) := by decide +kernel
theorem d_M_init_124 : decode b_M_init 124 = .ok (.sipush 1000, 3) := by decide +kernel
theorem d_M_init_127 : decode b_M_init 127 = .ok (.newarray .int, 2) := by decide +kernel
theorem d_M_init_129 : decode b_M_init 129 = .ok (.putfield 57, 3) := by decide +kernel
theorem d_M_init_132 : decode b_M_init 132 = .ok (.aload_n 0, 1) := by decide +kernel
theorem d_M_init_133 : decode b_M_init 133 = .ok (.sipush 1000, 3) := by decide +kernel
theorem d_M_init_136 : decode b_M_init 136 = .ok (.newarray .int, 2) := by decide +kernel
theorem d_M_init_138 : decode b_M_init 138 = .ok (.putfield 60, 3) := by decide +kernel
theorem d_M_init_141 : decode b_M_init 141 = .ok (.aload_n 0, 1) := by decide +kernel
theorem d_M_init_142 : decode b_M_init 142 = .ok (.sipush 1000, 3) := by decide +kernel
theorem d_M_init_145 : decode b_M_init 145 = .ok (.newarray .int, 2) := by decide +kernel
theorem d_M_init_147 : decode b_M_init 147 = .ok (.putfield 63, 3) := by decide +kernel
theorem d_M_init_150 : decode b_M_init 150 = .ok (.aload_n 0, 1) := by decide +kernel
theorem d_M_init_151 : decode b_M_init 151 = .ok (.invokevirtual 66, 3) := by decide +kernel
theorem d_M_init_154 : decode b_M_init 154 = .ok (.return_, 1) := by decide +kernel
theorem d_M_begin_0 : decode b_M_begin 0 = .ok (.aload_n 0, 1) := by decide +kernel
theorem d_M_begin_1 : decode b_M_begin 1 = .ok (.iconst 0, 1) := by decide +kernel
theorem d_M_begin_2 : decode b_M_begin 2 = .ok (.putfield 29, 3) := by decide +kernel
theorem d_M_begin_5 : decode b_M_begin 5 = .ok (.aload_n 0, 1) := by decide +kernel
theorem d_M_begin_6 : decode b_M_begin 6 = .ok (.iconst 1, 1) := by decide +kernel
theorem d_M_begin_7 : decode b_M_begin 7 = .ok (.iconst (-1), 1) := by decide +kernel
theorem d_M_begin_8 : decode b_M_begin 8 = .ok (.iconst (-1), 1) := by decide +kernel
theorem d_M_begin_9 : decode b_M_begin 9 = .ok (.invokevirtual 69, 3) := by decide +kernel
theorem d_M_begin_12 : decode b_M_begin 12 = .ok (.pop, 1) := by decide +kernel
theorem d_M_begin_13 : decode b_M_begin 13 = .ok (.return_, 1) := by decide +kernel
theorem d_M_make_0 : decode b_M_make 0 = .ok (.aload_n 0, 1) := by decide +kernel
theorem d_M_make_1 : decode b_M_make 1 = .ok (.getfield 13, 3) := by decide +kernel
theorem d_M_make_4 : decode b_M_make 4 = .ok (.aload_n 0, 1) := by decide +kernel
theorem d_M_make_5 : decode b_M_make 5 = .ok (.getfield 29, 3) := by decide +kernel
theorem d_M_make_8 : decode b_M_make 8 = .ok (.iload_n 1, 1) := by decide +kernel
theorem d_M_make_9 : decode b_M_make 9 = .ok (.iastore, 1) := by decide +kernel
theorem d_M_make_10 : decode b_M_make 10 = .ok (.aload_n 0, 1) := by decide +kernel
theorem d_M_make_11 : decode b_M_make 11 = .ok (.getfield 17, 3) := by decide +kernel
theorem d_M_make_14 : decode b_M_make 14 = .ok (.aload_n 0, 1) := by decide +kernel
theorem d_M_make_15 : decode b_M_make 15 = .ok (.getfield 29, 3) := by decide +kernel
theorem d_M_make_18 : decode b_M_make 18 = .ok (.iload_n 2, 1) := by decide +kernel
theorem d_M_make_19 : decode b_M_make 19 = .ok (.iastore, 1) := by decide +kernel
theorem d_M_make_20 : decode b_M_make 20 = .ok (.aload_n 0, 1) := by decide +kernel
theorem d_M_make_21 : decode b_M_make 21 = .ok (.getfield 20, 3) := by decide +kernel
theorem d_M_make_24 : decode b_M_make 24 = .ok (.aload_n 0, 1) := by decide +kernel
theorem d_M_make_25 : decode b_M_make 25 = .ok (.getfield 29, 3) := by decide +kernel
theorem d_M_make_28 : decode b_M_make 28 = .ok (.iload_n 3, 1) := by decide +kernel
theorem d_M_make_29 : decode b_M_make 29 = .ok (.iastore, 1) := by decide +kernel
theorem d_M_make_30 : decode b_M_make 30 = .ok (.aload_n 0, 1) := by decide +kernel
theorem d_M_make_31 : decode b_M_make 31 = .ok (.getfield 23, 3) := by decide +kernel
theorem d_M_make_34 : decode b_M_make 34 = .ok (.aload_n 0, 1) := by decide +kernel
theorem d_M_make_35 : decode b_M_make 35 = .ok (.getfield 29, 3) := by decide +kernel
theorem d_M_make_38 : decode b_M_make 38 = .ok (.aload_n 0, 1) := by decide +kernel
theorem d_M_make_39 : decode b_M_make 39 = .ok (.getfield 29, 3) := by decide +kernel
theorem d_M_make_42 : decode b_M_make 42 = .ok (.iastore, 1) := by decide +kernel
theorem d_M_make_43 : decode b_M_make 43 = .ok (.aload_n 0, 1) := by decide +kernel
theorem d_M_make_44 : decode b_M_make 44 = .ok (.dup, 1) := by decide +kernel
theorem d_M_make_45 : decode b_M_make 45 = .ok (.getfield 29, 3) := by decide +kernel
theorem d_M_make_48 : decode b_M_make 48 = .ok (.iconst 1, 1) := by decide +kernel
theorem d_M_make_49 : decode b_M_make 49 = .ok (.iadd, 1) := by decide +kernel
theorem d_M_make_50 : decode b_M_make 50 = .ok (.putfield 29, 3) := by decide +kernel
theorem d_M_make_53 : decode b_M_make 53 = .ok (.aload_n 0, 1) := by decide +kernel
theorem d_M_make_54 : decode b_M_make 54 = .ok (.iconst 0, 1) := by decide +kernel
theorem d_M_make_55 : decode b_M_make 55 = .ok (.putfield 50, 3) := by decide +kernel
theorem d_M_make_58 : decode b_M_make 58 = .ok (.aload_n 0, 1) := by decide +kernel
theorem d_M_make_59 : decode b_M_make 59 = .ok (.getfield 29, 3) := by decide +kernel
theorem d_M_make_62 : decode b_M_make 62 = .ok (.iconst 1, 1) := by decide +kernel
theorem d_M_make_63 : decode b_M_make 63 = .ok (.isub, 1) := by decide +kernel
theorem d_M_make_64 : decode b_M_make 64 = .ok (.ireturn, 1) := by decide +kernel
theorem d_M_thrown_0 : decode b_M_thrown 0 = .ok (.aload_n 0, 1) := by decide +kernel
theorem d_M_thrown_1 : decode b_M_thrown 1 = .ok (.getfield 7, 3) := by decide +kernel
theorem d_M_thrown_4 : decode b_M_thrown 4 = .ok (.ireturn, 1) := by decide +kernel
theorem d_M_refuse_0 : decode b_M_refuse 0 = .ok (.iload_n 2, 1) := by decide +kernel
theorem d_M_refuse_1 : decode b_M_refuse 1 = .ok (.ifCond .eq 8, 3) := by decide +kernel
theorem d_M_refuse_4 : decode b_M_refuse 4 = .ok (.aload_n 0, 1) := by decide +kernel
theorem d_M_refuse_5 : decode b_M_refuse 5 = .ok (.iload_n 1, 1) := by decide +kernel
theorem d_M_refuse_6 : decode b_M_refuse 6 = .ok (.putfield 7, 3) := by decide +kernel
theorem d_M_refuse_9 : decode b_M_refuse 9 = .ok (.iload_n 2, 1) := by decide +kernel
theorem d_M_refuse_10 : decode b_M_refuse 10 = .ok (.ireturn, 1) := by decide +kernel
theorem d_M_none_0 : decode b_M_none 0 = .ok (.aload_n 0, 1) := by decide +kernel
theorem d_M_none_1 : decode b_M_none 1 = .ok (.iconst 0, 1) := by decide +kernel
theorem d_M_none_2 : decode b_M_none 2 = .ok (.putfield 7, 3) := by decide +kernel
theorem d_M_none_5 : decode b_M_none 5 = .ok (.aload_n 0, 1) := by decide +kernel
theorem d_M_none_6 : decode b_M_none 6 = .ok (.iconst 1, 1) := by decide +kernel
theorem d_M_none_7 : decode b_M_none 7 = .ok (.iload_n 1, 1) := by decide +kernel
theorem d_M_none_8 : decode b_M_none 8 = .ok (.ifCond .lt 11, 3) := by decide +kernel
theorem d_M_none_11 : decode b_M_none 11 = .ok (.iload_n 1, 1) := by decide +kernel
theorem d_M_none_12 : decode b_M_none 12 = .ok (.aload_n 0, 1) := by decide +kernel
theorem d_M_none_13 : decode b_M_none 13 = .ok (.getfield 29, 3) := by decide +kernel
theorem d_M_none_16 : decode b_M_none 16 = .ok (.if_icmp .lt 7, 3) := by decide +kernel
theorem d_M_none_19 : decode b_M_none 19 = .ok (.iconst 1, 1) := by decide +kernel
theorem d_M_none_20 : decode b_M_none 20 = .ok (.goto 4, 3) := by decide +kernel
theorem d_M_none_23 : decode b_M_none 23 = .ok (.iconst 0, 1) := by decide +kernel
theorem d_M_none_24 : decode b_M_none 24 = .ok (.invokevirtual 73, 3) := by decide +kernel
theorem d_M_none_27 : decode b_M_none 27 = .ok (.ireturn, 1) := by decide +kernel
theorem d_M_unknown_0 : decode b_M_unknown 0 = .ok (.aload_n 0, 1) := by decide +kernel
theorem d_M_unknown_1 : decode b_M_unknown 1 = .ok (.iload_n 1, 1) := by decide +kernel
theorem d_M_unknown_2 : decode b_M_unknown 2 = .ok (.invokevirtual 77, 3) := by decide +kernel
theorem d_M_unknown_5 : decode b_M_unknown 5 = .ok (.ifCond .eq 5, 3) := by decide +kernel
theorem d_M_unknown_8 : decode b_M_unknown 8 = .ok (.iconst 1, 1) := by decide +kernel
theorem d_M_unknown_9 : decode b_M_unknown 9 = .ok (.ireturn, 1) := by decide +kernel
theorem d_M_unknown_10 : decode b_M_unknown 10 = .ok (.aload_n 0, 1) := by decide +kernel
theorem d_M_unknown_11 : decode b_M_unknown 11 = .ok (.invokevirtual 81, 3) := by decide +kernel
theorem d_M_unknown_14 : decode b_M_unknown 14 = .ok (.iconst 0, 1) := by decide +kernel
theorem d_M_unknown_15 : decode b_M_unknown 15 = .ok (.ireturn, 1) := by decide +kernel
theorem d_M_is_0 : decode b_M_is 0 = .ok (.iload_n 1, 1) := by decide +kernel
theorem d_M_is_1 : decode b_M_is 1 = .ok (.istore_n 2, 1) := by decide +kernel
theorem d_M_is_2 : decode b_M_is 2 = .ok (.aload_n 0, 1) := by decide +kernel
theorem d_M_is_3 : decode b_M_is 3 = .ok (.getfield 23, 3) := by decide +kernel
theorem d_M_is_6 : decode b_M_is 6 = .ok (.iload_n 2, 1) := by decide +kernel
theorem d_M_is_7 : decode b_M_is 7 = .ok (.iaload, 1) := by decide +kernel
theorem d_M_is_8 : decode b_M_is 8 = .ok (.iload_n 2, 1) := by decide +kernel
theorem d_M_is_9 : decode b_M_is 9 = .ok (.if_icmp .eq 13, 3) := by decide +kernel
theorem d_M_is_12 : decode b_M_is 12 = .ok (.aload_n 0, 1) := by decide +kernel
theorem d_M_is_13 : decode b_M_is 13 = .ok (.getfield 23, 3) := by decide +kernel
theorem d_M_is_16 : decode b_M_is 16 = .ok (.iload_n 2, 1) := by decide +kernel
theorem d_M_is_17 : decode b_M_is 17 = .ok (.iaload, 1) := by decide +kernel
theorem d_M_is_18 : decode b_M_is 18 = .ok (.istore_n 2, 1) := by decide +kernel
theorem d_M_is_19 : decode b_M_is 19 = .ok (.goto (-17), 3) := by decide +kernel
theorem d_M_is_22 : decode b_M_is 22 = .ok (.iload_n 2, 1) := by decide +kernel
theorem d_M_is_23 : decode b_M_is 23 = .ok (.ireturn, 1) := by decide +kernel
theorem d_M_number_0 : decode b_M_number 0 = .ok (.aload_n 0, 1) := by decide +kernel
theorem d_M_number_1 : decode b_M_number 1 = .ok (.getfield 50, 3) := by decide +kernel
theorem d_M_number_4 : decode b_M_number 4 = .ok (.ifCond .eq 4, 3) := by decide +kernel
theorem d_M_number_7 : decode b_M_number 7 = .ok (.return_, 1) := by decide +kernel
theorem d_M_number_8 : decode b_M_number 8 = .ok (.aload_n 0, 1) := by decide +kernel
theorem d_M_number_9 : decode b_M_number 9 = .ok (.iconst 1, 1) := by decide +kernel
theorem d_M_number_10 : decode b_M_number 10 = .ok (.putfield 50, 3) := by decide +kernel
theorem d_M_number_13 : decode b_M_number 13 = .ok (.aload_n 0, 1) := by decide +kernel
theorem d_M_number_14 : decode b_M_number 14 = .ok (.iconst 0, 1) := by decide +kernel
theorem d_M_number_15 : decode b_M_number 15 = .ok (.putfield 47, 3) := by decide +kernel
theorem d_M_number_18 : decode b_M_number 18 = .ok (.iconst 0, 1) := by decide +kernel
theorem d_M_number_19 : decode b_M_number 19 = .ok (.istore_n 1, 1) := by decide +kernel
theorem d_M_number_20 : decode b_M_number 20 = .ok (.iload_n 1, 1) := by decide +kernel
theorem d_M_number_21 : decode b_M_number 21 = .ok (.aload_n 0, 1) := by decide +kernel
theorem d_M_number_22 : decode b_M_number 22 = .ok (.getfield 29, 3) := by decide +kernel
theorem d_M_number_25 : decode b_M_number 25 = .ok (.if_icmp .ge 16, 3) := by decide +kernel
theorem d_M_number_28 : decode b_M_number 28 = .ok (.aload_n 0, 1) := by decide +kernel
theorem d_M_number_29 : decode b_M_number 29 = .ok (.getfield 32, 3) := by decide +kernel
theorem d_M_number_32 : decode b_M_number 32 = .ok (.iload_n 1, 1) := by decide +kernel
theorem d_M_number_33 : decode b_M_number 33 = .ok (.iconst (-1), 1) := by decide +kernel
theorem d_M_number_34 : decode b_M_number 34 = .ok (.iastore, 1) := by decide +kernel
theorem d_M_number_35 : decode b_M_number 35 = .ok (.iinc 1 1, 3) := by decide +kernel
theorem d_M_number_38 : decode b_M_number 38 = .ok (.goto (-18), 3) := by decide +kernel
theorem d_M_number_41 : decode b_M_number 41 = .ok (.iconst 0, 1) := by decide +kernel
theorem d_M_number_42 : decode b_M_number 42 = .ok (.istore_n 1, 1) := by decide +kernel
theorem d_M_number_43 : decode b_M_number 43 = .ok (.iload_n 1, 1) := by decide +kernel
theorem d_M_number_44 : decode b_M_number 44 = .ok (.aload_n 0, 1) := by decide +kernel
theorem d_M_number_45 : decode b_M_number 45 = .ok (.getfield 29, 3) := by decide +kernel
theorem d_M_number_48 : decode b_M_number 48 = .ok (.if_icmp .ge 31, 3) := by decide +kernel
theorem d_M_number_51 : decode b_M_number 51 = .ok (.aload_n 0, 1) := by decide +kernel
theorem d_M_number_52 : decode b_M_number 52 = .ok (.iload_n 1, 1) := by decide +kernel
theorem d_M_number_53 : decode b_M_number 53 = .ok (.invokevirtual 84, 3) := by decide +kernel
theorem d_M_number_56 : decode b_M_number 56 = .ok (.istore_n 2, 1) := by decide +kernel
theorem d_M_number_57 : decode b_M_number 57 = .ok (.aload_n 0, 1) := by decide +kernel
theorem d_M_number_58 : decode b_M_number 58 = .ok (.getfield 44, 3) := by decide +kernel
theorem d_M_number_61 : decode b_M_number 61 = .ok (.iload_n 2, 1) := by decide +kernel
theorem d_M_number_62 : decode b_M_number 62 = .ok (.iaload, 1) := by decide +kernel
theorem d_M_number_63 : decode b_M_number 63 = .ok (.ifCond .ge 10, 3) := by decide +kernel
theorem d_M_number_66 : decode b_M_number 66 = .ok (.aload_n 0, 1) := by decide +kernel
theorem d_M_number_67 : decode b_M_number 67 = .ok (.getfield 44, 3) := by decide +kernel
theorem d_M_number_70 : decode b_M_number 70 = .ok (.iload_n 2, 1) := by decide +kernel
theorem d_M_number_71 : decode b_M_number 71 = .ok (.iload_n 1, 1) := by decide +kernel
theorem d_M_number_72 : decode b_M_number 72 = .ok (.iastore, 1) := by decide +kernel
theorem d_M_number_73 : decode b_M_number 73 = .ok (.iinc 1 1, 3) := by decide +kernel
theorem d_M_number_76 : decode b_M_number 76 = .ok (.goto (-33), 3) := by decide +kernel
theorem d_M_number_79 : decode b_M_number 79 = .ok (.return_, 1) := by decide +kernel
theorem d_M_numbered_0 : decode b_M_numbered 0 = .ok (.aload_n 0, 1) := by decide +kernel
theorem d_M_numbered_1 : decode b_M_numbered 1 = .ok (.iload_n 1, 1) := by decide +kernel
theorem d_M_numbered_2 : decode b_M_numbered 2 = .ok (.invokevirtual 88, 3) := by decide +kernel
theorem d_M_numbered_5 : decode b_M_numbered 5 = .ok (.istore_n 2, 1) := by decide +kernel
theorem d_M_numbered_6 : decode b_M_numbered 6 = .ok (.aload_n 0, 1) := by decide +kernel
theorem d_M_numbered_7 : decode b_M_numbered 7 = .ok (.getfield 32, 3) := by decide +kernel
theorem d_M_numbered_10 : decode b_M_numbered 10 = .ok (.iload_n 2, 1) := by decide +kernel
theorem d_M_numbered_11 : decode b_M_numbered 11 = .ok (.iaload, 1) := by decide +kernel
theorem d_M_numbered_12 : decode b_M_numbered 12 = .ok (.ifCond .ge 198, 3) := by decide +kernel
theorem d_M_numbered_15 : decode b_M_numbered 15 = .ok (.aload_n 0, 1) := by decide +kernel
theorem d_M_numbered_16 : decode b_M_numbered 16 = .ok (.getfield 13, 3) := by decide +kernel
theorem d_M_numbered_19 : decode b_M_numbered 19 = .ok (.iload_n 2, 1) := by decide +kernel
theorem d_M_numbered_20 : decode b_M_numbered 20 = .ok (.iaload, 1) := by decide +kernel
theorem d_M_numbered_21 : decode b_M_numbered 21 = .ok (.ifCond .ne 7, 3) := by decide +kernel
theorem d_M_numbered_24 : decode b_M_numbered 24 = .ok (.iload_n 2, 1) := by decide +kernel
theorem d_M_numbered_25 : decode b_M_numbered 25 = .ok (.goto 27, 3) := by decide +kernel
theorem d_M_numbered_28 : decode b_M_numbered 28 = .ok (.aload_n 0, 1) := by decide +kernel
theorem d_M_numbered_29 : decode b_M_numbered 29 = .ok (.getfield 13, 3) := by decide +kernel
theorem d_M_numbered_32 : decode b_M_numbered 32 = .ok (.iload_n 2, 1) := by decide +kernel
theorem d_M_numbered_33 : decode b_M_numbered 33 = .ok (.iaload, 1) := by decide +kernel
theorem d_M_numbered_34 : decode b_M_numbered 34 = .ok (.iconst 1, 1) := by decide +kernel
theorem d_M_numbered_35 : decode b_M_numbered 35 = .ok (.if_icmp .ne 7, 3) := by decide +kernel
theorem d_M_numbered_38 : decode b_M_numbered 38 = .ok (.iconst (-1), 1) := by decide +kernel
theorem d_M_numbered_39 : decode b_M_numbered 39 = .ok (.goto 13, 3) := by decide +kernel
theorem d_M_numbered_42 : decode b_M_numbered 42 = .ok (.aload_n 0, 1) := by decide +kernel
theorem d_M_numbered_43 : decode b_M_numbered 43 = .ok (.aload_n 0, 1) := by decide +kernel
theorem d_M_numbered_44 : decode b_M_numbered 44 = .ok (.getfield 17, 3) := by decide +kernel
theorem d_M_numbered_47 : decode b_M_numbered 47 = .ok (.iload_n 2, 1) := by decide +kernel
theorem d_M_numbered_48 : decode b_M_numbered 48 = .ok (.iaload, 1) := by decide +kernel
theorem d_M_numbered_49 : decode b_M_numbered 49 = .ok (.invokevirtual 84, 3) := by decide +kernel
theorem d_M_numbered_52 : decode b_M_numbered 52 = .ok (.istore_n 3, 1) := by decide +kernel
theorem d_M_numbered_53 : decode b_M_numbered 53 = .ok (.aload_n 0, 1) := by decide +kernel
theorem d_M_numbered_54 : decode b_M_numbered 54 = .ok (.getfield 13, 3) := by decide +kernel
theorem d_M_numbered_57 : decode b_M_numbered 57 = .ok (.iload_n 2, 1) := by decide +kernel
theorem d_M_numbered_58 : decode b_M_numbered 58 = .ok (.iaload, 1) := by decide +kernel
theorem d_M_numbered_59 : decode b_M_numbered 59 = .ok (.ifCond .eq 13, 3) := by decide +kernel
theorem d_M_numbered_62 : decode b_M_numbered 62 = .ok (.aload_n 0, 1) := by decide +kernel
theorem d_M_numbered_63 : decode b_M_numbered 63 = .ok (.getfield 13, 3) := by decide +kernel
theorem d_M_numbered_66 : decode b_M_numbered 66 = .ok (.iload_n 2, 1) := by decide +kernel
theorem d_M_numbered_67 : decode b_M_numbered 67 = .ok (.iaload, 1) := by decide +kernel
theorem d_M_numbered_68 : decode b_M_numbered 68 = .ok (.iconst 1, 1) := by decide +kernel
theorem d_M_numbered_69 : decode b_M_numbered 69 = .ok (.if_icmp .ne 7, 3) := by decide +kernel
theorem d_M_numbered_72 : decode b_M_numbered 72 = .ok (.iconst (-1), 1) := by decide +kernel
theorem d_M_numbered_73 : decode b_M_numbered 73 = .ok (.goto 13, 3) := by decide +kernel
theorem d_M_numbered_76 : decode b_M_numbered 76 = .ok (.aload_n 0, 1) := by decide +kernel
theorem d_M_numbered_77 : decode b_M_numbered 77 = .ok (.aload_n 0, 1) := by decide +kernel
theorem d_M_numbered_78 : decode b_M_numbered 78 = .ok (.getfield 20, 3) := by decide +kernel
theorem d_M_numbered_81 : decode b_M_numbered 81 = .ok (.iload_n 2, 1) := by decide +kernel
theorem d_M_numbered_82 : decode b_M_numbered 82 = .ok (.iaload, 1) := by decide +kernel
theorem d_M_numbered_83 : decode b_M_numbered 83 = .ok (.invokevirtual 84, 3) := by decide +kernel
theorem d_M_numbered_86 : decode b_M_numbered 86 = .ok (.istore 4, 2) := by decide +kernel
theorem d_M_numbered_88 : decode b_M_numbered 88 = .ok (.iconst 0, 1) := by decide +kernel
theorem d_M_numbered_89 : decode b_M_numbered 89 = .ok (.istore 5, 2) := by decide +kernel
theorem d_M_numbered_91 : decode b_M_numbered 91 = .ok (.iload 5, 2) := by decide +kernel
theorem d_M_numbered_93 : decode b_M_numbered 93 = .ok (.aload_n 0, 1) := by decide +kernel
theorem d_M_numbered_94 : decode b_M_numbered 94 = .ok (.getfield 47, 3) := by decide +kernel
theorem d_M_numbered_97 : decode b_M_numbered 97 = .ok (.if_icmp .ge 48, 3) := by decide +kernel
theorem d_M_numbered_100 : decode b_M_numbered 100 = .ok (.aload_n 0, 1) := by decide +kernel
theorem d_M_numbered_101 : decode b_M_numbered 101 = .ok (.getfield 35, 3) := by decide +kernel
theorem d_M_numbered_104 : decode b_M_numbered 104 = .ok (.iload 5, 2) := by decide +kernel
theorem d_M_numbered_106 : decode b_M_numbered 106 = .ok (.iaload, 1) := by decide +kernel
theorem d_M_numbered_107 : decode b_M_numbered 107 = .ok (.aload_n 0, 1) := by decide +kernel
theorem d_M_numbered_108 : decode b_M_numbered 108 = .ok (.getfield 13, 3) := by decide +kernel
theorem d_M_numbered_111 : decode b_M_numbered 111 = .ok (.iload_n 2, 1) := by decide +kernel
theorem d_M_numbered_112 : decode b_M_numbered 112 = .ok (.iaload, 1) := by decide +kernel
theorem d_M_numbered_113 : decode b_M_numbered 113 = .ok (.if_icmp .ne 26, 3) := by decide +kernel
theorem d_M_numbered_116 : decode b_M_numbered 116 = .ok (.aload_n 0, 1) := by decide +kernel
theorem d_M_numbered_117 : decode b_M_numbered 117 = .ok (.getfield 38, 3) := by decide +kernel
theorem d_M_numbered_120 : decode b_M_numbered 120 = .ok (.iload 5, 2) := by decide +kernel
theorem d_M_numbered_122 : decode b_M_numbered 122 = .ok (.iaload, 1) := by decide +kernel
theorem d_M_numbered_123 : decode b_M_numbered 123 = .ok (.iload_n 3, 1) := by decide +kernel
theorem d_M_numbered_124 : decode b_M_numbered 124 = .ok (.if_icmp .ne 15, 3) := by decide +kernel
theorem d_M_numbered_127 : decode b_M_numbered 127 = .ok (.aload_n 0, 1) := by decide +kernel
theorem d_M_numbered_128 : decode b_M_numbered 128 = .ok (.getfield 41, 3) := by decide +kernel
theorem d_M_numbered_131 : decode b_M_numbered 131 = .ok (.iload 5, 2) := by decide +kernel
theorem d_M_numbered_133 : decode b_M_numbered 133 = .ok (.iaload, 1) := by decide +kernel
theorem d_M_numbered_134 : decode b_M_numbered 134 = .ok (.iload 4, 2) := by decide +kernel
theorem d_M_numbered_136 : decode b_M_numbered 136 = .ok (.if_icmp .eq 9, 3) := by decide +kernel
theorem d_M_numbered_139 : decode b_M_numbered 139 = .ok (.iinc 5 1, 3) := by decide +kernel
theorem d_M_numbered_142 : decode b_M_numbered 142 = .ok (.goto (-51), 3) := by decide +kernel
theorem d_M_numbered_145 : decode b_M_numbered 145 = .ok (.iload 5, 2) := by decide +kernel
theorem d_M_numbered_147 : decode b_M_numbered 147 = .ok (.aload_n 0, 1) := by decide +kernel
theorem d_M_numbered_148 : decode b_M_numbered 148 = .ok (.getfield 47, 3) := by decide +kernel
theorem d_M_numbered_151 : decode b_M_numbered 151 = .ok (.if_icmp .ne 51, 3) := by decide +kernel
theorem d_M_numbered_154 : decode b_M_numbered 154 = .ok (.aload_n 0, 1) := by decide +kernel
theorem d_M_numbered_155 : decode b_M_numbered 155 = .ok (.getfield 35, 3) := by decide +kernel
theorem d_M_numbered_158 : decode b_M_numbered 158 = .ok (.iload 5, 2) := by decide +kernel
theorem d_M_numbered_160 : decode b_M_numbered 160 = .ok (.aload_n 0, 1) := by decide +kernel
theorem d_M_numbered_161 : decode b_M_numbered 161 = .ok (.getfield 13, 3) := by decide +kernel
theorem d_M_numbered_164 : decode b_M_numbered 164 = .ok (.iload_n 2, 1) := by decide +kernel
theorem d_M_numbered_165 : decode b_M_numbered 165 = .ok (.iaload, 1) := by decide +kernel
theorem d_M_numbered_166 : decode b_M_numbered 166 = .ok (.iastore, 1) := by decide +kernel
theorem d_M_numbered_167 : decode b_M_numbered 167 = .ok (.aload_n 0, 1) := by decide +kernel
theorem d_M_numbered_168 : decode b_M_numbered 168 = .ok (.getfield 38, 3) := by decide +kernel
theorem d_M_numbered_171 : decode b_M_numbered 171 = .ok (.iload 5, 2) := by decide +kernel
theorem d_M_numbered_173 : decode b_M_numbered 173 = .ok (.iload_n 3, 1) := by decide +kernel
theorem d_M_numbered_174 : decode b_M_numbered 174 = .ok (.iastore, 1) := by decide +kernel
theorem d_M_numbered_175 : decode b_M_numbered 175 = .ok (.aload_n 0, 1) := by decide +kernel
theorem d_M_numbered_176 : decode b_M_numbered 176 = .ok (.getfield 41, 3) := by decide +kernel
theorem d_M_numbered_179 : decode b_M_numbered 179 = .ok (.iload 5, 2) := by decide +kernel
theorem d_M_numbered_181 : decode b_M_numbered 181 = .ok (.iload 4, 2) := by decide +kernel
theorem d_M_numbered_183 : decode b_M_numbered 183 = .ok (.iastore, 1) := by decide +kernel
theorem d_M_numbered_184 : decode b_M_numbered 184 = .ok (.aload_n 0, 1) := by decide +kernel
theorem d_M_numbered_185 : decode b_M_numbered 185 = .ok (.getfield 44, 3) := by decide +kernel
theorem d_M_numbered_188 : decode b_M_numbered 188 = .ok (.iload 5, 2) := by decide +kernel
theorem d_M_numbered_190 : decode b_M_numbered 190 = .ok (.iconst (-1), 1) := by decide +kernel
theorem d_M_numbered_191 : decode b_M_numbered 191 = .ok (.iastore, 1) := by decide +kernel
theorem d_M_numbered_192 : decode b_M_numbered 192 = .ok (.aload_n 0, 1) := by decide +kernel
theorem d_M_numbered_193 : decode b_M_numbered 193 = .ok (.dup, 1) := by decide +kernel
theorem d_M_numbered_194 : decode b_M_numbered 194 = .ok (.getfield 47, 3) := by decide +kernel
theorem d_M_numbered_197 : decode b_M_numbered 197 = .ok (.iconst 1, 1) := by decide +kernel
theorem d_M_numbered_198 : decode b_M_numbered 198 = .ok (.iadd, 1) := by decide +kernel
theorem d_M_numbered_199 : decode b_M_numbered 199 = .ok (.putfield 47, 3) := by decide +kernel
theorem d_M_numbered_202 : decode b_M_numbered 202 = .ok (.aload_n 0, 1) := by decide +kernel
theorem d_M_numbered_203 : decode b_M_numbered 203 = .ok (.getfield 32, 3) := by decide +kernel
theorem d_M_numbered_206 : decode b_M_numbered 206 = .ok (.iload_n 2, 1) := by decide +kernel
theorem d_M_numbered_207 : decode b_M_numbered 207 = .ok (.iload 5, 2) := by decide +kernel
theorem d_M_numbered_209 : decode b_M_numbered 209 = .ok (.iastore, 1) := by decide +kernel
theorem d_M_numbered_210 : decode b_M_numbered 210 = .ok (.aload_n 0, 1) := by decide +kernel
theorem d_M_numbered_211 : decode b_M_numbered 211 = .ok (.getfield 32, 3) := by decide +kernel
theorem d_M_numbered_214 : decode b_M_numbered 214 = .ok (.iload_n 1, 1) := by decide +kernel
theorem d_M_numbered_215 : decode b_M_numbered 215 = .ok (.aload_n 0, 1) := by decide +kernel
theorem d_M_numbered_216 : decode b_M_numbered 216 = .ok (.getfield 32, 3) := by decide +kernel
theorem d_M_numbered_219 : decode b_M_numbered 219 = .ok (.iload_n 2, 1) := by decide +kernel
theorem d_M_numbered_220 : decode b_M_numbered 220 = .ok (.iaload, 1) := by decide +kernel
theorem d_M_numbered_221 : decode b_M_numbered 221 = .ok (.iastore, 1) := by decide +kernel
theorem d_M_numbered_222 : decode b_M_numbered 222 = .ok (.aload_n 0, 1) := by decide +kernel
theorem d_M_numbered_223 : decode b_M_numbered 223 = .ok (.getfield 32, 3) := by decide +kernel
theorem d_M_numbered_226 : decode b_M_numbered 226 = .ok (.iload_n 1, 1) := by decide +kernel
theorem d_M_numbered_227 : decode b_M_numbered 227 = .ok (.iaload, 1) := by decide +kernel
theorem d_M_numbered_228 : decode b_M_numbered 228 = .ok (.ireturn, 1) := by decide +kernel
theorem d_M_one_0 : decode b_M_one 0 = .ok (.aload_n 0, 1) := by decide +kernel
theorem d_M_one_1 : decode b_M_one 1 = .ok (.iload_n 1, 1) := by decide +kernel
theorem d_M_one_2 : decode b_M_one 2 = .ok (.invokevirtual 88, 3) := by decide +kernel
theorem d_M_one_5 : decode b_M_one 5 = .ok (.istore_n 3, 1) := by decide +kernel
theorem d_M_one_6 : decode b_M_one 6 = .ok (.aload_n 0, 1) := by decide +kernel
theorem d_M_one_7 : decode b_M_one 7 = .ok (.iload_n 2, 1) := by decide +kernel
theorem d_M_one_8 : decode b_M_one 8 = .ok (.invokevirtual 88, 3) := by decide +kernel
theorem d_M_one_11 : decode b_M_one 11 = .ok (.istore 4, 2) := by decide +kernel
theorem d_M_one_13 : decode b_M_one 13 = .ok (.iload_n 3, 1) := by decide +kernel
theorem d_M_one_14 : decode b_M_one 14 = .ok (.iload 4, 2) := by decide +kernel
theorem d_M_one_16 : decode b_M_one 16 = .ok (.if_icmp .ne 5, 3) := by decide +kernel
theorem d_M_one_19 : decode b_M_one 19 = .ok (.iconst 1, 1) := by decide +kernel
theorem d_M_one_20 : decode b_M_one 20 = .ok (.ireturn, 1) := by decide +kernel
theorem d_M_one_21 : decode b_M_one 21 = .ok (.aload_n 0, 1) := by decide +kernel
theorem d_M_one_22 : decode b_M_one 22 = .ok (.getfield 13, 3) := by decide +kernel
theorem d_M_one_25 : decode b_M_one 25 = .ok (.iload_n 3, 1) := by decide +kernel
theorem d_M_one_26 : decode b_M_one 26 = .ok (.iaload, 1) := by decide +kernel
theorem d_M_one_27 : decode b_M_one 27 = .ok (.ifCond .ne 13, 3) := by decide +kernel
theorem d_M_one_30 : decode b_M_one 30 = .ok (.aload_n 0, 1) := by decide +kernel
theorem d_M_one_31 : decode b_M_one 31 = .ok (.getfield 23, 3) := by decide +kernel
theorem d_M_one_34 : decode b_M_one 34 = .ok (.iload_n 3, 1) := by decide +kernel
theorem d_M_one_35 : decode b_M_one 35 = .ok (.iload 4, 2) := by decide +kernel
theorem d_M_one_37 : decode b_M_one 37 = .ok (.iastore, 1) := by decide +kernel
theorem d_M_one_38 : decode b_M_one 38 = .ok (.iconst 1, 1) := by decide +kernel
theorem d_M_one_39 : decode b_M_one 39 = .ok (.ireturn, 1) := by decide +kernel
theorem d_M_one_40 : decode b_M_one 40 = .ok (.aload_n 0, 1) := by decide +kernel
theorem d_M_one_41 : decode b_M_one 41 = .ok (.getfield 13, 3) := by decide +kernel
theorem d_M_one_44 : decode b_M_one 44 = .ok (.iload 4, 2) := by decide +kernel
theorem d_M_one_46 : decode b_M_one 46 = .ok (.iaload, 1) := by decide +kernel
theorem d_M_one_47 : decode b_M_one 47 = .ok (.ifCond .ne 13, 3) := by decide +kernel
theorem d_M_one_50 : decode b_M_one 50 = .ok (.aload_n 0, 1) := by decide +kernel
theorem d_M_one_51 : decode b_M_one 51 = .ok (.getfield 23, 3) := by decide +kernel
theorem d_M_one_54 : decode b_M_one 54 = .ok (.iload 4, 2) := by decide +kernel
theorem d_M_one_56 : decode b_M_one 56 = .ok (.iload_n 3, 1) := by decide +kernel
theorem d_M_one_57 : decode b_M_one 57 = .ok (.iastore, 1) := by decide +kernel
theorem d_M_one_58 : decode b_M_one 58 = .ok (.iconst 1, 1) := by decide +kernel
theorem d_M_one_59 : decode b_M_one 59 = .ok (.ireturn, 1) := by decide +kernel
theorem d_M_one_60 : decode b_M_one 60 = .ok (.aload_n 0, 1) := by decide +kernel
theorem d_M_one_61 : decode b_M_one 61 = .ok (.getfield 13, 3) := by decide +kernel
theorem d_M_one_64 : decode b_M_one 64 = .ok (.iload_n 3, 1) := by decide +kernel
theorem d_M_one_65 : decode b_M_one 65 = .ok (.iaload, 1) := by decide +kernel
theorem d_M_one_66 : decode b_M_one 66 = .ok (.aload_n 0, 1) := by decide +kernel
theorem d_M_one_67 : decode b_M_one 67 = .ok (.getfield 13, 3) := by decide +kernel
theorem d_M_one_70 : decode b_M_one 70 = .ok (.iload 4, 2) := by decide +kernel
theorem d_M_one_72 : decode b_M_one 72 = .ok (.iaload, 1) := by decide +kernel
theorem d_M_one_73 : decode b_M_one 73 = .ok (.if_icmp .eq 5, 3) := by decide +kernel
theorem d_M_one_76 : decode b_M_one 76 = .ok (.iconst 0, 1) := by decide +kernel
theorem d_M_one_77 : decode b_M_one 77 = .ok (.ireturn, 1) := by decide +kernel
theorem d_M_one_78 : decode b_M_one 78 = .ok (.aload_n 0, 1) := by decide +kernel
theorem d_M_one_79 : decode b_M_one 79 = .ok (.getfield 23, 3) := by decide +kernel
theorem d_M_one_82 : decode b_M_one 82 = .ok (.iload_n 3, 1) := by decide +kernel
theorem d_M_one_83 : decode b_M_one 83 = .ok (.iload 4, 2) := by decide +kernel
theorem d_M_one_85 : decode b_M_one 85 = .ok (.iastore, 1) := by decide +kernel
theorem d_M_one_86 : decode b_M_one 86 = .ok (.aload_n 0, 1) := by decide +kernel
theorem d_M_one_87 : decode b_M_one 87 = .ok (.getfield 13, 3) := by decide +kernel
theorem d_M_one_90 : decode b_M_one 90 = .ok (.iload_n 3, 1) := by decide +kernel
theorem d_M_one_91 : decode b_M_one 91 = .ok (.iaload, 1) := by decide +kernel
theorem d_M_one_92 : decode b_M_one 92 = .ok (.iconst 1, 1) := by decide +kernel
theorem d_M_one_93 : decode b_M_one 93 = .ok (.if_icmp .eq 43, 3) := by decide +kernel
theorem d_M_one_96 : decode b_M_one 96 = .ok (.aload_n 0, 1) := by decide +kernel
theorem d_M_one_97 : decode b_M_one 97 = .ok (.aload_n 0, 1) := by decide +kernel
theorem d_M_one_98 : decode b_M_one 98 = .ok (.getfield 17, 3) := by decide +kernel
theorem d_M_one_101 : decode b_M_one 101 = .ok (.iload_n 3, 1) := by decide +kernel
theorem d_M_one_102 : decode b_M_one 102 = .ok (.iaload, 1) := by decide +kernel
theorem d_M_one_103 : decode b_M_one 103 = .ok (.aload_n 0, 1) := by decide +kernel
theorem d_M_one_104 : decode b_M_one 104 = .ok (.getfield 17, 3) := by decide +kernel
theorem d_M_one_107 : decode b_M_one 107 = .ok (.iload 4, 2) := by decide +kernel
theorem d_M_one_109 : decode b_M_one 109 = .ok (.iaload, 1) := by decide +kernel
theorem d_M_one_110 : decode b_M_one 110 = .ok (.invokevirtual 91, 3) := by decide +kernel
theorem d_M_one_113 : decode b_M_one 113 = .ok (.ifCond .eq 27, 3) := by decide +kernel
theorem d_M_one_116 : decode b_M_one 116 = .ok (.aload_n 0, 1) := by decide +kernel
theorem d_M_one_117 : decode b_M_one 117 = .ok (.aload_n 0, 1) := by decide +kernel
theorem d_M_one_118 : decode b_M_one 118 = .ok (.getfield 20, 3) := by decide +kernel
theorem d_M_one_121 : decode b_M_one 121 = .ok (.iload_n 3, 1) := by decide +kernel
theorem d_M_one_122 : decode b_M_one 122 = .ok (.iaload, 1) := by decide +kernel
theorem d_M_one_123 : decode b_M_one 123 = .ok (.aload_n 0, 1) := by decide +kernel
theorem d_M_one_124 : decode b_M_one 124 = .ok (.getfield 20, 3) := by decide +kernel
theorem d_M_one_127 : decode b_M_one 127 = .ok (.iload 4, 2) := by decide +kernel
theorem d_M_one_129 : decode b_M_one 129 = .ok (.iaload, 1) := by decide +kernel
theorem d_M_one_130 : decode b_M_one 130 = .ok (.invokevirtual 91, 3) := by decide +kernel
theorem d_M_one_133 : decode b_M_one 133 = .ok (.ifCond .eq 7, 3) := by decide +kernel
theorem d_M_one_136 : decode b_M_one 136 = .ok (.iconst 1, 1) := by decide +kernel
theorem d_M_one_137 : decode b_M_one 137 = .ok (.goto 4, 3) := by decide +kernel
theorem d_M_one_140 : decode b_M_one 140 = .ok (.iconst 0, 1) := by decide +kernel
theorem d_M_one_141 : decode b_M_one 141 = .ok (.ireturn, 1) := by decide +kernel
theorem d_M_endless_0 : decode b_M_endless 0 = .ok (.aload_n 0, 1) := by decide +kernel
theorem d_M_endless_1 : decode b_M_endless 1 = .ok (.iload_n 1, 1) := by decide +kernel
theorem d_M_endless_2 : decode b_M_endless 2 = .ok (.invokevirtual 88, 3) := by decide +kernel
theorem d_M_endless_5 : decode b_M_endless 5 = .ok (.istore_n 2, 1) := by decide +kernel
theorem d_M_endless_6 : decode b_M_endless 6 = .ok (.aload_n 0, 1) := by decide +kernel
theorem d_M_endless_7 : decode b_M_endless 7 = .ok (.getfield 13, 3) := by decide +kernel
theorem d_M_endless_10 : decode b_M_endless 10 = .ok (.iload_n 2, 1) := by decide +kernel
theorem d_M_endless_11 : decode b_M_endless 11 = .ok (.iaload, 1) := by decide +kernel
theorem d_M_endless_12 : decode b_M_endless 12 = .ok (.ifCond .eq 23, 3) := by decide +kernel
theorem d_M_endless_15 : decode b_M_endless 15 = .ok (.aload_n 0, 1) := by decide +kernel
theorem d_M_endless_16 : decode b_M_endless 16 = .ok (.getfield 13, 3) := by decide +kernel
theorem d_M_endless_19 : decode b_M_endless 19 = .ok (.iload_n 2, 1) := by decide +kernel
theorem d_M_endless_20 : decode b_M_endless 20 = .ok (.iaload, 1) := by decide +kernel
theorem d_M_endless_21 : decode b_M_endless 21 = .ok (.iconst 1, 1) := by decide +kernel
theorem d_M_endless_22 : decode b_M_endless 22 = .ok (.if_icmp .eq 13, 3) := by decide +kernel
theorem d_M_endless_25 : decode b_M_endless 25 = .ok (.aload_n 0, 1) := by decide +kernel
theorem d_M_endless_26 : decode b_M_endless 26 = .ok (.getfield 54, 3) := by decide +kernel
theorem d_M_endless_29 : decode b_M_endless 29 = .ok (.iload_n 2, 1) := by decide +kernel
theorem d_M_endless_30 : decode b_M_endless 30 = .ok (.iaload, 1) := by decide +kernel
theorem d_M_endless_31 : decode b_M_endless 31 = .ok (.iconst 2, 1) := by decide +kernel
theorem d_M_endless_32 : decode b_M_endless 32 = .ok (.if_icmp .ne 5, 3) := by decide +kernel
theorem d_M_endless_35 : decode b_M_endless 35 = .ok (.iconst 0, 1) := by decide +kernel
theorem d_M_endless_36 : decode b_M_endless 36 = .ok (.ireturn, 1) := by decide +kernel
theorem d_M_endless_37 : decode b_M_endless 37 = .ok (.aload_n 0, 1) := by decide +kernel
theorem d_M_endless_38 : decode b_M_endless 38 = .ok (.getfield 54, 3) := by decide +kernel
theorem d_M_endless_41 : decode b_M_endless 41 = .ok (.iload_n 2, 1) := by decide +kernel
theorem d_M_endless_42 : decode b_M_endless 42 = .ok (.iaload, 1) := by decide +kernel
theorem d_M_endless_43 : decode b_M_endless 43 = .ok (.iconst 1, 1) := by decide +kernel
theorem d_M_endless_44 : decode b_M_endless 44 = .ok (.if_icmp .ne 5, 3) := by decide +kernel
theorem d_M_endless_47 : decode b_M_endless 47 = .ok (.iconst 1, 1) := by decide +kernel
theorem d_M_endless_48 : decode b_M_endless 48 = .ok (.ireturn, 1) := by decide +kernel
theorem d_M_endless_49 : decode b_M_endless 49 = .ok (.aload_n 0, 1) := by decide +kernel
theorem d_M_endless_50 : decode b_M_endless 50 = .ok (.getfield 54, 3) := by decide +kernel
theorem d_M_endless_53 : decode b_M_endless 53 = .ok (.iload_n 2, 1) := by decide +kernel
theorem d_M_endless_54 : decode b_M_endless 54 = .ok (.iconst 1, 1) := by decide +kernel
theorem d_M_endless_55 : decode b_M_endless 55 = .ok (.iastore, 1) := by decide +kernel
theorem d_M_endless_56 : decode b_M_endless 56 = .ok (.aload_n 0, 1) := by decide +kernel
theorem d_M_endless_57 : decode b_M_endless 57 = .ok (.aload_n 0, 1) := by decide +kernel
theorem d_M_endless_58 : decode b_M_endless 58 = .ok (.getfield 17, 3) := by decide +kernel
theorem d_M_endless_61 : decode b_M_endless 61 = .ok (.iload_n 2, 1) := by decide +kernel
theorem d_M_endless_62 : decode b_M_endless 62 = .ok (.iaload, 1) := by decide +kernel
theorem d_M_endless_63 : decode b_M_endless 63 = .ok (.invokevirtual 95, 3) := by decide +kernel
theorem d_M_endless_66 : decode b_M_endless 66 = .ok (.ifCond .ne 16, 3) := by decide +kernel
theorem d_M_endless_69 : decode b_M_endless 69 = .ok (.aload_n 0, 1) := by decide +kernel
theorem d_M_endless_70 : decode b_M_endless 70 = .ok (.aload_n 0, 1) := by decide +kernel
theorem d_M_endless_71 : decode b_M_endless 71 = .ok (.getfield 20, 3) := by decide +kernel
theorem d_M_endless_74 : decode b_M_endless 74 = .ok (.iload_n 2, 1) := by decide +kernel
theorem d_M_endless_75 : decode b_M_endless 75 = .ok (.iaload, 1) := by decide +kernel
theorem d_M_endless_76 : decode b_M_endless 76 = .ok (.invokevirtual 95, 3) := by decide +kernel
theorem d_M_endless_79 : decode b_M_endless 79 = .ok (.ifCond .eq 7, 3) := by decide +kernel
theorem d_M_endless_82 : decode b_M_endless 82 = .ok (.iconst 1, 1) := by decide +kernel
theorem d_M_endless_83 : decode b_M_endless 83 = .ok (.goto 4, 3) := by decide +kernel
theorem d_M_endless_86 : decode b_M_endless 86 = .ok (.iconst 0, 1) := by decide +kernel
theorem d_M_endless_87 : decode b_M_endless 87 = .ok (.istore_n 3, 1) := by decide +kernel
theorem d_M_endless_88 : decode b_M_endless 88 = .ok (.aload_n 0, 1) := by decide +kernel
theorem d_M_endless_89 : decode b_M_endless 89 = .ok (.getfield 54, 3) := by decide +kernel
theorem d_M_endless_92 : decode b_M_endless 92 = .ok (.iload_n 2, 1) := by decide +kernel
theorem d_M_endless_93 : decode b_M_endless 93 = .ok (.iconst 2, 1) := by decide +kernel
theorem d_M_endless_94 : decode b_M_endless 94 = .ok (.iastore, 1) := by decide +kernel
theorem d_M_endless_95 : decode b_M_endless 95 = .ok (.iload_n 3, 1) := by decide +kernel
theorem d_M_endless_96 : decode b_M_endless 96 = .ok (.ireturn, 1) := by decide +kernel
theorem d_M_tried_0 : decode b_M_tried 0 = .ok (.aload_n 0, 1) := by decide +kernel
theorem d_M_tried_1 : decode b_M_tried 1 = .ok (.getfield 23, 3) := by decide +kernel
theorem d_M_tried_4 : decode b_M_tried 4 = .ok (.iconst 0, 1) := by decide +kernel
theorem d_M_tried_5 : decode b_M_tried 5 = .ok (.aload_n 0, 1) := by decide +kernel
theorem d_M_tried_6 : decode b_M_tried 6 = .ok (.getfield 26, 3) := by decide +kernel
theorem d_M_tried_9 : decode b_M_tried 9 = .ok (.iconst 0, 1) := by decide +kernel
theorem d_M_tried_10 : decode b_M_tried 10 = .ok (.aload_n 0, 1) := by decide +kernel
theorem d_M_tried_11 : decode b_M_tried 11 = .ok (.getfield 29, 3) := by decide +kernel
theorem d_M_tried_14 : decode b_M_tried 14 = .ok (.invokestatic 98, 3) := by decide +kernel
theorem d_M_tried_17 : decode b_M_tried 17 = .ok (.aload_n 0, 1) := by decide +kernel
theorem d_M_tried_18 : decode b_M_tried 18 = .ok (.iload_n 1, 1) := by decide +kernel
theorem d_M_tried_19 : decode b_M_tried 19 = .ok (.iload_n 2, 1) := by decide +kernel
theorem d_M_tried_20 : decode b_M_tried 20 = .ok (.invokevirtual 91, 3) := by decide +kernel
theorem d_M_tried_23 : decode b_M_tried 23 = .ok (.istore_n 3, 1) := by decide +kernel
theorem d_M_tried_24 : decode b_M_tried 24 = .ok (.iconst 0, 1) := by decide +kernel
theorem d_M_tried_25 : decode b_M_tried 25 = .ok (.istore 4, 2) := by decide +kernel
theorem d_M_tried_27 : decode b_M_tried 27 = .ok (.iload 4, 2) := by decide +kernel
theorem d_M_tried_29 : decode b_M_tried 29 = .ok (.aload_n 0, 1) := by decide +kernel
theorem d_M_tried_30 : decode b_M_tried 30 = .ok (.getfield 29, 3) := by decide +kernel
theorem d_M_tried_33 : decode b_M_tried 33 = .ok (.if_icmp .ge 17, 3) := by decide +kernel
theorem d_M_tried_36 : decode b_M_tried 36 = .ok (.aload_n 0, 1) := by decide +kernel
theorem d_M_tried_37 : decode b_M_tried 37 = .ok (.getfield 54, 3) := by decide +kernel
theorem d_M_tried_40 : decode b_M_tried 40 = .ok (.iload 4, 2) := by decide +kernel
theorem d_M_tried_42 : decode b_M_tried 42 = .ok (.iconst 0, 1) := by decide +kernel
theorem d_M_tried_43 : decode b_M_tried 43 = .ok (.iastore, 1) := by decide +kernel
theorem d_M_tried_44 : decode b_M_tried 44 = .ok (.iinc 4 1, 3) := by decide +kernel
theorem d_M_tried_47 : decode b_M_tried 47 = .ok (.goto (-20), 3) := by decide +kernel
theorem d_M_tried_50 : decode b_M_tried 50 = .ok (.iconst 0, 1) := by decide +kernel
theorem d_M_tried_51 : decode b_M_tried 51 = .ok (.istore 4, 2) := by decide +kernel
theorem d_M_tried_53 : decode b_M_tried 53 = .ok (.iload 4, 2) := by decide +kernel
theorem d_M_tried_55 : decode b_M_tried 55 = .ok (.aload_n 0, 1) := by decide +kernel
theorem d_M_tried_56 : decode b_M_tried 56 = .ok (.getfield 29, 3) := by decide +kernel
theorem d_M_tried_59 : decode b_M_tried 59 = .ok (.if_icmp .ge 28, 3) := by decide +kernel
theorem d_M_tried_62 : decode b_M_tried 62 = .ok (.iload_n 3, 1) := by decide +kernel
theorem d_M_tried_63 : decode b_M_tried 63 = .ok (.ifCond .eq 24, 3) := by decide +kernel
theorem d_M_tried_66 : decode b_M_tried 66 = .ok (.aload_n 0, 1) := by decide +kernel
theorem d_M_tried_67 : decode b_M_tried 67 = .ok (.iload 4, 2) := by decide +kernel
theorem d_M_tried_69 : decode b_M_tried 69 = .ok (.invokevirtual 95, 3) := by decide +kernel
theorem d_M_tried_72 : decode b_M_tried 72 = .ok (.ifCond .ne 7, 3) := by decide +kernel
theorem d_M_tried_75 : decode b_M_tried 75 = .ok (.iconst 1, 1) := by decide +kernel
theorem d_M_tried_76 : decode b_M_tried 76 = .ok (.goto 4, 3) := by decide +kernel
theorem d_M_tried_79 : decode b_M_tried 79 = .ok (.iconst 0, 1) := by decide +kernel
theorem d_M_tried_80 : decode b_M_tried 80 = .ok (.istore_n 3, 1) := by decide +kernel
theorem d_M_tried_81 : decode b_M_tried 81 = .ok (.iinc 4 1, 3) := by decide +kernel
theorem d_M_tried_84 : decode b_M_tried 84 = .ok (.goto (-31), 3) := by decide +kernel
theorem d_M_tried_87 : decode b_M_tried 87 = .ok (.iload_n 3, 1) := by decide +kernel
theorem d_M_tried_88 : decode b_M_tried 88 = .ok (.ireturn, 1) := by decide +kernel
theorem d_M_undone_0 : decode b_M_undone 0 = .ok (.aload_n 0, 1) := by decide +kernel
theorem d_M_undone_1 : decode b_M_undone 1 = .ok (.getfield 26, 3) := by decide +kernel
theorem d_M_undone_4 : decode b_M_undone 4 = .ok (.iconst 0, 1) := by decide +kernel
theorem d_M_undone_5 : decode b_M_undone 5 = .ok (.aload_n 0, 1) := by decide +kernel
theorem d_M_undone_6 : decode b_M_undone 6 = .ok (.getfield 23, 3) := by decide +kernel
theorem d_M_undone_9 : decode b_M_undone 9 = .ok (.iconst 0, 1) := by decide +kernel
theorem d_M_undone_10 : decode b_M_undone 10 = .ok (.aload_n 0, 1) := by decide +kernel
theorem d_M_undone_11 : decode b_M_undone 11 = .ok (.getfield 29, 3) := by decide +kernel
theorem d_M_undone_14 : decode b_M_undone 14 = .ok (.invokestatic 98, 3) := by decide +kernel
theorem d_M_undone_17 : decode b_M_undone 17 = .ok (.return_, 1) := by decide +kernel
theorem d_M_free_0 : decode b_M_free 0 = .ok (.aload_n 0, 1) := by decide +kernel
theorem d_M_free_1 : decode b_M_free 1 = .ok (.iconst 0, 1) := by decide +kernel
theorem d_M_free_2 : decode b_M_free 2 = .ok (.putfield 7, 3) := by decide +kernel
theorem d_M_free_5 : decode b_M_free 5 = .ok (.aload_n 0, 1) := by decide +kernel
theorem d_M_free_6 : decode b_M_free 6 = .ok (.iconst 1, 1) := by decide +kernel
theorem d_M_free_7 : decode b_M_free 7 = .ok (.aload_n 0, 1) := by decide +kernel
theorem d_M_free_8 : decode b_M_free 8 = .ok (.getfield 29, 3) := by decide +kernel
theorem d_M_free_11 : decode b_M_free 11 = .ok (.sipush 1000, 3) := by decide +kernel
theorem d_M_free_14 : decode b_M_free 14 = .ok (.if_icmp .ne 7, 3) := by decide +kernel
theorem d_M_free_17 : decode b_M_free 17 = .ok (.iconst 1, 1) := by decide +kernel
theorem d_M_free_18 : decode b_M_free 18 = .ok (.goto 4, 3) := by decide +kernel
theorem d_M_free_21 : decode b_M_free 21 = .ok (.iconst 0, 1) := by decide +kernel
theorem d_M_free_22 : decode b_M_free 22 = .ok (.invokevirtual 73, 3) := by decide +kernel
theorem d_M_free_25 : decode b_M_free 25 = .ok (.ifCond .eq 5, 3) := by decide +kernel
theorem d_M_free_28 : decode b_M_free 28 = .ok (.iconst 0, 1) := by decide +kernel
theorem d_M_free_29 : decode b_M_free 29 = .ok (.ireturn, 1) := by decide +kernel
theorem d_M_free_30 : decode b_M_free 30 = .ok (.aload_n 0, 1) := by decide +kernel
theorem d_M_free_31 : decode b_M_free 31 = .ok (.iconst 0, 1) := by decide +kernel
theorem d_M_free_32 : decode b_M_free 32 = .ok (.iconst (-1), 1) := by decide +kernel
theorem d_M_free_33 : decode b_M_free 33 = .ok (.iconst (-1), 1) := by decide +kernel
theorem d_M_free_34 : decode b_M_free 34 = .ok (.invokevirtual 69, 3) := by decide +kernel
theorem d_M_free_37 : decode b_M_free 37 = .ok (.ireturn, 1) := by decide +kernel
theorem d_M_made_0 : decode b_M_made 0 = .ok (.aload_n 0, 1) := by decide +kernel
theorem d_M_made_1 : decode b_M_made 1 = .ok (.iload_n 2, 1) := by decide +kernel
theorem d_M_made_2 : decode b_M_made 2 = .ok (.invokevirtual 77, 3) := by decide +kernel
theorem d_M_made_5 : decode b_M_made 5 = .ok (.ifCond .ne 34, 3) := by decide +kernel
theorem d_M_made_8 : decode b_M_made 8 = .ok (.aload_n 0, 1) := by decide +kernel
theorem d_M_made_9 : decode b_M_made 9 = .ok (.iload_n 3, 1) := by decide +kernel
theorem d_M_made_10 : decode b_M_made 10 = .ok (.invokevirtual 77, 3) := by decide +kernel
theorem d_M_made_13 : decode b_M_made 13 = .ok (.ifCond .ne 26, 3) := by decide +kernel
theorem d_M_made_16 : decode b_M_made 16 = .ok (.aload_n 0, 1) := by decide +kernel
theorem d_M_made_17 : decode b_M_made 17 = .ok (.iconst 2, 1) := by decide +kernel
theorem d_M_made_18 : decode b_M_made 18 = .ok (.aload_n 0, 1) := by decide +kernel
theorem d_M_made_19 : decode b_M_made 19 = .ok (.getfield 29, 3) := by decide +kernel
theorem d_M_made_22 : decode b_M_made 22 = .ok (.sipush 1000, 3) := by decide +kernel
theorem d_M_made_25 : decode b_M_made 25 = .ok (.if_icmp .ne 7, 3) := by decide +kernel
theorem d_M_made_28 : decode b_M_made 28 = .ok (.iconst 1, 1) := by decide +kernel
theorem d_M_made_29 : decode b_M_made 29 = .ok (.goto 4, 3) := by decide +kernel
theorem d_M_made_32 : decode b_M_made 32 = .ok (.iconst 0, 1) := by decide +kernel
theorem d_M_made_33 : decode b_M_made 33 = .ok (.invokevirtual 73, 3) := by decide +kernel
theorem d_M_made_36 : decode b_M_made 36 = .ok (.ifCond .eq 5, 3) := by decide +kernel
theorem d_M_made_39 : decode b_M_made 39 = .ok (.iconst 0, 1) := by decide +kernel
theorem d_M_made_40 : decode b_M_made 40 = .ok (.ireturn, 1) := by decide +kernel
theorem d_M_made_41 : decode b_M_made 41 = .ok (.aload_n 0, 1) := by decide +kernel
theorem d_M_made_42 : decode b_M_made 42 = .ok (.iload_n 1, 1) := by decide +kernel
theorem d_M_made_43 : decode b_M_made 43 = .ok (.iload_n 2, 1) := by decide +kernel
theorem d_M_made_44 : decode b_M_made 44 = .ok (.iload_n 3, 1) := by decide +kernel
theorem d_M_made_45 : decode b_M_made 45 = .ok (.invokevirtual 69, 3) := by decide +kernel
theorem d_M_made_48 : decode b_M_made 48 = .ok (.ireturn, 1) := by decide +kernel
theorem d_M_sum_0 : decode b_M_sum 0 = .ok (.aload_n 0, 1) := by decide +kernel
theorem d_M_sum_1 : decode b_M_sum 1 = .ok (.iconst 2, 1) := by decide +kernel
theorem d_M_sum_2 : decode b_M_sum 2 = .ok (.iload_n 1, 1) := by decide +kernel
theorem d_M_sum_3 : decode b_M_sum 3 = .ok (.iload_n 2, 1) := by decide +kernel
theorem d_M_sum_4 : decode b_M_sum 4 = .ok (.invokevirtual 104, 3) := by decide +kernel
theorem d_M_sum_7 : decode b_M_sum 7 = .ok (.ireturn, 1) := by decide +kernel
theorem d_M_pair_0 : decode b_M_pair 0 = .ok (.aload_n 0, 1) := by decide +kernel
theorem d_M_pair_1 : decode b_M_pair 1 = .ok (.iconst 3, 1) := by decide +kernel
theorem d_M_pair_2 : decode b_M_pair 2 = .ok (.iload_n 1, 1) := by decide +kernel
theorem d_M_pair_3 : decode b_M_pair 3 = .ok (.iload_n 2, 1) := by decide +kernel
theorem d_M_pair_4 : decode b_M_pair 4 = .ok (.invokevirtual 104, 3) := by decide +kernel
theorem d_M_pair_7 : decode b_M_pair 7 = .ok (.ireturn, 1) := by decide +kernel
theorem d_M_join_0 : decode b_M_join 0 = .ok (.aload_n 0, 1) := by decide +kernel
theorem d_M_join_1 : decode b_M_join 1 = .ok (.iload_n 1, 1) := by decide +kernel
theorem d_M_join_2 : decode b_M_join 2 = .ok (.invokevirtual 77, 3) := by decide +kernel
theorem d_M_join_5 : decode b_M_join 5 = .ok (.ifCond .ne 11, 3) := by decide +kernel
theorem d_M_join_8 : decode b_M_join 8 = .ok (.aload_n 0, 1) := by decide +kernel
theorem d_M_join_9 : decode b_M_join 9 = .ok (.iload_n 2, 1) := by decide +kernel
theorem d_M_join_10 : decode b_M_join 10 = .ok (.invokevirtual 77, 3) := by decide +kernel
theorem d_M_join_13 : decode b_M_join 13 = .ok (.ifCond .eq 5, 3) := by decide +kernel
theorem d_M_join_16 : decode b_M_join 16 = .ok (.iconst 0, 1) := by decide +kernel
theorem d_M_join_17 : decode b_M_join 17 = .ok (.ireturn, 1) := by decide +kernel
theorem d_M_join_18 : decode b_M_join 18 = .ok (.aload_n 0, 1) := by decide +kernel
theorem d_M_join_19 : decode b_M_join 19 = .ok (.iload_n 1, 1) := by decide +kernel
theorem d_M_join_20 : decode b_M_join 20 = .ok (.iload_n 2, 1) := by decide +kernel
theorem d_M_join_21 : decode b_M_join 21 = .ok (.invokevirtual 107, 3) := by decide +kernel
theorem d_M_join_24 : decode b_M_join 24 = .ok (.istore_n 3, 1) := by decide +kernel
theorem d_M_join_25 : decode b_M_join 25 = .ok (.iload_n 3, 1) := by decide +kernel
theorem d_M_join_26 : decode b_M_join 26 = .ok (.ifCond .ne 7, 3) := by decide +kernel
theorem d_M_join_29 : decode b_M_join 29 = .ok (.aload_n 0, 1) := by decide +kernel
theorem d_M_join_30 : decode b_M_join 30 = .ok (.invokevirtual 110, 3) := by decide +kernel
theorem d_M_join_33 : decode b_M_join 33 = .ok (.aload_n 0, 1) := by decide +kernel
theorem d_M_join_34 : decode b_M_join 34 = .ok (.iconst 0, 1) := by decide +kernel
theorem d_M_join_35 : decode b_M_join 35 = .ok (.putfield 50, 3) := by decide +kernel
theorem d_M_join_38 : decode b_M_join 38 = .ok (.iload_n 3, 1) := by decide +kernel
theorem d_M_join_39 : decode b_M_join 39 = .ok (.ireturn, 1) := by decide +kernel
theorem d_M_alike_0 : decode b_M_alike 0 = .ok (.aload_n 0, 1) := by decide +kernel
theorem d_M_alike_1 : decode b_M_alike 1 = .ok (.iload_n 1, 1) := by decide +kernel
theorem d_M_alike_2 : decode b_M_alike 2 = .ok (.invokevirtual 77, 3) := by decide +kernel
theorem d_M_alike_5 : decode b_M_alike 5 = .ok (.ifCond .ne 11, 3) := by decide +kernel
theorem d_M_alike_8 : decode b_M_alike 8 = .ok (.aload_n 0, 1) := by decide +kernel
theorem d_M_alike_9 : decode b_M_alike 9 = .ok (.iload_n 2, 1) := by decide +kernel
theorem d_M_alike_10 : decode b_M_alike 10 = .ok (.invokevirtual 77, 3) := by decide +kernel
theorem d_M_alike_13 : decode b_M_alike 13 = .ok (.ifCond .eq 5, 3) := by decide +kernel
theorem d_M_alike_16 : decode b_M_alike 16 = .ok (.iconst 0, 1) := by decide +kernel
theorem d_M_alike_17 : decode b_M_alike 17 = .ok (.ireturn, 1) := by decide +kernel
theorem d_M_alike_18 : decode b_M_alike 18 = .ok (.aload_n 0, 1) := by decide +kernel
theorem d_M_alike_19 : decode b_M_alike 19 = .ok (.iload_n 1, 1) := by decide +kernel
theorem d_M_alike_20 : decode b_M_alike 20 = .ok (.iload_n 2, 1) := by decide +kernel
theorem d_M_alike_21 : decode b_M_alike 21 = .ok (.invokevirtual 107, 3) := by decide +kernel
theorem d_M_alike_24 : decode b_M_alike 24 = .ok (.istore_n 3, 1) := by decide +kernel
theorem d_M_alike_25 : decode b_M_alike 25 = .ok (.aload_n 0, 1) := by decide +kernel
theorem d_M_alike_26 : decode b_M_alike 26 = .ok (.invokevirtual 110, 3) := by decide +kernel
theorem d_M_alike_29 : decode b_M_alike 29 = .ok (.iload_n 3, 1) := by decide +kernel
theorem d_M_alike_30 : decode b_M_alike 30 = .ok (.ireturn, 1) := by decide +kernel
theorem d_M_same_0 : decode b_M_same 0 = .ok (.aload_n 0, 1) := by decide +kernel
theorem d_M_same_1 : decode b_M_same 1 = .ok (.iload_n 1, 1) := by decide +kernel
theorem d_M_same_2 : decode b_M_same 2 = .ok (.invokevirtual 113, 3) := by decide +kernel
theorem d_M_same_5 : decode b_M_same 5 = .ok (.ifCond .ne 11, 3) := by decide +kernel
theorem d_M_same_8 : decode b_M_same 8 = .ok (.aload_n 0, 1) := by decide +kernel
theorem d_M_same_9 : decode b_M_same 9 = .ok (.iload_n 2, 1) := by decide +kernel
theorem d_M_same_10 : decode b_M_same 10 = .ok (.invokevirtual 77, 3) := by decide +kernel
theorem d_M_same_13 : decode b_M_same 13 = .ok (.ifCond .eq 5, 3) := by decide +kernel
theorem d_M_same_16 : decode b_M_same 16 = .ok (.iconst 0, 1) := by decide +kernel
theorem d_M_same_17 : decode b_M_same 17 = .ok (.ireturn, 1) := by decide +kernel
theorem d_M_same_18 : decode b_M_same 18 = .ok (.aload_n 0, 1) := by decide +kernel
theorem d_M_same_19 : decode b_M_same 19 = .ok (.getfield 32, 3) := by decide +kernel
theorem d_M_same_22 : decode b_M_same 22 = .ok (.iload_n 1, 1) := by decide +kernel
theorem d_M_same_23 : decode b_M_same 23 = .ok (.iaload, 1) := by decide +kernel
theorem d_M_same_24 : decode b_M_same 24 = .ok (.aload_n 0, 1) := by decide +kernel
theorem d_M_same_25 : decode b_M_same 25 = .ok (.getfield 32, 3) := by decide +kernel
theorem d_M_same_28 : decode b_M_same 28 = .ok (.iload_n 2, 1) := by decide +kernel
theorem d_M_same_29 : decode b_M_same 29 = .ok (.iaload, 1) := by decide +kernel
theorem d_M_same_30 : decode b_M_same 30 = .ok (.if_icmp .ne 7, 3) := by decide +kernel
theorem d_M_same_33 : decode b_M_same 33 = .ok (.iconst 1, 1) := by decide +kernel
theorem d_M_same_34 : decode b_M_same 34 = .ok (.goto 4, 3) := by decide +kernel
theorem d_M_same_37 : decode b_M_same 37 = .ok (.iconst 0, 1) := by decide +kernel
theorem d_M_same_38 : decode b_M_same 38 = .ok (.ireturn, 1) := by decide +kernel
theorem d_M_put_0 : decode b_M_put 0 = .ok (.aload_n 0, 1) := by decide +kernel
theorem d_M_put_1 : decode b_M_put 1 = .ok (.getfield 57, 3) := by decide +kernel
theorem d_M_put_4 : decode b_M_put 4 = .ok (.iload_n 1, 1) := by decide +kernel
theorem d_M_put_5 : decode b_M_put 5 = .ok (.iaload, 1) := by decide +kernel
theorem d_M_put_6 : decode b_M_put 6 = .ok (.ifCond .ge 12, 3) := by decide +kernel
theorem d_M_put_9 : decode b_M_put 9 = .ok (.aload_n 0, 1) := by decide +kernel
theorem d_M_put_10 : decode b_M_put 10 = .ok (.getfield 60, 3) := by decide +kernel
theorem d_M_put_13 : decode b_M_put 13 = .ok (.iload_n 2, 1) := by decide +kernel
theorem d_M_put_14 : decode b_M_put 14 = .ok (.iaload, 1) := by decide +kernel
theorem d_M_put_15 : decode b_M_put 15 = .ok (.ifCond .lt 29, 3) := by decide +kernel
theorem d_M_put_18 : decode b_M_put 18 = .ok (.aload_n 0, 1) := by decide +kernel
theorem d_M_put_19 : decode b_M_put 19 = .ok (.getfield 57, 3) := by decide +kernel
theorem d_M_put_22 : decode b_M_put 22 = .ok (.iload_n 1, 1) := by decide +kernel
theorem d_M_put_23 : decode b_M_put 23 = .ok (.iaload, 1) := by decide +kernel
theorem d_M_put_24 : decode b_M_put 24 = .ok (.iload_n 2, 1) := by decide +kernel
theorem d_M_put_25 : decode b_M_put 25 = .ok (.if_icmp .ne 17, 3) := by decide +kernel
theorem d_M_put_28 : decode b_M_put 28 = .ok (.aload_n 0, 1) := by decide +kernel
theorem d_M_put_29 : decode b_M_put 29 = .ok (.getfield 60, 3) := by decide +kernel
theorem d_M_put_32 : decode b_M_put 32 = .ok (.iload_n 2, 1) := by decide +kernel
theorem d_M_put_33 : decode b_M_put 33 = .ok (.iaload, 1) := by decide +kernel
theorem d_M_put_34 : decode b_M_put 34 = .ok (.iload_n 1, 1) := by decide +kernel
theorem d_M_put_35 : decode b_M_put 35 = .ok (.if_icmp .ne 7, 3) := by decide +kernel
theorem d_M_put_38 : decode b_M_put 38 = .ok (.iconst 1, 1) := by decide +kernel
theorem d_M_put_39 : decode b_M_put 39 = .ok (.goto 4, 3) := by decide +kernel
theorem d_M_put_42 : decode b_M_put 42 = .ok (.iconst 0, 1) := by decide +kernel
theorem d_M_put_43 : decode b_M_put 43 = .ok (.ireturn, 1) := by decide +kernel
theorem d_M_put_44 : decode b_M_put 44 = .ok (.aload_n 0, 1) := by decide +kernel
theorem d_M_put_45 : decode b_M_put 45 = .ok (.getfield 35, 3) := by decide +kernel
theorem d_M_put_48 : decode b_M_put 48 = .ok (.iload_n 1, 1) := by decide +kernel
theorem d_M_put_49 : decode b_M_put 49 = .ok (.iaload, 1) := by decide +kernel
theorem d_M_put_50 : decode b_M_put 50 = .ok (.aload_n 0, 1) := by decide +kernel
theorem d_M_put_51 : decode b_M_put 51 = .ok (.getfield 35, 3) := by decide +kernel
theorem d_M_put_54 : decode b_M_put 54 = .ok (.iload_n 2, 1) := by decide +kernel
theorem d_M_put_55 : decode b_M_put 55 = .ok (.iaload, 1) := by decide +kernel
theorem d_M_put_56 : decode b_M_put 56 = .ok (.if_icmp .eq 5, 3) := by decide +kernel
theorem d_M_put_59 : decode b_M_put 59 = .ok (.iconst 0, 1) := by decide +kernel
theorem d_M_put_60 : decode b_M_put 60 = .ok (.ireturn, 1) := by decide +kernel
theorem d_M_put_61 : decode b_M_put 61 = .ok (.aload_n 0, 1) := by decide +kernel
theorem d_M_put_62 : decode b_M_put 62 = .ok (.getfield 57, 3) := by decide +kernel
theorem d_M_put_65 : decode b_M_put 65 = .ok (.iload_n 1, 1) := by decide +kernel
theorem d_M_put_66 : decode b_M_put 66 = .ok (.iload_n 2, 1) := by decide +kernel
theorem d_M_put_67 : decode b_M_put 67 = .ok (.iastore, 1) := by decide +kernel
theorem d_M_put_68 : decode b_M_put 68 = .ok (.aload_n 0, 1) := by decide +kernel
theorem d_M_put_69 : decode b_M_put 69 = .ok (.getfield 60, 3) := by decide +kernel
theorem d_M_put_72 : decode b_M_put 72 = .ok (.iload_n 2, 1) := by decide +kernel
theorem d_M_put_73 : decode b_M_put 73 = .ok (.iload_n 1, 1) := by decide +kernel
theorem d_M_put_74 : decode b_M_put 74 = .ok (.iastore, 1) := by decide +kernel
theorem d_M_put_75 : decode b_M_put 75 = .ok (.aload_n 0, 1) := by decide +kernel
theorem d_M_put_76 : decode b_M_put 76 = .ok (.getfield 35, 3) := by decide +kernel
theorem d_M_put_79 : decode b_M_put 79 = .ok (.iload_n 1, 1) := by decide +kernel
theorem d_M_put_80 : decode b_M_put 80 = .ok (.iaload, 1) := by decide +kernel
theorem d_M_put_81 : decode b_M_put 81 = .ok (.ifCond .eq 51, 3) := by decide +kernel
theorem d_M_put_84 : decode b_M_put 84 = .ok (.aload_n 0, 1) := by decide +kernel
theorem d_M_put_85 : decode b_M_put 85 = .ok (.getfield 35, 3) := by decide +kernel
theorem d_M_put_88 : decode b_M_put 88 = .ok (.iload_n 1, 1) := by decide +kernel
theorem d_M_put_89 : decode b_M_put 89 = .ok (.iaload, 1) := by decide +kernel
theorem d_M_put_90 : decode b_M_put 90 = .ok (.iconst 1, 1) := by decide +kernel
theorem d_M_put_91 : decode b_M_put 91 = .ok (.if_icmp .eq 41, 3) := by decide +kernel
theorem d_M_put_94 : decode b_M_put 94 = .ok (.aload_n 0, 1) := by decide +kernel
theorem d_M_put_95 : decode b_M_put 95 = .ok (.aload_n 0, 1) := by decide +kernel
theorem d_M_put_96 : decode b_M_put 96 = .ok (.getfield 38, 3) := by decide +kernel
theorem d_M_put_99 : decode b_M_put 99 = .ok (.iload_n 1, 1) := by decide +kernel
theorem d_M_put_100 : decode b_M_put 100 = .ok (.iaload, 1) := by decide +kernel
theorem d_M_put_101 : decode b_M_put 101 = .ok (.aload_n 0, 1) := by decide +kernel
theorem d_M_put_102 : decode b_M_put 102 = .ok (.getfield 38, 3) := by decide +kernel
theorem d_M_put_105 : decode b_M_put 105 = .ok (.iload_n 2, 1) := by decide +kernel
theorem d_M_put_106 : decode b_M_put 106 = .ok (.iaload, 1) := by decide +kernel
theorem d_M_put_107 : decode b_M_put 107 = .ok (.invokevirtual 116, 3) := by decide +kernel
theorem d_M_put_110 : decode b_M_put 110 = .ok (.ifCond .eq 26, 3) := by decide +kernel
theorem d_M_put_113 : decode b_M_put 113 = .ok (.aload_n 0, 1) := by decide +kernel
theorem d_M_put_114 : decode b_M_put 114 = .ok (.aload_n 0, 1) := by decide +kernel
theorem d_M_put_115 : decode b_M_put 115 = .ok (.getfield 41, 3) := by decide +kernel
theorem d_M_put_118 : decode b_M_put 118 = .ok (.iload_n 1, 1) := by decide +kernel
theorem d_M_put_119 : decode b_M_put 119 = .ok (.iaload, 1) := by decide +kernel
theorem d_M_put_120 : decode b_M_put 120 = .ok (.aload_n 0, 1) := by decide +kernel
theorem d_M_put_121 : decode b_M_put 121 = .ok (.getfield 41, 3) := by decide +kernel
theorem d_M_put_124 : decode b_M_put 124 = .ok (.iload_n 2, 1) := by decide +kernel
theorem d_M_put_125 : decode b_M_put 125 = .ok (.iaload, 1) := by decide +kernel
theorem d_M_put_126 : decode b_M_put 126 = .ok (.invokevirtual 116, 3) := by decide +kernel
theorem d_M_put_129 : decode b_M_put 129 = .ok (.ifCond .eq 7, 3) := by decide +kernel
theorem d_M_put_132 : decode b_M_put 132 = .ok (.iconst 1, 1) := by decide +kernel
theorem d_M_put_133 : decode b_M_put 133 = .ok (.goto 4, 3) := by decide +kernel
theorem d_M_put_136 : decode b_M_put 136 = .ok (.iconst 0, 1) := by decide +kernel
theorem d_M_put_137 : decode b_M_put 137 = .ok (.ireturn, 1) := by decide +kernel
theorem d_M_renamed_0 : decode b_M_renamed 0 = .ok (.aload_n 0, 1) := by decide +kernel
theorem d_M_renamed_1 : decode b_M_renamed 1 = .ok (.iload_n 1, 1) := by decide +kernel
theorem d_M_renamed_2 : decode b_M_renamed 2 = .ok (.invokevirtual 113, 3) := by decide +kernel
theorem d_M_renamed_5 : decode b_M_renamed 5 = .ok (.ifCond .ne 11, 3) := by decide +kernel
theorem d_M_renamed_8 : decode b_M_renamed 8 = .ok (.aload_n 0, 1) := by decide +kernel
theorem d_M_renamed_9 : decode b_M_renamed 9 = .ok (.iload_n 2, 1) := by decide +kernel
theorem d_M_renamed_10 : decode b_M_renamed 10 = .ok (.invokevirtual 77, 3) := by decide +kernel
theorem d_M_renamed_13 : decode b_M_renamed 13 = .ok (.ifCond .eq 5, 3) := by decide +kernel
theorem d_M_renamed_16 : decode b_M_renamed 16 = .ok (.iconst 0, 1) := by decide +kernel
theorem d_M_renamed_17 : decode b_M_renamed 17 = .ok (.ireturn, 1) := by decide +kernel
theorem d_M_renamed_18 : decode b_M_renamed 18 = .ok (.iconst 0, 1) := by decide +kernel
theorem d_M_renamed_19 : decode b_M_renamed 19 = .ok (.istore_n 3, 1) := by decide +kernel
theorem d_M_renamed_20 : decode b_M_renamed 20 = .ok (.iload_n 3, 1) := by decide +kernel
theorem d_M_renamed_21 : decode b_M_renamed 21 = .ok (.aload_n 0, 1) := by decide +kernel
theorem d_M_renamed_22 : decode b_M_renamed 22 = .ok (.getfield 47, 3) := by decide +kernel
theorem d_M_renamed_25 : decode b_M_renamed 25 = .ok (.if_icmp .ge 23, 3) := by decide +kernel
theorem d_M_renamed_28 : decode b_M_renamed 28 = .ok (.aload_n 0, 1) := by decide +kernel
theorem d_M_renamed_29 : decode b_M_renamed 29 = .ok (.getfield 57, 3) := by decide +kernel
theorem d_M_renamed_32 : decode b_M_renamed 32 = .ok (.iload_n 3, 1) := by decide +kernel
theorem d_M_renamed_33 : decode b_M_renamed 33 = .ok (.iconst (-1), 1) := by decide +kernel
theorem d_M_renamed_34 : decode b_M_renamed 34 = .ok (.iastore, 1) := by decide +kernel
theorem d_M_renamed_35 : decode b_M_renamed 35 = .ok (.aload_n 0, 1) := by decide +kernel
theorem d_M_renamed_36 : decode b_M_renamed 36 = .ok (.getfield 60, 3) := by decide +kernel
theorem d_M_renamed_39 : decode b_M_renamed 39 = .ok (.iload_n 3, 1) := by decide +kernel
theorem d_M_renamed_40 : decode b_M_renamed 40 = .ok (.iconst (-1), 1) := by decide +kernel
theorem d_M_renamed_41 : decode b_M_renamed 41 = .ok (.iastore, 1) := by decide +kernel
theorem d_M_renamed_42 : decode b_M_renamed 42 = .ok (.iinc 3 1, 3) := by decide +kernel
theorem d_M_renamed_45 : decode b_M_renamed 45 = .ok (.goto (-25), 3) := by decide +kernel
theorem d_M_renamed_48 : decode b_M_renamed 48 = .ok (.aload_n 0, 1) := by decide +kernel
theorem d_M_renamed_49 : decode b_M_renamed 49 = .ok (.aload_n 0, 1) := by decide +kernel
theorem d_M_renamed_50 : decode b_M_renamed 50 = .ok (.getfield 32, 3) := by decide +kernel
theorem d_M_renamed_53 : decode b_M_renamed 53 = .ok (.iload_n 1, 1) := by decide +kernel
theorem d_M_renamed_54 : decode b_M_renamed 54 = .ok (.iaload, 1) := by decide +kernel
theorem d_M_renamed_55 : decode b_M_renamed 55 = .ok (.aload_n 0, 1) := by decide +kernel
theorem d_M_renamed_56 : decode b_M_renamed 56 = .ok (.getfield 32, 3) := by decide +kernel
theorem d_M_renamed_59 : decode b_M_renamed 59 = .ok (.iload_n 2, 1) := by decide +kernel
theorem d_M_renamed_60 : decode b_M_renamed 60 = .ok (.iaload, 1) := by decide +kernel
theorem d_M_renamed_61 : decode b_M_renamed 61 = .ok (.invokevirtual 116, 3) := by decide +kernel
theorem d_M_renamed_64 : decode b_M_renamed 64 = .ok (.ireturn, 1) := by decide +kernel
theorem d_M_kind_0 : decode b_M_kind 0 = .ok (.aload_n 0, 1) := by decide +kernel
theorem d_M_kind_1 : decode b_M_kind 1 = .ok (.iload_n 1, 1) := by decide +kernel
theorem d_M_kind_2 : decode b_M_kind 2 = .ok (.invokevirtual 113, 3) := by decide +kernel
theorem d_M_kind_5 : decode b_M_kind 5 = .ok (.ifCond .eq 5, 3) := by decide +kernel
theorem d_M_kind_8 : decode b_M_kind 8 = .ok (.iconst 0, 1) := by decide +kernel
theorem d_M_kind_9 : decode b_M_kind 9 = .ok (.ireturn, 1) := by decide +kernel
theorem d_M_kind_10 : decode b_M_kind 10 = .ok (.aload_n 0, 1) := by decide +kernel
theorem d_M_kind_11 : decode b_M_kind 11 = .ok (.getfield 35, 3) := by decide +kernel
theorem d_M_kind_14 : decode b_M_kind 14 = .ok (.aload_n 0, 1) := by decide +kernel
theorem d_M_kind_15 : decode b_M_kind 15 = .ok (.getfield 32, 3) := by decide +kernel
theorem d_M_kind_18 : decode b_M_kind 18 = .ok (.iload_n 1, 1) := by decide +kernel
theorem d_M_kind_19 : decode b_M_kind 19 = .ok (.iaload, 1) := by decide +kernel
theorem d_M_kind_20 : decode b_M_kind 20 = .ok (.iaload, 1) := by decide +kernel
theorem d_M_kind_21 : decode b_M_kind 21 = .ok (.ireturn, 1) := by decide +kernel
theorem d_M_part_0 : decode b_M_part 0 = .ok (.aload_n 0, 1) := by decide +kernel
theorem d_M_part_1 : decode b_M_part 1 = .ok (.iload_n 1, 1) := by decide +kernel
theorem d_M_part_2 : decode b_M_part 2 = .ok (.invokevirtual 113, 3) := by decide +kernel
theorem d_M_part_5 : decode b_M_part 5 = .ok (.ifCond .ne 31, 3) := by decide +kernel
theorem d_M_part_8 : decode b_M_part 8 = .ok (.aload_n 0, 1) := by decide +kernel
theorem d_M_part_9 : decode b_M_part 9 = .ok (.iconst 1, 1) := by decide +kernel
theorem d_M_part_10 : decode b_M_part 10 = .ok (.aload_n 0, 1) := by decide +kernel
theorem d_M_part_11 : decode b_M_part 11 = .ok (.getfield 35, 3) := by decide +kernel
theorem d_M_part_14 : decode b_M_part 14 = .ok (.aload_n 0, 1) := by decide +kernel
theorem d_M_part_15 : decode b_M_part 15 = .ok (.getfield 32, 3) := by decide +kernel
theorem d_M_part_18 : decode b_M_part 18 = .ok (.iload_n 1, 1) := by decide +kernel
theorem d_M_part_19 : decode b_M_part 19 = .ok (.iaload, 1) := by decide +kernel
theorem d_M_part_20 : decode b_M_part 20 = .ok (.iaload, 1) := by decide +kernel
theorem d_M_part_21 : decode b_M_part 21 = .ok (.iconst 2, 1) := by decide +kernel
theorem d_M_part_22 : decode b_M_part 22 = .ok (.if_icmp .ge 7, 3) := by decide +kernel
theorem d_M_part_25 : decode b_M_part 25 = .ok (.iconst 1, 1) := by decide +kernel
theorem d_M_part_26 : decode b_M_part 26 = .ok (.goto 4, 3) := by decide +kernel
theorem d_M_part_29 : decode b_M_part 29 = .ok (.iconst 0, 1) := by decide +kernel
theorem d_M_part_30 : decode b_M_part 30 = .ok (.invokevirtual 73, 3) := by decide +kernel
theorem d_M_part_33 : decode b_M_part 33 = .ok (.ifCond .eq 5, 3) := by decide +kernel
theorem d_M_part_36 : decode b_M_part 36 = .ok (.iconst 0, 1) := by decide +kernel
theorem d_M_part_37 : decode b_M_part 37 = .ok (.ireturn, 1) := by decide +kernel
theorem d_M_part_38 : decode b_M_part 38 = .ok (.aload_n 0, 1) := by decide +kernel
theorem d_M_part_39 : decode b_M_part 39 = .ok (.getfield 44, 3) := by decide +kernel
theorem d_M_part_42 : decode b_M_part 42 = .ok (.iload_n 2, 1) := by decide +kernel
theorem d_M_part_43 : decode b_M_part 43 = .ok (.ifCond .eq 17, 3) := by decide +kernel
theorem d_M_part_46 : decode b_M_part 46 = .ok (.aload_n 0, 1) := by decide +kernel
theorem d_M_part_47 : decode b_M_part 47 = .ok (.getfield 41, 3) := by decide +kernel
theorem d_M_part_50 : decode b_M_part 50 = .ok (.aload_n 0, 1) := by decide +kernel
theorem d_M_part_51 : decode b_M_part 51 = .ok (.getfield 32, 3) := by decide +kernel
theorem d_M_part_54 : decode b_M_part 54 = .ok (.iload_n 1, 1) := by decide +kernel
theorem d_M_part_55 : decode b_M_part 55 = .ok (.iaload, 1) := by decide +kernel
theorem d_M_part_56 : decode b_M_part 56 = .ok (.iaload, 1) := by decide +kernel
theorem d_M_part_57 : decode b_M_part 57 = .ok (.goto 14, 3) := by decide +kernel
theorem d_M_part_60 : decode b_M_part 60 = .ok (.aload_n 0, 1) := by decide +kernel
theorem d_M_part_61 : decode b_M_part 61 = .ok (.getfield 38, 3) := by decide +kernel
theorem d_M_part_64 : decode b_M_part 64 = .ok (.aload_n 0, 1) := by decide +kernel
theorem d_M_part_65 : decode b_M_part 65 = .ok (.getfield 32, 3) := by decide +kernel
theorem d_M_part_68 : decode b_M_part 68 = .ok (.iload_n 1, 1) := by decide +kernel
theorem d_M_part_69 : decode b_M_part 69 = .ok (.iaload, 1) := by decide +kernel
theorem d_M_part_70 : decode b_M_part 70 = .ok (.iaload, 1) := by decide +kernel
theorem d_M_part_71 : decode b_M_part 71 = .ok (.iaload, 1) := by decide +kernel
theorem d_M_part_72 : decode b_M_part 72 = .ok (.ireturn, 1) := by decide +kernel
theorem d_M_size_0 : decode b_M_size 0 = .ok (.aload_n 0, 1) := by decide +kernel
theorem d_M_size_1 : decode b_M_size 1 = .ok (.iload_n 1, 1) := by decide +kernel
theorem d_M_size_2 : decode b_M_size 2 = .ok (.invokevirtual 113, 3) := by decide +kernel
theorem d_M_size_5 : decode b_M_size 5 = .ok (.ifCond .eq 5, 3) := by decide +kernel
theorem d_M_size_8 : decode b_M_size 8 = .ok (.iconst 0, 1) := by decide +kernel
theorem d_M_size_9 : decode b_M_size 9 = .ok (.ireturn, 1) := by decide +kernel
theorem d_M_size_10 : decode b_M_size 10 = .ok (.iconst 0, 1) := by decide +kernel
theorem d_M_size_11 : decode b_M_size 11 = .ok (.istore_n 2, 1) := by decide +kernel
theorem d_M_size_12 : decode b_M_size 12 = .ok (.iload_n 2, 1) := by decide +kernel
theorem d_M_size_13 : decode b_M_size 13 = .ok (.aload_n 0, 1) := by decide +kernel
theorem d_M_size_14 : decode b_M_size 14 = .ok (.getfield 32, 3) := by decide +kernel
theorem d_M_size_17 : decode b_M_size 17 = .ok (.iload_n 1, 1) := by decide +kernel
theorem d_M_size_18 : decode b_M_size 18 = .ok (.iaload, 1) := by decide +kernel
theorem d_M_size_19 : decode b_M_size 19 = .ok (.if_icmp .gt 112, 3) := by decide +kernel
theorem d_M_size_22 : decode b_M_size 22 = .ok (.aload_n 0, 1) := by decide +kernel
theorem d_M_size_23 : decode b_M_size 23 = .ok (.getfield 35, 3) := by decide +kernel
theorem d_M_size_26 : decode b_M_size 26 = .ok (.iload_n 2, 1) := by decide +kernel
theorem d_M_size_27 : decode b_M_size 27 = .ok (.iaload, 1) := by decide +kernel
theorem d_M_size_28 : decode b_M_size 28 = .ok (.iconst 2, 1) := by decide +kernel
theorem d_M_size_29 : decode b_M_size 29 = .ok (.if_icmp .ge 7, 3) := by decide +kernel
theorem d_M_size_32 : decode b_M_size 32 = .ok (.iconst 0, 1) := by decide +kernel
theorem d_M_size_33 : decode b_M_size 33 = .ok (.goto 14, 3) := by decide +kernel
theorem d_M_size_36 : decode b_M_size 36 = .ok (.aload_n 0, 1) := by decide +kernel
theorem d_M_size_37 : decode b_M_size 37 = .ok (.getfield 63, 3) := by decide +kernel
theorem d_M_size_40 : decode b_M_size 40 = .ok (.aload_n 0, 1) := by decide +kernel
theorem d_M_size_41 : decode b_M_size 41 = .ok (.getfield 38, 3) := by decide +kernel
theorem d_M_size_44 : decode b_M_size 44 = .ok (.iload_n 2, 1) := by decide +kernel
theorem d_M_size_45 : decode b_M_size 45 = .ok (.iaload, 1) := by decide +kernel
theorem d_M_size_46 : decode b_M_size 46 = .ok (.iaload, 1) := by decide +kernel
theorem d_M_size_47 : decode b_M_size 47 = .ok (.istore_n 3, 1) := by decide +kernel
theorem d_M_size_48 : decode b_M_size 48 = .ok (.aload_n 0, 1) := by decide +kernel
theorem d_M_size_49 : decode b_M_size 49 = .ok (.getfield 35, 3) := by decide +kernel
theorem d_M_size_52 : decode b_M_size 52 = .ok (.iload_n 2, 1) := by decide +kernel
theorem d_M_size_53 : decode b_M_size 53 = .ok (.iaload, 1) := by decide +kernel
theorem d_M_size_54 : decode b_M_size 54 = .ok (.iconst 2, 1) := by decide +kernel
theorem d_M_size_55 : decode b_M_size 55 = .ok (.if_icmp .ge 7, 3) := by decide +kernel
theorem d_M_size_58 : decode b_M_size 58 = .ok (.iconst 0, 1) := by decide +kernel
theorem d_M_size_59 : decode b_M_size 59 = .ok (.goto 14, 3) := by decide +kernel
theorem d_M_size_62 : decode b_M_size 62 = .ok (.aload_n 0, 1) := by decide +kernel
theorem d_M_size_63 : decode b_M_size 63 = .ok (.getfield 63, 3) := by decide +kernel
theorem d_M_size_66 : decode b_M_size 66 = .ok (.aload_n 0, 1) := by decide +kernel
theorem d_M_size_67 : decode b_M_size 67 = .ok (.getfield 41, 3) := by decide +kernel
theorem d_M_size_70 : decode b_M_size 70 = .ok (.iload_n 2, 1) := by decide +kernel
theorem d_M_size_71 : decode b_M_size 71 = .ok (.iaload, 1) := by decide +kernel
theorem d_M_size_72 : decode b_M_size 72 = .ok (.iaload, 1) := by decide +kernel
theorem d_M_size_73 : decode b_M_size 73 = .ok (.istore 4, 2) := by decide +kernel
theorem d_M_size_75 : decode b_M_size 75 = .ok (.aload_n 0, 1) := by decide +kernel
theorem d_M_size_76 : decode b_M_size 76 = .ok (.getfield 63, 3) := by decide +kernel
theorem d_M_size_79 : decode b_M_size 79 = .ok (.iload_n 2, 1) := by decide +kernel
theorem d_M_size_80 : decode b_M_size 80 = .ok (.aload_n 0, 1) := by decide +kernel
theorem d_M_size_81 : decode b_M_size 81 = .ok (.getfield 35, 3) := by decide +kernel
theorem d_M_size_84 : decode b_M_size 84 = .ok (.iload_n 2, 1) := by decide +kernel
theorem d_M_size_85 : decode b_M_size 85 = .ok (.iaload, 1) := by decide +kernel
theorem d_M_size_86 : decode b_M_size 86 = .ok (.iconst 2, 1) := by decide +kernel
theorem d_M_size_87 : decode b_M_size 87 = .ok (.if_icmp .ge 7, 3) := by decide +kernel
theorem d_M_size_90 : decode b_M_size 90 = .ok (.iconst 0, 1) := by decide +kernel
theorem d_M_size_91 : decode b_M_size 91 = .ok (.goto 33, 3) := by decide +kernel
theorem d_M_size_94 : decode b_M_size 94 = .ok (.ldc 119, 2) := by decide +kernel
theorem d_M_size_96 : decode b_M_size 96 = .ok (.aload_n 0, 1) := by decide +kernel
theorem d_M_size_97 : decode b_M_size 97 = .ok (.getfield 35, 3) := by decide +kernel
theorem d_M_size_100 : decode b_M_size 100 = .ok (.iload_n 2, 1) := by decide +kernel
theorem d_M_size_101 : decode b_M_size 101 = .ok (.iaload, 1) := by decide +kernel
theorem d_M_size_102 : decode b_M_size 102 = .ok (.iconst 2, 1) := by decide +kernel
theorem d_M_size_103 : decode b_M_size 103 = .ok (.if_icmp .ne 14, 3) := by decide +kernel
theorem d_M_size_106 : decode b_M_size 106 = .ok (.iconst 1, 1) := by decide +kernel
theorem d_M_size_107 : decode b_M_size 107 = .ok (.iload_n 3, 1) := by decide +kernel
theorem d_M_size_108 : decode b_M_size 108 = .ok (.iload 4, 2) := by decide +kernel
theorem d_M_size_110 : decode b_M_size 110 = .ok (.invokestatic 120, 3) := by decide +kernel
theorem d_M_size_113 : decode b_M_size 113 = .ok (.iadd, 1) := by decide +kernel
theorem d_M_size_114 : decode b_M_size 114 = .ok (.goto 7, 3) := by decide +kernel
theorem d_M_size_117 : decode b_M_size 117 = .ok (.iload_n 3, 1) := by decide +kernel
theorem d_M_size_118 : decode b_M_size 118 = .ok (.iload 4, 2) := by decide +kernel
theorem d_M_size_120 : decode b_M_size 120 = .ok (.iadd, 1) := by decide +kernel
theorem d_M_size_121 : decode b_M_size 121 = .ok (.invokestatic 126, 3) := by decide +kernel
theorem d_M_size_124 : decode b_M_size 124 = .ok (.iastore, 1) := by decide +kernel
theorem d_M_size_125 : decode b_M_size 125 = .ok (.iinc 2 1, 3) := by decide +kernel
theorem d_M_size_128 : decode b_M_size 128 = .ok (.goto (-116), 3) := by decide +kernel
theorem d_M_size_131 : decode b_M_size 131 = .ok (.aload_n 0, 1) := by decide +kernel
theorem d_M_size_132 : decode b_M_size 132 = .ok (.getfield 63, 3) := by decide +kernel
theorem d_M_size_135 : decode b_M_size 135 = .ok (.aload_n 0, 1) := by decide +kernel
theorem d_M_size_136 : decode b_M_size 136 = .ok (.getfield 32, 3) := by decide +kernel
theorem d_M_size_139 : decode b_M_size 139 = .ok (.iload_n 1, 1) := by decide +kernel
theorem d_M_size_140 : decode b_M_size 140 = .ok (.iaload, 1) := by decide +kernel
theorem d_M_size_141 : decode b_M_size 141 = .ok (.iaload, 1) := by decide +kernel
theorem d_M_size_142 : decode b_M_size 142 = .ok (.ireturn, 1) := by decide +kernel
theorem d_M_values_0 : decode b_M_values 0 = .ok (.aload_n 0, 1) := by decide +kernel
theorem d_M_values_1 : decode b_M_values 1 = .ok (.iload_n 1, 1) := by decide +kernel
theorem d_M_values_2 : decode b_M_values 2 = .ok (.invokevirtual 113, 3) := by decide +kernel
theorem d_M_values_5 : decode b_M_values 5 = .ok (.ifCond .eq 5, 3) := by decide +kernel
theorem d_M_values_8 : decode b_M_values 8 = .ok (.iconst 0, 1) := by decide +kernel
theorem d_M_values_9 : decode b_M_values 9 = .ok (.ireturn, 1) := by decide +kernel
theorem d_M_values_10 : decode b_M_values 10 = .ok (.iconst 0, 1) := by decide +kernel
theorem d_M_values_11 : decode b_M_values 11 = .ok (.istore_n 2, 1) := by decide +kernel
theorem d_M_values_12 : decode b_M_values 12 = .ok (.iload_n 2, 1) := by decide +kernel
theorem d_M_values_13 : decode b_M_values 13 = .ok (.aload_n 0, 1) := by decide +kernel
theorem d_M_values_14 : decode b_M_values 14 = .ok (.getfield 32, 3) := by decide +kernel
theorem d_M_values_17 : decode b_M_values 17 = .ok (.iload_n 1, 1) := by decide +kernel
theorem d_M_values_18 : decode b_M_values 18 = .ok (.iaload, 1) := by decide +kernel
theorem d_M_values_19 : decode b_M_values 19 = .ok (.if_icmp .gt 112, 3) := by decide +kernel
theorem d_M_values_22 : decode b_M_values 22 = .ok (.aload_n 0, 1) := by decide +kernel
theorem d_M_values_23 : decode b_M_values 23 = .ok (.getfield 35, 3) := by decide +kernel
theorem d_M_values_26 : decode b_M_values 26 = .ok (.iload_n 2, 1) := by decide +kernel
theorem d_M_values_27 : decode b_M_values 27 = .ok (.iaload, 1) := by decide +kernel
theorem d_M_values_28 : decode b_M_values 28 = .ok (.iconst 2, 1) := by decide +kernel
theorem d_M_values_29 : decode b_M_values 29 = .ok (.if_icmp .ge 7, 3) := by decide +kernel
theorem d_M_values_32 : decode b_M_values 32 = .ok (.lconst 1, 1) := by decide +kernel
theorem d_M_values_33 : decode b_M_values 33 = .ok (.goto 15, 3) := by decide +kernel
theorem d_M_values_36 : decode b_M_values 36 = .ok (.aload_n 0, 1) := by decide +kernel
theorem d_M_values_37 : decode b_M_values 37 = .ok (.getfield 63, 3) := by decide +kernel
theorem d_M_values_40 : decode b_M_values 40 = .ok (.aload_n 0, 1) := by decide +kernel
theorem d_M_values_41 : decode b_M_values 41 = .ok (.getfield 38, 3) := by decide +kernel
theorem d_M_values_44 : decode b_M_values 44 = .ok (.iload_n 2, 1) := by decide +kernel
theorem d_M_values_45 : decode b_M_values 45 = .ok (.iaload, 1) := by decide +kernel
theorem d_M_values_46 : decode b_M_values 46 = .ok (.iaload, 1) := by decide +kernel
theorem d_M_values_47 : decode b_M_values 47 = .ok (.i2l, 1) := by decide +kernel
theorem d_M_values_48 : decode b_M_values 48 = .ok (.lstore_n 3, 1) := by decide +kernel
theorem d_M_values_49 : decode b_M_values 49 = .ok (.aload_n 0, 1) := by decide +kernel
theorem d_M_values_50 : decode b_M_values 50 = .ok (.getfield 35, 3) := by decide +kernel
theorem d_M_values_53 : decode b_M_values 53 = .ok (.iload_n 2, 1) := by decide +kernel
theorem d_M_values_54 : decode b_M_values 54 = .ok (.iaload, 1) := by decide +kernel
theorem d_M_values_55 : decode b_M_values 55 = .ok (.iconst 2, 1) := by decide +kernel
theorem d_M_values_56 : decode b_M_values 56 = .ok (.if_icmp .ge 7, 3) := by decide +kernel
theorem d_M_values_59 : decode b_M_values 59 = .ok (.lconst 1, 1) := by decide +kernel
theorem d_M_values_60 : decode b_M_values 60 = .ok (.goto 15, 3) := by decide +kernel
theorem d_M_values_63 : decode b_M_values 63 = .ok (.aload_n 0, 1) := by decide +kernel
theorem d_M_values_64 : decode b_M_values 64 = .ok (.getfield 63, 3) := by decide +kernel
theorem d_M_values_67 : decode b_M_values 67 = .ok (.aload_n 0, 1) := by decide +kernel
theorem d_M_values_68 : decode b_M_values 68 = .ok (.getfield 41, 3) := by decide +kernel
theorem d_M_values_71 : decode b_M_values 71 = .ok (.iload_n 2, 1) := by decide +kernel
theorem d_M_values_72 : decode b_M_values 72 = .ok (.iaload, 1) := by decide +kernel
theorem d_M_values_73 : decode b_M_values 73 = .ok (.iaload, 1) := by decide +kernel
theorem d_M_values_74 : decode b_M_values 74 = .ok (.i2l, 1) := by decide +kernel
theorem d_M_values_75 : decode b_M_values 75 = .ok (.lstore 5, 2) := by decide +kernel
theorem d_M_values_77 : decode b_M_values 77 = .ok (.aload_n 0, 1) := by decide +kernel
theorem d_M_values_78 : decode b_M_values 78 = .ok (.getfield 63, 3) := by decide +kernel
theorem d_M_values_81 : decode b_M_values 81 = .ok (.iload_n 2, 1) := by decide +kernel
theorem d_M_values_82 : decode b_M_values 82 = .ok (.aload_n 0, 1) := by decide +kernel
theorem d_M_values_83 : decode b_M_values 83 = .ok (.getfield 35, 3) := by decide +kernel
theorem d_M_values_86 : decode b_M_values 86 = .ok (.iload_n 2, 1) := by decide +kernel
theorem d_M_values_87 : decode b_M_values 87 = .ok (.iaload, 1) := by decide +kernel
theorem d_M_values_88 : decode b_M_values 88 = .ok (.iconst 2, 1) := by decide +kernel
theorem d_M_values_89 : decode b_M_values 89 = .ok (.if_icmp .ge 7, 3) := by decide +kernel
theorem d_M_values_92 : decode b_M_values 92 = .ok (.iconst 1, 1) := by decide +kernel
theorem d_M_values_93 : decode b_M_values 93 = .ok (.goto 31, 3) := by decide +kernel
theorem d_M_values_96 : decode b_M_values 96 = .ok (.ldc2_w 129, 3) := by decide +kernel
theorem d_M_values_99 : decode b_M_values 99 = .ok (.aload_n 0, 1) := by decide +kernel
theorem d_M_values_100 : decode b_M_values 100 = .ok (.getfield 35, 3) := by decide +kernel
theorem d_M_values_103 : decode b_M_values 103 = .ok (.iload_n 2, 1) := by decide +kernel
theorem d_M_values_104 : decode b_M_values 104 = .ok (.iaload, 1) := by decide +kernel
theorem d_M_values_105 : decode b_M_values 105 = .ok (.iconst 2, 1) := by decide +kernel
theorem d_M_values_106 : decode b_M_values 106 = .ok (.if_icmp .ne 10, 3) := by decide +kernel
theorem d_M_values_109 : decode b_M_values 109 = .ok (.lload_n 3, 1) := by decide +kernel
theorem d_M_values_110 : decode b_M_values 110 = .ok (.lload 5, 2) := by decide +kernel
theorem d_M_values_112 : decode b_M_values 112 = .ok (.ladd, 1) := by decide +kernel
theorem d_M_values_113 : decode b_M_values 113 = .ok (.goto 7, 3) := by decide +kernel
theorem d_M_values_116 : decode b_M_values 116 = .ok (.lload_n 3, 1) := by decide +kernel
theorem d_M_values_117 : decode b_M_values 117 = .ok (.lload 5, 2) := by decide +kernel
theorem d_M_values_119 : decode b_M_values 119 = .ok (.lmul, 1) := by decide +kernel
theorem d_M_values_120 : decode b_M_values 120 = .ok (.invokestatic 131, 3) := by decide +kernel
theorem d_M_values_123 : decode b_M_values 123 = .ok (.l2i, 1) := by decide +kernel
theorem d_M_values_124 : decode b_M_values 124 = .ok (.iastore, 1) := by decide +kernel
theorem d_M_values_125 : decode b_M_values 125 = .ok (.iinc 2 1, 3) := by decide +kernel
theorem d_M_values_128 : decode b_M_values 128 = .ok (.goto (-116), 3) := by decide +kernel
theorem d_M_values_131 : decode b_M_values 131 = .ok (.aload_n 0, 1) := by decide +kernel
theorem d_M_values_132 : decode b_M_values 132 = .ok (.getfield 63, 3) := by decide +kernel
theorem d_M_values_135 : decode b_M_values 135 = .ok (.aload_n 0, 1) := by decide +kernel
theorem d_M_values_136 : decode b_M_values 136 = .ok (.getfield 32, 3) := by decide +kernel
theorem d_M_values_139 : decode b_M_values 139 = .ok (.iload_n 1, 1) := by decide +kernel
theorem d_M_values_140 : decode b_M_values 140 = .ok (.iaload, 1) := by decide +kernel
theorem d_M_values_141 : decode b_M_values 141 = .ok (.iaload, 1) := by decide +kernel
theorem d_M_values_142 : decode b_M_values 142 = .ok (.ireturn, 1) := by decide +kernel
theorem d_M_frees_0 : decode b_M_frees 0 = .ok (.aload_n 0, 1) := by decide +kernel
theorem d_M_frees_1 : decode b_M_frees 1 = .ok (.iload_n 1, 1) := by decide +kernel
theorem d_M_frees_2 : decode b_M_frees 2 = .ok (.invokevirtual 113, 3) := by decide +kernel
theorem d_M_frees_5 : decode b_M_frees 5 = .ok (.ifCond .eq 5, 3) := by decide +kernel
theorem d_M_frees_8 : decode b_M_frees 8 = .ok (.iconst 0, 1) := by decide +kernel
theorem d_M_frees_9 : decode b_M_frees 9 = .ok (.ireturn, 1) := by decide +kernel
theorem d_M_frees_10 : decode b_M_frees 10 = .ok (.iconst 0, 1) := by decide +kernel
theorem d_M_frees_11 : decode b_M_frees 11 = .ok (.istore_n 2, 1) := by decide +kernel
theorem d_M_frees_12 : decode b_M_frees 12 = .ok (.iload_n 2, 1) := by decide +kernel
theorem d_M_frees_13 : decode b_M_frees 13 = .ok (.aload_n 0, 1) := by decide +kernel
theorem d_M_frees_14 : decode b_M_frees 14 = .ok (.getfield 47, 3) := by decide +kernel
theorem d_M_frees_17 : decode b_M_frees 17 = .ok (.if_icmp .ge 16, 3) := by decide +kernel
theorem d_M_frees_20 : decode b_M_frees 20 = .ok (.aload_n 0, 1) := by decide +kernel
theorem d_M_frees_21 : decode b_M_frees 21 = .ok (.getfield 54, 3) := by decide +kernel
theorem d_M_frees_24 : decode b_M_frees 24 = .ok (.iload_n 2, 1) := by decide +kernel
theorem d_M_frees_25 : decode b_M_frees 25 = .ok (.iconst 0, 1) := by decide +kernel
theorem d_M_frees_26 : decode b_M_frees 26 = .ok (.iastore, 1) := by decide +kernel
theorem d_M_frees_27 : decode b_M_frees 27 = .ok (.iinc 2 1, 3) := by decide +kernel
theorem d_M_frees_30 : decode b_M_frees 30 = .ok (.goto (-18), 3) := by decide +kernel
theorem d_M_frees_33 : decode b_M_frees 33 = .ok (.aload_n 0, 1) := by decide +kernel
theorem d_M_frees_34 : decode b_M_frees 34 = .ok (.getfield 54, 3) := by decide +kernel
theorem d_M_frees_37 : decode b_M_frees 37 = .ok (.aload_n 0, 1) := by decide +kernel
theorem d_M_frees_38 : decode b_M_frees 38 = .ok (.getfield 32, 3) := by decide +kernel
theorem d_M_frees_41 : decode b_M_frees 41 = .ok (.iload_n 1, 1) := by decide +kernel
theorem d_M_frees_42 : decode b_M_frees 42 = .ok (.iaload, 1) := by decide +kernel
theorem d_M_frees_43 : decode b_M_frees 43 = .ok (.iconst 1, 1) := by decide +kernel
theorem d_M_frees_44 : decode b_M_frees 44 = .ok (.iastore, 1) := by decide +kernel
theorem d_M_frees_45 : decode b_M_frees 45 = .ok (.iconst 0, 1) := by decide +kernel
theorem d_M_frees_46 : decode b_M_frees 46 = .ok (.istore_n 2, 1) := by decide +kernel
theorem d_M_frees_47 : decode b_M_frees 47 = .ok (.aload_n 0, 1) := by decide +kernel
theorem d_M_frees_48 : decode b_M_frees 48 = .ok (.getfield 32, 3) := by decide +kernel
theorem d_M_frees_51 : decode b_M_frees 51 = .ok (.iload_n 1, 1) := by decide +kernel
theorem d_M_frees_52 : decode b_M_frees 52 = .ok (.iaload, 1) := by decide +kernel
theorem d_M_frees_53 : decode b_M_frees 53 = .ok (.istore_n 3, 1) := by decide +kernel
theorem d_M_frees_54 : decode b_M_frees 54 = .ok (.iload_n 3, 1) := by decide +kernel
theorem d_M_frees_55 : decode b_M_frees 55 = .ok (.ifCond .lt 70, 3) := by decide +kernel
theorem d_M_frees_58 : decode b_M_frees 58 = .ok (.aload_n 0, 1) := by decide +kernel
theorem d_M_frees_59 : decode b_M_frees 59 = .ok (.getfield 54, 3) := by decide +kernel
theorem d_M_frees_62 : decode b_M_frees 62 = .ok (.iload_n 3, 1) := by decide +kernel
theorem d_M_frees_63 : decode b_M_frees 63 = .ok (.iaload, 1) := by decide +kernel
theorem d_M_frees_64 : decode b_M_frees 64 = .ok (.ifCond .ne 6, 3) := by decide +kernel
theorem d_M_frees_67 : decode b_M_frees 67 = .ok (.goto 52, 3) := by decide +kernel
theorem d_M_frees_70 : decode b_M_frees 70 = .ok (.aload_n 0, 1) := by decide +kernel
theorem d_M_frees_71 : decode b_M_frees 71 = .ok (.getfield 35, 3) := by decide +kernel
theorem d_M_frees_74 : decode b_M_frees 74 = .ok (.iload_n 3, 1) := by decide +kernel
theorem d_M_frees_75 : decode b_M_frees 75 = .ok (.iaload, 1) := by decide +kernel
theorem d_M_frees_76 : decode b_M_frees 76 = .ok (.ifCond .ne 6, 3) := by decide +kernel
theorem d_M_frees_79 : decode b_M_frees 79 = .ok (.iinc 2 1, 3) := by decide +kernel
theorem d_M_frees_82 : decode b_M_frees 82 = .ok (.aload_n 0, 1) := by decide +kernel
theorem d_M_frees_83 : decode b_M_frees 83 = .ok (.getfield 35, 3) := by decide +kernel
theorem d_M_frees_86 : decode b_M_frees 86 = .ok (.iload_n 3, 1) := by decide +kernel
theorem d_M_frees_87 : decode b_M_frees 87 = .ok (.iaload, 1) := by decide +kernel
theorem d_M_frees_88 : decode b_M_frees 88 = .ok (.iconst 2, 1) := by decide +kernel
theorem d_M_frees_89 : decode b_M_frees 89 = .ok (.if_icmp .ge 6, 3) := by decide +kernel
theorem d_M_frees_92 : decode b_M_frees 92 = .ok (.goto 27, 3) := by decide +kernel
theorem d_M_frees_95 : decode b_M_frees 95 = .ok (.aload_n 0, 1) := by decide +kernel
theorem d_M_frees_96 : decode b_M_frees 96 = .ok (.getfield 54, 3) := by decide +kernel
theorem d_M_frees_99 : decode b_M_frees 99 = .ok (.aload_n 0, 1) := by decide +kernel
theorem d_M_frees_100 : decode b_M_frees 100 = .ok (.getfield 38, 3) := by decide +kernel
theorem d_M_frees_103 : decode b_M_frees 103 = .ok (.iload_n 3, 1) := by decide +kernel
theorem d_M_frees_104 : decode b_M_frees 104 = .ok (.iaload, 1) := by decide +kernel
theorem d_M_frees_105 : decode b_M_frees 105 = .ok (.iconst 1, 1) := by decide +kernel
theorem d_M_frees_106 : decode b_M_frees 106 = .ok (.iastore, 1) := by decide +kernel
theorem d_M_frees_107 : decode b_M_frees 107 = .ok (.aload_n 0, 1) := by decide +kernel
theorem d_M_frees_108 : decode b_M_frees 108 = .ok (.getfield 54, 3) := by decide +kernel
theorem d_M_frees_111 : decode b_M_frees 111 = .ok (.aload_n 0, 1) := by decide +kernel
theorem d_M_frees_112 : decode b_M_frees 112 = .ok (.getfield 41, 3) := by decide +kernel
theorem d_M_frees_115 : decode b_M_frees 115 = .ok (.iload_n 3, 1) := by decide +kernel
theorem d_M_frees_116 : decode b_M_frees 116 = .ok (.iaload, 1) := by decide +kernel
theorem d_M_frees_117 : decode b_M_frees 117 = .ok (.iconst 1, 1) := by decide +kernel
theorem d_M_frees_118 : decode b_M_frees 118 = .ok (.iastore, 1) := by decide +kernel
theorem d_M_frees_119 : decode b_M_frees 119 = .ok (.iinc 3 (-1), 3) := by decide +kernel
theorem d_M_frees_122 : decode b_M_frees 122 = .ok (.goto (-68), 3) := by decide +kernel
theorem d_M_frees_125 : decode b_M_frees 125 = .ok (.iload_n 2, 1) := by decide +kernel
theorem d_M_frees_126 : decode b_M_frees 126 = .ok (.ireturn, 1) := by decide +kernel
theorem d_M_clear_0 : decode b_M_clear 0 = .ok (.aload_n 0, 1) := by decide +kernel
theorem d_M_clear_1 : decode b_M_clear 1 = .ok (.iconst 0, 1) := by decide +kernel
theorem d_M_clear_2 : decode b_M_clear 2 = .ok (.putfield 7, 3) := by decide +kernel
theorem d_M_clear_5 : decode b_M_clear 5 = .ok (.aload_n 0, 1) := by decide +kernel
theorem d_M_clear_6 : decode b_M_clear 6 = .ok (.getfield 29, 3) := by decide +kernel
theorem d_M_clear_9 : decode b_M_clear 9 = .ok (.istore_n 1, 1) := by decide +kernel
theorem d_M_clear_10 : decode b_M_clear 10 = .ok (.aload_n 0, 1) := by decide +kernel
theorem d_M_clear_11 : decode b_M_clear 11 = .ok (.invokevirtual 66, 3) := by decide +kernel
theorem d_M_clear_14 : decode b_M_clear 14 = .ok (.iload_n 1, 1) := by decide +kernel
theorem d_M_clear_15 : decode b_M_clear 15 = .ok (.ireturn, 1) := by decide +kernel
theorem d_M_count_0 : decode b_M_count 0 = .ok (.aload_n 0, 1) := by decide +kernel
theorem d_M_count_1 : decode b_M_count 1 = .ok (.iconst 0, 1) := by decide +kernel
theorem d_M_count_2 : decode b_M_count 2 = .ok (.putfield 7, 3) := by decide +kernel
theorem d_M_count_5 : decode b_M_count 5 = .ok (.aload_n 0, 1) := by decide +kernel
theorem d_M_count_6 : decode b_M_count 6 = .ok (.invokevirtual 81, 3) := by decide +kernel
theorem d_M_count_9 : decode b_M_count 9 = .ok (.iconst 0, 1) := by decide +kernel
theorem d_M_count_10 : decode b_M_count 10 = .ok (.istore_n 2, 1) := by decide +kernel
theorem d_M_count_11 : decode b_M_count 11 = .ok (.iconst 0, 1) := by decide +kernel
theorem d_M_count_12 : decode b_M_count 12 = .ok (.istore_n 3, 1) := by decide +kernel
theorem d_M_count_13 : decode b_M_count 13 = .ok (.iload_n 3, 1) := by decide +kernel
theorem d_M_count_14 : decode b_M_count 14 = .ok (.aload_n 0, 1) := by decide +kernel
theorem d_M_count_15 : decode b_M_count 15 = .ok (.getfield 47, 3) := by decide +kernel
theorem d_M_count_18 : decode b_M_count 18 = .ok (.if_icmp .ge 21, 3) := by decide +kernel
theorem d_M_count_21 : decode b_M_count 21 = .ok (.aload_n 0, 1) := by decide +kernel
theorem d_M_count_22 : decode b_M_count 22 = .ok (.getfield 35, 3) := by decide +kernel
theorem d_M_count_25 : decode b_M_count 25 = .ok (.iload_n 3, 1) := by decide +kernel
theorem d_M_count_26 : decode b_M_count 26 = .ok (.iaload, 1) := by decide +kernel
theorem d_M_count_27 : decode b_M_count 27 = .ok (.ifCond .ne 6, 3) := by decide +kernel
theorem d_M_count_30 : decode b_M_count 30 = .ok (.iinc 2 1, 3) := by decide +kernel
theorem d_M_count_33 : decode b_M_count 33 = .ok (.iinc 3 1, 3) := by decide +kernel
theorem d_M_count_36 : decode b_M_count 36 = .ok (.goto (-23), 3) := by decide +kernel
theorem d_M_count_39 : decode b_M_count 39 = .ok (.iload_n 1, 1) := by decide +kernel
theorem d_M_count_40 : decode b_M_count 40 = .ok (.ifCond .ne 10, 3) := by decide +kernel
theorem d_M_count_43 : decode b_M_count 43 = .ok (.aload_n 0, 1) := by decide +kernel
theorem d_M_count_44 : decode b_M_count 44 = .ok (.getfield 29, 3) := by decide +kernel
theorem d_M_count_47 : decode b_M_count 47 = .ok (.goto 25, 3) := by decide +kernel
theorem d_M_count_50 : decode b_M_count 50 = .ok (.iload_n 1, 1) := by decide +kernel
theorem d_M_count_51 : decode b_M_count 51 = .ok (.iconst 1, 1) := by decide +kernel
theorem d_M_count_52 : decode b_M_count 52 = .ok (.if_icmp .ne 10, 3) := by decide +kernel
theorem d_M_count_55 : decode b_M_count 55 = .ok (.aload_n 0, 1) := by decide +kernel
theorem d_M_count_56 : decode b_M_count 56 = .ok (.getfield 47, 3) := by decide +kernel
theorem d_M_count_59 : decode b_M_count 59 = .ok (.goto 13, 3) := by decide +kernel
theorem d_M_count_62 : decode b_M_count 62 = .ok (.iload_n 1, 1) := by decide +kernel
theorem d_M_count_63 : decode b_M_count 63 = .ok (.iconst 2, 1) := by decide +kernel
theorem d_M_count_64 : decode b_M_count 64 = .ok (.if_icmp .ne 7, 3) := by decide +kernel
theorem d_M_count_67 : decode b_M_count 67 = .ok (.iload_n 2, 1) := by decide +kernel
theorem d_M_count_68 : decode b_M_count 68 = .ok (.goto 4, 3) := by decide +kernel
theorem d_M_count_71 : decode b_M_count 71 = .ok (.iconst (-1), 1) := by decide +kernel
theorem d_M_count_72 : decode b_M_count 72 = .ok (.ireturn, 1) := by decide +kernel
theorem d_P_init_0 : decode b_P_init 0 = .ok (.aload_n 0, 1) := by decide +kernel
theorem d_P_init_1 : decode b_P_init 1 = .ok (.invokespecial 3, 3) := by decide +kernel
theorem d_P_init_4 : decode b_P_init 4 = .ok (.aload_n 0, 1) := by decide +kernel
theorem d_P_init_5 : decode b_P_init 5 = .ok (.sipush 2002, 3) := by decide +kernel
theorem d_P_init_8 : decode b_P_init 8 = .ok (.newarray .int, 2) := by decide +kernel
theorem d_P_init_10 : decode b_P_init 10 = .ok (.putfield 9, 3) := by decide +kernel
theorem d_P_init_13 : decode b_P_init 13 = .ok (.return_, 1) := by decide +kernel
theorem d_P_startWith_0 : decode b_P_startWith 0 = .ok (.aload_n 0, 1) := by decide +kernel
theorem d_P_startWith_1 : decode b_P_startWith 1 = .ok (.getfield 9, 3) := by decide +kernel
theorem d_P_startWith_4 : decode b_P_startWith 4 = .ok (.iconst 0, 1) := by decide +kernel
theorem d_P_startWith_5 : decode b_P_startWith 5 = .ok (.iload_n 1, 1) := by decide +kernel
theorem d_P_startWith_6 : decode b_P_startWith 6 = .ok (.iastore, 1) := by decide +kernel
theorem d_P_startWith_7 : decode b_P_startWith 7 = .ok (.aload_n 0, 1) := by decide +kernel
theorem d_P_startWith_8 : decode b_P_startWith 8 = .ok (.getfield 9, 3) := by decide +kernel
theorem d_P_startWith_11 : decode b_P_startWith 11 = .ok (.iconst 1, 1) := by decide +kernel
theorem d_P_startWith_12 : decode b_P_startWith 12 = .ok (.iload_n 2, 1) := by decide +kernel
theorem d_P_startWith_13 : decode b_P_startWith 13 = .ok (.iastore, 1) := by decide +kernel
theorem d_P_startWith_14 : decode b_P_startWith 14 = .ok (.aload_n 0, 1) := by decide +kernel
theorem d_P_startWith_15 : decode b_P_startWith 15 = .ok (.iconst 2, 1) := by decide +kernel
theorem d_P_startWith_16 : decode b_P_startWith 16 = .ok (.putfield 15, 3) := by decide +kernel
theorem d_P_startWith_19 : decode b_P_startWith 19 = .ok (.return_, 1) := by decide +kernel
theorem d_P_put_0 : decode b_P_put 0 = .ok (.aload_n 0, 1) := by decide +kernel
theorem d_P_put_1 : decode b_P_put 1 = .ok (.getfield 9, 3) := by decide +kernel
theorem d_P_put_4 : decode b_P_put 4 = .ok (.aload_n 0, 1) := by decide +kernel
theorem d_P_put_5 : decode b_P_put 5 = .ok (.getfield 15, 3) := by decide +kernel
theorem d_P_put_8 : decode b_P_put 8 = .ok (.iload_n 1, 1) := by decide +kernel
theorem d_P_put_9 : decode b_P_put 9 = .ok (.iastore, 1) := by decide +kernel
theorem d_P_put_10 : decode b_P_put 10 = .ok (.aload_n 0, 1) := by decide +kernel
theorem d_P_put_11 : decode b_P_put 11 = .ok (.dup, 1) := by decide +kernel
theorem d_P_put_12 : decode b_P_put 12 = .ok (.getfield 15, 3) := by decide +kernel
theorem d_P_put_15 : decode b_P_put 15 = .ok (.iconst 1, 1) := by decide +kernel
theorem d_P_put_16 : decode b_P_put 16 = .ok (.iadd, 1) := by decide +kernel
theorem d_P_put_17 : decode b_P_put 17 = .ok (.putfield 15, 3) := by decide +kernel
theorem d_P_put_20 : decode b_P_put 20 = .ok (.return_, 1) := by decide +kernel
theorem d_P_take_0 : decode b_P_take 0 = .ok (.aload_n 0, 1) := by decide +kernel
theorem d_P_take_1 : decode b_P_take 1 = .ok (.dup, 1) := by decide +kernel
theorem d_P_take_2 : decode b_P_take 2 = .ok (.getfield 15, 3) := by decide +kernel
theorem d_P_take_5 : decode b_P_take 5 = .ok (.iconst 1, 1) := by decide +kernel
theorem d_P_take_6 : decode b_P_take 6 = .ok (.isub, 1) := by decide +kernel
theorem d_P_take_7 : decode b_P_take 7 = .ok (.putfield 15, 3) := by decide +kernel
theorem d_P_take_10 : decode b_P_take 10 = .ok (.aload_n 0, 1) := by decide +kernel
theorem d_P_take_11 : decode b_P_take 11 = .ok (.getfield 9, 3) := by decide +kernel
theorem d_P_take_14 : decode b_P_take 14 = .ok (.aload_n 0, 1) := by decide +kernel
theorem d_P_take_15 : decode b_P_take 15 = .ok (.getfield 15, 3) := by decide +kernel
theorem d_P_take_18 : decode b_P_take 18 = .ok (.iaload, 1) := by decide +kernel
theorem d_P_take_19 : decode b_P_take 19 = .ok (.ireturn, 1) := by decide +kernel
theorem d_P_top_0 : decode b_P_top 0 = .ok (.aload_n 0, 1) := by decide +kernel
theorem d_P_top_1 : decode b_P_top 1 = .ok (.getfield 9, 3) := by decide +kernel
theorem d_P_top_4 : decode b_P_top 4 = .ok (.aload_n 0, 1) := by decide +kernel
theorem d_P_top_5 : decode b_P_top 5 = .ok (.getfield 15, 3) := by decide +kernel
theorem d_P_top_8 : decode b_P_top 8 = .ok (.iconst 1, 1) := by decide +kernel
theorem d_P_top_9 : decode b_P_top 9 = .ok (.isub, 1) := by decide +kernel
theorem d_P_top_10 : decode b_P_top 10 = .ok (.iaload, 1) := by decide +kernel
theorem d_P_top_11 : decode b_P_top 11 = .ok (.ireturn, 1) := by decide +kernel
theorem d_S_init_0 : decode b_S_init 0 = .ok (.aload_n 0, 1) := by decide +kernel
theorem d_S_init_1 : decode b_S_init 1 = .ok (.invokespecial 3, 3) := by decide +kernel
theorem d_S_init_4 : decode b_S_init 4 = .ok (.aload_n 0, 1) := by decide +kernel
theorem d_S_init_5 : decode b_S_init 5 = .ok (.sipush 1000, 3) := by decide +kernel
theorem d_S_init_8 : decode b_S_init 8 = .ok (.newarray .int, 2) := by decide +kernel
theorem d_S_init_10 : decode b_S_init 10 = .ok (.putfield 9, 3) := by decide +kernel
theorem d_S_init_13 : decode b_S_init 13 = .ok (.aload_n 0, 1) := by decide +kernel
theorem d_S_init_14 : decode b_S_init 14 = .ok (.sipush 1000, 3) := by decide +kernel
theorem d_S_init_17 : decode b_S_init 17 = .ok (.newarray .int, 2) := by decide +kernel
theorem d_S_init_19 : decode b_S_init 19 = .ok (.putfield 15, 3) := by decide +kernel
theorem d_S_init_22 : decode b_S_init 22 = .ok (.aload_n 0, 1) := by decide +kernel
theorem d_S_init_23 : decode b_S_init 23 = .ok (.sipush 1000, 3) := by decide +kernel
theorem d_S_init_26 : decode b_S_init 26 = .ok (.newarray .int, 2) := by decide +kernel
theorem d_S_init_28 : decode b_S_init 28 = .ok (.putfield 18, 3) := by decide +kernel
theorem d_S_init_31 : decode b_S_init 31 = .ok (.aload_n 0, 1) := by decide +kernel
theorem d_S_init_32 : decode b_S_init 32 = .ok (.sipush 251, 3) := by decide +kernel
theorem d_S_init_35 : decode b_S_init 35 = .ok (.newarray .int, 2) := by decide +kernel
theorem d_S_init_37 : decode b_S_init 37 = .ok (.putfield 21, 3) := by decide +kernel
theorem d_S_init_40 : decode b_S_init 40 = .ok (.aload_n 0, 1) := by decide +kernel
theorem d_S_init_41 : decode b_S_init 41 = .ok (.sipush 1000, 3) := by decide +kernel
theorem d_S_init_44 : decode b_S_init 44 = .ok (.newarray .int, 2) := by decide +kernel
theorem d_S_init_46 : decode b_S_init 46 = .ok (.putfield 24, 3) := by decide +kernel
theorem d_S_init_49 : decode b_S_init 49 = .ok (.return_, 1) := by decide +kernel
theorem d_S_write_0 : decode b_S_write 0 = .ok (.aload_n 0, 1) := by decide +kernel
theorem d_S_write_1 : decode b_S_write 1 = .ok (.getfield 9, 3) := by decide +kernel
theorem d_S_write_4 : decode b_S_write 4 = .ok (.iload_n 1, 1) := by decide +kernel
theorem d_S_write_5 : decode b_S_write 5 = .ok (.iload_n 2, 1) := by decide +kernel
theorem d_S_write_6 : decode b_S_write 6 = .ok (.iastore, 1) := by decide +kernel
theorem d_S_write_7 : decode b_S_write 7 = .ok (.aload_n 0, 1) := by decide +kernel
theorem d_S_write_8 : decode b_S_write 8 = .ok (.getfield 15, 3) := by decide +kernel
theorem d_S_write_11 : decode b_S_write 11 = .ok (.iload_n 1, 1) := by decide +kernel
theorem d_S_write_12 : decode b_S_write 12 = .ok (.iload_n 3, 1) := by decide +kernel
theorem d_S_write_13 : decode b_S_write 13 = .ok (.iastore, 1) := by decide +kernel
theorem d_S_write_14 : decode b_S_write 14 = .ok (.aload_n 0, 1) := by decide +kernel
theorem d_S_write_15 : decode b_S_write 15 = .ok (.getfield 18, 3) := by decide +kernel
theorem d_S_write_18 : decode b_S_write 18 = .ok (.iload_n 1, 1) := by decide +kernel
theorem d_S_write_19 : decode b_S_write 19 = .ok (.iload 4, 2) := by decide +kernel
theorem d_S_write_21 : decode b_S_write 21 = .ok (.iastore, 1) := by decide +kernel
theorem d_S_write_22 : decode b_S_write 22 = .ok (.return_, 1) := by decide +kernel
theorem d_S_hasParts_0 : decode b_S_hasParts 0 = .ok (.aload_n 0, 1) := by decide +kernel
theorem d_S_hasParts_1 : decode b_S_hasParts 1 = .ok (.getfield 9, 3) := by decide +kernel
theorem d_S_hasParts_4 : decode b_S_hasParts 4 = .ok (.iload_n 1, 1) := by decide +kernel
theorem d_S_hasParts_5 : decode b_S_hasParts 5 = .ok (.iaload, 1) := by decide +kernel
theorem d_S_hasParts_6 : decode b_S_hasParts 6 = .ok (.iconst 2, 1) := by decide +kernel
theorem d_S_hasParts_7 : decode b_S_hasParts 7 = .ok (.if_icmp .eq 13, 3) := by decide +kernel
theorem d_S_hasParts_10 : decode b_S_hasParts 10 = .ok (.aload_n 0, 1) := by decide +kernel
theorem d_S_hasParts_11 : decode b_S_hasParts 11 = .ok (.getfield 9, 3) := by decide +kernel
theorem d_S_hasParts_14 : decode b_S_hasParts 14 = .ok (.iload_n 1, 1) := by decide +kernel
theorem d_S_hasParts_15 : decode b_S_hasParts 15 = .ok (.iaload, 1) := by decide +kernel
theorem d_S_hasParts_16 : decode b_S_hasParts 16 = .ok (.iconst 3, 1) := by decide +kernel
theorem d_S_hasParts_17 : decode b_S_hasParts 17 = .ok (.if_icmp .ne 7, 3) := by decide +kernel
theorem d_S_hasParts_20 : decode b_S_hasParts 20 = .ok (.iconst 1, 1) := by decide +kernel
theorem d_S_hasParts_21 : decode b_S_hasParts 21 = .ok (.goto 4, 3) := by decide +kernel
theorem d_S_hasParts_24 : decode b_S_hasParts 24 = .ok (.iconst 0, 1) := by decide +kernel
theorem d_S_hasParts_25 : decode b_S_hasParts 25 = .ok (.ireturn, 1) := by decide +kernel
theorem d_S_forgetWholes_0 : decode b_S_forgetWholes 0 = .ok (.aload_n 0, 1) := by decide +kernel
theorem d_S_forgetWholes_1 : decode b_S_forgetWholes 1 = .ok (.getfield 21, 3) := by decide +kernel
theorem d_S_forgetWholes_4 : decode b_S_forgetWholes 4 = .ok (.iconst (-1), 1) := by decide +kernel
theorem d_S_forgetWholes_5 : decode b_S_forgetWholes 5 = .ok (.invokestatic 27, 3) := by decide +kernel
theorem d_S_forgetWholes_8 : decode b_S_forgetWholes 8 = .ok (.return_, 1) := by decide +kernel
theorem d_S_enter_0 : decode b_S_enter 0 = .ok (.aload_n 0, 1) := by decide +kernel
theorem d_S_enter_1 : decode b_S_enter 1 = .ok (.iload_n 1, 1) := by decide +kernel
theorem d_S_enter_2 : decode b_S_enter 2 = .ok (.invokevirtual 33, 3) := by decide +kernel
theorem d_S_enter_5 : decode b_S_enter 5 = .ok (.istore_n 2, 1) := by decide +kernel
theorem d_S_enter_6 : decode b_S_enter 6 = .ok (.aload_n 0, 1) := by decide +kernel
theorem d_S_enter_7 : decode b_S_enter 7 = .ok (.getfield 24, 3) := by decide +kernel
theorem d_S_enter_10 : decode b_S_enter 10 = .ok (.iload_n 1, 1) := by decide +kernel
theorem d_S_enter_11 : decode b_S_enter 11 = .ok (.aload_n 0, 1) := by decide +kernel
theorem d_S_enter_12 : decode b_S_enter 12 = .ok (.getfield 21, 3) := by decide +kernel
theorem d_S_enter_15 : decode b_S_enter 15 = .ok (.iload_n 2, 1) := by decide +kernel
theorem d_S_enter_16 : decode b_S_enter 16 = .ok (.iaload, 1) := by decide +kernel
theorem d_S_enter_17 : decode b_S_enter 17 = .ok (.iastore, 1) := by decide +kernel
theorem d_S_enter_18 : decode b_S_enter 18 = .ok (.aload_n 0, 1) := by decide +kernel
theorem d_S_enter_19 : decode b_S_enter 19 = .ok (.getfield 21, 3) := by decide +kernel
theorem d_S_enter_22 : decode b_S_enter 22 = .ok (.iload_n 2, 1) := by decide +kernel
theorem d_S_enter_23 : decode b_S_enter 23 = .ok (.iload_n 1, 1) := by decide +kernel
theorem d_S_enter_24 : decode b_S_enter 24 = .ok (.iastore, 1) := by decide +kernel
theorem d_S_enter_25 : decode b_S_enter 25 = .ok (.return_, 1) := by decide +kernel
theorem d_S_twinOf_0 : decode b_S_twinOf 0 = .ok (.aload_n 0, 1) := by decide +kernel
theorem d_S_twinOf_1 : decode b_S_twinOf 1 = .ok (.getfield 21, 3) := by decide +kernel
theorem d_S_twinOf_4 : decode b_S_twinOf 4 = .ok (.aload_n 0, 1) := by decide +kernel
theorem d_S_twinOf_5 : decode b_S_twinOf 5 = .ok (.iload_n 1, 1) := by decide +kernel
theorem d_S_twinOf_6 : decode b_S_twinOf 6 = .ok (.invokevirtual 33, 3) := by decide +kernel
theorem d_S_twinOf_9 : decode b_S_twinOf 9 = .ok (.iaload, 1) := by decide +kernel
theorem d_S_twinOf_10 : decode b_S_twinOf 10 = .ok (.istore_n 2, 1) := by decide +kernel
theorem d_S_twinOf_11 : decode b_S_twinOf 11 = .ok (.iconst 0, 1) := by decide +kernel
theorem d_S_twinOf_12 : decode b_S_twinOf 12 = .ok (.istore_n 3, 1) := by decide +kernel
theorem d_S_twinOf_13 : decode b_S_twinOf 13 = .ok (.iload_n 3, 1) := by decide +kernel
theorem d_S_twinOf_14 : decode b_S_twinOf 14 = .ok (.sipush 1000, 3) := by decide +kernel
theorem d_S_twinOf_17 : decode b_S_twinOf 17 = .ok (.if_icmp .ge 32, 3) := by decide +kernel
theorem d_S_twinOf_20 : decode b_S_twinOf 20 = .ok (.iload_n 2, 1) := by decide +kernel
theorem d_S_twinOf_21 : decode b_S_twinOf 21 = .ok (.iconst (-1), 1) := by decide +kernel
theorem d_S_twinOf_22 : decode b_S_twinOf 22 = .ok (.if_icmp .eq 27, 3) := by decide +kernel
theorem d_S_twinOf_25 : decode b_S_twinOf 25 = .ok (.aload_n 0, 1) := by decide +kernel
theorem d_S_twinOf_26 : decode b_S_twinOf 26 = .ok (.iload_n 2, 1) := by decide +kernel
theorem d_S_twinOf_27 : decode b_S_twinOf 27 = .ok (.iload_n 1, 1) := by decide +kernel
theorem d_S_twinOf_28 : decode b_S_twinOf 28 = .ok (.invokevirtual 37, 3) := by decide +kernel
theorem d_S_twinOf_31 : decode b_S_twinOf 31 = .ok (.ifCond .eq 5, 3) := by decide +kernel
theorem d_S_twinOf_34 : decode b_S_twinOf 34 = .ok (.iload_n 2, 1) := by decide +kernel
theorem d_S_twinOf_35 : decode b_S_twinOf 35 = .ok (.ireturn, 1) := by decide +kernel
theorem d_S_twinOf_36 : decode b_S_twinOf 36 = .ok (.aload_n 0, 1) := by decide +kernel
theorem d_S_twinOf_37 : decode b_S_twinOf 37 = .ok (.getfield 24, 3) := by decide +kernel
theorem d_S_twinOf_40 : decode b_S_twinOf 40 = .ok (.iload_n 2, 1) := by decide +kernel
theorem d_S_twinOf_41 : decode b_S_twinOf 41 = .ok (.iaload, 1) := by decide +kernel
theorem d_S_twinOf_42 : decode b_S_twinOf 42 = .ok (.istore_n 2, 1) := by decide +kernel
theorem d_S_twinOf_43 : decode b_S_twinOf 43 = .ok (.iinc 3 1, 3) := by decide +kernel
theorem d_S_twinOf_46 : decode b_S_twinOf 46 = .ok (.goto (-33), 3) := by decide +kernel
theorem d_S_twinOf_49 : decode b_S_twinOf 49 = .ok (.iconst (-1), 1) := by decide +kernel
theorem d_S_twinOf_50 : decode b_S_twinOf 50 = .ok (.ireturn, 1) := by decide +kernel
theorem d_S_equalShapes_0 : decode b_S_equalShapes 0 = .ok (.aload_n 0, 1) := by decide +kernel
theorem d_S_equalShapes_1 : decode b_S_equalShapes 1 = .ok (.getfield 9, 3) := by decide +kernel
theorem d_S_equalShapes_4 : decode b_S_equalShapes 4 = .ok (.iload_n 1, 1) := by decide +kernel
theorem d_S_equalShapes_5 : decode b_S_equalShapes 5 = .ok (.iaload, 1) := by decide +kernel
theorem d_S_equalShapes_6 : decode b_S_equalShapes 6 = .ok (.aload_n 0, 1) := by decide +kernel
theorem d_S_equalShapes_7 : decode b_S_equalShapes 7 = .ok (.getfield 9, 3) := by decide +kernel
theorem d_S_equalShapes_10 : decode b_S_equalShapes 10 = .ok (.iload_n 2, 1) := by decide +kernel
theorem d_S_equalShapes_11 : decode b_S_equalShapes 11 = .ok (.iaload, 1) := by decide +kernel
theorem d_S_equalShapes_12 : decode b_S_equalShapes 12 = .ok (.if_icmp .ne 37, 3) := by decide +kernel
theorem d_S_equalShapes_15 : decode b_S_equalShapes 15 = .ok (.aload_n 0, 1) := by decide +kernel
theorem d_S_equalShapes_16 : decode b_S_equalShapes 16 = .ok (.getfield 15, 3) := by decide +kernel
theorem d_S_equalShapes_19 : decode b_S_equalShapes 19 = .ok (.iload_n 1, 1) := by decide +kernel
theorem d_S_equalShapes_20 : decode b_S_equalShapes 20 = .ok (.iaload, 1) := by decide +kernel
theorem d_S_equalShapes_21 : decode b_S_equalShapes 21 = .ok (.aload_n 0, 1) := by decide +kernel
theorem d_S_equalShapes_22 : decode b_S_equalShapes 22 = .ok (.getfield 15, 3) := by decide +kernel
theorem d_S_equalShapes_25 : decode b_S_equalShapes 25 = .ok (.iload_n 2, 1) := by decide +kernel
theorem d_S_equalShapes_26 : decode b_S_equalShapes 26 = .ok (.iaload, 1) := by decide +kernel
theorem d_S_equalShapes_27 : decode b_S_equalShapes 27 = .ok (.if_icmp .ne 22, 3) := by decide +kernel
theorem d_S_equalShapes_30 : decode b_S_equalShapes 30 = .ok (.aload_n 0, 1) := by decide +kernel
theorem d_S_equalShapes_31 : decode b_S_equalShapes 31 = .ok (.getfield 18, 3) := by decide +kernel
theorem d_S_equalShapes_34 : decode b_S_equalShapes 34 = .ok (.iload_n 1, 1) := by decide +kernel
theorem d_S_equalShapes_35 : decode b_S_equalShapes 35 = .ok (.iaload, 1) := by decide +kernel
theorem d_S_equalShapes_36 : decode b_S_equalShapes 36 = .ok (.aload_n 0, 1) := by decide +kernel
theorem d_S_equalShapes_37 : decode b_S_equalShapes 37 = .ok (.getfield 18, 3) := by decide +kernel
theorem d_S_equalShapes_40 : decode b_S_equalShapes 40 = .ok (.iload_n 2, 1) := by decide +kernel
theorem d_S_equalShapes_41 : decode b_S_equalShapes 41 = .ok (.iaload, 1) := by decide +kernel
theorem d_S_equalShapes_42 : decode b_S_equalShapes 42 = .ok (.if_icmp .ne 7, 3) := by decide +kernel
theorem d_S_equalShapes_45 : decode b_S_equalShapes 45 = .ok (.iconst 1, 1) := by decide +kernel
theorem d_S_equalShapes_46 : decode b_S_equalShapes 46 = .ok (.goto 4, 3) := by decide +kernel
theorem d_S_equalShapes_49 : decode b_S_equalShapes 49 = .ok (.iconst 0, 1) := by decide +kernel
theorem d_S_equalShapes_50 : decode b_S_equalShapes 50 = .ok (.ireturn, 1) := by decide +kernel
theorem d_S_slotOf_0 : decode b_S_slotOf 0 = .ok (.aload_n 0, 1) := by decide +kernel
theorem d_S_slotOf_1 : decode b_S_slotOf 1 = .ok (.getfield 15, 3) := by decide +kernel
theorem d_S_slotOf_4 : decode b_S_slotOf 4 = .ok (.iload_n 1, 1) := by decide +kernel
theorem d_S_slotOf_5 : decode b_S_slotOf 5 = .ok (.iaload, 1) := by decide +kernel
theorem d_S_slotOf_6 : decode b_S_slotOf 6 = .ok (.bipush 31, 2) := by decide +kernel
theorem d_S_slotOf_8 : decode b_S_slotOf 8 = .ok (.imul, 1) := by decide +kernel
theorem d_S_slotOf_9 : decode b_S_slotOf 9 = .ok (.aload_n 0, 1) := by decide +kernel
theorem d_S_slotOf_10 : decode b_S_slotOf 10 = .ok (.getfield 18, 3) := by decide +kernel
theorem d_S_slotOf_13 : decode b_S_slotOf 13 = .ok (.iload_n 1, 1) := by decide +kernel
theorem d_S_slotOf_14 : decode b_S_slotOf 14 = .ok (.iaload, 1) := by decide +kernel
theorem d_S_slotOf_15 : decode b_S_slotOf 15 = .ok (.iadd, 1) := by decide +kernel
theorem d_S_slotOf_16 : decode b_S_slotOf 16 = .ok (.iconst 2, 1) := by decide +kernel
theorem d_S_slotOf_17 : decode b_S_slotOf 17 = .ok (.imul, 1) := by decide +kernel
theorem d_S_slotOf_18 : decode b_S_slotOf 18 = .ok (.aload_n 0, 1) := by decide +kernel
theorem d_S_slotOf_19 : decode b_S_slotOf 19 = .ok (.getfield 9, 3) := by decide +kernel
theorem d_S_slotOf_22 : decode b_S_slotOf 22 = .ok (.iload_n 1, 1) := by decide +kernel
theorem d_S_slotOf_23 : decode b_S_slotOf 23 = .ok (.iaload, 1) := by decide +kernel
theorem d_S_slotOf_24 : decode b_S_slotOf 24 = .ok (.iadd, 1) := by decide +kernel
theorem d_S_slotOf_25 : decode b_S_slotOf 25 = .ok (.sipush 251, 3) := by decide +kernel
theorem d_S_slotOf_28 : decode b_S_slotOf 28 = .ok (.irem, 1) := by decide +kernel
theorem d_S_slotOf_29 : decode b_S_slotOf 29 = .ok (.ireturn, 1) := by decide +kernel
theorem d_L_free_0 : decode b_L_free 0 = .ok (.aload_n 1, 1) := by decide +kernel
theorem d_L_free_1 : decode b_L_free 1 = .ok (.iconst 0, 1) := by decide +kernel
theorem d_L_free_2 : decode b_L_free 2 = .ok (.aload_n 0, 1) := by decide +kernel
theorem d_L_free_3 : decode b_L_free 3 = .ok (.invokevirtual 7, 3) := by decide +kernel
theorem d_L_free_6 : decode b_L_free 6 = .ok (.i2l, 1) := by decide +kernel
theorem d_L_free_7 : decode b_L_free 7 = .ok (.lastore, 1) := by decide +kernel
theorem d_L_free_8 : decode b_L_free 8 = .ok (.goto 6, 3) := by decide +kernel
theorem d_L_free_11 : decode b_L_free 11 = .ok (.astore_n 2, 1) := by decide +kernel
theorem d_L_free_12 : decode b_L_free 12 = .ok (.iconst 1, 1) := by decide +kernel
theorem d_L_free_13 : decode b_L_free 13 = .ok (.ireturn, 1) := by decide +kernel
theorem d_L_free_14 : decode b_L_free 14 = .ok (.iconst 0, 1) := by decide +kernel
theorem d_L_free_15 : decode b_L_free 15 = .ok (.ireturn, 1) := by decide +kernel
theorem d_L_sum_0 : decode b_L_sum 0 = .ok (.aload_n 3, 1) := by decide +kernel
theorem d_L_sum_1 : decode b_L_sum 1 = .ok (.iconst 0, 1) := by decide +kernel
theorem d_L_sum_2 : decode b_L_sum 2 = .ok (.aload_n 0, 1) := by decide +kernel
theorem d_L_sum_3 : decode b_L_sum 3 = .ok (.iload_n 1, 1) := by decide +kernel
theorem d_L_sum_4 : decode b_L_sum 4 = .ok (.iload_n 2, 1) := by decide +kernel
theorem d_L_sum_5 : decode b_L_sum 5 = .ok (.invokevirtual 15, 3) := by decide +kernel
theorem d_L_sum_8 : decode b_L_sum 8 = .ok (.i2l, 1) := by decide +kernel
theorem d_L_sum_9 : decode b_L_sum 9 = .ok (.lastore, 1) := by decide +kernel
theorem d_L_sum_10 : decode b_L_sum 10 = .ok (.goto 11, 3) := by decide +kernel
theorem d_L_sum_13 : decode b_L_sum 13 = .ok (.astore 4, 2) := by decide +kernel
theorem d_L_sum_15 : decode b_L_sum 15 = .ok (.iconst 1, 1) := by decide +kernel
theorem d_L_sum_16 : decode b_L_sum 16 = .ok (.ireturn, 1) := by decide +kernel
theorem d_L_sum_17 : decode b_L_sum 17 = .ok (.astore 4, 2) := by decide +kernel
theorem d_L_sum_19 : decode b_L_sum 19 = .ok (.iconst 2, 1) := by decide +kernel
theorem d_L_sum_20 : decode b_L_sum 20 = .ok (.ireturn, 1) := by decide +kernel
theorem d_L_sum_21 : decode b_L_sum 21 = .ok (.iconst 0, 1) := by decide +kernel
theorem d_L_sum_22 : decode b_L_sum 22 = .ok (.ireturn, 1) := by decide +kernel
theorem d_L_pair_0 : decode b_L_pair 0 = .ok (.aload_n 3, 1) := by decide +kernel
theorem d_L_pair_1 : decode b_L_pair 1 = .ok (.iconst 0, 1) := by decide +kernel
theorem d_L_pair_2 : decode b_L_pair 2 = .ok (.aload_n 0, 1) := by decide +kernel
theorem d_L_pair_3 : decode b_L_pair 3 = .ok (.iload_n 1, 1) := by decide +kernel
theorem d_L_pair_4 : decode b_L_pair 4 = .ok (.iload_n 2, 1) := by decide +kernel
theorem d_L_pair_5 : decode b_L_pair 5 = .ok (.invokevirtual 21, 3) := by decide +kernel
theorem d_L_pair_8 : decode b_L_pair 8 = .ok (.i2l, 1) := by decide +kernel
theorem d_L_pair_9 : decode b_L_pair 9 = .ok (.lastore, 1) := by decide +kernel
theorem d_L_pair_10 : decode b_L_pair 10 = .ok (.goto 11, 3) := by decide +kernel
theorem d_L_pair_13 : decode b_L_pair 13 = .ok (.astore 4, 2) := by decide +kernel
theorem d_L_pair_15 : decode b_L_pair 15 = .ok (.iconst 1, 1) := by decide +kernel
theorem d_L_pair_16 : decode b_L_pair 16 = .ok (.ireturn, 1) := by decide +kernel
theorem d_L_pair_17 : decode b_L_pair 17 = .ok (.astore 4, 2) := by decide +kernel
theorem d_L_pair_19 : decode b_L_pair 19 = .ok (.iconst 2, 1) := by decide +kernel
theorem d_L_pair_20 : decode b_L_pair 20 = .ok (.ireturn, 1) := by decide +kernel
theorem d_L_pair_21 : decode b_L_pair 21 = .ok (.iconst 0, 1) := by decide +kernel
theorem d_L_pair_22 : decode b_L_pair 22 = .ok (.ireturn, 1) := by decide +kernel
theorem d_L_join_0 : decode b_L_join 0 = .ok (.aload_n 3, 1) := by decide +kernel
theorem d_L_join_1 : decode b_L_join 1 = .ok (.iconst 0, 1) := by decide +kernel
theorem d_L_join_2 : decode b_L_join 2 = .ok (.aload_n 0, 1) := by decide +kernel
theorem d_L_join_3 : decode b_L_join 3 = .ok (.iload_n 1, 1) := by decide +kernel
theorem d_L_join_4 : decode b_L_join 4 = .ok (.iload_n 2, 1) := by decide +kernel
theorem d_L_join_5 : decode b_L_join 5 = .ok (.invokevirtual 24, 3) := by decide +kernel
theorem d_L_join_8 : decode b_L_join 8 = .ok (.ifCond .eq 7, 3) := by decide +kernel
theorem d_L_join_11 : decode b_L_join 11 = .ok (.lconst 1, 1) := by decide +kernel
theorem d_L_join_12 : decode b_L_join 12 = .ok (.goto 4, 3) := by decide +kernel
theorem d_L_join_15 : decode b_L_join 15 = .ok (.lconst 0, 1) := by decide +kernel
theorem d_L_join_16 : decode b_L_join 16 = .ok (.lastore, 1) := by decide +kernel
theorem d_L_join_17 : decode b_L_join 17 = .ok (.goto 7, 3) := by decide +kernel
theorem d_L_join_20 : decode b_L_join 20 = .ok (.astore 4, 2) := by decide +kernel
theorem d_L_join_22 : decode b_L_join 22 = .ok (.iconst 1, 1) := by decide +kernel
theorem d_L_join_23 : decode b_L_join 23 = .ok (.ireturn, 1) := by decide +kernel
theorem d_L_join_24 : decode b_L_join 24 = .ok (.iconst 0, 1) := by decide +kernel
theorem d_L_join_25 : decode b_L_join 25 = .ok (.ireturn, 1) := by decide +kernel
theorem d_L_alike_0 : decode b_L_alike 0 = .ok (.aload_n 3, 1) := by decide +kernel
theorem d_L_alike_1 : decode b_L_alike 1 = .ok (.iconst 0, 1) := by decide +kernel
theorem d_L_alike_2 : decode b_L_alike 2 = .ok (.aload_n 0, 1) := by decide +kernel
theorem d_L_alike_3 : decode b_L_alike 3 = .ok (.iload_n 1, 1) := by decide +kernel
theorem d_L_alike_4 : decode b_L_alike 4 = .ok (.iload_n 2, 1) := by decide +kernel
theorem d_L_alike_5 : decode b_L_alike 5 = .ok (.invokevirtual 28, 3) := by decide +kernel
theorem d_L_alike_8 : decode b_L_alike 8 = .ok (.ifCond .eq 7, 3) := by decide +kernel
theorem d_L_alike_11 : decode b_L_alike 11 = .ok (.lconst 1, 1) := by decide +kernel
theorem d_L_alike_12 : decode b_L_alike 12 = .ok (.goto 4, 3) := by decide +kernel
theorem d_L_alike_15 : decode b_L_alike 15 = .ok (.lconst 0, 1) := by decide +kernel
theorem d_L_alike_16 : decode b_L_alike 16 = .ok (.lastore, 1) := by decide +kernel
theorem d_L_alike_17 : decode b_L_alike 17 = .ok (.goto 7, 3) := by decide +kernel
theorem d_L_alike_20 : decode b_L_alike 20 = .ok (.astore 4, 2) := by decide +kernel
theorem d_L_alike_22 : decode b_L_alike 22 = .ok (.iconst 1, 1) := by decide +kernel
theorem d_L_alike_23 : decode b_L_alike 23 = .ok (.ireturn, 1) := by decide +kernel
theorem d_L_alike_24 : decode b_L_alike 24 = .ok (.iconst 0, 1) := by decide +kernel
theorem d_L_alike_25 : decode b_L_alike 25 = .ok (.ireturn, 1) := by decide +kernel
theorem d_L_same_0 : decode b_L_same 0 = .ok (.aload_n 3, 1) := by decide +kernel
theorem d_L_same_1 : decode b_L_same 1 = .ok (.iconst 0, 1) := by decide +kernel
theorem d_L_same_2 : decode b_L_same 2 = .ok (.aload_n 0, 1) := by decide +kernel
theorem d_L_same_3 : decode b_L_same 3 = .ok (.iload_n 1, 1) := by decide +kernel
theorem d_L_same_4 : decode b_L_same 4 = .ok (.iload_n 2, 1) := by decide +kernel
theorem d_L_same_5 : decode b_L_same 5 = .ok (.invokevirtual 31, 3) := by decide +kernel
theorem d_L_same_8 : decode b_L_same 8 = .ok (.ifCond .eq 7, 3) := by decide +kernel
theorem d_L_same_11 : decode b_L_same 11 = .ok (.lconst 1, 1) := by decide +kernel
theorem d_L_same_12 : decode b_L_same 12 = .ok (.goto 4, 3) := by decide +kernel
theorem d_L_same_15 : decode b_L_same 15 = .ok (.lconst 0, 1) := by decide +kernel
theorem d_L_same_16 : decode b_L_same 16 = .ok (.lastore, 1) := by decide +kernel
theorem d_L_same_17 : decode b_L_same 17 = .ok (.goto 7, 3) := by decide +kernel
theorem d_L_same_20 : decode b_L_same 20 = .ok (.astore 4, 2) := by decide +kernel
theorem d_L_same_22 : decode b_L_same 22 = .ok (.iconst 1, 1) := by decide +kernel
theorem d_L_same_23 : decode b_L_same 23 = .ok (.ireturn, 1) := by decide +kernel
theorem d_L_same_24 : decode b_L_same 24 = .ok (.iconst 0, 1) := by decide +kernel
theorem d_L_same_25 : decode b_L_same 25 = .ok (.ireturn, 1) := by decide +kernel
theorem d_L_renamed_0 : decode b_L_renamed 0 = .ok (.aload_n 3, 1) := by decide +kernel
theorem d_L_renamed_1 : decode b_L_renamed 1 = .ok (.iconst 0, 1) := by decide +kernel
theorem d_L_renamed_2 : decode b_L_renamed 2 = .ok (.aload_n 0, 1) := by decide +kernel
theorem d_L_renamed_3 : decode b_L_renamed 3 = .ok (.iload_n 1, 1) := by decide +kernel
theorem d_L_renamed_4 : decode b_L_renamed 4 = .ok (.iload_n 2, 1) := by decide +kernel
theorem d_L_renamed_5 : decode b_L_renamed 5 = .ok (.invokevirtual 34, 3) := by decide +kernel
theorem d_L_renamed_8 : decode b_L_renamed 8 = .ok (.ifCond .eq 7, 3) := by decide +kernel
theorem d_L_renamed_11 : decode b_L_renamed 11 = .ok (.lconst 1, 1) := by decide +kernel
theorem d_L_renamed_12 : decode b_L_renamed 12 = .ok (.goto 4, 3) := by decide +kernel
theorem d_L_renamed_15 : decode b_L_renamed 15 = .ok (.lconst 0, 1) := by decide +kernel
theorem d_L_renamed_16 : decode b_L_renamed 16 = .ok (.lastore, 1) := by decide +kernel
theorem d_L_renamed_17 : decode b_L_renamed 17 = .ok (.goto 7, 3) := by decide +kernel
theorem d_L_renamed_20 : decode b_L_renamed 20 = .ok (.astore 4, 2) := by decide +kernel
theorem d_L_renamed_22 : decode b_L_renamed 22 = .ok (.iconst 1, 1) := by decide +kernel
theorem d_L_renamed_23 : decode b_L_renamed 23 = .ok (.ireturn, 1) := by decide +kernel
theorem d_L_renamed_24 : decode b_L_renamed 24 = .ok (.iconst 0, 1) := by decide +kernel
theorem d_L_renamed_25 : decode b_L_renamed 25 = .ok (.ireturn, 1) := by decide +kernel
theorem d_L_kind_0 : decode b_L_kind 0 = .ok (.aload_n 2, 1) := by decide +kernel
theorem d_L_kind_1 : decode b_L_kind 1 = .ok (.iconst 0, 1) := by decide +kernel
theorem d_L_kind_2 : decode b_L_kind 2 = .ok (.aload_n 0, 1) := by decide +kernel
theorem d_L_kind_3 : decode b_L_kind 3 = .ok (.iload_n 1, 1) := by decide +kernel
theorem d_L_kind_4 : decode b_L_kind 4 = .ok (.invokevirtual 37, 3) := by decide +kernel
theorem d_L_kind_7 : decode b_L_kind 7 = .ok (.i2l, 1) := by decide +kernel
theorem d_L_kind_8 : decode b_L_kind 8 = .ok (.lastore, 1) := by decide +kernel
theorem d_L_kind_9 : decode b_L_kind 9 = .ok (.goto 6, 3) := by decide +kernel
theorem d_L_kind_12 : decode b_L_kind 12 = .ok (.astore_n 3, 1) := by decide +kernel
theorem d_L_kind_13 : decode b_L_kind 13 = .ok (.iconst 1, 1) := by decide +kernel
theorem d_L_kind_14 : decode b_L_kind 14 = .ok (.ireturn, 1) := by decide +kernel
theorem d_L_kind_15 : decode b_L_kind 15 = .ok (.iconst 0, 1) := by decide +kernel
theorem d_L_kind_16 : decode b_L_kind 16 = .ok (.ireturn, 1) := by decide +kernel
theorem d_L_part_0 : decode b_L_part 0 = .ok (.aload_n 3, 1) := by decide +kernel
theorem d_L_part_1 : decode b_L_part 1 = .ok (.iconst 0, 1) := by decide +kernel
theorem d_L_part_2 : decode b_L_part 2 = .ok (.aload_n 0, 1) := by decide +kernel
theorem d_L_part_3 : decode b_L_part 3 = .ok (.iload_n 1, 1) := by decide +kernel
theorem d_L_part_4 : decode b_L_part 4 = .ok (.iload_n 2, 1) := by decide +kernel
theorem d_L_part_5 : decode b_L_part 5 = .ok (.invokevirtual 41, 3) := by decide +kernel
theorem d_L_part_8 : decode b_L_part 8 = .ok (.i2l, 1) := by decide +kernel
theorem d_L_part_9 : decode b_L_part 9 = .ok (.lastore, 1) := by decide +kernel
theorem d_L_part_10 : decode b_L_part 10 = .ok (.goto 7, 3) := by decide +kernel
theorem d_L_part_13 : decode b_L_part 13 = .ok (.astore 4, 2) := by decide +kernel
theorem d_L_part_15 : decode b_L_part 15 = .ok (.iconst 1, 1) := by decide +kernel
theorem d_L_part_16 : decode b_L_part 16 = .ok (.ireturn, 1) := by decide +kernel
theorem d_L_part_17 : decode b_L_part 17 = .ok (.iconst 0, 1) := by decide +kernel
theorem d_L_part_18 : decode b_L_part 18 = .ok (.ireturn, 1) := by decide +kernel
theorem d_L_size_0 : decode b_L_size 0 = .ok (.aload_n 2, 1) := by decide +kernel
theorem d_L_size_1 : decode b_L_size 1 = .ok (.iconst 0, 1) := by decide +kernel
theorem d_L_size_2 : decode b_L_size 2 = .ok (.aload_n 0, 1) := by decide +kernel
theorem d_L_size_3 : decode b_L_size 3 = .ok (.iload_n 1, 1) := by decide +kernel
theorem d_L_size_4 : decode b_L_size 4 = .ok (.invokevirtual 45, 3) := by decide +kernel
theorem d_L_size_7 : decode b_L_size 7 = .ok (.i2l, 1) := by decide +kernel
theorem d_L_size_8 : decode b_L_size 8 = .ok (.lastore, 1) := by decide +kernel
theorem d_L_size_9 : decode b_L_size 9 = .ok (.goto 6, 3) := by decide +kernel
theorem d_L_size_12 : decode b_L_size 12 = .ok (.astore_n 3, 1) := by decide +kernel
theorem d_L_size_13 : decode b_L_size 13 = .ok (.iconst 1, 1) := by decide +kernel
theorem d_L_size_14 : decode b_L_size 14 = .ok (.ireturn, 1) := by decide +kernel
theorem d_L_size_15 : decode b_L_size 15 = .ok (.iconst 0, 1) := by decide +kernel
theorem d_L_size_16 : decode b_L_size 16 = .ok (.ireturn, 1) := by decide +kernel
theorem d_L_values_0 : decode b_L_values 0 = .ok (.aload_n 2, 1) := by decide +kernel
theorem d_L_values_1 : decode b_L_values 1 = .ok (.iconst 0, 1) := by decide +kernel
theorem d_L_values_2 : decode b_L_values 2 = .ok (.aload_n 0, 1) := by decide +kernel
theorem d_L_values_3 : decode b_L_values 3 = .ok (.iload_n 1, 1) := by decide +kernel
theorem d_L_values_4 : decode b_L_values 4 = .ok (.invokevirtual 48, 3) := by decide +kernel
theorem d_L_values_7 : decode b_L_values 7 = .ok (.i2l, 1) := by decide +kernel
theorem d_L_values_8 : decode b_L_values 8 = .ok (.lastore, 1) := by decide +kernel
theorem d_L_values_9 : decode b_L_values 9 = .ok (.goto 6, 3) := by decide +kernel
theorem d_L_values_12 : decode b_L_values 12 = .ok (.astore_n 3, 1) := by decide +kernel
theorem d_L_values_13 : decode b_L_values 13 = .ok (.iconst 1, 1) := by decide +kernel
theorem d_L_values_14 : decode b_L_values 14 = .ok (.ireturn, 1) := by decide +kernel
theorem d_L_values_15 : decode b_L_values 15 = .ok (.iconst 0, 1) := by decide +kernel
theorem d_L_values_16 : decode b_L_values 16 = .ok (.ireturn, 1) := by decide +kernel
theorem d_L_frees_0 : decode b_L_frees 0 = .ok (.aload_n 2, 1) := by decide +kernel
theorem d_L_frees_1 : decode b_L_frees 1 = .ok (.iconst 0, 1) := by decide +kernel
theorem d_L_frees_2 : decode b_L_frees 2 = .ok (.aload_n 0, 1) := by decide +kernel
theorem d_L_frees_3 : decode b_L_frees 3 = .ok (.iload_n 1, 1) := by decide +kernel
theorem d_L_frees_4 : decode b_L_frees 4 = .ok (.invokevirtual 51, 3) := by decide +kernel
theorem d_L_frees_7 : decode b_L_frees 7 = .ok (.i2l, 1) := by decide +kernel
theorem d_L_frees_8 : decode b_L_frees 8 = .ok (.lastore, 1) := by decide +kernel
theorem d_L_frees_9 : decode b_L_frees 9 = .ok (.goto 6, 3) := by decide +kernel
theorem d_L_frees_12 : decode b_L_frees 12 = .ok (.astore_n 3, 1) := by decide +kernel
theorem d_L_frees_13 : decode b_L_frees 13 = .ok (.iconst 1, 1) := by decide +kernel
theorem d_L_frees_14 : decode b_L_frees 14 = .ok (.ireturn, 1) := by decide +kernel
theorem d_L_frees_15 : decode b_L_frees 15 = .ok (.iconst 0, 1) := by decide +kernel
theorem d_L_frees_16 : decode b_L_frees 16 = .ok (.ireturn, 1) := by decide +kernel
theorem d_J_fill2_0 : decode b_J_fill2 0 = .ok (.iconst 0, 1) := by decide +kernel
theorem d_J_fill2_1 : decode b_J_fill2 1 = .ok (.istore_n 2, 1) := by decide +kernel
theorem d_J_fill2_2 : decode b_J_fill2 2 = .ok (.aload_n 0, 1) := by decide +kernel
theorem d_J_fill2_3 : decode b_J_fill2 3 = .ok (.arraylength, 1) := by decide +kernel
theorem d_J_fill2_4 : decode b_J_fill2 4 = .ok (.istore_n 3, 1) := by decide +kernel
theorem d_J_fill2_5 : decode b_J_fill2 5 = .ok (.iload_n 2, 1) := by decide +kernel
theorem d_J_fill2_6 : decode b_J_fill2 6 = .ok (.iload_n 3, 1) := by decide +kernel
theorem d_J_fill2_7 : decode b_J_fill2 7 = .ok (.if_icmp .ge 13, 3) := by decide +kernel
theorem d_J_fill2_10 : decode b_J_fill2 10 = .ok (.aload_n 0, 1) := by decide +kernel
theorem d_J_fill2_11 : decode b_J_fill2 11 = .ok (.iload_n 2, 1) := by decide +kernel
theorem d_J_fill2_12 : decode b_J_fill2 12 = .ok (.iload_n 1, 1) := by decide +kernel
theorem d_J_fill2_13 : decode b_J_fill2 13 = .ok (.iastore, 1) := by decide +kernel
theorem d_J_fill2_14 : decode b_J_fill2 14 = .ok (.iinc 2 1, 3) := by decide +kernel
theorem d_J_fill2_17 : decode b_J_fill2 17 = .ok (.goto (-12), 3) := by decide +kernel
theorem d_J_fill2_20 : decode b_J_fill2 20 = .ok (.return_, 1) := by decide +kernel
theorem d_J_fill4_0 : decode b_J_fill4 0 = .ok (.aload_n 0, 1) := by decide +kernel
theorem d_J_fill4_1 : decode b_J_fill4 1 = .ok (.arraylength, 1) := by decide +kernel
theorem d_J_fill4_2 : decode b_J_fill4 2 = .ok (.iload_n 1, 1) := by decide +kernel
theorem d_J_fill4_3 : decode b_J_fill4 3 = .ok (.iload_n 2, 1) := by decide +kernel
theorem d_J_fill4_4 : decode b_J_fill4 4 = .ok (.invokestatic 13, 3) := by decide +kernel
theorem d_J_fill4_7 : decode b_J_fill4 7 = .ok (.iload_n 1, 1) := by decide +kernel
theorem d_J_fill4_8 : decode b_J_fill4 8 = .ok (.istore 4, 2) := by decide +kernel
theorem d_J_fill4_10 : decode b_J_fill4 10 = .ok (.iload 4, 2) := by decide +kernel
theorem d_J_fill4_12 : decode b_J_fill4 12 = .ok (.iload_n 2, 1) := by decide +kernel
theorem d_J_fill4_13 : decode b_J_fill4 13 = .ok (.if_icmp .ge 14, 3) := by decide +kernel
theorem d_J_fill4_16 : decode b_J_fill4 16 = .ok (.aload_n 0, 1) := by decide +kernel
theorem d_J_fill4_17 : decode b_J_fill4 17 = .ok (.iload 4, 2) := by decide +kernel
theorem d_J_fill4_19 : decode b_J_fill4 19 = .ok (.iload_n 3, 1) := by decide +kernel
theorem d_J_fill4_20 : decode b_J_fill4 20 = .ok (.iastore, 1) := by decide +kernel
theorem d_J_fill4_21 : decode b_J_fill4 21 = .ok (.iinc 4 1, 3) := by decide +kernel
theorem d_J_fill4_24 : decode b_J_fill4 24 = .ok (.goto (-14), 3) := by decide +kernel
theorem d_J_fill4_27 : decode b_J_fill4 27 = .ok (.return_, 1) := by decide +kernel
theorem d_J_rangeCheck_0 : decode b_J_rangeCheck 0 = .ok (.iload_n 1, 1) := by decide +kernel
theorem d_J_rangeCheck_1 : decode b_J_rangeCheck 1 = .ok (.iload_n 2, 1) := by decide +kernel
theorem d_J_rangeCheck_2 : decode b_J_rangeCheck 2 = .ok (.if_icmp .le 44, 3) := by decide +kernel
theorem d_J_rangeCheck_5 : decode b_J_rangeCheck 5 = .ok (.new 43, 3) := by decide +kernel
theorem d_J_rangeCheck_8 : decode b_J_rangeCheck 8 = .ok (.dup, 1) := by decide +kernel
theorem d_J_rangeCheck_9 : decode b_J_rangeCheck 9 = .ok (.new 45, 3) := by decide +kernel
theorem d_J_rangeCheck_12 : decode b_J_rangeCheck 12 = .ok (.dup, 1) := by decide +kernel
theorem d_J_rangeCheck_13 : decode b_J_rangeCheck 13 = .ok (.invokespecial 47, 3) := by decide +kernel
theorem d_J_rangeCheck_16 : decode b_J_rangeCheck 16 = .ok (.ldc 48, 2) := by decide +kernel
theorem d_J_rangeCheck_18 : decode b_J_rangeCheck 18 = .ok (.invokevirtual 50, 3) := by decide +kernel
theorem d_J_rangeCheck_21 : decode b_J_rangeCheck 21 = .ok (.iload_n 1, 1) := by decide +kernel
theorem d_J_rangeCheck_22 : decode b_J_rangeCheck 22 = .ok (.invokevirtual 54, 3) := by decide +kernel
theorem d_J_rangeCheck_25 : decode b_J_rangeCheck 25 = .ok (.ldc 57, 2) := by decide +kernel
theorem d_J_rangeCheck_27 : decode b_J_rangeCheck 27 = .ok (.invokevirtual 50, 3) := by decide +kernel
theorem d_J_rangeCheck_30 : decode b_J_rangeCheck 30 = .ok (.iload_n 2, 1) := by decide +kernel
theorem d_J_rangeCheck_31 : decode b_J_rangeCheck 31 = .ok (.invokevirtual 54, 3) := by decide +kernel
theorem d_J_rangeCheck_34 : decode b_J_rangeCheck 34 = .ok (.ldc 59, 2) := by decide +kernel
theorem d_J_rangeCheck_36 : decode b_J_rangeCheck 36 = .ok (.invokevirtual 50, 3) := by decide +kernel
theorem d_J_rangeCheck_39 : decode b_J_rangeCheck 39 = .ok (.invokevirtual 61, 3) := by decide +kernel
theorem d_J_rangeCheck_42 : decode b_J_rangeCheck 42 = .ok (.invokespecial 65, 3) := by decide +kernel
theorem d_J_rangeCheck_45 : decode b_J_rangeCheck 45 = .ok (.athrow, 1) := by decide +kernel
theorem d_J_rangeCheck_46 : decode b_J_rangeCheck 46 = .ok (.iload_n 1, 1) := by decide +kernel
theorem d_J_rangeCheck_47 : decode b_J_rangeCheck 47 = .ok (.ifCond .ge 12, 3) := by decide +kernel
theorem d_J_rangeCheck_50 : decode b_J_rangeCheck 50 = .ok (.new 68, 3) := by decide +kernel
theorem d_J_rangeCheck_53 : decode b_J_rangeCheck 53 = .ok (.dup, 1) := by decide +kernel
theorem d_J_rangeCheck_54 : decode b_J_rangeCheck 54 = .ok (.iload_n 1, 1) := by decide +kernel
theorem d_J_rangeCheck_55 : decode b_J_rangeCheck 55 = .ok (.invokespecial 70, 3) := by decide +kernel
theorem d_J_rangeCheck_58 : decode b_J_rangeCheck 58 = .ok (.athrow, 1) := by decide +kernel
theorem d_J_rangeCheck_59 : decode b_J_rangeCheck 59 = .ok (.iload_n 2, 1) := by decide +kernel
theorem d_J_rangeCheck_60 : decode b_J_rangeCheck 60 = .ok (.iload_n 0, 1) := by decide +kernel
theorem d_J_rangeCheck_61 : decode b_J_rangeCheck 61 = .ok (.if_icmp .le 12, 3) := by decide +kernel
theorem d_J_rangeCheck_64 : decode b_J_rangeCheck 64 = .ok (.new 68, 3) := by decide +kernel
theorem d_J_rangeCheck_67 : decode b_J_rangeCheck 67 = .ok (.dup, 1) := by decide +kernel
theorem d_J_rangeCheck_68 : decode b_J_rangeCheck 68 = .ok (.iload_n 2, 1) := by decide +kernel
theorem d_J_rangeCheck_69 : decode b_J_rangeCheck 69 = .ok (.invokespecial 70, 3) := by decide +kernel
theorem d_J_rangeCheck_72 : decode b_J_rangeCheck 72 = .ok (.athrow, 1) := by decide +kernel
theorem d_J_rangeCheck_73 : decode b_J_rangeCheck 73 = .ok (.return_, 1) := by decide +kernel

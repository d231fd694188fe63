theorem dX0_init_0 : decode cX0_init 0 = .ok (.aload_n 0, 1) := by decide +kernel
theorem dX0_init_1 : decode cX0_init 1 = .ok (.invokespecial 3, 3) := by decide +kernel
theorem dX0_init_4 : decode cX0_init 4 = .ok (.aload_n 0, 1) := by decide +kernel
theorem dX0_init_5 : decode cX0_init 5 = .ok (.bipush 8, 2) := by decide +kernel
theorem dX0_init_7 : decode cX0_init 7 = .ok (.newarray .int, 2) := by decide +kernel
theorem dX0_init_9 : decode cX0_init 9 = .ok (.putfield 9, 3) := by decide +kernel
theorem dX0_init_12 : decode cX0_init 12 = .ok (.aload_n 0, 1) := by decide +kernel
theorem dX0_init_13 : decode cX0_init 13 = .ok (.bipush 8, 2) := by decide +kernel
theorem dX0_init_15 : decode cX0_init 15 = .ok (.newarray .int, 2) := by decide +kernel
theorem dX0_init_17 : decode cX0_init 17 = .ok (.putfield 15, 3) := by decide +kernel
theorem dX0_init_20 : decode cX0_init 20 = .ok (.aload_n 0, 1) := by decide +kernel
theorem dX0_init_21 : decode cX0_init 21 = .ok (.bipush 8, 2) := by decide +kernel
theorem dX0_init_23 : decode cX0_init 23 = .ok (.newarray .int, 2) := by decide +kernel
theorem dX0_init_25 : decode cX0_init 25 = .ok (.putfield 18, 3) := by decide +kernel
theorem dX0_init_28 : decode cX0_init 28 = .ok (.aload_n 0, 1) := by decide +kernel
theorem dX0_init_29 : decode cX0_init 29 = .ok (.bipush 8, 2) := by decide +kernel
theorem dX0_init_31 : decode cX0_init 31 = .ok (.newarray .int, 2) := by decide +kernel
theorem dX0_init_33 : decode cX0_init 33 = .ok (.putfield 21, 3) := by decide +kernel
theorem dX0_init_36 : decode cX0_init 36 = .ok (.aload_n 0, 1) := by decide +kernel
theorem dX0_init_37 : decode cX0_init 37 = .ok (.iconst 0, 1) := by decide +kernel
theorem dX0_init_38 : decode cX0_init 38 = .ok (.putfield 24, 3) := by decide +kernel
theorem dX0_init_41 : decode cX0_init 41 = .ok (.return_, 1) := by decide +kernel
theorem dX0_has_0 : decode cX0_has 0 = .ok (.iload_n 1, 1) := by decide +kernel
theorem dX0_has_1 : decode cX0_has 1 = .ok (.iconst 0, 1) := by decide +kernel
theorem dX0_has_2 : decode cX0_has 2 = .ok (.aload_n 0, 1) := by decide +kernel
theorem dX0_has_3 : decode cX0_has 3 = .ok (.getfield 24, 3) := by decide +kernel
theorem dX0_has_6 : decode cX0_has 6 = .ok (.iconst 1, 1) := by decide +kernel
theorem dX0_has_7 : decode cX0_has 7 = .ok (.isub, 1) := by decide +kernel
theorem dX0_has_8 : decode cX0_has 8 = .ok (.invokestatic 28, 3) := by decide +kernel
theorem dX0_has_11 : decode cX0_has 11 = .ok (.ireturn, 1) := by decide +kernel
theorem dX0_holds_0 : decode cX0_holds 0 = .ok (.iconst 0, 1) := by decide +kernel
theorem dX0_holds_1 : decode cX0_holds 1 = .ok (.istore_n 3, 1) := by decide +kernel
theorem dX0_holds_2 : decode cX0_holds 2 = .ok (.iload_n 3, 1) := by decide +kernel
theorem dX0_holds_3 : decode cX0_holds 3 = .ok (.aload_n 0, 1) := by decide +kernel
theorem dX0_holds_4 : decode cX0_holds 4 = .ok (.getfield 24, 3) := by decide +kernel
theorem dX0_holds_7 : decode cX0_holds 7 = .ok (.if_icmp .ge 31, 3) := by decide +kernel
theorem dX0_holds_10 : decode cX0_holds 10 = .ok (.aload_n 0, 1) := by decide +kernel
theorem dX0_holds_11 : decode cX0_holds 11 = .ok (.getfield 9, 3) := by decide +kernel
theorem dX0_holds_14 : decode cX0_holds 14 = .ok (.iload_n 3, 1) := by decide +kernel
theorem dX0_holds_15 : decode cX0_holds 15 = .ok (.iaload, 1) := by decide +kernel
theorem dX0_holds_16 : decode cX0_holds 16 = .ok (.iload_n 1, 1) := by decide +kernel
theorem dX0_holds_17 : decode cX0_holds 17 = .ok (.if_icmp .ne 15, 3) := by decide +kernel
theorem dX0_holds_20 : decode cX0_holds 20 = .ok (.aload_n 0, 1) := by decide +kernel
theorem dX0_holds_21 : decode cX0_holds 21 = .ok (.getfield 15, 3) := by decide +kernel
theorem dX0_holds_24 : decode cX0_holds 24 = .ok (.iload_n 3, 1) := by decide +kernel
theorem dX0_holds_25 : decode cX0_holds 25 = .ok (.iaload, 1) := by decide +kernel
theorem dX0_holds_26 : decode cX0_holds 26 = .ok (.iload_n 2, 1) := by decide +kernel
theorem dX0_holds_27 : decode cX0_holds 27 = .ok (.if_icmp .ne 5, 3) := by decide +kernel
theorem dX0_holds_30 : decode cX0_holds 30 = .ok (.iconst 1, 1) := by decide +kernel
theorem dX0_holds_31 : decode cX0_holds 31 = .ok (.ireturn, 1) := by decide +kernel
theorem dX0_holds_32 : decode cX0_holds 32 = .ok (.iinc 3 1, 3) := by decide +kernel
theorem dX0_holds_35 : decode cX0_holds 35 = .ok (.goto (-33), 3) := by decide +kernel
theorem dX0_holds_38 : decode cX0_holds 38 = .ok (.iconst 0, 1) := by decide +kernel
theorem dX0_holds_39 : decode cX0_holds 39 = .ok (.ireturn, 1) := by decide +kernel
theorem dX0_add_0 : decode cX0_add 0 = .ok (.aload_n 0, 1) := by decide +kernel
theorem dX0_add_1 : decode cX0_add 1 = .ok (.getfield 24, 3) := by decide +kernel
theorem dX0_add_4 : decode cX0_add 4 = .ok (.istore 4, 2) := by decide +kernel
theorem dX0_add_6 : decode cX0_add 6 = .ok (.iload 4, 2) := by decide +kernel
theorem dX0_add_8 : decode cX0_add 8 = .ok (.bipush 8, 2) := by decide +kernel
theorem dX0_add_10 : decode cX0_add 10 = .ok (.if_icmp .lt 6, 3) := by decide +kernel
theorem dX0_add_13 : decode cX0_add 13 = .ok (.bipush (-4), 2) := by decide +kernel
theorem dX0_add_15 : decode cX0_add 15 = .ok (.ireturn, 1) := by decide +kernel
theorem dX0_add_16 : decode cX0_add 16 = .ok (.aload_n 0, 1) := by decide +kernel
theorem dX0_add_17 : decode cX0_add 17 = .ok (.getfield 9, 3) := by decide +kernel
theorem dX0_add_20 : decode cX0_add 20 = .ok (.iload 4, 2) := by decide +kernel
theorem dX0_add_22 : decode cX0_add 22 = .ok (.iload_n 1, 1) := by decide +kernel
theorem dX0_add_23 : decode cX0_add 23 = .ok (.iastore, 1) := by decide +kernel
theorem dX0_add_24 : decode cX0_add 24 = .ok (.aload_n 0, 1) := by decide +kernel
theorem dX0_add_25 : decode cX0_add 25 = .ok (.getfield 15, 3) := by decide +kernel
theorem dX0_add_28 : decode cX0_add 28 = .ok (.iload 4, 2) := by decide +kernel
theorem dX0_add_30 : decode cX0_add 30 = .ok (.iload_n 2, 1) := by decide +kernel
theorem dX0_add_31 : decode cX0_add 31 = .ok (.iastore, 1) := by decide +kernel
theorem dX0_add_32 : decode cX0_add 32 = .ok (.aload_n 0, 1) := by decide +kernel
theorem dX0_add_33 : decode cX0_add 33 = .ok (.getfield 18, 3) := by decide +kernel
theorem dX0_add_36 : decode cX0_add 36 = .ok (.iload 4, 2) := by decide +kernel
theorem dX0_add_38 : decode cX0_add 38 = .ok (.iload_n 3, 1) := by decide +kernel
theorem dX0_add_39 : decode cX0_add 39 = .ok (.iastore, 1) := by decide +kernel
theorem dX0_add_40 : decode cX0_add 40 = .ok (.aload_n 0, 1) := by decide +kernel
theorem dX0_add_41 : decode cX0_add 41 = .ok (.getfield 21, 3) := by decide +kernel
theorem dX0_add_44 : decode cX0_add 44 = .ok (.iload 4, 2) := by decide +kernel
theorem dX0_add_46 : decode cX0_add 46 = .ok (.iconst 0, 1) := by decide +kernel
theorem dX0_add_47 : decode cX0_add 47 = .ok (.iastore, 1) := by decide +kernel
theorem dX0_add_48 : decode cX0_add 48 = .ok (.aload_n 0, 1) := by decide +kernel
theorem dX0_add_49 : decode cX0_add 49 = .ok (.dup, 1) := by decide +kernel
theorem dX0_add_50 : decode cX0_add 50 = .ok (.getfield 24, 3) := by decide +kernel
theorem dX0_add_53 : decode cX0_add 53 = .ok (.iconst 1, 1) := by decide +kernel
theorem dX0_add_54 : decode cX0_add 54 = .ok (.iadd, 1) := by decide +kernel
theorem dX0_add_55 : decode cX0_add 55 = .ok (.putfield 24, 3) := by decide +kernel
theorem dX0_add_58 : decode cX0_add 58 = .ok (.iload 4, 2) := by decide +kernel
theorem dX0_add_60 : decode cX0_add 60 = .ok (.ireturn, 1) := by decide +kernel
theorem dX0_signsDiffer_0 : decode cX0_signsDiffer 0 = .ok (.aload_n 0, 1) := by decide +kernel
theorem dX0_signsDiffer_1 : decode cX0_signsDiffer 1 = .ok (.iconst 0, 1) := by decide +kernel
theorem dX0_signsDiffer_2 : decode cX0_signsDiffer 2 = .ok (.iload_n 1, 1) := by decide +kernel
theorem dX0_signsDiffer_3 : decode cX0_signsDiffer 3 = .ok (.iload_n 2, 1) := by decide +kernel
theorem dX0_signsDiffer_4 : decode cX0_signsDiffer 4 = .ok (.invokevirtual 32, 3) := by decide +kernel
theorem dX0_signsDiffer_7 : decode cX0_signsDiffer 7 = .ok (.aload_n 0, 1) := by decide +kernel
theorem dX0_signsDiffer_8 : decode cX0_signsDiffer 8 = .ok (.iconst 1, 1) := by decide +kernel
theorem dX0_signsDiffer_9 : decode cX0_signsDiffer 9 = .ok (.iload_n 1, 1) := by decide +kernel
theorem dX0_signsDiffer_10 : decode cX0_signsDiffer 10 = .ok (.iload_n 2, 1) := by decide +kernel
theorem dX0_signsDiffer_11 : decode cX0_signsDiffer 11 = .ok (.invokevirtual 32, 3) := by decide +kernel
theorem dX0_signsDiffer_14 : decode cX0_signsDiffer 14 = .ok (.if_icmp .eq 7, 3) := by decide +kernel
theorem dX0_signsDiffer_17 : decode cX0_signsDiffer 17 = .ok (.iconst 1, 1) := by decide +kernel
theorem dX0_signsDiffer_18 : decode cX0_signsDiffer 18 = .ok (.goto 4, 3) := by decide +kernel
theorem dX0_signsDiffer_21 : decode cX0_signsDiffer 21 = .ok (.iconst 0, 1) := by decide +kernel
theorem dX0_signsDiffer_22 : decode cX0_signsDiffer 22 = .ok (.ireturn, 1) := by decide +kernel
theorem dX0_isMinus_0 : decode cX0_isMinus 0 = .ok (.aload_n 0, 1) := by decide +kernel
theorem dX0_isMinus_1 : decode cX0_isMinus 1 = .ok (.getfield 18, 3) := by decide +kernel
theorem dX0_isMinus_4 : decode cX0_isMinus 4 = .ok (.iload_n 1, 1) := by decide +kernel
theorem dX0_isMinus_5 : decode cX0_isMinus 5 = .ok (.iaload, 1) := by decide +kernel
theorem dX0_isMinus_6 : decode cX0_isMinus 6 = .ok (.ifCond .ge 7, 3) := by decide +kernel
theorem dX0_isMinus_9 : decode cX0_isMinus 9 = .ok (.iconst 1, 1) := by decide +kernel
theorem dX0_isMinus_10 : decode cX0_isMinus 10 = .ok (.goto 4, 3) := by decide +kernel
theorem dX0_isMinus_13 : decode cX0_isMinus 13 = .ok (.iconst 0, 1) := by decide +kernel
theorem dX0_isMinus_14 : decode cX0_isMinus 14 = .ok (.istore 4, 2) := by decide +kernel
theorem dX0_isMinus_16 : decode cX0_isMinus 16 = .ok (.iload_n 2, 1) := by decide +kernel
theorem dX0_isMinus_17 : decode cX0_isMinus 17 = .ok (.ifCond .eq 26, 3) := by decide +kernel
theorem dX0_isMinus_20 : decode cX0_isMinus 20 = .ok (.aload_n 0, 1) := by decide +kernel
theorem dX0_isMinus_21 : decode cX0_isMinus 21 = .ok (.getfield 9, 3) := by decide +kernel
theorem dX0_isMinus_24 : decode cX0_isMinus 24 = .ok (.iload_n 1, 1) := by decide +kernel
theorem dX0_isMinus_25 : decode cX0_isMinus 25 = .ok (.iaload, 1) := by decide +kernel
theorem dX0_isMinus_26 : decode cX0_isMinus 26 = .ok (.iconst 2, 1) := by decide +kernel
theorem dX0_isMinus_27 : decode cX0_isMinus 27 = .ok (.irem, 1) := by decide +kernel
theorem dX0_isMinus_28 : decode cX0_isMinus 28 = .ok (.ifCond .eq 15, 3) := by decide +kernel
theorem dX0_isMinus_31 : decode cX0_isMinus 31 = .ok (.iload 4, 2) := by decide +kernel
theorem dX0_isMinus_33 : decode cX0_isMinus 33 = .ok (.ifCond .ne 7, 3) := by decide +kernel
theorem dX0_isMinus_36 : decode cX0_isMinus 36 = .ok (.iconst 1, 1) := by decide +kernel
theorem dX0_isMinus_37 : decode cX0_isMinus 37 = .ok (.goto 4, 3) := by decide +kernel
theorem dX0_isMinus_40 : decode cX0_isMinus 40 = .ok (.iconst 0, 1) := by decide +kernel
theorem dX0_isMinus_41 : decode cX0_isMinus 41 = .ok (.istore 4, 2) := by decide +kernel
theorem dX0_isMinus_43 : decode cX0_isMinus 43 = .ok (.iload_n 3, 1) := by decide +kernel
theorem dX0_isMinus_44 : decode cX0_isMinus 44 = .ok (.ifCond .eq 26, 3) := by decide +kernel
theorem dX0_isMinus_47 : decode cX0_isMinus 47 = .ok (.aload_n 0, 1) := by decide +kernel
theorem dX0_isMinus_48 : decode cX0_isMinus 48 = .ok (.getfield 15, 3) := by decide +kernel
theorem dX0_isMinus_51 : decode cX0_isMinus 51 = .ok (.iload_n 1, 1) := by decide +kernel
theorem dX0_isMinus_52 : decode cX0_isMinus 52 = .ok (.iaload, 1) := by decide +kernel
theorem dX0_isMinus_53 : decode cX0_isMinus 53 = .ok (.iconst 2, 1) := by decide +kernel
theorem dX0_isMinus_54 : decode cX0_isMinus 54 = .ok (.irem, 1) := by decide +kernel
theorem dX0_isMinus_55 : decode cX0_isMinus 55 = .ok (.ifCond .eq 15, 3) := by decide +kernel
theorem dX0_isMinus_58 : decode cX0_isMinus 58 = .ok (.iload 4, 2) := by decide +kernel
theorem dX0_isMinus_60 : decode cX0_isMinus 60 = .ok (.ifCond .ne 7, 3) := by decide +kernel
theorem dX0_isMinus_63 : decode cX0_isMinus 63 = .ok (.iconst 1, 1) := by decide +kernel
theorem dX0_isMinus_64 : decode cX0_isMinus 64 = .ok (.goto 4, 3) := by decide +kernel
theorem dX0_isMinus_67 : decode cX0_isMinus 67 = .ok (.iconst 0, 1) := by decide +kernel
theorem dX0_isMinus_68 : decode cX0_isMinus 68 = .ok (.istore 4, 2) := by decide +kernel
theorem dX0_isMinus_70 : decode cX0_isMinus 70 = .ok (.iload 4, 2) := by decide +kernel
theorem dX0_isMinus_72 : decode cX0_isMinus 72 = .ok (.ireturn, 1) := by decide +kernel
theorem dX1_init_0 : decode cX1_init 0 = .ok (.aload_n 0, 1) := by decide +kernel
theorem dX1_init_1 : decode cX1_init 1 = .ok (.invokespecial 3, 3) := by decide +kernel
theorem dX1_init_4 : decode cX1_init 4 = .ok (.aload_n 0, 1) := by decide +kernel
theorem dX1_init_5 : decode cX1_init 5 = .ok (.bipush 64, 2) := by decide +kernel
theorem dX1_init_7 : decode cX1_init 7 = .ok (.newarray .int, 2) := by decide +kernel
theorem dX1_init_9 : decode cX1_init 9 = .ok (.putfield 11, 3) := by decide +kernel
theorem dX1_init_12 : decode cX1_init 12 = .ok (.aload_n 0, 1) := by decide +kernel
theorem dX1_init_13 : decode cX1_init 13 = .ok (.bipush 64, 2) := by decide +kernel
theorem dX1_init_15 : decode cX1_init 15 = .ok (.newarray .int, 2) := by decide +kernel
theorem dX1_init_17 : decode cX1_init 17 = .ok (.putfield 15, 3) := by decide +kernel
theorem dX1_init_20 : decode cX1_init 20 = .ok (.aload_n 0, 1) := by decide +kernel
theorem dX1_init_21 : decode cX1_init 21 = .ok (.iconst 0, 1) := by decide +kernel
theorem dX1_init_22 : decode cX1_init 22 = .ok (.putfield 18, 3) := by decide +kernel
theorem dX1_init_25 : decode cX1_init 25 = .ok (.aload_n 0, 1) := by decide +kernel
theorem dX1_init_26 : decode cX1_init 26 = .ok (.bipush 64, 2) := by decide +kernel
theorem dX1_init_28 : decode cX1_init 28 = .ok (.newarray .int, 2) := by decide +kernel
theorem dX1_init_30 : decode cX1_init 30 = .ok (.putfield 22, 3) := by decide +kernel
theorem dX1_init_33 : decode cX1_init 33 = .ok (.aload_n 0, 1) := by decide +kernel
theorem dX1_init_34 : decode cX1_init 34 = .ok (.bipush 64, 2) := by decide +kernel
theorem dX1_init_36 : decode cX1_init 36 = .ok (.newarray .int, 2) := by decide +kernel
theorem dX1_init_38 : decode cX1_init 38 = .ok (.putfield 25, 3) := by decide +kernel
theorem dX1_init_41 : decode cX1_init 41 = .ok (.aload_n 0, 1) := by decide +kernel
theorem dX1_init_42 : decode cX1_init 42 = .ok (.iconst 0, 1) := by decide +kernel
theorem dX1_init_43 : decode cX1_init 43 = .ok (.putfield 28, 3) := by decide +kernel
theorem dX1_init_46 : decode cX1_init 46 = .ok (.return_, 1) := by decide +kernel
theorem dX1_drawOne_0 : decode cX1_drawOne 0 = .ok (.aload_n 0, 1) := by decide +kernel
theorem dX1_drawOne_1 : decode cX1_drawOne 1 = .ok (.iconst 0, 1) := by decide +kernel
theorem dX1_drawOne_2 : decode cX1_drawOne 2 = .ok (.putfield 28, 3) := by decide +kernel
theorem dX1_drawOne_5 : decode cX1_drawOne 5 = .ok (.iconst 0, 1) := by decide +kernel
theorem dX1_drawOne_6 : decode cX1_drawOne 6 = .ok (.istore_n 2, 1) := by decide +kernel
theorem dX1_drawOne_7 : decode cX1_drawOne 7 = .ok (.iload_n 2, 1) := by decide +kernel
theorem dX1_drawOne_8 : decode cX1_drawOne 8 = .ok (.aload_n 1, 1) := by decide +kernel
theorem dX1_drawOne_9 : decode cX1_drawOne 9 = .ok (.getfield 31, 3) := by decide +kernel
theorem dX1_drawOne_12 : decode cX1_drawOne 12 = .ok (.if_icmp .ge 25, 3) := by decide +kernel
theorem dX1_drawOne_15 : decode cX1_drawOne 15 = .ok (.aload_n 0, 1) := by decide +kernel
theorem dX1_drawOne_16 : decode cX1_drawOne 16 = .ok (.aload_n 1, 1) := by decide +kernel
theorem dX1_drawOne_17 : decode cX1_drawOne 17 = .ok (.getfield 36, 3) := by decide +kernel
theorem dX1_drawOne_20 : decode cX1_drawOne 20 = .ok (.iload_n 2, 1) := by decide +kernel
theorem dX1_drawOne_21 : decode cX1_drawOne 21 = .ok (.iaload, 1) := by decide +kernel
theorem dX1_drawOne_22 : decode cX1_drawOne 22 = .ok (.aload_n 1, 1) := by decide +kernel
theorem dX1_drawOne_23 : decode cX1_drawOne 23 = .ok (.getfield 39, 3) := by decide +kernel
theorem dX1_drawOne_26 : decode cX1_drawOne 26 = .ok (.iload_n 2, 1) := by decide +kernel
theorem dX1_drawOne_27 : decode cX1_drawOne 27 = .ok (.iaload, 1) := by decide +kernel
theorem dX1_drawOne_28 : decode cX1_drawOne 28 = .ok (.invokevirtual 42, 3) := by decide +kernel
theorem dX1_drawOne_31 : decode cX1_drawOne 31 = .ok (.iinc 2 1, 3) := by decide +kernel
theorem dX1_drawOne_34 : decode cX1_drawOne 34 = .ok (.goto (-27), 3) := by decide +kernel
theorem dX1_drawOne_37 : decode cX1_drawOne 37 = .ok (.aload_n 0, 1) := by decide +kernel
theorem dX1_drawOne_38 : decode cX1_drawOne 38 = .ok (.invokevirtual 46, 3) := by decide +kernel
theorem dX1_drawOne_41 : decode cX1_drawOne 41 = .ok (.return_, 1) := by decide +kernel
theorem dX1_drawSum_0 : decode cX1_drawSum 0 = .ok (.aload_n 0, 1) := by decide +kernel
theorem dX1_drawSum_1 : decode cX1_drawSum 1 = .ok (.iconst 0, 1) := by decide +kernel
theorem dX1_drawSum_2 : decode cX1_drawSum 2 = .ok (.putfield 28, 3) := by decide +kernel
theorem dX1_drawSum_5 : decode cX1_drawSum 5 = .ok (.iconst 0, 1) := by decide +kernel
theorem dX1_drawSum_6 : decode cX1_drawSum 6 = .ok (.istore_n 3, 1) := by decide +kernel
theorem dX1_drawSum_7 : decode cX1_drawSum 7 = .ok (.iload_n 3, 1) := by decide +kernel
theorem dX1_drawSum_8 : decode cX1_drawSum 8 = .ok (.aload_n 1, 1) := by decide +kernel
theorem dX1_drawSum_9 : decode cX1_drawSum 9 = .ok (.getfield 31, 3) := by decide +kernel
theorem dX1_drawSum_12 : decode cX1_drawSum 12 = .ok (.if_icmp .ge 59, 3) := by decide +kernel
theorem dX1_drawSum_15 : decode cX1_drawSum 15 = .ok (.iconst 0, 1) := by decide +kernel
theorem dX1_drawSum_16 : decode cX1_drawSum 16 = .ok (.istore 4, 2) := by decide +kernel
theorem dX1_drawSum_18 : decode cX1_drawSum 18 = .ok (.iload 4, 2) := by decide +kernel
theorem dX1_drawSum_20 : decode cX1_drawSum 20 = .ok (.aload_n 2, 1) := by decide +kernel
theorem dX1_drawSum_21 : decode cX1_drawSum 21 = .ok (.getfield 31, 3) := by decide +kernel
theorem dX1_drawSum_24 : decode cX1_drawSum 24 = .ok (.if_icmp .ge 41, 3) := by decide +kernel
theorem dX1_drawSum_27 : decode cX1_drawSum 27 = .ok (.aload_n 0, 1) := by decide +kernel
theorem dX1_drawSum_28 : decode cX1_drawSum 28 = .ok (.aload_n 1, 1) := by decide +kernel
theorem dX1_drawSum_29 : decode cX1_drawSum 29 = .ok (.getfield 36, 3) := by decide +kernel
theorem dX1_drawSum_32 : decode cX1_drawSum 32 = .ok (.iload_n 3, 1) := by decide +kernel
theorem dX1_drawSum_33 : decode cX1_drawSum 33 = .ok (.iaload, 1) := by decide +kernel
theorem dX1_drawSum_34 : decode cX1_drawSum 34 = .ok (.aload_n 2, 1) := by decide +kernel
theorem dX1_drawSum_35 : decode cX1_drawSum 35 = .ok (.getfield 36, 3) := by decide +kernel
theorem dX1_drawSum_38 : decode cX1_drawSum 38 = .ok (.iload 4, 2) := by decide +kernel
theorem dX1_drawSum_40 : decode cX1_drawSum 40 = .ok (.iaload, 1) := by decide +kernel
theorem dX1_drawSum_41 : decode cX1_drawSum 41 = .ok (.iadd, 1) := by decide +kernel
theorem dX1_drawSum_42 : decode cX1_drawSum 42 = .ok (.aload_n 1, 1) := by decide +kernel
theorem dX1_drawSum_43 : decode cX1_drawSum 43 = .ok (.getfield 39, 3) := by decide +kernel
theorem dX1_drawSum_46 : decode cX1_drawSum 46 = .ok (.iload_n 3, 1) := by decide +kernel
theorem dX1_drawSum_47 : decode cX1_drawSum 47 = .ok (.iaload, 1) := by decide +kernel
theorem dX1_drawSum_48 : decode cX1_drawSum 48 = .ok (.aload_n 2, 1) := by decide +kernel
theorem dX1_drawSum_49 : decode cX1_drawSum 49 = .ok (.getfield 39, 3) := by decide +kernel
theorem dX1_drawSum_52 : decode cX1_drawSum 52 = .ok (.iload 4, 2) := by decide +kernel
theorem dX1_drawSum_54 : decode cX1_drawSum 54 = .ok (.iaload, 1) := by decide +kernel
theorem dX1_drawSum_55 : decode cX1_drawSum 55 = .ok (.iadd, 1) := by decide +kernel
theorem dX1_drawSum_56 : decode cX1_drawSum 56 = .ok (.invokevirtual 42, 3) := by decide +kernel
theorem dX1_drawSum_59 : decode cX1_drawSum 59 = .ok (.iinc 4 1, 3) := by decide +kernel
theorem dX1_drawSum_62 : decode cX1_drawSum 62 = .ok (.goto (-44), 3) := by decide +kernel
theorem dX1_drawSum_65 : decode cX1_drawSum 65 = .ok (.iinc 3 1, 3) := by decide +kernel
theorem dX1_drawSum_68 : decode cX1_drawSum 68 = .ok (.goto (-61), 3) := by decide +kernel
theorem dX1_drawSum_71 : decode cX1_drawSum 71 = .ok (.aload_n 0, 1) := by decide +kernel
theorem dX1_drawSum_72 : decode cX1_drawSum 72 = .ok (.invokevirtual 46, 3) := by decide +kernel
theorem dX1_drawSum_75 : decode cX1_drawSum 75 = .ok (.return_, 1) := by decide +kernel
theorem dX1_area_0 : decode cX1_area 0 = .ok (.iconst 0, 1) := by decide +kernel
theorem dX1_area_1 : decode cX1_area 1 = .ok (.istore_n 1, 1) := by decide +kernel
theorem dX1_area_2 : decode cX1_area 2 = .ok (.iconst 0, 1) := by decide +kernel
theorem dX1_area_3 : decode cX1_area 3 = .ok (.istore_n 2, 1) := by decide +kernel
theorem dX1_area_4 : decode cX1_area 4 = .ok (.iload_n 2, 1) := by decide +kernel
theorem dX1_area_5 : decode cX1_area 5 = .ok (.aload_n 0, 1) := by decide +kernel
theorem dX1_area_6 : decode cX1_area 6 = .ok (.getfield 18, 3) := by decide +kernel
theorem dX1_area_9 : decode cX1_area 9 = .ok (.if_icmp .ge 45, 3) := by decide +kernel
theorem dX1_area_12 : decode cX1_area 12 = .ok (.aload_n 0, 1) := by decide +kernel
theorem dX1_area_13 : decode cX1_area 13 = .ok (.iload_n 2, 1) := by decide +kernel
theorem dX1_area_14 : decode cX1_area 14 = .ok (.invokevirtual 49, 3) := by decide +kernel
theorem dX1_area_17 : decode cX1_area 17 = .ok (.istore_n 3, 1) := by decide +kernel
theorem dX1_area_18 : decode cX1_area 18 = .ok (.iload_n 1, 1) := by decide +kernel
theorem dX1_area_19 : decode cX1_area 19 = .ok (.aload_n 0, 1) := by decide +kernel
theorem dX1_area_20 : decode cX1_area 20 = .ok (.getfield 11, 3) := by decide +kernel
theorem dX1_area_23 : decode cX1_area 23 = .ok (.iload_n 2, 1) := by decide +kernel
theorem dX1_area_24 : decode cX1_area 24 = .ok (.iaload, 1) := by decide +kernel
theorem dX1_area_25 : decode cX1_area 25 = .ok (.aload_n 0, 1) := by decide +kernel
theorem dX1_area_26 : decode cX1_area 26 = .ok (.getfield 15, 3) := by decide +kernel
theorem dX1_area_29 : decode cX1_area 29 = .ok (.iload_n 3, 1) := by decide +kernel
theorem dX1_area_30 : decode cX1_area 30 = .ok (.iaload, 1) := by decide +kernel
theorem dX1_area_31 : decode cX1_area 31 = .ok (.imul, 1) := by decide +kernel
theorem dX1_area_32 : decode cX1_area 32 = .ok (.aload_n 0, 1) := by decide +kernel
theorem dX1_area_33 : decode cX1_area 33 = .ok (.getfield 15, 3) := by decide +kernel
theorem dX1_area_36 : decode cX1_area 36 = .ok (.iload_n 2, 1) := by decide +kernel
theorem dX1_area_37 : decode cX1_area 37 = .ok (.iaload, 1) := by decide +kernel
theorem dX1_area_38 : decode cX1_area 38 = .ok (.aload_n 0, 1) := by decide +kernel
theorem dX1_area_39 : decode cX1_area 39 = .ok (.getfield 11, 3) := by decide +kernel
theorem dX1_area_42 : decode cX1_area 42 = .ok (.iload_n 3, 1) := by decide +kernel
theorem dX1_area_43 : decode cX1_area 43 = .ok (.iaload, 1) := by decide +kernel
theorem dX1_area_44 : decode cX1_area 44 = .ok (.imul, 1) := by decide +kernel
theorem dX1_area_45 : decode cX1_area 45 = .ok (.isub, 1) := by decide +kernel
theorem dX1_area_46 : decode cX1_area 46 = .ok (.iadd, 1) := by decide +kernel
theorem dX1_area_47 : decode cX1_area 47 = .ok (.istore_n 1, 1) := by decide +kernel
theorem dX1_area_48 : decode cX1_area 48 = .ok (.iinc 2 1, 3) := by decide +kernel
theorem dX1_area_51 : decode cX1_area 51 = .ok (.goto (-47), 3) := by decide +kernel
theorem dX1_area_54 : decode cX1_area 54 = .ok (.iload_n 1, 1) := by decide +kernel
theorem dX1_area_55 : decode cX1_area 55 = .ok (.ireturn, 1) := by decide +kernel
theorem dX1_rim_0 : decode cX1_rim 0 = .ok (.aload_n 0, 1) := by decide +kernel
theorem dX1_rim_1 : decode cX1_rim 1 = .ok (.getfield 18, 3) := by decide +kernel
theorem dX1_rim_4 : decode cX1_rim 4 = .ok (.iconst 2, 1) := by decide +kernel
theorem dX1_rim_5 : decode cX1_rim 5 = .ok (.if_icmp .ge 8, 3) := by decide +kernel
theorem dX1_rim_8 : decode cX1_rim 8 = .ok (.aload_n 0, 1) := by decide +kernel
theorem dX1_rim_9 : decode cX1_rim 9 = .ok (.getfield 18, 3) := by decide +kernel
theorem dX1_rim_12 : decode cX1_rim 12 = .ok (.ireturn, 1) := by decide +kernel
theorem dX1_rim_13 : decode cX1_rim 13 = .ok (.iconst 0, 1) := by decide +kernel
theorem dX1_rim_14 : decode cX1_rim 14 = .ok (.istore_n 1, 1) := by decide +kernel
theorem dX1_rim_15 : decode cX1_rim 15 = .ok (.iconst 0, 1) := by decide +kernel
theorem dX1_rim_16 : decode cX1_rim 16 = .ok (.istore_n 2, 1) := by decide +kernel
theorem dX1_rim_17 : decode cX1_rim 17 = .ok (.iload_n 2, 1) := by decide +kernel
theorem dX1_rim_18 : decode cX1_rim 18 = .ok (.aload_n 0, 1) := by decide +kernel
theorem dX1_rim_19 : decode cX1_rim 19 = .ok (.getfield 18, 3) := by decide +kernel
theorem dX1_rim_22 : decode cX1_rim 22 = .ok (.if_icmp .ge 47, 3) := by decide +kernel
theorem dX1_rim_25 : decode cX1_rim 25 = .ok (.aload_n 0, 1) := by decide +kernel
theorem dX1_rim_26 : decode cX1_rim 26 = .ok (.iload_n 2, 1) := by decide +kernel
theorem dX1_rim_27 : decode cX1_rim 27 = .ok (.invokevirtual 49, 3) := by decide +kernel
theorem dX1_rim_30 : decode cX1_rim 30 = .ok (.istore_n 3, 1) := by decide +kernel
theorem dX1_rim_31 : decode cX1_rim 31 = .ok (.iload_n 1, 1) := by decide +kernel
theorem dX1_rim_32 : decode cX1_rim 32 = .ok (.aload_n 0, 1) := by decide +kernel
theorem dX1_rim_33 : decode cX1_rim 33 = .ok (.getfield 11, 3) := by decide +kernel
theorem dX1_rim_36 : decode cX1_rim 36 = .ok (.iload_n 3, 1) := by decide +kernel
theorem dX1_rim_37 : decode cX1_rim 37 = .ok (.iaload, 1) := by decide +kernel
theorem dX1_rim_38 : decode cX1_rim 38 = .ok (.aload_n 0, 1) := by decide +kernel
theorem dX1_rim_39 : decode cX1_rim 39 = .ok (.getfield 11, 3) := by decide +kernel
theorem dX1_rim_42 : decode cX1_rim 42 = .ok (.iload_n 2, 1) := by decide +kernel
theorem dX1_rim_43 : decode cX1_rim 43 = .ok (.iaload, 1) := by decide +kernel
theorem dX1_rim_44 : decode cX1_rim 44 = .ok (.isub, 1) := by decide +kernel
theorem dX1_rim_45 : decode cX1_rim 45 = .ok (.aload_n 0, 1) := by decide +kernel
theorem dX1_rim_46 : decode cX1_rim 46 = .ok (.getfield 15, 3) := by decide +kernel
theorem dX1_rim_49 : decode cX1_rim 49 = .ok (.iload_n 3, 1) := by decide +kernel
theorem dX1_rim_50 : decode cX1_rim 50 = .ok (.iaload, 1) := by decide +kernel
theorem dX1_rim_51 : decode cX1_rim 51 = .ok (.aload_n 0, 1) := by decide +kernel
theorem dX1_rim_52 : decode cX1_rim 52 = .ok (.getfield 15, 3) := by decide +kernel
theorem dX1_rim_55 : decode cX1_rim 55 = .ok (.iload_n 2, 1) := by decide +kernel
theorem dX1_rim_56 : decode cX1_rim 56 = .ok (.iaload, 1) := by decide +kernel
theorem dX1_rim_57 : decode cX1_rim 57 = .ok (.isub, 1) := by decide +kernel
theorem dX1_rim_58 : decode cX1_rim 58 = .ok (.invokestatic 53, 3) := by decide +kernel
theorem dX1_rim_61 : decode cX1_rim 61 = .ok (.iadd, 1) := by decide +kernel
theorem dX1_rim_62 : decode cX1_rim 62 = .ok (.istore_n 1, 1) := by decide +kernel
theorem dX1_rim_63 : decode cX1_rim 63 = .ok (.iinc 2 1, 3) := by decide +kernel
theorem dX1_rim_66 : decode cX1_rim 66 = .ok (.goto (-49), 3) := by decide +kernel
theorem dX1_rim_69 : decode cX1_rim 69 = .ok (.aload_n 0, 1) := by decide +kernel
theorem dX1_rim_70 : decode cX1_rim 70 = .ok (.getfield 18, 3) := by decide +kernel
theorem dX1_rim_73 : decode cX1_rim 73 = .ok (.iconst 2, 1) := by decide +kernel
theorem dX1_rim_74 : decode cX1_rim 74 = .ok (.if_icmp .ne 11, 3) := by decide +kernel
theorem dX1_rim_77 : decode cX1_rim 77 = .ok (.iload_n 1, 1) := by decide +kernel
theorem dX1_rim_78 : decode cX1_rim 78 = .ok (.iconst 2, 1) := by decide +kernel
theorem dX1_rim_79 : decode cX1_rim 79 = .ok (.idiv, 1) := by decide +kernel
theorem dX1_rim_80 : decode cX1_rim 80 = .ok (.iconst 1, 1) := by decide +kernel
theorem dX1_rim_81 : decode cX1_rim 81 = .ok (.iadd, 1) := by decide +kernel
theorem dX1_rim_82 : decode cX1_rim 82 = .ok (.goto 4, 3) := by decide +kernel
theorem dX1_rim_85 : decode cX1_rim 85 = .ok (.iload_n 1, 1) := by decide +kernel
theorem dX1_rim_86 : decode cX1_rim 86 = .ok (.ireturn, 1) := by decide +kernel
theorem dX1_inner_0 : decode cX1_inner 0 = .ok (.aload_n 0, 1) := by decide +kernel
theorem dX1_inner_1 : decode cX1_inner 1 = .ok (.getfield 18, 3) := by decide +kernel
theorem dX1_inner_4 : decode cX1_inner 4 = .ok (.iconst 3, 1) := by decide +kernel
theorem dX1_inner_5 : decode cX1_inner 5 = .ok (.if_icmp .ge 7, 3) := by decide +kernel
theorem dX1_inner_8 : decode cX1_inner 8 = .ok (.iconst 0, 1) := by decide +kernel
theorem dX1_inner_9 : decode cX1_inner 9 = .ok (.goto 16, 3) := by decide +kernel
theorem dX1_inner_12 : decode cX1_inner 12 = .ok (.aload_n 0, 1) := by decide +kernel
theorem dX1_inner_13 : decode cX1_inner 13 = .ok (.invokevirtual 57, 3) := by decide +kernel
theorem dX1_inner_16 : decode cX1_inner 16 = .ok (.aload_n 0, 1) := by decide +kernel
theorem dX1_inner_17 : decode cX1_inner 17 = .ok (.invokevirtual 61, 3) := by decide +kernel
theorem dX1_inner_20 : decode cX1_inner 20 = .ok (.isub, 1) := by decide +kernel
theorem dX1_inner_21 : decode cX1_inner 21 = .ok (.iconst 2, 1) := by decide +kernel
theorem dX1_inner_22 : decode cX1_inner 22 = .ok (.iadd, 1) := by decide +kernel
theorem dX1_inner_23 : decode cX1_inner 23 = .ok (.iconst 2, 1) := by decide +kernel
theorem dX1_inner_24 : decode cX1_inner 24 = .ok (.idiv, 1) := by decide +kernel
theorem dX1_inner_25 : decode cX1_inner 25 = .ok (.ireturn, 1) := by decide +kernel
theorem dX1_after_0 : decode cX1_after 0 = .ok (.iload_n 1, 1) := by decide +kernel
theorem dX1_after_1 : decode cX1_after 1 = .ok (.iconst 1, 1) := by decide +kernel
theorem dX1_after_2 : decode cX1_after 2 = .ok (.iadd, 1) := by decide +kernel
theorem dX1_after_3 : decode cX1_after 3 = .ok (.aload_n 0, 1) := by decide +kernel
theorem dX1_after_4 : decode cX1_after 4 = .ok (.getfield 18, 3) := by decide +kernel
theorem dX1_after_7 : decode cX1_after 7 = .ok (.if_icmp .ge 9, 3) := by decide +kernel
theorem dX1_after_10 : decode cX1_after 10 = .ok (.iload_n 1, 1) := by decide +kernel
theorem dX1_after_11 : decode cX1_after 11 = .ok (.iconst 1, 1) := by decide +kernel
theorem dX1_after_12 : decode cX1_after 12 = .ok (.iadd, 1) := by decide +kernel
theorem dX1_after_13 : decode cX1_after 13 = .ok (.goto 4, 3) := by decide +kernel
theorem dX1_after_16 : decode cX1_after 16 = .ok (.iconst 0, 1) := by decide +kernel
theorem dX1_after_17 : decode cX1_after 17 = .ok (.ireturn, 1) := by decide +kernel
theorem dX1_put_0 : decode cX1_put 0 = .ok (.aload_n 0, 1) := by decide +kernel
theorem dX1_put_1 : decode cX1_put 1 = .ok (.getfield 28, 3) := by decide +kernel
theorem dX1_put_4 : decode cX1_put 4 = .ok (.bipush 64, 2) := by decide +kernel
theorem dX1_put_6 : decode cX1_put 6 = .ok (.if_icmp .ge 33, 3) := by decide +kernel
theorem dX1_put_9 : decode cX1_put 9 = .ok (.aload_n 0, 1) := by decide +kernel
theorem dX1_put_10 : decode cX1_put 10 = .ok (.getfield 22, 3) := by decide +kernel
theorem dX1_put_13 : decode cX1_put 13 = .ok (.aload_n 0, 1) := by decide +kernel
theorem dX1_put_14 : decode cX1_put 14 = .ok (.getfield 28, 3) := by decide +kernel
theorem dX1_put_17 : decode cX1_put 17 = .ok (.iload_n 1, 1) := by decide +kernel
theorem dX1_put_18 : decode cX1_put 18 = .ok (.iastore, 1) := by decide +kernel
theorem dX1_put_19 : decode cX1_put 19 = .ok (.aload_n 0, 1) := by decide +kernel
theorem dX1_put_20 : decode cX1_put 20 = .ok (.getfield 25, 3) := by decide +kernel
theorem dX1_put_23 : decode cX1_put 23 = .ok (.aload_n 0, 1) := by decide +kernel
theorem dX1_put_24 : decode cX1_put 24 = .ok (.getfield 28, 3) := by decide +kernel
theorem dX1_put_27 : decode cX1_put 27 = .ok (.iload_n 2, 1) := by decide +kernel
theorem dX1_put_28 : decode cX1_put 28 = .ok (.iastore, 1) := by decide +kernel
theorem dX1_put_29 : decode cX1_put 29 = .ok (.aload_n 0, 1) := by decide +kernel
theorem dX1_put_30 : decode cX1_put 30 = .ok (.dup, 1) := by decide +kernel
theorem dX1_put_31 : decode cX1_put 31 = .ok (.getfield 28, 3) := by decide +kernel
theorem dX1_put_34 : decode cX1_put 34 = .ok (.iconst 1, 1) := by decide +kernel
theorem dX1_put_35 : decode cX1_put 35 = .ok (.iadd, 1) := by decide +kernel
theorem dX1_put_36 : decode cX1_put 36 = .ok (.putfield 28, 3) := by decide +kernel
theorem dX1_put_39 : decode cX1_put 39 = .ok (.return_, 1) := by decide +kernel
theorem dX1_wrap_0 : decode cX1_wrap 0 = .ok (.aload_n 0, 1) := by decide +kernel
theorem dX1_wrap_1 : decode cX1_wrap 1 = .ok (.iconst 0, 1) := by decide +kernel
theorem dX1_wrap_2 : decode cX1_wrap 2 = .ok (.putfield 18, 3) := by decide +kernel
theorem dX1_wrap_5 : decode cX1_wrap 5 = .ok (.aload_n 0, 1) := by decide +kernel
theorem dX1_wrap_6 : decode cX1_wrap 6 = .ok (.invokevirtual 64, 3) := by decide +kernel
theorem dX1_wrap_9 : decode cX1_wrap 9 = .ok (.istore_n 1, 1) := by decide +kernel
theorem dX1_wrap_10 : decode cX1_wrap 10 = .ok (.iload_n 1, 1) := by decide +kernel
theorem dX1_wrap_11 : decode cX1_wrap 11 = .ok (.istore_n 2, 1) := by decide +kernel
theorem dX1_wrap_12 : decode cX1_wrap 12 = .ok (.iconst 0, 1) := by decide +kernel
theorem dX1_wrap_13 : decode cX1_wrap 13 = .ok (.istore_n 3, 1) := by decide +kernel
theorem dX1_wrap_14 : decode cX1_wrap 14 = .ok (.iload_n 3, 1) := by decide +kernel
theorem dX1_wrap_15 : decode cX1_wrap 15 = .ok (.aload_n 0, 1) := by decide +kernel
theorem dX1_wrap_16 : decode cX1_wrap 16 = .ok (.getfield 28, 3) := by decide +kernel
theorem dX1_wrap_19 : decode cX1_wrap 19 = .ok (.if_icmp .ge 65, 3) := by decide +kernel
theorem dX1_wrap_22 : decode cX1_wrap 22 = .ok (.aload_n 0, 1) := by decide +kernel
theorem dX1_wrap_23 : decode cX1_wrap 23 = .ok (.getfield 11, 3) := by decide +kernel
theorem dX1_wrap_26 : decode cX1_wrap 26 = .ok (.aload_n 0, 1) := by decide +kernel
theorem dX1_wrap_27 : decode cX1_wrap 27 = .ok (.getfield 18, 3) := by decide +kernel
theorem dX1_wrap_30 : decode cX1_wrap 30 = .ok (.aload_n 0, 1) := by decide +kernel
theorem dX1_wrap_31 : decode cX1_wrap 31 = .ok (.getfield 22, 3) := by decide +kernel
theorem dX1_wrap_34 : decode cX1_wrap 34 = .ok (.iload_n 2, 1) := by decide +kernel
theorem dX1_wrap_35 : decode cX1_wrap 35 = .ok (.iaload, 1) := by decide +kernel
theorem dX1_wrap_36 : decode cX1_wrap 36 = .ok (.iastore, 1) := by decide +kernel
theorem dX1_wrap_37 : decode cX1_wrap 37 = .ok (.aload_n 0, 1) := by decide +kernel
theorem dX1_wrap_38 : decode cX1_wrap 38 = .ok (.getfield 15, 3) := by decide +kernel
theorem dX1_wrap_41 : decode cX1_wrap 41 = .ok (.aload_n 0, 1) := by decide +kernel
theorem dX1_wrap_42 : decode cX1_wrap 42 = .ok (.getfield 18, 3) := by decide +kernel
theorem dX1_wrap_45 : decode cX1_wrap 45 = .ok (.aload_n 0, 1) := by decide +kernel
theorem dX1_wrap_46 : decode cX1_wrap 46 = .ok (.getfield 25, 3) := by decide +kernel
theorem dX1_wrap_49 : decode cX1_wrap 49 = .ok (.iload_n 2, 1) := by decide +kernel
theorem dX1_wrap_50 : decode cX1_wrap 50 = .ok (.iaload, 1) := by decide +kernel
theorem dX1_wrap_51 : decode cX1_wrap 51 = .ok (.iastore, 1) := by decide +kernel
theorem dX1_wrap_52 : decode cX1_wrap 52 = .ok (.aload_n 0, 1) := by decide +kernel
theorem dX1_wrap_53 : decode cX1_wrap 53 = .ok (.dup, 1) := by decide +kernel
theorem dX1_wrap_54 : decode cX1_wrap 54 = .ok (.getfield 18, 3) := by decide +kernel
theorem dX1_wrap_57 : decode cX1_wrap 57 = .ok (.iconst 1, 1) := by decide +kernel
theorem dX1_wrap_58 : decode cX1_wrap 58 = .ok (.iadd, 1) := by decide +kernel
theorem dX1_wrap_59 : decode cX1_wrap 59 = .ok (.putfield 18, 3) := by decide +kernel
theorem dX1_wrap_62 : decode cX1_wrap 62 = .ok (.aload_n 0, 1) := by decide +kernel
theorem dX1_wrap_63 : decode cX1_wrap 63 = .ok (.iload_n 2, 1) := by decide +kernel
theorem dX1_wrap_64 : decode cX1_wrap 64 = .ok (.invokevirtual 67, 3) := by decide +kernel
theorem dX1_wrap_67 : decode cX1_wrap 67 = .ok (.istore_n 2, 1) := by decide +kernel
theorem dX1_wrap_68 : decode cX1_wrap 68 = .ok (.aload_n 0, 1) := by decide +kernel
theorem dX1_wrap_69 : decode cX1_wrap 69 = .ok (.iload_n 2, 1) := by decide +kernel
theorem dX1_wrap_70 : decode cX1_wrap 70 = .ok (.iload_n 1, 1) := by decide +kernel
theorem dX1_wrap_71 : decode cX1_wrap 71 = .ok (.invokevirtual 70, 3) := by decide +kernel
theorem dX1_wrap_74 : decode cX1_wrap 74 = .ok (.ifCond .eq 4, 3) := by decide +kernel
theorem dX1_wrap_77 : decode cX1_wrap 77 = .ok (.return_, 1) := by decide +kernel
theorem dX1_wrap_78 : decode cX1_wrap 78 = .ok (.iinc 3 1, 3) := by decide +kernel
theorem dX1_wrap_81 : decode cX1_wrap 81 = .ok (.goto (-67), 3) := by decide +kernel
theorem dX1_wrap_84 : decode cX1_wrap 84 = .ok (.return_, 1) := by decide +kernel
theorem dX1_firstPoint_0 : decode cX1_firstPoint 0 = .ok (.iconst 0, 1) := by decide +kernel
theorem dX1_firstPoint_1 : decode cX1_firstPoint 1 = .ok (.istore_n 1, 1) := by decide +kernel
theorem dX1_firstPoint_2 : decode cX1_firstPoint 2 = .ok (.iconst 1, 1) := by decide +kernel
theorem dX1_firstPoint_3 : decode cX1_firstPoint 3 = .ok (.istore_n 2, 1) := by decide +kernel
theorem dX1_firstPoint_4 : decode cX1_firstPoint 4 = .ok (.iload_n 2, 1) := by decide +kernel
theorem dX1_firstPoint_5 : decode cX1_firstPoint 5 = .ok (.aload_n 0, 1) := by decide +kernel
theorem dX1_firstPoint_6 : decode cX1_firstPoint 6 = .ok (.getfield 28, 3) := by decide +kernel
theorem dX1_firstPoint_9 : decode cX1_firstPoint 9 = .ok (.if_icmp .ge 66, 3) := by decide +kernel
theorem dX1_firstPoint_12 : decode cX1_firstPoint 12 = .ok (.aload_n 0, 1) := by decide +kernel
theorem dX1_firstPoint_13 : decode cX1_firstPoint 13 = .ok (.getfield 22, 3) := by decide +kernel
theorem dX1_firstPoint_16 : decode cX1_firstPoint 16 = .ok (.iload_n 2, 1) := by decide +kernel
theorem dX1_firstPoint_17 : decode cX1_firstPoint 17 = .ok (.iaload, 1) := by decide +kernel
theorem dX1_firstPoint_18 : decode cX1_firstPoint 18 = .ok (.aload_n 0, 1) := by decide +kernel
theorem dX1_firstPoint_19 : decode cX1_firstPoint 19 = .ok (.getfield 22, 3) := by decide +kernel
theorem dX1_firstPoint_22 : decode cX1_firstPoint 22 = .ok (.iload_n 1, 1) := by decide +kernel
theorem dX1_firstPoint_23 : decode cX1_firstPoint 23 = .ok (.iaload, 1) := by decide +kernel
theorem dX1_firstPoint_24 : decode cX1_firstPoint 24 = .ok (.if_icmp .ne 7, 3) := by decide +kernel
theorem dX1_firstPoint_27 : decode cX1_firstPoint 27 = .ok (.iconst 1, 1) := by decide +kernel
theorem dX1_firstPoint_28 : decode cX1_firstPoint 28 = .ok (.goto 4, 3) := by decide +kernel
theorem dX1_firstPoint_31 : decode cX1_firstPoint 31 = .ok (.iconst 0, 1) := by decide +kernel
theorem dX1_firstPoint_32 : decode cX1_firstPoint 32 = .ok (.istore_n 3, 1) := by decide +kernel
theorem dX1_firstPoint_33 : decode cX1_firstPoint 33 = .ok (.aload_n 0, 1) := by decide +kernel
theorem dX1_firstPoint_34 : decode cX1_firstPoint 34 = .ok (.getfield 22, 3) := by decide +kernel
theorem dX1_firstPoint_37 : decode cX1_firstPoint 37 = .ok (.iload_n 2, 1) := by decide +kernel
theorem dX1_firstPoint_38 : decode cX1_firstPoint 38 = .ok (.iaload, 1) := by decide +kernel
theorem dX1_firstPoint_39 : decode cX1_firstPoint 39 = .ok (.aload_n 0, 1) := by decide +kernel
theorem dX1_firstPoint_40 : decode cX1_firstPoint 40 = .ok (.getfield 22, 3) := by decide +kernel
theorem dX1_firstPoint_43 : decode cX1_firstPoint 43 = .ok (.iload_n 1, 1) := by decide +kernel
theorem dX1_firstPoint_44 : decode cX1_firstPoint 44 = .ok (.iaload, 1) := by decide +kernel
theorem dX1_firstPoint_45 : decode cX1_firstPoint 45 = .ok (.if_icmp .lt 22, 3) := by decide +kernel
theorem dX1_firstPoint_48 : decode cX1_firstPoint 48 = .ok (.iload_n 3, 1) := by decide +kernel
theorem dX1_firstPoint_49 : decode cX1_firstPoint 49 = .ok (.ifCond .eq 20, 3) := by decide +kernel
theorem dX1_firstPoint_52 : decode cX1_firstPoint 52 = .ok (.aload_n 0, 1) := by decide +kernel
theorem dX1_firstPoint_53 : decode cX1_firstPoint 53 = .ok (.getfield 25, 3) := by decide +kernel
theorem dX1_firstPoint_56 : decode cX1_firstPoint 56 = .ok (.iload_n 2, 1) := by decide +kernel
theorem dX1_firstPoint_57 : decode cX1_firstPoint 57 = .ok (.iaload, 1) := by decide +kernel
theorem dX1_firstPoint_58 : decode cX1_firstPoint 58 = .ok (.aload_n 0, 1) := by decide +kernel
theorem dX1_firstPoint_59 : decode cX1_firstPoint 59 = .ok (.getfield 25, 3) := by decide +kernel
theorem dX1_firstPoint_62 : decode cX1_firstPoint 62 = .ok (.iload_n 1, 1) := by decide +kernel
theorem dX1_firstPoint_63 : decode cX1_firstPoint 63 = .ok (.iaload, 1) := by decide +kernel
theorem dX1_firstPoint_64 : decode cX1_firstPoint 64 = .ok (.if_icmp .ge 5, 3) := by decide +kernel
theorem dX1_firstPoint_67 : decode cX1_firstPoint 67 = .ok (.iload_n 2, 1) := by decide +kernel
theorem dX1_firstPoint_68 : decode cX1_firstPoint 68 = .ok (.istore_n 1, 1) := by decide +kernel
theorem dX1_firstPoint_69 : decode cX1_firstPoint 69 = .ok (.iinc 2 1, 3) := by decide +kernel
theorem dX1_firstPoint_72 : decode cX1_firstPoint 72 = .ok (.goto (-68), 3) := by decide +kernel
theorem dX1_firstPoint_75 : decode cX1_firstPoint 75 = .ok (.iload_n 1, 1) := by decide +kernel
theorem dX1_firstPoint_76 : decode cX1_firstPoint 76 = .ok (.ireturn, 1) := by decide +kernel
theorem dX1_nextCorner_0 : decode cX1_nextCorner 0 = .ok (.iload_n 1, 1) := by decide +kernel
theorem dX1_nextCorner_1 : decode cX1_nextCorner 1 = .ok (.istore_n 2, 1) := by decide +kernel
theorem dX1_nextCorner_2 : decode cX1_nextCorner 2 = .ok (.iconst 0, 1) := by decide +kernel
theorem dX1_nextCorner_3 : decode cX1_nextCorner 3 = .ok (.istore_n 3, 1) := by decide +kernel
theorem dX1_nextCorner_4 : decode cX1_nextCorner 4 = .ok (.iload_n 3, 1) := by decide +kernel
theorem dX1_nextCorner_5 : decode cX1_nextCorner 5 = .ok (.aload_n 0, 1) := by decide +kernel
theorem dX1_nextCorner_6 : decode cX1_nextCorner 6 = .ok (.getfield 28, 3) := by decide +kernel
theorem dX1_nextCorner_9 : decode cX1_nextCorner 9 = .ok (.if_icmp .ge 66, 3) := by decide +kernel
theorem dX1_nextCorner_12 : decode cX1_nextCorner 12 = .ok (.aload_n 0, 1) := by decide +kernel
theorem dX1_nextCorner_13 : decode cX1_nextCorner 13 = .ok (.iload_n 3, 1) := by decide +kernel
theorem dX1_nextCorner_14 : decode cX1_nextCorner 14 = .ok (.iload_n 1, 1) := by decide +kernel
theorem dX1_nextCorner_15 : decode cX1_nextCorner 15 = .ok (.invokevirtual 70, 3) := by decide +kernel
theorem dX1_nextCorner_18 : decode cX1_nextCorner 18 = .ok (.ifCond .eq 6, 3) := by decide +kernel
theorem dX1_nextCorner_21 : decode cX1_nextCorner 21 = .ok (.goto 48, 3) := by decide +kernel
theorem dX1_nextCorner_24 : decode cX1_nextCorner 24 = .ok (.aload_n 0, 1) := by decide +kernel
theorem dX1_nextCorner_25 : decode cX1_nextCorner 25 = .ok (.iload_n 1, 1) := by decide +kernel
theorem dX1_nextCorner_26 : decode cX1_nextCorner 26 = .ok (.iload_n 2, 1) := by decide +kernel
theorem dX1_nextCorner_27 : decode cX1_nextCorner 27 = .ok (.iload_n 3, 1) := by decide +kernel
theorem dX1_nextCorner_28 : decode cX1_nextCorner 28 = .ok (.invokevirtual 74, 3) := by decide +kernel
theorem dX1_nextCorner_31 : decode cX1_nextCorner 31 = .ok (.istore 4, 2) := by decide +kernel
theorem dX1_nextCorner_33 : decode cX1_nextCorner 33 = .ok (.aload_n 0, 1) := by decide +kernel
theorem dX1_nextCorner_34 : decode cX1_nextCorner 34 = .ok (.iload_n 2, 1) := by decide +kernel
theorem dX1_nextCorner_35 : decode cX1_nextCorner 35 = .ok (.iload_n 1, 1) := by decide +kernel
theorem dX1_nextCorner_36 : decode cX1_nextCorner 36 = .ok (.invokevirtual 70, 3) := by decide +kernel
theorem dX1_nextCorner_39 : decode cX1_nextCorner 39 = .ok (.ifCond .ne 28, 3) := by decide +kernel
theorem dX1_nextCorner_42 : decode cX1_nextCorner 42 = .ok (.iload 4, 2) := by decide +kernel
theorem dX1_nextCorner_44 : decode cX1_nextCorner 44 = .ok (.ifCond .lt 23, 3) := by decide +kernel
theorem dX1_nextCorner_47 : decode cX1_nextCorner 47 = .ok (.iload 4, 2) := by decide +kernel
theorem dX1_nextCorner_49 : decode cX1_nextCorner 49 = .ok (.ifCond .ne 20, 3) := by decide +kernel
theorem dX1_nextCorner_52 : decode cX1_nextCorner 52 = .ok (.aload_n 0, 1) := by decide +kernel
theorem dX1_nextCorner_53 : decode cX1_nextCorner 53 = .ok (.iload_n 1, 1) := by decide +kernel
theorem dX1_nextCorner_54 : decode cX1_nextCorner 54 = .ok (.iload_n 3, 1) := by decide +kernel
theorem dX1_nextCorner_55 : decode cX1_nextCorner 55 = .ok (.invokevirtual 78, 3) := by decide +kernel
theorem dX1_nextCorner_58 : decode cX1_nextCorner 58 = .ok (.aload_n 0, 1) := by decide +kernel
theorem dX1_nextCorner_59 : decode cX1_nextCorner 59 = .ok (.iload_n 1, 1) := by decide +kernel
theorem dX1_nextCorner_60 : decode cX1_nextCorner 60 = .ok (.iload_n 2, 1) := by decide +kernel
theorem dX1_nextCorner_61 : decode cX1_nextCorner 61 = .ok (.invokevirtual 78, 3) := by decide +kernel
theorem dX1_nextCorner_64 : decode cX1_nextCorner 64 = .ok (.if_icmp .le 5, 3) := by decide +kernel
theorem dX1_nextCorner_67 : decode cX1_nextCorner 67 = .ok (.iload_n 3, 1) := by decide +kernel
theorem dX1_nextCorner_68 : decode cX1_nextCorner 68 = .ok (.istore_n 2, 1) := by decide +kernel
theorem dX1_nextCorner_69 : decode cX1_nextCorner 69 = .ok (.iinc 3 1, 3) := by decide +kernel
theorem dX1_nextCorner_72 : decode cX1_nextCorner 72 = .ok (.goto (-68), 3) := by decide +kernel
theorem dX1_nextCorner_75 : decode cX1_nextCorner 75 = .ok (.iload_n 2, 1) := by decide +kernel
theorem dX1_nextCorner_76 : decode cX1_nextCorner 76 = .ok (.ireturn, 1) := by decide +kernel
theorem dX1_same_0 : decode cX1_same 0 = .ok (.aload_n 0, 1) := by decide +kernel
theorem dX1_same_1 : decode cX1_same 1 = .ok (.getfield 22, 3) := by decide +kernel
theorem dX1_same_4 : decode cX1_same 4 = .ok (.iload_n 1, 1) := by decide +kernel
theorem dX1_same_5 : decode cX1_same 5 = .ok (.iaload, 1) := by decide +kernel
theorem dX1_same_6 : decode cX1_same 6 = .ok (.aload_n 0, 1) := by decide +kernel
theorem dX1_same_7 : decode cX1_same 7 = .ok (.getfield 22, 3) := by decide +kernel
theorem dX1_same_10 : decode cX1_same 10 = .ok (.iload_n 2, 1) := by decide +kernel
theorem dX1_same_11 : decode cX1_same 11 = .ok (.iaload, 1) := by decide +kernel
theorem dX1_same_12 : decode cX1_same 12 = .ok (.if_icmp .ne 22, 3) := by decide +kernel
theorem dX1_same_15 : decode cX1_same 15 = .ok (.aload_n 0, 1) := by decide +kernel
theorem dX1_same_16 : decode cX1_same 16 = .ok (.getfield 25, 3) := by decide +kernel
theorem dX1_same_19 : decode cX1_same 19 = .ok (.iload_n 1, 1) := by decide +kernel
theorem dX1_same_20 : decode cX1_same 20 = .ok (.iaload, 1) := by decide +kernel
theorem dX1_same_21 : decode cX1_same 21 = .ok (.aload_n 0, 1) := by decide +kernel
theorem dX1_same_22 : decode cX1_same 22 = .ok (.getfield 25, 3) := by decide +kernel
theorem dX1_same_25 : decode cX1_same 25 = .ok (.iload_n 2, 1) := by decide +kernel
theorem dX1_same_26 : decode cX1_same 26 = .ok (.iaload, 1) := by decide +kernel
theorem dX1_same_27 : decode cX1_same 27 = .ok (.if_icmp .ne 7, 3) := by decide +kernel
theorem dX1_same_30 : decode cX1_same 30 = .ok (.iconst 1, 1) := by decide +kernel
theorem dX1_same_31 : decode cX1_same 31 = .ok (.goto 4, 3) := by decide +kernel
theorem dX1_same_34 : decode cX1_same 34 = .ok (.iconst 0, 1) := by decide +kernel
theorem dX1_same_35 : decode cX1_same 35 = .ok (.ireturn, 1) := by decide +kernel
theorem dX1_sideOf_0 : decode cX1_sideOf 0 = .ok (.aload_n 0, 1) := by decide +kernel
theorem dX1_sideOf_1 : decode cX1_sideOf 1 = .ok (.getfield 22, 3) := by decide +kernel
theorem dX1_sideOf_4 : decode cX1_sideOf 4 = .ok (.iload_n 2, 1) := by decide +kernel
theorem dX1_sideOf_5 : decode cX1_sideOf 5 = .ok (.iaload, 1) := by decide +kernel
theorem dX1_sideOf_6 : decode cX1_sideOf 6 = .ok (.aload_n 0, 1) := by decide +kernel
theorem dX1_sideOf_7 : decode cX1_sideOf 7 = .ok (.getfield 22, 3) := by decide +kernel
theorem dX1_sideOf_10 : decode cX1_sideOf 10 = .ok (.iload_n 1, 1) := by decide +kernel
theorem dX1_sideOf_11 : decode cX1_sideOf 11 = .ok (.iaload, 1) := by decide +kernel
theorem dX1_sideOf_12 : decode cX1_sideOf 12 = .ok (.isub, 1) := by decide +kernel
theorem dX1_sideOf_13 : decode cX1_sideOf 13 = .ok (.aload_n 0, 1) := by decide +kernel
theorem dX1_sideOf_14 : decode cX1_sideOf 14 = .ok (.getfield 25, 3) := by decide +kernel
theorem dX1_sideOf_17 : decode cX1_sideOf 17 = .ok (.iload_n 3, 1) := by decide +kernel
theorem dX1_sideOf_18 : decode cX1_sideOf 18 = .ok (.iaload, 1) := by decide +kernel
theorem dX1_sideOf_19 : decode cX1_sideOf 19 = .ok (.aload_n 0, 1) := by decide +kernel
theorem dX1_sideOf_20 : decode cX1_sideOf 20 = .ok (.getfield 25, 3) := by decide +kernel
theorem dX1_sideOf_23 : decode cX1_sideOf 23 = .ok (.iload_n 1, 1) := by decide +kernel
theorem dX1_sideOf_24 : decode cX1_sideOf 24 = .ok (.iaload, 1) := by decide +kernel
theorem dX1_sideOf_25 : decode cX1_sideOf 25 = .ok (.isub, 1) := by decide +kernel
theorem dX1_sideOf_26 : decode cX1_sideOf 26 = .ok (.imul, 1) := by decide +kernel
theorem dX1_sideOf_27 : decode cX1_sideOf 27 = .ok (.aload_n 0, 1) := by decide +kernel
theorem dX1_sideOf_28 : decode cX1_sideOf 28 = .ok (.getfield 25, 3) := by decide +kernel
theorem dX1_sideOf_31 : decode cX1_sideOf 31 = .ok (.iload_n 2, 1) := by decide +kernel
theorem dX1_sideOf_32 : decode cX1_sideOf 32 = .ok (.iaload, 1) := by decide +kernel
theorem dX1_sideOf_33 : decode cX1_sideOf 33 = .ok (.aload_n 0, 1) := by decide +kernel
theorem dX1_sideOf_34 : decode cX1_sideOf 34 = .ok (.getfield 25, 3) := by decide +kernel
theorem dX1_sideOf_37 : decode cX1_sideOf 37 = .ok (.iload_n 1, 1) := by decide +kernel
theorem dX1_sideOf_38 : decode cX1_sideOf 38 = .ok (.iaload, 1) := by decide +kernel
theorem dX1_sideOf_39 : decode cX1_sideOf 39 = .ok (.isub, 1) := by decide +kernel
theorem dX1_sideOf_40 : decode cX1_sideOf 40 = .ok (.aload_n 0, 1) := by decide +kernel
theorem dX1_sideOf_41 : decode cX1_sideOf 41 = .ok (.getfield 22, 3) := by decide +kernel
theorem dX1_sideOf_44 : decode cX1_sideOf 44 = .ok (.iload_n 3, 1) := by decide +kernel
theorem dX1_sideOf_45 : decode cX1_sideOf 45 = .ok (.iaload, 1) := by decide +kernel
theorem dX1_sideOf_46 : decode cX1_sideOf 46 = .ok (.aload_n 0, 1) := by decide +kernel
theorem dX1_sideOf_47 : decode cX1_sideOf 47 = .ok (.getfield 22, 3) := by decide +kernel
theorem dX1_sideOf_50 : decode cX1_sideOf 50 = .ok (.iload_n 1, 1) := by decide +kernel
theorem dX1_sideOf_51 : decode cX1_sideOf 51 = .ok (.iaload, 1) := by decide +kernel
theorem dX1_sideOf_52 : decode cX1_sideOf 52 = .ok (.isub, 1) := by decide +kernel
theorem dX1_sideOf_53 : decode cX1_sideOf 53 = .ok (.imul, 1) := by decide +kernel
theorem dX1_sideOf_54 : decode cX1_sideOf 54 = .ok (.isub, 1) := by decide +kernel
theorem dX1_sideOf_55 : decode cX1_sideOf 55 = .ok (.ireturn, 1) := by decide +kernel
theorem dX1_far_0 : decode cX1_far 0 = .ok (.aload_n 0, 1) := by decide +kernel
theorem dX1_far_1 : decode cX1_far 1 = .ok (.getfield 22, 3) := by decide +kernel
theorem dX1_far_4 : decode cX1_far 4 = .ok (.iload_n 2, 1) := by decide +kernel
theorem dX1_far_5 : decode cX1_far 5 = .ok (.iaload, 1) := by decide +kernel
theorem dX1_far_6 : decode cX1_far 6 = .ok (.aload_n 0, 1) := by decide +kernel
theorem dX1_far_7 : decode cX1_far 7 = .ok (.getfield 22, 3) := by decide +kernel
theorem dX1_far_10 : decode cX1_far 10 = .ok (.iload_n 1, 1) := by decide +kernel
theorem dX1_far_11 : decode cX1_far 11 = .ok (.iaload, 1) := by decide +kernel
theorem dX1_far_12 : decode cX1_far 12 = .ok (.isub, 1) := by decide +kernel
theorem dX1_far_13 : decode cX1_far 13 = .ok (.invokestatic 81, 3) := by decide +kernel
theorem dX1_far_16 : decode cX1_far 16 = .ok (.aload_n 0, 1) := by decide +kernel
theorem dX1_far_17 : decode cX1_far 17 = .ok (.getfield 25, 3) := by decide +kernel
theorem dX1_far_20 : decode cX1_far 20 = .ok (.iload_n 2, 1) := by decide +kernel
theorem dX1_far_21 : decode cX1_far 21 = .ok (.iaload, 1) := by decide +kernel
theorem dX1_far_22 : decode cX1_far 22 = .ok (.aload_n 0, 1) := by decide +kernel
theorem dX1_far_23 : decode cX1_far 23 = .ok (.getfield 25, 3) := by decide +kernel
theorem dX1_far_26 : decode cX1_far 26 = .ok (.iload_n 1, 1) := by decide +kernel
theorem dX1_far_27 : decode cX1_far 27 = .ok (.iaload, 1) := by decide +kernel
theorem dX1_far_28 : decode cX1_far 28 = .ok (.isub, 1) := by decide +kernel
theorem dX1_far_29 : decode cX1_far 29 = .ok (.invokestatic 81, 3) := by decide +kernel
theorem dX1_far_32 : decode cX1_far 32 = .ok (.iadd, 1) := by decide +kernel
theorem dX1_far_33 : decode cX1_far 33 = .ok (.ireturn, 1) := by decide +kernel

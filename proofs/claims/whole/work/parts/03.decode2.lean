/-! decode rows -/
theorem dX5_send_57 : decode cX5_send 57 = .ok (.putfield 72, 3) := by decide +kernel
theorem dX5_send_60 : decode cX5_send 60 = .ok (.return_, 1) := by decide +kernel
theorem dX5_forget_0 : decode cX5_forget 0 = .ok (.aload_n 0, 1) := by decide +kernel
theorem dX5_forget_1 : decode cX5_forget 1 = .ok (.getfield 20, 3) := by decide +kernel
theorem dX5_forget_4 : decode cX5_forget 4 = .ok (.iload_n 1, 1) := by decide +kernel
theorem dX5_forget_5 : decode cX5_forget 5 = .ok (.iconst 0, 1) := by decide +kernel
theorem dX5_forget_6 : decode cX5_forget 6 = .ok (.iastore, 1) := by decide +kernel
theorem dX5_forget_7 : decode cX5_forget 7 = .ok (.iconst 0, 1) := by decide +kernel
theorem dX5_forget_8 : decode cX5_forget 8 = .ok (.istore_n 2, 1) := by decide +kernel
theorem dX5_forget_9 : decode cX5_forget 9 = .ok (.iload_n 2, 1) := by decide +kernel
theorem dX5_forget_10 : decode cX5_forget 10 = .ok (.iconst 4, 1) := by decide +kernel
theorem dX5_forget_11 : decode cX5_forget 11 = .ok (.if_icmp .ge 53, 3) := by decide +kernel
theorem dX5_forget_14 : decode cX5_forget 14 = .ok (.aload_n 0, 1) := by decide +kernel
theorem dX5_forget_15 : decode cX5_forget 15 = .ok (.getfield 23, 3) := by decide +kernel
theorem dX5_forget_18 : decode cX5_forget 18 = .ok (.iconst 4, 1) := by decide +kernel
theorem dX5_forget_19 : decode cX5_forget 19 = .ok (.iload_n 1, 1) := by decide +kernel
theorem dX5_forget_20 : decode cX5_forget 20 = .ok (.imul, 1) := by decide +kernel
theorem dX5_forget_21 : decode cX5_forget 21 = .ok (.iload_n 2, 1) := by decide +kernel
theorem dX5_forget_22 : decode cX5_forget 22 = .ok (.iadd, 1) := by decide +kernel
theorem dX5_forget_23 : decode cX5_forget 23 = .ok (.iconst 0, 1) := by decide +kernel
theorem dX5_forget_24 : decode cX5_forget 24 = .ok (.bastore, 1) := by decide +kernel
theorem dX5_forget_25 : decode cX5_forget 25 = .ok (.aload_n 0, 1) := by decide +kernel
theorem dX5_forget_26 : decode cX5_forget 26 = .ok (.getfield 26, 3) := by decide +kernel
theorem dX5_forget_29 : decode cX5_forget 29 = .ok (.iconst 4, 1) := by decide +kernel
theorem dX5_forget_30 : decode cX5_forget 30 = .ok (.iload_n 1, 1) := by decide +kernel
theorem dX5_forget_31 : decode cX5_forget 31 = .ok (.imul, 1) := by decide +kernel
theorem dX5_forget_32 : decode cX5_forget 32 = .ok (.iload_n 2, 1) := by decide +kernel
theorem dX5_forget_33 : decode cX5_forget 33 = .ok (.iadd, 1) := by decide +kernel
theorem dX5_forget_34 : decode cX5_forget 34 = .ok (.iconst 0, 1) := by decide +kernel
theorem dX5_forget_35 : decode cX5_forget 35 = .ok (.bastore, 1) := by decide +kernel
theorem dX5_forget_36 : decode cX5_forget 36 = .ok (.aload_n 0, 1) := by decide +kernel
theorem dX5_forget_37 : decode cX5_forget 37 = .ok (.getfield 29, 3) := by decide +kernel
theorem dX5_forget_40 : decode cX5_forget 40 = .ok (.iconst 4, 1) := by decide +kernel
theorem dX5_forget_41 : decode cX5_forget 41 = .ok (.iload_n 1, 1) := by decide +kernel
theorem dX5_forget_42 : decode cX5_forget 42 = .ok (.imul, 1) := by decide +kernel
theorem dX5_forget_43 : decode cX5_forget 43 = .ok (.iload_n 2, 1) := by decide +kernel
theorem dX5_forget_44 : decode cX5_forget 44 = .ok (.iadd, 1) := by decide +kernel
theorem dX5_forget_45 : decode cX5_forget 45 = .ok (.iconst 0, 1) := by decide +kernel
theorem dX5_forget_46 : decode cX5_forget 46 = .ok (.bastore, 1) := by decide +kernel
theorem dX5_forget_47 : decode cX5_forget 47 = .ok (.aload_n 0, 1) := by decide +kernel
theorem dX5_forget_48 : decode cX5_forget 48 = .ok (.getfield 32, 3) := by decide +kernel
theorem dX5_forget_51 : decode cX5_forget 51 = .ok (.iconst 4, 1) := by decide +kernel
theorem dX5_forget_52 : decode cX5_forget 52 = .ok (.iload_n 1, 1) := by decide +kernel
theorem dX5_forget_53 : decode cX5_forget 53 = .ok (.imul, 1) := by decide +kernel
theorem dX5_forget_54 : decode cX5_forget 54 = .ok (.iload_n 2, 1) := by decide +kernel
theorem dX5_forget_55 : decode cX5_forget 55 = .ok (.iadd, 1) := by decide +kernel
theorem dX5_forget_56 : decode cX5_forget 56 = .ok (.iconst 0, 1) := by decide +kernel
theorem dX5_forget_57 : decode cX5_forget 57 = .ok (.bastore, 1) := by decide +kernel
theorem dX5_forget_58 : decode cX5_forget 58 = .ok (.iinc 2 1, 3) := by decide +kernel
theorem dX5_forget_61 : decode cX5_forget 61 = .ok (.goto (-52), 3) := by decide +kernel
theorem dX5_forget_64 : decode cX5_forget 64 = .ok (.return_, 1) := by decide +kernel
theorem dX5_withdraw_0 : decode cX5_withdraw 0 = .ok (.aload_n 0, 1) := by decide +kernel
theorem dX5_withdraw_1 : decode cX5_withdraw 1 = .ok (.iload_n 1, 1) := by decide +kernel
theorem dX5_withdraw_2 : decode cX5_withdraw 2 = .ok (.invokevirtual 126, 3) := by decide +kernel
theorem dX5_withdraw_5 : decode cX5_withdraw 5 = .ok (.ifCond .eq 6, 3) := by decide +kernel
theorem dX5_withdraw_8 : decode cX5_withdraw 8 = .ok (.bipush (-2), 2) := by decide +kernel
theorem dX5_withdraw_10 : decode cX5_withdraw 10 = .ok (.ireturn, 1) := by decide +kernel
theorem dX5_withdraw_11 : decode cX5_withdraw 11 = .ok (.aload_n 0, 1) := by decide +kernel
theorem dX5_withdraw_12 : decode cX5_withdraw 12 = .ok (.getfield 7, 3) := by decide +kernel
theorem dX5_withdraw_15 : decode cX5_withdraw 15 = .ok (.aload_n 0, 1) := by decide +kernel
theorem dX5_withdraw_16 : decode cX5_withdraw 16 = .ok (.getfield 17, 3) := by decide +kernel
theorem dX5_withdraw_19 : decode cX5_withdraw 19 = .ok (.iload_n 1, 1) := by decide +kernel
theorem dX5_withdraw_20 : decode cX5_withdraw 20 = .ok (.iaload, 1) := by decide +kernel
theorem dX5_withdraw_21 : decode cX5_withdraw 21 = .ok (.baload, 1) := by decide +kernel
theorem dX5_withdraw_22 : decode cX5_withdraw 22 = .ok (.ifCond .eq 6, 3) := by decide +kernel
theorem dX5_withdraw_25 : decode cX5_withdraw 25 = .ok (.bipush (-3), 2) := by decide +kernel
theorem dX5_withdraw_27 : decode cX5_withdraw 27 = .ok (.ireturn, 1) := by decide +kernel
theorem dX5_withdraw_28 : decode cX5_withdraw 28 = .ok (.aload_n 0, 1) := by decide +kernel
theorem dX5_withdraw_29 : decode cX5_withdraw 29 = .ok (.getfield 20, 3) := by decide +kernel
theorem dX5_withdraw_32 : decode cX5_withdraw 32 = .ok (.iload_n 1, 1) := by decide +kernel
theorem dX5_withdraw_33 : decode cX5_withdraw 33 = .ok (.iaload, 1) := by decide +kernel
theorem dX5_withdraw_34 : decode cX5_withdraw 34 = .ok (.iconst 1, 1) := by decide +kernel
theorem dX5_withdraw_35 : decode cX5_withdraw 35 = .ok (.if_icmp .eq 13, 3) := by decide +kernel
theorem dX5_withdraw_38 : decode cX5_withdraw 38 = .ok (.aload_n 0, 1) := by decide +kernel
theorem dX5_withdraw_39 : decode cX5_withdraw 39 = .ok (.getfield 20, 3) := by decide +kernel
theorem dX5_withdraw_42 : decode cX5_withdraw 42 = .ok (.iload_n 1, 1) := by decide +kernel
theorem dX5_withdraw_43 : decode cX5_withdraw 43 = .ok (.iaload, 1) := by decide +kernel
theorem dX5_withdraw_44 : decode cX5_withdraw 44 = .ok (.iconst 2, 1) := by decide +kernel
theorem dX5_withdraw_45 : decode cX5_withdraw 45 = .ok (.if_icmp .ne 12, 3) := by decide +kernel
theorem dX5_withdraw_48 : decode cX5_withdraw 48 = .ok (.aload_n 0, 1) := by decide +kernel
theorem dX5_withdraw_49 : decode cX5_withdraw 49 = .ok (.iload_n 1, 1) := by decide +kernel
theorem dX5_withdraw_50 : decode cX5_withdraw 50 = .ok (.iconst (-1), 1) := by decide +kernel
theorem dX5_withdraw_51 : decode cX5_withdraw 51 = .ok (.invokevirtual 106, 3) := by decide +kernel
theorem dX5_withdraw_54 : decode cX5_withdraw 54 = .ok (.goto 5, 3) := by decide +kernel
theorem dX5_withdraw_57 : decode cX5_withdraw 57 = .ok (.bipush (-4), 2) := by decide +kernel
theorem dX5_withdraw_59 : decode cX5_withdraw 59 = .ok (.ireturn, 1) := by decide +kernel
theorem dX5_pullBack_0 : decode cX5_pullBack 0 = .ok (.iconst 0, 1) := by decide +kernel
theorem dX5_pullBack_1 : decode cX5_pullBack 1 = .ok (.istore_n 3, 1) := by decide +kernel
theorem dX5_pullBack_2 : decode cX5_pullBack 2 = .ok (.aload_n 0, 1) := by decide +kernel
theorem dX5_pullBack_3 : decode cX5_pullBack 3 = .ok (.aload_n 0, 1) := by decide +kernel
theorem dX5_pullBack_4 : decode cX5_pullBack 4 = .ok (.getfield 17, 3) := by decide +kernel
theorem dX5_pullBack_7 : decode cX5_pullBack 7 = .ok (.iload_n 1, 1) := by decide +kernel
theorem dX5_pullBack_8 : decode cX5_pullBack 8 = .ok (.iaload, 1) := by decide +kernel
theorem dX5_pullBack_9 : decode cX5_pullBack 9 = .ok (.iload_n 1, 1) := by decide +kernel
theorem dX5_pullBack_10 : decode cX5_pullBack 10 = .ok (.iconst 5, 1) := by decide +kernel
theorem dX5_pullBack_11 : decode cX5_pullBack 11 = .ok (.iconst 0, 1) := by decide +kernel
theorem dX5_pullBack_12 : decode cX5_pullBack 12 = .ok (.invokevirtual 75, 3) := by decide +kernel
theorem dX5_pullBack_15 : decode cX5_pullBack 15 = .ok (.iconst 0, 1) := by decide +kernel
theorem dX5_pullBack_16 : decode cX5_pullBack 16 = .ok (.istore 4, 2) := by decide +kernel
theorem dX5_pullBack_18 : decode cX5_pullBack 18 = .ok (.iload 4, 2) := by decide +kernel
theorem dX5_pullBack_20 : decode cX5_pullBack 20 = .ok (.iconst 4, 1) := by decide +kernel
theorem dX5_pullBack_21 : decode cX5_pullBack 21 = .ok (.if_icmp .ge 61, 3) := by decide +kernel
theorem dX5_pullBack_24 : decode cX5_pullBack 24 = .ok (.aload_n 0, 1) := by decide +kernel
theorem dX5_pullBack_25 : decode cX5_pullBack 25 = .ok (.getfield 23, 3) := by decide +kernel
theorem dX5_pullBack_28 : decode cX5_pullBack 28 = .ok (.iconst 4, 1) := by decide +kernel
theorem dX5_pullBack_29 : decode cX5_pullBack 29 = .ok (.iload_n 1, 1) := by decide +kernel
theorem dX5_pullBack_30 : decode cX5_pullBack 30 = .ok (.imul, 1) := by decide +kernel
theorem dX5_pullBack_31 : decode cX5_pullBack 31 = .ok (.iload 4, 2) := by decide +kernel
theorem dX5_pullBack_33 : decode cX5_pullBack 33 = .ok (.iadd, 1) := by decide +kernel
theorem dX5_pullBack_34 : decode cX5_pullBack 34 = .ok (.baload, 1) := by decide +kernel
theorem dX5_pullBack_35 : decode cX5_pullBack 35 = .ok (.ifCond .eq 41, 3) := by decide +kernel
theorem dX5_pullBack_38 : decode cX5_pullBack 38 = .ok (.aload_n 0, 1) := by decide +kernel
theorem dX5_pullBack_39 : decode cX5_pullBack 39 = .ok (.getfield 29, 3) := by decide +kernel
theorem dX5_pullBack_42 : decode cX5_pullBack 42 = .ok (.iconst 4, 1) := by decide +kernel
theorem dX5_pullBack_43 : decode cX5_pullBack 43 = .ok (.iload_n 1, 1) := by decide +kernel
theorem dX5_pullBack_44 : decode cX5_pullBack 44 = .ok (.imul, 1) := by decide +kernel
theorem dX5_pullBack_45 : decode cX5_pullBack 45 = .ok (.iload 4, 2) := by decide +kernel
theorem dX5_pullBack_47 : decode cX5_pullBack 47 = .ok (.iadd, 1) := by decide +kernel
theorem dX5_pullBack_48 : decode cX5_pullBack 48 = .ok (.baload, 1) := by decide +kernel
theorem dX5_pullBack_49 : decode cX5_pullBack 49 = .ok (.ifCond .ne 27, 3) := by decide +kernel
theorem dX5_pullBack_52 : decode cX5_pullBack 52 = .ok (.iload 4, 2) := by decide +kernel
theorem dX5_pullBack_54 : decode cX5_pullBack 54 = .ok (.iload_n 2, 1) := by decide +kernel
theorem dX5_pullBack_55 : decode cX5_pullBack 55 = .ok (.if_icmp .eq 21, 3) := by decide +kernel
theorem dX5_pullBack_58 : decode cX5_pullBack 58 = .ok (.aload_n 0, 1) := by decide +kernel
theorem dX5_pullBack_59 : decode cX5_pullBack 59 = .ok (.bipush 6, 2) := by decide +kernel
theorem dX5_pullBack_61 : decode cX5_pullBack 61 = .ok (.aload_n 0, 1) := by decide +kernel
theorem dX5_pullBack_62 : decode cX5_pullBack 62 = .ok (.getfield 17, 3) := by decide +kernel
theorem dX5_pullBack_65 : decode cX5_pullBack 65 = .ok (.iload_n 1, 1) := by decide +kernel
theorem dX5_pullBack_66 : decode cX5_pullBack 66 = .ok (.iaload, 1) := by decide +kernel
theorem dX5_pullBack_67 : decode cX5_pullBack 67 = .ok (.iload 4, 2) := by decide +kernel
theorem dX5_pullBack_69 : decode cX5_pullBack 69 = .ok (.iload_n 1, 1) := by decide +kernel
theorem dX5_pullBack_70 : decode cX5_pullBack 70 = .ok (.invokevirtual 83, 3) := by decide +kernel
theorem dX5_pullBack_73 : decode cX5_pullBack 73 = .ok (.iinc 3 1, 3) := by decide +kernel
theorem dX5_pullBack_76 : decode cX5_pullBack 76 = .ok (.iinc 4 1, 3) := by decide +kernel
theorem dX5_pullBack_79 : decode cX5_pullBack 79 = .ok (.goto (-61), 3) := by decide +kernel
theorem dX5_pullBack_82 : decode cX5_pullBack 82 = .ok (.aload_n 0, 1) := by decide +kernel
theorem dX5_pullBack_83 : decode cX5_pullBack 83 = .ok (.iload_n 1, 1) := by decide +kernel
theorem dX5_pullBack_84 : decode cX5_pullBack 84 = .ok (.invokevirtual 86, 3) := by decide +kernel
theorem dX5_pullBack_87 : decode cX5_pullBack 87 = .ok (.iload_n 3, 1) := by decide +kernel
theorem dX5_pullBack_88 : decode cX5_pullBack 88 = .ok (.ireturn, 1) := by decide +kernel
theorem dX5_write_0 : decode cX5_write 0 = .ok (.bipush 64, 2) := by decide +kernel
theorem dX5_write_2 : decode cX5_write 2 = .ok (.iload_n 1, 1) := by decide +kernel
theorem dX5_write_3 : decode cX5_write 3 = .ok (.imul, 1) := by decide +kernel
theorem dX5_write_4 : decode cX5_write 4 = .ok (.aload_n 0, 1) := by decide +kernel
theorem dX5_write_5 : decode cX5_write 5 = .ok (.getfield 41, 3) := by decide +kernel
theorem dX5_write_8 : decode cX5_write 8 = .ok (.iload_n 1, 1) := by decide +kernel
theorem dX5_write_9 : decode cX5_write 9 = .ok (.iaload, 1) := by decide +kernel
theorem dX5_write_10 : decode cX5_write 10 = .ok (.iadd, 1) := by decide +kernel
theorem dX5_write_11 : decode cX5_write 11 = .ok (.istore 5, 2) := by decide +kernel
theorem dX5_write_13 : decode cX5_write 13 = .ok (.aload_n 0, 1) := by decide +kernel
theorem dX5_write_14 : decode cX5_write 14 = .ok (.getfield 44, 3) := by decide +kernel
theorem dX5_write_17 : decode cX5_write 17 = .ok (.iload 5, 2) := by decide +kernel
theorem dX5_write_19 : decode cX5_write 19 = .ok (.iload_n 2, 1) := by decide +kernel
theorem dX5_write_20 : decode cX5_write 20 = .ok (.iastore, 1) := by decide +kernel
theorem dX5_write_21 : decode cX5_write 21 = .ok (.aload_n 0, 1) := by decide +kernel
theorem dX5_write_22 : decode cX5_write 22 = .ok (.getfield 47, 3) := by decide +kernel
theorem dX5_write_25 : decode cX5_write 25 = .ok (.iload 5, 2) := by decide +kernel
theorem dX5_write_27 : decode cX5_write 27 = .ok (.iload_n 3, 1) := by decide +kernel
theorem dX5_write_28 : decode cX5_write 28 = .ok (.iastore, 1) := by decide +kernel
theorem dX5_write_29 : decode cX5_write 29 = .ok (.aload_n 0, 1) := by decide +kernel
theorem dX5_write_30 : decode cX5_write 30 = .ok (.getfield 50, 3) := by decide +kernel
theorem dX5_write_33 : decode cX5_write 33 = .ok (.iload 5, 2) := by decide +kernel
theorem dX5_write_35 : decode cX5_write 35 = .ok (.iload 4, 2) := by decide +kernel
theorem dX5_write_37 : decode cX5_write 37 = .ok (.iastore, 1) := by decide +kernel
theorem dX5_write_38 : decode cX5_write 38 = .ok (.aload_n 0, 1) := by decide +kernel
theorem dX5_write_39 : decode cX5_write 39 = .ok (.getfield 53, 3) := by decide +kernel
theorem dX5_write_42 : decode cX5_write 42 = .ok (.iload 5, 2) := by decide +kernel
theorem dX5_write_44 : decode cX5_write 44 = .ok (.iconst 0, 1) := by decide +kernel
theorem dX5_write_45 : decode cX5_write 45 = .ok (.bastore, 1) := by decide +kernel
theorem dX5_write_46 : decode cX5_write 46 = .ok (.aload_n 0, 1) := by decide +kernel
theorem dX5_write_47 : decode cX5_write 47 = .ok (.getfield 41, 3) := by decide +kernel
theorem dX5_write_50 : decode cX5_write 50 = .ok (.iload_n 1, 1) := by decide +kernel
theorem dX5_write_51 : decode cX5_write 51 = .ok (.dup2, 1) := by decide +kernel
theorem dX5_write_52 : decode cX5_write 52 = .ok (.iaload, 1) := by decide +kernel
theorem dX5_write_53 : decode cX5_write 53 = .ok (.iconst 1, 1) := by decide +kernel
theorem dX5_write_54 : decode cX5_write 54 = .ok (.iadd, 1) := by decide +kernel
theorem dX5_write_55 : decode cX5_write 55 = .ok (.iastore, 1) := by decide +kernel
theorem dX5_write_56 : decode cX5_write 56 = .ok (.return_, 1) := by decide +kernel
theorem dX5_deliver_0 : decode cX5_deliver 0 = .ok (.iload_n 1, 1) := by decide +kernel
theorem dX5_deliver_1 : decode cX5_deliver 1 = .ok (.ifCond .lt 11, 3) := by decide +kernel
theorem dX5_deliver_4 : decode cX5_deliver 4 = .ok (.iload_n 1, 1) := by decide +kernel
theorem dX5_deliver_5 : decode cX5_deliver 5 = .ok (.aload_n 0, 1) := by decide +kernel
theorem dX5_deliver_6 : decode cX5_deliver 6 = .ok (.getfield 72, 3) := by decide +kernel
theorem dX5_deliver_9 : decode cX5_deliver 9 = .ok (.if_icmp .lt 6, 3) := by decide +kernel
theorem dX5_deliver_12 : decode cX5_deliver 12 = .ok (.bipush (-2), 2) := by decide +kernel
theorem dX5_deliver_14 : decode cX5_deliver 14 = .ok (.ireturn, 1) := by decide +kernel
theorem dX5_deliver_15 : decode cX5_deliver 15 = .ok (.aload_n 0, 1) := by decide +kernel
theorem dX5_deliver_16 : decode cX5_deliver 16 = .ok (.getfield 56, 3) := by decide +kernel
theorem dX5_deliver_19 : decode cX5_deliver 19 = .ok (.iload_n 1, 1) := by decide +kernel
theorem dX5_deliver_20 : decode cX5_deliver 20 = .ok (.iaload, 1) := by decide +kernel
theorem dX5_deliver_21 : decode cX5_deliver 21 = .ok (.istore_n 2, 1) := by decide +kernel
theorem dX5_deliver_22 : decode cX5_deliver 22 = .ok (.aload_n 0, 1) := by decide +kernel
theorem dX5_deliver_23 : decode cX5_deliver 23 = .ok (.getfield 59, 3) := by decide +kernel
theorem dX5_deliver_26 : decode cX5_deliver 26 = .ok (.iload_n 1, 1) := by decide +kernel
theorem dX5_deliver_27 : decode cX5_deliver 27 = .ok (.iaload, 1) := by decide +kernel
theorem dX5_deliver_28 : decode cX5_deliver 28 = .ok (.istore_n 3, 1) := by decide +kernel
theorem dX5_deliver_29 : decode cX5_deliver 29 = .ok (.aload_n 0, 1) := by decide +kernel
theorem dX5_deliver_30 : decode cX5_deliver 30 = .ok (.getfield 62, 3) := by decide +kernel
theorem dX5_deliver_33 : decode cX5_deliver 33 = .ok (.iload_n 1, 1) := by decide +kernel
theorem dX5_deliver_34 : decode cX5_deliver 34 = .ok (.iaload, 1) := by decide +kernel
theorem dX5_deliver_35 : decode cX5_deliver 35 = .ok (.istore 4, 2) := by decide +kernel
theorem dX5_deliver_37 : decode cX5_deliver 37 = .ok (.aload_n 0, 1) := by decide +kernel
theorem dX5_deliver_38 : decode cX5_deliver 38 = .ok (.getfield 65, 3) := by decide +kernel
theorem dX5_deliver_41 : decode cX5_deliver 41 = .ok (.iload_n 1, 1) := by decide +kernel
theorem dX5_deliver_42 : decode cX5_deliver 42 = .ok (.iaload, 1) := by decide +kernel
theorem dX5_deliver_43 : decode cX5_deliver 43 = .ok (.istore 5, 2) := by decide +kernel
theorem dX5_deliver_45 : decode cX5_deliver 45 = .ok (.aload_n 0, 1) := by decide +kernel
theorem dX5_deliver_46 : decode cX5_deliver 46 = .ok (.iload_n 1, 1) := by decide +kernel
theorem dX5_deliver_47 : decode cX5_deliver 47 = .ok (.invokevirtual 129, 3) := by decide +kernel
theorem dX5_deliver_50 : decode cX5_deliver 50 = .ok (.aload_n 0, 1) := by decide +kernel
theorem dX5_deliver_51 : decode cX5_deliver 51 = .ok (.getfield 7, 3) := by decide +kernel
theorem dX5_deliver_54 : decode cX5_deliver 54 = .ok (.iload 4, 2) := by decide +kernel
theorem dX5_deliver_56 : decode cX5_deliver 56 = .ok (.baload, 1) := by decide +kernel
theorem dX5_deliver_57 : decode cX5_deliver 57 = .ok (.ifCond .ne 13, 3) := by decide +kernel
theorem dX5_deliver_60 : decode cX5_deliver 60 = .ok (.aload_n 0, 1) := by decide +kernel
theorem dX5_deliver_61 : decode cX5_deliver 61 = .ok (.iload_n 2, 1) := by decide +kernel
theorem dX5_deliver_62 : decode cX5_deliver 62 = .ok (.iload_n 3, 1) := by decide +kernel
theorem dX5_deliver_63 : decode cX5_deliver 63 = .ok (.iload 4, 2) := by decide +kernel
theorem dX5_deliver_65 : decode cX5_deliver 65 = .ok (.iload 5, 2) := by decide +kernel
theorem dX5_deliver_67 : decode cX5_deliver 67 = .ok (.invokevirtual 132, 3) := by decide +kernel
theorem dX5_deliver_70 : decode cX5_deliver 70 = .ok (.iload_n 2, 1) := by decide +kernel
theorem dX5_deliver_71 : decode cX5_deliver 71 = .ok (.ireturn, 1) := by decide +kernel
theorem dX5_take_0 : decode cX5_take 0 = .ok (.aload_n 0, 1) := by decide +kernel
theorem dX5_take_1 : decode cX5_take 1 = .ok (.dup, 1) := by decide +kernel
theorem dX5_take_2 : decode cX5_take 2 = .ok (.getfield 72, 3) := by decide +kernel
theorem dX5_take_5 : decode cX5_take 5 = .ok (.iconst 1, 1) := by decide +kernel
theorem dX5_take_6 : decode cX5_take 6 = .ok (.isub, 1) := by decide +kernel
theorem dX5_take_7 : decode cX5_take 7 = .ok (.putfield 72, 3) := by decide +kernel
theorem dX5_take_10 : decode cX5_take 10 = .ok (.iload_n 1, 1) := by decide +kernel
theorem dX5_take_11 : decode cX5_take 11 = .ok (.istore_n 2, 1) := by decide +kernel
theorem dX5_take_12 : decode cX5_take 12 = .ok (.iload_n 2, 1) := by decide +kernel
theorem dX5_take_13 : decode cX5_take 13 = .ok (.aload_n 0, 1) := by decide +kernel
theorem dX5_take_14 : decode cX5_take 14 = .ok (.getfield 72, 3) := by decide +kernel
theorem dX5_take_17 : decode cX5_take 17 = .ok (.if_icmp .ge 65, 3) := by decide +kernel
theorem dX5_take_20 : decode cX5_take 20 = .ok (.aload_n 0, 1) := by decide +kernel
theorem dX5_take_21 : decode cX5_take 21 = .ok (.getfield 56, 3) := by decide +kernel
theorem dX5_take_24 : decode cX5_take 24 = .ok (.iload_n 2, 1) := by decide +kernel
theorem dX5_take_25 : decode cX5_take 25 = .ok (.aload_n 0, 1) := by decide +kernel
theorem dX5_take_26 : decode cX5_take 26 = .ok (.getfield 56, 3) := by decide +kernel
theorem dX5_take_29 : decode cX5_take 29 = .ok (.iload_n 2, 1) := by decide +kernel
theorem dX5_take_30 : decode cX5_take 30 = .ok (.iconst 1, 1) := by decide +kernel
theorem dX5_take_31 : decode cX5_take 31 = .ok (.iadd, 1) := by decide +kernel
theorem dX5_take_32 : decode cX5_take 32 = .ok (.iaload, 1) := by decide +kernel
theorem dX5_take_33 : decode cX5_take 33 = .ok (.iastore, 1) := by decide +kernel
theorem dX5_take_34 : decode cX5_take 34 = .ok (.aload_n 0, 1) := by decide +kernel
theorem dX5_take_35 : decode cX5_take 35 = .ok (.getfield 59, 3) := by decide +kernel
theorem dX5_take_38 : decode cX5_take 38 = .ok (.iload_n 2, 1) := by decide +kernel
theorem dX5_take_39 : decode cX5_take 39 = .ok (.aload_n 0, 1) := by decide +kernel
theorem dX5_take_40 : decode cX5_take 40 = .ok (.getfield 59, 3) := by decide +kernel
theorem dX5_take_43 : decode cX5_take 43 = .ok (.iload_n 2, 1) := by decide +kernel
theorem dX5_take_44 : decode cX5_take 44 = .ok (.iconst 1, 1) := by decide +kernel
theorem dX5_take_45 : decode cX5_take 45 = .ok (.iadd, 1) := by decide +kernel
theorem dX5_take_46 : decode cX5_take 46 = .ok (.iaload, 1) := by decide +kernel
theorem dX5_take_47 : decode cX5_take 47 = .ok (.iastore, 1) := by decide +kernel
theorem dX5_take_48 : decode cX5_take 48 = .ok (.aload_n 0, 1) := by decide +kernel
theorem dX5_take_49 : decode cX5_take 49 = .ok (.getfield 62, 3) := by decide +kernel
theorem dX5_take_52 : decode cX5_take 52 = .ok (.iload_n 2, 1) := by decide +kernel
theorem dX5_take_53 : decode cX5_take 53 = .ok (.aload_n 0, 1) := by decide +kernel
theorem dX5_take_54 : decode cX5_take 54 = .ok (.getfield 62, 3) := by decide +kernel
theorem dX5_take_57 : decode cX5_take 57 = .ok (.iload_n 2, 1) := by decide +kernel
theorem dX5_take_58 : decode cX5_take 58 = .ok (.iconst 1, 1) := by decide +kernel
theorem dX5_take_59 : decode cX5_take 59 = .ok (.iadd, 1) := by decide +kernel
theorem dX5_take_60 : decode cX5_take 60 = .ok (.iaload, 1) := by decide +kernel
theorem dX5_take_61 : decode cX5_take 61 = .ok (.iastore, 1) := by decide +kernel
theorem dX5_take_62 : decode cX5_take 62 = .ok (.aload_n 0, 1) := by decide +kernel
theorem dX5_take_63 : decode cX5_take 63 = .ok (.getfield 65, 3) := by decide +kernel
theorem dX5_take_66 : decode cX5_take 66 = .ok (.iload_n 2, 1) := by decide +kernel
theorem dX5_take_67 : decode cX5_take 67 = .ok (.aload_n 0, 1) := by decide +kernel
theorem dX5_take_68 : decode cX5_take 68 = .ok (.getfield 65, 3) := by decide +kernel
theorem dX5_take_71 : decode cX5_take 71 = .ok (.iload_n 2, 1) := by decide +kernel
theorem dX5_take_72 : decode cX5_take 72 = .ok (.iconst 1, 1) := by decide +kernel
theorem dX5_take_73 : decode cX5_take 73 = .ok (.iadd, 1) := by decide +kernel
theorem dX5_take_74 : decode cX5_take 74 = .ok (.iaload, 1) := by decide +kernel
theorem dX5_take_75 : decode cX5_take 75 = .ok (.iastore, 1) := by decide +kernel
theorem dX5_take_76 : decode cX5_take 76 = .ok (.iinc 2 1, 3) := by decide +kernel
theorem dX5_take_79 : decode cX5_take 79 = .ok (.goto (-67), 3) := by decide +kernel
theorem dX5_take_82 : decode cX5_take 82 = .ok (.return_, 1) := by decide +kernel
theorem dX5_hear_0 : decode cX5_hear 0 = .ok (.iload_n 1, 1) := by decide +kernel
theorem dX5_hear_1 : decode cX5_hear 1 = .ok (.tableswitch 143 1 7 #[43, 54, 54, 54, 65, 109, 133], 43) := by decide +kernel
theorem dX5_hear_44 : decode cX5_hear 44 = .ok (.aload_n 0, 1) := by decide +kernel
theorem dX5_hear_45 : decode cX5_hear 45 = .ok (.iload_n 3, 1) := by decide +kernel
theorem dX5_hear_46 : decode cX5_hear 46 = .ok (.iload_n 2, 1) := by decide +kernel
theorem dX5_hear_47 : decode cX5_hear 47 = .ok (.iload 4, 2) := by decide +kernel
theorem dX5_hear_49 : decode cX5_hear 49 = .ok (.invokevirtual 112, 3) := by decide +kernel
theorem dX5_hear_52 : decode cX5_hear 52 = .ok (.goto 138, 3) := by decide +kernel
theorem dX5_hear_55 : decode cX5_hear 55 = .ok (.aload_n 0, 1) := by decide +kernel
theorem dX5_hear_56 : decode cX5_hear 56 = .ok (.iload_n 1, 1) := by decide +kernel
theorem dX5_hear_57 : decode cX5_hear 57 = .ok (.iload_n 2, 1) := by decide +kernel
theorem dX5_hear_58 : decode cX5_hear 58 = .ok (.iload 4, 2) := by decide +kernel
theorem dX5_hear_60 : decode cX5_hear 60 = .ok (.invokevirtual 116, 3) := by decide +kernel
theorem dX5_hear_63 : decode cX5_hear 63 = .ok (.goto 127, 3) := by decide +kernel
theorem dX5_hear_66 : decode cX5_hear 66 = .ok (.aload_n 0, 1) := by decide +kernel
theorem dX5_hear_67 : decode cX5_hear 67 = .ok (.getfield 35, 3) := by decide +kernel
theorem dX5_hear_70 : decode cX5_hear 70 = .ok (.iconst 4, 1) := by decide +kernel
theorem dX5_hear_71 : decode cX5_hear 71 = .ok (.iload 4, 2) := by decide +kernel
theorem dX5_hear_73 : decode cX5_hear 73 = .ok (.imul, 1) := by decide +kernel
theorem dX5_hear_74 : decode cX5_hear 74 = .ok (.iload_n 3, 1) := by decide +kernel
theorem dX5_hear_75 : decode cX5_hear 75 = .ok (.iadd, 1) := by decide +kernel
theorem dX5_hear_76 : decode cX5_hear 76 = .ok (.iaload, 1) := by decide +kernel
theorem dX5_hear_77 : decode cX5_hear 77 = .ok (.iconst 3, 1) := by decide +kernel
theorem dX5_hear_78 : decode cX5_hear 78 = .ok (.if_icmp .ne 19, 3) := by decide +kernel
theorem dX5_hear_81 : decode cX5_hear 81 = .ok (.aload_n 0, 1) := by decide +kernel
theorem dX5_hear_82 : decode cX5_hear 82 = .ok (.iload_n 3, 1) := by decide +kernel
theorem dX5_hear_83 : decode cX5_hear 83 = .ok (.iload 4, 2) := by decide +kernel
theorem dX5_hear_85 : decode cX5_hear 85 = .ok (.iconst 2, 1) := by decide +kernel
theorem dX5_hear_86 : decode cX5_hear 86 = .ok (.iconst 0, 1) := by decide +kernel
theorem dX5_hear_87 : decode cX5_hear 87 = .ok (.invokevirtual 94, 3) := by decide +kernel
theorem dX5_hear_90 : decode cX5_hear 90 = .ok (.aload_n 0, 1) := by decide +kernel
theorem dX5_hear_91 : decode cX5_hear 91 = .ok (.iload_n 3, 1) := by decide +kernel
theorem dX5_hear_92 : decode cX5_hear 92 = .ok (.iload 4, 2) := by decide +kernel
theorem dX5_hear_94 : decode cX5_hear 94 = .ok (.invokevirtual 79, 3) := by decide +kernel
theorem dX5_hear_97 : decode cX5_hear 97 = .ok (.aload_n 0, 1) := by decide +kernel
theorem dX5_hear_98 : decode cX5_hear 98 = .ok (.bipush 7, 2) := by decide +kernel
theorem dX5_hear_100 : decode cX5_hear 100 = .ok (.iload_n 3, 1) := by decide +kernel
theorem dX5_hear_101 : decode cX5_hear 101 = .ok (.iload_n 2, 1) := by decide +kernel
theorem dX5_hear_102 : decode cX5_hear 102 = .ok (.iload 4, 2) := by decide +kernel
theorem dX5_hear_104 : decode cX5_hear 104 = .ok (.invokevirtual 83, 3) := by decide +kernel
theorem dX5_hear_107 : decode cX5_hear 107 = .ok (.goto 83, 3) := by decide +kernel
theorem dX5_hear_110 : decode cX5_hear 110 = .ok (.aload_n 0, 1) := by decide +kernel
theorem dX5_hear_111 : decode cX5_hear 111 = .ok (.getfield 35, 3) := by decide +kernel
theorem dX5_hear_114 : decode cX5_hear 114 = .ok (.iconst 4, 1) := by decide +kernel
theorem dX5_hear_115 : decode cX5_hear 115 = .ok (.iload 4, 2) := by decide +kernel
theorem dX5_hear_117 : decode cX5_hear 117 = .ok (.imul, 1) := by decide +kernel
theorem dX5_hear_118 : decode cX5_hear 118 = .ok (.iload_n 3, 1) := by decide +kernel
theorem dX5_hear_119 : decode cX5_hear 119 = .ok (.iadd, 1) := by decide +kernel
theorem dX5_hear_120 : decode cX5_hear 120 = .ok (.iaload, 1) := by decide +kernel
theorem dX5_hear_121 : decode cX5_hear 121 = .ok (.ifCond .eq 69, 3) := by decide +kernel
theorem dX5_hear_124 : decode cX5_hear 124 = .ok (.aload_n 0, 1) := by decide +kernel
theorem dX5_hear_125 : decode cX5_hear 125 = .ok (.iload_n 3, 1) := by decide +kernel
theorem dX5_hear_126 : decode cX5_hear 126 = .ok (.iload 4, 2) := by decide +kernel
theorem dX5_hear_128 : decode cX5_hear 128 = .ok (.invokevirtual 100, 3) := by decide +kernel
theorem dX5_hear_131 : decode cX5_hear 131 = .ok (.goto 59, 3) := by decide +kernel
theorem dX5_hear_134 : decode cX5_hear 134 = .ok (.aload_n 0, 1) := by decide +kernel
theorem dX5_hear_135 : decode cX5_hear 135 = .ok (.iload_n 2, 1) := by decide +kernel
theorem dX5_hear_136 : decode cX5_hear 136 = .ok (.iload 4, 2) := by decide +kernel
theorem dX5_hear_138 : decode cX5_hear 138 = .ok (.invokevirtual 119, 3) := by decide +kernel
theorem dX5_hear_141 : decode cX5_hear 141 = .ok (.goto 49, 3) := by decide +kernel
theorem dX5_hear_144 : decode cX5_hear 144 = .ok (.aload_n 0, 1) := by decide +kernel
theorem dX5_hear_145 : decode cX5_hear 145 = .ok (.getfield 20, 3) := by decide +kernel
theorem dX5_hear_148 : decode cX5_hear 148 = .ok (.iload 4, 2) := by decide +kernel
theorem dX5_hear_150 : decode cX5_hear 150 = .ok (.iaload, 1) := by decide +kernel
theorem dX5_hear_151 : decode cX5_hear 151 = .ok (.iconst 3, 1) := by decide +kernel
theorem dX5_hear_152 : decode cX5_hear 152 = .ok (.if_icmp .eq 13, 3) := by decide +kernel
theorem dX5_hear_155 : decode cX5_hear 155 = .ok (.aload_n 0, 1) := by decide +kernel
theorem dX5_hear_156 : decode cX5_hear 156 = .ok (.getfield 20, 3) := by decide +kernel
theorem dX5_hear_159 : decode cX5_hear 159 = .ok (.iload 4, 2) := by decide +kernel
theorem dX5_hear_161 : decode cX5_hear 161 = .ok (.iaload, 1) := by decide +kernel
theorem dX5_hear_162 : decode cX5_hear 162 = .ok (.ifCond .ne 28, 3) := by decide +kernel
theorem dX5_hear_165 : decode cX5_hear 165 = .ok (.aload_n 0, 1) := by decide +kernel
theorem dX5_hear_166 : decode cX5_hear 166 = .ok (.aload_n 0, 1) := by decide +kernel
theorem dX5_hear_167 : decode cX5_hear 167 = .ok (.getfield 20, 3) := by decide +kernel
theorem dX5_hear_170 : decode cX5_hear 170 = .ok (.iload 4, 2) := by decide +kernel
theorem dX5_hear_172 : decode cX5_hear 172 = .ok (.iaload, 1) := by decide +kernel
theorem dX5_hear_173 : decode cX5_hear 173 = .ok (.iconst 3, 1) := by decide +kernel
theorem dX5_hear_174 : decode cX5_hear 174 = .ok (.if_icmp .ne 7, 3) := by decide +kernel
theorem dX5_hear_177 : decode cX5_hear 177 = .ok (.iconst 5, 1) := by decide +kernel
theorem dX5_hear_178 : decode cX5_hear 178 = .ok (.goto 5, 3) := by decide +kernel
theorem dX5_hear_181 : decode cX5_hear 181 = .ok (.bipush 6, 2) := by decide +kernel
theorem dX5_hear_183 : decode cX5_hear 183 = .ok (.iload_n 3, 1) := by decide +kernel
theorem dX5_hear_184 : decode cX5_hear 184 = .ok (.iload_n 2, 1) := by decide +kernel
theorem dX5_hear_185 : decode cX5_hear 185 = .ok (.iload 4, 2) := by decide +kernel
theorem dX5_hear_187 : decode cX5_hear 187 = .ok (.invokevirtual 83, 3) := by decide +kernel
theorem dX5_hear_190 : decode cX5_hear 190 = .ok (.return_, 1) := by decide +kernel
theorem dX5_hearPrepare_0 : decode cX5_hearPrepare 0 = .ok (.aload_n 0, 1) := by decide +kernel
theorem dX5_hearPrepare_1 : decode cX5_hearPrepare 1 = .ok (.getfield 35, 3) := by decide +kernel
theorem dX5_hearPrepare_4 : decode cX5_hearPrepare 4 = .ok (.iconst 4, 1) := by decide +kernel
theorem dX5_hearPrepare_5 : decode cX5_hearPrepare 5 = .ok (.iload_n 3, 1) := by decide +kernel
theorem dX5_hearPrepare_6 : decode cX5_hearPrepare 6 = .ok (.imul, 1) := by decide +kernel
theorem dX5_hearPrepare_7 : decode cX5_hearPrepare 7 = .ok (.iload_n 1, 1) := by decide +kernel
theorem dX5_hearPrepare_8 : decode cX5_hearPrepare 8 = .ok (.iadd, 1) := by decide +kernel
theorem dX5_hearPrepare_9 : decode cX5_hearPrepare 9 = .ok (.iaload, 1) := by decide +kernel
theorem dX5_hearPrepare_10 : decode cX5_hearPrepare 10 = .ok (.istore 4, 2) := by decide +kernel
theorem dX5_hearPrepare_12 : decode cX5_hearPrepare 12 = .ok (.iconst 2, 1) := by decide +kernel
theorem dX5_hearPrepare_13 : decode cX5_hearPrepare 13 = .ok (.istore 5, 2) := by decide +kernel
theorem dX5_hearPrepare_15 : decode cX5_hearPrepare 15 = .ok (.iload 4, 2) := by decide +kernel
theorem dX5_hearPrepare_17 : decode cX5_hearPrepare 17 = .ok (.ifCond .ne 9, 3) := by decide +kernel
theorem dX5_hearPrepare_20 : decode cX5_hearPrepare 20 = .ok (.iconst 4, 1) := by decide +kernel
theorem dX5_hearPrepare_21 : decode cX5_hearPrepare 21 = .ok (.istore 5, 2) := by decide +kernel
theorem dX5_hearPrepare_23 : decode cX5_hearPrepare 23 = .ok (.goto 78, 3) := by decide +kernel
theorem dX5_hearPrepare_26 : decode cX5_hearPrepare 26 = .ok (.iload 4, 2) := by decide +kernel
theorem dX5_hearPrepare_28 : decode cX5_hearPrepare 28 = .ok (.iconst 2, 1) := by decide +kernel
theorem dX5_hearPrepare_29 : decode cX5_hearPrepare 29 = .ok (.if_icmp .ne 15, 3) := by decide +kernel
theorem dX5_hearPrepare_32 : decode cX5_hearPrepare 32 = .ok (.aload_n 0, 1) := by decide +kernel
theorem dX5_hearPrepare_33 : decode cX5_hearPrepare 33 = .ok (.iload_n 1, 1) := by decide +kernel
theorem dX5_hearPrepare_34 : decode cX5_hearPrepare 34 = .ok (.iload_n 3, 1) := by decide +kernel
theorem dX5_hearPrepare_35 : decode cX5_hearPrepare 35 = .ok (.invokevirtual 100, 3) := by decide +kernel
theorem dX5_hearPrepare_38 : decode cX5_hearPrepare 38 = .ok (.iconst 4, 1) := by decide +kernel
theorem dX5_hearPrepare_39 : decode cX5_hearPrepare 39 = .ok (.istore 5, 2) := by decide +kernel
theorem dX5_hearPrepare_41 : decode cX5_hearPrepare 41 = .ok (.goto 60, 3) := by decide +kernel
theorem dX5_hearPrepare_44 : decode cX5_hearPrepare 44 = .ok (.iload 4, 2) := by decide +kernel
theorem dX5_hearPrepare_46 : decode cX5_hearPrepare 46 = .ok (.iconst 1, 1) := by decide +kernel
theorem dX5_hearPrepare_47 : decode cX5_hearPrepare 47 = .ok (.if_icmp .ne 24, 3) := by decide +kernel
theorem dX5_hearPrepare_50 : decode cX5_hearPrepare 50 = .ok (.aload_n 0, 1) := by decide +kernel
theorem dX5_hearPrepare_51 : decode cX5_hearPrepare 51 = .ok (.iload_n 1, 1) := by decide +kernel
theorem dX5_hearPrepare_52 : decode cX5_hearPrepare 52 = .ok (.iload_n 3, 1) := by decide +kernel
theorem dX5_hearPrepare_53 : decode cX5_hearPrepare 53 = .ok (.invokevirtual 103, 3) := by decide +kernel
theorem dX5_hearPrepare_56 : decode cX5_hearPrepare 56 = .ok (.ifCond .ne 15, 3) := by decide +kernel
theorem dX5_hearPrepare_59 : decode cX5_hearPrepare 59 = .ok (.aload_n 0, 1) := by decide +kernel
theorem dX5_hearPrepare_60 : decode cX5_hearPrepare 60 = .ok (.iload_n 1, 1) := by decide +kernel
theorem dX5_hearPrepare_61 : decode cX5_hearPrepare 61 = .ok (.iload_n 3, 1) := by decide +kernel
theorem dX5_hearPrepare_62 : decode cX5_hearPrepare 62 = .ok (.invokevirtual 79, 3) := by decide +kernel
theorem dX5_hearPrepare_65 : decode cX5_hearPrepare 65 = .ok (.iconst 3, 1) := by decide +kernel
theorem dX5_hearPrepare_66 : decode cX5_hearPrepare 66 = .ok (.istore 5, 2) := by decide +kernel
theorem dX5_hearPrepare_68 : decode cX5_hearPrepare 68 = .ok (.goto 33, 3) := by decide +kernel
theorem dX5_hearPrepare_71 : decode cX5_hearPrepare 71 = .ok (.iload 4, 2) := by decide +kernel
theorem dX5_hearPrepare_73 : decode cX5_hearPrepare 73 = .ok (.iconst 1, 1) := by decide +kernel
theorem dX5_hearPrepare_74 : decode cX5_hearPrepare 74 = .ok (.if_icmp .ne 27, 3) := by decide +kernel
theorem dX5_hearPrepare_77 : decode cX5_hearPrepare 77 = .ok (.aload_n 0, 1) := by decide +kernel
theorem dX5_hearPrepare_78 : decode cX5_hearPrepare 78 = .ok (.iload_n 1, 1) := by decide +kernel
theorem dX5_hearPrepare_79 : decode cX5_hearPrepare 79 = .ok (.iload_n 3, 1) := by decide +kernel
theorem dX5_hearPrepare_80 : decode cX5_hearPrepare 80 = .ok (.iconst 1, 1) := by decide +kernel
theorem dX5_hearPrepare_81 : decode cX5_hearPrepare 81 = .ok (.aload_n 0, 1) := by decide +kernel
theorem dX5_hearPrepare_82 : decode cX5_hearPrepare 82 = .ok (.iload_n 1, 1) := by decide +kernel
theorem dX5_hearPrepare_83 : decode cX5_hearPrepare 83 = .ok (.iload_n 3, 1) := by decide +kernel
theorem dX5_hearPrepare_84 : decode cX5_hearPrepare 84 = .ok (.invokevirtual 103, 3) := by decide +kernel
theorem dX5_hearPrepare_87 : decode cX5_hearPrepare 87 = .ok (.invokevirtual 94, 3) := by decide +kernel
theorem dX5_hearPrepare_90 : decode cX5_hearPrepare 90 = .ok (.aload_n 0, 1) := by decide +kernel
theorem dX5_hearPrepare_91 : decode cX5_hearPrepare 91 = .ok (.getfield 35, 3) := by decide +kernel
theorem dX5_hearPrepare_94 : decode cX5_hearPrepare 94 = .ok (.iconst 4, 1) := by decide +kernel
theorem dX5_hearPrepare_95 : decode cX5_hearPrepare 95 = .ok (.iload_n 3, 1) := by decide +kernel
theorem dX5_hearPrepare_96 : decode cX5_hearPrepare 96 = .ok (.imul, 1) := by decide +kernel
theorem dX5_hearPrepare_97 : decode cX5_hearPrepare 97 = .ok (.iload_n 1, 1) := by decide +kernel
theorem dX5_hearPrepare_98 : decode cX5_hearPrepare 98 = .ok (.iadd, 1) := by decide +kernel
theorem dX5_hearPrepare_99 : decode cX5_hearPrepare 99 = .ok (.iconst 3, 1) := by decide +kernel
theorem dX5_hearPrepare_100 : decode cX5_hearPrepare 100 = .ok (.iastore, 1) := by decide +kernel
theorem dX5_hearPrepare_101 : decode cX5_hearPrepare 101 = .ok (.aload_n 0, 1) := by decide +kernel
theorem dX5_hearPrepare_102 : decode cX5_hearPrepare 102 = .ok (.iload 5, 2) := by decide +kernel
theorem dX5_hearPrepare_104 : decode cX5_hearPrepare 104 = .ok (.iload_n 1, 1) := by decide +kernel
theorem dX5_hearPrepare_105 : decode cX5_hearPrepare 105 = .ok (.iload_n 2, 1) := by decide +kernel
theorem dX5_hearPrepare_106 : decode cX5_hearPrepare 106 = .ok (.iload_n 3, 1) := by decide +kernel
theorem dX5_hearPrepare_107 : decode cX5_hearPrepare 107 = .ok (.invokevirtual 83, 3) := by decide +kernel
theorem dX5_hearPrepare_110 : decode cX5_hearPrepare 110 = .ok (.return_, 1) := by decide +kernel
theorem dX5_giveUp_0 : decode cX5_giveUp 0 = .ok (.aload_n 0, 1) := by decide +kernel
theorem dX5_giveUp_1 : decode cX5_giveUp 1 = .ok (.iload_n 1, 1) := by decide +kernel
theorem dX5_giveUp_2 : decode cX5_giveUp 2 = .ok (.iload_n 2, 1) := by decide +kernel
theorem dX5_giveUp_3 : decode cX5_giveUp 3 = .ok (.iconst 3, 1) := by decide +kernel
theorem dX5_giveUp_4 : decode cX5_giveUp 4 = .ok (.iconst 0, 1) := by decide +kernel
theorem dX5_giveUp_5 : decode cX5_giveUp 5 = .ok (.invokevirtual 75, 3) := by decide +kernel
theorem dX5_giveUp_8 : decode cX5_giveUp 8 = .ok (.aload_n 0, 1) := by decide +kernel
theorem dX5_giveUp_9 : decode cX5_giveUp 9 = .ok (.iload_n 1, 1) := by decide +kernel
theorem dX5_giveUp_10 : decode cX5_giveUp 10 = .ok (.iload_n 2, 1) := by decide +kernel
theorem dX5_giveUp_11 : decode cX5_giveUp 11 = .ok (.invokevirtual 79, 3) := by decide +kernel
theorem dX5_giveUp_14 : decode cX5_giveUp 14 = .ok (.return_, 1) := by decide +kernel
theorem dX5_letGo_0 : decode cX5_letGo 0 = .ok (.iconst 0, 1) := by decide +kernel
theorem dX5_letGo_1 : decode cX5_letGo 1 = .ok (.istore_n 3, 1) := by decide +kernel
theorem dX5_letGo_2 : decode cX5_letGo 2 = .ok (.iload_n 3, 1) := by decide +kernel
theorem dX5_letGo_3 : decode cX5_letGo 3 = .ok (.bipush 8, 2) := by decide +kernel
theorem dX5_letGo_5 : decode cX5_letGo 5 = .ok (.if_icmp .ge 52, 3) := by decide +kernel
theorem dX5_letGo_8 : decode cX5_letGo 8 = .ok (.aload_n 0, 1) := by decide +kernel
theorem dX5_letGo_9 : decode cX5_letGo 9 = .ok (.getfield 38, 3) := by decide +kernel
theorem dX5_letGo_12 : decode cX5_letGo 12 = .ok (.bipush 8, 2) := by decide +kernel
theorem dX5_letGo_14 : decode cX5_letGo 14 = .ok (.iload_n 1, 1) := by decide +kernel
theorem dX5_letGo_15 : decode cX5_letGo 15 = .ok (.imul, 1) := by decide +kernel
theorem dX5_letGo_16 : decode cX5_letGo 16 = .ok (.iload_n 3, 1) := by decide +kernel
theorem dX5_letGo_17 : decode cX5_letGo 17 = .ok (.iadd, 1) := by decide +kernel
theorem dX5_letGo_18 : decode cX5_letGo 18 = .ok (.aload_n 0, 1) := by decide +kernel
theorem dX5_letGo_19 : decode cX5_letGo 19 = .ok (.getfield 38, 3) := by decide +kernel
theorem dX5_letGo_22 : decode cX5_letGo 22 = .ok (.bipush 8, 2) := by decide +kernel
theorem dX5_letGo_24 : decode cX5_letGo 24 = .ok (.iload_n 1, 1) := by decide +kernel
theorem dX5_letGo_25 : decode cX5_letGo 25 = .ok (.imul, 1) := by decide +kernel
theorem dX5_letGo_26 : decode cX5_letGo 26 = .ok (.iload_n 3, 1) := by decide +kernel
theorem dX5_letGo_27 : decode cX5_letGo 27 = .ok (.iadd, 1) := by decide +kernel
theorem dX5_letGo_28 : decode cX5_letGo 28 = .ok (.iaload, 1) := by decide +kernel
theorem dX5_letGo_29 : decode cX5_letGo 29 = .ok (.iload_n 2, 1) := by decide +kernel
theorem dX5_letGo_30 : decode cX5_letGo 30 = .ok (.iconst 1, 1) := by decide +kernel
theorem dX5_letGo_31 : decode cX5_letGo 31 = .ok (.iadd, 1) := by decide +kernel
theorem dX5_letGo_32 : decode cX5_letGo 32 = .ok (.if_icmp .ne 7, 3) := by decide +kernel
theorem dX5_letGo_35 : decode cX5_letGo 35 = .ok (.iconst 0, 1) := by decide +kernel
theorem dX5_letGo_36 : decode cX5_letGo 36 = .ok (.goto 14, 3) := by decide +kernel
theorem dX5_letGo_39 : decode cX5_letGo 39 = .ok (.aload_n 0, 1) := by decide +kernel
theorem dX5_letGo_40 : decode cX5_letGo 40 = .ok (.getfield 38, 3) := by decide +kernel
theorem dX5_letGo_43 : decode cX5_letGo 43 = .ok (.bipush 8, 2) := by decide +kernel
theorem dX5_letGo_45 : decode cX5_letGo 45 = .ok (.iload_n 1, 1) := by decide +kernel
theorem dX5_letGo_46 : decode cX5_letGo 46 = .ok (.imul, 1) := by decide +kernel
theorem dX5_letGo_47 : decode cX5_letGo 47 = .ok (.iload_n 3, 1) := by decide +kernel
theorem dX5_letGo_48 : decode cX5_letGo 48 = .ok (.iadd, 1) := by decide +kernel
theorem dX5_letGo_49 : decode cX5_letGo 49 = .ok (.iaload, 1) := by decide +kernel
theorem dX5_letGo_50 : decode cX5_letGo 50 = .ok (.iastore, 1) := by decide +kernel
theorem dX5_letGo_51 : decode cX5_letGo 51 = .ok (.iinc 3 1, 3) := by decide +kernel
theorem dX5_letGo_54 : decode cX5_letGo 54 = .ok (.goto (-52), 3) := by decide +kernel
theorem dX5_letGo_57 : decode cX5_letGo 57 = .ok (.aload_n 0, 1) := by decide +kernel
theorem dX5_letGo_58 : decode cX5_letGo 58 = .ok (.getfield 35, 3) := by decide +kernel
theorem dX5_letGo_61 : decode cX5_letGo 61 = .ok (.iconst 4, 1) := by decide +kernel
theorem dX5_letGo_62 : decode cX5_letGo 62 = .ok (.iload_n 2, 1) := by decide +kernel
theorem dX5_letGo_63 : decode cX5_letGo 63 = .ok (.imul, 1) := by decide +kernel
theorem dX5_letGo_64 : decode cX5_letGo 64 = .ok (.iload_n 1, 1) := by decide +kernel
theorem dX5_letGo_65 : decode cX5_letGo 65 = .ok (.iadd, 1) := by decide +kernel
theorem dX5_letGo_66 : decode cX5_letGo 66 = .ok (.iconst 0, 1) := by decide +kernel
theorem dX5_letGo_67 : decode cX5_letGo 67 = .ok (.iastore, 1) := by decide +kernel
theorem dX5_letGo_68 : decode cX5_letGo 68 = .ok (.return_, 1) := by decide +kernel
theorem dX5_holding_0 : decode cX5_holding 0 = .ok (.iconst 0, 1) := by decide +kernel
theorem dX5_holding_1 : decode cX5_holding 1 = .ok (.istore_n 3, 1) := by decide +kernel
theorem dX5_holding_2 : decode cX5_holding 2 = .ok (.iconst 0, 1) := by decide +kernel
theorem dX5_holding_3 : decode cX5_holding 3 = .ok (.istore 4, 2) := by decide +kernel
theorem dX5_holding_5 : decode cX5_holding 5 = .ok (.iload 4, 2) := by decide +kernel
theorem dX5_holding_7 : decode cX5_holding 7 = .ok (.bipush 8, 2) := by decide +kernel
theorem dX5_holding_9 : decode cX5_holding 9 = .ok (.if_icmp .ge 38, 3) := by decide +kernel
theorem dX5_holding_12 : decode cX5_holding 12 = .ok (.aload_n 0, 1) := by decide +kernel
theorem dX5_holding_13 : decode cX5_holding 13 = .ok (.getfield 38, 3) := by decide +kernel
theorem dX5_holding_16 : decode cX5_holding 16 = .ok (.bipush 8, 2) := by decide +kernel
theorem dX5_holding_18 : decode cX5_holding 18 = .ok (.iload_n 1, 1) := by decide +kernel
theorem dX5_holding_19 : decode cX5_holding 19 = .ok (.imul, 1) := by decide +kernel
theorem dX5_holding_20 : decode cX5_holding 20 = .ok (.iload 4, 2) := by decide +kernel
theorem dX5_holding_22 : decode cX5_holding 22 = .ok (.iadd, 1) := by decide +kernel
theorem dX5_holding_23 : decode cX5_holding 23 = .ok (.iaload, 1) := by decide +kernel
theorem dX5_holding_24 : decode cX5_holding 24 = .ok (.iload_n 2, 1) := by decide +kernel
theorem dX5_holding_25 : decode cX5_holding 25 = .ok (.iconst 1, 1) := by decide +kernel
theorem dX5_holding_26 : decode cX5_holding 26 = .ok (.iadd, 1) := by decide +kernel
theorem dX5_holding_27 : decode cX5_holding 27 = .ok (.if_icmp .ne 12, 3) := by decide +kernel
theorem dX5_holding_30 : decode cX5_holding 30 = .ok (.iload_n 3, 1) := by decide +kernel
theorem dX5_holding_31 : decode cX5_holding 31 = .ok (.iconst 1, 1) := by decide +kernel
theorem dX5_holding_32 : decode cX5_holding 32 = .ok (.iload 4, 2) := by decide +kernel
theorem dX5_holding_34 : decode cX5_holding 34 = .ok (.ishl, 1) := by decide +kernel
theorem dX5_holding_35 : decode cX5_holding 35 = .ok (.ior, 1) := by decide +kernel
theorem dX5_holding_36 : decode cX5_holding 36 = .ok (.goto 4, 3) := by decide +kernel
theorem dX5_holding_39 : decode cX5_holding 39 = .ok (.iload_n 3, 1) := by decide +kernel
theorem dX5_holding_40 : decode cX5_holding 40 = .ok (.istore_n 3, 1) := by decide +kernel
theorem dX5_holding_41 : decode cX5_holding 41 = .ok (.iinc 4 1, 3) := by decide +kernel
theorem dX5_holding_44 : decode cX5_holding 44 = .ok (.goto (-39), 3) := by decide +kernel
theorem dX5_holding_47 : decode cX5_holding 47 = .ok (.iload_n 3, 1) := by decide +kernel
theorem dX5_holding_48 : decode cX5_holding 48 = .ok (.ireturn, 1) := by decide +kernel
theorem dX5_force_0 : decode cX5_force 0 = .ok (.aload_n 0, 1) := by decide +kernel
theorem dX5_force_1 : decode cX5_force 1 = .ok (.iload_n 1, 1) := by decide +kernel
theorem dX5_force_2 : decode cX5_force 2 = .ok (.iload_n 2, 1) := by decide +kernel
theorem dX5_force_3 : decode cX5_force 3 = .ok (.iload_n 3, 1) := by decide +kernel
theorem dX5_force_4 : decode cX5_force 4 = .ok (.iload 4, 2) := by decide +kernel
theorem dX5_force_6 : decode cX5_force 6 = .ok (.invokevirtual 75, 3) := by decide +kernel
theorem dX5_force_9 : decode cX5_force 9 = .ok (.iconst 0, 1) := by decide +kernel
theorem dX5_force_10 : decode cX5_force 10 = .ok (.istore 5, 2) := by decide +kernel
theorem dX5_force_12 : decode cX5_force 12 = .ok (.iload 5, 2) := by decide +kernel
theorem dX5_force_14 : decode cX5_force 14 = .ok (.aload_n 0, 1) := by decide +kernel
theorem dX5_force_15 : decode cX5_force 15 = .ok (.getfield 41, 3) := by decide +kernel
theorem dX5_force_18 : decode cX5_force 18 = .ok (.iload_n 1, 1) := by decide +kernel
theorem dX5_force_19 : decode cX5_force 19 = .ok (.iaload, 1) := by decide +kernel
theorem dX5_force_20 : decode cX5_force 20 = .ok (.if_icmp .ge 22, 3) := by decide +kernel
theorem dX5_force_23 : decode cX5_force 23 = .ok (.aload_n 0, 1) := by decide +kernel
theorem dX5_force_24 : decode cX5_force 24 = .ok (.getfield 53, 3) := by decide +kernel
theorem dX5_force_27 : decode cX5_force 27 = .ok (.bipush 64, 2) := by decide +kernel
theorem dX5_force_29 : decode cX5_force 29 = .ok (.iload_n 1, 1) := by decide +kernel
theorem dX5_force_30 : decode cX5_force 30 = .ok (.imul, 1) := by decide +kernel
theorem dX5_force_31 : decode cX5_force 31 = .ok (.iload 5, 2) := by decide +kernel
theorem dX5_force_33 : decode cX5_force 33 = .ok (.iadd, 1) := by decide +kernel
theorem dX5_force_34 : decode cX5_force 34 = .ok (.iconst 1, 1) := by decide +kernel
theorem dX5_force_35 : decode cX5_force 35 = .ok (.bastore, 1) := by decide +kernel
theorem dX5_force_36 : decode cX5_force 36 = .ok (.iinc 5 1, 3) := by decide +kernel
theorem dX5_force_39 : decode cX5_force 39 = .ok (.goto (-27), 3) := by decide +kernel
theorem dX5_force_42 : decode cX5_force 42 = .ok (.aload_n 0, 1) := by decide +kernel
theorem dX5_force_43 : decode cX5_force 43 = .ok (.getfield 13, 3) := by decide +kernel
theorem dX5_force_46 : decode cX5_force 46 = .ok (.iload_n 1, 1) := by decide +kernel
theorem dX5_force_47 : decode cX5_force 47 = .ok (.dup2, 1) := by decide +kernel
theorem dX5_force_48 : decode cX5_force 48 = .ok (.iaload, 1) := by decide +kernel
theorem dX5_force_49 : decode cX5_force 49 = .ok (.iconst 1, 1) := by decide +kernel
theorem dX5_force_50 : decode cX5_force 50 = .ok (.iadd, 1) := by decide +kernel
theorem dX5_force_51 : decode cX5_force 51 = .ok (.iastore, 1) := by decide +kernel
theorem dX5_force_52 : decode cX5_force 52 = .ok (.return_, 1) := by decide +kernel
theorem dX5_hearVote_0 : decode cX5_hearVote 0 = .ok (.iconst 4, 1) := by decide +kernel
theorem dX5_hearVote_1 : decode cX5_hearVote 1 = .ok (.iload_n 3, 1) := by decide +kernel
theorem dX5_hearVote_2 : decode cX5_hearVote 2 = .ok (.imul, 1) := by decide +kernel
theorem dX5_hearVote_3 : decode cX5_hearVote 3 = .ok (.iload_n 2, 1) := by decide +kernel
theorem dX5_hearVote_4 : decode cX5_hearVote 4 = .ok (.iadd, 1) := by decide +kernel
theorem dX5_hearVote_5 : decode cX5_hearVote 5 = .ok (.istore 4, 2) := by decide +kernel
theorem dX5_hearVote_7 : decode cX5_hearVote 7 = .ok (.aload_n 0, 1) := by decide +kernel
theorem dX5_hearVote_8 : decode cX5_hearVote 8 = .ok (.getfield 20, 3) := by decide +kernel
theorem dX5_hearVote_11 : decode cX5_hearVote 11 = .ok (.iload_n 3, 1) := by decide +kernel
theorem dX5_hearVote_12 : decode cX5_hearVote 12 = .ok (.iaload, 1) := by decide +kernel
theorem dX5_hearVote_13 : decode cX5_hearVote 13 = .ok (.iconst 2, 1) := by decide +kernel
theorem dX5_hearVote_14 : decode cX5_hearVote 14 = .ok (.if_icmp .ne 13, 3) := by decide +kernel
theorem dX5_hearVote_17 : decode cX5_hearVote 17 = .ok (.aload_n 0, 1) := by decide +kernel
theorem dX5_hearVote_18 : decode cX5_hearVote 18 = .ok (.getfield 23, 3) := by decide +kernel
theorem dX5_hearVote_21 : decode cX5_hearVote 21 = .ok (.iload 4, 2) := by decide +kernel
theorem dX5_hearVote_23 : decode cX5_hearVote 23 = .ok (.baload, 1) := by decide +kernel
theorem dX5_hearVote_24 : decode cX5_hearVote 24 = .ok (.ifCond .ne 4, 3) := by decide +kernel
theorem dX5_hearVote_27 : decode cX5_hearVote 27 = .ok (.return_, 1) := by decide +kernel
theorem dX5_hearVote_28 : decode cX5_hearVote 28 = .ok (.iload_n 1, 1) := by decide +kernel
theorem dX5_hearVote_29 : decode cX5_hearVote 29 = .ok (.iconst 4, 1) := by decide +kernel
theorem dX5_hearVote_30 : decode cX5_hearVote 30 = .ok (.if_icmp .ne 11, 3) := by decide +kernel
theorem dX5_hearVote_33 : decode cX5_hearVote 33 = .ok (.aload_n 0, 1) := by decide +kernel
theorem dX5_hearVote_34 : decode cX5_hearVote 34 = .ok (.iload_n 3, 1) := by decide +kernel
theorem dX5_hearVote_35 : decode cX5_hearVote 35 = .ok (.iload_n 2, 1) := by decide +kernel
theorem dX5_hearVote_36 : decode cX5_hearVote 36 = .ok (.invokevirtual 106, 3) := by decide +kernel
theorem dX5_hearVote_39 : decode cX5_hearVote 39 = .ok (.pop, 1) := by decide +kernel
theorem dX5_hearVote_40 : decode cX5_hearVote 40 = .ok (.return_, 1) := by decide +kernel
theorem dX5_hearVote_41 : decode cX5_hearVote 41 = .ok (.iload_n 1, 1) := by decide +kernel
theorem dX5_hearVote_42 : decode cX5_hearVote 42 = .ok (.iconst 2, 1) := by decide +kernel
theorem dX5_hearVote_43 : decode cX5_hearVote 43 = .ok (.if_icmp .ne 14, 3) := by decide +kernel
theorem dX5_hearVote_46 : decode cX5_hearVote 46 = .ok (.aload_n 0, 1) := by decide +kernel
theorem dX5_hearVote_47 : decode cX5_hearVote 47 = .ok (.getfield 26, 3) := by decide +kernel
theorem dX5_hearVote_50 : decode cX5_hearVote 50 = .ok (.iload 4, 2) := by decide +kernel
theorem dX5_hearVote_52 : decode cX5_hearVote 52 = .ok (.iconst 1, 1) := by decide +kernel
theorem dX5_hearVote_53 : decode cX5_hearVote 53 = .ok (.bastore, 1) := by decide +kernel
theorem dX5_hearVote_54 : decode cX5_hearVote 54 = .ok (.goto 11, 3) := by decide +kernel
theorem dX5_hearVote_57 : decode cX5_hearVote 57 = .ok (.aload_n 0, 1) := by decide +kernel
theorem dX5_hearVote_58 : decode cX5_hearVote 58 = .ok (.getfield 29, 3) := by decide +kernel
theorem dX5_hearVote_61 : decode cX5_hearVote 61 = .ok (.iload 4, 2) := by decide +kernel
theorem dX5_hearVote_63 : decode cX5_hearVote 63 = .ok (.iconst 1, 1) := by decide +kernel
theorem dX5_hearVote_64 : decode cX5_hearVote 64 = .ok (.bastore, 1) := by decide +kernel
theorem dX5_hearVote_65 : decode cX5_hearVote 65 = .ok (.aload_n 0, 1) := by decide +kernel
theorem dX5_hearVote_66 : decode cX5_hearVote 66 = .ok (.iload_n 3, 1) := by decide +kernel
theorem dX5_hearVote_67 : decode cX5_hearVote 67 = .ok (.invokevirtual 109, 3) := by decide +kernel
theorem dX5_hearVote_70 : decode cX5_hearVote 70 = .ok (.return_, 1) := by decide +kernel
theorem dX5_decide_0 : decode cX5_decide 0 = .ok (.aload_n 0, 1) := by decide +kernel
theorem dX5_decide_1 : decode cX5_decide 1 = .ok (.iload_n 1, 1) := by decide +kernel
theorem dX5_decide_2 : decode cX5_decide 2 = .ok (.iconst 1, 1) := by decide +kernel
theorem dX5_decide_3 : decode cX5_decide 3 = .ok (.invokevirtual 90, 3) := by decide +kernel
theorem dX5_decide_6 : decode cX5_decide 6 = .ok (.istore_n 2, 1) := by decide +kernel
theorem dX5_decide_7 : decode cX5_decide 7 = .ok (.aload_n 0, 1) := by decide +kernel
theorem dX5_decide_8 : decode cX5_decide 8 = .ok (.iload_n 1, 1) := by decide +kernel
theorem dX5_decide_9 : decode cX5_decide 9 = .ok (.iconst 0, 1) := by decide +kernel
theorem dX5_decide_10 : decode cX5_decide 10 = .ok (.invokevirtual 90, 3) := by decide +kernel
theorem dX5_decide_13 : decode cX5_decide 13 = .ok (.iload_n 2, 1) := by decide +kernel
theorem dX5_decide_14 : decode cX5_decide 14 = .ok (.iconst (-1), 1) := by decide +kernel
theorem dX5_decide_15 : decode cX5_decide 15 = .ok (.ixor, 1) := by decide +kernel
theorem dX5_decide_16 : decode cX5_decide 16 = .ok (.iand, 1) := by decide +kernel
theorem dX5_decide_17 : decode cX5_decide 17 = .ok (.aload_n 0, 1) := by decide +kernel
theorem dX5_decide_18 : decode cX5_decide 18 = .ok (.iload_n 1, 1) := by decide +kernel
theorem dX5_decide_19 : decode cX5_decide 19 = .ok (.iconst 2, 1) := by decide +kernel
theorem dX5_decide_20 : decode cX5_decide 20 = .ok (.invokevirtual 90, 3) := by decide +kernel
theorem dX5_decide_23 : decode cX5_decide 23 = .ok (.iconst (-1), 1) := by decide +kernel
theorem dX5_decide_24 : decode cX5_decide 24 = .ok (.ixor, 1) := by decide +kernel
theorem dX5_decide_25 : decode cX5_decide 25 = .ok (.iand, 1) := by decide +kernel
theorem dX5_decide_26 : decode cX5_decide 26 = .ok (.ifCond .eq 4, 3) := by decide +kernel
theorem dX5_decide_29 : decode cX5_decide 29 = .ok (.return_, 1) := by decide +kernel
theorem dX5_decide_30 : decode cX5_decide 30 = .ok (.iload_n 2, 1) := by decide +kernel
theorem dX5_decide_31 : decode cX5_decide 31 = .ok (.ifCond .ne 9, 3) := by decide +kernel
theorem dX5_decide_34 : decode cX5_decide 34 = .ok (.aload_n 0, 1) := by decide +kernel
theorem dX5_decide_35 : decode cX5_decide 35 = .ok (.iload_n 1, 1) := by decide +kernel
theorem dX5_decide_36 : decode cX5_decide 36 = .ok (.invokevirtual 86, 3) := by decide +kernel
theorem dX5_decide_39 : decode cX5_decide 39 = .ok (.return_, 1) := by decide +kernel
theorem dX5_decide_40 : decode cX5_decide 40 = .ok (.iconst 0, 1) := by decide +kernel
theorem dX5_decide_41 : decode cX5_decide 41 = .ok (.istore_n 3, 1) := by decide +kernel
theorem dX5_decide_42 : decode cX5_decide 42 = .ok (.iload_n 3, 1) := by decide +kernel
theorem dX5_decide_43 : decode cX5_decide 43 = .ok (.iconst 4, 1) := by decide +kernel
theorem dX5_decide_44 : decode cX5_decide 44 = .ok (.if_icmp .ge 29, 3) := by decide +kernel
theorem dX5_decide_47 : decode cX5_decide 47 = .ok (.aload_n 0, 1) := by decide +kernel
theorem dX5_decide_48 : decode cX5_decide 48 = .ok (.getfield 32, 3) := by decide +kernel
theorem dX5_decide_51 : decode cX5_decide 51 = .ok (.iconst 4, 1) := by decide +kernel
theorem dX5_decide_52 : decode cX5_decide 52 = .ok (.iload_n 1, 1) := by decide +kernel
theorem dX5_decide_53 : decode cX5_decide 53 = .ok (.imul, 1) := by decide +kernel
theorem dX5_decide_54 : decode cX5_decide 54 = .ok (.iload_n 3, 1) := by decide +kernel
theorem dX5_decide_55 : decode cX5_decide 55 = .ok (.iadd, 1) := by decide +kernel
theorem dX5_decide_56 : decode cX5_decide 56 = .ok (.aload_n 0, 1) := by decide +kernel
theorem dX5_decide_57 : decode cX5_decide 57 = .ok (.getfield 26, 3) := by decide +kernel
theorem dX5_decide_60 : decode cX5_decide 60 = .ok (.iconst 4, 1) := by decide +kernel
theorem dX5_decide_61 : decode cX5_decide 61 = .ok (.iload_n 1, 1) := by decide +kernel
theorem dX5_decide_62 : decode cX5_decide 62 = .ok (.imul, 1) := by decide +kernel
theorem dX5_decide_63 : decode cX5_decide 63 = .ok (.iload_n 3, 1) := by decide +kernel
theorem dX5_decide_64 : decode cX5_decide 64 = .ok (.iadd, 1) := by decide +kernel
theorem dX5_decide_65 : decode cX5_decide 65 = .ok (.baload, 1) := by decide +kernel
theorem dX5_decide_66 : decode cX5_decide 66 = .ok (.bastore, 1) := by decide +kernel
theorem dX5_decide_67 : decode cX5_decide 67 = .ok (.iinc 3 1, 3) := by decide +kernel
theorem dX5_decide_70 : decode cX5_decide 70 = .ok (.goto (-28), 3) := by decide +kernel
theorem dX5_decide_73 : decode cX5_decide 73 = .ok (.aload_n 0, 1) := by decide +kernel
theorem dX5_decide_74 : decode cX5_decide 74 = .ok (.aload_n 0, 1) := by decide +kernel
theorem dX5_decide_75 : decode cX5_decide 75 = .ok (.getfield 17, 3) := by decide +kernel
theorem dX5_decide_78 : decode cX5_decide 78 = .ok (.iload_n 1, 1) := by decide +kernel
theorem dX5_decide_79 : decode cX5_decide 79 = .ok (.iaload, 1) := by decide +kernel
theorem dX5_decide_80 : decode cX5_decide 80 = .ok (.iload_n 1, 1) := by decide +kernel
theorem dX5_decide_81 : decode cX5_decide 81 = .ok (.iconst 4, 1) := by decide +kernel
theorem dX5_decide_82 : decode cX5_decide 82 = .ok (.iload_n 2, 1) := by decide +kernel
theorem dX5_decide_83 : decode cX5_decide 83 = .ok (.invokevirtual 94, 3) := by decide +kernel
theorem dX5_decide_86 : decode cX5_decide 86 = .ok (.aload_n 0, 1) := by decide +kernel
theorem dX5_decide_87 : decode cX5_decide 87 = .ok (.getfield 20, 3) := by decide +kernel
theorem dX5_decide_90 : decode cX5_decide 90 = .ok (.iload_n 1, 1) := by decide +kernel
theorem dX5_decide_91 : decode cX5_decide 91 = .ok (.iconst 3, 1) := by decide +kernel
theorem dX5_decide_92 : decode cX5_decide 92 = .ok (.iastore, 1) := by decide +kernel
theorem dX5_decide_93 : decode cX5_decide 93 = .ok (.aload_n 0, 1) := by decide +kernel
theorem dX5_decide_94 : decode cX5_decide 94 = .ok (.iload_n 1, 1) := by decide +kernel
theorem dX5_decide_95 : decode cX5_decide 95 = .ok (.invokevirtual 97, 3) := by decide +kernel
theorem dX5_decide_98 : decode cX5_decide 98 = .ok (.return_, 1) := by decide +kernel
theorem dX5_bits_0 : decode cX5_bits 0 = .ok (.iconst 0, 1) := by decide +kernel
theorem dX5_bits_1 : decode cX5_bits 1 = .ok (.istore_n 3, 1) := by decide +kernel
theorem dX5_bits_2 : decode cX5_bits 2 = .ok (.iconst 0, 1) := by decide +kernel
theorem dX5_bits_3 : decode cX5_bits 3 = .ok (.istore 4, 2) := by decide +kernel
theorem dX5_bits_5 : decode cX5_bits 5 = .ok (.iload 4, 2) := by decide +kernel
theorem dX5_bits_7 : decode cX5_bits 7 = .ok (.iconst 4, 1) := by decide +kernel
theorem dX5_bits_8 : decode cX5_bits 8 = .ok (.if_icmp .ge 86, 3) := by decide +kernel
theorem dX5_bits_11 : decode cX5_bits 11 = .ok (.iconst 4, 1) := by decide +kernel
theorem dX5_bits_12 : decode cX5_bits 12 = .ok (.iload_n 1, 1) := by decide +kernel
theorem dX5_bits_13 : decode cX5_bits 13 = .ok (.imul, 1) := by decide +kernel
theorem dX5_bits_14 : decode cX5_bits 14 = .ok (.iload 4, 2) := by decide +kernel
theorem dX5_bits_16 : decode cX5_bits 16 = .ok (.iadd, 1) := by decide +kernel
theorem dX5_bits_17 : decode cX5_bits 17 = .ok (.istore 5, 2) := by decide +kernel
theorem dX5_bits_19 : decode cX5_bits 19 = .ok (.iload_n 2, 1) := by decide +kernel
theorem dX5_bits_20 : decode cX5_bits 20 = .ok (.ifCond .ne 13, 3) := by decide +kernel
theorem dX5_bits_23 : decode cX5_bits 23 = .ok (.aload_n 0, 1) := by decide +kernel
theorem dX5_bits_24 : decode cX5_bits 24 = .ok (.getfield 23, 3) := by decide +kernel
theorem dX5_bits_27 : decode cX5_bits 27 = .ok (.iload 5, 2) := by decide +kernel
theorem dX5_bits_29 : decode cX5_bits 29 = .ok (.baload, 1) := by decide +kernel
theorem dX5_bits_30 : decode cX5_bits 30 = .ok (.goto 40, 3) := by decide +kernel
theorem dX5_bits_33 : decode cX5_bits 33 = .ok (.iload_n 2, 1) := by decide +kernel
theorem dX5_bits_34 : decode cX5_bits 34 = .ok (.iconst 1, 1) := by decide +kernel
theorem dX5_bits_35 : decode cX5_bits 35 = .ok (.if_icmp .ne 13, 3) := by decide +kernel
theorem dX5_bits_38 : decode cX5_bits 38 = .ok (.aload_n 0, 1) := by decide +kernel
theorem dX5_bits_39 : decode cX5_bits 39 = .ok (.getfield 26, 3) := by decide +kernel
theorem dX5_bits_42 : decode cX5_bits 42 = .ok (.iload 5, 2) := by decide +kernel
theorem dX5_bits_44 : decode cX5_bits 44 = .ok (.baload, 1) := by decide +kernel
theorem dX5_bits_45 : decode cX5_bits 45 = .ok (.goto 25, 3) := by decide +kernel
theorem dX5_bits_48 : decode cX5_bits 48 = .ok (.iload_n 2, 1) := by decide +kernel
theorem dX5_bits_49 : decode cX5_bits 49 = .ok (.iconst 2, 1) := by decide +kernel
theorem dX5_bits_50 : decode cX5_bits 50 = .ok (.if_icmp .ne 13, 3) := by decide +kernel
theorem dX5_bits_53 : decode cX5_bits 53 = .ok (.aload_n 0, 1) := by decide +kernel
theorem dX5_bits_54 : decode cX5_bits 54 = .ok (.getfield 29, 3) := by decide +kernel
theorem dX5_bits_57 : decode cX5_bits 57 = .ok (.iload 5, 2) := by decide +kernel
theorem dX5_bits_59 : decode cX5_bits 59 = .ok (.baload, 1) := by decide +kernel
theorem dX5_bits_60 : decode cX5_bits 60 = .ok (.goto 10, 3) := by decide +kernel
theorem dX5_bits_63 : decode cX5_bits 63 = .ok (.aload_n 0, 1) := by decide +kernel
theorem dX5_bits_64 : decode cX5_bits 64 = .ok (.getfield 32, 3) := by decide +kernel
theorem dX5_bits_67 : decode cX5_bits 67 = .ok (.iload 5, 2) := by decide +kernel
theorem dX5_bits_69 : decode cX5_bits 69 = .ok (.baload, 1) := by decide +kernel
theorem dX5_bits_70 : decode cX5_bits 70 = .ok (.istore 6, 2) := by decide +kernel
theorem dX5_bits_72 : decode cX5_bits 72 = .ok (.iload 6, 2) := by decide +kernel
theorem dX5_bits_74 : decode cX5_bits 74 = .ok (.ifCond .eq 12, 3) := by decide +kernel
theorem dX5_bits_77 : decode cX5_bits 77 = .ok (.iload_n 3, 1) := by decide +kernel
theorem dX5_bits_78 : decode cX5_bits 78 = .ok (.iconst 1, 1) := by decide +kernel
theorem dX5_bits_79 : decode cX5_bits 79 = .ok (.iload 4, 2) := by decide +kernel
theorem dX5_bits_81 : decode cX5_bits 81 = .ok (.ishl, 1) := by decide +kernel
theorem dX5_bits_82 : decode cX5_bits 82 = .ok (.ior, 1) := by decide +kernel
theorem dX5_bits_83 : decode cX5_bits 83 = .ok (.goto 4, 3) := by decide +kernel
theorem dX5_bits_86 : decode cX5_bits 86 = .ok (.iload_n 3, 1) := by decide +kernel
theorem dX5_bits_87 : decode cX5_bits 87 = .ok (.istore_n 3, 1) := by decide +kernel
theorem dX5_bits_88 : decode cX5_bits 88 = .ok (.iinc 4 1, 3) := by decide +kernel
theorem dX5_bits_91 : decode cX5_bits 91 = .ok (.goto (-86), 3) := by decide +kernel
theorem dX5_bits_94 : decode cX5_bits 94 = .ok (.iload_n 3, 1) := by decide +kernel
theorem dX5_bits_95 : decode cX5_bits 95 = .ok (.ireturn, 1) := by decide +kernel
theorem dX5_sendDue_0 : decode cX5_sendDue 0 = .ok (.iconst 0, 1) := by decide +kernel
theorem dX5_sendDue_1 : decode cX5_sendDue 1 = .ok (.istore_n 2, 1) := by decide +kernel
theorem dX5_sendDue_2 : decode cX5_sendDue 2 = .ok (.iload_n 2, 1) := by decide +kernel
theorem dX5_sendDue_3 : decode cX5_sendDue 3 = .ok (.iconst 4, 1) := by decide +kernel
theorem dX5_sendDue_4 : decode cX5_sendDue 4 = .ok (.if_icmp .ge 35, 3) := by decide +kernel
theorem dX5_sendDue_7 : decode cX5_sendDue 7 = .ok (.aload_n 0, 1) := by decide +kernel
theorem dX5_sendDue_8 : decode cX5_sendDue 8 = .ok (.getfield 32, 3) := by decide +kernel
theorem dX5_sendDue_11 : decode cX5_sendDue 11 = .ok (.iconst 4, 1) := by decide +kernel
theorem dX5_sendDue_12 : decode cX5_sendDue 12 = .ok (.iload_n 1, 1) := by decide +kernel
theorem dX5_sendDue_13 : decode cX5_sendDue 13 = .ok (.imul, 1) := by decide +kernel
theorem dX5_sendDue_14 : decode cX5_sendDue 14 = .ok (.iload_n 2, 1) := by decide +kernel
theorem dX5_sendDue_15 : decode cX5_sendDue 15 = .ok (.iadd, 1) := by decide +kernel
theorem dX5_sendDue_16 : decode cX5_sendDue 16 = .ok (.baload, 1) := by decide +kernel
theorem dX5_sendDue_17 : decode cX5_sendDue 17 = .ok (.ifCond .eq 16, 3) := by decide +kernel
theorem dX5_sendDue_20 : decode cX5_sendDue 20 = .ok (.aload_n 0, 1) := by decide +kernel
theorem dX5_sendDue_21 : decode cX5_sendDue 21 = .ok (.iconst 5, 1) := by decide +kernel
theorem dX5_sendDue_22 : decode cX5_sendDue 22 = .ok (.aload_n 0, 1) := by decide +kernel
theorem dX5_sendDue_23 : decode cX5_sendDue 23 = .ok (.getfield 17, 3) := by decide +kernel
theorem dX5_sendDue_26 : decode cX5_sendDue 26 = .ok (.iload_n 1, 1) := by decide +kernel
theorem dX5_sendDue_27 : decode cX5_sendDue 27 = .ok (.iaload, 1) := by decide +kernel
theorem dX5_sendDue_28 : decode cX5_sendDue 28 = .ok (.iload_n 2, 1) := by decide +kernel
theorem dX5_sendDue_29 : decode cX5_sendDue 29 = .ok (.iload_n 1, 1) := by decide +kernel
theorem dX5_sendDue_30 : decode cX5_sendDue 30 = .ok (.invokevirtual 83, 3) := by decide +kernel
theorem dX5_sendDue_33 : decode cX5_sendDue 33 = .ok (.iinc 2 1, 3) := by decide +kernel
theorem dX5_sendDue_36 : decode cX5_sendDue 36 = .ok (.goto (-34), 3) := by decide +kernel
theorem dX5_sendDue_39 : decode cX5_sendDue 39 = .ok (.return_, 1) := by decide +kernel
theorem dX5_hearAck_0 : decode cX5_hearAck 0 = .ok (.aload_n 0, 1) := by decide +kernel
theorem dX5_hearAck_1 : decode cX5_hearAck 1 = .ok (.getfield 20, 3) := by decide +kernel
theorem dX5_hearAck_4 : decode cX5_hearAck 4 = .ok (.iload_n 2, 1) := by decide +kernel
theorem dX5_hearAck_5 : decode cX5_hearAck 5 = .ok (.iaload, 1) := by decide +kernel
theorem dX5_hearAck_6 : decode cX5_hearAck 6 = .ok (.iconst 3, 1) := by decide +kernel
theorem dX5_hearAck_7 : decode cX5_hearAck 7 = .ok (.if_icmp .ne 42, 3) := by decide +kernel
theorem dX5_hearAck_10 : decode cX5_hearAck 10 = .ok (.aload_n 0, 1) := by decide +kernel
theorem dX5_hearAck_11 : decode cX5_hearAck 11 = .ok (.getfield 32, 3) := by decide +kernel
theorem dX5_hearAck_14 : decode cX5_hearAck 14 = .ok (.iconst 4, 1) := by decide +kernel
theorem dX5_hearAck_15 : decode cX5_hearAck 15 = .ok (.iload_n 2, 1) := by decide +kernel
theorem dX5_hearAck_16 : decode cX5_hearAck 16 = .ok (.imul, 1) := by decide +kernel
theorem dX5_hearAck_17 : decode cX5_hearAck 17 = .ok (.iload_n 1, 1) := by decide +kernel
theorem dX5_hearAck_18 : decode cX5_hearAck 18 = .ok (.iadd, 1) := by decide +kernel
theorem dX5_hearAck_19 : decode cX5_hearAck 19 = .ok (.iconst 0, 1) := by decide +kernel
theorem dX5_hearAck_20 : decode cX5_hearAck 20 = .ok (.bastore, 1) := by decide +kernel
theorem dX5_hearAck_21 : decode cX5_hearAck 21 = .ok (.aload_n 0, 1) := by decide +kernel
theorem dX5_hearAck_22 : decode cX5_hearAck 22 = .ok (.iload_n 2, 1) := by decide +kernel
theorem dX5_hearAck_23 : decode cX5_hearAck 23 = .ok (.iconst 3, 1) := by decide +kernel
theorem dX5_hearAck_24 : decode cX5_hearAck 24 = .ok (.invokevirtual 90, 3) := by decide +kernel
theorem dX5_hearAck_27 : decode cX5_hearAck 27 = .ok (.ifCond .ne 22, 3) := by decide +kernel
theorem dX5_hearAck_30 : decode cX5_hearAck 30 = .ok (.aload_n 0, 1) := by decide +kernel
theorem dX5_hearAck_31 : decode cX5_hearAck 31 = .ok (.aload_n 0, 1) := by decide +kernel
theorem dX5_hearAck_32 : decode cX5_hearAck 32 = .ok (.getfield 17, 3) := by decide +kernel
theorem dX5_hearAck_35 : decode cX5_hearAck 35 = .ok (.iload_n 2, 1) := by decide +kernel
theorem dX5_hearAck_36 : decode cX5_hearAck 36 = .ok (.iaload, 1) := by decide +kernel
theorem dX5_hearAck_37 : decode cX5_hearAck 37 = .ok (.iload_n 2, 1) := by decide +kernel
theorem dX5_hearAck_38 : decode cX5_hearAck 38 = .ok (.bipush 6, 2) := by decide +kernel
theorem dX5_hearAck_40 : decode cX5_hearAck 40 = .ok (.iconst 0, 1) := by decide +kernel
theorem dX5_hearAck_41 : decode cX5_hearAck 41 = .ok (.invokevirtual 75, 3) := by decide +kernel
theorem dX5_hearAck_44 : decode cX5_hearAck 44 = .ok (.aload_n 0, 1) := by decide +kernel
theorem dX5_hearAck_45 : decode cX5_hearAck 45 = .ok (.iload_n 2, 1) := by decide +kernel
theorem dX5_hearAck_46 : decode cX5_hearAck 46 = .ok (.invokevirtual 86, 3) := by decide +kernel
theorem dX5_hearAck_49 : decode cX5_hearAck 49 = .ok (.return_, 1) := by decide +kernel
theorem dX5_lose_0 : decode cX5_lose 0 = .ok (.iload_n 1, 1) := by decide +kernel
theorem dX5_lose_1 : decode cX5_lose 1 = .ok (.ifCond .lt 11, 3) := by decide +kernel
theorem dX5_lose_4 : decode cX5_lose 4 = .ok (.iload_n 1, 1) := by decide +kernel
theorem dX5_lose_5 : decode cX5_lose 5 = .ok (.aload_n 0, 1) := by decide +kernel
theorem dX5_lose_6 : decode cX5_lose 6 = .ok (.getfield 72, 3) := by decide +kernel
theorem dX5_lose_9 : decode cX5_lose 9 = .ok (.if_icmp .lt 6, 3) := by decide +kernel
theorem dX5_lose_12 : decode cX5_lose 12 = .ok (.bipush (-2), 2) := by decide +kernel
theorem dX5_lose_14 : decode cX5_lose 14 = .ok (.ireturn, 1) := by decide +kernel
theorem dX5_lose_15 : decode cX5_lose 15 = .ok (.aload_n 0, 1) := by decide +kernel
theorem dX5_lose_16 : decode cX5_lose 16 = .ok (.getfield 56, 3) := by decide +kernel
theorem dX5_lose_19 : decode cX5_lose 19 = .ok (.iload_n 1, 1) := by decide +kernel
theorem dX5_lose_20 : decode cX5_lose 20 = .ok (.iaload, 1) := by decide +kernel
theorem dX5_lose_21 : decode cX5_lose 21 = .ok (.istore_n 2, 1) := by decide +kernel
theorem dX5_lose_22 : decode cX5_lose 22 = .ok (.aload_n 0, 1) := by decide +kernel
theorem dX5_lose_23 : decode cX5_lose 23 = .ok (.iload_n 1, 1) := by decide +kernel
theorem dX5_lose_24 : decode cX5_lose 24 = .ok (.invokevirtual 129, 3) := by decide +kernel
theorem dX5_lose_27 : decode cX5_lose 27 = .ok (.iload_n 2, 1) := by decide +kernel
theorem dX5_lose_28 : decode cX5_lose 28 = .ok (.ireturn, 1) := by decide +kernel
theorem dX5_expire_0 : decode cX5_expire 0 = .ok (.iload_n 1, 1) := by decide +kernel
theorem dX5_expire_1 : decode cX5_expire 1 = .ok (.invokestatic 122, 3) := by decide +kernel
theorem dX5_expire_4 : decode cX5_expire 4 = .ok (.ifCond .ne 25, 3) := by decide +kernel
theorem dX5_expire_7 : decode cX5_expire 7 = .ok (.aload_n 0, 1) := by decide +kernel
theorem dX5_expire_8 : decode cX5_expire 8 = .ok (.iload_n 2, 1) := by decide +kernel
theorem dX5_expire_9 : decode cX5_expire 9 = .ok (.invokevirtual 126, 3) := by decide +kernel
theorem dX5_expire_12 : decode cX5_expire 12 = .ok (.ifCond .ne 17, 3) := by decide +kernel
theorem dX5_expire_15 : decode cX5_expire 15 = .ok (.iload_n 3, 1) := by decide +kernel
theorem dX5_expire_16 : decode cX5_expire 16 = .ok (.ifCond .ne 16, 3) := by decide +kernel
theorem dX5_expire_19 : decode cX5_expire 19 = .ok (.aload_n 0, 1) := by decide +kernel
theorem dX5_expire_20 : decode cX5_expire 20 = .ok (.getfield 17, 3) := by decide +kernel
theorem dX5_expire_23 : decode cX5_expire 23 = .ok (.iload_n 2, 1) := by decide +kernel
theorem dX5_expire_24 : decode cX5_expire 24 = .ok (.iaload, 1) := by decide +kernel
theorem dX5_expire_25 : decode cX5_expire 25 = .ok (.iload_n 1, 1) := by decide +kernel
theorem dX5_expire_26 : decode cX5_expire 26 = .ok (.if_icmp .eq 6, 3) := by decide +kernel
theorem dX5_expire_29 : decode cX5_expire 29 = .ok (.bipush (-2), 2) := by decide +kernel
theorem dX5_expire_31 : decode cX5_expire 31 = .ok (.ireturn, 1) := by decide +kernel
theorem dX5_expire_32 : decode cX5_expire 32 = .ok (.aload_n 0, 1) := by decide +kernel
theorem dX5_expire_33 : decode cX5_expire 33 = .ok (.getfield 7, 3) := by decide +kernel
theorem dX5_expire_36 : decode cX5_expire 36 = .ok (.iload_n 1, 1) := by decide +kernel
theorem dX5_expire_37 : decode cX5_expire 37 = .ok (.baload, 1) := by decide +kernel
theorem dX5_expire_38 : decode cX5_expire 38 = .ok (.ifCond .eq 6, 3) := by decide +kernel
theorem dX5_expire_41 : decode cX5_expire 41 = .ok (.bipush (-3), 2) := by decide +kernel
theorem dX5_expire_43 : decode cX5_expire 43 = .ok (.ireturn, 1) := by decide +kernel
theorem dX5_expire_44 : decode cX5_expire 44 = .ok (.aload_n 0, 1) := by decide +kernel
theorem dX5_expire_45 : decode cX5_expire 45 = .ok (.getfield 35, 3) := by decide +kernel
theorem dX5_expire_48 : decode cX5_expire 48 = .ok (.iconst 4, 1) := by decide +kernel
theorem dX5_expire_49 : decode cX5_expire 49 = .ok (.iload_n 2, 1) := by decide +kernel
theorem dX5_expire_50 : decode cX5_expire 50 = .ok (.imul, 1) := by decide +kernel
theorem dX5_expire_51 : decode cX5_expire 51 = .ok (.iload_n 1, 1) := by decide +kernel
theorem dX5_expire_52 : decode cX5_expire 52 = .ok (.iadd, 1) := by decide +kernel
theorem dX5_expire_53 : decode cX5_expire 53 = .ok (.iaload, 1) := by decide +kernel
theorem dX5_expire_54 : decode cX5_expire 54 = .ok (.istore 4, 2) := by decide +kernel
theorem dX5_expire_56 : decode cX5_expire 56 = .ok (.iload_n 3, 1) := by decide +kernel
theorem dX5_expire_57 : decode cX5_expire 57 = .ok (.ifCond .eq 56, 3) := by decide +kernel
theorem dX5_expire_60 : decode cX5_expire 60 = .ok (.iload 4, 2) := by decide +kernel
theorem dX5_expire_62 : decode cX5_expire 62 = .ok (.iconst 1, 1) := by decide +kernel
theorem dX5_expire_63 : decode cX5_expire 63 = .ok (.if_icmp .eq 9, 3) := by decide +kernel
theorem dX5_expire_66 : decode cX5_expire 66 = .ok (.iload 4, 2) := by decide +kernel
theorem dX5_expire_68 : decode cX5_expire 68 = .ok (.iconst 2, 1) := by decide +kernel
theorem dX5_expire_69 : decode cX5_expire 69 = .ok (.if_icmp .ne 12, 3) := by decide +kernel
theorem dX5_expire_72 : decode cX5_expire 72 = .ok (.aload_n 0, 1) := by decide +kernel
theorem dX5_expire_73 : decode cX5_expire 73 = .ok (.iload_n 1, 1) := by decide +kernel
theorem dX5_expire_74 : decode cX5_expire 74 = .ok (.iload_n 2, 1) := by decide +kernel
theorem dX5_expire_75 : decode cX5_expire 75 = .ok (.invokevirtual 100, 3) := by decide +kernel
theorem dX5_expire_78 : decode cX5_expire 78 = .ok (.goto 23, 3) := by decide +kernel
theorem dX5_expire_81 : decode cX5_expire 81 = .ok (.iload 4, 2) := by decide +kernel
theorem dX5_expire_83 : decode cX5_expire 83 = .ok (.iconst 3, 1) := by decide +kernel
theorem dX5_expire_84 : decode cX5_expire 84 = .ok (.if_icmp .ne 17, 3) := by decide +kernel
theorem dX5_expire_87 : decode cX5_expire 87 = .ok (.aload_n 0, 1) := by decide +kernel
theorem dX5_expire_88 : decode cX5_expire 88 = .ok (.bipush 8, 2) := by decide +kernel
theorem dX5_expire_90 : decode cX5_expire 90 = .ok (.iload_n 1, 1) := by decide +kernel
theorem dX5_expire_91 : decode cX5_expire 91 = .ok (.aload_n 0, 1) := by decide +kernel
theorem dX5_expire_92 : decode cX5_expire 92 = .ok (.getfield 17, 3) := by decide +kernel
theorem dX5_expire_95 : decode cX5_expire 95 = .ok (.iload_n 2, 1) := by decide +kernel
theorem dX5_expire_96 : decode cX5_expire 96 = .ok (.iaload, 1) := by decide +kernel
theorem dX5_expire_97 : decode cX5_expire 97 = .ok (.iload_n 2, 1) := by decide +kernel
theorem dX5_expire_98 : decode cX5_expire 98 = .ok (.invokevirtual 83, 3) := by decide +kernel
theorem dX5_expire_101 : decode cX5_expire 101 = .ok (.iload 4, 2) := by decide +kernel
theorem dX5_expire_103 : decode cX5_expire 103 = .ok (.ifCond .ne 8, 3) := by decide +kernel
theorem dX5_expire_106 : decode cX5_expire 106 = .ok (.bipush (-4), 2) := by decide +kernel
theorem dX5_expire_108 : decode cX5_expire 108 = .ok (.goto 4, 3) := by decide +kernel
theorem dX5_expire_111 : decode cX5_expire 111 = .ok (.iconst 1, 1) := by decide +kernel
theorem dX5_expire_112 : decode cX5_expire 112 = .ok (.ireturn, 1) := by decide +kernel
theorem dX5_expire_113 : decode cX5_expire 113 = .ok (.aload_n 0, 1) := by decide +kernel
theorem dX5_expire_114 : decode cX5_expire 114 = .ok (.getfield 20, 3) := by decide +kernel
theorem dX5_expire_117 : decode cX5_expire 117 = .ok (.iload_n 2, 1) := by decide +kernel
theorem dX5_expire_118 : decode cX5_expire 118 = .ok (.iaload, 1) := by decide +kernel
theorem dX5_expire_119 : decode cX5_expire 119 = .ok (.istore 5, 2) := by decide +kernel
theorem dX5_expire_121 : decode cX5_expire 121 = .ok (.iload 5, 2) := by decide +kernel
theorem dX5_expire_123 : decode cX5_expire 123 = .ok (.iconst 2, 1) := by decide +kernel
theorem dX5_expire_124 : decode cX5_expire 124 = .ok (.if_icmp .ne 13, 3) := by decide +kernel
theorem dX5_expire_127 : decode cX5_expire 127 = .ok (.aload_n 0, 1) := by decide +kernel
theorem dX5_expire_128 : decode cX5_expire 128 = .ok (.iload_n 2, 1) := by decide +kernel
theorem dX5_expire_129 : decode cX5_expire 129 = .ok (.iconst (-1), 1) := by decide +kernel
theorem dX5_expire_130 : decode cX5_expire 130 = .ok (.invokevirtual 106, 3) := by decide +kernel
theorem dX5_expire_133 : decode cX5_expire 133 = .ok (.pop, 1) := by decide +kernel
theorem dX5_expire_134 : decode cX5_expire 134 = .ok (.goto 14, 3) := by decide +kernel
theorem dX5_expire_137 : decode cX5_expire 137 = .ok (.iload 5, 2) := by decide +kernel
theorem dX5_expire_139 : decode cX5_expire 139 = .ok (.iconst 3, 1) := by decide +kernel
theorem dX5_expire_140 : decode cX5_expire 140 = .ok (.if_icmp .ne 8, 3) := by decide +kernel
theorem dX5_expire_143 : decode cX5_expire 143 = .ok (.aload_n 0, 1) := by decide +kernel
theorem dX5_expire_144 : decode cX5_expire 144 = .ok (.iload_n 2, 1) := by decide +kernel
theorem dX5_expire_145 : decode cX5_expire 145 = .ok (.invokevirtual 97, 3) := by decide +kernel
theorem dX5_expire_148 : decode cX5_expire 148 = .ok (.iload 5, 2) := by decide +kernel
theorem dX5_expire_150 : decode cX5_expire 150 = .ok (.iconst 2, 1) := by decide +kernel
theorem dX5_expire_151 : decode cX5_expire 151 = .ok (.if_icmp .ge 8, 3) := by decide +kernel
theorem dX5_expire_154 : decode cX5_expire 154 = .ok (.bipush (-4), 2) := by decide +kernel
theorem dX5_expire_156 : decode cX5_expire 156 = .ok (.goto 4, 3) := by decide +kernel
theorem dX5_expire_159 : decode cX5_expire 159 = .ok (.iconst 1, 1) := by decide +kernel
theorem dX5_expire_160 : decode cX5_expire 160 = .ok (.ireturn, 1) := by decide +kernel
theorem dX5_crash_0 : decode cX5_crash 0 = .ok (.iload_n 1, 1) := by decide +kernel
theorem dX5_crash_1 : decode cX5_crash 1 = .ok (.invokestatic 122, 3) := by decide +kernel
theorem dX5_crash_4 : decode cX5_crash 4 = .ok (.ifCond .eq 6, 3) := by decide +kernel
theorem dX5_crash_7 : decode cX5_crash 7 = .ok (.bipush (-2), 2) := by decide +kernel
theorem dX5_crash_9 : decode cX5_crash 9 = .ok (.ireturn, 1) := by decide +kernel
theorem dX5_crash_10 : decode cX5_crash 10 = .ok (.aload_n 0, 1) := by decide +kernel
theorem dX5_crash_11 : decode cX5_crash 11 = .ok (.getfield 7, 3) := by decide +kernel
theorem dX5_crash_14 : decode cX5_crash 14 = .ok (.iload_n 1, 1) := by decide +kernel
theorem dX5_crash_15 : decode cX5_crash 15 = .ok (.baload, 1) := by decide +kernel
theorem dX5_crash_16 : decode cX5_crash 16 = .ok (.ifCond .eq 6, 3) := by decide +kernel
theorem dX5_crash_19 : decode cX5_crash 19 = .ok (.bipush (-3), 2) := by decide +kernel
theorem dX5_crash_21 : decode cX5_crash 21 = .ok (.ireturn, 1) := by decide +kernel
theorem dX5_crash_22 : decode cX5_crash 22 = .ok (.aload_n 0, 1) := by decide +kernel
theorem dX5_crash_23 : decode cX5_crash 23 = .ok (.getfield 7, 3) := by decide +kernel
theorem dX5_crash_26 : decode cX5_crash 26 = .ok (.iload_n 1, 1) := by decide +kernel
theorem dX5_crash_27 : decode cX5_crash 27 = .ok (.iconst 1, 1) := by decide +kernel
theorem dX5_crash_28 : decode cX5_crash 28 = .ok (.bastore, 1) := by decide +kernel
theorem dX5_crash_29 : decode cX5_crash 29 = .ok (.iconst 0, 1) := by decide +kernel
theorem dX5_crash_30 : decode cX5_crash 30 = .ok (.istore_n 2, 1) := by decide +kernel
theorem dX5_crash_31 : decode cX5_crash 31 = .ok (.iload_n 2, 1) := by decide +kernel
theorem dX5_crash_32 : decode cX5_crash 32 = .ok (.aload_n 0, 1) := by decide +kernel
theorem dX5_crash_33 : decode cX5_crash 33 = .ok (.getfield 68, 3) := by decide +kernel
theorem dX5_crash_36 : decode cX5_crash 36 = .ok (.if_icmp .ge 30, 3) := by decide +kernel
theorem dX5_crash_39 : decode cX5_crash 39 = .ok (.aload_n 0, 1) := by decide +kernel
theorem dX5_crash_40 : decode cX5_crash 40 = .ok (.iload_n 1, 1) := by decide +kernel
theorem dX5_crash_41 : decode cX5_crash 41 = .ok (.iload_n 2, 1) := by decide +kernel
theorem dX5_crash_42 : decode cX5_crash 42 = .ok (.invokevirtual 79, 3) := by decide +kernel
theorem dX5_crash_45 : decode cX5_crash 45 = .ok (.aload_n 0, 1) := by decide +kernel
theorem dX5_crash_46 : decode cX5_crash 46 = .ok (.getfield 17, 3) := by decide +kernel
theorem dX5_crash_49 : decode cX5_crash 49 = .ok (.iload_n 2, 1) := by decide +kernel
theorem dX5_crash_50 : decode cX5_crash 50 = .ok (.iaload, 1) := by decide +kernel
theorem dX5_crash_51 : decode cX5_crash 51 = .ok (.iload_n 1, 1) := by decide +kernel
theorem dX5_crash_52 : decode cX5_crash 52 = .ok (.if_icmp .ne 8, 3) := by decide +kernel
theorem dX5_crash_55 : decode cX5_crash 55 = .ok (.aload_n 0, 1) := by decide +kernel
theorem dX5_crash_56 : decode cX5_crash 56 = .ok (.iload_n 2, 1) := by decide +kernel
theorem dX5_crash_57 : decode cX5_crash 57 = .ok (.invokevirtual 86, 3) := by decide +kernel
theorem dX5_crash_60 : decode cX5_crash 60 = .ok (.iinc 2 1, 3) := by decide +kernel
theorem dX5_crash_63 : decode cX5_crash 63 = .ok (.goto (-32), 3) := by decide +kernel
theorem dX5_crash_66 : decode cX5_crash 66 = .ok (.iconst 0, 1) := by decide +kernel
theorem dX5_crash_67 : decode cX5_crash 67 = .ok (.istore_n 2, 1) := by decide +kernel
theorem dX5_crash_68 : decode cX5_crash 68 = .ok (.aload_n 0, 1) := by decide +kernel
theorem dX5_crash_69 : decode cX5_crash 69 = .ok (.getfield 41, 3) := by decide +kernel
theorem dX5_crash_72 : decode cX5_crash 72 = .ok (.iload_n 1, 1) := by decide +kernel
theorem dX5_crash_73 : decode cX5_crash 73 = .ok (.iaload, 1) := by decide +kernel
theorem dX5_crash_74 : decode cX5_crash 74 = .ok (.ifCond .le 40, 3) := by decide +kernel
theorem dX5_crash_77 : decode cX5_crash 77 = .ok (.aload_n 0, 1) := by decide +kernel
theorem dX5_crash_78 : decode cX5_crash 78 = .ok (.getfield 53, 3) := by decide +kernel
theorem dX5_crash_81 : decode cX5_crash 81 = .ok (.bipush 64, 2) := by decide +kernel
theorem dX5_crash_83 : decode cX5_crash 83 = .ok (.iload_n 1, 1) := by decide +kernel
theorem dX5_crash_84 : decode cX5_crash 84 = .ok (.imul, 1) := by decide +kernel
theorem dX5_crash_85 : decode cX5_crash 85 = .ok (.aload_n 0, 1) := by decide +kernel
theorem dX5_crash_86 : decode cX5_crash 86 = .ok (.getfield 41, 3) := by decide +kernel
theorem dX5_crash_89 : decode cX5_crash 89 = .ok (.iload_n 1, 1) := by decide +kernel
theorem dX5_crash_90 : decode cX5_crash 90 = .ok (.iaload, 1) := by decide +kernel
theorem dX5_crash_91 : decode cX5_crash 91 = .ok (.iadd, 1) := by decide +kernel
theorem dX5_crash_92 : decode cX5_crash 92 = .ok (.iconst 1, 1) := by decide +kernel
theorem dX5_crash_93 : decode cX5_crash 93 = .ok (.isub, 1) := by decide +kernel
theorem dX5_crash_94 : decode cX5_crash 94 = .ok (.baload, 1) := by decide +kernel
theorem dX5_crash_95 : decode cX5_crash 95 = .ok (.ifCond .ne 19, 3) := by decide +kernel
theorem dX5_crash_98 : decode cX5_crash 98 = .ok (.aload_n 0, 1) := by decide +kernel
theorem dX5_crash_99 : decode cX5_crash 99 = .ok (.getfield 41, 3) := by decide +kernel
theorem dX5_crash_102 : decode cX5_crash 102 = .ok (.iload_n 1, 1) := by decide +kernel
theorem dX5_crash_103 : decode cX5_crash 103 = .ok (.dup2, 1) := by decide +kernel
theorem dX5_crash_104 : decode cX5_crash 104 = .ok (.iaload, 1) := by decide +kernel
theorem dX5_crash_105 : decode cX5_crash 105 = .ok (.iconst 1, 1) := by decide +kernel
theorem dX5_crash_106 : decode cX5_crash 106 = .ok (.isub, 1) := by decide +kernel
theorem dX5_crash_107 : decode cX5_crash 107 = .ok (.iastore, 1) := by decide +kernel
theorem dX5_crash_108 : decode cX5_crash 108 = .ok (.iinc 2 1, 3) := by decide +kernel
theorem dX5_crash_111 : decode cX5_crash 111 = .ok (.goto (-43), 3) := by decide +kernel
theorem dX5_crash_114 : decode cX5_crash 114 = .ok (.iload_n 2, 1) := by decide +kernel
theorem dX5_crash_115 : decode cX5_crash 115 = .ok (.ireturn, 1) := by decide +kernel
theorem dX5_recover_0 : decode cX5_recover 0 = .ok (.iload_n 1, 1) := by decide +kernel
theorem dX5_recover_1 : decode cX5_recover 1 = .ok (.invokestatic 122, 3) := by decide +kernel
theorem dX5_recover_4 : decode cX5_recover 4 = .ok (.ifCond .eq 6, 3) := by decide +kernel
theorem dX5_recover_7 : decode cX5_recover 7 = .ok (.bipush (-2), 2) := by decide +kernel
theorem dX5_recover_9 : decode cX5_recover 9 = .ok (.ireturn, 1) := by decide +kernel
theorem dX5_recover_10 : decode cX5_recover 10 = .ok (.aload_n 0, 1) := by decide +kernel
theorem dX5_recover_11 : decode cX5_recover 11 = .ok (.getfield 7, 3) := by decide +kernel
theorem dX5_recover_14 : decode cX5_recover 14 = .ok (.iload_n 1, 1) := by decide +kernel
theorem dX5_recover_15 : decode cX5_recover 15 = .ok (.baload, 1) := by decide +kernel
theorem dX5_recover_16 : decode cX5_recover 16 = .ok (.ifCond .ne 6, 3) := by decide +kernel
theorem dX5_recover_19 : decode cX5_recover 19 = .ok (.bipush (-4), 2) := by decide +kernel
theorem dX5_recover_21 : decode cX5_recover 21 = .ok (.ireturn, 1) := by decide +kernel
theorem dX5_recover_22 : decode cX5_recover 22 = .ok (.aload_n 0, 1) := by decide +kernel
theorem dX5_recover_23 : decode cX5_recover 23 = .ok (.getfield 7, 3) := by decide +kernel
theorem dX5_recover_26 : decode cX5_recover 26 = .ok (.iload_n 1, 1) := by decide +kernel
theorem dX5_recover_27 : decode cX5_recover 27 = .ok (.iconst 0, 1) := by decide +kernel
theorem dX5_recover_28 : decode cX5_recover 28 = .ok (.bastore, 1) := by decide +kernel
theorem dX5_recover_29 : decode cX5_recover 29 = .ok (.iconst 0, 1) := by decide +kernel
theorem dX5_recover_30 : decode cX5_recover 30 = .ok (.istore_n 2, 1) := by decide +kernel
theorem dX5_recover_31 : decode cX5_recover 31 = .ok (.iconst 0, 1) := by decide +kernel
theorem dX5_recover_32 : decode cX5_recover 32 = .ok (.istore_n 3, 1) := by decide +kernel
theorem dX5_recover_33 : decode cX5_recover 33 = .ok (.iload_n 3, 1) := by decide +kernel
theorem dX5_recover_34 : decode cX5_recover 34 = .ok (.aload_n 0, 1) := by decide +kernel
theorem dX5_recover_35 : decode cX5_recover 35 = .ok (.getfield 68, 3) := by decide +kernel
theorem dX5_recover_38 : decode cX5_recover 38 = .ok (.if_icmp .ge 27, 3) := by decide +kernel
theorem dX5_recover_41 : decode cX5_recover 41 = .ok (.iload_n 2, 1) := by decide +kernel
theorem dX5_recover_42 : decode cX5_recover 42 = .ok (.aload_n 0, 1) := by decide +kernel
theorem dX5_recover_43 : decode cX5_recover 43 = .ok (.iload_n 1, 1) := by decide +kernel
theorem dX5_recover_44 : decode cX5_recover 44 = .ok (.iload_n 3, 1) := by decide +kernel
theorem dX5_recover_45 : decode cX5_recover 45 = .ok (.invokevirtual 139, 3) := by decide +kernel
theorem dX5_recover_48 : decode cX5_recover 48 = .ok (.iadd, 1) := by decide +kernel
theorem dX5_recover_49 : decode cX5_recover 49 = .ok (.istore_n 2, 1) := by decide +kernel
theorem dX5_recover_50 : decode cX5_recover 50 = .ok (.iload_n 2, 1) := by decide +kernel
theorem dX5_recover_51 : decode cX5_recover 51 = .ok (.aload_n 0, 1) := by decide +kernel
theorem dX5_recover_52 : decode cX5_recover 52 = .ok (.iload_n 1, 1) := by decide +kernel
theorem dX5_recover_53 : decode cX5_recover 53 = .ok (.iload_n 3, 1) := by decide +kernel
theorem dX5_recover_54 : decode cX5_recover 54 = .ok (.invokevirtual 142, 3) := by decide +kernel
theorem dX5_recover_57 : decode cX5_recover 57 = .ok (.iadd, 1) := by decide +kernel
theorem dX5_recover_58 : decode cX5_recover 58 = .ok (.istore_n 2, 1) := by decide +kernel
theorem dX5_recover_59 : decode cX5_recover 59 = .ok (.iinc 3 1, 3) := by decide +kernel
theorem dX5_recover_62 : decode cX5_recover 62 = .ok (.goto (-29), 3) := by decide +kernel
theorem dX5_recover_65 : decode cX5_recover 65 = .ok (.iload_n 2, 1) := by decide +kernel
theorem dX5_recover_66 : decode cX5_recover 66 = .ok (.ireturn, 1) := by decide +kernel
theorem dX5_recoverMember_0 : decode cX5_recoverMember 0 = .ok (.aload_n 0, 1) := by decide +kernel
theorem dX5_recoverMember_1 : decode cX5_recoverMember 1 = .ok (.iload_n 1, 1) := by decide +kernel
theorem dX5_recoverMember_2 : decode cX5_recoverMember 2 = .ok (.iload_n 2, 1) := by decide +kernel
theorem dX5_recoverMember_3 : decode cX5_recoverMember 3 = .ok (.iconst 1, 1) := by decide +kernel
theorem dX5_recoverMember_4 : decode cX5_recoverMember 4 = .ok (.invokevirtual 135, 3) := by decide +kernel
theorem dX5_recoverMember_7 : decode cX5_recoverMember 7 = .ok (.istore_n 3, 1) := by decide +kernel
theorem dX5_recoverMember_8 : decode cX5_recoverMember 8 = .ok (.iload_n 3, 1) := by decide +kernel
theorem dX5_recoverMember_9 : decode cX5_recoverMember 9 = .ok (.ifCond .lt 23, 3) := by decide +kernel
theorem dX5_recoverMember_12 : decode cX5_recoverMember 12 = .ok (.aload_n 0, 1) := by decide +kernel
theorem dX5_recoverMember_13 : decode cX5_recoverMember 13 = .ok (.iload_n 1, 1) := by decide +kernel
theorem dX5_recoverMember_14 : decode cX5_recoverMember 14 = .ok (.iload_n 2, 1) := by decide +kernel
theorem dX5_recoverMember_15 : decode cX5_recoverMember 15 = .ok (.iconst 2, 1) := by decide +kernel
theorem dX5_recoverMember_16 : decode cX5_recoverMember 16 = .ok (.invokevirtual 135, 3) := by decide +kernel
theorem dX5_recoverMember_19 : decode cX5_recoverMember 19 = .ok (.ifCond .ge 13, 3) := by decide +kernel
theorem dX5_recoverMember_22 : decode cX5_recoverMember 22 = .ok (.aload_n 0, 1) := by decide +kernel
theorem dX5_recoverMember_23 : decode cX5_recoverMember 23 = .ok (.iload_n 1, 1) := by decide +kernel
theorem dX5_recoverMember_24 : decode cX5_recoverMember 24 = .ok (.iload_n 2, 1) := by decide +kernel
theorem dX5_recoverMember_25 : decode cX5_recoverMember 25 = .ok (.iconst 3, 1) := by decide +kernel
theorem dX5_recoverMember_26 : decode cX5_recoverMember 26 = .ok (.invokevirtual 135, 3) := by decide +kernel
theorem dX5_recoverMember_29 : decode cX5_recoverMember 29 = .ok (.ifCond .lt 5, 3) := by decide +kernel
theorem dX5_recoverMember_32 : decode cX5_recoverMember 32 = .ok (.iconst 0, 1) := by decide +kernel
theorem dX5_recoverMember_33 : decode cX5_recoverMember 33 = .ok (.ireturn, 1) := by decide +kernel
theorem dX5_recoverMember_34 : decode cX5_recoverMember 34 = .ok (.aload_n 0, 1) := by decide +kernel
theorem dX5_recoverMember_35 : decode cX5_recoverMember 35 = .ok (.getfield 35, 3) := by decide +kernel
theorem dX5_recoverMember_38 : decode cX5_recoverMember 38 = .ok (.iconst 4, 1) := by decide +kernel
theorem dX5_recoverMember_39 : decode cX5_recoverMember 39 = .ok (.iload_n 2, 1) := by decide +kernel
theorem dX5_recoverMember_40 : decode cX5_recoverMember 40 = .ok (.imul, 1) := by decide +kernel
theorem dX5_recoverMember_41 : decode cX5_recoverMember 41 = .ok (.iload_n 1, 1) := by decide +kernel
theorem dX5_recoverMember_42 : decode cX5_recoverMember 42 = .ok (.iadd, 1) := by decide +kernel
theorem dX5_recoverMember_43 : decode cX5_recoverMember 43 = .ok (.iconst 3, 1) := by decide +kernel
theorem dX5_recoverMember_44 : decode cX5_recoverMember 44 = .ok (.iastore, 1) := by decide +kernel
theorem dX5_recoverMember_45 : decode cX5_recoverMember 45 = .ok (.iconst 0, 1) := by decide +kernel
theorem dX5_recoverMember_46 : decode cX5_recoverMember 46 = .ok (.istore 4, 2) := by decide +kernel
theorem dX5_recoverMember_48 : decode cX5_recoverMember 48 = .ok (.iload 4, 2) := by decide +kernel
theorem dX5_recoverMember_50 : decode cX5_recoverMember 50 = .ok (.bipush 8, 2) := by decide +kernel
theorem dX5_recoverMember_52 : decode cX5_recoverMember 52 = .ok (.if_icmp .ge 54, 3) := by decide +kernel
theorem dX5_recoverMember_55 : decode cX5_recoverMember 55 = .ok (.aload_n 0, 1) := by decide +kernel
theorem dX5_recoverMember_56 : decode cX5_recoverMember 56 = .ok (.getfield 38, 3) := by decide +kernel
theorem dX5_recoverMember_59 : decode cX5_recoverMember 59 = .ok (.bipush 8, 2) := by decide +kernel
theorem dX5_recoverMember_61 : decode cX5_recoverMember 61 = .ok (.iload_n 1, 1) := by decide +kernel
theorem dX5_recoverMember_62 : decode cX5_recoverMember 62 = .ok (.imul, 1) := by decide +kernel
theorem dX5_recoverMember_63 : decode cX5_recoverMember 63 = .ok (.iload 4, 2) := by decide +kernel
theorem dX5_recoverMember_65 : decode cX5_recoverMember 65 = .ok (.iadd, 1) := by decide +kernel
theorem dX5_recoverMember_66 : decode cX5_recoverMember 66 = .ok (.aload_n 0, 1) := by decide +kernel
theorem dX5_recoverMember_67 : decode cX5_recoverMember 67 = .ok (.getfield 50, 3) := by decide +kernel
theorem dX5_recoverMember_70 : decode cX5_recoverMember 70 = .ok (.iload_n 3, 1) := by decide +kernel
theorem dX5_recoverMember_71 : decode cX5_recoverMember 71 = .ok (.iaload, 1) := by decide +kernel
theorem dX5_recoverMember_72 : decode cX5_recoverMember 72 = .ok (.iload 4, 2) := by decide +kernel
theorem dX5_recoverMember_74 : decode cX5_recoverMember 74 = .ok (.ishr, 1) := by decide +kernel
theorem dX5_recoverMember_75 : decode cX5_recoverMember 75 = .ok (.iconst 1, 1) := by decide +kernel
theorem dX5_recoverMember_76 : decode cX5_recoverMember 76 = .ok (.iand, 1) := by decide +kernel
theorem dX5_recoverMember_77 : decode cX5_recoverMember 77 = .ok (.iconst 1, 1) := by decide +kernel
theorem dX5_recoverMember_78 : decode cX5_recoverMember 78 = .ok (.if_icmp .ne 9, 3) := by decide +kernel
theorem dX5_recoverMember_81 : decode cX5_recoverMember 81 = .ok (.iload_n 2, 1) := by decide +kernel
theorem dX5_recoverMember_82 : decode cX5_recoverMember 82 = .ok (.iconst 1, 1) := by decide +kernel
theorem dX5_recoverMember_83 : decode cX5_recoverMember 83 = .ok (.iadd, 1) := by decide +kernel
theorem dX5_recoverMember_84 : decode cX5_recoverMember 84 = .ok (.goto 15, 3) := by decide +kernel
theorem dX5_recoverMember_87 : decode cX5_recoverMember 87 = .ok (.aload_n 0, 1) := by decide +kernel
theorem dX5_recoverMember_88 : decode cX5_recoverMember 88 = .ok (.getfield 38, 3) := by decide +kernel
theorem dX5_recoverMember_91 : decode cX5_recoverMember 91 = .ok (.bipush 8, 2) := by decide +kernel
theorem dX5_recoverMember_93 : decode cX5_recoverMember 93 = .ok (.iload_n 1, 1) := by decide +kernel
theorem dX5_recoverMember_94 : decode cX5_recoverMember 94 = .ok (.imul, 1) := by decide +kernel
theorem dX5_recoverMember_95 : decode cX5_recoverMember 95 = .ok (.iload 4, 2) := by decide +kernel
theorem dX5_recoverMember_97 : decode cX5_recoverMember 97 = .ok (.iadd, 1) := by decide +kernel
theorem dX5_recoverMember_98 : decode cX5_recoverMember 98 = .ok (.iaload, 1) := by decide +kernel
theorem dX5_recoverMember_99 : decode cX5_recoverMember 99 = .ok (.iastore, 1) := by decide +kernel
theorem dX5_recoverMember_100 : decode cX5_recoverMember 100 = .ok (.iinc 4 1, 3) := by decide +kernel
theorem dX5_recoverMember_103 : decode cX5_recoverMember 103 = .ok (.goto (-55), 3) := by decide +kernel
theorem dX5_recoverMember_106 : decode cX5_recoverMember 106 = .ok (.iconst 1, 1) := by decide +kernel
theorem dX5_recoverMember_107 : decode cX5_recoverMember 107 = .ok (.ireturn, 1) := by decide +kernel
theorem dX5_logged_0 : decode cX5_logged 0 = .ok (.iconst 0, 1) := by decide +kernel
theorem dX5_logged_1 : decode cX5_logged 1 = .ok (.istore 4, 2) := by decide +kernel
theorem dX5_logged_3 : decode cX5_logged 3 = .ok (.iload 4, 2) := by decide +kernel
theorem dX5_logged_5 : decode cX5_logged 5 = .ok (.aload_n 0, 1) := by decide +kernel
theorem dX5_logged_6 : decode cX5_logged 6 = .ok (.getfield 41, 3) := by decide +kernel
theorem dX5_logged_9 : decode cX5_logged 9 = .ok (.iload_n 1, 1) := by decide +kernel
theorem dX5_logged_10 : decode cX5_logged 10 = .ok (.iaload, 1) := by decide +kernel
theorem dX5_logged_11 : decode cX5_logged 11 = .ok (.if_icmp .ge 49, 3) := by decide +kernel
theorem dX5_logged_14 : decode cX5_logged 14 = .ok (.aload_n 0, 1) := by decide +kernel
theorem dX5_logged_15 : decode cX5_logged 15 = .ok (.getfield 44, 3) := by decide +kernel
theorem dX5_logged_18 : decode cX5_logged 18 = .ok (.bipush 64, 2) := by decide +kernel
theorem dX5_logged_20 : decode cX5_logged 20 = .ok (.iload_n 1, 1) := by decide +kernel
theorem dX5_logged_21 : decode cX5_logged 21 = .ok (.imul, 1) := by decide +kernel
theorem dX5_logged_22 : decode cX5_logged 22 = .ok (.iload 4, 2) := by decide +kernel
theorem dX5_logged_24 : decode cX5_logged 24 = .ok (.iadd, 1) := by decide +kernel
theorem dX5_logged_25 : decode cX5_logged 25 = .ok (.iaload, 1) := by decide +kernel
theorem dX5_logged_26 : decode cX5_logged 26 = .ok (.iload_n 2, 1) := by decide +kernel
theorem dX5_logged_27 : decode cX5_logged 27 = .ok (.if_icmp .ne 27, 3) := by decide +kernel
theorem dX5_logged_30 : decode cX5_logged 30 = .ok (.aload_n 0, 1) := by decide +kernel
theorem dX5_logged_31 : decode cX5_logged 31 = .ok (.getfield 47, 3) := by decide +kernel
theorem dX5_logged_34 : decode cX5_logged 34 = .ok (.bipush 64, 2) := by decide +kernel
theorem dX5_logged_36 : decode cX5_logged 36 = .ok (.iload_n 1, 1) := by decide +kernel
theorem dX5_logged_37 : decode cX5_logged 37 = .ok (.imul, 1) := by decide +kernel
theorem dX5_logged_38 : decode cX5_logged 38 = .ok (.iload 4, 2) := by decide +kernel
theorem dX5_logged_40 : decode cX5_logged 40 = .ok (.iadd, 1) := by decide +kernel
theorem dX5_logged_41 : decode cX5_logged 41 = .ok (.iaload, 1) := by decide +kernel
theorem dX5_logged_42 : decode cX5_logged 42 = .ok (.iload_n 3, 1) := by decide +kernel
theorem dX5_logged_43 : decode cX5_logged 43 = .ok (.if_icmp .ne 11, 3) := by decide +kernel
theorem dX5_logged_46 : decode cX5_logged 46 = .ok (.bipush 64, 2) := by decide +kernel
theorem dX5_logged_48 : decode cX5_logged 48 = .ok (.iload_n 1, 1) := by decide +kernel
theorem dX5_logged_49 : decode cX5_logged 49 = .ok (.imul, 1) := by decide +kernel
theorem dX5_logged_50 : decode cX5_logged 50 = .ok (.iload 4, 2) := by decide +kernel
theorem dX5_logged_52 : decode cX5_logged 52 = .ok (.iadd, 1) := by decide +kernel
theorem dX5_logged_53 : decode cX5_logged 53 = .ok (.ireturn, 1) := by decide +kernel
theorem dX5_logged_54 : decode cX5_logged 54 = .ok (.iinc 4 1, 3) := by decide +kernel
theorem dX5_logged_57 : decode cX5_logged 57 = .ok (.goto (-54), 3) := by decide +kernel
theorem dX5_logged_60 : decode cX5_logged 60 = .ok (.iconst (-1), 1) := by decide +kernel
theorem dX5_logged_61 : decode cX5_logged 61 = .ok (.ireturn, 1) := by decide +kernel
theorem dX5_recoverChief_0 : decode cX5_recoverChief 0 = .ok (.aload_n 0, 1) := by decide +kernel
theorem dX5_recoverChief_1 : decode cX5_recoverChief 1 = .ok (.iload_n 1, 1) := by decide +kernel
theorem dX5_recoverChief_2 : decode cX5_recoverChief 2 = .ok (.iload_n 2, 1) := by decide +kernel
theorem dX5_recoverChief_3 : decode cX5_recoverChief 3 = .ok (.iconst 4, 1) := by decide +kernel
theorem dX5_recoverChief_4 : decode cX5_recoverChief 4 = .ok (.invokevirtual 135, 3) := by decide +kernel
theorem dX5_recoverChief_7 : decode cX5_recoverChief 7 = .ok (.istore_n 3, 1) := by decide +kernel
theorem dX5_recoverChief_8 : decode cX5_recoverChief 8 = .ok (.iload_n 3, 1) := by decide +kernel
theorem dX5_recoverChief_9 : decode cX5_recoverChief 9 = .ok (.ifCond .lt 14, 3) := by decide +kernel
theorem dX5_recoverChief_12 : decode cX5_recoverChief 12 = .ok (.aload_n 0, 1) := by decide +kernel
theorem dX5_recoverChief_13 : decode cX5_recoverChief 13 = .ok (.iload_n 1, 1) := by decide +kernel
theorem dX5_recoverChief_14 : decode cX5_recoverChief 14 = .ok (.iload_n 2, 1) := by decide +kernel
theorem dX5_recoverChief_15 : decode cX5_recoverChief 15 = .ok (.bipush 6, 2) := by decide +kernel
theorem dX5_recoverChief_17 : decode cX5_recoverChief 17 = .ok (.invokevirtual 135, 3) := by decide +kernel
theorem dX5_recoverChief_20 : decode cX5_recoverChief 20 = .ok (.ifCond .lt 5, 3) := by decide +kernel
theorem dX5_recoverChief_23 : decode cX5_recoverChief 23 = .ok (.iconst 0, 1) := by decide +kernel
theorem dX5_recoverChief_24 : decode cX5_recoverChief 24 = .ok (.ireturn, 1) := by decide +kernel
theorem dX5_recoverChief_25 : decode cX5_recoverChief 25 = .ok (.aload_n 0, 1) := by decide +kernel
theorem dX5_recoverChief_26 : decode cX5_recoverChief 26 = .ok (.getfield 20, 3) := by decide +kernel
theorem dX5_recoverChief_29 : decode cX5_recoverChief 29 = .ok (.iload_n 2, 1) := by decide +kernel
theorem dX5_recoverChief_30 : decode cX5_recoverChief 30 = .ok (.iconst 3, 1) := by decide +kernel
theorem dX5_recoverChief_31 : decode cX5_recoverChief 31 = .ok (.iastore, 1) := by decide +kernel
theorem dX5_recoverChief_32 : decode cX5_recoverChief 32 = .ok (.iconst 0, 1) := by decide +kernel
theorem dX5_recoverChief_33 : decode cX5_recoverChief 33 = .ok (.istore 4, 2) := by decide +kernel
theorem dX5_recoverChief_35 : decode cX5_recoverChief 35 = .ok (.iload 4, 2) := by decide +kernel
theorem dX5_recoverChief_37 : decode cX5_recoverChief 37 = .ok (.iconst 4, 1) := by decide +kernel
theorem dX5_recoverChief_38 : decode cX5_recoverChief 38 = .ok (.if_icmp .ge 70, 3) := by decide +kernel
theorem dX5_recoverChief_41 : decode cX5_recoverChief 41 = .ok (.aload_n 0, 1) := by decide +kernel
theorem dX5_recoverChief_42 : decode cX5_recoverChief 42 = .ok (.getfield 50, 3) := by decide +kernel
theorem dX5_recoverChief_45 : decode cX5_recoverChief 45 = .ok (.iload_n 3, 1) := by decide +kernel
theorem dX5_recoverChief_46 : decode cX5_recoverChief 46 = .ok (.iaload, 1) := by decide +kernel
theorem dX5_recoverChief_47 : decode cX5_recoverChief 47 = .ok (.iload 4, 2) := by decide +kernel
theorem dX5_recoverChief_49 : decode cX5_recoverChief 49 = .ok (.ishr, 1) := by decide +kernel
theorem dX5_recoverChief_50 : decode cX5_recoverChief 50 = .ok (.iconst 1, 1) := by decide +kernel
theorem dX5_recoverChief_51 : decode cX5_recoverChief 51 = .ok (.iand, 1) := by decide +kernel
theorem dX5_recoverChief_52 : decode cX5_recoverChief 52 = .ok (.iconst 1, 1) := by decide +kernel
theorem dX5_recoverChief_53 : decode cX5_recoverChief 53 = .ok (.if_icmp .ne 7, 3) := by decide +kernel
theorem dX5_recoverChief_56 : decode cX5_recoverChief 56 = .ok (.iconst 1, 1) := by decide +kernel
theorem dX5_recoverChief_57 : decode cX5_recoverChief 57 = .ok (.goto 4, 3) := by decide +kernel
theorem dX5_recoverChief_60 : decode cX5_recoverChief 60 = .ok (.iconst 0, 1) := by decide +kernel
theorem dX5_recoverChief_61 : decode cX5_recoverChief 61 = .ok (.istore 5, 2) := by decide +kernel
theorem dX5_recoverChief_63 : decode cX5_recoverChief 63 = .ok (.aload_n 0, 1) := by decide +kernel
theorem dX5_recoverChief_64 : decode cX5_recoverChief 64 = .ok (.getfield 23, 3) := by decide +kernel
theorem dX5_recoverChief_67 : decode cX5_recoverChief 67 = .ok (.iconst 4, 1) := by decide +kernel
theorem dX5_recoverChief_68 : decode cX5_recoverChief 68 = .ok (.iload_n 2, 1) := by decide +kernel
theorem dX5_recoverChief_69 : decode cX5_recoverChief 69 = .ok (.imul, 1) := by decide +kernel
theorem dX5_recoverChief_70 : decode cX5_recoverChief 70 = .ok (.iload 4, 2) := by decide +kernel
theorem dX5_recoverChief_72 : decode cX5_recoverChief 72 = .ok (.iadd, 1) := by decide +kernel
theorem dX5_recoverChief_73 : decode cX5_recoverChief 73 = .ok (.iload 5, 2) := by decide +kernel
theorem dX5_recoverChief_75 : decode cX5_recoverChief 75 = .ok (.bastore, 1) := by decide +kernel
theorem dX5_recoverChief_76 : decode cX5_recoverChief 76 = .ok (.aload_n 0, 1) := by decide +kernel
theorem dX5_recoverChief_77 : decode cX5_recoverChief 77 = .ok (.getfield 26, 3) := by decide +kernel
theorem dX5_recoverChief_80 : decode cX5_recoverChief 80 = .ok (.iconst 4, 1) := by decide +kernel
theorem dX5_recoverChief_81 : decode cX5_recoverChief 81 = .ok (.iload_n 2, 1) := by decide +kernel
theorem dX5_recoverChief_82 : decode cX5_recoverChief 82 = .ok (.imul, 1) := by decide +kernel
theorem dX5_recoverChief_83 : decode cX5_recoverChief 83 = .ok (.iload 4, 2) := by decide +kernel
theorem dX5_recoverChief_85 : decode cX5_recoverChief 85 = .ok (.iadd, 1) := by decide +kernel
theorem dX5_recoverChief_86 : decode cX5_recoverChief 86 = .ok (.iload 5, 2) := by decide +kernel
theorem dX5_recoverChief_88 : decode cX5_recoverChief 88 = .ok (.bastore, 1) := by decide +kernel
theorem dX5_recoverChief_89 : decode cX5_recoverChief 89 = .ok (.aload_n 0, 1) := by decide +kernel
theorem dX5_recoverChief_90 : decode cX5_recoverChief 90 = .ok (.getfield 32, 3) := by decide +kernel
theorem dX5_recoverChief_93 : decode cX5_recoverChief 93 = .ok (.iconst 4, 1) := by decide +kernel
theorem dX5_recoverChief_94 : decode cX5_recoverChief 94 = .ok (.iload_n 2, 1) := by decide +kernel
theorem dX5_recoverChief_95 : decode cX5_recoverChief 95 = .ok (.imul, 1) := by decide +kernel
theorem dX5_recoverChief_96 : decode cX5_recoverChief 96 = .ok (.iload 4, 2) := by decide +kernel
theorem dX5_recoverChief_98 : decode cX5_recoverChief 98 = .ok (.iadd, 1) := by decide +kernel
theorem dX5_recoverChief_99 : decode cX5_recoverChief 99 = .ok (.iload 5, 2) := by decide +kernel
theorem dX5_recoverChief_101 : decode cX5_recoverChief 101 = .ok (.bastore, 1) := by decide +kernel
theorem dX5_recoverChief_102 : decode cX5_recoverChief 102 = .ok (.iinc 4 1, 3) := by decide +kernel
theorem dX5_recoverChief_105 : decode cX5_recoverChief 105 = .ok (.goto (-70), 3) := by decide +kernel
theorem dX5_recoverChief_108 : decode cX5_recoverChief 108 = .ok (.aload_n 0, 1) := by decide +kernel
theorem dX5_recoverChief_109 : decode cX5_recoverChief 109 = .ok (.iload_n 2, 1) := by decide +kernel
theorem dX5_recoverChief_110 : decode cX5_recoverChief 110 = .ok (.invokevirtual 97, 3) := by decide +kernel
theorem dX5_recoverChief_113 : decode cX5_recoverChief 113 = .ok (.iconst 1, 1) := by decide +kernel
theorem dX5_recoverChief_114 : decode cX5_recoverChief 114 = .ok (.ireturn, 1) := by decide +kernel
theorem dX5_up_0 : decode cX5_up 0 = .ok (.iload_n 1, 1) := by decide +kernel
theorem dX5_up_1 : decode cX5_up 1 = .ok (.invokestatic 122, 3) := by decide +kernel
theorem dX5_up_4 : decode cX5_up 4 = .ok (.ifCond .ne 16, 3) := by decide +kernel
theorem dX5_up_7 : decode cX5_up 7 = .ok (.aload_n 0, 1) := by decide +kernel
theorem dX5_up_8 : decode cX5_up 8 = .ok (.getfield 7, 3) := by decide +kernel
theorem dX5_up_11 : decode cX5_up 11 = .ok (.iload_n 1, 1) := by decide +kernel
theorem dX5_up_12 : decode cX5_up 12 = .ok (.baload, 1) := by decide +kernel
theorem dX5_up_13 : decode cX5_up 13 = .ok (.ifCond .ne 7, 3) := by decide +kernel
theorem dX5_up_16 : decode cX5_up 16 = .ok (.iconst 1, 1) := by decide +kernel
theorem dX5_up_17 : decode cX5_up 17 = .ok (.goto 4, 3) := by decide +kernel
theorem dX5_up_20 : decode cX5_up 20 = .ok (.iconst 0, 1) := by decide +kernel
theorem dX5_up_21 : decode cX5_up 21 = .ok (.ireturn, 1) := by decide +kernel
theorem dX5_stage_0 : decode cX5_stage 0 = .ok (.aload_n 0, 1) := by decide +kernel
theorem dX5_stage_1 : decode cX5_stage 1 = .ok (.iload_n 1, 1) := by decide +kernel
theorem dX5_stage_2 : decode cX5_stage 2 = .ok (.invokevirtual 126, 3) := by decide +kernel
theorem dX5_stage_5 : decode cX5_stage 5 = .ok (.ifCond .eq 8, 3) := by decide +kernel
theorem dX5_stage_8 : decode cX5_stage 8 = .ok (.bipush (-2), 2) := by decide +kernel
theorem dX5_stage_10 : decode cX5_stage 10 = .ok (.goto 9, 3) := by decide +kernel
theorem dX5_stage_13 : decode cX5_stage 13 = .ok (.aload_n 0, 1) := by decide +kernel
theorem dX5_stage_14 : decode cX5_stage 14 = .ok (.getfield 20, 3) := by decide +kernel
theorem dX5_stage_17 : decode cX5_stage 17 = .ok (.iload_n 1, 1) := by decide +kernel
theorem dX5_stage_18 : decode cX5_stage 18 = .ok (.iaload, 1) := by decide +kernel
theorem dX5_stage_19 : decode cX5_stage 19 = .ok (.ireturn, 1) := by decide +kernel
theorem dX5_nodes_0 : decode cX5_nodes 0 = .ok (.aload_n 0, 1) := by decide +kernel
theorem dX5_nodes_1 : decode cX5_nodes 1 = .ok (.iload_n 1, 1) := by decide +kernel
theorem dX5_nodes_2 : decode cX5_nodes 2 = .ok (.invokevirtual 126, 3) := by decide +kernel
theorem dX5_nodes_5 : decode cX5_nodes 5 = .ok (.ifCond .ne 12, 3) := by decide +kernel
theorem dX5_nodes_8 : decode cX5_nodes 8 = .ok (.iload_n 2, 1) := by decide +kernel
theorem dX5_nodes_9 : decode cX5_nodes 9 = .ok (.ifCond .lt 8, 3) := by decide +kernel
theorem dX5_nodes_12 : decode cX5_nodes 12 = .ok (.iload_n 2, 1) := by decide +kernel
theorem dX5_nodes_13 : decode cX5_nodes 13 = .ok (.iconst 3, 1) := by decide +kernel
theorem dX5_nodes_14 : decode cX5_nodes 14 = .ok (.if_icmp .le 8, 3) := by decide +kernel
theorem dX5_nodes_17 : decode cX5_nodes 17 = .ok (.bipush (-2), 2) := by decide +kernel
theorem dX5_nodes_19 : decode cX5_nodes 19 = .ok (.goto 9, 3) := by decide +kernel
theorem dX5_nodes_22 : decode cX5_nodes 22 = .ok (.aload_n 0, 1) := by decide +kernel
theorem dX5_nodes_23 : decode cX5_nodes 23 = .ok (.iload_n 1, 1) := by decide +kernel
theorem dX5_nodes_24 : decode cX5_nodes 24 = .ok (.iload_n 2, 1) := by decide +kernel
theorem dX5_nodes_25 : decode cX5_nodes 25 = .ok (.invokevirtual 90, 3) := by decide +kernel
theorem dX5_nodes_28 : decode cX5_nodes 28 = .ok (.ireturn, 1) := by decide +kernel
theorem dX5_state_0 : decode cX5_state 0 = .ok (.iload_n 1, 1) := by decide +kernel
theorem dX5_state_1 : decode cX5_state 1 = .ok (.invokestatic 122, 3) := by decide +kernel
theorem dX5_state_4 : decode cX5_state 4 = .ok (.ifCond .ne 11, 3) := by decide +kernel
theorem dX5_state_7 : decode cX5_state 7 = .ok (.aload_n 0, 1) := by decide +kernel
theorem dX5_state_8 : decode cX5_state 8 = .ok (.iload_n 2, 1) := by decide +kernel
theorem dX5_state_9 : decode cX5_state 9 = .ok (.invokevirtual 126, 3) := by decide +kernel
theorem dX5_state_12 : decode cX5_state 12 = .ok (.ifCond .eq 8, 3) := by decide +kernel
theorem dX5_state_15 : decode cX5_state 15 = .ok (.bipush (-2), 2) := by decide +kernel
theorem dX5_state_17 : decode cX5_state 17 = .ok (.goto 13, 3) := by decide +kernel
theorem dX5_state_20 : decode cX5_state 20 = .ok (.aload_n 0, 1) := by decide +kernel
theorem dX5_state_21 : decode cX5_state 21 = .ok (.getfield 35, 3) := by decide +kernel
theorem dX5_state_24 : decode cX5_state 24 = .ok (.iconst 4, 1) := by decide +kernel
theorem dX5_state_25 : decode cX5_state 25 = .ok (.iload_n 2, 1) := by decide +kernel
theorem dX5_state_26 : decode cX5_state 26 = .ok (.imul, 1) := by decide +kernel
theorem dX5_state_27 : decode cX5_state 27 = .ok (.iload_n 1, 1) := by decide +kernel
theorem dX5_state_28 : decode cX5_state 28 = .ok (.iadd, 1) := by decide +kernel
theorem dX5_state_29 : decode cX5_state 29 = .ok (.iaload, 1) := by decide +kernel
theorem dX5_state_30 : decode cX5_state 30 = .ok (.ireturn, 1) := by decide +kernel
theorem dX5_holder_0 : decode cX5_holder 0 = .ok (.iload_n 1, 1) := by decide +kernel
theorem dX5_holder_1 : decode cX5_holder 1 = .ok (.invokestatic 122, 3) := by decide +kernel
theorem dX5_holder_4 : decode cX5_holder 4 = .ok (.ifCond .ne 13, 3) := by decide +kernel
theorem dX5_holder_7 : decode cX5_holder 7 = .ok (.iload_n 2, 1) := by decide +kernel
theorem dX5_holder_8 : decode cX5_holder 8 = .ok (.ifCond .lt 9, 3) := by decide +kernel
theorem dX5_holder_11 : decode cX5_holder 11 = .ok (.iload_n 2, 1) := by decide +kernel
theorem dX5_holder_12 : decode cX5_holder 12 = .ok (.bipush 7, 2) := by decide +kernel
theorem dX5_holder_14 : decode cX5_holder 14 = .ok (.if_icmp .le 8, 3) := by decide +kernel
theorem dX5_holder_17 : decode cX5_holder 17 = .ok (.bipush (-2), 2) := by decide +kernel
theorem dX5_holder_19 : decode cX5_holder 19 = .ok (.goto 16, 3) := by decide +kernel
theorem dX5_holder_22 : decode cX5_holder 22 = .ok (.aload_n 0, 1) := by decide +kernel
theorem dX5_holder_23 : decode cX5_holder 23 = .ok (.getfield 38, 3) := by decide +kernel
theorem dX5_holder_26 : decode cX5_holder 26 = .ok (.bipush 8, 2) := by decide +kernel
theorem dX5_holder_28 : decode cX5_holder 28 = .ok (.iload_n 1, 1) := by decide +kernel
theorem dX5_holder_29 : decode cX5_holder 29 = .ok (.imul, 1) := by decide +kernel
theorem dX5_holder_30 : decode cX5_holder 30 = .ok (.iload_n 2, 1) := by decide +kernel
theorem dX5_holder_31 : decode cX5_holder 31 = .ok (.iadd, 1) := by decide +kernel
theorem dX5_holder_32 : decode cX5_holder 32 = .ok (.iaload, 1) := by decide +kernel
theorem dX5_holder_33 : decode cX5_holder 33 = .ok (.iconst 1, 1) := by decide +kernel
theorem dX5_holder_34 : decode cX5_holder 34 = .ok (.isub, 1) := by decide +kernel
theorem dX5_holder_35 : decode cX5_holder 35 = .ok (.ireturn, 1) := by decide +kernel
theorem dX5_records_0 : decode cX5_records 0 = .ok (.iload_n 1, 1) := by decide +kernel
theorem dX5_records_1 : decode cX5_records 1 = .ok (.invokestatic 122, 3) := by decide +kernel
theorem dX5_records_4 : decode cX5_records 4 = .ok (.ifCond .eq 6, 3) := by decide +kernel
theorem dX5_records_7 : decode cX5_records 7 = .ok (.bipush (-2), 2) := by decide +kernel
theorem dX5_records_9 : decode cX5_records 9 = .ok (.ireturn, 1) := by decide +kernel
theorem dX5_records_10 : decode cX5_records 10 = .ok (.iconst 0, 1) := by decide +kernel
theorem dX5_records_11 : decode cX5_records 11 = .ok (.istore_n 3, 1) := by decide +kernel
theorem dX5_records_12 : decode cX5_records 12 = .ok (.iconst 0, 1) := by decide +kernel
theorem dX5_records_13 : decode cX5_records 13 = .ok (.istore 4, 2) := by decide +kernel
theorem dX5_records_15 : decode cX5_records 15 = .ok (.iload 4, 2) := by decide +kernel
theorem dX5_records_17 : decode cX5_records 17 = .ok (.aload_n 0, 1) := by decide +kernel
theorem dX5_records_18 : decode cX5_records 18 = .ok (.getfield 41, 3) := by decide +kernel
theorem dX5_records_21 : decode cX5_records 21 = .ok (.iload_n 1, 1) := by decide +kernel
theorem dX5_records_22 : decode cX5_records 22 = .ok (.iaload, 1) := by decide +kernel
theorem dX5_records_23 : decode cX5_records 23 = .ok (.if_icmp .ge 36, 3) := by decide +kernel
theorem dX5_records_26 : decode cX5_records 26 = .ok (.iload_n 2, 1) := by decide +kernel
theorem dX5_records_27 : decode cX5_records 27 = .ok (.ifCond .eq 18, 3) := by decide +kernel
theorem dX5_records_30 : decode cX5_records 30 = .ok (.aload_n 0, 1) := by decide +kernel
theorem dX5_records_31 : decode cX5_records 31 = .ok (.getfield 53, 3) := by decide +kernel
theorem dX5_records_34 : decode cX5_records 34 = .ok (.bipush 64, 2) := by decide +kernel
theorem dX5_records_36 : decode cX5_records 36 = .ok (.iload_n 1, 1) := by decide +kernel
theorem dX5_records_37 : decode cX5_records 37 = .ok (.imul, 1) := by decide +kernel
theorem dX5_records_38 : decode cX5_records 38 = .ok (.iload 4, 2) := by decide +kernel
theorem dX5_records_40 : decode cX5_records 40 = .ok (.iadd, 1) := by decide +kernel
theorem dX5_records_41 : decode cX5_records 41 = .ok (.baload, 1) := by decide +kernel
theorem dX5_records_42 : decode cX5_records 42 = .ok (.ifCond .eq 9, 3) := by decide +kernel
theorem dX5_records_45 : decode cX5_records 45 = .ok (.iload_n 3, 1) := by decide +kernel
theorem dX5_records_46 : decode cX5_records 46 = .ok (.iconst 1, 1) := by decide +kernel
theorem dX5_records_47 : decode cX5_records 47 = .ok (.iadd, 1) := by decide +kernel
theorem dX5_records_48 : decode cX5_records 48 = .ok (.goto 4, 3) := by decide +kernel
theorem dX5_records_51 : decode cX5_records 51 = .ok (.iload_n 3, 1) := by decide +kernel
theorem dX5_records_52 : decode cX5_records 52 = .ok (.istore_n 3, 1) := by decide +kernel
theorem dX5_records_53 : decode cX5_records 53 = .ok (.iinc 4 1, 3) := by decide +kernel
theorem dX5_records_56 : decode cX5_records 56 = .ok (.goto (-41), 3) := by decide +kernel
theorem dX5_records_59 : decode cX5_records 59 = .ok (.iload_n 3, 1) := by decide +kernel
theorem dX5_records_60 : decode cX5_records 60 = .ok (.ireturn, 1) := by decide +kernel
theorem dX5_entry_0 : decode cX5_entry 0 = .ok (.iload_n 1, 1) := by decide +kernel
theorem dX5_entry_1 : decode cX5_entry 1 = .ok (.invokestatic 122, 3) := by decide +kernel
theorem dX5_entry_4 : decode cX5_entry 4 = .ok (.ifCond .eq 6, 3) := by decide +kernel
theorem dX5_entry_7 : decode cX5_entry 7 = .ok (.bipush (-2), 2) := by decide +kernel
theorem dX5_entry_9 : decode cX5_entry 9 = .ok (.ireturn, 1) := by decide +kernel
theorem dX5_entry_10 : decode cX5_entry 10 = .ok (.aload_n 0, 1) := by decide +kernel
theorem dX5_entry_11 : decode cX5_entry 11 = .ok (.iload_n 1, 1) := by decide +kernel
theorem dX5_entry_12 : decode cX5_entry 12 = .ok (.iload_n 2, 1) := by decide +kernel
theorem dX5_entry_13 : decode cX5_entry 13 = .ok (.invokevirtual 145, 3) := by decide +kernel
theorem dX5_entry_16 : decode cX5_entry 16 = .ok (.ifCond .eq 32, 3) := by decide +kernel
theorem dX5_entry_19 : decode cX5_entry 19 = .ok (.bipush 10, 2) := by decide +kernel
theorem dX5_entry_21 : decode cX5_entry 21 = .ok (.aload_n 0, 1) := by decide +kernel
theorem dX5_entry_22 : decode cX5_entry 22 = .ok (.getfield 44, 3) := by decide +kernel
theorem dX5_entry_25 : decode cX5_entry 25 = .ok (.bipush 64, 2) := by decide +kernel
theorem dX5_entry_27 : decode cX5_entry 27 = .ok (.iload_n 1, 1) := by decide +kernel
theorem dX5_entry_28 : decode cX5_entry 28 = .ok (.imul, 1) := by decide +kernel
theorem dX5_entry_29 : decode cX5_entry 29 = .ok (.iload_n 2, 1) := by decide +kernel
theorem dX5_entry_30 : decode cX5_entry 30 = .ok (.iadd, 1) := by decide +kernel
theorem dX5_entry_31 : decode cX5_entry 31 = .ok (.iaload, 1) := by decide +kernel
theorem dX5_entry_32 : decode cX5_entry 32 = .ok (.imul, 1) := by decide +kernel
theorem dX5_entry_33 : decode cX5_entry 33 = .ok (.aload_n 0, 1) := by decide +kernel
theorem dX5_entry_34 : decode cX5_entry 34 = .ok (.getfield 47, 3) := by decide +kernel
theorem dX5_entry_37 : decode cX5_entry 37 = .ok (.bipush 64, 2) := by decide +kernel
theorem dX5_entry_39 : decode cX5_entry 39 = .ok (.iload_n 1, 1) := by decide +kernel
theorem dX5_entry_40 : decode cX5_entry 40 = .ok (.imul, 1) := by decide +kernel
theorem dX5_entry_41 : decode cX5_entry 41 = .ok (.iload_n 2, 1) := by decide +kernel
theorem dX5_entry_42 : decode cX5_entry 42 = .ok (.iadd, 1) := by decide +kernel
theorem dX5_entry_43 : decode cX5_entry 43 = .ok (.iaload, 1) := by decide +kernel
theorem dX5_entry_44 : decode cX5_entry 44 = .ok (.iadd, 1) := by decide +kernel
theorem dX5_entry_45 : decode cX5_entry 45 = .ok (.goto 4, 3) := by decide +kernel
theorem dX5_entry_48 : decode cX5_entry 48 = .ok (.iconst (-1), 1) := by decide +kernel
theorem dX5_entry_49 : decode cX5_entry 49 = .ok (.ireturn, 1) := by decide +kernel
theorem dX5_isRecord_0 : decode cX5_isRecord 0 = .ok (.iload_n 2, 1) := by decide +kernel
theorem dX5_isRecord_1 : decode cX5_isRecord 1 = .ok (.ifCond .lt 17, 3) := by decide +kernel
theorem dX5_isRecord_4 : decode cX5_isRecord 4 = .ok (.iload_n 2, 1) := by decide +kernel
theorem dX5_isRecord_5 : decode cX5_isRecord 5 = .ok (.aload_n 0, 1) := by decide +kernel
theorem dX5_isRecord_6 : decode cX5_isRecord 6 = .ok (.getfield 41, 3) := by decide +kernel
theorem dX5_isRecord_9 : decode cX5_isRecord 9 = .ok (.iload_n 1, 1) := by decide +kernel
theorem dX5_isRecord_10 : decode cX5_isRecord 10 = .ok (.iaload, 1) := by decide +kernel
theorem dX5_isRecord_11 : decode cX5_isRecord 11 = .ok (.if_icmp .ge 7, 3) := by decide +kernel
theorem dX5_isRecord_14 : decode cX5_isRecord 14 = .ok (.iconst 1, 1) := by decide +kernel
theorem dX5_isRecord_15 : decode cX5_isRecord 15 = .ok (.goto 4, 3) := by decide +kernel
theorem dX5_isRecord_18 : decode cX5_isRecord 18 = .ok (.iconst 0, 1) := by decide +kernel
theorem dX5_isRecord_19 : decode cX5_isRecord 19 = .ok (.ireturn, 1) := by decide +kernel
theorem dX5_content_0 : decode cX5_content 0 = .ok (.iload_n 1, 1) := by decide +kernel
theorem dX5_content_1 : decode cX5_content 1 = .ok (.invokestatic 122, 3) := by decide +kernel
theorem dX5_content_4 : decode cX5_content 4 = .ok (.ifCond .eq 6, 3) := by decide +kernel
theorem dX5_content_7 : decode cX5_content 7 = .ok (.bipush (-2), 2) := by decide +kernel
theorem dX5_content_9 : decode cX5_content 9 = .ok (.ireturn, 1) := by decide +kernel
theorem dX5_content_10 : decode cX5_content 10 = .ok (.aload_n 0, 1) := by decide +kernel
theorem dX5_content_11 : decode cX5_content 11 = .ok (.iload_n 1, 1) := by decide +kernel
theorem dX5_content_12 : decode cX5_content 12 = .ok (.iload_n 2, 1) := by decide +kernel
theorem dX5_content_13 : decode cX5_content 13 = .ok (.invokevirtual 145, 3) := by decide +kernel
theorem dX5_content_16 : decode cX5_content 16 = .ok (.ifCond .eq 17, 3) := by decide +kernel
theorem dX5_content_19 : decode cX5_content 19 = .ok (.aload_n 0, 1) := by decide +kernel
theorem dX5_content_20 : decode cX5_content 20 = .ok (.getfield 50, 3) := by decide +kernel
theorem dX5_content_23 : decode cX5_content 23 = .ok (.bipush 64, 2) := by decide +kernel
theorem dX5_content_25 : decode cX5_content 25 = .ok (.iload_n 1, 1) := by decide +kernel
theorem dX5_content_26 : decode cX5_content 26 = .ok (.imul, 1) := by decide +kernel
theorem dX5_content_27 : decode cX5_content 27 = .ok (.iload_n 2, 1) := by decide +kernel
theorem dX5_content_28 : decode cX5_content 28 = .ok (.iadd, 1) := by decide +kernel
theorem dX5_content_29 : decode cX5_content 29 = .ok (.iaload, 1) := by decide +kernel
theorem dX5_content_30 : decode cX5_content 30 = .ok (.goto 4, 3) := by decide +kernel
theorem dX5_content_33 : decode cX5_content 33 = .ok (.iconst (-1), 1) := by decide +kernel
theorem dX5_content_34 : decode cX5_content 34 = .ok (.ireturn, 1) := by decide +kernel
theorem dX5_messages_0 : decode cX5_messages 0 = .ok (.aload_n 0, 1) := by decide +kernel
theorem dX5_messages_1 : decode cX5_messages 1 = .ok (.getfield 72, 3) := by decide +kernel
theorem dX5_messages_4 : decode cX5_messages 4 = .ok (.ireturn, 1) := by decide +kernel
theorem dX5_message_0 : decode cX5_message 0 = .ok (.iload_n 1, 1) := by decide +kernel
theorem dX5_message_1 : decode cX5_message 1 = .ok (.ifCond .lt 20, 3) := by decide +kernel
theorem dX5_message_4 : decode cX5_message 4 = .ok (.iload_n 1, 1) := by decide +kernel
theorem dX5_message_5 : decode cX5_message 5 = .ok (.aload_n 0, 1) := by decide +kernel
theorem dX5_message_6 : decode cX5_message 6 = .ok (.getfield 72, 3) := by decide +kernel
theorem dX5_message_9 : decode cX5_message 9 = .ok (.if_icmp .ge 12, 3) := by decide +kernel
theorem dX5_message_12 : decode cX5_message 12 = .ok (.iload_n 2, 1) := by decide +kernel
theorem dX5_message_13 : decode cX5_message 13 = .ok (.ifCond .lt 8, 3) := by decide +kernel
theorem dX5_message_16 : decode cX5_message 16 = .ok (.iload_n 2, 1) := by decide +kernel
theorem dX5_message_17 : decode cX5_message 17 = .ok (.iconst 3, 1) := by decide +kernel
theorem dX5_message_18 : decode cX5_message 18 = .ok (.if_icmp .le 6, 3) := by decide +kernel
theorem dX5_message_21 : decode cX5_message 21 = .ok (.bipush (-2), 2) := by decide +kernel
theorem dX5_message_23 : decode cX5_message 23 = .ok (.ireturn, 1) := by decide +kernel
theorem dX5_message_24 : decode cX5_message 24 = .ok (.iload_n 2, 1) := by decide +kernel
theorem dX5_message_25 : decode cX5_message 25 = .ok (.ifCond .ne 12, 3) := by decide +kernel
theorem dX5_message_28 : decode cX5_message 28 = .ok (.aload_n 0, 1) := by decide +kernel
theorem dX5_message_29 : decode cX5_message 29 = .ok (.getfield 56, 3) := by decide +kernel
theorem dX5_message_32 : decode cX5_message 32 = .ok (.iload_n 1, 1) := by decide +kernel
theorem dX5_message_33 : decode cX5_message 33 = .ok (.iaload, 1) := by decide +kernel
theorem dX5_message_34 : decode cX5_message 34 = .ok (.goto 37, 3) := by decide +kernel
theorem dX5_message_37 : decode cX5_message 37 = .ok (.iload_n 2, 1) := by decide +kernel
theorem dX5_message_38 : decode cX5_message 38 = .ok (.iconst 1, 1) := by decide +kernel
theorem dX5_message_39 : decode cX5_message 39 = .ok (.if_icmp .ne 12, 3) := by decide +kernel
theorem dX5_message_42 : decode cX5_message 42 = .ok (.aload_n 0, 1) := by decide +kernel
theorem dX5_message_43 : decode cX5_message 43 = .ok (.getfield 59, 3) := by decide +kernel
theorem dX5_message_46 : decode cX5_message 46 = .ok (.iload_n 1, 1) := by decide +kernel
theorem dX5_message_47 : decode cX5_message 47 = .ok (.iaload, 1) := by decide +kernel
theorem dX5_message_48 : decode cX5_message 48 = .ok (.goto 23, 3) := by decide +kernel
theorem dX5_message_51 : decode cX5_message 51 = .ok (.iload_n 2, 1) := by decide +kernel
theorem dX5_message_52 : decode cX5_message 52 = .ok (.iconst 2, 1) := by decide +kernel
theorem dX5_message_53 : decode cX5_message 53 = .ok (.if_icmp .ne 12, 3) := by decide +kernel
theorem dX5_message_56 : decode cX5_message 56 = .ok (.aload_n 0, 1) := by decide +kernel
theorem dX5_message_57 : decode cX5_message 57 = .ok (.getfield 62, 3) := by decide +kernel
theorem dX5_message_60 : decode cX5_message 60 = .ok (.iload_n 1, 1) := by decide +kernel
theorem dX5_message_61 : decode cX5_message 61 = .ok (.iaload, 1) := by decide +kernel
theorem dX5_message_62 : decode cX5_message 62 = .ok (.goto 9, 3) := by decide +kernel
theorem dX5_message_65 : decode cX5_message 65 = .ok (.aload_n 0, 1) := by decide +kernel
theorem dX5_message_66 : decode cX5_message 66 = .ok (.getfield 65, 3) := by decide +kernel
theorem dX5_message_69 : decode cX5_message 69 = .ok (.iload_n 1, 1) := by decide +kernel
theorem dX5_message_70 : decode cX5_message 70 = .ok (.iaload, 1) := by decide +kernel
theorem dX5_message_71 : decode cX5_message 71 = .ok (.ireturn, 1) := by decide +kernel
theorem dX5_forced_0 : decode cX5_forced 0 = .ok (.iload_n 1, 1) := by decide +kernel
theorem dX5_forced_1 : decode cX5_forced 1 = .ok (.invokestatic 122, 3) := by decide +kernel
theorem dX5_forced_4 : decode cX5_forced 4 = .ok (.ifCond .eq 8, 3) := by decide +kernel
theorem dX5_forced_7 : decode cX5_forced 7 = .ok (.bipush (-2), 2) := by decide +kernel
theorem dX5_forced_9 : decode cX5_forced 9 = .ok (.goto 9, 3) := by decide +kernel
theorem dX5_forced_12 : decode cX5_forced 12 = .ok (.aload_n 0, 1) := by decide +kernel
theorem dX5_forced_13 : decode cX5_forced 13 = .ok (.getfield 13, 3) := by decide +kernel
theorem dX5_forced_16 : decode cX5_forced 16 = .ok (.iload_n 1, 1) := by decide +kernel
theorem dX5_forced_17 : decode cX5_forced 17 = .ok (.iaload, 1) := by decide +kernel
theorem dX5_forced_18 : decode cX5_forced 18 = .ok (.ireturn, 1) := by decide +kernel
theorem dL_law_0 : decode cL_law 0 = .ok (.new 7, 3) := by decide +kernel
theorem dL_law_3 : decode cL_law 3 = .ok (.dup, 1) := by decide +kernel
theorem dL_law_4 : decode cL_law 4 = .ok (.invokespecial 9, 3) := by decide +kernel
theorem dL_law_7 : decode cL_law 7 = .ok (.astore_n 1, 1) := by decide +kernel
theorem dL_law_8 : decode cL_law 8 = .ok (.new 10, 3) := by decide +kernel
theorem dL_law_11 : decode cL_law 11 = .ok (.dup, 1) := by decide +kernel
theorem dL_law_12 : decode cL_law 12 = .ok (.invokespecial 12, 3) := by decide +kernel
theorem dL_law_15 : decode cL_law 15 = .ok (.astore_n 2, 1) := by decide +kernel
theorem dL_law_16 : decode cL_law 16 = .ok (.iconst 0, 1) := by decide +kernel
theorem dL_law_17 : decode cL_law 17 = .ok (.istore_n 3, 1) := by decide +kernel
theorem dL_law_18 : decode cL_law 18 = .ok (.iload_n 3, 1) := by decide +kernel
theorem dL_law_19 : decode cL_law 19 = .ok (.aload_n 0, 1) := by decide +kernel
theorem dL_law_20 : decode cL_law 20 = .ok (.arraylength, 1) := by decide +kernel
theorem dL_law_21 : decode cL_law 21 = .ok (.iconst 4, 1) := by decide +kernel
theorem dL_law_22 : decode cL_law 22 = .ok (.isub, 1) := by decide +kernel
theorem dL_law_23 : decode cL_law 23 = .ok (.if_icmp .gt 703, 3) := by decide +kernel
theorem dL_law_26 : decode cL_law 26 = .ok (.aload_n 0, 1) := by decide +kernel
theorem dL_law_27 : decode cL_law 27 = .ok (.iload_n 3, 1) := by decide +kernel
theorem dL_law_28 : decode cL_law 28 = .ok (.iaload, 1) := by decide +kernel
theorem dL_law_29 : decode cL_law 29 = .ok (.bipush 31, 2) := by decide +kernel
theorem dL_law_31 : decode cL_law 31 = .ok (.iand, 1) := by decide +kernel
theorem dL_law_32 : decode cL_law 32 = .ok (.tableswitch 688 0 19 #[96, 119, 162, 185, 208, 231, 254, 313, 336, 359, 382, 405, 438, 471, 504, 553, 586, 619, 632, 665], 96) := by decide +kernel
theorem dL_law_128 : decode cL_law 128 = .ok (.aload_n 1, 1) := by decide +kernel
theorem dL_law_129 : decode cL_law 129 = .ok (.aload_n 0, 1) := by decide +kernel
theorem dL_law_130 : decode cL_law 130 = .ok (.iload_n 3, 1) := by decide +kernel
theorem dL_law_131 : decode cL_law 131 = .ok (.iconst 1, 1) := by decide +kernel
theorem dL_law_132 : decode cL_law 132 = .ok (.iadd, 1) := by decide +kernel
theorem dL_law_133 : decode cL_law 133 = .ok (.iaload, 1) := by decide +kernel
theorem dL_law_134 : decode cL_law 134 = .ok (.invokevirtual 13, 3) := by decide +kernel
theorem dL_law_137 : decode cL_law 137 = .ok (.aload_n 2, 1) := by decide +kernel
theorem dL_law_138 : decode cL_law 138 = .ok (.aload_n 0, 1) := by decide +kernel
theorem dL_law_139 : decode cL_law 139 = .ok (.iload_n 3, 1) := by decide +kernel
theorem dL_law_140 : decode cL_law 140 = .ok (.iconst 1, 1) := by decide +kernel
theorem dL_law_141 : decode cL_law 141 = .ok (.iadd, 1) := by decide +kernel
theorem dL_law_142 : decode cL_law 142 = .ok (.iaload, 1) := by decide +kernel
theorem dL_law_143 : decode cL_law 143 = .ok (.invokevirtual 17, 3) := by decide +kernel
theorem dL_law_146 : decode cL_law 146 = .ok (.if_icmp .eq 574, 3) := by decide +kernel
theorem dL_law_149 : decode cL_law 149 = .ok (.iconst 0, 1) := by decide +kernel
theorem dL_law_150 : decode cL_law 150 = .ok (.ireturn, 1) := by decide +kernel
theorem dL_law_151 : decode cL_law 151 = .ok (.aload_n 1, 1) := by decide +kernel
theorem dL_law_152 : decode cL_law 152 = .ok (.aload_n 0, 1) := by decide +kernel
theorem dL_law_153 : decode cL_law 153 = .ok (.iload_n 3, 1) := by decide +kernel
theorem dL_law_154 : decode cL_law 154 = .ok (.iconst 1, 1) := by decide +kernel
theorem dL_law_155 : decode cL_law 155 = .ok (.iadd, 1) := by decide +kernel
theorem dL_law_156 : decode cL_law 156 = .ok (.iaload, 1) := by decide +kernel
theorem dL_law_157 : decode cL_law 157 = .ok (.aload_n 0, 1) := by decide +kernel
theorem dL_law_158 : decode cL_law 158 = .ok (.iload_n 3, 1) := by decide +kernel
theorem dL_law_159 : decode cL_law 159 = .ok (.iconst 2, 1) := by decide +kernel
theorem dL_law_160 : decode cL_law 160 = .ok (.iadd, 1) := by decide +kernel
theorem dL_law_161 : decode cL_law 161 = .ok (.iaload, 1) := by decide +kernel
theorem dL_law_162 : decode cL_law 162 = .ok (.aload_n 0, 1) := by decide +kernel
theorem dL_law_163 : decode cL_law 163 = .ok (.iload_n 3, 1) := by decide +kernel
theorem dL_law_164 : decode cL_law 164 = .ok (.iconst 3, 1) := by decide +kernel
theorem dL_law_165 : decode cL_law 165 = .ok (.iadd, 1) := by decide +kernel
theorem dL_law_166 : decode cL_law 166 = .ok (.iaload, 1) := by decide +kernel
theorem dL_law_167 : decode cL_law 167 = .ok (.invokevirtual 18, 3) := by decide +kernel
theorem dL_law_170 : decode cL_law 170 = .ok (.aload_n 2, 1) := by decide +kernel
theorem dL_law_171 : decode cL_law 171 = .ok (.aload_n 0, 1) := by decide +kernel
theorem dL_law_172 : decode cL_law 172 = .ok (.iload_n 3, 1) := by decide +kernel
theorem dL_law_173 : decode cL_law 173 = .ok (.iconst 1, 1) := by decide +kernel
theorem dL_law_174 : decode cL_law 174 = .ok (.iadd, 1) := by decide +kernel
theorem dL_law_175 : decode cL_law 175 = .ok (.iaload, 1) := by decide +kernel
theorem dL_law_176 : decode cL_law 176 = .ok (.aload_n 0, 1) := by decide +kernel
theorem dL_law_177 : decode cL_law 177 = .ok (.iload_n 3, 1) := by decide +kernel
theorem dL_law_178 : decode cL_law 178 = .ok (.iconst 2, 1) := by decide +kernel
theorem dL_law_179 : decode cL_law 179 = .ok (.iadd, 1) := by decide +kernel
theorem dL_law_180 : decode cL_law 180 = .ok (.iaload, 1) := by decide +kernel
theorem dL_law_181 : decode cL_law 181 = .ok (.aload_n 0, 1) := by decide +kernel
theorem dL_law_182 : decode cL_law 182 = .ok (.iload_n 3, 1) := by decide +kernel
theorem dL_law_183 : decode cL_law 183 = .ok (.iconst 3, 1) := by decide +kernel
theorem dL_law_184 : decode cL_law 184 = .ok (.iadd, 1) := by decide +kernel
theorem dL_law_185 : decode cL_law 185 = .ok (.iaload, 1) := by decide +kernel
theorem dL_law_186 : decode cL_law 186 = .ok (.invokevirtual 22, 3) := by decide +kernel
theorem dL_law_189 : decode cL_law 189 = .ok (.if_icmp .eq 531, 3) := by decide +kernel
theorem dL_law_192 : decode cL_law 192 = .ok (.iconst 0, 1) := by decide +kernel
theorem dL_law_193 : decode cL_law 193 = .ok (.ireturn, 1) := by decide +kernel
theorem dL_law_194 : decode cL_law 194 = .ok (.aload_n 1, 1) := by decide +kernel
theorem dL_law_195 : decode cL_law 195 = .ok (.aload_n 0, 1) := by decide +kernel
theorem dL_law_196 : decode cL_law 196 = .ok (.iload_n 3, 1) := by decide +kernel
theorem dL_law_197 : decode cL_law 197 = .ok (.iconst 1, 1) := by decide +kernel
theorem dL_law_198 : decode cL_law 198 = .ok (.iadd, 1) := by decide +kernel
theorem dL_law_199 : decode cL_law 199 = .ok (.iaload, 1) := by decide +kernel
theorem dL_law_200 : decode cL_law 200 = .ok (.invokevirtual 23, 3) := by decide +kernel
theorem dL_law_203 : decode cL_law 203 = .ok (.aload_n 2, 1) := by decide +kernel
theorem dL_law_204 : decode cL_law 204 = .ok (.aload_n 0, 1) := by decide +kernel
theorem dL_law_205 : decode cL_law 205 = .ok (.iload_n 3, 1) := by decide +kernel
theorem dL_law_206 : decode cL_law 206 = .ok (.iconst 1, 1) := by decide +kernel
theorem dL_law_207 : decode cL_law 207 = .ok (.iadd, 1) := by decide +kernel
theorem dL_law_208 : decode cL_law 208 = .ok (.iaload, 1) := by decide +kernel
theorem dL_law_209 : decode cL_law 209 = .ok (.invokevirtual 26, 3) := by decide +kernel
theorem dL_law_212 : decode cL_law 212 = .ok (.if_icmp .eq 508, 3) := by decide +kernel
theorem dL_law_215 : decode cL_law 215 = .ok (.iconst 0, 1) := by decide +kernel
theorem dL_law_216 : decode cL_law 216 = .ok (.ireturn, 1) := by decide +kernel
theorem dL_law_217 : decode cL_law 217 = .ok (.aload_n 1, 1) := by decide +kernel
theorem dL_law_218 : decode cL_law 218 = .ok (.aload_n 0, 1) := by decide +kernel
theorem dL_law_219 : decode cL_law 219 = .ok (.iload_n 3, 1) := by decide +kernel
theorem dL_law_220 : decode cL_law 220 = .ok (.iconst 1, 1) := by decide +kernel
theorem dL_law_221 : decode cL_law 221 = .ok (.iadd, 1) := by decide +kernel
theorem dL_law_222 : decode cL_law 222 = .ok (.iaload, 1) := by decide +kernel
theorem dL_law_223 : decode cL_law 223 = .ok (.invokevirtual 27, 3) := by decide +kernel
theorem dL_law_226 : decode cL_law 226 = .ok (.aload_n 2, 1) := by decide +kernel
theorem dL_law_227 : decode cL_law 227 = .ok (.aload_n 0, 1) := by decide +kernel
theorem dL_law_228 : decode cL_law 228 = .ok (.iload_n 3, 1) := by decide +kernel
theorem dL_law_229 : decode cL_law 229 = .ok (.iconst 1, 1) := by decide +kernel
theorem dL_law_230 : decode cL_law 230 = .ok (.iadd, 1) := by decide +kernel
theorem dL_law_231 : decode cL_law 231 = .ok (.iaload, 1) := by decide +kernel
theorem dL_law_232 : decode cL_law 232 = .ok (.invokevirtual 30, 3) := by decide +kernel
theorem dL_law_235 : decode cL_law 235 = .ok (.if_icmp .eq 485, 3) := by decide +kernel
theorem dL_law_238 : decode cL_law 238 = .ok (.iconst 0, 1) := by decide +kernel
theorem dL_law_239 : decode cL_law 239 = .ok (.ireturn, 1) := by decide +kernel
theorem dL_law_240 : decode cL_law 240 = .ok (.aload_n 1, 1) := by decide +kernel
theorem dL_law_241 : decode cL_law 241 = .ok (.aload_n 0, 1) := by decide +kernel
theorem dL_law_242 : decode cL_law 242 = .ok (.iload_n 3, 1) := by decide +kernel
theorem dL_law_243 : decode cL_law 243 = .ok (.iconst 1, 1) := by decide +kernel
theorem dL_law_244 : decode cL_law 244 = .ok (.iadd, 1) := by decide +kernel
theorem dL_law_245 : decode cL_law 245 = .ok (.iaload, 1) := by decide +kernel
theorem dL_law_246 : decode cL_law 246 = .ok (.invokevirtual 31, 3) := by decide +kernel
theorem dL_law_249 : decode cL_law 249 = .ok (.aload_n 2, 1) := by decide +kernel
theorem dL_law_250 : decode cL_law 250 = .ok (.aload_n 0, 1) := by decide +kernel
theorem dL_law_251 : decode cL_law 251 = .ok (.iload_n 3, 1) := by decide +kernel
theorem dL_law_252 : decode cL_law 252 = .ok (.iconst 1, 1) := by decide +kernel
theorem dL_law_253 : decode cL_law 253 = .ok (.iadd, 1) := by decide +kernel
theorem dL_law_254 : decode cL_law 254 = .ok (.iaload, 1) := by decide +kernel
theorem dL_law_255 : decode cL_law 255 = .ok (.invokevirtual 34, 3) := by decide +kernel
theorem dL_law_258 : decode cL_law 258 = .ok (.if_icmp .eq 462, 3) := by decide +kernel
theorem dL_law_261 : decode cL_law 261 = .ok (.iconst 0, 1) := by decide +kernel
theorem dL_law_262 : decode cL_law 262 = .ok (.ireturn, 1) := by decide +kernel
theorem dL_law_263 : decode cL_law 263 = .ok (.aload_n 1, 1) := by decide +kernel
theorem dL_law_264 : decode cL_law 264 = .ok (.aload_n 0, 1) := by decide +kernel
theorem dL_law_265 : decode cL_law 265 = .ok (.iload_n 3, 1) := by decide +kernel
theorem dL_law_266 : decode cL_law 266 = .ok (.iconst 1, 1) := by decide +kernel
theorem dL_law_267 : decode cL_law 267 = .ok (.iadd, 1) := by decide +kernel
theorem dL_law_268 : decode cL_law 268 = .ok (.iaload, 1) := by decide +kernel
theorem dL_law_269 : decode cL_law 269 = .ok (.invokevirtual 35, 3) := by decide +kernel
theorem dL_law_272 : decode cL_law 272 = .ok (.aload_n 2, 1) := by decide +kernel
theorem dL_law_273 : decode cL_law 273 = .ok (.aload_n 0, 1) := by decide +kernel
theorem dL_law_274 : decode cL_law 274 = .ok (.iload_n 3, 1) := by decide +kernel
theorem dL_law_275 : decode cL_law 275 = .ok (.iconst 1, 1) := by decide +kernel
theorem dL_law_276 : decode cL_law 276 = .ok (.iadd, 1) := by decide +kernel
theorem dL_law_277 : decode cL_law 277 = .ok (.iaload, 1) := by decide +kernel
theorem dL_law_278 : decode cL_law 278 = .ok (.invokevirtual 38, 3) := by decide +kernel
theorem dL_law_281 : decode cL_law 281 = .ok (.if_icmp .eq 439, 3) := by decide +kernel
theorem dL_law_284 : decode cL_law 284 = .ok (.iconst 0, 1) := by decide +kernel
theorem dL_law_285 : decode cL_law 285 = .ok (.ireturn, 1) := by decide +kernel
theorem dL_law_286 : decode cL_law 286 = .ok (.aload_n 1, 1) := by decide +kernel
theorem dL_law_287 : decode cL_law 287 = .ok (.aload_n 0, 1) := by decide +kernel
theorem dL_law_288 : decode cL_law 288 = .ok (.iload_n 3, 1) := by decide +kernel
theorem dL_law_289 : decode cL_law 289 = .ok (.iconst 1, 1) := by decide +kernel
theorem dL_law_290 : decode cL_law 290 = .ok (.iadd, 1) := by decide +kernel
theorem dL_law_291 : decode cL_law 291 = .ok (.iaload, 1) := by decide +kernel
theorem dL_law_292 : decode cL_law 292 = .ok (.aload_n 0, 1) := by decide +kernel
theorem dL_law_293 : decode cL_law 293 = .ok (.iload_n 3, 1) := by decide +kernel
theorem dL_law_294 : decode cL_law 294 = .ok (.iconst 2, 1) := by decide +kernel
theorem dL_law_295 : decode cL_law 295 = .ok (.iadd, 1) := by decide +kernel
theorem dL_law_296 : decode cL_law 296 = .ok (.iaload, 1) := by decide +kernel
theorem dL_law_297 : decode cL_law 297 = .ok (.aload_n 0, 1) := by decide +kernel
theorem dL_law_298 : decode cL_law 298 = .ok (.iload_n 3, 1) := by decide +kernel
theorem dL_law_299 : decode cL_law 299 = .ok (.iconst 3, 1) := by decide +kernel
theorem dL_law_300 : decode cL_law 300 = .ok (.iadd, 1) := by decide +kernel
theorem dL_law_301 : decode cL_law 301 = .ok (.iaload, 1) := by decide +kernel
theorem dL_law_302 : decode cL_law 302 = .ok (.ifCond .eq 7, 3) := by decide +kernel
theorem dL_law_305 : decode cL_law 305 = .ok (.iconst 1, 1) := by decide +kernel
theorem dL_law_306 : decode cL_law 306 = .ok (.goto 4, 3) := by decide +kernel
theorem dL_law_309 : decode cL_law 309 = .ok (.iconst 0, 1) := by decide +kernel
theorem dL_law_310 : decode cL_law 310 = .ok (.invokevirtual 39, 3) := by decide +kernel
theorem dL_law_313 : decode cL_law 313 = .ok (.aload_n 2, 1) := by decide +kernel
theorem dL_law_314 : decode cL_law 314 = .ok (.aload_n 0, 1) := by decide +kernel
theorem dL_law_315 : decode cL_law 315 = .ok (.iload_n 3, 1) := by decide +kernel
theorem dL_law_316 : decode cL_law 316 = .ok (.iconst 1, 1) := by decide +kernel
theorem dL_law_317 : decode cL_law 317 = .ok (.iadd, 1) := by decide +kernel
theorem dL_law_318 : decode cL_law 318 = .ok (.iaload, 1) := by decide +kernel
theorem dL_law_319 : decode cL_law 319 = .ok (.aload_n 0, 1) := by decide +kernel
theorem dL_law_320 : decode cL_law 320 = .ok (.iload_n 3, 1) := by decide +kernel
theorem dL_law_321 : decode cL_law 321 = .ok (.iconst 2, 1) := by decide +kernel
theorem dL_law_322 : decode cL_law 322 = .ok (.iadd, 1) := by decide +kernel
theorem dL_law_323 : decode cL_law 323 = .ok (.iaload, 1) := by decide +kernel
theorem dL_law_324 : decode cL_law 324 = .ok (.aload_n 0, 1) := by decide +kernel
theorem dL_law_325 : decode cL_law 325 = .ok (.iload_n 3, 1) := by decide +kernel
theorem dL_law_326 : decode cL_law 326 = .ok (.iconst 3, 1) := by decide +kernel
theorem dL_law_327 : decode cL_law 327 = .ok (.iadd, 1) := by decide +kernel
theorem dL_law_328 : decode cL_law 328 = .ok (.iaload, 1) := by decide +kernel
theorem dL_law_329 : decode cL_law 329 = .ok (.ifCond .eq 7, 3) := by decide +kernel
theorem dL_law_332 : decode cL_law 332 = .ok (.iconst 1, 1) := by decide +kernel
theorem dL_law_333 : decode cL_law 333 = .ok (.goto 4, 3) := by decide +kernel
theorem dL_law_336 : decode cL_law 336 = .ok (.iconst 0, 1) := by decide +kernel
theorem dL_law_337 : decode cL_law 337 = .ok (.invokevirtual 43, 3) := by decide +kernel
theorem dL_law_340 : decode cL_law 340 = .ok (.if_icmp .eq 380, 3) := by decide +kernel
theorem dL_law_343 : decode cL_law 343 = .ok (.iconst 0, 1) := by decide +kernel
theorem dL_law_344 : decode cL_law 344 = .ok (.ireturn, 1) := by decide +kernel
theorem dL_law_345 : decode cL_law 345 = .ok (.aload_n 1, 1) := by decide +kernel
theorem dL_law_346 : decode cL_law 346 = .ok (.aload_n 0, 1) := by decide +kernel
theorem dL_law_347 : decode cL_law 347 = .ok (.iload_n 3, 1) := by decide +kernel
theorem dL_law_348 : decode cL_law 348 = .ok (.iconst 1, 1) := by decide +kernel
theorem dL_law_349 : decode cL_law 349 = .ok (.iadd, 1) := by decide +kernel
theorem dL_law_350 : decode cL_law 350 = .ok (.iaload, 1) := by decide +kernel
theorem dL_law_351 : decode cL_law 351 = .ok (.invokevirtual 44, 3) := by decide +kernel
theorem dL_law_354 : decode cL_law 354 = .ok (.aload_n 2, 1) := by decide +kernel
theorem dL_law_355 : decode cL_law 355 = .ok (.aload_n 0, 1) := by decide +kernel
theorem dL_law_356 : decode cL_law 356 = .ok (.iload_n 3, 1) := by decide +kernel
theorem dL_law_357 : decode cL_law 357 = .ok (.iconst 1, 1) := by decide +kernel
theorem dL_law_358 : decode cL_law 358 = .ok (.iadd, 1) := by decide +kernel
theorem dL_law_359 : decode cL_law 359 = .ok (.iaload, 1) := by decide +kernel
theorem dL_law_360 : decode cL_law 360 = .ok (.invokevirtual 47, 3) := by decide +kernel
theorem dL_law_363 : decode cL_law 363 = .ok (.if_icmp .eq 357, 3) := by decide +kernel
theorem dL_law_366 : decode cL_law 366 = .ok (.iconst 0, 1) := by decide +kernel
theorem dL_law_367 : decode cL_law 367 = .ok (.ireturn, 1) := by decide +kernel
theorem dL_law_368 : decode cL_law 368 = .ok (.aload_n 1, 1) := by decide +kernel
theorem dL_law_369 : decode cL_law 369 = .ok (.aload_n 0, 1) := by decide +kernel
theorem dL_law_370 : decode cL_law 370 = .ok (.iload_n 3, 1) := by decide +kernel
theorem dL_law_371 : decode cL_law 371 = .ok (.iconst 1, 1) := by decide +kernel
theorem dL_law_372 : decode cL_law 372 = .ok (.iadd, 1) := by decide +kernel
theorem dL_law_373 : decode cL_law 373 = .ok (.iaload, 1) := by decide +kernel
theorem dL_law_374 : decode cL_law 374 = .ok (.invokevirtual 48, 3) := by decide +kernel
theorem dL_law_377 : decode cL_law 377 = .ok (.aload_n 2, 1) := by decide +kernel
theorem dL_law_378 : decode cL_law 378 = .ok (.aload_n 0, 1) := by decide +kernel
theorem dL_law_379 : decode cL_law 379 = .ok (.iload_n 3, 1) := by decide +kernel
theorem dL_law_380 : decode cL_law 380 = .ok (.iconst 1, 1) := by decide +kernel
theorem dL_law_381 : decode cL_law 381 = .ok (.iadd, 1) := by decide +kernel
theorem dL_law_382 : decode cL_law 382 = .ok (.iaload, 1) := by decide +kernel
theorem dL_law_383 : decode cL_law 383 = .ok (.invokevirtual 51, 3) := by decide +kernel
theorem dL_law_386 : decode cL_law 386 = .ok (.if_icmp .eq 334, 3) := by decide +kernel
theorem dL_law_389 : decode cL_law 389 = .ok (.iconst 0, 1) := by decide +kernel
theorem dL_law_390 : decode cL_law 390 = .ok (.ireturn, 1) := by decide +kernel
theorem dL_law_391 : decode cL_law 391 = .ok (.aload_n 1, 1) := by decide +kernel
theorem dL_law_392 : decode cL_law 392 = .ok (.aload_n 0, 1) := by decide +kernel
theorem dL_law_393 : decode cL_law 393 = .ok (.iload_n 3, 1) := by decide +kernel
theorem dL_law_394 : decode cL_law 394 = .ok (.iconst 1, 1) := by decide +kernel
theorem dL_law_395 : decode cL_law 395 = .ok (.iadd, 1) := by decide +kernel
theorem dL_law_396 : decode cL_law 396 = .ok (.iaload, 1) := by decide +kernel
theorem dL_law_397 : decode cL_law 397 = .ok (.invokevirtual 52, 3) := by decide +kernel
theorem dL_law_400 : decode cL_law 400 = .ok (.aload_n 2, 1) := by decide +kernel
theorem dL_law_401 : decode cL_law 401 = .ok (.aload_n 0, 1) := by decide +kernel
theorem dL_law_402 : decode cL_law 402 = .ok (.iload_n 3, 1) := by decide +kernel
theorem dL_law_403 : decode cL_law 403 = .ok (.iconst 1, 1) := by decide +kernel
theorem dL_law_404 : decode cL_law 404 = .ok (.iadd, 1) := by decide +kernel
theorem dL_law_405 : decode cL_law 405 = .ok (.iaload, 1) := by decide +kernel
theorem dL_law_406 : decode cL_law 406 = .ok (.invokevirtual 56, 3) := by decide +kernel
theorem dL_law_409 : decode cL_law 409 = .ok (.if_icmp .eq 311, 3) := by decide +kernel
theorem dL_law_412 : decode cL_law 412 = .ok (.iconst 0, 1) := by decide +kernel
theorem dL_law_413 : decode cL_law 413 = .ok (.ireturn, 1) := by decide +kernel
theorem dL_law_414 : decode cL_law 414 = .ok (.aload_n 1, 1) := by decide +kernel
theorem dL_law_415 : decode cL_law 415 = .ok (.aload_n 0, 1) := by decide +kernel
theorem dL_law_416 : decode cL_law 416 = .ok (.iload_n 3, 1) := by decide +kernel
theorem dL_law_417 : decode cL_law 417 = .ok (.iconst 1, 1) := by decide +kernel
theorem dL_law_418 : decode cL_law 418 = .ok (.iadd, 1) := by decide +kernel
theorem dL_law_419 : decode cL_law 419 = .ok (.iaload, 1) := by decide +kernel
theorem dL_law_420 : decode cL_law 420 = .ok (.invokevirtual 57, 3) := by decide +kernel
theorem dL_law_423 : decode cL_law 423 = .ok (.aload_n 2, 1) := by decide +kernel
theorem dL_law_424 : decode cL_law 424 = .ok (.aload_n 0, 1) := by decide +kernel
theorem dL_law_425 : decode cL_law 425 = .ok (.iload_n 3, 1) := by decide +kernel
theorem dL_law_426 : decode cL_law 426 = .ok (.iconst 1, 1) := by decide +kernel
theorem dL_law_427 : decode cL_law 427 = .ok (.iadd, 1) := by decide +kernel
theorem dL_law_428 : decode cL_law 428 = .ok (.iaload, 1) := by decide +kernel
theorem dL_law_429 : decode cL_law 429 = .ok (.invokevirtual 60, 3) := by decide +kernel
theorem dL_law_432 : decode cL_law 432 = .ok (.if_icmp .eq 288, 3) := by decide +kernel
theorem dL_law_435 : decode cL_law 435 = .ok (.iconst 0, 1) := by decide +kernel
theorem dL_law_436 : decode cL_law 436 = .ok (.ireturn, 1) := by decide +kernel
theorem dL_law_437 : decode cL_law 437 = .ok (.aload_n 1, 1) := by decide +kernel
theorem dL_law_438 : decode cL_law 438 = .ok (.aload_n 0, 1) := by decide +kernel
theorem dL_law_439 : decode cL_law 439 = .ok (.iload_n 3, 1) := by decide +kernel
theorem dL_law_440 : decode cL_law 440 = .ok (.iconst 1, 1) := by decide +kernel
theorem dL_law_441 : decode cL_law 441 = .ok (.iadd, 1) := by decide +kernel
theorem dL_law_442 : decode cL_law 442 = .ok (.iaload, 1) := by decide +kernel
theorem dL_law_443 : decode cL_law 443 = .ok (.aload_n 0, 1) := by decide +kernel
theorem dL_law_444 : decode cL_law 444 = .ok (.iload_n 3, 1) := by decide +kernel
theorem dL_law_445 : decode cL_law 445 = .ok (.iconst 2, 1) := by decide +kernel
theorem dL_law_446 : decode cL_law 446 = .ok (.iadd, 1) := by decide +kernel
theorem dL_law_447 : decode cL_law 447 = .ok (.iaload, 1) := by decide +kernel
theorem dL_law_448 : decode cL_law 448 = .ok (.invokevirtual 61, 3) := by decide +kernel
theorem dL_law_451 : decode cL_law 451 = .ok (.aload_n 2, 1) := by decide +kernel
theorem dL_law_452 : decode cL_law 452 = .ok (.aload_n 0, 1) := by decide +kernel
theorem dL_law_453 : decode cL_law 453 = .ok (.iload_n 3, 1) := by decide +kernel
theorem dL_law_454 : decode cL_law 454 = .ok (.iconst 1, 1) := by decide +kernel
theorem dL_law_455 : decode cL_law 455 = .ok (.iadd, 1) := by decide +kernel
theorem dL_law_456 : decode cL_law 456 = .ok (.iaload, 1) := by decide +kernel
theorem dL_law_457 : decode cL_law 457 = .ok (.aload_n 0, 1) := by decide +kernel
theorem dL_law_458 : decode cL_law 458 = .ok (.iload_n 3, 1) := by decide +kernel
theorem dL_law_459 : decode cL_law 459 = .ok (.iconst 2, 1) := by decide +kernel
theorem dL_law_460 : decode cL_law 460 = .ok (.iadd, 1) := by decide +kernel
theorem dL_law_461 : decode cL_law 461 = .ok (.iaload, 1) := by decide +kernel
theorem dL_law_462 : decode cL_law 462 = .ok (.invokevirtual 65, 3) := by decide +kernel
theorem dL_law_465 : decode cL_law 465 = .ok (.if_icmp .eq 255, 3) := by decide +kernel
theorem dL_law_468 : decode cL_law 468 = .ok (.iconst 0, 1) := by decide +kernel
theorem dL_law_469 : decode cL_law 469 = .ok (.ireturn, 1) := by decide +kernel
theorem dL_law_470 : decode cL_law 470 = .ok (.aload_n 1, 1) := by decide +kernel
theorem dL_law_471 : decode cL_law 471 = .ok (.aload_n 0, 1) := by decide +kernel
theorem dL_law_472 : decode cL_law 472 = .ok (.iload_n 3, 1) := by decide +kernel
theorem dL_law_473 : decode cL_law 473 = .ok (.iconst 1, 1) := by decide +kernel
theorem dL_law_474 : decode cL_law 474 = .ok (.iadd, 1) := by decide +kernel
theorem dL_law_475 : decode cL_law 475 = .ok (.iaload, 1) := by decide +kernel
theorem dL_law_476 : decode cL_law 476 = .ok (.aload_n 0, 1) := by decide +kernel
theorem dL_law_477 : decode cL_law 477 = .ok (.iload_n 3, 1) := by decide +kernel
theorem dL_law_478 : decode cL_law 478 = .ok (.iconst 2, 1) := by decide +kernel
theorem dL_law_479 : decode cL_law 479 = .ok (.iadd, 1) := by decide +kernel
theorem dL_law_480 : decode cL_law 480 = .ok (.iaload, 1) := by decide +kernel
theorem dL_law_481 : decode cL_law 481 = .ok (.invokevirtual 66, 3) := by decide +kernel
theorem dL_law_484 : decode cL_law 484 = .ok (.aload_n 2, 1) := by decide +kernel
theorem dL_law_485 : decode cL_law 485 = .ok (.aload_n 0, 1) := by decide +kernel
theorem dL_law_486 : decode cL_law 486 = .ok (.iload_n 3, 1) := by decide +kernel
theorem dL_law_487 : decode cL_law 487 = .ok (.iconst 1, 1) := by decide +kernel
theorem dL_law_488 : decode cL_law 488 = .ok (.iadd, 1) := by decide +kernel
theorem dL_law_489 : decode cL_law 489 = .ok (.iaload, 1) := by decide +kernel
theorem dL_law_490 : decode cL_law 490 = .ok (.aload_n 0, 1) := by decide +kernel
theorem dL_law_491 : decode cL_law 491 = .ok (.iload_n 3, 1) := by decide +kernel
theorem dL_law_492 : decode cL_law 492 = .ok (.iconst 2, 1) := by decide +kernel
theorem dL_law_493 : decode cL_law 493 = .ok (.iadd, 1) := by decide +kernel
theorem dL_law_494 : decode cL_law 494 = .ok (.iaload, 1) := by decide +kernel
theorem dL_law_495 : decode cL_law 495 = .ok (.invokevirtual 69, 3) := by decide +kernel
theorem dL_law_498 : decode cL_law 498 = .ok (.if_icmp .eq 222, 3) := by decide +kernel
theorem dL_law_501 : decode cL_law 501 = .ok (.iconst 0, 1) := by decide +kernel
theorem dL_law_502 : decode cL_law 502 = .ok (.ireturn, 1) := by decide +kernel
theorem dL_law_503 : decode cL_law 503 = .ok (.aload_n 1, 1) := by decide +kernel
theorem dL_law_504 : decode cL_law 504 = .ok (.aload_n 0, 1) := by decide +kernel
theorem dL_law_505 : decode cL_law 505 = .ok (.iload_n 3, 1) := by decide +kernel
theorem dL_law_506 : decode cL_law 506 = .ok (.iconst 1, 1) := by decide +kernel
theorem dL_law_507 : decode cL_law 507 = .ok (.iadd, 1) := by decide +kernel
theorem dL_law_508 : decode cL_law 508 = .ok (.iaload, 1) := by decide +kernel
theorem dL_law_509 : decode cL_law 509 = .ok (.aload_n 0, 1) := by decide +kernel
theorem dL_law_510 : decode cL_law 510 = .ok (.iload_n 3, 1) := by decide +kernel
theorem dL_law_511 : decode cL_law 511 = .ok (.iconst 2, 1) := by decide +kernel
theorem dL_law_512 : decode cL_law 512 = .ok (.iadd, 1) := by decide +kernel
theorem dL_law_513 : decode cL_law 513 = .ok (.iaload, 1) := by decide +kernel
theorem dL_law_514 : decode cL_law 514 = .ok (.invokevirtual 70, 3) := by decide +kernel
theorem dL_law_517 : decode cL_law 517 = .ok (.aload_n 2, 1) := by decide +kernel
theorem dL_law_518 : decode cL_law 518 = .ok (.aload_n 0, 1) := by decide +kernel
theorem dL_law_519 : decode cL_law 519 = .ok (.iload_n 3, 1) := by decide +kernel
theorem dL_law_520 : decode cL_law 520 = .ok (.iconst 1, 1) := by decide +kernel
theorem dL_law_521 : decode cL_law 521 = .ok (.iadd, 1) := by decide +kernel
theorem dL_law_522 : decode cL_law 522 = .ok (.iaload, 1) := by decide +kernel
theorem dL_law_523 : decode cL_law 523 = .ok (.aload_n 0, 1) := by decide +kernel
theorem dL_law_524 : decode cL_law 524 = .ok (.iload_n 3, 1) := by decide +kernel
theorem dL_law_525 : decode cL_law 525 = .ok (.iconst 2, 1) := by decide +kernel
theorem dL_law_526 : decode cL_law 526 = .ok (.iadd, 1) := by decide +kernel
theorem dL_law_527 : decode cL_law 527 = .ok (.iaload, 1) := by decide +kernel
theorem dL_law_528 : decode cL_law 528 = .ok (.invokevirtual 73, 3) := by decide +kernel
theorem dL_law_531 : decode cL_law 531 = .ok (.if_icmp .eq 189, 3) := by decide +kernel
theorem dL_law_534 : decode cL_law 534 = .ok (.iconst 0, 1) := by decide +kernel
theorem dL_law_535 : decode cL_law 535 = .ok (.ireturn, 1) := by decide +kernel
theorem dL_law_536 : decode cL_law 536 = .ok (.aload_n 1, 1) := by decide +kernel
theorem dL_law_537 : decode cL_law 537 = .ok (.aload_n 0, 1) := by decide +kernel
theorem dL_law_538 : decode cL_law 538 = .ok (.iload_n 3, 1) := by decide +kernel
theorem dL_law_539 : decode cL_law 539 = .ok (.iconst 1, 1) := by decide +kernel
theorem dL_law_540 : decode cL_law 540 = .ok (.iadd, 1) := by decide +kernel
theorem dL_law_541 : decode cL_law 541 = .ok (.iaload, 1) := by decide +kernel
theorem dL_law_542 : decode cL_law 542 = .ok (.aload_n 0, 1) := by decide +kernel
theorem dL_law_543 : decode cL_law 543 = .ok (.iload_n 3, 1) := by decide +kernel
theorem dL_law_544 : decode cL_law 544 = .ok (.iconst 2, 1) := by decide +kernel
theorem dL_law_545 : decode cL_law 545 = .ok (.iadd, 1) := by decide +kernel
theorem dL_law_546 : decode cL_law 546 = .ok (.iaload, 1) := by decide +kernel
theorem dL_law_547 : decode cL_law 547 = .ok (.ifCond .eq 7, 3) := by decide +kernel
theorem dL_law_550 : decode cL_law 550 = .ok (.iconst 1, 1) := by decide +kernel
theorem dL_law_551 : decode cL_law 551 = .ok (.goto 4, 3) := by decide +kernel
theorem dL_law_554 : decode cL_law 554 = .ok (.iconst 0, 1) := by decide +kernel
theorem dL_law_555 : decode cL_law 555 = .ok (.invokevirtual 74, 3) := by decide +kernel
theorem dL_law_558 : decode cL_law 558 = .ok (.aload_n 2, 1) := by decide +kernel
theorem dL_law_559 : decode cL_law 559 = .ok (.aload_n 0, 1) := by decide +kernel
theorem dL_law_560 : decode cL_law 560 = .ok (.iload_n 3, 1) := by decide +kernel
theorem dL_law_561 : decode cL_law 561 = .ok (.iconst 1, 1) := by decide +kernel
theorem dL_law_562 : decode cL_law 562 = .ok (.iadd, 1) := by decide +kernel
theorem dL_law_563 : decode cL_law 563 = .ok (.iaload, 1) := by decide +kernel
theorem dL_law_564 : decode cL_law 564 = .ok (.aload_n 0, 1) := by decide +kernel
theorem dL_law_565 : decode cL_law 565 = .ok (.iload_n 3, 1) := by decide +kernel
theorem dL_law_566 : decode cL_law 566 = .ok (.iconst 2, 1) := by decide +kernel
theorem dL_law_567 : decode cL_law 567 = .ok (.iadd, 1) := by decide +kernel
theorem dL_law_568 : decode cL_law 568 = .ok (.iaload, 1) := by decide +kernel
theorem dL_law_569 : decode cL_law 569 = .ok (.ifCond .eq 7, 3) := by decide +kernel
theorem dL_law_572 : decode cL_law 572 = .ok (.iconst 1, 1) := by decide +kernel
theorem dL_law_573 : decode cL_law 573 = .ok (.goto 4, 3) := by decide +kernel
theorem dL_law_576 : decode cL_law 576 = .ok (.iconst 0, 1) := by decide +kernel
theorem dL_law_577 : decode cL_law 577 = .ok (.invokevirtual 78, 3) := by decide +kernel
theorem dL_law_580 : decode cL_law 580 = .ok (.if_icmp .eq 140, 3) := by decide +kernel
theorem dL_law_583 : decode cL_law 583 = .ok (.iconst 0, 1) := by decide +kernel
theorem dL_law_584 : decode cL_law 584 = .ok (.ireturn, 1) := by decide +kernel
theorem dL_law_585 : decode cL_law 585 = .ok (.aload_n 1, 1) := by decide +kernel
theorem dL_law_586 : decode cL_law 586 = .ok (.aload_n 0, 1) := by decide +kernel
theorem dL_law_587 : decode cL_law 587 = .ok (.iload_n 3, 1) := by decide +kernel
theorem dL_law_588 : decode cL_law 588 = .ok (.iconst 1, 1) := by decide +kernel
theorem dL_law_589 : decode cL_law 589 = .ok (.iadd, 1) := by decide +kernel
theorem dL_law_590 : decode cL_law 590 = .ok (.iaload, 1) := by decide +kernel
theorem dL_law_591 : decode cL_law 591 = .ok (.aload_n 0, 1) := by decide +kernel
theorem dL_law_592 : decode cL_law 592 = .ok (.iload_n 3, 1) := by decide +kernel
theorem dL_law_593 : decode cL_law 593 = .ok (.iconst 2, 1) := by decide +kernel
theorem dL_law_594 : decode cL_law 594 = .ok (.iadd, 1) := by decide +kernel
theorem dL_law_595 : decode cL_law 595 = .ok (.iaload, 1) := by decide +kernel
theorem dL_law_596 : decode cL_law 596 = .ok (.invokevirtual 79, 3) := by decide +kernel
theorem dL_law_599 : decode cL_law 599 = .ok (.aload_n 2, 1) := by decide +kernel
theorem dL_law_600 : decode cL_law 600 = .ok (.aload_n 0, 1) := by decide +kernel
theorem dL_law_601 : decode cL_law 601 = .ok (.iload_n 3, 1) := by decide +kernel
theorem dL_law_602 : decode cL_law 602 = .ok (.iconst 1, 1) := by decide +kernel
theorem dL_law_603 : decode cL_law 603 = .ok (.iadd, 1) := by decide +kernel
theorem dL_law_604 : decode cL_law 604 = .ok (.iaload, 1) := by decide +kernel
theorem dL_law_605 : decode cL_law 605 = .ok (.aload_n 0, 1) := by decide +kernel
theorem dL_law_606 : decode cL_law 606 = .ok (.iload_n 3, 1) := by decide +kernel
theorem dL_law_607 : decode cL_law 607 = .ok (.iconst 2, 1) := by decide +kernel
theorem dL_law_608 : decode cL_law 608 = .ok (.iadd, 1) := by decide +kernel
theorem dL_law_609 : decode cL_law 609 = .ok (.iaload, 1) := by decide +kernel
theorem dL_law_610 : decode cL_law 610 = .ok (.invokevirtual 82, 3) := by decide +kernel
theorem dL_law_613 : decode cL_law 613 = .ok (.if_icmp .eq 107, 3) := by decide +kernel
theorem dL_law_616 : decode cL_law 616 = .ok (.iconst 0, 1) := by decide +kernel
theorem dL_law_617 : decode cL_law 617 = .ok (.ireturn, 1) := by decide +kernel
theorem dL_law_618 : decode cL_law 618 = .ok (.aload_n 1, 1) := by decide +kernel
theorem dL_law_619 : decode cL_law 619 = .ok (.aload_n 0, 1) := by decide +kernel
theorem dL_law_620 : decode cL_law 620 = .ok (.iload_n 3, 1) := by decide +kernel
theorem dL_law_621 : decode cL_law 621 = .ok (.iconst 1, 1) := by decide +kernel
theorem dL_law_622 : decode cL_law 622 = .ok (.iadd, 1) := by decide +kernel
theorem dL_law_623 : decode cL_law 623 = .ok (.iaload, 1) := by decide +kernel
theorem dL_law_624 : decode cL_law 624 = .ok (.aload_n 0, 1) := by decide +kernel
theorem dL_law_625 : decode cL_law 625 = .ok (.iload_n 3, 1) := by decide +kernel
theorem dL_law_626 : decode cL_law 626 = .ok (.iconst 2, 1) := by decide +kernel
theorem dL_law_627 : decode cL_law 627 = .ok (.iadd, 1) := by decide +kernel
theorem dL_law_628 : decode cL_law 628 = .ok (.iaload, 1) := by decide +kernel
theorem dL_law_629 : decode cL_law 629 = .ok (.invokevirtual 83, 3) := by decide +kernel
theorem dL_law_632 : decode cL_law 632 = .ok (.aload_n 2, 1) := by decide +kernel
theorem dL_law_633 : decode cL_law 633 = .ok (.aload_n 0, 1) := by decide +kernel
theorem dL_law_634 : decode cL_law 634 = .ok (.iload_n 3, 1) := by decide +kernel
theorem dL_law_635 : decode cL_law 635 = .ok (.iconst 1, 1) := by decide +kernel
theorem dL_law_636 : decode cL_law 636 = .ok (.iadd, 1) := by decide +kernel
theorem dL_law_637 : decode cL_law 637 = .ok (.iaload, 1) := by decide +kernel
theorem dL_law_638 : decode cL_law 638 = .ok (.aload_n 0, 1) := by decide +kernel
theorem dL_law_639 : decode cL_law 639 = .ok (.iload_n 3, 1) := by decide +kernel
theorem dL_law_640 : decode cL_law 640 = .ok (.iconst 2, 1) := by decide +kernel
theorem dL_law_641 : decode cL_law 641 = .ok (.iadd, 1) := by decide +kernel
theorem dL_law_642 : decode cL_law 642 = .ok (.iaload, 1) := by decide +kernel
theorem dL_law_643 : decode cL_law 643 = .ok (.invokevirtual 86, 3) := by decide +kernel
theorem dL_law_646 : decode cL_law 646 = .ok (.if_icmp .eq 74, 3) := by decide +kernel
theorem dL_law_649 : decode cL_law 649 = .ok (.iconst 0, 1) := by decide +kernel
theorem dL_law_650 : decode cL_law 650 = .ok (.ireturn, 1) := by decide +kernel
theorem dL_law_651 : decode cL_law 651 = .ok (.aload_n 1, 1) := by decide +kernel
theorem dL_law_652 : decode cL_law 652 = .ok (.invokevirtual 87, 3) := by decide +kernel
theorem dL_law_655 : decode cL_law 655 = .ok (.aload_n 2, 1) := by decide +kernel
theorem dL_law_656 : decode cL_law 656 = .ok (.invokevirtual 91, 3) := by decide +kernel
theorem dL_law_659 : decode cL_law 659 = .ok (.if_icmp .eq 61, 3) := by decide +kernel
theorem dL_law_662 : decode cL_law 662 = .ok (.iconst 0, 1) := by decide +kernel
theorem dL_law_663 : decode cL_law 663 = .ok (.ireturn, 1) := by decide +kernel
theorem dL_law_664 : decode cL_law 664 = .ok (.aload_n 1, 1) := by decide +kernel
theorem dL_law_665 : decode cL_law 665 = .ok (.aload_n 0, 1) := by decide +kernel
theorem dL_law_666 : decode cL_law 666 = .ok (.iload_n 3, 1) := by decide +kernel
theorem dL_law_667 : decode cL_law 667 = .ok (.iconst 1, 1) := by decide +kernel
theorem dL_law_668 : decode cL_law 668 = .ok (.iadd, 1) := by decide +kernel
theorem dL_law_669 : decode cL_law 669 = .ok (.iaload, 1) := by decide +kernel
theorem dL_law_670 : decode cL_law 670 = .ok (.aload_n 0, 1) := by decide +kernel
theorem dL_law_671 : decode cL_law 671 = .ok (.iload_n 3, 1) := by decide +kernel
theorem dL_law_672 : decode cL_law 672 = .ok (.iconst 2, 1) := by decide +kernel
theorem dL_law_673 : decode cL_law 673 = .ok (.iadd, 1) := by decide +kernel
theorem dL_law_674 : decode cL_law 674 = .ok (.iaload, 1) := by decide +kernel
theorem dL_law_675 : decode cL_law 675 = .ok (.invokevirtual 92, 3) := by decide +kernel
theorem dL_law_678 : decode cL_law 678 = .ok (.aload_n 2, 1) := by decide +kernel
theorem dL_law_679 : decode cL_law 679 = .ok (.aload_n 0, 1) := by decide +kernel
theorem dL_law_680 : decode cL_law 680 = .ok (.iload_n 3, 1) := by decide +kernel
theorem dL_law_681 : decode cL_law 681 = .ok (.iconst 1, 1) := by decide +kernel
theorem dL_law_682 : decode cL_law 682 = .ok (.iadd, 1) := by decide +kernel
theorem dL_law_683 : decode cL_law 683 = .ok (.iaload, 1) := by decide +kernel
theorem dL_law_684 : decode cL_law 684 = .ok (.aload_n 0, 1) := by decide +kernel
theorem dL_law_685 : decode cL_law 685 = .ok (.iload_n 3, 1) := by decide +kernel
theorem dL_law_686 : decode cL_law 686 = .ok (.iconst 2, 1) := by decide +kernel
theorem dL_law_687 : decode cL_law 687 = .ok (.iadd, 1) := by decide +kernel
theorem dL_law_688 : decode cL_law 688 = .ok (.iaload, 1) := by decide +kernel
theorem dL_law_689 : decode cL_law 689 = .ok (.invokevirtual 95, 3) := by decide +kernel
theorem dL_law_692 : decode cL_law 692 = .ok (.if_icmp .eq 28, 3) := by decide +kernel
theorem dL_law_695 : decode cL_law 695 = .ok (.iconst 0, 1) := by decide +kernel
theorem dL_law_696 : decode cL_law 696 = .ok (.ireturn, 1) := by decide +kernel
theorem dL_law_697 : decode cL_law 697 = .ok (.aload_n 1, 1) := by decide +kernel
theorem dL_law_698 : decode cL_law 698 = .ok (.aload_n 0, 1) := by decide +kernel
theorem dL_law_699 : decode cL_law 699 = .ok (.iload_n 3, 1) := by decide +kernel
theorem dL_law_700 : decode cL_law 700 = .ok (.iconst 1, 1) := by decide +kernel
theorem dL_law_701 : decode cL_law 701 = .ok (.iadd, 1) := by decide +kernel
theorem dL_law_702 : decode cL_law 702 = .ok (.iaload, 1) := by decide +kernel
theorem dL_law_703 : decode cL_law 703 = .ok (.invokevirtual 96, 3) := by decide +kernel
theorem dL_law_706 : decode cL_law 706 = .ok (.aload_n 2, 1) := by decide +kernel
theorem dL_law_707 : decode cL_law 707 = .ok (.aload_n 0, 1) := by decide +kernel
theorem dL_law_708 : decode cL_law 708 = .ok (.iload_n 3, 1) := by decide +kernel
theorem dL_law_709 : decode cL_law 709 = .ok (.iconst 1, 1) := by decide +kernel
theorem dL_law_710 : decode cL_law 710 = .ok (.iadd, 1) := by decide +kernel
theorem dL_law_711 : decode cL_law 711 = .ok (.iaload, 1) := by decide +kernel
theorem dL_law_712 : decode cL_law 712 = .ok (.invokevirtual 99, 3) := by decide +kernel
theorem dL_law_715 : decode cL_law 715 = .ok (.if_icmp .eq 5, 3) := by decide +kernel
theorem dL_law_718 : decode cL_law 718 = .ok (.iconst 0, 1) := by decide +kernel
theorem dL_law_719 : decode cL_law 719 = .ok (.ireturn, 1) := by decide +kernel
theorem dL_law_720 : decode cL_law 720 = .ok (.iinc 3 4, 3) := by decide +kernel
theorem dL_law_723 : decode cL_law 723 = .ok (.goto (-705), 3) := by decide +kernel
theorem dL_law_726 : decode cL_law 726 = .ok (.iconst 1, 1) := by decide +kernel
theorem dL_law_727 : decode cL_law 727 = .ok (.ireturn, 1) := by decide +kernel

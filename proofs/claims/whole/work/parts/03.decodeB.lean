theorem dX6_init_0 : decode cX6_init 0 = .ok (.aload_n 0, 1) := by decide +kernel
theorem dX6_init_1 : decode cX6_init 1 = .ok (.invokespecial 1, 3) := by decide +kernel
theorem dX6_init_4 : decode cX6_init 4 = .ok (.aload_n 0, 1) := by decide +kernel
theorem dX6_init_5 : decode cX6_init 5 = .ok (.sipush 220, 3) := by decide +kernel
theorem dX6_init_8 : decode cX6_init 8 = .ok (.newarray .int, 2) := by decide +kernel
theorem dX6_init_10 : decode cX6_init 10 = .ok (.putfield 7, 3) := by decide +kernel
theorem dX6_init_13 : decode cX6_init 13 = .ok (.aload_n 0, 1) := by decide +kernel
theorem dX6_init_14 : decode cX6_init 14 = .ok (.sipush 880, 3) := by decide +kernel
theorem dX6_init_17 : decode cX6_init 17 = .ok (.newarray .int, 2) := by decide +kernel
theorem dX6_init_19 : decode cX6_init 19 = .ok (.putfield 13, 3) := by decide +kernel
theorem dX6_init_22 : decode cX6_init 22 = .ok (.aload_n 0, 1) := by decide +kernel
theorem dX6_init_23 : decode cX6_init 23 = .ok (.sipush 220, 3) := by decide +kernel
theorem dX6_init_26 : decode cX6_init 26 = .ok (.newarray .int, 2) := by decide +kernel
theorem dX6_init_28 : decode cX6_init 28 = .ok (.putfield 16, 3) := by decide +kernel
theorem dX6_init_31 : decode cX6_init 31 = .ok (.aload_n 0, 1) := by decide +kernel
theorem dX6_init_32 : decode cX6_init 32 = .ok (.sipush 220, 3) := by decide +kernel
theorem dX6_init_35 : decode cX6_init 35 = .ok (.newarray .int, 2) := by decide +kernel
theorem dX6_init_37 : decode cX6_init 37 = .ok (.putfield 19, 3) := by decide +kernel
theorem dX6_init_40 : decode cX6_init 40 = .ok (.aload_n 0, 1) := by decide +kernel
theorem dX6_init_41 : decode cX6_init 41 = .ok (.bipush 80, 2) := by decide +kernel
theorem dX6_init_43 : decode cX6_init 43 = .ok (.newarray .char, 2) := by decide +kernel
theorem dX6_init_45 : decode cX6_init 45 = .ok (.putfield 22, 3) := by decide +kernel
theorem dX6_init_48 : decode cX6_init 48 = .ok (.aload_n 0, 1) := by decide +kernel
theorem dX6_init_49 : decode cX6_init 49 = .ok (.iconst 4, 1) := by decide +kernel
theorem dX6_init_50 : decode cX6_init 50 = .ok (.newarray .int, 2) := by decide +kernel
theorem dX6_init_52 : decode cX6_init 52 = .ok (.putfield 26, 3) := by decide +kernel
theorem dX6_init_55 : decode cX6_init 55 = .ok (.aload_n 0, 1) := by decide +kernel
theorem dX6_init_56 : decode cX6_init 56 = .ok (.iconst 4, 1) := by decide +kernel
theorem dX6_init_57 : decode cX6_init 57 = .ok (.newarray .int, 2) := by decide +kernel
theorem dX6_init_59 : decode cX6_init 59 = .ok (.putfield 29, 3) := by decide +kernel
theorem dX6_init_62 : decode cX6_init 62 = .ok (.aload_n 0, 1) := by decide +kernel
theorem dX6_init_63 : decode cX6_init 63 = .ok (.bipush 19, 2) := by decide +kernel
theorem dX6_init_65 : decode cX6_init 65 = .ok (.newarray .int, 2) := by decide +kernel
theorem dX6_init_67 : decode cX6_init 67 = .ok (.putfield 32, 3) := by decide +kernel
theorem dX6_init_70 : decode cX6_init 70 = .ok (.aload_n 0, 1) := by decide +kernel
theorem dX6_init_71 : decode cX6_init 71 = .ok (.getfield 7, 3) := by decide +kernel
theorem dX6_init_74 : decode cX6_init 74 = .ok (.iconst 0, 1) := by decide +kernel
theorem dX6_init_75 : decode cX6_init 75 = .ok (.iconst 0, 1) := by decide +kernel
theorem dX6_init_76 : decode cX6_init 76 = .ok (.iastore, 1) := by decide +kernel
theorem dX6_init_77 : decode cX6_init 77 = .ok (.return_, 1) := by decide +kernel
theorem dX6_in_0 : decode cX6_in 0 = .ok (.iload_n 0, 1) := by decide +kernel
theorem dX6_in_1 : decode cX6_in 1 = .ok (.iload_n 1, 1) := by decide +kernel
theorem dX6_in_2 : decode cX6_in 2 = .ok (.if_icmp .lt 12, 3) := by decide +kernel
theorem dX6_in_5 : decode cX6_in 5 = .ok (.iload_n 0, 1) := by decide +kernel
theorem dX6_in_6 : decode cX6_in 6 = .ok (.iload_n 2, 1) := by decide +kernel
theorem dX6_in_7 : decode cX6_in 7 = .ok (.if_icmp .gt 7, 3) := by decide +kernel
theorem dX6_in_10 : decode cX6_in 10 = .ok (.iconst 1, 1) := by decide +kernel
theorem dX6_in_11 : decode cX6_in 11 = .ok (.goto 4, 3) := by decide +kernel
theorem dX6_in_14 : decode cX6_in 14 = .ok (.iconst 0, 1) := by decide +kernel
theorem dX6_in_15 : decode cX6_in 15 = .ok (.ireturn, 1) := by decide +kernel
theorem dX6_isBlock_0 : decode cX6_isBlock 0 = .ok (.iload_n 1, 1) := by decide +kernel
theorem dX6_isBlock_1 : decode cX6_isBlock 1 = .ok (.ifCond .lt 17, 3) := by decide +kernel
theorem dX6_isBlock_4 : decode cX6_isBlock 4 = .ok (.iload_n 1, 1) := by decide +kernel
theorem dX6_isBlock_5 : decode cX6_isBlock 5 = .ok (.aload_n 0, 1) := by decide +kernel
theorem dX6_isBlock_6 : decode cX6_isBlock 6 = .ok (.getfield 7, 3) := by decide +kernel
theorem dX6_isBlock_9 : decode cX6_isBlock 9 = .ok (.iconst 0, 1) := by decide +kernel
theorem dX6_isBlock_10 : decode cX6_isBlock 10 = .ok (.iaload, 1) := by decide +kernel
theorem dX6_isBlock_11 : decode cX6_isBlock 11 = .ok (.if_icmp .ge 7, 3) := by decide +kernel
theorem dX6_isBlock_14 : decode cX6_isBlock 14 = .ok (.iconst 1, 1) := by decide +kernel
theorem dX6_isBlock_15 : decode cX6_isBlock 15 = .ok (.goto 4, 3) := by decide +kernel
theorem dX6_isBlock_18 : decode cX6_isBlock 18 = .ok (.iconst 0, 1) := by decide +kernel
theorem dX6_isBlock_19 : decode cX6_isBlock 19 = .ok (.ireturn, 1) := by decide +kernel
theorem dX6_isQuestion_0 : decode cX6_isQuestion 0 = .ok (.iload_n 1, 1) := by decide +kernel
theorem dX6_isQuestion_1 : decode cX6_isQuestion 1 = .ok (.ifCond .lt 17, 3) := by decide +kernel
theorem dX6_isQuestion_4 : decode cX6_isQuestion 4 = .ok (.iload_n 1, 1) := by decide +kernel
theorem dX6_isQuestion_5 : decode cX6_isQuestion 5 = .ok (.aload_n 0, 1) := by decide +kernel
theorem dX6_isQuestion_6 : decode cX6_isQuestion 6 = .ok (.getfield 7, 3) := by decide +kernel
theorem dX6_isQuestion_9 : decode cX6_isQuestion 9 = .ok (.iconst 1, 1) := by decide +kernel
theorem dX6_isQuestion_10 : decode cX6_isQuestion 10 = .ok (.iaload, 1) := by decide +kernel
theorem dX6_isQuestion_11 : decode cX6_isQuestion 11 = .ok (.if_icmp .ge 7, 3) := by decide +kernel
theorem dX6_isQuestion_14 : decode cX6_isQuestion 14 = .ok (.iconst 1, 1) := by decide +kernel
theorem dX6_isQuestion_15 : decode cX6_isQuestion 15 = .ok (.goto 4, 3) := by decide +kernel
theorem dX6_isQuestion_18 : decode cX6_isQuestion 18 = .ok (.iconst 0, 1) := by decide +kernel
theorem dX6_isQuestion_19 : decode cX6_isQuestion 19 = .ok (.ireturn, 1) := by decide +kernel
theorem dX6_of_0 : decode cX6_of 0 = .ok (.aload_n 0, 1) := by decide +kernel
theorem dX6_of_1 : decode cX6_of 1 = .ok (.getfield 7, 3) := by decide +kernel
theorem dX6_of_4 : decode cX6_of 4 = .ok (.iconst 4, 1) := by decide +kernel
theorem dX6_of_5 : decode cX6_of 5 = .ok (.bipush 21, 2) := by decide +kernel
theorem dX6_of_7 : decode cX6_of 7 = .ok (.iload_n 1, 1) := by decide +kernel
theorem dX6_of_8 : decode cX6_of 8 = .ok (.imul, 1) := by decide +kernel
theorem dX6_of_9 : decode cX6_of 9 = .ok (.iadd, 1) := by decide +kernel
theorem dX6_of_10 : decode cX6_of 10 = .ok (.iload_n 2, 1) := by decide +kernel
theorem dX6_of_11 : decode cX6_of 11 = .ok (.iadd, 1) := by decide +kernel
theorem dX6_of_12 : decode cX6_of 12 = .ok (.iaload, 1) := by decide +kernel
theorem dX6_of_13 : decode cX6_of 13 = .ok (.ireturn, 1) := by decide +kernel
theorem dX6_put_0 : decode cX6_put 0 = .ok (.aload_n 0, 1) := by decide +kernel
theorem dX6_put_1 : decode cX6_put 1 = .ok (.getfield 7, 3) := by decide +kernel
theorem dX6_put_4 : decode cX6_put 4 = .ok (.iconst 4, 1) := by decide +kernel
theorem dX6_put_5 : decode cX6_put 5 = .ok (.bipush 21, 2) := by decide +kernel
theorem dX6_put_7 : decode cX6_put 7 = .ok (.iload_n 1, 1) := by decide +kernel
theorem dX6_put_8 : decode cX6_put 8 = .ok (.imul, 1) := by decide +kernel
theorem dX6_put_9 : decode cX6_put 9 = .ok (.iadd, 1) := by decide +kernel
theorem dX6_put_10 : decode cX6_put 10 = .ok (.iload_n 2, 1) := by decide +kernel
theorem dX6_put_11 : decode cX6_put 11 = .ok (.iadd, 1) := by decide +kernel
theorem dX6_put_12 : decode cX6_put 12 = .ok (.iload_n 3, 1) := by decide +kernel
theorem dX6_put_13 : decode cX6_put 13 = .ok (.iastore, 1) := by decide +kernel
theorem dX6_put_14 : decode cX6_put 14 = .ok (.return_, 1) := by decide +kernel
theorem dX6_asked_0 : decode cX6_asked 0 = .ok (.aload_n 0, 1) := by decide +kernel
theorem dX6_asked_1 : decode cX6_asked 1 = .ok (.getfield 7, 3) := by decide +kernel
theorem dX6_asked_4 : decode cX6_asked 4 = .ok (.sipush 172, 3) := by decide +kernel
theorem dX6_asked_7 : decode cX6_asked 7 = .ok (.bipush 8, 2) := by decide +kernel
theorem dX6_asked_9 : decode cX6_asked 9 = .ok (.iload_n 1, 1) := by decide +kernel
theorem dX6_asked_10 : decode cX6_asked 10 = .ok (.imul, 1) := by decide +kernel
theorem dX6_asked_11 : decode cX6_asked 11 = .ok (.iadd, 1) := by decide +kernel
theorem dX6_asked_12 : decode cX6_asked 12 = .ok (.iload_n 2, 1) := by decide +kernel
theorem dX6_asked_13 : decode cX6_asked 13 = .ok (.iadd, 1) := by decide +kernel
theorem dX6_asked_14 : decode cX6_asked 14 = .ok (.iaload, 1) := by decide +kernel
theorem dX6_asked_15 : decode cX6_asked 15 = .ok (.ireturn, 1) := by decide +kernel
theorem dX6_putAsked_0 : decode cX6_putAsked 0 = .ok (.aload_n 0, 1) := by decide +kernel
theorem dX6_putAsked_1 : decode cX6_putAsked 1 = .ok (.getfield 7, 3) := by decide +kernel
theorem dX6_putAsked_4 : decode cX6_putAsked 4 = .ok (.sipush 172, 3) := by decide +kernel
theorem dX6_putAsked_7 : decode cX6_putAsked 7 = .ok (.bipush 8, 2) := by decide +kernel
theorem dX6_putAsked_9 : decode cX6_putAsked 9 = .ok (.iload_n 1, 1) := by decide +kernel
theorem dX6_putAsked_10 : decode cX6_putAsked 10 = .ok (.imul, 1) := by decide +kernel
theorem dX6_putAsked_11 : decode cX6_putAsked 11 = .ok (.iadd, 1) := by decide +kernel
theorem dX6_putAsked_12 : decode cX6_putAsked 12 = .ok (.iload_n 2, 1) := by decide +kernel
theorem dX6_putAsked_13 : decode cX6_putAsked 13 = .ok (.iadd, 1) := by decide +kernel
theorem dX6_putAsked_14 : decode cX6_putAsked 14 = .ok (.iload_n 3, 1) := by decide +kernel
theorem dX6_putAsked_15 : decode cX6_putAsked 15 = .ok (.iastore, 1) := by decide +kernel
theorem dX6_putAsked_16 : decode cX6_putAsked 16 = .ok (.return_, 1) := by decide +kernel
theorem dX6_record_0 : decode cX6_record 0 = .ok (.aload_n 0, 1) := by decide +kernel
theorem dX6_record_1 : decode cX6_record 1 = .ok (.getfield 35, 3) := by decide +kernel
theorem dX6_record_4 : decode cX6_record 4 = .ok (.iconst 4, 1) := by decide +kernel
theorem dX6_record_5 : decode cX6_record 5 = .ok (.if_icmp .ne 44, 3) := by decide +kernel
theorem dX6_record_8 : decode cX6_record 8 = .ok (.iconst 0, 1) := by decide +kernel
theorem dX6_record_9 : decode cX6_record 9 = .ok (.istore_n 1, 1) := by decide +kernel
theorem dX6_record_10 : decode cX6_record 10 = .ok (.iload_n 1, 1) := by decide +kernel
theorem dX6_record_11 : decode cX6_record 11 = .ok (.sipush 660, 3) := by decide +kernel
theorem dX6_record_14 : decode cX6_record 14 = .ok (.if_icmp .ge 25, 3) := by decide +kernel
theorem dX6_record_17 : decode cX6_record 17 = .ok (.aload_n 0, 1) := by decide +kernel
theorem dX6_record_18 : decode cX6_record 18 = .ok (.getfield 13, 3) := by decide +kernel
theorem dX6_record_21 : decode cX6_record 21 = .ok (.iload_n 1, 1) := by decide +kernel
theorem dX6_record_22 : decode cX6_record 22 = .ok (.aload_n 0, 1) := by decide +kernel
theorem dX6_record_23 : decode cX6_record 23 = .ok (.getfield 13, 3) := by decide +kernel
theorem dX6_record_26 : decode cX6_record 26 = .ok (.iload_n 1, 1) := by decide +kernel
theorem dX6_record_27 : decode cX6_record 27 = .ok (.sipush 220, 3) := by decide +kernel
theorem dX6_record_30 : decode cX6_record 30 = .ok (.iadd, 1) := by decide +kernel
theorem dX6_record_31 : decode cX6_record 31 = .ok (.iaload, 1) := by decide +kernel
theorem dX6_record_32 : decode cX6_record 32 = .ok (.iastore, 1) := by decide +kernel
theorem dX6_record_33 : decode cX6_record 33 = .ok (.iinc 1 1, 3) := by decide +kernel
theorem dX6_record_36 : decode cX6_record 36 = .ok (.goto (-26), 3) := by decide +kernel
theorem dX6_record_39 : decode cX6_record 39 = .ok (.aload_n 0, 1) := by decide +kernel
theorem dX6_record_40 : decode cX6_record 40 = .ok (.dup, 1) := by decide +kernel
theorem dX6_record_41 : decode cX6_record 41 = .ok (.getfield 35, 3) := by decide +kernel
theorem dX6_record_44 : decode cX6_record 44 = .ok (.iconst 1, 1) := by decide +kernel
theorem dX6_record_45 : decode cX6_record 45 = .ok (.isub, 1) := by decide +kernel
theorem dX6_record_46 : decode cX6_record 46 = .ok (.putfield 35, 3) := by decide +kernel
theorem dX6_record_49 : decode cX6_record 49 = .ok (.iconst 0, 1) := by decide +kernel
theorem dX6_record_50 : decode cX6_record 50 = .ok (.istore_n 1, 1) := by decide +kernel
theorem dX6_record_51 : decode cX6_record 51 = .ok (.iload_n 1, 1) := by decide +kernel
theorem dX6_record_52 : decode cX6_record 52 = .ok (.sipush 220, 3) := by decide +kernel
theorem dX6_record_55 : decode cX6_record 55 = .ok (.if_icmp .ge 30, 3) := by decide +kernel
theorem dX6_record_58 : decode cX6_record 58 = .ok (.aload_n 0, 1) := by decide +kernel
theorem dX6_record_59 : decode cX6_record 59 = .ok (.getfield 13, 3) := by decide +kernel
theorem dX6_record_62 : decode cX6_record 62 = .ok (.aload_n 0, 1) := by decide +kernel
theorem dX6_record_63 : decode cX6_record 63 = .ok (.getfield 35, 3) := by decide +kernel
theorem dX6_record_66 : decode cX6_record 66 = .ok (.sipush 220, 3) := by decide +kernel
theorem dX6_record_69 : decode cX6_record 69 = .ok (.imul, 1) := by decide +kernel
theorem dX6_record_70 : decode cX6_record 70 = .ok (.iload_n 1, 1) := by decide +kernel
theorem dX6_record_71 : decode cX6_record 71 = .ok (.iadd, 1) := by decide +kernel
theorem dX6_record_72 : decode cX6_record 72 = .ok (.aload_n 0, 1) := by decide +kernel
theorem dX6_record_73 : decode cX6_record 73 = .ok (.getfield 7, 3) := by decide +kernel
theorem dX6_record_76 : decode cX6_record 76 = .ok (.iload_n 1, 1) := by decide +kernel
theorem dX6_record_77 : decode cX6_record 77 = .ok (.iaload, 1) := by decide +kernel
theorem dX6_record_78 : decode cX6_record 78 = .ok (.iastore, 1) := by decide +kernel
theorem dX6_record_79 : decode cX6_record 79 = .ok (.iinc 1 1, 3) := by decide +kernel
theorem dX6_record_82 : decode cX6_record 82 = .ok (.goto (-31), 3) := by decide +kernel
theorem dX6_record_85 : decode cX6_record 85 = .ok (.aload_n 0, 1) := by decide +kernel
theorem dX6_record_86 : decode cX6_record 86 = .ok (.dup, 1) := by decide +kernel
theorem dX6_record_87 : decode cX6_record 87 = .ok (.getfield 35, 3) := by decide +kernel
theorem dX6_record_90 : decode cX6_record 90 = .ok (.iconst 1, 1) := by decide +kernel
theorem dX6_record_91 : decode cX6_record 91 = .ok (.iadd, 1) := by decide +kernel
theorem dX6_record_92 : decode cX6_record 92 = .ok (.putfield 35, 3) := by decide +kernel
theorem dX6_record_95 : decode cX6_record 95 = .ok (.return_, 1) := by decide +kernel
theorem dX6_undo_0 : decode cX6_undo 0 = .ok (.aload_n 0, 1) := by decide +kernel
theorem dX6_undo_1 : decode cX6_undo 1 = .ok (.getfield 35, 3) := by decide +kernel
theorem dX6_undo_4 : decode cX6_undo 4 = .ok (.ifCond .ne 6, 3) := by decide +kernel
theorem dX6_undo_7 : decode cX6_undo 7 = .ok (.bipush (-5), 2) := by decide +kernel
theorem dX6_undo_9 : decode cX6_undo 9 = .ok (.ireturn, 1) := by decide +kernel
theorem dX6_undo_10 : decode cX6_undo 10 = .ok (.aload_n 0, 1) := by decide +kernel
theorem dX6_undo_11 : decode cX6_undo 11 = .ok (.dup, 1) := by decide +kernel
theorem dX6_undo_12 : decode cX6_undo 12 = .ok (.getfield 35, 3) := by decide +kernel
theorem dX6_undo_15 : decode cX6_undo 15 = .ok (.iconst 1, 1) := by decide +kernel
theorem dX6_undo_16 : decode cX6_undo 16 = .ok (.isub, 1) := by decide +kernel
theorem dX6_undo_17 : decode cX6_undo 17 = .ok (.putfield 35, 3) := by decide +kernel
theorem dX6_undo_20 : decode cX6_undo 20 = .ok (.iconst 0, 1) := by decide +kernel
theorem dX6_undo_21 : decode cX6_undo 21 = .ok (.istore_n 1, 1) := by decide +kernel
theorem dX6_undo_22 : decode cX6_undo 22 = .ok (.iload_n 1, 1) := by decide +kernel
theorem dX6_undo_23 : decode cX6_undo 23 = .ok (.sipush 220, 3) := by decide +kernel
theorem dX6_undo_26 : decode cX6_undo 26 = .ok (.if_icmp .ge 30, 3) := by decide +kernel
theorem dX6_undo_29 : decode cX6_undo 29 = .ok (.aload_n 0, 1) := by decide +kernel
theorem dX6_undo_30 : decode cX6_undo 30 = .ok (.getfield 7, 3) := by decide +kernel
theorem dX6_undo_33 : decode cX6_undo 33 = .ok (.iload_n 1, 1) := by decide +kernel
theorem dX6_undo_34 : decode cX6_undo 34 = .ok (.aload_n 0, 1) := by decide +kernel
theorem dX6_undo_35 : decode cX6_undo 35 = .ok (.getfield 13, 3) := by decide +kernel
theorem dX6_undo_38 : decode cX6_undo 38 = .ok (.aload_n 0, 1) := by decide +kernel
theorem dX6_undo_39 : decode cX6_undo 39 = .ok (.getfield 35, 3) := by decide +kernel
theorem dX6_undo_42 : decode cX6_undo 42 = .ok (.sipush 220, 3) := by decide +kernel
theorem dX6_undo_45 : decode cX6_undo 45 = .ok (.imul, 1) := by decide +kernel
theorem dX6_undo_46 : decode cX6_undo 46 = .ok (.iload_n 1, 1) := by decide +kernel
theorem dX6_undo_47 : decode cX6_undo 47 = .ok (.iadd, 1) := by decide +kernel
theorem dX6_undo_48 : decode cX6_undo 48 = .ok (.iaload, 1) := by decide +kernel
theorem dX6_undo_49 : decode cX6_undo 49 = .ok (.iastore, 1) := by decide +kernel
theorem dX6_undo_50 : decode cX6_undo 50 = .ok (.iinc 1 1, 3) := by decide +kernel
theorem dX6_undo_53 : decode cX6_undo 53 = .ok (.goto (-31), 3) := by decide +kernel
theorem dX6_undo_56 : decode cX6_undo 56 = .ok (.aload_n 0, 1) := by decide +kernel
theorem dX6_undo_57 : decode cX6_undo 57 = .ok (.getfield 35, 3) := by decide +kernel
theorem dX6_undo_60 : decode cX6_undo 60 = .ok (.ireturn, 1) := by decide +kernel
theorem dX6_keep_0 : decode cX6_keep 0 = .ok (.aload_n 0, 1) := by decide +kernel
theorem dX6_keep_1 : decode cX6_keep 1 = .ok (.iconst 1, 1) := by decide +kernel
theorem dX6_keep_2 : decode cX6_keep 2 = .ok (.putfield 39, 3) := by decide +kernel
theorem dX6_keep_5 : decode cX6_keep 5 = .ok (.iconst 0, 1) := by decide +kernel
theorem dX6_keep_6 : decode cX6_keep 6 = .ok (.istore_n 1, 1) := by decide +kernel
theorem dX6_keep_7 : decode cX6_keep 7 = .ok (.iload_n 1, 1) := by decide +kernel
theorem dX6_keep_8 : decode cX6_keep 8 = .ok (.sipush 220, 3) := by decide +kernel
theorem dX6_keep_11 : decode cX6_keep 11 = .ok (.if_icmp .ge 21, 3) := by decide +kernel
theorem dX6_keep_14 : decode cX6_keep 14 = .ok (.aload_n 0, 1) := by decide +kernel
theorem dX6_keep_15 : decode cX6_keep 15 = .ok (.getfield 16, 3) := by decide +kernel
theorem dX6_keep_18 : decode cX6_keep 18 = .ok (.iload_n 1, 1) := by decide +kernel
theorem dX6_keep_19 : decode cX6_keep 19 = .ok (.aload_n 0, 1) := by decide +kernel
theorem dX6_keep_20 : decode cX6_keep 20 = .ok (.getfield 7, 3) := by decide +kernel
theorem dX6_keep_23 : decode cX6_keep 23 = .ok (.iload_n 1, 1) := by decide +kernel
theorem dX6_keep_24 : decode cX6_keep 24 = .ok (.iaload, 1) := by decide +kernel
theorem dX6_keep_25 : decode cX6_keep 25 = .ok (.iastore, 1) := by decide +kernel
theorem dX6_keep_26 : decode cX6_keep 26 = .ok (.iinc 1 1, 3) := by decide +kernel
theorem dX6_keep_29 : decode cX6_keep 29 = .ok (.goto (-22), 3) := by decide +kernel
theorem dX6_keep_32 : decode cX6_keep 32 = .ok (.aload_n 0, 1) := by decide +kernel
theorem dX6_keep_33 : decode cX6_keep 33 = .ok (.iconst 4, 1) := by decide +kernel
theorem dX6_keep_34 : decode cX6_keep 34 = .ok (.invokevirtual 43, 3) := by decide +kernel
theorem dX6_keep_37 : decode cX6_keep 37 = .ok (.ireturn, 1) := by decide +kernel
theorem dX6_restore_0 : decode cX6_restore 0 = .ok (.aload_n 0, 1) := by decide +kernel
theorem dX6_restore_1 : decode cX6_restore 1 = .ok (.getfield 39, 3) := by decide +kernel
theorem dX6_restore_4 : decode cX6_restore 4 = .ok (.ifCond .ne 6, 3) := by decide +kernel
theorem dX6_restore_7 : decode cX6_restore 7 = .ok (.bipush (-5), 2) := by decide +kernel
theorem dX6_restore_9 : decode cX6_restore 9 = .ok (.ireturn, 1) := by decide +kernel
theorem dX6_restore_10 : decode cX6_restore 10 = .ok (.aload_n 0, 1) := by decide +kernel
theorem dX6_restore_11 : decode cX6_restore 11 = .ok (.invokevirtual 47, 3) := by decide +kernel
theorem dX6_restore_14 : decode cX6_restore 14 = .ok (.iconst 0, 1) := by decide +kernel
theorem dX6_restore_15 : decode cX6_restore 15 = .ok (.istore_n 1, 1) := by decide +kernel
theorem dX6_restore_16 : decode cX6_restore 16 = .ok (.iload_n 1, 1) := by decide +kernel
theorem dX6_restore_17 : decode cX6_restore 17 = .ok (.sipush 220, 3) := by decide +kernel
theorem dX6_restore_20 : decode cX6_restore 20 = .ok (.if_icmp .ge 21, 3) := by decide +kernel
theorem dX6_restore_23 : decode cX6_restore 23 = .ok (.aload_n 0, 1) := by decide +kernel
theorem dX6_restore_24 : decode cX6_restore 24 = .ok (.getfield 7, 3) := by decide +kernel
theorem dX6_restore_27 : decode cX6_restore 27 = .ok (.iload_n 1, 1) := by decide +kernel
theorem dX6_restore_28 : decode cX6_restore 28 = .ok (.aload_n 0, 1) := by decide +kernel
theorem dX6_restore_29 : decode cX6_restore 29 = .ok (.getfield 16, 3) := by decide +kernel
theorem dX6_restore_32 : decode cX6_restore 32 = .ok (.iload_n 1, 1) := by decide +kernel
theorem dX6_restore_33 : decode cX6_restore 33 = .ok (.iaload, 1) := by decide +kernel
theorem dX6_restore_34 : decode cX6_restore 34 = .ok (.iastore, 1) := by decide +kernel
theorem dX6_restore_35 : decode cX6_restore 35 = .ok (.iinc 1 1, 3) := by decide +kernel
theorem dX6_restore_38 : decode cX6_restore 38 = .ok (.goto (-22), 3) := by decide +kernel
theorem dX6_restore_41 : decode cX6_restore 41 = .ok (.aload_n 0, 1) := by decide +kernel
theorem dX6_restore_42 : decode cX6_restore 42 = .ok (.iconst 4, 1) := by decide +kernel
theorem dX6_restore_43 : decode cX6_restore 43 = .ok (.invokevirtual 43, 3) := by decide +kernel
theorem dX6_restore_46 : decode cX6_restore 46 = .ok (.ireturn, 1) := by decide +kernel
theorem dX6_putAside_0 : decode cX6_putAside 0 = .ok (.iconst 0, 1) := by decide +kernel
theorem dX6_putAside_1 : decode cX6_putAside 1 = .ok (.istore_n 1, 1) := by decide +kernel
theorem dX6_putAside_2 : decode cX6_putAside 2 = .ok (.iload_n 1, 1) := by decide +kernel
theorem dX6_putAside_3 : decode cX6_putAside 3 = .ok (.sipush 220, 3) := by decide +kernel
theorem dX6_putAside_6 : decode cX6_putAside 6 = .ok (.if_icmp .ge 21, 3) := by decide +kernel
theorem dX6_putAside_9 : decode cX6_putAside 9 = .ok (.aload_n 0, 1) := by decide +kernel
theorem dX6_putAside_10 : decode cX6_putAside 10 = .ok (.getfield 19, 3) := by decide +kernel
theorem dX6_putAside_13 : decode cX6_putAside 13 = .ok (.iload_n 1, 1) := by decide +kernel
theorem dX6_putAside_14 : decode cX6_putAside 14 = .ok (.aload_n 0, 1) := by decide +kernel
theorem dX6_putAside_15 : decode cX6_putAside 15 = .ok (.getfield 7, 3) := by decide +kernel
theorem dX6_putAside_18 : decode cX6_putAside 18 = .ok (.iload_n 1, 1) := by decide +kernel
theorem dX6_putAside_19 : decode cX6_putAside 19 = .ok (.iaload, 1) := by decide +kernel
theorem dX6_putAside_20 : decode cX6_putAside 20 = .ok (.iastore, 1) := by decide +kernel
theorem dX6_putAside_21 : decode cX6_putAside 21 = .ok (.iinc 1 1, 3) := by decide +kernel
theorem dX6_putAside_24 : decode cX6_putAside 24 = .ok (.goto (-22), 3) := by decide +kernel
theorem dX6_putAside_27 : decode cX6_putAside 27 = .ok (.return_, 1) := by decide +kernel
theorem dX6_bringBack_0 : decode cX6_bringBack 0 = .ok (.iconst 0, 1) := by decide +kernel
theorem dX6_bringBack_1 : decode cX6_bringBack 1 = .ok (.istore_n 1, 1) := by decide +kernel
theorem dX6_bringBack_2 : decode cX6_bringBack 2 = .ok (.iload_n 1, 1) := by decide +kernel
theorem dX6_bringBack_3 : decode cX6_bringBack 3 = .ok (.sipush 220, 3) := by decide +kernel
theorem dX6_bringBack_6 : decode cX6_bringBack 6 = .ok (.if_icmp .ge 21, 3) := by decide +kernel
theorem dX6_bringBack_9 : decode cX6_bringBack 9 = .ok (.aload_n 0, 1) := by decide +kernel
theorem dX6_bringBack_10 : decode cX6_bringBack 10 = .ok (.getfield 7, 3) := by decide +kernel
theorem dX6_bringBack_13 : decode cX6_bringBack 13 = .ok (.iload_n 1, 1) := by decide +kernel
theorem dX6_bringBack_14 : decode cX6_bringBack 14 = .ok (.aload_n 0, 1) := by decide +kernel
theorem dX6_bringBack_15 : decode cX6_bringBack 15 = .ok (.getfield 19, 3) := by decide +kernel
theorem dX6_bringBack_18 : decode cX6_bringBack 18 = .ok (.iload_n 1, 1) := by decide +kernel
theorem dX6_bringBack_19 : decode cX6_bringBack 19 = .ok (.iaload, 1) := by decide +kernel
theorem dX6_bringBack_20 : decode cX6_bringBack 20 = .ok (.iastore, 1) := by decide +kernel
theorem dX6_bringBack_21 : decode cX6_bringBack 21 = .ok (.iinc 1 1, 3) := by decide +kernel
theorem dX6_bringBack_24 : decode cX6_bringBack 24 = .ok (.goto (-22), 3) := by decide +kernel
theorem dX6_bringBack_27 : decode cX6_bringBack 27 = .ok (.return_, 1) := by decide +kernel
theorem dX6_allOf_0 : decode cX6_allOf 0 = .ok (.iconst 0, 1) := by decide +kernel
theorem dX6_allOf_1 : decode cX6_allOf 1 = .ok (.istore_n 2, 1) := by decide +kernel
theorem dX6_allOf_2 : decode cX6_allOf 2 = .ok (.iconst 0, 1) := by decide +kernel
theorem dX6_allOf_3 : decode cX6_allOf 3 = .ok (.istore_n 3, 1) := by decide +kernel
theorem dX6_allOf_4 : decode cX6_allOf 4 = .ok (.iload_n 3, 1) := by decide +kernel
theorem dX6_allOf_5 : decode cX6_allOf 5 = .ok (.aload_n 0, 1) := by decide +kernel
theorem dX6_allOf_6 : decode cX6_allOf 6 = .ok (.getfield 7, 3) := by decide +kernel
theorem dX6_allOf_9 : decode cX6_allOf 9 = .ok (.iconst 0, 1) := by decide +kernel
theorem dX6_allOf_10 : decode cX6_allOf 10 = .ok (.iaload, 1) := by decide +kernel
theorem dX6_allOf_11 : decode cX6_allOf 11 = .ok (.if_icmp .ge 18, 3) := by decide +kernel
theorem dX6_allOf_14 : decode cX6_allOf 14 = .ok (.iload_n 2, 1) := by decide +kernel
theorem dX6_allOf_15 : decode cX6_allOf 15 = .ok (.aload_n 0, 1) := by decide +kernel
theorem dX6_allOf_16 : decode cX6_allOf 16 = .ok (.iload_n 3, 1) := by decide +kernel
theorem dX6_allOf_17 : decode cX6_allOf 17 = .ok (.iload_n 1, 1) := by decide +kernel
theorem dX6_allOf_18 : decode cX6_allOf 18 = .ok (.invokevirtual 50, 3) := by decide +kernel
theorem dX6_allOf_21 : decode cX6_allOf 21 = .ok (.iadd, 1) := by decide +kernel
theorem dX6_allOf_22 : decode cX6_allOf 22 = .ok (.istore_n 2, 1) := by decide +kernel
theorem dX6_allOf_23 : decode cX6_allOf 23 = .ok (.iinc 3 1, 3) := by decide +kernel
theorem dX6_allOf_26 : decode cX6_allOf 26 = .ok (.goto (-22), 3) := by decide +kernel
theorem dX6_allOf_29 : decode cX6_allOf 29 = .ok (.iload_n 2, 1) := by decide +kernel
theorem dX6_allOf_30 : decode cX6_allOf 30 = .ok (.ireturn, 1) := by decide +kernel
theorem dX6_layReads_0 : decode cX6_layReads 0 = .ok (.iconst 0, 1) := by decide +kernel
theorem dX6_layReads_1 : decode cX6_layReads 1 = .ok (.istore_n 1, 1) := by decide +kernel
theorem dX6_layReads_2 : decode cX6_layReads 2 = .ok (.iload_n 1, 1) := by decide +kernel
theorem dX6_layReads_3 : decode cX6_layReads 3 = .ok (.iconst 4, 1) := by decide +kernel
theorem dX6_layReads_4 : decode cX6_layReads 4 = .ok (.if_icmp .ge 23, 3) := by decide +kernel
theorem dX6_layReads_7 : decode cX6_layReads 7 = .ok (.aload_n 0, 1) := by decide +kernel
theorem dX6_layReads_8 : decode cX6_layReads 8 = .ok (.getfield 26, 3) := by decide +kernel
theorem dX6_layReads_11 : decode cX6_layReads 11 = .ok (.iload_n 1, 1) := by decide +kernel
theorem dX6_layReads_12 : decode cX6_layReads 12 = .ok (.iconst 0, 1) := by decide +kernel
theorem dX6_layReads_13 : decode cX6_layReads 13 = .ok (.iastore, 1) := by decide +kernel
theorem dX6_layReads_14 : decode cX6_layReads 14 = .ok (.aload_n 0, 1) := by decide +kernel
theorem dX6_layReads_15 : decode cX6_layReads 15 = .ok (.getfield 29, 3) := by decide +kernel
theorem dX6_layReads_18 : decode cX6_layReads 18 = .ok (.iload_n 1, 1) := by decide +kernel
theorem dX6_layReads_19 : decode cX6_layReads 19 = .ok (.iconst 0, 1) := by decide +kernel
theorem dX6_layReads_20 : decode cX6_layReads 20 = .ok (.iastore, 1) := by decide +kernel
theorem dX6_layReads_21 : decode cX6_layReads 21 = .ok (.iinc 1 1, 3) := by decide +kernel
theorem dX6_layReads_24 : decode cX6_layReads 24 = .ok (.goto (-22), 3) := by decide +kernel
theorem dX6_layReads_27 : decode cX6_layReads 27 = .ok (.iconst 0, 1) := by decide +kernel
theorem dX6_layReads_28 : decode cX6_layReads 28 = .ok (.istore_n 1, 1) := by decide +kernel
theorem dX6_layReads_29 : decode cX6_layReads 29 = .ok (.iload_n 1, 1) := by decide +kernel
theorem dX6_layReads_30 : decode cX6_layReads 30 = .ok (.aload_n 0, 1) := by decide +kernel
theorem dX6_layReads_31 : decode cX6_layReads 31 = .ok (.getfield 7, 3) := by decide +kernel
theorem dX6_layReads_34 : decode cX6_layReads 34 = .ok (.iconst 0, 1) := by decide +kernel
theorem dX6_layReads_35 : decode cX6_layReads 35 = .ok (.iaload, 1) := by decide +kernel
theorem dX6_layReads_36 : decode cX6_layReads 36 = .ok (.if_icmp .ge 48, 3) := by decide +kernel
theorem dX6_layReads_39 : decode cX6_layReads 39 = .ok (.aload_n 0, 1) := by decide +kernel
theorem dX6_layReads_40 : decode cX6_layReads 40 = .ok (.getfield 26, 3) := by decide +kernel
theorem dX6_layReads_43 : decode cX6_layReads 43 = .ok (.aload_n 0, 1) := by decide +kernel
theorem dX6_layReads_44 : decode cX6_layReads 44 = .ok (.iload_n 1, 1) := by decide +kernel
theorem dX6_layReads_45 : decode cX6_layReads 45 = .ok (.iconst 0, 1) := by decide +kernel
theorem dX6_layReads_46 : decode cX6_layReads 46 = .ok (.invokevirtual 50, 3) := by decide +kernel
theorem dX6_layReads_49 : decode cX6_layReads 49 = .ok (.dup2, 1) := by decide +kernel
theorem dX6_layReads_50 : decode cX6_layReads 50 = .ok (.iaload, 1) := by decide +kernel
theorem dX6_layReads_51 : decode cX6_layReads 51 = .ok (.aload_n 0, 1) := by decide +kernel
theorem dX6_layReads_52 : decode cX6_layReads 52 = .ok (.iload_n 1, 1) := by decide +kernel
theorem dX6_layReads_53 : decode cX6_layReads 53 = .ok (.invokevirtual 54, 3) := by decide +kernel
theorem dX6_layReads_56 : decode cX6_layReads 56 = .ok (.iadd, 1) := by decide +kernel
theorem dX6_layReads_57 : decode cX6_layReads 57 = .ok (.iastore, 1) := by decide +kernel
theorem dX6_layReads_58 : decode cX6_layReads 58 = .ok (.aload_n 0, 1) := by decide +kernel
theorem dX6_layReads_59 : decode cX6_layReads 59 = .ok (.getfield 29, 3) := by decide +kernel
theorem dX6_layReads_62 : decode cX6_layReads 62 = .ok (.aload_n 0, 1) := by decide +kernel
theorem dX6_layReads_63 : decode cX6_layReads 63 = .ok (.iload_n 1, 1) := by decide +kernel
theorem dX6_layReads_64 : decode cX6_layReads 64 = .ok (.iconst 0, 1) := by decide +kernel
theorem dX6_layReads_65 : decode cX6_layReads 65 = .ok (.invokevirtual 50, 3) := by decide +kernel
theorem dX6_layReads_68 : decode cX6_layReads 68 = .ok (.dup2, 1) := by decide +kernel
theorem dX6_layReads_69 : decode cX6_layReads 69 = .ok (.iaload, 1) := by decide +kernel
theorem dX6_layReads_70 : decode cX6_layReads 70 = .ok (.aload_n 0, 1) := by decide +kernel
theorem dX6_layReads_71 : decode cX6_layReads 71 = .ok (.iload_n 1, 1) := by decide +kernel
theorem dX6_layReads_72 : decode cX6_layReads 72 = .ok (.iconst 4, 1) := by decide +kernel
theorem dX6_layReads_73 : decode cX6_layReads 73 = .ok (.invokevirtual 50, 3) := by decide +kernel
theorem dX6_layReads_76 : decode cX6_layReads 76 = .ok (.iadd, 1) := by decide +kernel
theorem dX6_layReads_77 : decode cX6_layReads 77 = .ok (.iastore, 1) := by decide +kernel
theorem dX6_layReads_78 : decode cX6_layReads 78 = .ok (.iinc 1 1, 3) := by decide +kernel
theorem dX6_layReads_81 : decode cX6_layReads 81 = .ok (.goto (-52), 3) := by decide +kernel
theorem dX6_layReads_84 : decode cX6_layReads 84 = .ok (.return_, 1) := by decide +kernel
theorem dX6_sumRead_0 : decode cX6_sumRead 0 = .ok (.iconst 0, 1) := by decide +kernel
theorem dX6_sumRead_1 : decode cX6_sumRead 1 = .ok (.istore_n 2, 1) := by decide +kernel
theorem dX6_sumRead_2 : decode cX6_sumRead 2 = .ok (.iconst 0, 1) := by decide +kernel
theorem dX6_sumRead_3 : decode cX6_sumRead 3 = .ok (.istore_n 3, 1) := by decide +kernel
theorem dX6_sumRead_4 : decode cX6_sumRead 4 = .ok (.iload_n 3, 1) := by decide +kernel
theorem dX6_sumRead_5 : decode cX6_sumRead 5 = .ok (.aload_n 0, 1) := by decide +kernel
theorem dX6_sumRead_6 : decode cX6_sumRead 6 = .ok (.iload_n 1, 1) := by decide +kernel
theorem dX6_sumRead_7 : decode cX6_sumRead 7 = .ok (.iconst 4, 1) := by decide +kernel
theorem dX6_sumRead_8 : decode cX6_sumRead 8 = .ok (.invokevirtual 50, 3) := by decide +kernel
theorem dX6_sumRead_11 : decode cX6_sumRead 11 = .ok (.if_icmp .ge 20, 3) := by decide +kernel
theorem dX6_sumRead_14 : decode cX6_sumRead 14 = .ok (.iload_n 2, 1) := by decide +kernel
theorem dX6_sumRead_15 : decode cX6_sumRead 15 = .ok (.aload_n 0, 1) := by decide +kernel
theorem dX6_sumRead_16 : decode cX6_sumRead 16 = .ok (.iload_n 1, 1) := by decide +kernel
theorem dX6_sumRead_17 : decode cX6_sumRead 17 = .ok (.iconst 5, 1) := by decide +kernel
theorem dX6_sumRead_18 : decode cX6_sumRead 18 = .ok (.iload_n 3, 1) := by decide +kernel
theorem dX6_sumRead_19 : decode cX6_sumRead 19 = .ok (.iadd, 1) := by decide +kernel
theorem dX6_sumRead_20 : decode cX6_sumRead 20 = .ok (.invokevirtual 50, 3) := by decide +kernel
theorem dX6_sumRead_23 : decode cX6_sumRead 23 = .ok (.iadd, 1) := by decide +kernel
theorem dX6_sumRead_24 : decode cX6_sumRead 24 = .ok (.istore_n 2, 1) := by decide +kernel
theorem dX6_sumRead_25 : decode cX6_sumRead 25 = .ok (.iinc 3 1, 3) := by decide +kernel
theorem dX6_sumRead_28 : decode cX6_sumRead 28 = .ok (.goto (-24), 3) := by decide +kernel
theorem dX6_sumRead_31 : decode cX6_sumRead 31 = .ok (.iload_n 2, 1) := by decide +kernel
theorem dX6_sumRead_32 : decode cX6_sumRead 32 = .ok (.ireturn, 1) := by decide +kernel
theorem dX6_taken_0 : decode cX6_taken 0 = .ok (.iload_n 2, 1) := by decide +kernel
theorem dX6_taken_1 : decode cX6_taken 1 = .ok (.iconst 2, 1) := by decide +kernel
theorem dX6_taken_2 : decode cX6_taken 2 = .ok (.if_icmp .ge 12, 3) := by decide +kernel
theorem dX6_taken_5 : decode cX6_taken 5 = .ok (.aload_n 0, 1) := by decide +kernel
theorem dX6_taken_6 : decode cX6_taken 6 = .ok (.iload_n 1, 1) := by decide +kernel
theorem dX6_taken_7 : decode cX6_taken 7 = .ok (.iconst 1, 1) := by decide +kernel
theorem dX6_taken_8 : decode cX6_taken 8 = .ok (.iload_n 2, 1) := by decide +kernel
theorem dX6_taken_9 : decode cX6_taken 9 = .ok (.iadd, 1) := by decide +kernel
theorem dX6_taken_10 : decode cX6_taken 10 = .ok (.invokevirtual 50, 3) := by decide +kernel
theorem dX6_taken_13 : decode cX6_taken 13 = .ok (.ireturn, 1) := by decide +kernel
theorem dX6_taken_14 : decode cX6_taken 14 = .ok (.aload_n 0, 1) := by decide +kernel
theorem dX6_taken_15 : decode cX6_taken 15 = .ok (.iload_n 1, 1) := by decide +kernel
theorem dX6_taken_16 : decode cX6_taken 16 = .ok (.iconst 0, 1) := by decide +kernel
theorem dX6_taken_17 : decode cX6_taken 17 = .ok (.invokevirtual 50, 3) := by decide +kernel
theorem dX6_taken_20 : decode cX6_taken 20 = .ok (.istore_n 3, 1) := by decide +kernel
theorem dX6_taken_21 : decode cX6_taken 21 = .ok (.aload_n 0, 1) := by decide +kernel
theorem dX6_taken_22 : decode cX6_taken 22 = .ok (.getfield 29, 3) := by decide +kernel
theorem dX6_taken_25 : decode cX6_taken 25 = .ok (.iload_n 3, 1) := by decide +kernel
theorem dX6_taken_26 : decode cX6_taken 26 = .ok (.iaload, 1) := by decide +kernel
theorem dX6_taken_27 : decode cX6_taken 27 = .ok (.ifCond .ne 19, 3) := by decide +kernel
theorem dX6_taken_30 : decode cX6_taken 30 = .ok (.aload_n 0, 1) := by decide +kernel
theorem dX6_taken_31 : decode cX6_taken 31 = .ok (.iload_n 1, 1) := by decide +kernel
theorem dX6_taken_32 : decode cX6_taken 32 = .ok (.iconst 1, 1) := by decide +kernel
theorem dX6_taken_33 : decode cX6_taken 33 = .ok (.invokevirtual 50, 3) := by decide +kernel
theorem dX6_taken_36 : decode cX6_taken 36 = .ok (.aload_n 0, 1) := by decide +kernel
theorem dX6_taken_37 : decode cX6_taken 37 = .ok (.iload_n 1, 1) := by decide +kernel
theorem dX6_taken_38 : decode cX6_taken 38 = .ok (.iconst 2, 1) := by decide +kernel
theorem dX6_taken_39 : decode cX6_taken 39 = .ok (.invokevirtual 50, 3) := by decide +kernel
theorem dX6_taken_42 : decode cX6_taken 42 = .ok (.iadd, 1) := by decide +kernel
theorem dX6_taken_43 : decode cX6_taken 43 = .ok (.iconst 2, 1) := by decide +kernel
theorem dX6_taken_44 : decode cX6_taken 44 = .ok (.idiv, 1) := by decide +kernel
theorem dX6_taken_45 : decode cX6_taken 45 = .ok (.ireturn, 1) := by decide +kernel
theorem dX6_taken_46 : decode cX6_taken 46 = .ok (.aload_n 0, 1) := by decide +kernel
theorem dX6_taken_47 : decode cX6_taken 47 = .ok (.getfield 26, 3) := by decide +kernel
theorem dX6_taken_50 : decode cX6_taken 50 = .ok (.iload_n 3, 1) := by decide +kernel
theorem dX6_taken_51 : decode cX6_taken 51 = .ok (.iaload, 1) := by decide +kernel
theorem dX6_taken_52 : decode cX6_taken 52 = .ok (.aload_n 0, 1) := by decide +kernel
theorem dX6_taken_53 : decode cX6_taken 53 = .ok (.getfield 29, 3) := by decide +kernel
theorem dX6_taken_56 : decode cX6_taken 56 = .ok (.iload_n 3, 1) := by decide +kernel
theorem dX6_taken_57 : decode cX6_taken 57 = .ok (.iaload, 1) := by decide +kernel
theorem dX6_taken_58 : decode cX6_taken 58 = .ok (.idiv, 1) := by decide +kernel
theorem dX6_taken_59 : decode cX6_taken 59 = .ok (.istore 4, 2) := by decide +kernel
theorem dX6_taken_61 : decode cX6_taken 61 = .ok (.iload 4, 2) := by decide +kernel
theorem dX6_taken_63 : decode cX6_taken 63 = .ok (.aload_n 0, 1) := by decide +kernel
theorem dX6_taken_64 : decode cX6_taken 64 = .ok (.iload_n 1, 1) := by decide +kernel
theorem dX6_taken_65 : decode cX6_taken 65 = .ok (.iconst 1, 1) := by decide +kernel
theorem dX6_taken_66 : decode cX6_taken 66 = .ok (.invokevirtual 50, 3) := by decide +kernel
theorem dX6_taken_69 : decode cX6_taken 69 = .ok (.if_icmp .ge 12, 3) := by decide +kernel
theorem dX6_taken_72 : decode cX6_taken 72 = .ok (.aload_n 0, 1) := by decide +kernel
theorem dX6_taken_73 : decode cX6_taken 73 = .ok (.iload_n 1, 1) := by decide +kernel
theorem dX6_taken_74 : decode cX6_taken 74 = .ok (.iconst 1, 1) := by decide +kernel
theorem dX6_taken_75 : decode cX6_taken 75 = .ok (.invokevirtual 50, 3) := by decide +kernel
theorem dX6_taken_78 : decode cX6_taken 78 = .ok (.goto 25, 3) := by decide +kernel
theorem dX6_taken_81 : decode cX6_taken 81 = .ok (.iload 4, 2) := by decide +kernel
theorem dX6_taken_83 : decode cX6_taken 83 = .ok (.aload_n 0, 1) := by decide +kernel
theorem dX6_taken_84 : decode cX6_taken 84 = .ok (.iload_n 1, 1) := by decide +kernel
theorem dX6_taken_85 : decode cX6_taken 85 = .ok (.iconst 2, 1) := by decide +kernel
theorem dX6_taken_86 : decode cX6_taken 86 = .ok (.invokevirtual 50, 3) := by decide +kernel
theorem dX6_taken_89 : decode cX6_taken 89 = .ok (.if_icmp .le 12, 3) := by decide +kernel
theorem dX6_taken_92 : decode cX6_taken 92 = .ok (.aload_n 0, 1) := by decide +kernel
theorem dX6_taken_93 : decode cX6_taken 93 = .ok (.iload_n 1, 1) := by decide +kernel
theorem dX6_taken_94 : decode cX6_taken 94 = .ok (.iconst 2, 1) := by decide +kernel
theorem dX6_taken_95 : decode cX6_taken 95 = .ok (.invokevirtual 50, 3) := by decide +kernel
theorem dX6_taken_98 : decode cX6_taken 98 = .ok (.goto 5, 3) := by decide +kernel
theorem dX6_taken_101 : decode cX6_taken 101 = .ok (.iload 4, 2) := by decide +kernel
theorem dX6_taken_103 : decode cX6_taken 103 = .ok (.ireturn, 1) := by decide +kernel
theorem dX6_isOf_0 : decode cX6_isOf 0 = .ok (.aload_n 0, 1) := by decide +kernel
theorem dX6_isOf_1 : decode cX6_isOf 1 = .ok (.iload_n 1, 1) := by decide +kernel
theorem dX6_isOf_2 : decode cX6_isOf 2 = .ok (.iconst 1, 1) := by decide +kernel
theorem dX6_isOf_3 : decode cX6_isOf 3 = .ok (.invokevirtual 57, 3) := by decide +kernel
theorem dX6_isOf_6 : decode cX6_isOf 6 = .ok (.aload_n 0, 1) := by decide +kernel
theorem dX6_isOf_7 : decode cX6_isOf 7 = .ok (.iload_n 2, 1) := by decide +kernel
theorem dX6_isOf_8 : decode cX6_isOf 8 = .ok (.iconst 0, 1) := by decide +kernel
theorem dX6_isOf_9 : decode cX6_isOf 9 = .ok (.invokevirtual 50, 3) := by decide +kernel
theorem dX6_isOf_12 : decode cX6_isOf 12 = .ok (.ishr, 1) := by decide +kernel
theorem dX6_isOf_13 : decode cX6_isOf 13 = .ok (.iconst 1, 1) := by decide +kernel
theorem dX6_isOf_14 : decode cX6_isOf 14 = .ok (.iand, 1) := by decide +kernel
theorem dX6_isOf_15 : decode cX6_isOf 15 = .ok (.iconst 1, 1) := by decide +kernel
theorem dX6_isOf_16 : decode cX6_isOf 16 = .ok (.if_icmp .ne 7, 3) := by decide +kernel
theorem dX6_isOf_19 : decode cX6_isOf 19 = .ok (.iconst 1, 1) := by decide +kernel
theorem dX6_isOf_20 : decode cX6_isOf 20 = .ok (.goto 4, 3) := by decide +kernel
theorem dX6_isOf_23 : decode cX6_isOf 23 = .ok (.iconst 0, 1) := by decide +kernel
theorem dX6_isOf_24 : decode cX6_isOf 24 = .ok (.ireturn, 1) := by decide +kernel
theorem dX6_rowsOf_0 : decode cX6_rowsOf 0 = .ok (.iconst 0, 1) := by decide +kernel
theorem dX6_rowsOf_1 : decode cX6_rowsOf 1 = .ok (.istore_n 3, 1) := by decide +kernel
theorem dX6_rowsOf_2 : decode cX6_rowsOf 2 = .ok (.iconst 0, 1) := by decide +kernel
theorem dX6_rowsOf_3 : decode cX6_rowsOf 3 = .ok (.istore 4, 2) := by decide +kernel
theorem dX6_rowsOf_5 : decode cX6_rowsOf 5 = .ok (.iload 4, 2) := by decide +kernel
theorem dX6_rowsOf_7 : decode cX6_rowsOf 7 = .ok (.aload_n 0, 1) := by decide +kernel
theorem dX6_rowsOf_8 : decode cX6_rowsOf 8 = .ok (.getfield 7, 3) := by decide +kernel
theorem dX6_rowsOf_11 : decode cX6_rowsOf 11 = .ok (.iconst 0, 1) := by decide +kernel
theorem dX6_rowsOf_12 : decode cX6_rowsOf 12 = .ok (.iaload, 1) := by decide +kernel
theorem dX6_rowsOf_13 : decode cX6_rowsOf 13 = .ok (.if_icmp .ge 33, 3) := by decide +kernel
theorem dX6_rowsOf_16 : decode cX6_rowsOf 16 = .ok (.iload_n 3, 1) := by decide +kernel
theorem dX6_rowsOf_17 : decode cX6_rowsOf 17 = .ok (.aload_n 0, 1) := by decide +kernel
theorem dX6_rowsOf_18 : decode cX6_rowsOf 18 = .ok (.iload_n 1, 1) := by decide +kernel
theorem dX6_rowsOf_19 : decode cX6_rowsOf 19 = .ok (.iload 4, 2) := by decide +kernel
theorem dX6_rowsOf_21 : decode cX6_rowsOf 21 = .ok (.invokevirtual 60, 3) := by decide +kernel
theorem dX6_rowsOf_24 : decode cX6_rowsOf 24 = .ok (.ifCond .eq 13, 3) := by decide +kernel
theorem dX6_rowsOf_27 : decode cX6_rowsOf 27 = .ok (.aload_n 0, 1) := by decide +kernel
theorem dX6_rowsOf_28 : decode cX6_rowsOf 28 = .ok (.iload 4, 2) := by decide +kernel
theorem dX6_rowsOf_30 : decode cX6_rowsOf 30 = .ok (.iload_n 2, 1) := by decide +kernel
theorem dX6_rowsOf_31 : decode cX6_rowsOf 31 = .ok (.invokevirtual 50, 3) := by decide +kernel
theorem dX6_rowsOf_34 : decode cX6_rowsOf 34 = .ok (.goto 4, 3) := by decide +kernel
theorem dX6_rowsOf_37 : decode cX6_rowsOf 37 = .ok (.iconst 0, 1) := by decide +kernel
theorem dX6_rowsOf_38 : decode cX6_rowsOf 38 = .ok (.iadd, 1) := by decide +kernel
theorem dX6_rowsOf_39 : decode cX6_rowsOf 39 = .ok (.istore_n 3, 1) := by decide +kernel
theorem dX6_rowsOf_40 : decode cX6_rowsOf 40 = .ok (.iinc 4 1, 3) := by decide +kernel
theorem dX6_rowsOf_43 : decode cX6_rowsOf 43 = .ok (.goto (-38), 3) := by decide +kernel
theorem dX6_rowsOf_46 : decode cX6_rowsOf 46 = .ok (.iload_n 3, 1) := by decide +kernel
theorem dX6_rowsOf_47 : decode cX6_rowsOf 47 = .ok (.ireturn, 1) := by decide +kernel
theorem dX6_meet_0 : decode cX6_meet 0 = .ok (.aload_n 0, 1) := by decide +kernel
theorem dX6_meet_1 : decode cX6_meet 1 = .ok (.dup, 1) := by decide +kernel
theorem dX6_meet_2 : decode cX6_meet 2 = .ok (.getfield 64, 3) := by decide +kernel
theorem dX6_meet_5 : decode cX6_meet 5 = .ok (.iload_n 2, 1) := by decide +kernel
theorem dX6_meet_6 : decode cX6_meet 6 = .ok (.iadd, 1) := by decide +kernel
theorem dX6_meet_7 : decode cX6_meet 7 = .ok (.putfield 64, 3) := by decide +kernel
theorem dX6_meet_10 : decode cX6_meet 10 = .ok (.aload_n 0, 1) := by decide +kernel
theorem dX6_meet_11 : decode cX6_meet 11 = .ok (.dup, 1) := by decide +kernel
theorem dX6_meet_12 : decode cX6_meet 12 = .ok (.getfield 67, 3) := by decide +kernel
theorem dX6_meet_15 : decode cX6_meet 15 = .ok (.iload_n 2, 1) := by decide +kernel
theorem dX6_meet_16 : decode cX6_meet 16 = .ok (.aload_n 0, 1) := by decide +kernel
theorem dX6_meet_17 : decode cX6_meet 17 = .ok (.iload_n 1, 1) := by decide +kernel
theorem dX6_meet_18 : decode cX6_meet 18 = .ok (.iconst 2, 1) := by decide +kernel
theorem dX6_meet_19 : decode cX6_meet 19 = .ok (.invokevirtual 57, 3) := by decide +kernel
theorem dX6_meet_22 : decode cX6_meet 22 = .ok (.if_icmp .lt 7, 3) := by decide +kernel
theorem dX6_meet_25 : decode cX6_meet 25 = .ok (.iconst 1, 1) := by decide +kernel
theorem dX6_meet_26 : decode cX6_meet 26 = .ok (.goto 4, 3) := by decide +kernel
theorem dX6_meet_29 : decode cX6_meet 29 = .ok (.iconst 0, 1) := by decide +kernel
theorem dX6_meet_30 : decode cX6_meet 30 = .ok (.iadd, 1) := by decide +kernel
theorem dX6_meet_31 : decode cX6_meet 31 = .ok (.putfield 67, 3) := by decide +kernel
theorem dX6_meet_34 : decode cX6_meet 34 = .ok (.aload_n 0, 1) := by decide +kernel
theorem dX6_meet_35 : decode cX6_meet 35 = .ok (.iload_n 2, 1) := by decide +kernel
theorem dX6_meet_36 : decode cX6_meet 36 = .ok (.aload_n 0, 1) := by decide +kernel
theorem dX6_meet_37 : decode cX6_meet 37 = .ok (.getfield 70, 3) := by decide +kernel
theorem dX6_meet_40 : decode cX6_meet 40 = .ok (.if_icmp .ge 7, 3) := by decide +kernel
theorem dX6_meet_43 : decode cX6_meet 43 = .ok (.iload_n 2, 1) := by decide +kernel
theorem dX6_meet_44 : decode cX6_meet 44 = .ok (.goto 7, 3) := by decide +kernel
theorem dX6_meet_47 : decode cX6_meet 47 = .ok (.aload_n 0, 1) := by decide +kernel
theorem dX6_meet_48 : decode cX6_meet 48 = .ok (.getfield 70, 3) := by decide +kernel
theorem dX6_meet_51 : decode cX6_meet 51 = .ok (.putfield 70, 3) := by decide +kernel
theorem dX6_meet_54 : decode cX6_meet 54 = .ok (.aload_n 0, 1) := by decide +kernel
theorem dX6_meet_55 : decode cX6_meet 55 = .ok (.iload_n 2, 1) := by decide +kernel
theorem dX6_meet_56 : decode cX6_meet 56 = .ok (.aload_n 0, 1) := by decide +kernel
theorem dX6_meet_57 : decode cX6_meet 57 = .ok (.getfield 73, 3) := by decide +kernel
theorem dX6_meet_60 : decode cX6_meet 60 = .ok (.if_icmp .le 7, 3) := by decide +kernel
theorem dX6_meet_63 : decode cX6_meet 63 = .ok (.iload_n 2, 1) := by decide +kernel
theorem dX6_meet_64 : decode cX6_meet 64 = .ok (.goto 7, 3) := by decide +kernel
theorem dX6_meet_67 : decode cX6_meet 67 = .ok (.aload_n 0, 1) := by decide +kernel
theorem dX6_meet_68 : decode cX6_meet 68 = .ok (.getfield 73, 3) := by decide +kernel
theorem dX6_meet_71 : decode cX6_meet 71 = .ok (.putfield 73, 3) := by decide +kernel
theorem dX6_meet_74 : decode cX6_meet 74 = .ok (.return_, 1) := by decide +kernel
theorem dX6_answer_0 : decode cX6_answer 0 = .ok (.aload_n 0, 1) := by decide +kernel
theorem dX6_answer_1 : decode cX6_answer 1 = .ok (.iload_n 1, 1) := by decide +kernel
theorem dX6_answer_2 : decode cX6_answer 2 = .ok (.iconst 3, 1) := by decide +kernel
theorem dX6_answer_3 : decode cX6_answer 3 = .ok (.invokevirtual 76, 3) := by decide +kernel
theorem dX6_answer_6 : decode cX6_answer 6 = .ok (.istore_n 3, 1) := by decide +kernel
theorem dX6_answer_7 : decode cX6_answer 7 = .ok (.iload_n 3, 1) := by decide +kernel
theorem dX6_answer_8 : decode cX6_answer 8 = .ok (.ifCond .ne 6, 3) := by decide +kernel
theorem dX6_answer_11 : decode cX6_answer 11 = .ok (.bipush (-5), 2) := by decide +kernel
theorem dX6_answer_13 : decode cX6_answer 13 = .ok (.ireturn, 1) := by decide +kernel
theorem dX6_answer_14 : decode cX6_answer 14 = .ok (.aload_n 0, 1) := by decide +kernel
theorem dX6_answer_15 : decode cX6_answer 15 = .ok (.invokevirtual 79, 3) := by decide +kernel
theorem dX6_answer_18 : decode cX6_answer 18 = .ok (.aload_n 0, 1) := by decide +kernel
theorem dX6_answer_19 : decode cX6_answer 19 = .ok (.iconst 0, 1) := by decide +kernel
theorem dX6_answer_20 : decode cX6_answer 20 = .ok (.putfield 64, 3) := by decide +kernel
theorem dX6_answer_23 : decode cX6_answer 23 = .ok (.aload_n 0, 1) := by decide +kernel
theorem dX6_answer_24 : decode cX6_answer 24 = .ok (.iconst 0, 1) := by decide +kernel
theorem dX6_answer_25 : decode cX6_answer 25 = .ok (.putfield 67, 3) := by decide +kernel
theorem dX6_answer_28 : decode cX6_answer 28 = .ok (.aload_n 0, 1) := by decide +kernel
theorem dX6_answer_29 : decode cX6_answer 29 = .ok (.sipush 1000, 3) := by decide +kernel
theorem dX6_answer_32 : decode cX6_answer 32 = .ok (.putfield 70, 3) := by decide +kernel
theorem dX6_answer_35 : decode cX6_answer 35 = .ok (.aload_n 0, 1) := by decide +kernel
theorem dX6_answer_36 : decode cX6_answer 36 = .ok (.iconst (-1), 1) := by decide +kernel
theorem dX6_answer_37 : decode cX6_answer 37 = .ok (.putfield 73, 3) := by decide +kernel
theorem dX6_answer_40 : decode cX6_answer 40 = .ok (.iconst 0, 1) := by decide +kernel
theorem dX6_answer_41 : decode cX6_answer 41 = .ok (.istore 4, 2) := by decide +kernel
theorem dX6_answer_43 : decode cX6_answer 43 = .ok (.iload 4, 2) := by decide +kernel
theorem dX6_answer_45 : decode cX6_answer 45 = .ok (.aload_n 0, 1) := by decide +kernel
theorem dX6_answer_46 : decode cX6_answer 46 = .ok (.getfield 7, 3) := by decide +kernel
theorem dX6_answer_49 : decode cX6_answer 49 = .ok (.iconst 0, 1) := by decide +kernel
theorem dX6_answer_50 : decode cX6_answer 50 = .ok (.iaload, 1) := by decide +kernel
theorem dX6_answer_51 : decode cX6_answer 51 = .ok (.if_icmp .ge 77, 3) := by decide +kernel
theorem dX6_answer_54 : decode cX6_answer 54 = .ok (.iconst 0, 1) := by decide +kernel
theorem dX6_answer_55 : decode cX6_answer 55 = .ok (.istore 5, 2) := by decide +kernel
theorem dX6_answer_57 : decode cX6_answer 57 = .ok (.iload 5, 2) := by decide +kernel
theorem dX6_answer_59 : decode cX6_answer 59 = .ok (.aload_n 0, 1) := by decide +kernel
theorem dX6_answer_60 : decode cX6_answer 60 = .ok (.iload 4, 2) := by decide +kernel
theorem dX6_answer_62 : decode cX6_answer 62 = .ok (.iconst 3, 1) := by decide +kernel
theorem dX6_answer_63 : decode cX6_answer 63 = .ok (.invokevirtual 50, 3) := by decide +kernel
theorem dX6_answer_66 : decode cX6_answer 66 = .ok (.if_icmp .ge 56, 3) := by decide +kernel
theorem dX6_answer_69 : decode cX6_answer 69 = .ok (.aload_n 0, 1) := by decide +kernel
theorem dX6_answer_70 : decode cX6_answer 70 = .ok (.iload_n 1, 1) := by decide +kernel
theorem dX6_answer_71 : decode cX6_answer 71 = .ok (.iload 4, 2) := by decide +kernel
theorem dX6_answer_73 : decode cX6_answer 73 = .ok (.invokevirtual 60, 3) := by decide +kernel
theorem dX6_answer_76 : decode cX6_answer 76 = .ok (.ifCond .eq 46, 3) := by decide +kernel
theorem dX6_answer_79 : decode cX6_answer 79 = .ok (.aload_n 0, 1) := by decide +kernel
theorem dX6_answer_80 : decode cX6_answer 80 = .ok (.iload_n 1, 1) := by decide +kernel
theorem dX6_answer_81 : decode cX6_answer 81 = .ok (.iload 5, 2) := by decide +kernel
theorem dX6_answer_83 : decode cX6_answer 83 = .ok (.aload_n 0, 1) := by decide +kernel
theorem dX6_answer_84 : decode cX6_answer 84 = .ok (.iload 4, 2) := by decide +kernel
theorem dX6_answer_86 : decode cX6_answer 86 = .ok (.iconst 4, 1) := by decide +kernel
theorem dX6_answer_87 : decode cX6_answer 87 = .ok (.invokevirtual 50, 3) := by decide +kernel
theorem dX6_answer_90 : decode cX6_answer 90 = .ok (.if_icmp .ge 16, 3) := by decide +kernel
theorem dX6_answer_93 : decode cX6_answer 93 = .ok (.aload_n 0, 1) := by decide +kernel
theorem dX6_answer_94 : decode cX6_answer 94 = .ok (.iload 4, 2) := by decide +kernel
theorem dX6_answer_96 : decode cX6_answer 96 = .ok (.iconst 5, 1) := by decide +kernel
theorem dX6_answer_97 : decode cX6_answer 97 = .ok (.iload 5, 2) := by decide +kernel
theorem dX6_answer_99 : decode cX6_answer 99 = .ok (.iadd, 1) := by decide +kernel
theorem dX6_answer_100 : decode cX6_answer 100 = .ok (.invokevirtual 50, 3) := by decide +kernel
theorem dX6_answer_103 : decode cX6_answer 103 = .ok (.goto 10, 3) := by decide +kernel
theorem dX6_answer_106 : decode cX6_answer 106 = .ok (.aload_n 0, 1) := by decide +kernel
theorem dX6_answer_107 : decode cX6_answer 107 = .ok (.iload 4, 2) := by decide +kernel
theorem dX6_answer_109 : decode cX6_answer 109 = .ok (.iload_n 2, 1) := by decide +kernel
theorem dX6_answer_110 : decode cX6_answer 110 = .ok (.invokevirtual 82, 3) := by decide +kernel
theorem dX6_answer_113 : decode cX6_answer 113 = .ok (.invokevirtual 85, 3) := by decide +kernel
theorem dX6_answer_116 : decode cX6_answer 116 = .ok (.iinc 5 1, 3) := by decide +kernel
theorem dX6_answer_119 : decode cX6_answer 119 = .ok (.goto (-62), 3) := by decide +kernel
theorem dX6_answer_122 : decode cX6_answer 122 = .ok (.iinc 4 1, 3) := by decide +kernel
theorem dX6_answer_125 : decode cX6_answer 125 = .ok (.goto (-82), 3) := by decide +kernel
theorem dX6_answer_128 : decode cX6_answer 128 = .ok (.aload_n 0, 1) := by decide +kernel
theorem dX6_answer_129 : decode cX6_answer 129 = .ok (.iload_n 1, 1) := by decide +kernel
theorem dX6_answer_130 : decode cX6_answer 130 = .ok (.iconst 0, 1) := by decide +kernel
theorem dX6_answer_131 : decode cX6_answer 131 = .ok (.invokevirtual 57, 3) := by decide +kernel
theorem dX6_answer_134 : decode cX6_answer 134 = .ok (.tableswitch 50 0 3 #[30, 35, 40, 45], 30) := by decide +kernel
theorem dX6_answer_164 : decode cX6_answer 164 = .ok (.aload_n 0, 1) := by decide +kernel
theorem dX6_answer_165 : decode cX6_answer 165 = .ok (.getfield 64, 3) := by decide +kernel
theorem dX6_answer_168 : decode cX6_answer 168 = .ok (.ireturn, 1) := by decide +kernel
theorem dX6_answer_169 : decode cX6_answer 169 = .ok (.aload_n 0, 1) := by decide +kernel
theorem dX6_answer_170 : decode cX6_answer 170 = .ok (.getfield 67, 3) := by decide +kernel
theorem dX6_answer_173 : decode cX6_answer 173 = .ok (.ireturn, 1) := by decide +kernel
theorem dX6_answer_174 : decode cX6_answer 174 = .ok (.aload_n 0, 1) := by decide +kernel
theorem dX6_answer_175 : decode cX6_answer 175 = .ok (.getfield 70, 3) := by decide +kernel
theorem dX6_answer_178 : decode cX6_answer 178 = .ok (.ireturn, 1) := by decide +kernel
theorem dX6_answer_179 : decode cX6_answer 179 = .ok (.aload_n 0, 1) := by decide +kernel
theorem dX6_answer_180 : decode cX6_answer 180 = .ok (.getfield 73, 3) := by decide +kernel
theorem dX6_answer_183 : decode cX6_answer 183 = .ok (.ireturn, 1) := by decide +kernel
theorem dX6_answer_184 : decode cX6_answer 184 = .ok (.bipush 100, 2) := by decide +kernel
theorem dX6_answer_186 : decode cX6_answer 186 = .ok (.aload_n 0, 1) := by decide +kernel
theorem dX6_answer_187 : decode cX6_answer 187 = .ok (.getfield 64, 3) := by decide +kernel
theorem dX6_answer_190 : decode cX6_answer 190 = .ok (.imul, 1) := by decide +kernel
theorem dX6_answer_191 : decode cX6_answer 191 = .ok (.iload_n 3, 1) := by decide +kernel
theorem dX6_answer_192 : decode cX6_answer 192 = .ok (.idiv, 1) := by decide +kernel
theorem dX6_answer_193 : decode cX6_answer 193 = .ok (.ireturn, 1) := by decide +kernel
theorem dX6_stopIt_0 : decode cX6_stopIt 0 = .ok (.aload_n 0, 1) := by decide +kernel
theorem dX6_stopIt_1 : decode cX6_stopIt 1 = .ok (.iload_n 1, 1) := by decide +kernel
theorem dX6_stopIt_2 : decode cX6_stopIt 2 = .ok (.iconst 4, 1) := by decide +kernel
theorem dX6_stopIt_3 : decode cX6_stopIt 3 = .ok (.iconst 1, 1) := by decide +kernel
theorem dX6_stopIt_4 : decode cX6_stopIt 4 = .ok (.invokevirtual 89, 3) := by decide +kernel
theorem dX6_stopIt_7 : decode cX6_stopIt 7 = .ok (.iconst 0, 1) := by decide +kernel
theorem dX6_stopIt_8 : decode cX6_stopIt 8 = .ok (.istore_n 2, 1) := by decide +kernel
theorem dX6_stopIt_9 : decode cX6_stopIt 9 = .ok (.iload_n 2, 1) := by decide +kernel
theorem dX6_stopIt_10 : decode cX6_stopIt 10 = .ok (.iconst 3, 1) := by decide +kernel
theorem dX6_stopIt_11 : decode cX6_stopIt 11 = .ok (.if_icmp .ge 23, 3) := by decide +kernel
theorem dX6_stopIt_14 : decode cX6_stopIt 14 = .ok (.aload_n 0, 1) := by decide +kernel
theorem dX6_stopIt_15 : decode cX6_stopIt 15 = .ok (.iload_n 1, 1) := by decide +kernel
theorem dX6_stopIt_16 : decode cX6_stopIt 16 = .ok (.iconst 5, 1) := by decide +kernel
theorem dX6_stopIt_17 : decode cX6_stopIt 17 = .ok (.iload_n 2, 1) := by decide +kernel
theorem dX6_stopIt_18 : decode cX6_stopIt 18 = .ok (.iadd, 1) := by decide +kernel
theorem dX6_stopIt_19 : decode cX6_stopIt 19 = .ok (.aload_n 0, 1) := by decide +kernel
theorem dX6_stopIt_20 : decode cX6_stopIt 20 = .ok (.iload_n 1, 1) := by decide +kernel
theorem dX6_stopIt_21 : decode cX6_stopIt 21 = .ok (.iload_n 2, 1) := by decide +kernel
theorem dX6_stopIt_22 : decode cX6_stopIt 22 = .ok (.invokevirtual 93, 3) := by decide +kernel
theorem dX6_stopIt_25 : decode cX6_stopIt 25 = .ok (.invokevirtual 89, 3) := by decide +kernel
theorem dX6_stopIt_28 : decode cX6_stopIt 28 = .ok (.iinc 2 1, 3) := by decide +kernel
theorem dX6_stopIt_31 : decode cX6_stopIt 31 = .ok (.goto (-22), 3) := by decide +kernel
theorem dX6_stopIt_34 : decode cX6_stopIt 34 = .ok (.return_, 1) := by decide +kernel
theorem dX6_settle_0 : decode cX6_settle 0 = .ok (.iconst 0, 1) := by decide +kernel
theorem dX6_settle_1 : decode cX6_settle 1 = .ok (.istore_n 1, 1) := by decide +kernel
theorem dX6_settle_2 : decode cX6_settle 2 = .ok (.iload_n 1, 1) := by decide +kernel
theorem dX6_settle_3 : decode cX6_settle 3 = .ok (.aload_n 0, 1) := by decide +kernel
theorem dX6_settle_4 : decode cX6_settle 4 = .ok (.getfield 7, 3) := by decide +kernel
theorem dX6_settle_7 : decode cX6_settle 7 = .ok (.iconst 1, 1) := by decide +kernel
theorem dX6_settle_8 : decode cX6_settle 8 = .ok (.iaload, 1) := by decide +kernel
theorem dX6_settle_9 : decode cX6_settle 9 = .ok (.if_icmp .ge 64, 3) := by decide +kernel
theorem dX6_settle_12 : decode cX6_settle 12 = .ok (.aload_n 0, 1) := by decide +kernel
theorem dX6_settle_13 : decode cX6_settle 13 = .ok (.iload_n 1, 1) := by decide +kernel
theorem dX6_settle_14 : decode cX6_settle 14 = .ok (.iconst 4, 1) := by decide +kernel
theorem dX6_settle_15 : decode cX6_settle 15 = .ok (.invokevirtual 57, 3) := by decide +kernel
theorem dX6_settle_18 : decode cX6_settle 18 = .ok (.ifCond .ne 16, 3) := by decide +kernel
theorem dX6_settle_21 : decode cX6_settle 21 = .ok (.aload_n 0, 1) := by decide +kernel
theorem dX6_settle_22 : decode cX6_settle 22 = .ok (.iload_n 1, 1) := by decide +kernel
theorem dX6_settle_23 : decode cX6_settle 23 = .ok (.iconst 3, 1) := by decide +kernel
theorem dX6_settle_24 : decode cX6_settle 24 = .ok (.invokevirtual 76, 3) := by decide +kernel
theorem dX6_settle_27 : decode cX6_settle 27 = .ok (.ifCond .le 7, 3) := by decide +kernel
theorem dX6_settle_30 : decode cX6_settle 30 = .ok (.iconst 1, 1) := by decide +kernel
theorem dX6_settle_31 : decode cX6_settle 31 = .ok (.goto 4, 3) := by decide +kernel
theorem dX6_settle_34 : decode cX6_settle 34 = .ok (.iconst 0, 1) := by decide +kernel
theorem dX6_settle_35 : decode cX6_settle 35 = .ok (.istore_n 2, 1) := by decide +kernel
theorem dX6_settle_36 : decode cX6_settle 36 = .ok (.iload_n 2, 1) := by decide +kernel
theorem dX6_settle_37 : decode cX6_settle 37 = .ok (.ifCond .eq 30, 3) := by decide +kernel
theorem dX6_settle_40 : decode cX6_settle 40 = .ok (.aload_n 0, 1) := by decide +kernel
theorem dX6_settle_41 : decode cX6_settle 41 = .ok (.iload_n 1, 1) := by decide +kernel
theorem dX6_settle_42 : decode cX6_settle 42 = .ok (.iconst 1, 1) := by decide +kernel
theorem dX6_settle_43 : decode cX6_settle 43 = .ok (.invokevirtual 93, 3) := by decide +kernel
theorem dX6_settle_46 : decode cX6_settle 46 = .ok (.aload_n 0, 1) := by decide +kernel
theorem dX6_settle_47 : decode cX6_settle 47 = .ok (.iload_n 1, 1) := by decide +kernel
theorem dX6_settle_48 : decode cX6_settle 48 = .ok (.iconst 0, 1) := by decide +kernel
theorem dX6_settle_49 : decode cX6_settle 49 = .ok (.invokevirtual 93, 3) := by decide +kernel
theorem dX6_settle_52 : decode cX6_settle 52 = .ok (.isub, 1) := by decide +kernel
theorem dX6_settle_53 : decode cX6_settle 53 = .ok (.aload_n 0, 1) := by decide +kernel
theorem dX6_settle_54 : decode cX6_settle 54 = .ok (.iload_n 1, 1) := by decide +kernel
theorem dX6_settle_55 : decode cX6_settle 55 = .ok (.iconst 3, 1) := by decide +kernel
theorem dX6_settle_56 : decode cX6_settle 56 = .ok (.invokevirtual 57, 3) := by decide +kernel
theorem dX6_settle_59 : decode cX6_settle 59 = .ok (.if_icmp .gt 8, 3) := by decide +kernel
theorem dX6_settle_62 : decode cX6_settle 62 = .ok (.aload_n 0, 1) := by decide +kernel
theorem dX6_settle_63 : decode cX6_settle 63 = .ok (.iload_n 1, 1) := by decide +kernel
theorem dX6_settle_64 : decode cX6_settle 64 = .ok (.invokevirtual 96, 3) := by decide +kernel
theorem dX6_settle_67 : decode cX6_settle 67 = .ok (.iinc 1 1, 3) := by decide +kernel
theorem dX6_settle_70 : decode cX6_settle 70 = .ok (.goto (-68), 3) := by decide +kernel
theorem dX6_settle_73 : decode cX6_settle 73 = .ok (.return_, 1) := by decide +kernel
theorem dX6_openMany_0 : decode cX6_openMany 0 = .ok (.iconst 0, 1) := by decide +kernel
theorem dX6_openMany_1 : decode cX6_openMany 1 = .ok (.istore_n 1, 1) := by decide +kernel
theorem dX6_openMany_2 : decode cX6_openMany 2 = .ok (.iconst 0, 1) := by decide +kernel
theorem dX6_openMany_3 : decode cX6_openMany 3 = .ok (.istore_n 2, 1) := by decide +kernel
theorem dX6_openMany_4 : decode cX6_openMany 4 = .ok (.iload_n 2, 1) := by decide +kernel
theorem dX6_openMany_5 : decode cX6_openMany 5 = .ok (.aload_n 0, 1) := by decide +kernel
theorem dX6_openMany_6 : decode cX6_openMany 6 = .ok (.getfield 7, 3) := by decide +kernel
theorem dX6_openMany_9 : decode cX6_openMany 9 = .ok (.iconst 1, 1) := by decide +kernel
theorem dX6_openMany_10 : decode cX6_openMany 10 = .ok (.iaload, 1) := by decide +kernel
theorem dX6_openMany_11 : decode cX6_openMany 11 = .ok (.if_icmp .ge 20, 3) := by decide +kernel
theorem dX6_openMany_14 : decode cX6_openMany 14 = .ok (.iload_n 1, 1) := by decide +kernel
theorem dX6_openMany_15 : decode cX6_openMany 15 = .ok (.iconst 1, 1) := by decide +kernel
theorem dX6_openMany_16 : decode cX6_openMany 16 = .ok (.aload_n 0, 1) := by decide +kernel
theorem dX6_openMany_17 : decode cX6_openMany 17 = .ok (.iload_n 2, 1) := by decide +kernel
theorem dX6_openMany_18 : decode cX6_openMany 18 = .ok (.iconst 4, 1) := by decide +kernel
theorem dX6_openMany_19 : decode cX6_openMany 19 = .ok (.invokevirtual 57, 3) := by decide +kernel
theorem dX6_openMany_22 : decode cX6_openMany 22 = .ok (.isub, 1) := by decide +kernel
theorem dX6_openMany_23 : decode cX6_openMany 23 = .ok (.iadd, 1) := by decide +kernel
theorem dX6_openMany_24 : decode cX6_openMany 24 = .ok (.istore_n 1, 1) := by decide +kernel
theorem dX6_openMany_25 : decode cX6_openMany 25 = .ok (.iinc 2 1, 3) := by decide +kernel
theorem dX6_openMany_28 : decode cX6_openMany 28 = .ok (.goto (-24), 3) := by decide +kernel
theorem dX6_openMany_31 : decode cX6_openMany 31 = .ok (.iload_n 1, 1) := by decide +kernel
theorem dX6_openMany_32 : decode cX6_openMany 32 = .ok (.ireturn, 1) := by decide +kernel
theorem dX6_unread_0 : decode cX6_unread 0 = .ok (.aload_n 0, 1) := by decide +kernel
theorem dX6_unread_1 : decode cX6_unread 1 = .ok (.iload_n 1, 1) := by decide +kernel
theorem dX6_unread_2 : decode cX6_unread 2 = .ok (.iconst 3, 1) := by decide +kernel
theorem dX6_unread_3 : decode cX6_unread 3 = .ok (.invokevirtual 50, 3) := by decide +kernel
theorem dX6_unread_6 : decode cX6_unread 6 = .ok (.aload_n 0, 1) := by decide +kernel
theorem dX6_unread_7 : decode cX6_unread 7 = .ok (.iload_n 1, 1) := by decide +kernel
theorem dX6_unread_8 : decode cX6_unread 8 = .ok (.iconst 4, 1) := by decide +kernel
theorem dX6_unread_9 : decode cX6_unread 9 = .ok (.invokevirtual 50, 3) := by decide +kernel
theorem dX6_unread_12 : decode cX6_unread 12 = .ok (.isub, 1) := by decide +kernel
theorem dX6_unread_13 : decode cX6_unread 13 = .ok (.ireturn, 1) := by decide +kernel
theorem dX6_weightFor_0 : decode cX6_weightFor 0 = .ok (.aload_n 0, 1) := by decide +kernel
theorem dX6_weightFor_1 : decode cX6_weightFor 1 = .ok (.iload_n 1, 1) := by decide +kernel
theorem dX6_weightFor_2 : decode cX6_weightFor 2 = .ok (.iconst 0, 1) := by decide +kernel
theorem dX6_weightFor_3 : decode cX6_weightFor 3 = .ok (.invokevirtual 57, 3) := by decide +kernel
theorem dX6_weightFor_6 : decode cX6_weightFor 6 = .ok (.tableswitch 107 1 3 #[26, 63, 85], 26) := by decide +kernel
theorem dX6_weightFor_32 : decode cX6_weightFor 32 = .ok (.aload_n 0, 1) := by decide +kernel
theorem dX6_weightFor_33 : decode cX6_weightFor 33 = .ok (.iload_n 2, 1) := by decide +kernel
theorem dX6_weightFor_34 : decode cX6_weightFor 34 = .ok (.iconst 1, 1) := by decide +kernel
theorem dX6_weightFor_35 : decode cX6_weightFor 35 = .ok (.invokevirtual 50, 3) := by decide +kernel
theorem dX6_weightFor_38 : decode cX6_weightFor 38 = .ok (.aload_n 0, 1) := by decide +kernel
theorem dX6_weightFor_39 : decode cX6_weightFor 39 = .ok (.iload_n 1, 1) := by decide +kernel
theorem dX6_weightFor_40 : decode cX6_weightFor 40 = .ok (.iconst 2, 1) := by decide +kernel
theorem dX6_weightFor_41 : decode cX6_weightFor 41 = .ok (.invokevirtual 57, 3) := by decide +kernel
theorem dX6_weightFor_44 : decode cX6_weightFor 44 = .ok (.if_icmp .ge 23, 3) := by decide +kernel
theorem dX6_weightFor_47 : decode cX6_weightFor 47 = .ok (.aload_n 0, 1) := by decide +kernel
theorem dX6_weightFor_48 : decode cX6_weightFor 48 = .ok (.iload_n 2, 1) := by decide +kernel
theorem dX6_weightFor_49 : decode cX6_weightFor 49 = .ok (.iconst 2, 1) := by decide +kernel
theorem dX6_weightFor_50 : decode cX6_weightFor 50 = .ok (.invokevirtual 50, 3) := by decide +kernel
theorem dX6_weightFor_53 : decode cX6_weightFor 53 = .ok (.aload_n 0, 1) := by decide +kernel
theorem dX6_weightFor_54 : decode cX6_weightFor 54 = .ok (.iload_n 1, 1) := by decide +kernel
theorem dX6_weightFor_55 : decode cX6_weightFor 55 = .ok (.iconst 2, 1) := by decide +kernel
theorem dX6_weightFor_56 : decode cX6_weightFor 56 = .ok (.invokevirtual 57, 3) := by decide +kernel
theorem dX6_weightFor_59 : decode cX6_weightFor 59 = .ok (.if_icmp .lt 8, 3) := by decide +kernel
theorem dX6_weightFor_62 : decode cX6_weightFor 62 = .ok (.bipush 100, 2) := by decide +kernel
theorem dX6_weightFor_64 : decode cX6_weightFor 64 = .ok (.goto 4, 3) := by decide +kernel
theorem dX6_weightFor_67 : decode cX6_weightFor 67 = .ok (.iconst 0, 1) := by decide +kernel
theorem dX6_weightFor_68 : decode cX6_weightFor 68 = .ok (.ireturn, 1) := by decide +kernel
theorem dX6_weightFor_69 : decode cX6_weightFor 69 = .ok (.aload_n 0, 1) := by decide +kernel
theorem dX6_weightFor_70 : decode cX6_weightFor 70 = .ok (.iload_n 2, 1) := by decide +kernel
theorem dX6_weightFor_71 : decode cX6_weightFor 71 = .ok (.iconst 1, 1) := by decide +kernel
theorem dX6_weightFor_72 : decode cX6_weightFor 72 = .ok (.invokevirtual 50, 3) := by decide +kernel
theorem dX6_weightFor_75 : decode cX6_weightFor 75 = .ok (.aload_n 0, 1) := by decide +kernel
theorem dX6_weightFor_76 : decode cX6_weightFor 76 = .ok (.iload_n 1, 1) := by decide +kernel
theorem dX6_weightFor_77 : decode cX6_weightFor 77 = .ok (.iconst 1, 1) := by decide +kernel
theorem dX6_weightFor_78 : decode cX6_weightFor 78 = .ok (.invokevirtual 93, 3) := by decide +kernel
theorem dX6_weightFor_81 : decode cX6_weightFor 81 = .ok (.if_icmp .ge 8, 3) := by decide +kernel
theorem dX6_weightFor_84 : decode cX6_weightFor 84 = .ok (.bipush 100, 2) := by decide +kernel
theorem dX6_weightFor_86 : decode cX6_weightFor 86 = .ok (.goto 4, 3) := by decide +kernel
theorem dX6_weightFor_89 : decode cX6_weightFor 89 = .ok (.iconst 0, 1) := by decide +kernel
theorem dX6_weightFor_90 : decode cX6_weightFor 90 = .ok (.ireturn, 1) := by decide +kernel
theorem dX6_weightFor_91 : decode cX6_weightFor 91 = .ok (.aload_n 0, 1) := by decide +kernel
theorem dX6_weightFor_92 : decode cX6_weightFor 92 = .ok (.iload_n 2, 1) := by decide +kernel
theorem dX6_weightFor_93 : decode cX6_weightFor 93 = .ok (.iconst 2, 1) := by decide +kernel
theorem dX6_weightFor_94 : decode cX6_weightFor 94 = .ok (.invokevirtual 50, 3) := by decide +kernel
theorem dX6_weightFor_97 : decode cX6_weightFor 97 = .ok (.aload_n 0, 1) := by decide +kernel
theorem dX6_weightFor_98 : decode cX6_weightFor 98 = .ok (.iload_n 1, 1) := by decide +kernel
theorem dX6_weightFor_99 : decode cX6_weightFor 99 = .ok (.iconst 0, 1) := by decide +kernel
theorem dX6_weightFor_100 : decode cX6_weightFor 100 = .ok (.invokevirtual 93, 3) := by decide +kernel
theorem dX6_weightFor_103 : decode cX6_weightFor 103 = .ok (.if_icmp .le 8, 3) := by decide +kernel
theorem dX6_weightFor_106 : decode cX6_weightFor 106 = .ok (.bipush 100, 2) := by decide +kernel
theorem dX6_weightFor_108 : decode cX6_weightFor 108 = .ok (.goto 4, 3) := by decide +kernel
theorem dX6_weightFor_111 : decode cX6_weightFor 111 = .ok (.iconst 0, 1) := by decide +kernel
theorem dX6_weightFor_112 : decode cX6_weightFor 112 = .ok (.ireturn, 1) := by decide +kernel
theorem dX6_weightFor_113 : decode cX6_weightFor 113 = .ok (.aload_n 0, 1) := by decide +kernel
theorem dX6_weightFor_114 : decode cX6_weightFor 114 = .ok (.iload_n 2, 1) := by decide +kernel
theorem dX6_weightFor_115 : decode cX6_weightFor 115 = .ok (.iconst 2, 1) := by decide +kernel
theorem dX6_weightFor_116 : decode cX6_weightFor 116 = .ok (.invokevirtual 50, 3) := by decide +kernel
theorem dX6_weightFor_119 : decode cX6_weightFor 119 = .ok (.aload_n 0, 1) := by decide +kernel
theorem dX6_weightFor_120 : decode cX6_weightFor 120 = .ok (.iload_n 2, 1) := by decide +kernel
theorem dX6_weightFor_121 : decode cX6_weightFor 121 = .ok (.iconst 1, 1) := by decide +kernel
theorem dX6_weightFor_122 : decode cX6_weightFor 122 = .ok (.invokevirtual 50, 3) := by decide +kernel
theorem dX6_weightFor_125 : decode cX6_weightFor 125 = .ok (.isub, 1) := by decide +kernel
theorem dX6_weightFor_126 : decode cX6_weightFor 126 = .ok (.ireturn, 1) := by decide +kernel
theorem dX6_weight_0 : decode cX6_weight 0 = .ok (.iconst 0, 1) := by decide +kernel
theorem dX6_weight_1 : decode cX6_weight 1 = .ok (.istore_n 2, 1) := by decide +kernel
theorem dX6_weight_2 : decode cX6_weight 2 = .ok (.iconst 0, 1) := by decide +kernel
theorem dX6_weight_3 : decode cX6_weight 3 = .ok (.istore_n 3, 1) := by decide +kernel
theorem dX6_weight_4 : decode cX6_weight 4 = .ok (.iload_n 3, 1) := by decide +kernel
theorem dX6_weight_5 : decode cX6_weight 5 = .ok (.aload_n 0, 1) := by decide +kernel
theorem dX6_weight_6 : decode cX6_weight 6 = .ok (.getfield 7, 3) := by decide +kernel
theorem dX6_weight_9 : decode cX6_weight 9 = .ok (.iconst 1, 1) := by decide +kernel
theorem dX6_weight_10 : decode cX6_weight 10 = .ok (.iaload, 1) := by decide +kernel
theorem dX6_weight_11 : decode cX6_weight 11 = .ok (.if_icmp .ge 40, 3) := by decide +kernel
theorem dX6_weight_14 : decode cX6_weight 14 = .ok (.iload_n 2, 1) := by decide +kernel
theorem dX6_weight_15 : decode cX6_weight 15 = .ok (.aload_n 0, 1) := by decide +kernel
theorem dX6_weight_16 : decode cX6_weight 16 = .ok (.iload_n 3, 1) := by decide +kernel
theorem dX6_weight_17 : decode cX6_weight 17 = .ok (.iconst 4, 1) := by decide +kernel
theorem dX6_weight_18 : decode cX6_weight 18 = .ok (.invokevirtual 57, 3) := by decide +kernel
theorem dX6_weight_21 : decode cX6_weight 21 = .ok (.ifCond .ne 21, 3) := by decide +kernel
theorem dX6_weight_24 : decode cX6_weight 24 = .ok (.aload_n 0, 1) := by decide +kernel
theorem dX6_weight_25 : decode cX6_weight 25 = .ok (.iload_n 3, 1) := by decide +kernel
theorem dX6_weight_26 : decode cX6_weight 26 = .ok (.iload_n 1, 1) := by decide +kernel
theorem dX6_weight_27 : decode cX6_weight 27 = .ok (.invokevirtual 60, 3) := by decide +kernel
theorem dX6_weight_30 : decode cX6_weight 30 = .ok (.ifCond .eq 12, 3) := by decide +kernel
theorem dX6_weight_33 : decode cX6_weight 33 = .ok (.aload_n 0, 1) := by decide +kernel
theorem dX6_weight_34 : decode cX6_weight 34 = .ok (.iload_n 3, 1) := by decide +kernel
theorem dX6_weight_35 : decode cX6_weight 35 = .ok (.iload_n 1, 1) := by decide +kernel
theorem dX6_weight_36 : decode cX6_weight 36 = .ok (.invokevirtual 100, 3) := by decide +kernel
theorem dX6_weight_39 : decode cX6_weight 39 = .ok (.goto 4, 3) := by decide +kernel
theorem dX6_weight_42 : decode cX6_weight 42 = .ok (.iconst 0, 1) := by decide +kernel
theorem dX6_weight_43 : decode cX6_weight 43 = .ok (.iadd, 1) := by decide +kernel
theorem dX6_weight_44 : decode cX6_weight 44 = .ok (.istore_n 2, 1) := by decide +kernel
theorem dX6_weight_45 : decode cX6_weight 45 = .ok (.iinc 3 1, 3) := by decide +kernel
theorem dX6_weight_48 : decode cX6_weight 48 = .ok (.goto (-44), 3) := by decide +kernel
theorem dX6_weight_51 : decode cX6_weight 51 = .ok (.iload_n 2, 1) := by decide +kernel
theorem dX6_weight_52 : decode cX6_weight 52 = .ok (.ireturn, 1) := by decide +kernel
theorem dX6_worth_0 : decode cX6_worth 0 = .ok (.aload_n 0, 1) := by decide +kernel
theorem dX6_worth_1 : decode cX6_worth 1 = .ok (.getfield 7, 3) := by decide +kernel
theorem dX6_worth_4 : decode cX6_worth 4 = .ok (.iconst 2, 1) := by decide +kernel
theorem dX6_worth_5 : decode cX6_worth 5 = .ok (.iaload, 1) := by decide +kernel
theorem dX6_worth_6 : decode cX6_worth 6 = .ok (.iconst 1, 1) := by decide +kernel
theorem dX6_worth_7 : decode cX6_worth 7 = .ok (.if_icmp .ne 25, 3) := by decide +kernel
theorem dX6_worth_10 : decode cX6_worth 10 = .ok (.aload_n 0, 1) := by decide +kernel
theorem dX6_worth_11 : decode cX6_worth 11 = .ok (.iload_n 1, 1) := by decide +kernel
theorem dX6_worth_12 : decode cX6_worth 12 = .ok (.invokevirtual 103, 3) := by decide +kernel
theorem dX6_worth_15 : decode cX6_worth 15 = .ok (.aload_n 0, 1) := by decide +kernel
theorem dX6_worth_16 : decode cX6_worth 16 = .ok (.iload_n 1, 1) := by decide +kernel
theorem dX6_worth_17 : decode cX6_worth 17 = .ok (.iconst 2, 1) := by decide +kernel
theorem dX6_worth_18 : decode cX6_worth 18 = .ok (.invokevirtual 50, 3) := by decide +kernel
theorem dX6_worth_21 : decode cX6_worth 21 = .ok (.aload_n 0, 1) := by decide +kernel
theorem dX6_worth_22 : decode cX6_worth 22 = .ok (.iload_n 1, 1) := by decide +kernel
theorem dX6_worth_23 : decode cX6_worth 23 = .ok (.iconst 1, 1) := by decide +kernel
theorem dX6_worth_24 : decode cX6_worth 24 = .ok (.invokevirtual 50, 3) := by decide +kernel
theorem dX6_worth_27 : decode cX6_worth 27 = .ok (.isub, 1) := by decide +kernel
theorem dX6_worth_28 : decode cX6_worth 28 = .ok (.imul, 1) := by decide +kernel
theorem dX6_worth_29 : decode cX6_worth 29 = .ok (.goto 8, 3) := by decide +kernel
theorem dX6_worth_32 : decode cX6_worth 32 = .ok (.aload_n 0, 1) := by decide +kernel
theorem dX6_worth_33 : decode cX6_worth 33 = .ok (.iload_n 1, 1) := by decide +kernel
theorem dX6_worth_34 : decode cX6_worth 34 = .ok (.invokevirtual 106, 3) := by decide +kernel
theorem dX6_worth_37 : decode cX6_worth 37 = .ok (.ireturn, 1) := by decide +kernel
theorem dX6_byTurn_0 : decode cX6_byTurn 0 = .ok (.iconst 0, 1) := by decide +kernel
theorem dX6_byTurn_1 : decode cX6_byTurn 1 = .ok (.istore_n 1, 1) := by decide +kernel
theorem dX6_byTurn_2 : decode cX6_byTurn 2 = .ok (.iload_n 1, 1) := by decide +kernel
theorem dX6_byTurn_3 : decode cX6_byTurn 3 = .ok (.aload_n 0, 1) := by decide +kernel
theorem dX6_byTurn_4 : decode cX6_byTurn 4 = .ok (.getfield 7, 3) := by decide +kernel
theorem dX6_byTurn_7 : decode cX6_byTurn 7 = .ok (.iconst 0, 1) := by decide +kernel
theorem dX6_byTurn_8 : decode cX6_byTurn 8 = .ok (.iaload, 1) := by decide +kernel
theorem dX6_byTurn_9 : decode cX6_byTurn 9 = .ok (.if_icmp .ge 35, 3) := by decide +kernel
theorem dX6_byTurn_12 : decode cX6_byTurn 12 = .ok (.aload_n 0, 1) := by decide +kernel
theorem dX6_byTurn_13 : decode cX6_byTurn 13 = .ok (.getfield 7, 3) := by decide +kernel
theorem dX6_byTurn_16 : decode cX6_byTurn 16 = .ok (.iconst 3, 1) := by decide +kernel
theorem dX6_byTurn_17 : decode cX6_byTurn 17 = .ok (.iaload, 1) := by decide +kernel
theorem dX6_byTurn_18 : decode cX6_byTurn 18 = .ok (.iload_n 1, 1) := by decide +kernel
theorem dX6_byTurn_19 : decode cX6_byTurn 19 = .ok (.iadd, 1) := by decide +kernel
theorem dX6_byTurn_20 : decode cX6_byTurn 20 = .ok (.aload_n 0, 1) := by decide +kernel
theorem dX6_byTurn_21 : decode cX6_byTurn 21 = .ok (.getfield 7, 3) := by decide +kernel
theorem dX6_byTurn_24 : decode cX6_byTurn 24 = .ok (.iconst 0, 1) := by decide +kernel
theorem dX6_byTurn_25 : decode cX6_byTurn 25 = .ok (.iaload, 1) := by decide +kernel
theorem dX6_byTurn_26 : decode cX6_byTurn 26 = .ok (.irem, 1) := by decide +kernel
theorem dX6_byTurn_27 : decode cX6_byTurn 27 = .ok (.istore_n 2, 1) := by decide +kernel
theorem dX6_byTurn_28 : decode cX6_byTurn 28 = .ok (.aload_n 0, 1) := by decide +kernel
theorem dX6_byTurn_29 : decode cX6_byTurn 29 = .ok (.iload_n 2, 1) := by decide +kernel
theorem dX6_byTurn_30 : decode cX6_byTurn 30 = .ok (.invokevirtual 103, 3) := by decide +kernel
theorem dX6_byTurn_33 : decode cX6_byTurn 33 = .ok (.ifCond .le 5, 3) := by decide +kernel
theorem dX6_byTurn_36 : decode cX6_byTurn 36 = .ok (.iload_n 2, 1) := by decide +kernel
theorem dX6_byTurn_37 : decode cX6_byTurn 37 = .ok (.ireturn, 1) := by decide +kernel
theorem dX6_byTurn_38 : decode cX6_byTurn 38 = .ok (.iinc 1 1, 3) := by decide +kernel
theorem dX6_byTurn_41 : decode cX6_byTurn 41 = .ok (.goto (-39), 3) := by decide +kernel
theorem dX6_byTurn_44 : decode cX6_byTurn 44 = .ok (.bipush (-5), 2) := by decide +kernel
theorem dX6_byTurn_46 : decode cX6_byTurn 46 = .ok (.ireturn, 1) := by decide +kernel
theorem dX6_nextBlock_0 : decode cX6_nextBlock 0 = .ok (.aload_n 0, 1) := by decide +kernel
theorem dX6_nextBlock_1 : decode cX6_nextBlock 1 = .ok (.getfield 7, 3) := by decide +kernel
theorem dX6_nextBlock_4 : decode cX6_nextBlock 4 = .ok (.iconst 2, 1) := by decide +kernel
theorem dX6_nextBlock_5 : decode cX6_nextBlock 5 = .ok (.iaload, 1) := by decide +kernel
theorem dX6_nextBlock_6 : decode cX6_nextBlock 6 = .ok (.ifCond .ne 8, 3) := by decide +kernel
theorem dX6_nextBlock_9 : decode cX6_nextBlock 9 = .ok (.aload_n 0, 1) := by decide +kernel
theorem dX6_nextBlock_10 : decode cX6_nextBlock 10 = .ok (.invokevirtual 109, 3) := by decide +kernel
theorem dX6_nextBlock_13 : decode cX6_nextBlock 13 = .ok (.ireturn, 1) := by decide +kernel
theorem dX6_nextBlock_14 : decode cX6_nextBlock 14 = .ok (.bipush (-5), 2) := by decide +kernel
theorem dX6_nextBlock_16 : decode cX6_nextBlock 16 = .ok (.istore_n 1, 1) := by decide +kernel
theorem dX6_nextBlock_17 : decode cX6_nextBlock 17 = .ok (.iconst 0, 1) := by decide +kernel
theorem dX6_nextBlock_18 : decode cX6_nextBlock 18 = .ok (.istore_n 2, 1) := by decide +kernel
theorem dX6_nextBlock_19 : decode cX6_nextBlock 19 = .ok (.iconst 0, 1) := by decide +kernel
theorem dX6_nextBlock_20 : decode cX6_nextBlock 20 = .ok (.istore_n 3, 1) := by decide +kernel
theorem dX6_nextBlock_21 : decode cX6_nextBlock 21 = .ok (.iload_n 3, 1) := by decide +kernel
theorem dX6_nextBlock_22 : decode cX6_nextBlock 22 = .ok (.aload_n 0, 1) := by decide +kernel
theorem dX6_nextBlock_23 : decode cX6_nextBlock 23 = .ok (.getfield 7, 3) := by decide +kernel
theorem dX6_nextBlock_26 : decode cX6_nextBlock 26 = .ok (.iconst 0, 1) := by decide +kernel
theorem dX6_nextBlock_27 : decode cX6_nextBlock 27 = .ok (.iaload, 1) := by decide +kernel
theorem dX6_nextBlock_28 : decode cX6_nextBlock 28 = .ok (.if_icmp .ge 40, 3) := by decide +kernel
theorem dX6_nextBlock_31 : decode cX6_nextBlock 31 = .ok (.aload_n 0, 1) := by decide +kernel
theorem dX6_nextBlock_32 : decode cX6_nextBlock 32 = .ok (.iload_n 3, 1) := by decide +kernel
theorem dX6_nextBlock_33 : decode cX6_nextBlock 33 = .ok (.invokevirtual 103, 3) := by decide +kernel
theorem dX6_nextBlock_36 : decode cX6_nextBlock 36 = .ok (.ifCond .le 26, 3) := by decide +kernel
theorem dX6_nextBlock_39 : decode cX6_nextBlock 39 = .ok (.iload_n 1, 1) := by decide +kernel
theorem dX6_nextBlock_40 : decode cX6_nextBlock 40 = .ok (.bipush (-5), 2) := by decide +kernel
theorem dX6_nextBlock_42 : decode cX6_nextBlock 42 = .ok (.if_icmp .eq 12, 3) := by decide +kernel
theorem dX6_nextBlock_45 : decode cX6_nextBlock 45 = .ok (.aload_n 0, 1) := by decide +kernel
theorem dX6_nextBlock_46 : decode cX6_nextBlock 46 = .ok (.iload_n 3, 1) := by decide +kernel
theorem dX6_nextBlock_47 : decode cX6_nextBlock 47 = .ok (.invokevirtual 113, 3) := by decide +kernel
theorem dX6_nextBlock_50 : decode cX6_nextBlock 50 = .ok (.iload_n 2, 1) := by decide +kernel
theorem dX6_nextBlock_51 : decode cX6_nextBlock 51 = .ok (.if_icmp .le 11, 3) := by decide +kernel
theorem dX6_nextBlock_54 : decode cX6_nextBlock 54 = .ok (.iload_n 3, 1) := by decide +kernel
theorem dX6_nextBlock_55 : decode cX6_nextBlock 55 = .ok (.istore_n 1, 1) := by decide +kernel
theorem dX6_nextBlock_56 : decode cX6_nextBlock 56 = .ok (.aload_n 0, 1) := by decide +kernel
theorem dX6_nextBlock_57 : decode cX6_nextBlock 57 = .ok (.iload_n 3, 1) := by decide +kernel
theorem dX6_nextBlock_58 : decode cX6_nextBlock 58 = .ok (.invokevirtual 113, 3) := by decide +kernel
theorem dX6_nextBlock_61 : decode cX6_nextBlock 61 = .ok (.istore_n 2, 1) := by decide +kernel
theorem dX6_nextBlock_62 : decode cX6_nextBlock 62 = .ok (.iinc 3 1, 3) := by decide +kernel
theorem dX6_nextBlock_65 : decode cX6_nextBlock 65 = .ok (.goto (-44), 3) := by decide +kernel
theorem dX6_nextBlock_68 : decode cX6_nextBlock 68 = .ok (.iload_n 1, 1) := by decide +kernel
theorem dX6_nextBlock_69 : decode cX6_nextBlock 69 = .ok (.ireturn, 1) := by decide +kernel
theorem dX6_readOne_0 : decode cX6_readOne 0 = .ok (.aload_n 0, 1) := by decide +kernel
theorem dX6_readOne_1 : decode cX6_readOne 1 = .ok (.iload_n 1, 1) := by decide +kernel
theorem dX6_readOne_2 : decode cX6_readOne 2 = .ok (.iconst 4, 1) := by decide +kernel
theorem dX6_readOne_3 : decode cX6_readOne 3 = .ok (.aload_n 0, 1) := by decide +kernel
theorem dX6_readOne_4 : decode cX6_readOne 4 = .ok (.iload_n 1, 1) := by decide +kernel
theorem dX6_readOne_5 : decode cX6_readOne 5 = .ok (.iconst 4, 1) := by decide +kernel
theorem dX6_readOne_6 : decode cX6_readOne 6 = .ok (.invokevirtual 50, 3) := by decide +kernel
theorem dX6_readOne_9 : decode cX6_readOne 9 = .ok (.iconst 1, 1) := by decide +kernel
theorem dX6_readOne_10 : decode cX6_readOne 10 = .ok (.iadd, 1) := by decide +kernel
theorem dX6_readOne_11 : decode cX6_readOne 11 = .ok (.invokevirtual 116, 3) := by decide +kernel
theorem dX6_readOne_14 : decode cX6_readOne 14 = .ok (.aload_n 0, 1) := by decide +kernel
theorem dX6_readOne_15 : decode cX6_readOne 15 = .ok (.invokevirtual 119, 3) := by decide +kernel
theorem dX6_readOne_18 : decode cX6_readOne 18 = .ok (.return_, 1) := by decide +kernel
theorem dX6_readNext_0 : decode cX6_readNext 0 = .ok (.aload_n 0, 1) := by decide +kernel
theorem dX6_readNext_1 : decode cX6_readNext 1 = .ok (.invokevirtual 122, 3) := by decide +kernel
theorem dX6_readNext_4 : decode cX6_readNext 4 = .ok (.istore_n 1, 1) := by decide +kernel
theorem dX6_readNext_5 : decode cX6_readNext 5 = .ok (.aload_n 0, 1) := by decide +kernel
theorem dX6_readNext_6 : decode cX6_readNext 6 = .ok (.getfield 7, 3) := by decide +kernel
theorem dX6_readNext_9 : decode cX6_readNext 9 = .ok (.iconst 2, 1) := by decide +kernel
theorem dX6_readNext_10 : decode cX6_readNext 10 = .ok (.iaload, 1) := by decide +kernel
theorem dX6_readNext_11 : decode cX6_readNext 11 = .ok (.ifCond .ne 19, 3) := by decide +kernel
theorem dX6_readNext_14 : decode cX6_readNext 14 = .ok (.aload_n 0, 1) := by decide +kernel
theorem dX6_readNext_15 : decode cX6_readNext 15 = .ok (.getfield 7, 3) := by decide +kernel
theorem dX6_readNext_18 : decode cX6_readNext 18 = .ok (.iconst 3, 1) := by decide +kernel
theorem dX6_readNext_19 : decode cX6_readNext 19 = .ok (.iload_n 1, 1) := by decide +kernel
theorem dX6_readNext_20 : decode cX6_readNext 20 = .ok (.iconst 1, 1) := by decide +kernel
theorem dX6_readNext_21 : decode cX6_readNext 21 = .ok (.iadd, 1) := by decide +kernel
theorem dX6_readNext_22 : decode cX6_readNext 22 = .ok (.aload_n 0, 1) := by decide +kernel
theorem dX6_readNext_23 : decode cX6_readNext 23 = .ok (.getfield 7, 3) := by decide +kernel
theorem dX6_readNext_26 : decode cX6_readNext 26 = .ok (.iconst 0, 1) := by decide +kernel
theorem dX6_readNext_27 : decode cX6_readNext 27 = .ok (.iaload, 1) := by decide +kernel
theorem dX6_readNext_28 : decode cX6_readNext 28 = .ok (.irem, 1) := by decide +kernel
theorem dX6_readNext_29 : decode cX6_readNext 29 = .ok (.iastore, 1) := by decide +kernel
theorem dX6_readNext_30 : decode cX6_readNext 30 = .ok (.aload_n 0, 1) := by decide +kernel
theorem dX6_readNext_31 : decode cX6_readNext 31 = .ok (.iload_n 1, 1) := by decide +kernel
theorem dX6_readNext_32 : decode cX6_readNext 32 = .ok (.invokevirtual 125, 3) := by decide +kernel
theorem dX6_readNext_35 : decode cX6_readNext 35 = .ok (.return_, 1) := by decide +kernel
theorem dX6_type_0 : decode cX6_type 0 = .ok (.aload_n 0, 1) := by decide +kernel
theorem dX6_type_1 : decode cX6_type 1 = .ok (.getfield 128, 3) := by decide +kernel
theorem dX6_type_4 : decode cX6_type 4 = .ok (.bipush 80, 2) := by decide +kernel
theorem dX6_type_6 : decode cX6_type 6 = .ok (.if_icmp .ne 6, 3) := by decide +kernel
theorem dX6_type_9 : decode cX6_type 9 = .ok (.bipush (-3), 2) := by decide +kernel
theorem dX6_type_11 : decode cX6_type 11 = .ok (.ireturn, 1) := by decide +kernel
theorem dX6_type_12 : decode cX6_type 12 = .ok (.aload_n 0, 1) := by decide +kernel
theorem dX6_type_13 : decode cX6_type 13 = .ok (.getfield 22, 3) := by decide +kernel
theorem dX6_type_16 : decode cX6_type 16 = .ok (.aload_n 0, 1) := by decide +kernel
theorem dX6_type_17 : decode cX6_type 17 = .ok (.getfield 128, 3) := by decide +kernel
theorem dX6_type_20 : decode cX6_type 20 = .ok (.iload_n 1, 1) := by decide +kernel
theorem dX6_type_21 : decode cX6_type 21 = .ok (.castore, 1) := by decide +kernel
theorem dX6_type_22 : decode cX6_type 22 = .ok (.aload_n 0, 1) := by decide +kernel
theorem dX6_type_23 : decode cX6_type 23 = .ok (.dup, 1) := by decide +kernel
theorem dX6_type_24 : decode cX6_type 24 = .ok (.getfield 128, 3) := by decide +kernel
theorem dX6_type_27 : decode cX6_type 27 = .ok (.iconst 1, 1) := by decide +kernel
theorem dX6_type_28 : decode cX6_type 28 = .ok (.iadd, 1) := by decide +kernel
theorem dX6_type_29 : decode cX6_type 29 = .ok (.putfield 128, 3) := by decide +kernel
theorem dX6_type_32 : decode cX6_type 32 = .ok (.aload_n 0, 1) := by decide +kernel
theorem dX6_type_33 : decode cX6_type 33 = .ok (.getfield 128, 3) := by decide +kernel
theorem dX6_type_36 : decode cX6_type 36 = .ok (.ireturn, 1) := by decide +kernel
theorem dX6_clearText_0 : decode cX6_clearText 0 = .ok (.aload_n 0, 1) := by decide +kernel
theorem dX6_clearText_1 : decode cX6_clearText 1 = .ok (.getfield 128, 3) := by decide +kernel
theorem dX6_clearText_4 : decode cX6_clearText 4 = .ok (.istore_n 1, 1) := by decide +kernel
theorem dX6_clearText_5 : decode cX6_clearText 5 = .ok (.aload_n 0, 1) := by decide +kernel
theorem dX6_clearText_6 : decode cX6_clearText 6 = .ok (.iconst 0, 1) := by decide +kernel
theorem dX6_clearText_7 : decode cX6_clearText 7 = .ok (.putfield 128, 3) := by decide +kernel
theorem dX6_clearText_10 : decode cX6_clearText 10 = .ok (.iload_n 1, 1) := by decide +kernel
theorem dX6_clearText_11 : decode cX6_clearText 11 = .ok (.ireturn, 1) := by decide +kernel
theorem dX6_letter_0 : decode cX6_letter 0 = .ok (.iload_n 1, 1) := by decide +kernel
theorem dX6_letter_1 : decode cX6_letter 1 = .ok (.aload_n 0, 1) := by decide +kernel
theorem dX6_letter_2 : decode cX6_letter 2 = .ok (.getfield 128, 3) := by decide +kernel
theorem dX6_letter_5 : decode cX6_letter 5 = .ok (.if_icmp .ge 12, 3) := by decide +kernel
theorem dX6_letter_8 : decode cX6_letter 8 = .ok (.aload_n 0, 1) := by decide +kernel
theorem dX6_letter_9 : decode cX6_letter 9 = .ok (.getfield 22, 3) := by decide +kernel
theorem dX6_letter_12 : decode cX6_letter 12 = .ok (.iload_n 1, 1) := by decide +kernel
theorem dX6_letter_13 : decode cX6_letter 13 = .ok (.caload, 1) := by decide +kernel
theorem dX6_letter_14 : decode cX6_letter 14 = .ok (.goto 4, 3) := by decide +kernel
theorem dX6_letter_17 : decode cX6_letter 17 = .ok (.iconst (-1), 1) := by decide +kernel
theorem dX6_letter_18 : decode cX6_letter 18 = .ok (.ireturn, 1) := by decide +kernel
theorem dX6_fail_0 : decode cX6_fail 0 = .ok (.aload_n 0, 1) := by decide +kernel
theorem dX6_fail_1 : decode cX6_fail 1 = .ok (.aload_n 0, 1) := by decide +kernel
theorem dX6_fail_2 : decode cX6_fail 2 = .ok (.getfield 131, 3) := by decide +kernel
theorem dX6_fail_5 : decode cX6_fail 5 = .ok (.bipush (-5), 2) := by decide +kernel
theorem dX6_fail_7 : decode cX6_fail 7 = .ok (.if_icmp .ne 10, 3) := by decide +kernel
theorem dX6_fail_10 : decode cX6_fail 10 = .ok (.aload_n 0, 1) := by decide +kernel
theorem dX6_fail_11 : decode cX6_fail 11 = .ok (.getfield 134, 3) := by decide +kernel
theorem dX6_fail_14 : decode cX6_fail 14 = .ok (.goto 7, 3) := by decide +kernel
theorem dX6_fail_17 : decode cX6_fail 17 = .ok (.aload_n 0, 1) := by decide +kernel
theorem dX6_fail_18 : decode cX6_fail 18 = .ok (.getfield 131, 3) := by decide +kernel
theorem dX6_fail_21 : decode cX6_fail 21 = .ok (.putfield 131, 3) := by decide +kernel
theorem dX6_fail_24 : decode cX6_fail 24 = .ok (.return_, 1) := by decide +kernel
theorem dX6_takes_0 : decode cX6_takes 0 = .ok (.aload_n 0, 1) := by decide +kernel
theorem dX6_takes_1 : decode cX6_takes 1 = .ok (.aload_n 0, 1) := by decide +kernel
theorem dX6_takes_2 : decode cX6_takes 2 = .ok (.getfield 134, 3) := by decide +kernel
theorem dX6_takes_5 : decode cX6_takes 5 = .ok (.invokevirtual 137, 3) := by decide +kernel
theorem dX6_takes_8 : decode cX6_takes 8 = .ok (.iload_n 1, 1) := by decide +kernel
theorem dX6_takes_9 : decode cX6_takes 9 = .ok (.if_icmp .eq 7, 3) := by decide +kernel
theorem dX6_takes_12 : decode cX6_takes 12 = .ok (.aload_n 0, 1) := by decide +kernel
theorem dX6_takes_13 : decode cX6_takes 13 = .ok (.invokevirtual 140, 3) := by decide +kernel
theorem dX6_takes_16 : decode cX6_takes 16 = .ok (.aload_n 0, 1) := by decide +kernel
theorem dX6_takes_17 : decode cX6_takes 17 = .ok (.dup, 1) := by decide +kernel
theorem dX6_takes_18 : decode cX6_takes 18 = .ok (.getfield 134, 3) := by decide +kernel
theorem dX6_takes_21 : decode cX6_takes 21 = .ok (.iconst 1, 1) := by decide +kernel
theorem dX6_takes_22 : decode cX6_takes 22 = .ok (.iadd, 1) := by decide +kernel
theorem dX6_takes_23 : decode cX6_takes 23 = .ok (.putfield 134, 3) := by decide +kernel
theorem dX6_takes_26 : decode cX6_takes 26 = .ok (.return_, 1) := by decide +kernel
theorem dX6_isDigit_0 : decode cX6_isDigit 0 = .ok (.aload_n 0, 1) := by decide +kernel
theorem dX6_isDigit_1 : decode cX6_isDigit 1 = .ok (.iload_n 1, 1) := by decide +kernel
theorem dX6_isDigit_2 : decode cX6_isDigit 2 = .ok (.invokevirtual 137, 3) := by decide +kernel
theorem dX6_isDigit_5 : decode cX6_isDigit 5 = .ok (.bipush 48, 2) := by decide +kernel
theorem dX6_isDigit_7 : decode cX6_isDigit 7 = .ok (.if_icmp .lt 17, 3) := by decide +kernel
theorem dX6_isDigit_10 : decode cX6_isDigit 10 = .ok (.aload_n 0, 1) := by decide +kernel
theorem dX6_isDigit_11 : decode cX6_isDigit 11 = .ok (.iload_n 1, 1) := by decide +kernel
theorem dX6_isDigit_12 : decode cX6_isDigit 12 = .ok (.invokevirtual 137, 3) := by decide +kernel
theorem dX6_isDigit_15 : decode cX6_isDigit 15 = .ok (.bipush 57, 2) := by decide +kernel
theorem dX6_isDigit_17 : decode cX6_isDigit 17 = .ok (.if_icmp .gt 7, 3) := by decide +kernel
theorem dX6_isDigit_20 : decode cX6_isDigit 20 = .ok (.iconst 1, 1) := by decide +kernel
theorem dX6_isDigit_21 : decode cX6_isDigit 21 = .ok (.goto 4, 3) := by decide +kernel
theorem dX6_isDigit_24 : decode cX6_isDigit 24 = .ok (.iconst 0, 1) := by decide +kernel
theorem dX6_isDigit_25 : decode cX6_isDigit 25 = .ok (.ireturn, 1) := by decide +kernel
theorem dX6_takesNumber_0 : decode cX6_takesNumber 0 = .ok (.aload_n 0, 1) := by decide +kernel
theorem dX6_takesNumber_1 : decode cX6_takesNumber 1 = .ok (.getfield 131, 3) := by decide +kernel
theorem dX6_takesNumber_4 : decode cX6_takesNumber 4 = .ok (.bipush (-5), 2) := by decide +kernel
theorem dX6_takesNumber_6 : decode cX6_takesNumber 6 = .ok (.if_icmp .ne 14, 3) := by decide +kernel
theorem dX6_takesNumber_9 : decode cX6_takesNumber 9 = .ok (.aload_n 0, 1) := by decide +kernel
theorem dX6_takesNumber_10 : decode cX6_takesNumber 10 = .ok (.aload_n 0, 1) := by decide +kernel
theorem dX6_takesNumber_11 : decode cX6_takesNumber 11 = .ok (.getfield 134, 3) := by decide +kernel
theorem dX6_takesNumber_14 : decode cX6_takesNumber 14 = .ok (.invokevirtual 143, 3) := by decide +kernel
theorem dX6_takesNumber_17 : decode cX6_takesNumber 17 = .ok (.ifCond .ne 9, 3) := by decide +kernel
theorem dX6_takesNumber_20 : decode cX6_takesNumber 20 = .ok (.aload_n 0, 1) := by decide +kernel
theorem dX6_takesNumber_21 : decode cX6_takesNumber 21 = .ok (.invokevirtual 140, 3) := by decide +kernel
theorem dX6_takesNumber_24 : decode cX6_takesNumber 24 = .ok (.iconst 0, 1) := by decide +kernel
theorem dX6_takesNumber_25 : decode cX6_takesNumber 25 = .ok (.ireturn, 1) := by decide +kernel
theorem dX6_takesNumber_26 : decode cX6_takesNumber 26 = .ok (.aload_n 0, 1) := by decide +kernel
theorem dX6_takesNumber_27 : decode cX6_takesNumber 27 = .ok (.getfield 134, 3) := by decide +kernel
theorem dX6_takesNumber_30 : decode cX6_takesNumber 30 = .ok (.istore_n 1, 1) := by decide +kernel
theorem dX6_takesNumber_31 : decode cX6_takesNumber 31 = .ok (.iconst 0, 1) := by decide +kernel
theorem dX6_takesNumber_32 : decode cX6_takesNumber 32 = .ok (.istore_n 2, 1) := by decide +kernel
theorem dX6_takesNumber_33 : decode cX6_takesNumber 33 = .ok (.aload_n 0, 1) := by decide +kernel
theorem dX6_takesNumber_34 : decode cX6_takesNumber 34 = .ok (.aload_n 0, 1) := by decide +kernel
theorem dX6_takesNumber_35 : decode cX6_takesNumber 35 = .ok (.getfield 134, 3) := by decide +kernel
theorem dX6_takesNumber_38 : decode cX6_takesNumber 38 = .ok (.invokevirtual 143, 3) := by decide +kernel
theorem dX6_takesNumber_41 : decode cX6_takesNumber 41 = .ok (.ifCond .eq 61, 3) := by decide +kernel
theorem dX6_takesNumber_44 : decode cX6_takesNumber 44 = .ok (.aload_n 0, 1) := by decide +kernel
theorem dX6_takesNumber_45 : decode cX6_takesNumber 45 = .ok (.getfield 134, 3) := by decide +kernel
theorem dX6_takesNumber_48 : decode cX6_takesNumber 48 = .ok (.iload_n 1, 1) := by decide +kernel
theorem dX6_takesNumber_49 : decode cX6_takesNumber 49 = .ok (.isub, 1) := by decide +kernel
theorem dX6_takesNumber_50 : decode cX6_takesNumber 50 = .ok (.iconst 3, 1) := by decide +kernel
theorem dX6_takesNumber_51 : decode cX6_takesNumber 51 = .ok (.if_icmp .ge 51, 3) := by decide +kernel
theorem dX6_takesNumber_54 : decode cX6_takesNumber 54 = .ok (.aload_n 0, 1) := by decide +kernel
theorem dX6_takesNumber_55 : decode cX6_takesNumber 55 = .ok (.getfield 134, 3) := by decide +kernel
theorem dX6_takesNumber_58 : decode cX6_takesNumber 58 = .ok (.iload_n 1, 1) := by decide +kernel
theorem dX6_takesNumber_59 : decode cX6_takesNumber 59 = .ok (.if_icmp .eq 13, 3) := by decide +kernel
theorem dX6_takesNumber_62 : decode cX6_takesNumber 62 = .ok (.aload_n 0, 1) := by decide +kernel
theorem dX6_takesNumber_63 : decode cX6_takesNumber 63 = .ok (.iload_n 1, 1) := by decide +kernel
theorem dX6_takesNumber_64 : decode cX6_takesNumber 64 = .ok (.invokevirtual 137, 3) := by decide +kernel
theorem dX6_takesNumber_67 : decode cX6_takesNumber 67 = .ok (.bipush 48, 2) := by decide +kernel
theorem dX6_takesNumber_69 : decode cX6_takesNumber 69 = .ok (.if_icmp .eq 33, 3) := by decide +kernel
theorem dX6_takesNumber_72 : decode cX6_takesNumber 72 = .ok (.bipush 10, 2) := by decide +kernel
theorem dX6_takesNumber_74 : decode cX6_takesNumber 74 = .ok (.iload_n 2, 1) := by decide +kernel
theorem dX6_takesNumber_75 : decode cX6_takesNumber 75 = .ok (.imul, 1) := by decide +kernel
theorem dX6_takesNumber_76 : decode cX6_takesNumber 76 = .ok (.aload_n 0, 1) := by decide +kernel
theorem dX6_takesNumber_77 : decode cX6_takesNumber 77 = .ok (.aload_n 0, 1) := by decide +kernel
theorem dX6_takesNumber_78 : decode cX6_takesNumber 78 = .ok (.getfield 134, 3) := by decide +kernel
theorem dX6_takesNumber_81 : decode cX6_takesNumber 81 = .ok (.invokevirtual 137, 3) := by decide +kernel
theorem dX6_takesNumber_84 : decode cX6_takesNumber 84 = .ok (.iadd, 1) := by decide +kernel
theorem dX6_takesNumber_85 : decode cX6_takesNumber 85 = .ok (.bipush 48, 2) := by decide +kernel
theorem dX6_takesNumber_87 : decode cX6_takesNumber 87 = .ok (.isub, 1) := by decide +kernel
theorem dX6_takesNumber_88 : decode cX6_takesNumber 88 = .ok (.istore_n 2, 1) := by decide +kernel
theorem dX6_takesNumber_89 : decode cX6_takesNumber 89 = .ok (.aload_n 0, 1) := by decide +kernel
theorem dX6_takesNumber_90 : decode cX6_takesNumber 90 = .ok (.dup, 1) := by decide +kernel
theorem dX6_takesNumber_91 : decode cX6_takesNumber 91 = .ok (.getfield 134, 3) := by decide +kernel
theorem dX6_takesNumber_94 : decode cX6_takesNumber 94 = .ok (.iconst 1, 1) := by decide +kernel
theorem dX6_takesNumber_95 : decode cX6_takesNumber 95 = .ok (.iadd, 1) := by decide +kernel
theorem dX6_takesNumber_96 : decode cX6_takesNumber 96 = .ok (.putfield 134, 3) := by decide +kernel
theorem dX6_takesNumber_99 : decode cX6_takesNumber 99 = .ok (.goto (-66), 3) := by decide +kernel
theorem dX6_takesNumber_102 : decode cX6_takesNumber 102 = .ok (.iload_n 2, 1) := by decide +kernel
theorem dX6_takesNumber_103 : decode cX6_takesNumber 103 = .ok (.ireturn, 1) := by decide +kernel
theorem dX6_readText_0 : decode cX6_readText 0 = .ok (.aload_n 0, 1) := by decide +kernel
theorem dX6_readText_1 : decode cX6_readText 1 = .ok (.bipush (-5), 2) := by decide +kernel
theorem dX6_readText_3 : decode cX6_readText 3 = .ok (.putfield 131, 3) := by decide +kernel
theorem dX6_readText_6 : decode cX6_readText 6 = .ok (.aload_n 0, 1) := by decide +kernel
theorem dX6_readText_7 : decode cX6_readText 7 = .ok (.iconst 0, 1) := by decide +kernel
theorem dX6_readText_8 : decode cX6_readText 8 = .ok (.putfield 134, 3) := by decide +kernel
theorem dX6_readText_11 : decode cX6_readText 11 = .ok (.aload_n 0, 1) := by decide +kernel
theorem dX6_readText_12 : decode cX6_readText 12 = .ok (.iconst 0, 1) := by decide +kernel
theorem dX6_readText_13 : decode cX6_readText 13 = .ok (.putfield 147, 3) := by decide +kernel
theorem dX6_readText_16 : decode cX6_readText 16 = .ok (.aload_n 0, 1) := by decide +kernel
theorem dX6_readText_17 : decode cX6_readText 17 = .ok (.getfield 32, 3) := by decide +kernel
theorem dX6_readText_20 : decode cX6_readText 20 = .ok (.iconst 0, 1) := by decide +kernel
theorem dX6_readText_21 : decode cX6_readText 21 = .ok (.aload_n 0, 1) := by decide +kernel
theorem dX6_readText_22 : decode cX6_readText 22 = .ok (.iconst 0, 1) := by decide +kernel
theorem dX6_readText_23 : decode cX6_readText 23 = .ok (.invokevirtual 137, 3) := by decide +kernel
theorem dX6_readText_26 : decode cX6_readText 26 = .ok (.bipush 48, 2) := by decide +kernel
theorem dX6_readText_28 : decode cX6_readText 28 = .ok (.isub, 1) := by decide +kernel
theorem dX6_readText_29 : decode cX6_readText 29 = .ok (.iastore, 1) := by decide +kernel
theorem dX6_readText_30 : decode cX6_readText 30 = .ok (.aload_n 0, 1) := by decide +kernel
theorem dX6_readText_31 : decode cX6_readText 31 = .ok (.iconst 0, 1) := by decide +kernel
theorem dX6_readText_32 : decode cX6_readText 32 = .ok (.invokevirtual 137, 3) := by decide +kernel
theorem dX6_readText_35 : decode cX6_readText 35 = .ok (.bipush 48, 2) := by decide +kernel
theorem dX6_readText_37 : decode cX6_readText 37 = .ok (.if_icmp .lt 13, 3) := by decide +kernel
theorem dX6_readText_40 : decode cX6_readText 40 = .ok (.aload_n 0, 1) := by decide +kernel
theorem dX6_readText_41 : decode cX6_readText 41 = .ok (.iconst 0, 1) := by decide +kernel
theorem dX6_readText_42 : decode cX6_readText 42 = .ok (.invokevirtual 137, 3) := by decide +kernel
theorem dX6_readText_45 : decode cX6_readText 45 = .ok (.bipush 51, 2) := by decide +kernel
theorem dX6_readText_47 : decode cX6_readText 47 = .ok (.if_icmp .le 7, 3) := by decide +kernel
theorem dX6_readText_50 : decode cX6_readText 50 = .ok (.aload_n 0, 1) := by decide +kernel
theorem dX6_readText_51 : decode cX6_readText 51 = .ok (.invokevirtual 140, 3) := by decide +kernel
theorem dX6_readText_54 : decode cX6_readText 54 = .ok (.aload_n 0, 1) := by decide +kernel
theorem dX6_readText_55 : decode cX6_readText 55 = .ok (.dup, 1) := by decide +kernel
theorem dX6_readText_56 : decode cX6_readText 56 = .ok (.getfield 134, 3) := by decide +kernel
theorem dX6_readText_59 : decode cX6_readText 59 = .ok (.iconst 1, 1) := by decide +kernel
theorem dX6_readText_60 : decode cX6_readText 60 = .ok (.iadd, 1) := by decide +kernel
theorem dX6_readText_61 : decode cX6_readText 61 = .ok (.putfield 134, 3) := by decide +kernel
theorem dX6_readText_64 : decode cX6_readText 64 = .ok (.aload_n 0, 1) := by decide +kernel
theorem dX6_readText_65 : decode cX6_readText 65 = .ok (.bipush 58, 2) := by decide +kernel
theorem dX6_readText_67 : decode cX6_readText 67 = .ok (.invokevirtual 150, 3) := by decide +kernel
theorem dX6_readText_70 : decode cX6_readText 70 = .ok (.aload_n 0, 1) := by decide +kernel
theorem dX6_readText_71 : decode cX6_readText 71 = .ok (.getfield 32, 3) := by decide +kernel
theorem dX6_readText_74 : decode cX6_readText 74 = .ok (.iconst 1, 1) := by decide +kernel
theorem dX6_readText_75 : decode cX6_readText 75 = .ok (.aload_n 0, 1) := by decide +kernel
theorem dX6_readText_76 : decode cX6_readText 76 = .ok (.invokevirtual 154, 3) := by decide +kernel
theorem dX6_readText_79 : decode cX6_readText 79 = .ok (.iastore, 1) := by decide +kernel
theorem dX6_readText_80 : decode cX6_readText 80 = .ok (.aload_n 0, 1) := by decide +kernel
theorem dX6_readText_81 : decode cX6_readText 81 = .ok (.bipush 45, 2) := by decide +kernel
theorem dX6_readText_83 : decode cX6_readText 83 = .ok (.invokevirtual 150, 3) := by decide +kernel
theorem dX6_readText_86 : decode cX6_readText 86 = .ok (.aload_n 0, 1) := by decide +kernel
theorem dX6_readText_87 : decode cX6_readText 87 = .ok (.getfield 32, 3) := by decide +kernel
theorem dX6_readText_90 : decode cX6_readText 90 = .ok (.iconst 2, 1) := by decide +kernel
theorem dX6_readText_91 : decode cX6_readText 91 = .ok (.aload_n 0, 1) := by decide +kernel
theorem dX6_readText_92 : decode cX6_readText 92 = .ok (.invokevirtual 154, 3) := by decide +kernel
theorem dX6_readText_95 : decode cX6_readText 95 = .ok (.iastore, 1) := by decide +kernel
theorem dX6_readText_96 : decode cX6_readText 96 = .ok (.aload_n 0, 1) := by decide +kernel
theorem dX6_readText_97 : decode cX6_readText 97 = .ok (.bipush 61, 2) := by decide +kernel
theorem dX6_readText_99 : decode cX6_readText 99 = .ok (.invokevirtual 150, 3) := by decide +kernel
theorem dX6_readText_102 : decode cX6_readText 102 = .ok (.iconst 1, 1) := by decide +kernel
theorem dX6_readText_103 : decode cX6_readText 103 = .ok (.istore_n 1, 1) := by decide +kernel
theorem dX6_readText_104 : decode cX6_readText 104 = .ok (.iload_n 1, 1) := by decide +kernel
theorem dX6_readText_105 : decode cX6_readText 105 = .ok (.ifCond .eq 95, 3) := by decide +kernel
theorem dX6_readText_108 : decode cX6_readText 108 = .ok (.aload_n 0, 1) := by decide +kernel
theorem dX6_readText_109 : decode cX6_readText 109 = .ok (.getfield 32, 3) := by decide +kernel
theorem dX6_readText_112 : decode cX6_readText 112 = .ok (.iconst 3, 1) := by decide +kernel
theorem dX6_readText_113 : decode cX6_readText 113 = .ok (.aload_n 0, 1) := by decide +kernel
theorem dX6_readText_114 : decode cX6_readText 114 = .ok (.getfield 147, 3) := by decide +kernel
theorem dX6_readText_117 : decode cX6_readText 117 = .ok (.iadd, 1) := by decide +kernel
theorem dX6_readText_118 : decode cX6_readText 118 = .ok (.aload_n 0, 1) := by decide +kernel
theorem dX6_readText_119 : decode cX6_readText 119 = .ok (.invokevirtual 154, 3) := by decide +kernel
theorem dX6_readText_122 : decode cX6_readText 122 = .ok (.iastore, 1) := by decide +kernel
theorem dX6_readText_123 : decode cX6_readText 123 = .ok (.aload_n 0, 1) := by decide +kernel
theorem dX6_readText_124 : decode cX6_readText 124 = .ok (.dup, 1) := by decide +kernel
theorem dX6_readText_125 : decode cX6_readText 125 = .ok (.getfield 147, 3) := by decide +kernel
theorem dX6_readText_128 : decode cX6_readText 128 = .ok (.iconst 1, 1) := by decide +kernel
theorem dX6_readText_129 : decode cX6_readText 129 = .ok (.iadd, 1) := by decide +kernel
theorem dX6_readText_130 : decode cX6_readText 130 = .ok (.putfield 147, 3) := by decide +kernel
theorem dX6_readText_133 : decode cX6_readText 133 = .ok (.aload_n 0, 1) := by decide +kernel
theorem dX6_readText_134 : decode cX6_readText 134 = .ok (.getfield 131, 3) := by decide +kernel
theorem dX6_readText_137 : decode cX6_readText 137 = .ok (.bipush (-5), 2) := by decide +kernel
theorem dX6_readText_139 : decode cX6_readText 139 = .ok (.if_icmp .ne 18, 3) := by decide +kernel
theorem dX6_readText_142 : decode cX6_readText 142 = .ok (.aload_n 0, 1) := by decide +kernel
theorem dX6_readText_143 : decode cX6_readText 143 = .ok (.getfield 134, 3) := by decide +kernel
theorem dX6_readText_146 : decode cX6_readText 146 = .ok (.aload_n 0, 1) := by decide +kernel
theorem dX6_readText_147 : decode cX6_readText 147 = .ok (.getfield 128, 3) := by decide +kernel
theorem dX6_readText_150 : decode cX6_readText 150 = .ok (.if_icmp .ge 7, 3) := by decide +kernel
theorem dX6_readText_153 : decode cX6_readText 153 = .ok (.iconst 1, 1) := by decide +kernel
theorem dX6_readText_154 : decode cX6_readText 154 = .ok (.goto 4, 3) := by decide +kernel
theorem dX6_readText_157 : decode cX6_readText 157 = .ok (.iconst 0, 1) := by decide +kernel
theorem dX6_readText_158 : decode cX6_readText 158 = .ok (.istore_n 1, 1) := by decide +kernel
theorem dX6_readText_159 : decode cX6_readText 159 = .ok (.iload_n 1, 1) := by decide +kernel
theorem dX6_readText_160 : decode cX6_readText 160 = .ok (.ifCond .eq (-56), 3) := by decide +kernel
theorem dX6_readText_163 : decode cX6_readText 163 = .ok (.aload_n 0, 1) := by decide +kernel
theorem dX6_readText_164 : decode cX6_readText 164 = .ok (.getfield 147, 3) := by decide +kernel
theorem dX6_readText_167 : decode cX6_readText 167 = .ok (.bipush 16, 2) := by decide +kernel
theorem dX6_readText_169 : decode cX6_readText 169 = .ok (.if_icmp .ne 7, 3) := by decide +kernel
theorem dX6_readText_172 : decode cX6_readText 172 = .ok (.aload_n 0, 1) := by decide +kernel
theorem dX6_readText_173 : decode cX6_readText 173 = .ok (.invokevirtual 140, 3) := by decide +kernel
theorem dX6_readText_176 : decode cX6_readText 176 = .ok (.aload_n 0, 1) := by decide +kernel
theorem dX6_readText_177 : decode cX6_readText 177 = .ok (.bipush 44, 2) := by decide +kernel
theorem dX6_readText_179 : decode cX6_readText 179 = .ok (.invokevirtual 150, 3) := by decide +kernel
theorem dX6_readText_182 : decode cX6_readText 182 = .ok (.aload_n 0, 1) := by decide +kernel
theorem dX6_readText_183 : decode cX6_readText 183 = .ok (.getfield 131, 3) := by decide +kernel
theorem dX6_readText_186 : decode cX6_readText 186 = .ok (.bipush (-5), 2) := by decide +kernel
theorem dX6_readText_188 : decode cX6_readText 188 = .ok (.if_icmp .ne 7, 3) := by decide +kernel
theorem dX6_readText_191 : decode cX6_readText 191 = .ok (.iconst 1, 1) := by decide +kernel
theorem dX6_readText_192 : decode cX6_readText 192 = .ok (.goto 4, 3) := by decide +kernel
theorem dX6_readText_195 : decode cX6_readText 195 = .ok (.iconst 0, 1) := by decide +kernel
theorem dX6_readText_196 : decode cX6_readText 196 = .ok (.istore_n 1, 1) := by decide +kernel
theorem dX6_readText_197 : decode cX6_readText 197 = .ok (.goto (-93), 3) := by decide +kernel
theorem dX6_readText_200 : decode cX6_readText 200 = .ok (.aload_n 0, 1) := by decide +kernel
theorem dX6_readText_201 : decode cX6_readText 201 = .ok (.getfield 131, 3) := by decide +kernel
theorem dX6_readText_204 : decode cX6_readText 204 = .ok (.ireturn, 1) := by decide +kernel
theorem dX6_areWithin_0 : decode cX6_areWithin 0 = .ok (.aload_n 0, 1) := by decide +kernel
theorem dX6_areWithin_1 : decode cX6_areWithin 1 = .ok (.getfield 32, 3) := by decide +kernel
theorem dX6_areWithin_4 : decode cX6_areWithin 4 = .ok (.iconst 1, 1) := by decide +kernel
theorem dX6_areWithin_5 : decode cX6_areWithin 5 = .ok (.iaload, 1) := by decide +kernel
theorem dX6_areWithin_6 : decode cX6_areWithin 6 = .ok (.aload_n 0, 1) := by decide +kernel
theorem dX6_areWithin_7 : decode cX6_areWithin 7 = .ok (.getfield 32, 3) := by decide +kernel
theorem dX6_areWithin_10 : decode cX6_areWithin 10 = .ok (.iconst 2, 1) := by decide +kernel
theorem dX6_areWithin_11 : decode cX6_areWithin 11 = .ok (.iaload, 1) := by decide +kernel
theorem dX6_areWithin_12 : decode cX6_areWithin 12 = .ok (.if_icmp .gt 7, 3) := by decide +kernel
theorem dX6_areWithin_15 : decode cX6_areWithin 15 = .ok (.iconst 1, 1) := by decide +kernel
theorem dX6_areWithin_16 : decode cX6_areWithin 16 = .ok (.goto 4, 3) := by decide +kernel
theorem dX6_areWithin_19 : decode cX6_areWithin 19 = .ok (.iconst 0, 1) := by decide +kernel
theorem dX6_areWithin_20 : decode cX6_areWithin 20 = .ok (.istore_n 1, 1) := by decide +kernel
theorem dX6_areWithin_21 : decode cX6_areWithin 21 = .ok (.iconst 0, 1) := by decide +kernel
theorem dX6_areWithin_22 : decode cX6_areWithin 22 = .ok (.istore_n 2, 1) := by decide +kernel
theorem dX6_areWithin_23 : decode cX6_areWithin 23 = .ok (.iload_n 2, 1) := by decide +kernel
theorem dX6_areWithin_24 : decode cX6_areWithin 24 = .ok (.aload_n 0, 1) := by decide +kernel
theorem dX6_areWithin_25 : decode cX6_areWithin 25 = .ok (.getfield 147, 3) := by decide +kernel
theorem dX6_areWithin_28 : decode cX6_areWithin 28 = .ok (.if_icmp .ge 45, 3) := by decide +kernel
theorem dX6_areWithin_31 : decode cX6_areWithin 31 = .ok (.iload_n 1, 1) := by decide +kernel
theorem dX6_areWithin_32 : decode cX6_areWithin 32 = .ok (.ifCond .eq 33, 3) := by decide +kernel
theorem dX6_areWithin_35 : decode cX6_areWithin 35 = .ok (.aload_n 0, 1) := by decide +kernel
theorem dX6_areWithin_36 : decode cX6_areWithin 36 = .ok (.getfield 32, 3) := by decide +kernel
theorem dX6_areWithin_39 : decode cX6_areWithin 39 = .ok (.iconst 3, 1) := by decide +kernel
theorem dX6_areWithin_40 : decode cX6_areWithin 40 = .ok (.iload_n 2, 1) := by decide +kernel
theorem dX6_areWithin_41 : decode cX6_areWithin 41 = .ok (.iadd, 1) := by decide +kernel
theorem dX6_areWithin_42 : decode cX6_areWithin 42 = .ok (.iaload, 1) := by decide +kernel
theorem dX6_areWithin_43 : decode cX6_areWithin 43 = .ok (.aload_n 0, 1) := by decide +kernel
theorem dX6_areWithin_44 : decode cX6_areWithin 44 = .ok (.getfield 32, 3) := by decide +kernel
theorem dX6_areWithin_47 : decode cX6_areWithin 47 = .ok (.iconst 1, 1) := by decide +kernel
theorem dX6_areWithin_48 : decode cX6_areWithin 48 = .ok (.iaload, 1) := by decide +kernel
theorem dX6_areWithin_49 : decode cX6_areWithin 49 = .ok (.aload_n 0, 1) := by decide +kernel
theorem dX6_areWithin_50 : decode cX6_areWithin 50 = .ok (.getfield 32, 3) := by decide +kernel
theorem dX6_areWithin_53 : decode cX6_areWithin 53 = .ok (.iconst 2, 1) := by decide +kernel
theorem dX6_areWithin_54 : decode cX6_areWithin 54 = .ok (.iaload, 1) := by decide +kernel
theorem dX6_areWithin_55 : decode cX6_areWithin 55 = .ok (.invokestatic 157, 3) := by decide +kernel
theorem dX6_areWithin_58 : decode cX6_areWithin 58 = .ok (.ifCond .eq 7, 3) := by decide +kernel
theorem dX6_areWithin_61 : decode cX6_areWithin 61 = .ok (.iconst 1, 1) := by decide +kernel
theorem dX6_areWithin_62 : decode cX6_areWithin 62 = .ok (.goto 4, 3) := by decide +kernel
theorem dX6_areWithin_65 : decode cX6_areWithin 65 = .ok (.iconst 0, 1) := by decide +kernel
theorem dX6_areWithin_66 : decode cX6_areWithin 66 = .ok (.istore_n 1, 1) := by decide +kernel
theorem dX6_areWithin_67 : decode cX6_areWithin 67 = .ok (.iinc 2 1, 3) := by decide +kernel
theorem dX6_areWithin_70 : decode cX6_areWithin 70 = .ok (.goto (-47), 3) := by decide +kernel
theorem dX6_areWithin_73 : decode cX6_areWithin 73 = .ok (.iload_n 1, 1) := by decide +kernel
theorem dX6_areWithin_74 : decode cX6_areWithin 74 = .ok (.ireturn, 1) := by decide +kernel
theorem dX6_addBlock_0 : decode cX6_addBlock 0 = .ok (.aload_n 0, 1) := by decide +kernel
theorem dX6_addBlock_1 : decode cX6_addBlock 1 = .ok (.invokevirtual 161, 3) := by decide +kernel
theorem dX6_addBlock_4 : decode cX6_addBlock 4 = .ok (.bipush (-5), 2) := by decide +kernel
theorem dX6_addBlock_6 : decode cX6_addBlock 6 = .ok (.if_icmp .eq 11, 3) := by decide +kernel
theorem dX6_addBlock_9 : decode cX6_addBlock 9 = .ok (.bipush (-100), 2) := by decide +kernel
theorem dX6_addBlock_11 : decode cX6_addBlock 11 = .ok (.aload_n 0, 1) := by decide +kernel
theorem dX6_addBlock_12 : decode cX6_addBlock 12 = .ok (.getfield 131, 3) := by decide +kernel
theorem dX6_addBlock_15 : decode cX6_addBlock 15 = .ok (.isub, 1) := by decide +kernel
theorem dX6_addBlock_16 : decode cX6_addBlock 16 = .ok (.ireturn, 1) := by decide +kernel
theorem dX6_addBlock_17 : decode cX6_addBlock 17 = .ok (.aload_n 0, 1) := by decide +kernel
theorem dX6_addBlock_18 : decode cX6_addBlock 18 = .ok (.invokevirtual 164, 3) := by decide +kernel
theorem dX6_addBlock_21 : decode cX6_addBlock 21 = .ok (.ifCond .ne 6, 3) := by decide +kernel
theorem dX6_addBlock_24 : decode cX6_addBlock 24 = .ok (.bipush (-2), 2) := by decide +kernel
theorem dX6_addBlock_26 : decode cX6_addBlock 26 = .ok (.ireturn, 1) := by decide +kernel
theorem dX6_addBlock_27 : decode cX6_addBlock 27 = .ok (.aload_n 0, 1) := by decide +kernel
theorem dX6_addBlock_28 : decode cX6_addBlock 28 = .ok (.getfield 7, 3) := by decide +kernel
theorem dX6_addBlock_31 : decode cX6_addBlock 31 = .ok (.iconst 0, 1) := by decide +kernel
theorem dX6_addBlock_32 : decode cX6_addBlock 32 = .ok (.iaload, 1) := by decide +kernel
theorem dX6_addBlock_33 : decode cX6_addBlock 33 = .ok (.bipush 8, 2) := by decide +kernel
theorem dX6_addBlock_35 : decode cX6_addBlock 35 = .ok (.if_icmp .ne 6, 3) := by decide +kernel
theorem dX6_addBlock_38 : decode cX6_addBlock 38 = .ok (.bipush (-3), 2) := by decide +kernel
theorem dX6_addBlock_40 : decode cX6_addBlock 40 = .ok (.ireturn, 1) := by decide +kernel
theorem dX6_addBlock_41 : decode cX6_addBlock 41 = .ok (.aload_n 0, 1) := by decide +kernel
theorem dX6_addBlock_42 : decode cX6_addBlock 42 = .ok (.invokevirtual 47, 3) := by decide +kernel
theorem dX6_addBlock_45 : decode cX6_addBlock 45 = .ok (.aload_n 0, 1) := by decide +kernel
theorem dX6_addBlock_46 : decode cX6_addBlock 46 = .ok (.getfield 7, 3) := by decide +kernel
theorem dX6_addBlock_49 : decode cX6_addBlock 49 = .ok (.iconst 0, 1) := by decide +kernel
theorem dX6_addBlock_50 : decode cX6_addBlock 50 = .ok (.iaload, 1) := by decide +kernel
theorem dX6_addBlock_51 : decode cX6_addBlock 51 = .ok (.istore_n 1, 1) := by decide +kernel
theorem dX6_addBlock_52 : decode cX6_addBlock 52 = .ok (.aload_n 0, 1) := by decide +kernel
theorem dX6_addBlock_53 : decode cX6_addBlock 53 = .ok (.getfield 7, 3) := by decide +kernel
theorem dX6_addBlock_56 : decode cX6_addBlock 56 = .ok (.iconst 0, 1) := by decide +kernel
theorem dX6_addBlock_57 : decode cX6_addBlock 57 = .ok (.dup2, 1) := by decide +kernel
theorem dX6_addBlock_58 : decode cX6_addBlock 58 = .ok (.iaload, 1) := by decide +kernel
theorem dX6_addBlock_59 : decode cX6_addBlock 59 = .ok (.iconst 1, 1) := by decide +kernel
theorem dX6_addBlock_60 : decode cX6_addBlock 60 = .ok (.iadd, 1) := by decide +kernel
theorem dX6_addBlock_61 : decode cX6_addBlock 61 = .ok (.iastore, 1) := by decide +kernel
theorem dX6_addBlock_62 : decode cX6_addBlock 62 = .ok (.iconst 0, 1) := by decide +kernel
theorem dX6_addBlock_63 : decode cX6_addBlock 63 = .ok (.istore_n 2, 1) := by decide +kernel
theorem dX6_addBlock_64 : decode cX6_addBlock 64 = .ok (.iload_n 2, 1) := by decide +kernel
theorem dX6_addBlock_65 : decode cX6_addBlock 65 = .ok (.iconst 3, 1) := by decide +kernel
theorem dX6_addBlock_66 : decode cX6_addBlock 66 = .ok (.if_icmp .ge 21, 3) := by decide +kernel
theorem dX6_addBlock_69 : decode cX6_addBlock 69 = .ok (.aload_n 0, 1) := by decide +kernel
theorem dX6_addBlock_70 : decode cX6_addBlock 70 = .ok (.iload_n 1, 1) := by decide +kernel
theorem dX6_addBlock_71 : decode cX6_addBlock 71 = .ok (.iload_n 2, 1) := by decide +kernel
theorem dX6_addBlock_72 : decode cX6_addBlock 72 = .ok (.aload_n 0, 1) := by decide +kernel
theorem dX6_addBlock_73 : decode cX6_addBlock 73 = .ok (.getfield 32, 3) := by decide +kernel
theorem dX6_addBlock_76 : decode cX6_addBlock 76 = .ok (.iload_n 2, 1) := by decide +kernel
theorem dX6_addBlock_77 : decode cX6_addBlock 77 = .ok (.iaload, 1) := by decide +kernel
theorem dX6_addBlock_78 : decode cX6_addBlock 78 = .ok (.invokevirtual 116, 3) := by decide +kernel
theorem dX6_addBlock_81 : decode cX6_addBlock 81 = .ok (.iinc 2 1, 3) := by decide +kernel
theorem dX6_addBlock_84 : decode cX6_addBlock 84 = .ok (.goto (-20), 3) := by decide +kernel
theorem dX6_addBlock_87 : decode cX6_addBlock 87 = .ok (.aload_n 0, 1) := by decide +kernel
theorem dX6_addBlock_88 : decode cX6_addBlock 88 = .ok (.iload_n 1, 1) := by decide +kernel
theorem dX6_addBlock_89 : decode cX6_addBlock 89 = .ok (.iconst 3, 1) := by decide +kernel
theorem dX6_addBlock_90 : decode cX6_addBlock 90 = .ok (.aload_n 0, 1) := by decide +kernel
theorem dX6_addBlock_91 : decode cX6_addBlock 91 = .ok (.getfield 147, 3) := by decide +kernel
theorem dX6_addBlock_94 : decode cX6_addBlock 94 = .ok (.invokevirtual 116, 3) := by decide +kernel
theorem dX6_addBlock_97 : decode cX6_addBlock 97 = .ok (.aload_n 0, 1) := by decide +kernel
theorem dX6_addBlock_98 : decode cX6_addBlock 98 = .ok (.iload_n 1, 1) := by decide +kernel
theorem dX6_addBlock_99 : decode cX6_addBlock 99 = .ok (.iconst 4, 1) := by decide +kernel
theorem dX6_addBlock_100 : decode cX6_addBlock 100 = .ok (.iconst 0, 1) := by decide +kernel
theorem dX6_addBlock_101 : decode cX6_addBlock 101 = .ok (.invokevirtual 116, 3) := by decide +kernel
theorem dX6_addBlock_104 : decode cX6_addBlock 104 = .ok (.iconst 0, 1) := by decide +kernel
theorem dX6_addBlock_105 : decode cX6_addBlock 105 = .ok (.istore_n 2, 1) := by decide +kernel
theorem dX6_addBlock_106 : decode cX6_addBlock 106 = .ok (.iload_n 2, 1) := by decide +kernel
theorem dX6_addBlock_107 : decode cX6_addBlock 107 = .ok (.aload_n 0, 1) := by decide +kernel
theorem dX6_addBlock_108 : decode cX6_addBlock 108 = .ok (.getfield 147, 3) := by decide +kernel
theorem dX6_addBlock_111 : decode cX6_addBlock 111 = .ok (.if_icmp .ge 25, 3) := by decide +kernel
theorem dX6_addBlock_114 : decode cX6_addBlock 114 = .ok (.aload_n 0, 1) := by decide +kernel
theorem dX6_addBlock_115 : decode cX6_addBlock 115 = .ok (.iload_n 1, 1) := by decide +kernel
theorem dX6_addBlock_116 : decode cX6_addBlock 116 = .ok (.iconst 5, 1) := by decide +kernel
theorem dX6_addBlock_117 : decode cX6_addBlock 117 = .ok (.iload_n 2, 1) := by decide +kernel
theorem dX6_addBlock_118 : decode cX6_addBlock 118 = .ok (.iadd, 1) := by decide +kernel
theorem dX6_addBlock_119 : decode cX6_addBlock 119 = .ok (.aload_n 0, 1) := by decide +kernel
theorem dX6_addBlock_120 : decode cX6_addBlock 120 = .ok (.getfield 32, 3) := by decide +kernel
theorem dX6_addBlock_123 : decode cX6_addBlock 123 = .ok (.iconst 3, 1) := by decide +kernel
theorem dX6_addBlock_124 : decode cX6_addBlock 124 = .ok (.iload_n 2, 1) := by decide +kernel
theorem dX6_addBlock_125 : decode cX6_addBlock 125 = .ok (.iadd, 1) := by decide +kernel
theorem dX6_addBlock_126 : decode cX6_addBlock 126 = .ok (.iaload, 1) := by decide +kernel
theorem dX6_addBlock_127 : decode cX6_addBlock 127 = .ok (.invokevirtual 116, 3) := by decide +kernel
theorem dX6_addBlock_130 : decode cX6_addBlock 130 = .ok (.iinc 2 1, 3) := by decide +kernel
theorem dX6_addBlock_133 : decode cX6_addBlock 133 = .ok (.goto (-27), 3) := by decide +kernel
theorem dX6_addBlock_136 : decode cX6_addBlock 136 = .ok (.aload_n 0, 1) := by decide +kernel
theorem dX6_addBlock_137 : decode cX6_addBlock 137 = .ok (.invokevirtual 119, 3) := by decide +kernel
theorem dX6_addBlock_140 : decode cX6_addBlock 140 = .ok (.iload_n 1, 1) := by decide +kernel
theorem dX6_addBlock_141 : decode cX6_addBlock 141 = .ok (.ireturn, 1) := by decide +kernel
theorem dX6_addRow_0 : decode cX6_addRow 0 = .ok (.aload_n 0, 1) := by decide +kernel
theorem dX6_addRow_1 : decode cX6_addRow 1 = .ok (.iload_n 1, 1) := by decide +kernel
theorem dX6_addRow_2 : decode cX6_addRow 2 = .ok (.invokevirtual 168, 3) := by decide +kernel
theorem dX6_addRow_5 : decode cX6_addRow 5 = .ok (.ifCond .ne 5, 3) := by decide +kernel
theorem dX6_addRow_8 : decode cX6_addRow 8 = .ok (.iconst (-1), 1) := by decide +kernel
theorem dX6_addRow_9 : decode cX6_addRow 9 = .ok (.ireturn, 1) := by decide +kernel
theorem dX6_addRow_10 : decode cX6_addRow 10 = .ok (.iload_n 2, 1) := by decide +kernel
theorem dX6_addRow_11 : decode cX6_addRow 11 = .ok (.aload_n 0, 1) := by decide +kernel
theorem dX6_addRow_12 : decode cX6_addRow 12 = .ok (.iload_n 1, 1) := by decide +kernel
theorem dX6_addRow_13 : decode cX6_addRow 13 = .ok (.iconst 1, 1) := by decide +kernel
theorem dX6_addRow_14 : decode cX6_addRow 14 = .ok (.invokevirtual 50, 3) := by decide +kernel
theorem dX6_addRow_17 : decode cX6_addRow 17 = .ok (.aload_n 0, 1) := by decide +kernel
theorem dX6_addRow_18 : decode cX6_addRow 18 = .ok (.iload_n 1, 1) := by decide +kernel
theorem dX6_addRow_19 : decode cX6_addRow 19 = .ok (.iconst 2, 1) := by decide +kernel
theorem dX6_addRow_20 : decode cX6_addRow 20 = .ok (.invokevirtual 50, 3) := by decide +kernel
theorem dX6_addRow_23 : decode cX6_addRow 23 = .ok (.invokestatic 157, 3) := by decide +kernel
theorem dX6_addRow_26 : decode cX6_addRow 26 = .ok (.ifCond .ne 6, 3) := by decide +kernel
theorem dX6_addRow_29 : decode cX6_addRow 29 = .ok (.bipush (-2), 2) := by decide +kernel
theorem dX6_addRow_31 : decode cX6_addRow 31 = .ok (.ireturn, 1) := by decide +kernel
theorem dX6_addRow_32 : decode cX6_addRow 32 = .ok (.aload_n 0, 1) := by decide +kernel
theorem dX6_addRow_33 : decode cX6_addRow 33 = .ok (.iload_n 1, 1) := by decide +kernel
theorem dX6_addRow_34 : decode cX6_addRow 34 = .ok (.iconst 3, 1) := by decide +kernel
theorem dX6_addRow_35 : decode cX6_addRow 35 = .ok (.invokevirtual 50, 3) := by decide +kernel
theorem dX6_addRow_38 : decode cX6_addRow 38 = .ok (.istore_n 3, 1) := by decide +kernel
theorem dX6_addRow_39 : decode cX6_addRow 39 = .ok (.iload_n 3, 1) := by decide +kernel
theorem dX6_addRow_40 : decode cX6_addRow 40 = .ok (.bipush 16, 2) := by decide +kernel
theorem dX6_addRow_42 : decode cX6_addRow 42 = .ok (.if_icmp .ne 6, 3) := by decide +kernel
theorem dX6_addRow_45 : decode cX6_addRow 45 = .ok (.bipush (-3), 2) := by decide +kernel
theorem dX6_addRow_47 : decode cX6_addRow 47 = .ok (.ireturn, 1) := by decide +kernel
theorem dX6_addRow_48 : decode cX6_addRow 48 = .ok (.aload_n 0, 1) := by decide +kernel
theorem dX6_addRow_49 : decode cX6_addRow 49 = .ok (.invokevirtual 47, 3) := by decide +kernel
theorem dX6_addRow_52 : decode cX6_addRow 52 = .ok (.aload_n 0, 1) := by decide +kernel
theorem dX6_addRow_53 : decode cX6_addRow 53 = .ok (.iload_n 1, 1) := by decide +kernel
theorem dX6_addRow_54 : decode cX6_addRow 54 = .ok (.iconst 5, 1) := by decide +kernel
theorem dX6_addRow_55 : decode cX6_addRow 55 = .ok (.iload_n 3, 1) := by decide +kernel
theorem dX6_addRow_56 : decode cX6_addRow 56 = .ok (.iadd, 1) := by decide +kernel
theorem dX6_addRow_57 : decode cX6_addRow 57 = .ok (.iload_n 2, 1) := by decide +kernel
theorem dX6_addRow_58 : decode cX6_addRow 58 = .ok (.invokevirtual 116, 3) := by decide +kernel
theorem dX6_addRow_61 : decode cX6_addRow 61 = .ok (.aload_n 0, 1) := by decide +kernel
theorem dX6_addRow_62 : decode cX6_addRow 62 = .ok (.iload_n 1, 1) := by decide +kernel
theorem dX6_addRow_63 : decode cX6_addRow 63 = .ok (.iconst 3, 1) := by decide +kernel
theorem dX6_addRow_64 : decode cX6_addRow 64 = .ok (.iload_n 3, 1) := by decide +kernel
theorem dX6_addRow_65 : decode cX6_addRow 65 = .ok (.iconst 1, 1) := by decide +kernel
theorem dX6_addRow_66 : decode cX6_addRow 66 = .ok (.iadd, 1) := by decide +kernel
theorem dX6_addRow_67 : decode cX6_addRow 67 = .ok (.invokevirtual 116, 3) := by decide +kernel
theorem dX6_addRow_70 : decode cX6_addRow 70 = .ok (.aload_n 0, 1) := by decide +kernel
theorem dX6_addRow_71 : decode cX6_addRow 71 = .ok (.invokevirtual 119, 3) := by decide +kernel
theorem dX6_addRow_74 : decode cX6_addRow 74 = .ok (.iload_n 3, 1) := by decide +kernel
theorem dX6_addRow_75 : decode cX6_addRow 75 = .ok (.iconst 1, 1) := by decide +kernel
theorem dX6_addRow_76 : decode cX6_addRow 76 = .ok (.iadd, 1) := by decide +kernel
theorem dX6_addRow_77 : decode cX6_addRow 77 = .ok (.ireturn, 1) := by decide +kernel
theorem dX6_change_0 : decode cX6_change 0 = .ok (.aload_n 0, 1) := by decide +kernel
theorem dX6_change_1 : decode cX6_change 1 = .ok (.iload_n 1, 1) := by decide +kernel
theorem dX6_change_2 : decode cX6_change 2 = .ok (.invokevirtual 168, 3) := by decide +kernel
theorem dX6_change_5 : decode cX6_change 5 = .ok (.ifCond .eq 17, 3) := by decide +kernel
theorem dX6_change_8 : decode cX6_change 8 = .ok (.iload_n 2, 1) := by decide +kernel
theorem dX6_change_9 : decode cX6_change 9 = .ok (.ifCond .lt 13, 3) := by decide +kernel
theorem dX6_change_12 : decode cX6_change 12 = .ok (.iload_n 2, 1) := by decide +kernel
theorem dX6_change_13 : decode cX6_change 13 = .ok (.aload_n 0, 1) := by decide +kernel
theorem dX6_change_14 : decode cX6_change 14 = .ok (.iload_n 1, 1) := by decide +kernel
theorem dX6_change_15 : decode cX6_change 15 = .ok (.iconst 3, 1) := by decide +kernel
theorem dX6_change_16 : decode cX6_change 16 = .ok (.invokevirtual 50, 3) := by decide +kernel
theorem dX6_change_19 : decode cX6_change 19 = .ok (.if_icmp .lt 5, 3) := by decide +kernel
theorem dX6_change_22 : decode cX6_change 22 = .ok (.iconst (-1), 1) := by decide +kernel
theorem dX6_change_23 : decode cX6_change 23 = .ok (.ireturn, 1) := by decide +kernel
theorem dX6_change_24 : decode cX6_change 24 = .ok (.iload_n 3, 1) := by decide +kernel
theorem dX6_change_25 : decode cX6_change 25 = .ok (.aload_n 0, 1) := by decide +kernel
theorem dX6_change_26 : decode cX6_change 26 = .ok (.iload_n 1, 1) := by decide +kernel
theorem dX6_change_27 : decode cX6_change 27 = .ok (.iconst 1, 1) := by decide +kernel
theorem dX6_change_28 : decode cX6_change 28 = .ok (.invokevirtual 50, 3) := by decide +kernel
theorem dX6_change_31 : decode cX6_change 31 = .ok (.aload_n 0, 1) := by decide +kernel
theorem dX6_change_32 : decode cX6_change 32 = .ok (.iload_n 1, 1) := by decide +kernel
theorem dX6_change_33 : decode cX6_change 33 = .ok (.iconst 2, 1) := by decide +kernel
theorem dX6_change_34 : decode cX6_change 34 = .ok (.invokevirtual 50, 3) := by decide +kernel
theorem dX6_change_37 : decode cX6_change 37 = .ok (.invokestatic 157, 3) := by decide +kernel
theorem dX6_change_40 : decode cX6_change 40 = .ok (.ifCond .ne 6, 3) := by decide +kernel
theorem dX6_change_43 : decode cX6_change 43 = .ok (.bipush (-2), 2) := by decide +kernel
theorem dX6_change_45 : decode cX6_change 45 = .ok (.ireturn, 1) := by decide +kernel
theorem dX6_change_46 : decode cX6_change 46 = .ok (.aload_n 0, 1) := by decide +kernel
theorem dX6_change_47 : decode cX6_change 47 = .ok (.iload_n 1, 1) := by decide +kernel
theorem dX6_change_48 : decode cX6_change 48 = .ok (.iconst 5, 1) := by decide +kernel
theorem dX6_change_49 : decode cX6_change 49 = .ok (.iload_n 2, 1) := by decide +kernel
theorem dX6_change_50 : decode cX6_change 50 = .ok (.iadd, 1) := by decide +kernel
theorem dX6_change_51 : decode cX6_change 51 = .ok (.invokevirtual 50, 3) := by decide +kernel
theorem dX6_change_54 : decode cX6_change 54 = .ok (.iload_n 3, 1) := by decide +kernel
theorem dX6_change_55 : decode cX6_change 55 = .ok (.if_icmp .ne 6, 3) := by decide +kernel
theorem dX6_change_58 : decode cX6_change 58 = .ok (.bipush (-5), 2) := by decide +kernel
theorem dX6_change_60 : decode cX6_change 60 = .ok (.ireturn, 1) := by decide +kernel
theorem dX6_change_61 : decode cX6_change 61 = .ok (.aload_n 0, 1) := by decide +kernel
theorem dX6_change_62 : decode cX6_change 62 = .ok (.invokevirtual 47, 3) := by decide +kernel
theorem dX6_change_65 : decode cX6_change 65 = .ok (.aload_n 0, 1) := by decide +kernel
theorem dX6_change_66 : decode cX6_change 66 = .ok (.iload_n 1, 1) := by decide +kernel
theorem dX6_change_67 : decode cX6_change 67 = .ok (.iconst 5, 1) := by decide +kernel
theorem dX6_change_68 : decode cX6_change 68 = .ok (.iload_n 2, 1) := by decide +kernel
theorem dX6_change_69 : decode cX6_change 69 = .ok (.iadd, 1) := by decide +kernel
theorem dX6_change_70 : decode cX6_change 70 = .ok (.iload_n 3, 1) := by decide +kernel
theorem dX6_change_71 : decode cX6_change 71 = .ok (.invokevirtual 116, 3) := by decide +kernel
theorem dX6_change_74 : decode cX6_change 74 = .ok (.aload_n 0, 1) := by decide +kernel
theorem dX6_change_75 : decode cX6_change 75 = .ok (.invokevirtual 119, 3) := by decide +kernel
theorem dX6_change_78 : decode cX6_change 78 = .ok (.iload_n 2, 1) := by decide +kernel
theorem dX6_change_79 : decode cX6_change 79 = .ok (.aload_n 0, 1) := by decide +kernel
theorem dX6_change_80 : decode cX6_change 80 = .ok (.iload_n 1, 1) := by decide +kernel
theorem dX6_change_81 : decode cX6_change 81 = .ok (.iconst 4, 1) := by decide +kernel
theorem dX6_change_82 : decode cX6_change 82 = .ok (.invokevirtual 50, 3) := by decide +kernel
theorem dX6_change_85 : decode cX6_change 85 = .ok (.if_icmp .ge 7, 3) := by decide +kernel
theorem dX6_change_88 : decode cX6_change 88 = .ok (.iconst 1, 1) := by decide +kernel
theorem dX6_change_89 : decode cX6_change 89 = .ok (.goto 4, 3) := by decide +kernel
theorem dX6_change_92 : decode cX6_change 92 = .ok (.iconst 0, 1) := by decide +kernel
theorem dX6_change_93 : decode cX6_change 93 = .ok (.ireturn, 1) := by decide +kernel
theorem dX6_narrow_0 : decode cX6_narrow 0 = .ok (.aload_n 0, 1) := by decide +kernel
theorem dX6_narrow_1 : decode cX6_narrow 1 = .ok (.iload_n 1, 1) := by decide +kernel
theorem dX6_narrow_2 : decode cX6_narrow 2 = .ok (.invokevirtual 168, 3) := by decide +kernel
theorem dX6_narrow_5 : decode cX6_narrow 5 = .ok (.ifCond .ne 5, 3) := by decide +kernel
theorem dX6_narrow_8 : decode cX6_narrow 8 = .ok (.iconst (-1), 1) := by decide +kernel
theorem dX6_narrow_9 : decode cX6_narrow 9 = .ok (.ireturn, 1) := by decide +kernel
theorem dX6_narrow_10 : decode cX6_narrow 10 = .ok (.aload_n 0, 1) := by decide +kernel
theorem dX6_narrow_11 : decode cX6_narrow 11 = .ok (.iload_n 1, 1) := by decide +kernel
theorem dX6_narrow_12 : decode cX6_narrow 12 = .ok (.iconst 2, 1) := by decide +kernel
theorem dX6_narrow_13 : decode cX6_narrow 13 = .ok (.invokevirtual 50, 3) := by decide +kernel
theorem dX6_narrow_16 : decode cX6_narrow 16 = .ok (.istore_n 2, 1) := by decide +kernel
theorem dX6_narrow_17 : decode cX6_narrow 17 = .ok (.aload_n 0, 1) := by decide +kernel
theorem dX6_narrow_18 : decode cX6_narrow 18 = .ok (.iload_n 1, 1) := by decide +kernel
theorem dX6_narrow_19 : decode cX6_narrow 19 = .ok (.iconst 1, 1) := by decide +kernel
theorem dX6_narrow_20 : decode cX6_narrow 20 = .ok (.invokevirtual 50, 3) := by decide +kernel
theorem dX6_narrow_23 : decode cX6_narrow 23 = .ok (.istore_n 3, 1) := by decide +kernel
theorem dX6_narrow_24 : decode cX6_narrow 24 = .ok (.iconst 0, 1) := by decide +kernel
theorem dX6_narrow_25 : decode cX6_narrow 25 = .ok (.istore 4, 2) := by decide +kernel
theorem dX6_narrow_27 : decode cX6_narrow 27 = .ok (.iload 4, 2) := by decide +kernel
theorem dX6_narrow_29 : decode cX6_narrow 29 = .ok (.aload_n 0, 1) := by decide +kernel
theorem dX6_narrow_30 : decode cX6_narrow 30 = .ok (.iload_n 1, 1) := by decide +kernel
theorem dX6_narrow_31 : decode cX6_narrow 31 = .ok (.iconst 3, 1) := by decide +kernel
theorem dX6_narrow_32 : decode cX6_narrow 32 = .ok (.invokevirtual 50, 3) := by decide +kernel
theorem dX6_narrow_35 : decode cX6_narrow 35 = .ok (.if_icmp .ge 46, 3) := by decide +kernel
theorem dX6_narrow_38 : decode cX6_narrow 38 = .ok (.aload_n 0, 1) := by decide +kernel
theorem dX6_narrow_39 : decode cX6_narrow 39 = .ok (.iload_n 1, 1) := by decide +kernel
theorem dX6_narrow_40 : decode cX6_narrow 40 = .ok (.iconst 5, 1) := by decide +kernel
theorem dX6_narrow_41 : decode cX6_narrow 41 = .ok (.iload 4, 2) := by decide +kernel
theorem dX6_narrow_43 : decode cX6_narrow 43 = .ok (.iadd, 1) := by decide +kernel
theorem dX6_narrow_44 : decode cX6_narrow 44 = .ok (.invokevirtual 50, 3) := by decide +kernel
theorem dX6_narrow_47 : decode cX6_narrow 47 = .ok (.istore 5, 2) := by decide +kernel
theorem dX6_narrow_49 : decode cX6_narrow 49 = .ok (.iload 5, 2) := by decide +kernel
theorem dX6_narrow_51 : decode cX6_narrow 51 = .ok (.iload_n 2, 1) := by decide +kernel
theorem dX6_narrow_52 : decode cX6_narrow 52 = .ok (.if_icmp .ge 8, 3) := by decide +kernel
theorem dX6_narrow_55 : decode cX6_narrow 55 = .ok (.iload 5, 2) := by decide +kernel
theorem dX6_narrow_57 : decode cX6_narrow 57 = .ok (.goto 4, 3) := by decide +kernel
theorem dX6_narrow_60 : decode cX6_narrow 60 = .ok (.iload_n 2, 1) := by decide +kernel
theorem dX6_narrow_61 : decode cX6_narrow 61 = .ok (.istore_n 2, 1) := by decide +kernel
theorem dX6_narrow_62 : decode cX6_narrow 62 = .ok (.iload 5, 2) := by decide +kernel
theorem dX6_narrow_64 : decode cX6_narrow 64 = .ok (.iload_n 3, 1) := by decide +kernel
theorem dX6_narrow_65 : decode cX6_narrow 65 = .ok (.if_icmp .le 8, 3) := by decide +kernel
theorem dX6_narrow_68 : decode cX6_narrow 68 = .ok (.iload 5, 2) := by decide +kernel
theorem dX6_narrow_70 : decode cX6_narrow 70 = .ok (.goto 4, 3) := by decide +kernel
theorem dX6_narrow_73 : decode cX6_narrow 73 = .ok (.iload_n 3, 1) := by decide +kernel
theorem dX6_narrow_74 : decode cX6_narrow 74 = .ok (.istore_n 3, 1) := by decide +kernel
theorem dX6_narrow_75 : decode cX6_narrow 75 = .ok (.iinc 4 1, 3) := by decide +kernel
theorem dX6_narrow_78 : decode cX6_narrow 78 = .ok (.goto (-51), 3) := by decide +kernel
theorem dX6_narrow_81 : decode cX6_narrow 81 = .ok (.aload_n 0, 1) := by decide +kernel
theorem dX6_narrow_82 : decode cX6_narrow 82 = .ok (.iload_n 1, 1) := by decide +kernel
theorem dX6_narrow_83 : decode cX6_narrow 83 = .ok (.iconst 2, 1) := by decide +kernel
theorem dX6_narrow_84 : decode cX6_narrow 84 = .ok (.invokevirtual 50, 3) := by decide +kernel
theorem dX6_narrow_87 : decode cX6_narrow 87 = .ok (.aload_n 0, 1) := by decide +kernel
theorem dX6_narrow_88 : decode cX6_narrow 88 = .ok (.iload_n 1, 1) := by decide +kernel
theorem dX6_narrow_89 : decode cX6_narrow 89 = .ok (.iconst 1, 1) := by decide +kernel
theorem dX6_narrow_90 : decode cX6_narrow 90 = .ok (.invokevirtual 50, 3) := by decide +kernel
theorem dX6_narrow_93 : decode cX6_narrow 93 = .ok (.isub, 1) := by decide +kernel
theorem dX6_narrow_94 : decode cX6_narrow 94 = .ok (.iload_n 3, 1) := by decide +kernel
theorem dX6_narrow_95 : decode cX6_narrow 95 = .ok (.iload_n 2, 1) := by decide +kernel
theorem dX6_narrow_96 : decode cX6_narrow 96 = .ok (.isub, 1) := by decide +kernel
theorem dX6_narrow_97 : decode cX6_narrow 97 = .ok (.isub, 1) := by decide +kernel
theorem dX6_narrow_98 : decode cX6_narrow 98 = .ok (.istore 4, 2) := by decide +kernel
theorem dX6_narrow_100 : decode cX6_narrow 100 = .ok (.iload 4, 2) := by decide +kernel
theorem dX6_narrow_102 : decode cX6_narrow 102 = .ok (.ifCond .ne 6, 3) := by decide +kernel
theorem dX6_narrow_105 : decode cX6_narrow 105 = .ok (.bipush (-5), 2) := by decide +kernel
theorem dX6_narrow_107 : decode cX6_narrow 107 = .ok (.ireturn, 1) := by decide +kernel
theorem dX6_narrow_108 : decode cX6_narrow 108 = .ok (.aload_n 0, 1) := by decide +kernel
theorem dX6_narrow_109 : decode cX6_narrow 109 = .ok (.invokevirtual 47, 3) := by decide +kernel
theorem dX6_narrow_112 : decode cX6_narrow 112 = .ok (.aload_n 0, 1) := by decide +kernel
theorem dX6_narrow_113 : decode cX6_narrow 113 = .ok (.iload_n 1, 1) := by decide +kernel
theorem dX6_narrow_114 : decode cX6_narrow 114 = .ok (.iconst 1, 1) := by decide +kernel
theorem dX6_narrow_115 : decode cX6_narrow 115 = .ok (.iload_n 2, 1) := by decide +kernel
theorem dX6_narrow_116 : decode cX6_narrow 116 = .ok (.invokevirtual 116, 3) := by decide +kernel
theorem dX6_narrow_119 : decode cX6_narrow 119 = .ok (.aload_n 0, 1) := by decide +kernel
theorem dX6_narrow_120 : decode cX6_narrow 120 = .ok (.iload_n 1, 1) := by decide +kernel
theorem dX6_narrow_121 : decode cX6_narrow 121 = .ok (.iconst 2, 1) := by decide +kernel
theorem dX6_narrow_122 : decode cX6_narrow 122 = .ok (.iload_n 3, 1) := by decide +kernel
theorem dX6_narrow_123 : decode cX6_narrow 123 = .ok (.invokevirtual 116, 3) := by decide +kernel
theorem dX6_narrow_126 : decode cX6_narrow 126 = .ok (.aload_n 0, 1) := by decide +kernel
theorem dX6_narrow_127 : decode cX6_narrow 127 = .ok (.invokevirtual 119, 3) := by decide +kernel
theorem dX6_narrow_130 : decode cX6_narrow 130 = .ok (.iload 4, 2) := by decide +kernel
theorem dX6_narrow_132 : decode cX6_narrow 132 = .ok (.ireturn, 1) := by decide +kernel
theorem dX6_forget_0 : decode cX6_forget 0 = .ok (.aload_n 0, 1) := by decide +kernel
theorem dX6_forget_1 : decode cX6_forget 1 = .ok (.iconst 4, 1) := by decide +kernel
theorem dX6_forget_2 : decode cX6_forget 2 = .ok (.invokevirtual 43, 3) := by decide +kernel
theorem dX6_forget_5 : decode cX6_forget 5 = .ok (.istore_n 1, 1) := by decide +kernel
theorem dX6_forget_6 : decode cX6_forget 6 = .ok (.iload_n 1, 1) := by decide +kernel
theorem dX6_forget_7 : decode cX6_forget 7 = .ok (.ifCond .ne 6, 3) := by decide +kernel
theorem dX6_forget_10 : decode cX6_forget 10 = .ok (.bipush (-5), 2) := by decide +kernel
theorem dX6_forget_12 : decode cX6_forget 12 = .ok (.ireturn, 1) := by decide +kernel
theorem dX6_forget_13 : decode cX6_forget 13 = .ok (.aload_n 0, 1) := by decide +kernel
theorem dX6_forget_14 : decode cX6_forget 14 = .ok (.invokevirtual 47, 3) := by decide +kernel
theorem dX6_forget_17 : decode cX6_forget 17 = .ok (.iconst 0, 1) := by decide +kernel
theorem dX6_forget_18 : decode cX6_forget 18 = .ok (.istore_n 2, 1) := by decide +kernel
theorem dX6_forget_19 : decode cX6_forget 19 = .ok (.iload_n 2, 1) := by decide +kernel
theorem dX6_forget_20 : decode cX6_forget 20 = .ok (.aload_n 0, 1) := by decide +kernel
theorem dX6_forget_21 : decode cX6_forget 21 = .ok (.getfield 7, 3) := by decide +kernel
theorem dX6_forget_24 : decode cX6_forget 24 = .ok (.iconst 0, 1) := by decide +kernel
theorem dX6_forget_25 : decode cX6_forget 25 = .ok (.iaload, 1) := by decide +kernel
theorem dX6_forget_26 : decode cX6_forget 26 = .ok (.if_icmp .ge 16, 3) := by decide +kernel
theorem dX6_forget_29 : decode cX6_forget 29 = .ok (.aload_n 0, 1) := by decide +kernel
theorem dX6_forget_30 : decode cX6_forget 30 = .ok (.iload_n 2, 1) := by decide +kernel
theorem dX6_forget_31 : decode cX6_forget 31 = .ok (.iconst 4, 1) := by decide +kernel
theorem dX6_forget_32 : decode cX6_forget 32 = .ok (.iconst 0, 1) := by decide +kernel
theorem dX6_forget_33 : decode cX6_forget 33 = .ok (.invokevirtual 116, 3) := by decide +kernel
theorem dX6_forget_36 : decode cX6_forget 36 = .ok (.iinc 2 1, 3) := by decide +kernel
theorem dX6_forget_39 : decode cX6_forget 39 = .ok (.goto (-20), 3) := by decide +kernel
theorem dX6_forget_42 : decode cX6_forget 42 = .ok (.aload_n 0, 1) := by decide +kernel
theorem dX6_forget_43 : decode cX6_forget 43 = .ok (.invokevirtual 119, 3) := by decide +kernel
theorem dX6_forget_46 : decode cX6_forget 46 = .ok (.iload_n 1, 1) := by decide +kernel
theorem dX6_forget_47 : decode cX6_forget 47 = .ok (.ireturn, 1) := by decide +kernel
theorem dX6_ask_0 : decode cX6_ask 0 = .ok (.iload_n 1, 1) := by decide +kernel
theorem dX6_ask_1 : decode cX6_ask 1 = .ok (.iconst 0, 1) := by decide +kernel
theorem dX6_ask_2 : decode cX6_ask 2 = .ok (.iconst 4, 1) := by decide +kernel
theorem dX6_ask_3 : decode cX6_ask 3 = .ok (.invokestatic 157, 3) := by decide +kernel
theorem dX6_ask_6 : decode cX6_ask 6 = .ok (.ifCond .eq 48, 3) := by decide +kernel
theorem dX6_ask_9 : decode cX6_ask 9 = .ok (.iload_n 2, 1) := by decide +kernel
theorem dX6_ask_10 : decode cX6_ask 10 = .ok (.iconst 1, 1) := by decide +kernel
theorem dX6_ask_11 : decode cX6_ask 11 = .ok (.bipush 15, 2) := by decide +kernel
theorem dX6_ask_13 : decode cX6_ask 13 = .ok (.invokestatic 157, 3) := by decide +kernel
theorem dX6_ask_16 : decode cX6_ask 16 = .ok (.ifCond .eq 38, 3) := by decide +kernel
theorem dX6_ask_19 : decode cX6_ask 19 = .ok (.iload_n 3, 1) := by decide +kernel
theorem dX6_ask_20 : decode cX6_ask 20 = .ok (.iconst 0, 1) := by decide +kernel
theorem dX6_ask_21 : decode cX6_ask 21 = .ok (.iload_n 1, 1) := by decide +kernel
theorem dX6_ask_22 : decode cX6_ask 22 = .ok (.iconst 1, 1) := by decide +kernel
theorem dX6_ask_23 : decode cX6_ask 23 = .ok (.if_icmp .ne 9, 3) := by decide +kernel
theorem dX6_ask_26 : decode cX6_ask 26 = .ok (.sipush 999, 3) := by decide +kernel
theorem dX6_ask_29 : decode cX6_ask 29 = .ok (.goto 4, 3) := by decide +kernel
theorem dX6_ask_32 : decode cX6_ask 32 = .ok (.iconst 0, 1) := by decide +kernel
theorem dX6_ask_33 : decode cX6_ask 33 = .ok (.invokestatic 157, 3) := by decide +kernel
theorem dX6_ask_36 : decode cX6_ask 36 = .ok (.ifCond .eq 18, 3) := by decide +kernel
theorem dX6_ask_39 : decode cX6_ask 39 = .ok (.iload 4, 2) := by decide +kernel
theorem dX6_ask_41 : decode cX6_ask 41 = .ok (.iconst 0, 1) := by decide +kernel
theorem dX6_ask_42 : decode cX6_ask 42 = .ok (.ldc 171, 2) := by decide +kernel
theorem dX6_ask_44 : decode cX6_ask 44 = .ok (.invokestatic 157, 3) := by decide +kernel
theorem dX6_ask_47 : decode cX6_ask 47 = .ok (.ifCond .eq 7, 3) := by decide +kernel
theorem dX6_ask_50 : decode cX6_ask 50 = .ok (.iconst 1, 1) := by decide +kernel
theorem dX6_ask_51 : decode cX6_ask 51 = .ok (.goto 4, 3) := by decide +kernel
theorem dX6_ask_54 : decode cX6_ask 54 = .ok (.iconst 0, 1) := by decide +kernel
theorem dX6_ask_55 : decode cX6_ask 55 = .ok (.istore 5, 2) := by decide +kernel
theorem dX6_ask_57 : decode cX6_ask 57 = .ok (.iload 5, 2) := by decide +kernel
theorem dX6_ask_59 : decode cX6_ask 59 = .ok (.ifCond .ne 6, 3) := by decide +kernel
theorem dX6_ask_62 : decode cX6_ask 62 = .ok (.bipush (-2), 2) := by decide +kernel
theorem dX6_ask_64 : decode cX6_ask 64 = .ok (.ireturn, 1) := by decide +kernel
theorem dX6_ask_65 : decode cX6_ask 65 = .ok (.aload_n 0, 1) := by decide +kernel
theorem dX6_ask_66 : decode cX6_ask 66 = .ok (.getfield 7, 3) := by decide +kernel
theorem dX6_ask_69 : decode cX6_ask 69 = .ok (.iconst 1, 1) := by decide +kernel
theorem dX6_ask_70 : decode cX6_ask 70 = .ok (.iaload, 1) := by decide +kernel
theorem dX6_ask_71 : decode cX6_ask 71 = .ok (.bipush 6, 2) := by decide +kernel
theorem dX6_ask_73 : decode cX6_ask 73 = .ok (.if_icmp .ne 6, 3) := by decide +kernel
theorem dX6_ask_76 : decode cX6_ask 76 = .ok (.bipush (-3), 2) := by decide +kernel
theorem dX6_ask_78 : decode cX6_ask 78 = .ok (.ireturn, 1) := by decide +kernel
theorem dX6_ask_79 : decode cX6_ask 79 = .ok (.aload_n 0, 1) := by decide +kernel
theorem dX6_ask_80 : decode cX6_ask 80 = .ok (.invokevirtual 47, 3) := by decide +kernel
theorem dX6_ask_83 : decode cX6_ask 83 = .ok (.aload_n 0, 1) := by decide +kernel
theorem dX6_ask_84 : decode cX6_ask 84 = .ok (.getfield 7, 3) := by decide +kernel
theorem dX6_ask_87 : decode cX6_ask 87 = .ok (.iconst 1, 1) := by decide +kernel
theorem dX6_ask_88 : decode cX6_ask 88 = .ok (.iaload, 1) := by decide +kernel
theorem dX6_ask_89 : decode cX6_ask 89 = .ok (.istore 6, 2) := by decide +kernel
theorem dX6_ask_91 : decode cX6_ask 91 = .ok (.aload_n 0, 1) := by decide +kernel
theorem dX6_ask_92 : decode cX6_ask 92 = .ok (.getfield 7, 3) := by decide +kernel
theorem dX6_ask_95 : decode cX6_ask 95 = .ok (.iconst 1, 1) := by decide +kernel
theorem dX6_ask_96 : decode cX6_ask 96 = .ok (.dup2, 1) := by decide +kernel
theorem dX6_ask_97 : decode cX6_ask 97 = .ok (.iaload, 1) := by decide +kernel
theorem dX6_ask_98 : decode cX6_ask 98 = .ok (.iconst 1, 1) := by decide +kernel
theorem dX6_ask_99 : decode cX6_ask 99 = .ok (.iadd, 1) := by decide +kernel
theorem dX6_ask_100 : decode cX6_ask 100 = .ok (.iastore, 1) := by decide +kernel
theorem dX6_ask_101 : decode cX6_ask 101 = .ok (.aload_n 0, 1) := by decide +kernel
theorem dX6_ask_102 : decode cX6_ask 102 = .ok (.iload 6, 2) := by decide +kernel
theorem dX6_ask_104 : decode cX6_ask 104 = .ok (.iconst 0, 1) := by decide +kernel
theorem dX6_ask_105 : decode cX6_ask 105 = .ok (.iload_n 1, 1) := by decide +kernel
theorem dX6_ask_106 : decode cX6_ask 106 = .ok (.invokevirtual 89, 3) := by decide +kernel
theorem dX6_ask_109 : decode cX6_ask 109 = .ok (.aload_n 0, 1) := by decide +kernel
theorem dX6_ask_110 : decode cX6_ask 110 = .ok (.iload 6, 2) := by decide +kernel
theorem dX6_ask_112 : decode cX6_ask 112 = .ok (.iconst 1, 1) := by decide +kernel
theorem dX6_ask_113 : decode cX6_ask 113 = .ok (.iload_n 2, 1) := by decide +kernel
theorem dX6_ask_114 : decode cX6_ask 114 = .ok (.invokevirtual 89, 3) := by decide +kernel
theorem dX6_ask_117 : decode cX6_ask 117 = .ok (.aload_n 0, 1) := by decide +kernel
theorem dX6_ask_118 : decode cX6_ask 118 = .ok (.iload 6, 2) := by decide +kernel
theorem dX6_ask_120 : decode cX6_ask 120 = .ok (.iconst 2, 1) := by decide +kernel
theorem dX6_ask_121 : decode cX6_ask 121 = .ok (.iload_n 3, 1) := by decide +kernel
theorem dX6_ask_122 : decode cX6_ask 122 = .ok (.invokevirtual 89, 3) := by decide +kernel
theorem dX6_ask_125 : decode cX6_ask 125 = .ok (.aload_n 0, 1) := by decide +kernel
theorem dX6_ask_126 : decode cX6_ask 126 = .ok (.iload 6, 2) := by decide +kernel
theorem dX6_ask_128 : decode cX6_ask 128 = .ok (.iconst 3, 1) := by decide +kernel
theorem dX6_ask_129 : decode cX6_ask 129 = .ok (.iload 4, 2) := by decide +kernel
theorem dX6_ask_131 : decode cX6_ask 131 = .ok (.invokevirtual 89, 3) := by decide +kernel
theorem dX6_ask_134 : decode cX6_ask 134 = .ok (.aload_n 0, 1) := by decide +kernel
theorem dX6_ask_135 : decode cX6_ask 135 = .ok (.iload 6, 2) := by decide +kernel
theorem dX6_ask_137 : decode cX6_ask 137 = .ok (.iconst 4, 1) := by decide +kernel
theorem dX6_ask_138 : decode cX6_ask 138 = .ok (.iconst 0, 1) := by decide +kernel
theorem dX6_ask_139 : decode cX6_ask 139 = .ok (.invokevirtual 89, 3) := by decide +kernel
theorem dX6_ask_142 : decode cX6_ask 142 = .ok (.aload_n 0, 1) := by decide +kernel
theorem dX6_ask_143 : decode cX6_ask 143 = .ok (.invokevirtual 119, 3) := by decide +kernel
theorem dX6_ask_146 : decode cX6_ask 146 = .ok (.iload 6, 2) := by decide +kernel
theorem dX6_ask_148 : decode cX6_ask 148 = .ok (.ireturn, 1) := by decide +kernel
theorem dX6_setTolerance_0 : decode cX6_setTolerance 0 = .ok (.aload_n 0, 1) := by decide +kernel
theorem dX6_setTolerance_1 : decode cX6_setTolerance 1 = .ok (.iload_n 1, 1) := by decide +kernel
theorem dX6_setTolerance_2 : decode cX6_setTolerance 2 = .ok (.invokevirtual 172, 3) := by decide +kernel
theorem dX6_setTolerance_5 : decode cX6_setTolerance 5 = .ok (.ifCond .ne 5, 3) := by decide +kernel
theorem dX6_setTolerance_8 : decode cX6_setTolerance 8 = .ok (.iconst (-1), 1) := by decide +kernel
theorem dX6_setTolerance_9 : decode cX6_setTolerance 9 = .ok (.ireturn, 1) := by decide +kernel
theorem dX6_setTolerance_10 : decode cX6_setTolerance 10 = .ok (.iload_n 2, 1) := by decide +kernel
theorem dX6_setTolerance_11 : decode cX6_setTolerance 11 = .ok (.iconst 0, 1) := by decide +kernel
theorem dX6_setTolerance_12 : decode cX6_setTolerance 12 = .ok (.ldc 171, 2) := by decide +kernel
theorem dX6_setTolerance_14 : decode cX6_setTolerance 14 = .ok (.invokestatic 157, 3) := by decide +kernel
theorem dX6_setTolerance_17 : decode cX6_setTolerance 17 = .ok (.ifCond .ne 6, 3) := by decide +kernel
theorem dX6_setTolerance_20 : decode cX6_setTolerance 20 = .ok (.bipush (-2), 2) := by decide +kernel
theorem dX6_setTolerance_22 : decode cX6_setTolerance 22 = .ok (.ireturn, 1) := by decide +kernel
theorem dX6_setTolerance_23 : decode cX6_setTolerance 23 = .ok (.aload_n 0, 1) := by decide +kernel
theorem dX6_setTolerance_24 : decode cX6_setTolerance 24 = .ok (.iload_n 1, 1) := by decide +kernel
theorem dX6_setTolerance_25 : decode cX6_setTolerance 25 = .ok (.iconst 4, 1) := by decide +kernel
theorem dX6_setTolerance_26 : decode cX6_setTolerance 26 = .ok (.invokevirtual 57, 3) := by decide +kernel
theorem dX6_setTolerance_29 : decode cX6_setTolerance 29 = .ok (.iconst 1, 1) := by decide +kernel
theorem dX6_setTolerance_30 : decode cX6_setTolerance 30 = .ok (.if_icmp .ne 6, 3) := by decide +kernel
theorem dX6_setTolerance_33 : decode cX6_setTolerance 33 = .ok (.bipush (-4), 2) := by decide +kernel
theorem dX6_setTolerance_35 : decode cX6_setTolerance 35 = .ok (.ireturn, 1) := by decide +kernel
theorem dX6_setTolerance_36 : decode cX6_setTolerance 36 = .ok (.aload_n 0, 1) := by decide +kernel
theorem dX6_setTolerance_37 : decode cX6_setTolerance 37 = .ok (.iload_n 1, 1) := by decide +kernel
theorem dX6_setTolerance_38 : decode cX6_setTolerance 38 = .ok (.iconst 3, 1) := by decide +kernel
theorem dX6_setTolerance_39 : decode cX6_setTolerance 39 = .ok (.invokevirtual 57, 3) := by decide +kernel
theorem dX6_setTolerance_42 : decode cX6_setTolerance 42 = .ok (.istore_n 3, 1) := by decide +kernel
theorem dX6_setTolerance_43 : decode cX6_setTolerance 43 = .ok (.iload_n 3, 1) := by decide +kernel
theorem dX6_setTolerance_44 : decode cX6_setTolerance 44 = .ok (.iload_n 2, 1) := by decide +kernel
theorem dX6_setTolerance_45 : decode cX6_setTolerance 45 = .ok (.if_icmp .ne 6, 3) := by decide +kernel
theorem dX6_setTolerance_48 : decode cX6_setTolerance 48 = .ok (.bipush (-5), 2) := by decide +kernel
theorem dX6_setTolerance_50 : decode cX6_setTolerance 50 = .ok (.ireturn, 1) := by decide +kernel
theorem dX6_setTolerance_51 : decode cX6_setTolerance 51 = .ok (.aload_n 0, 1) := by decide +kernel
theorem dX6_setTolerance_52 : decode cX6_setTolerance 52 = .ok (.invokevirtual 47, 3) := by decide +kernel
theorem dX6_setTolerance_55 : decode cX6_setTolerance 55 = .ok (.aload_n 0, 1) := by decide +kernel
theorem dX6_setTolerance_56 : decode cX6_setTolerance 56 = .ok (.iload_n 1, 1) := by decide +kernel
theorem dX6_setTolerance_57 : decode cX6_setTolerance 57 = .ok (.iconst 3, 1) := by decide +kernel
theorem dX6_setTolerance_58 : decode cX6_setTolerance 58 = .ok (.iload_n 2, 1) := by decide +kernel
theorem dX6_setTolerance_59 : decode cX6_setTolerance 59 = .ok (.invokevirtual 89, 3) := by decide +kernel
theorem dX6_setTolerance_62 : decode cX6_setTolerance 62 = .ok (.aload_n 0, 1) := by decide +kernel
theorem dX6_setTolerance_63 : decode cX6_setTolerance 63 = .ok (.invokevirtual 119, 3) := by decide +kernel
theorem dX6_setTolerance_66 : decode cX6_setTolerance 66 = .ok (.iload_n 3, 1) := by decide +kernel
theorem dX6_setTolerance_67 : decode cX6_setTolerance 67 = .ok (.ireturn, 1) := by decide +kernel
theorem dX6_stop_0 : decode cX6_stop 0 = .ok (.aload_n 0, 1) := by decide +kernel
theorem dX6_stop_1 : decode cX6_stop 1 = .ok (.iload_n 1, 1) := by decide +kernel
theorem dX6_stop_2 : decode cX6_stop 2 = .ok (.invokevirtual 172, 3) := by decide +kernel
theorem dX6_stop_5 : decode cX6_stop 5 = .ok (.ifCond .ne 5, 3) := by decide +kernel
theorem dX6_stop_8 : decode cX6_stop 8 = .ok (.iconst (-1), 1) := by decide +kernel
theorem dX6_stop_9 : decode cX6_stop 9 = .ok (.ireturn, 1) := by decide +kernel
theorem dX6_stop_10 : decode cX6_stop 10 = .ok (.aload_n 0, 1) := by decide +kernel
theorem dX6_stop_11 : decode cX6_stop 11 = .ok (.iload_n 1, 1) := by decide +kernel
theorem dX6_stop_12 : decode cX6_stop 12 = .ok (.iconst 4, 1) := by decide +kernel
theorem dX6_stop_13 : decode cX6_stop 13 = .ok (.invokevirtual 57, 3) := by decide +kernel
theorem dX6_stop_16 : decode cX6_stop 16 = .ok (.iconst 1, 1) := by decide +kernel
theorem dX6_stop_17 : decode cX6_stop 17 = .ok (.if_icmp .eq 12, 3) := by decide +kernel
theorem dX6_stop_20 : decode cX6_stop 20 = .ok (.aload_n 0, 1) := by decide +kernel
theorem dX6_stop_21 : decode cX6_stop 21 = .ok (.iload_n 1, 1) := by decide +kernel
theorem dX6_stop_22 : decode cX6_stop 22 = .ok (.iconst 3, 1) := by decide +kernel
theorem dX6_stop_23 : decode cX6_stop 23 = .ok (.invokevirtual 76, 3) := by decide +kernel
theorem dX6_stop_26 : decode cX6_stop 26 = .ok (.ifCond .ne 6, 3) := by decide +kernel
theorem dX6_stop_29 : decode cX6_stop 29 = .ok (.bipush (-4), 2) := by decide +kernel
theorem dX6_stop_31 : decode cX6_stop 31 = .ok (.ireturn, 1) := by decide +kernel
theorem dX6_stop_32 : decode cX6_stop 32 = .ok (.aload_n 0, 1) := by decide +kernel
theorem dX6_stop_33 : decode cX6_stop 33 = .ok (.invokevirtual 47, 3) := by decide +kernel
theorem dX6_stop_36 : decode cX6_stop 36 = .ok (.aload_n 0, 1) := by decide +kernel
theorem dX6_stop_37 : decode cX6_stop 37 = .ok (.iload_n 1, 1) := by decide +kernel
theorem dX6_stop_38 : decode cX6_stop 38 = .ok (.invokevirtual 96, 3) := by decide +kernel
theorem dX6_stop_41 : decode cX6_stop 41 = .ok (.aload_n 0, 1) := by decide +kernel
theorem dX6_stop_42 : decode cX6_stop 42 = .ok (.iload_n 1, 1) := by decide +kernel
theorem dX6_stop_43 : decode cX6_stop 43 = .ok (.bipush 7, 2) := by decide +kernel
theorem dX6_stop_45 : decode cX6_stop 45 = .ok (.invokevirtual 57, 3) := by decide +kernel
theorem dX6_stop_48 : decode cX6_stop 48 = .ok (.ireturn, 1) := by decide +kernel
theorem dX6_drop_0 : decode cX6_drop 0 = .ok (.aload_n 0, 1) := by decide +kernel
theorem dX6_drop_1 : decode cX6_drop 1 = .ok (.iload_n 1, 1) := by decide +kernel
theorem dX6_drop_2 : decode cX6_drop 2 = .ok (.invokevirtual 172, 3) := by decide +kernel
theorem dX6_drop_5 : decode cX6_drop 5 = .ok (.ifCond .ne 5, 3) := by decide +kernel
theorem dX6_drop_8 : decode cX6_drop 8 = .ok (.iconst (-1), 1) := by decide +kernel
theorem dX6_drop_9 : decode cX6_drop 9 = .ok (.ireturn, 1) := by decide +kernel
theorem dX6_drop_10 : decode cX6_drop 10 = .ok (.aload_n 0, 1) := by decide +kernel
theorem dX6_drop_11 : decode cX6_drop 11 = .ok (.invokevirtual 47, 3) := by decide +kernel
theorem dX6_drop_14 : decode cX6_drop 14 = .ok (.aload_n 0, 1) := by decide +kernel
theorem dX6_drop_15 : decode cX6_drop 15 = .ok (.getfield 7, 3) := by decide +kernel
theorem dX6_drop_18 : decode cX6_drop 18 = .ok (.iconst 1, 1) := by decide +kernel
theorem dX6_drop_19 : decode cX6_drop 19 = .ok (.dup2, 1) := by decide +kernel
theorem dX6_drop_20 : decode cX6_drop 20 = .ok (.iaload, 1) := by decide +kernel
theorem dX6_drop_21 : decode cX6_drop 21 = .ok (.iconst 1, 1) := by decide +kernel
theorem dX6_drop_22 : decode cX6_drop 22 = .ok (.isub, 1) := by decide +kernel
theorem dX6_drop_23 : decode cX6_drop 23 = .ok (.iastore, 1) := by decide +kernel
theorem dX6_drop_24 : decode cX6_drop 24 = .ok (.sipush 172, 3) := by decide +kernel
theorem dX6_drop_27 : decode cX6_drop 27 = .ok (.bipush 8, 2) := by decide +kernel
theorem dX6_drop_29 : decode cX6_drop 29 = .ok (.aload_n 0, 1) := by decide +kernel
theorem dX6_drop_30 : decode cX6_drop 30 = .ok (.getfield 7, 3) := by decide +kernel
theorem dX6_drop_33 : decode cX6_drop 33 = .ok (.iconst 1, 1) := by decide +kernel
theorem dX6_drop_34 : decode cX6_drop 34 = .ok (.iaload, 1) := by decide +kernel
theorem dX6_drop_35 : decode cX6_drop 35 = .ok (.imul, 1) := by decide +kernel
theorem dX6_drop_36 : decode cX6_drop 36 = .ok (.iadd, 1) := by decide +kernel
theorem dX6_drop_37 : decode cX6_drop 37 = .ok (.istore_n 2, 1) := by decide +kernel
theorem dX6_drop_38 : decode cX6_drop 38 = .ok (.sipush 172, 3) := by decide +kernel
theorem dX6_drop_41 : decode cX6_drop 41 = .ok (.bipush 8, 2) := by decide +kernel
theorem dX6_drop_43 : decode cX6_drop 43 = .ok (.iload_n 1, 1) := by decide +kernel
theorem dX6_drop_44 : decode cX6_drop 44 = .ok (.imul, 1) := by decide +kernel
theorem dX6_drop_45 : decode cX6_drop 45 = .ok (.iadd, 1) := by decide +kernel
theorem dX6_drop_46 : decode cX6_drop 46 = .ok (.istore_n 3, 1) := by decide +kernel
theorem dX6_drop_47 : decode cX6_drop 47 = .ok (.iload_n 3, 1) := by decide +kernel
theorem dX6_drop_48 : decode cX6_drop 48 = .ok (.iload_n 2, 1) := by decide +kernel
theorem dX6_drop_49 : decode cX6_drop 49 = .ok (.if_icmp .ge 24, 3) := by decide +kernel
theorem dX6_drop_52 : decode cX6_drop 52 = .ok (.aload_n 0, 1) := by decide +kernel
theorem dX6_drop_53 : decode cX6_drop 53 = .ok (.getfield 7, 3) := by decide +kernel
theorem dX6_drop_56 : decode cX6_drop 56 = .ok (.iload_n 3, 1) := by decide +kernel
theorem dX6_drop_57 : decode cX6_drop 57 = .ok (.aload_n 0, 1) := by decide +kernel
theorem dX6_drop_58 : decode cX6_drop 58 = .ok (.getfield 7, 3) := by decide +kernel
theorem dX6_drop_61 : decode cX6_drop 61 = .ok (.iload_n 3, 1) := by decide +kernel
theorem dX6_drop_62 : decode cX6_drop 62 = .ok (.bipush 8, 2) := by decide +kernel
theorem dX6_drop_64 : decode cX6_drop 64 = .ok (.iadd, 1) := by decide +kernel
theorem dX6_drop_65 : decode cX6_drop 65 = .ok (.iaload, 1) := by decide +kernel
theorem dX6_drop_66 : decode cX6_drop 66 = .ok (.iastore, 1) := by decide +kernel
theorem dX6_drop_67 : decode cX6_drop 67 = .ok (.iinc 3 1, 3) := by decide +kernel
theorem dX6_drop_70 : decode cX6_drop 70 = .ok (.goto (-23), 3) := by decide +kernel
theorem dX6_drop_73 : decode cX6_drop 73 = .ok (.iload_n 2, 1) := by decide +kernel
theorem dX6_drop_74 : decode cX6_drop 74 = .ok (.istore_n 3, 1) := by decide +kernel
theorem dX6_drop_75 : decode cX6_drop 75 = .ok (.iload_n 3, 1) := by decide +kernel
theorem dX6_drop_76 : decode cX6_drop 76 = .ok (.iload_n 2, 1) := by decide +kernel
theorem dX6_drop_77 : decode cX6_drop 77 = .ok (.bipush 8, 2) := by decide +kernel
theorem dX6_drop_79 : decode cX6_drop 79 = .ok (.iadd, 1) := by decide +kernel
theorem dX6_drop_80 : decode cX6_drop 80 = .ok (.if_icmp .ge 16, 3) := by decide +kernel
theorem dX6_drop_83 : decode cX6_drop 83 = .ok (.aload_n 0, 1) := by decide +kernel
theorem dX6_drop_84 : decode cX6_drop 84 = .ok (.getfield 7, 3) := by decide +kernel
theorem dX6_drop_87 : decode cX6_drop 87 = .ok (.iload_n 3, 1) := by decide +kernel
theorem dX6_drop_88 : decode cX6_drop 88 = .ok (.iconst 0, 1) := by decide +kernel
theorem dX6_drop_89 : decode cX6_drop 89 = .ok (.iastore, 1) := by decide +kernel
theorem dX6_drop_90 : decode cX6_drop 90 = .ok (.iinc 3 1, 3) := by decide +kernel
theorem dX6_drop_93 : decode cX6_drop 93 = .ok (.goto (-18), 3) := by decide +kernel
theorem dX6_drop_96 : decode cX6_drop 96 = .ok (.aload_n 0, 1) := by decide +kernel
theorem dX6_drop_97 : decode cX6_drop 97 = .ok (.getfield 7, 3) := by decide +kernel
theorem dX6_drop_100 : decode cX6_drop 100 = .ok (.iconst 1, 1) := by decide +kernel
theorem dX6_drop_101 : decode cX6_drop 101 = .ok (.iaload, 1) := by decide +kernel
theorem dX6_drop_102 : decode cX6_drop 102 = .ok (.ireturn, 1) := by decide +kernel
theorem dX6_setPlan_0 : decode cX6_setPlan 0 = .ok (.iload_n 1, 1) := by decide +kernel
theorem dX6_setPlan_1 : decode cX6_setPlan 1 = .ok (.iconst 0, 1) := by decide +kernel
theorem dX6_setPlan_2 : decode cX6_setPlan 2 = .ok (.iconst 2, 1) := by decide +kernel
theorem dX6_setPlan_3 : decode cX6_setPlan 3 = .ok (.invokestatic 157, 3) := by decide +kernel
theorem dX6_setPlan_6 : decode cX6_setPlan 6 = .ok (.ifCond .ne 6, 3) := by decide +kernel
theorem dX6_setPlan_9 : decode cX6_setPlan 9 = .ok (.bipush (-2), 2) := by decide +kernel
theorem dX6_setPlan_11 : decode cX6_setPlan 11 = .ok (.ireturn, 1) := by decide +kernel
theorem dX6_setPlan_12 : decode cX6_setPlan 12 = .ok (.aload_n 0, 1) := by decide +kernel
theorem dX6_setPlan_13 : decode cX6_setPlan 13 = .ok (.getfield 7, 3) := by decide +kernel
theorem dX6_setPlan_16 : decode cX6_setPlan 16 = .ok (.iconst 2, 1) := by decide +kernel
theorem dX6_setPlan_17 : decode cX6_setPlan 17 = .ok (.iaload, 1) := by decide +kernel
theorem dX6_setPlan_18 : decode cX6_setPlan 18 = .ok (.istore_n 2, 1) := by decide +kernel
theorem dX6_setPlan_19 : decode cX6_setPlan 19 = .ok (.iload_n 2, 1) := by decide +kernel
theorem dX6_setPlan_20 : decode cX6_setPlan 20 = .ok (.iload_n 1, 1) := by decide +kernel
theorem dX6_setPlan_21 : decode cX6_setPlan 21 = .ok (.if_icmp .ne 6, 3) := by decide +kernel
theorem dX6_setPlan_24 : decode cX6_setPlan 24 = .ok (.bipush (-5), 2) := by decide +kernel
theorem dX6_setPlan_26 : decode cX6_setPlan 26 = .ok (.ireturn, 1) := by decide +kernel
theorem dX6_setPlan_27 : decode cX6_setPlan 27 = .ok (.aload_n 0, 1) := by decide +kernel
theorem dX6_setPlan_28 : decode cX6_setPlan 28 = .ok (.invokevirtual 47, 3) := by decide +kernel
theorem dX6_setPlan_31 : decode cX6_setPlan 31 = .ok (.aload_n 0, 1) := by decide +kernel
theorem dX6_setPlan_32 : decode cX6_setPlan 32 = .ok (.getfield 7, 3) := by decide +kernel
theorem dX6_setPlan_35 : decode cX6_setPlan 35 = .ok (.iconst 2, 1) := by decide +kernel
theorem dX6_setPlan_36 : decode cX6_setPlan 36 = .ok (.iload_n 1, 1) := by decide +kernel
theorem dX6_setPlan_37 : decode cX6_setPlan 37 = .ok (.iastore, 1) := by decide +kernel
theorem dX6_setPlan_38 : decode cX6_setPlan 38 = .ok (.iload_n 2, 1) := by decide +kernel
theorem dX6_setPlan_39 : decode cX6_setPlan 39 = .ok (.ireturn, 1) := by decide +kernel
theorem dX6_unreadAll_0 : decode cX6_unreadAll 0 = .ok (.aload_n 0, 1) := by decide +kernel
theorem dX6_unreadAll_1 : decode cX6_unreadAll 1 = .ok (.iconst 3, 1) := by decide +kernel
theorem dX6_unreadAll_2 : decode cX6_unreadAll 2 = .ok (.invokevirtual 43, 3) := by decide +kernel
theorem dX6_unreadAll_5 : decode cX6_unreadAll 5 = .ok (.aload_n 0, 1) := by decide +kernel
theorem dX6_unreadAll_6 : decode cX6_unreadAll 6 = .ok (.iconst 4, 1) := by decide +kernel
theorem dX6_unreadAll_7 : decode cX6_unreadAll 7 = .ok (.invokevirtual 43, 3) := by decide +kernel
theorem dX6_unreadAll_10 : decode cX6_unreadAll 10 = .ok (.isub, 1) := by decide +kernel
theorem dX6_unreadAll_11 : decode cX6_unreadAll 11 = .ok (.ireturn, 1) := by decide +kernel
theorem dX6_read_0 : decode cX6_read 0 = .ok (.iload_n 1, 1) := by decide +kernel
theorem dX6_read_1 : decode cX6_read 1 = .ok (.iconst 1, 1) := by decide +kernel
theorem dX6_read_2 : decode cX6_read 2 = .ok (.sipush 128, 3) := by decide +kernel
theorem dX6_read_5 : decode cX6_read 5 = .ok (.invokestatic 157, 3) := by decide +kernel
theorem dX6_read_8 : decode cX6_read 8 = .ok (.ifCond .ne 6, 3) := by decide +kernel
theorem dX6_read_11 : decode cX6_read 11 = .ok (.bipush (-2), 2) := by decide +kernel
theorem dX6_read_13 : decode cX6_read 13 = .ok (.ireturn, 1) := by decide +kernel
theorem dX6_read_14 : decode cX6_read 14 = .ok (.aload_n 0, 1) := by decide +kernel
theorem dX6_read_15 : decode cX6_read 15 = .ok (.invokevirtual 175, 3) := by decide +kernel
theorem dX6_read_18 : decode cX6_read 18 = .ok (.istore_n 2, 1) := by decide +kernel
theorem dX6_read_19 : decode cX6_read 19 = .ok (.iload_n 2, 1) := by decide +kernel
theorem dX6_read_20 : decode cX6_read 20 = .ok (.ifCond .ne 6, 3) := by decide +kernel
theorem dX6_read_23 : decode cX6_read 23 = .ok (.bipush (-5), 2) := by decide +kernel
theorem dX6_read_25 : decode cX6_read 25 = .ok (.ireturn, 1) := by decide +kernel
theorem dX6_read_26 : decode cX6_read 26 = .ok (.aload_n 0, 1) := by decide +kernel
theorem dX6_read_27 : decode cX6_read 27 = .ok (.invokevirtual 47, 3) := by decide +kernel
theorem dX6_read_30 : decode cX6_read 30 = .ok (.iload_n 1, 1) := by decide +kernel
theorem dX6_read_31 : decode cX6_read 31 = .ok (.iload_n 2, 1) := by decide +kernel
theorem dX6_read_32 : decode cX6_read 32 = .ok (.if_icmp .ge 7, 3) := by decide +kernel
theorem dX6_read_35 : decode cX6_read 35 = .ok (.iload_n 1, 1) := by decide +kernel
theorem dX6_read_36 : decode cX6_read 36 = .ok (.goto 4, 3) := by decide +kernel
theorem dX6_read_39 : decode cX6_read 39 = .ok (.iload_n 2, 1) := by decide +kernel
theorem dX6_read_40 : decode cX6_read 40 = .ok (.istore_n 3, 1) := by decide +kernel
theorem dX6_read_41 : decode cX6_read 41 = .ok (.iconst 0, 1) := by decide +kernel
theorem dX6_read_42 : decode cX6_read 42 = .ok (.istore 4, 2) := by decide +kernel
theorem dX6_read_44 : decode cX6_read 44 = .ok (.iload 4, 2) := by decide +kernel
theorem dX6_read_46 : decode cX6_read 46 = .ok (.iload_n 3, 1) := by decide +kernel
theorem dX6_read_47 : decode cX6_read 47 = .ok (.if_icmp .ge 13, 3) := by decide +kernel
theorem dX6_read_50 : decode cX6_read 50 = .ok (.aload_n 0, 1) := by decide +kernel
theorem dX6_read_51 : decode cX6_read 51 = .ok (.invokevirtual 178, 3) := by decide +kernel
theorem dX6_read_54 : decode cX6_read 54 = .ok (.iinc 4 1, 3) := by decide +kernel
theorem dX6_read_57 : decode cX6_read 57 = .ok (.goto (-13), 3) := by decide +kernel
theorem dX6_read_60 : decode cX6_read 60 = .ok (.iload_n 3, 1) := by decide +kernel
theorem dX6_read_61 : decode cX6_read 61 = .ok (.ireturn, 1) := by decide +kernel
theorem dX6_goOn_0 : decode cX6_goOn 0 = .ok (.iconst 0, 1) := by decide +kernel
theorem dX6_goOn_1 : decode cX6_goOn 1 = .ok (.istore_n 1, 1) := by decide +kernel
theorem dX6_goOn_2 : decode cX6_goOn 2 = .ok (.aload_n 0, 1) := by decide +kernel
theorem dX6_goOn_3 : decode cX6_goOn 3 = .ok (.invokevirtual 181, 3) := by decide +kernel
theorem dX6_goOn_6 : decode cX6_goOn 6 = .ok (.ifCond .le 20, 3) := by decide +kernel
theorem dX6_goOn_9 : decode cX6_goOn 9 = .ok (.aload_n 0, 1) := by decide +kernel
theorem dX6_goOn_10 : decode cX6_goOn 10 = .ok (.invokevirtual 175, 3) := by decide +kernel
theorem dX6_goOn_13 : decode cX6_goOn 13 = .ok (.ifCond .le 13, 3) := by decide +kernel
theorem dX6_goOn_16 : decode cX6_goOn 16 = .ok (.aload_n 0, 1) := by decide +kernel
theorem dX6_goOn_17 : decode cX6_goOn 17 = .ok (.invokevirtual 178, 3) := by decide +kernel
theorem dX6_goOn_20 : decode cX6_goOn 20 = .ok (.iinc 1 1, 3) := by decide +kernel
theorem dX6_goOn_23 : decode cX6_goOn 23 = .ok (.goto (-21), 3) := by decide +kernel
theorem dX6_goOn_26 : decode cX6_goOn 26 = .ok (.iload_n 1, 1) := by decide +kernel
theorem dX6_goOn_27 : decode cX6_goOn 27 = .ok (.ireturn, 1) := by decide +kernel
theorem dX6_readOn_0 : decode cX6_readOn 0 = .ok (.aload_n 0, 1) := by decide +kernel
theorem dX6_readOn_1 : decode cX6_readOn 1 = .ok (.invokevirtual 181, 3) := by decide +kernel
theorem dX6_readOn_4 : decode cX6_readOn 4 = .ok (.ifCond .ne 6, 3) := by decide +kernel
theorem dX6_readOn_7 : decode cX6_readOn 7 = .ok (.bipush (-4), 2) := by decide +kernel
theorem dX6_readOn_9 : decode cX6_readOn 9 = .ok (.ireturn, 1) := by decide +kernel
theorem dX6_readOn_10 : decode cX6_readOn 10 = .ok (.aload_n 0, 1) := by decide +kernel
theorem dX6_readOn_11 : decode cX6_readOn 11 = .ok (.invokevirtual 175, 3) := by decide +kernel
theorem dX6_readOn_14 : decode cX6_readOn 14 = .ok (.ifCond .ne 6, 3) := by decide +kernel
theorem dX6_readOn_17 : decode cX6_readOn 17 = .ok (.bipush (-5), 2) := by decide +kernel
theorem dX6_readOn_19 : decode cX6_readOn 19 = .ok (.ireturn, 1) := by decide +kernel
theorem dX6_readOn_20 : decode cX6_readOn 20 = .ok (.aload_n 0, 1) := by decide +kernel
theorem dX6_readOn_21 : decode cX6_readOn 21 = .ok (.invokevirtual 47, 3) := by decide +kernel
theorem dX6_readOn_24 : decode cX6_readOn 24 = .ok (.aload_n 0, 1) := by decide +kernel
theorem dX6_readOn_25 : decode cX6_readOn 25 = .ok (.invokevirtual 184, 3) := by decide +kernel
theorem dX6_readOn_28 : decode cX6_readOn 28 = .ok (.ireturn, 1) := by decide +kernel
theorem dX6_readFrom_0 : decode cX6_readFrom 0 = .ok (.aload_n 0, 1) := by decide +kernel
theorem dX6_readFrom_1 : decode cX6_readFrom 1 = .ok (.iload_n 1, 1) := by decide +kernel
theorem dX6_readFrom_2 : decode cX6_readFrom 2 = .ok (.invokevirtual 168, 3) := by decide +kernel
theorem dX6_readFrom_5 : decode cX6_readFrom 5 = .ok (.ifCond .ne 5, 3) := by decide +kernel
theorem dX6_readFrom_8 : decode cX6_readFrom 8 = .ok (.iconst (-1), 1) := by decide +kernel
theorem dX6_readFrom_9 : decode cX6_readFrom 9 = .ok (.ireturn, 1) := by decide +kernel
theorem dX6_readFrom_10 : decode cX6_readFrom 10 = .ok (.aload_n 0, 1) := by decide +kernel
theorem dX6_readFrom_11 : decode cX6_readFrom 11 = .ok (.iload_n 1, 1) := by decide +kernel
theorem dX6_readFrom_12 : decode cX6_readFrom 12 = .ok (.invokevirtual 103, 3) := by decide +kernel
theorem dX6_readFrom_15 : decode cX6_readFrom 15 = .ok (.ifCond .ne 6, 3) := by decide +kernel
theorem dX6_readFrom_18 : decode cX6_readFrom 18 = .ok (.bipush (-5), 2) := by decide +kernel
theorem dX6_readFrom_20 : decode cX6_readFrom 20 = .ok (.ireturn, 1) := by decide +kernel
theorem dX6_readFrom_21 : decode cX6_readFrom 21 = .ok (.aload_n 0, 1) := by decide +kernel
theorem dX6_readFrom_22 : decode cX6_readFrom 22 = .ok (.invokevirtual 47, 3) := by decide +kernel
theorem dX6_readFrom_25 : decode cX6_readFrom 25 = .ok (.aload_n 0, 1) := by decide +kernel
theorem dX6_readFrom_26 : decode cX6_readFrom 26 = .ok (.iload_n 1, 1) := by decide +kernel
theorem dX6_readFrom_27 : decode cX6_readFrom 27 = .ok (.iconst 5, 1) := by decide +kernel
theorem dX6_readFrom_28 : decode cX6_readFrom 28 = .ok (.aload_n 0, 1) := by decide +kernel
theorem dX6_readFrom_29 : decode cX6_readFrom 29 = .ok (.iload_n 1, 1) := by decide +kernel
theorem dX6_readFrom_30 : decode cX6_readFrom 30 = .ok (.iconst 4, 1) := by decide +kernel
theorem dX6_readFrom_31 : decode cX6_readFrom 31 = .ok (.invokevirtual 50, 3) := by decide +kernel
theorem dX6_readFrom_34 : decode cX6_readFrom 34 = .ok (.iadd, 1) := by decide +kernel
theorem dX6_readFrom_35 : decode cX6_readFrom 35 = .ok (.invokevirtual 50, 3) := by decide +kernel
theorem dX6_readFrom_38 : decode cX6_readFrom 38 = .ok (.istore_n 2, 1) := by decide +kernel
theorem dX6_readFrom_39 : decode cX6_readFrom 39 = .ok (.aload_n 0, 1) := by decide +kernel
theorem dX6_readFrom_40 : decode cX6_readFrom 40 = .ok (.iload_n 1, 1) := by decide +kernel
theorem dX6_readFrom_41 : decode cX6_readFrom 41 = .ok (.invokevirtual 125, 3) := by decide +kernel
theorem dX6_readFrom_44 : decode cX6_readFrom 44 = .ok (.iload_n 2, 1) := by decide +kernel
theorem dX6_readFrom_45 : decode cX6_readFrom 45 = .ok (.ireturn, 1) := by decide +kernel
theorem dX6_block_0 : decode cX6_block 0 = .ok (.aload_n 0, 1) := by decide +kernel
theorem dX6_block_1 : decode cX6_block 1 = .ok (.iload_n 1, 1) := by decide +kernel
theorem dX6_block_2 : decode cX6_block 2 = .ok (.invokevirtual 168, 3) := by decide +kernel
theorem dX6_block_5 : decode cX6_block 5 = .ok (.ifCond .ne 5, 3) := by decide +kernel
theorem dX6_block_8 : decode cX6_block 8 = .ok (.iconst (-1), 1) := by decide +kernel
theorem dX6_block_9 : decode cX6_block 9 = .ok (.ireturn, 1) := by decide +kernel
theorem dX6_block_10 : decode cX6_block 10 = .ok (.iload_n 2, 1) := by decide +kernel
theorem dX6_block_11 : decode cX6_block 11 = .ok (.iconst 0, 1) := by decide +kernel
theorem dX6_block_12 : decode cX6_block 12 = .ok (.bipush 6, 2) := by decide +kernel
theorem dX6_block_14 : decode cX6_block 14 = .ok (.invokestatic 157, 3) := by decide +kernel
theorem dX6_block_17 : decode cX6_block 17 = .ok (.ifCond .ne 6, 3) := by decide +kernel
theorem dX6_block_20 : decode cX6_block 20 = .ok (.bipush (-2), 2) := by decide +kernel
theorem dX6_block_22 : decode cX6_block 22 = .ok (.ireturn, 1) := by decide +kernel
theorem dX6_block_23 : decode cX6_block 23 = .ok (.iload_n 2, 1) := by decide +kernel
theorem dX6_block_24 : decode cX6_block 24 = .ok (.iconst 5, 1) := by decide +kernel
theorem dX6_block_25 : decode cX6_block 25 = .ok (.if_icmp .ne 11, 3) := by decide +kernel
theorem dX6_block_28 : decode cX6_block 28 = .ok (.aload_n 0, 1) := by decide +kernel
theorem dX6_block_29 : decode cX6_block 29 = .ok (.iload_n 1, 1) := by decide +kernel
theorem dX6_block_30 : decode cX6_block 30 = .ok (.invokevirtual 106, 3) := by decide +kernel
theorem dX6_block_33 : decode cX6_block 33 = .ok (.goto 23, 3) := by decide +kernel
theorem dX6_block_36 : decode cX6_block 36 = .ok (.iload_n 2, 1) := by decide +kernel
theorem dX6_block_37 : decode cX6_block 37 = .ok (.bipush 6, 2) := by decide +kernel
theorem dX6_block_39 : decode cX6_block 39 = .ok (.if_icmp .ne 11, 3) := by decide +kernel
theorem dX6_block_42 : decode cX6_block 42 = .ok (.aload_n 0, 1) := by decide +kernel
theorem dX6_block_43 : decode cX6_block 43 = .ok (.iload_n 1, 1) := by decide +kernel
theorem dX6_block_44 : decode cX6_block 44 = .ok (.invokevirtual 54, 3) := by decide +kernel
theorem dX6_block_47 : decode cX6_block 47 = .ok (.goto 9, 3) := by decide +kernel
theorem dX6_block_50 : decode cX6_block 50 = .ok (.aload_n 0, 1) := by decide +kernel
theorem dX6_block_51 : decode cX6_block 51 = .ok (.iload_n 1, 1) := by decide +kernel
theorem dX6_block_52 : decode cX6_block 52 = .ok (.iload_n 2, 1) := by decide +kernel
theorem dX6_block_53 : decode cX6_block 53 = .ok (.invokevirtual 50, 3) := by decide +kernel
theorem dX6_block_56 : decode cX6_block 56 = .ok (.ireturn, 1) := by decide +kernel
theorem dX6_value_0 : decode cX6_value 0 = .ok (.aload_n 0, 1) := by decide +kernel
theorem dX6_value_1 : decode cX6_value 1 = .ok (.iload_n 1, 1) := by decide +kernel
theorem dX6_value_2 : decode cX6_value 2 = .ok (.invokevirtual 168, 3) := by decide +kernel
theorem dX6_value_5 : decode cX6_value 5 = .ok (.ifCond .eq 17, 3) := by decide +kernel
theorem dX6_value_8 : decode cX6_value 8 = .ok (.iload_n 2, 1) := by decide +kernel
theorem dX6_value_9 : decode cX6_value 9 = .ok (.ifCond .lt 13, 3) := by decide +kernel
theorem dX6_value_12 : decode cX6_value 12 = .ok (.iload_n 2, 1) := by decide +kernel
theorem dX6_value_13 : decode cX6_value 13 = .ok (.aload_n 0, 1) := by decide +kernel
theorem dX6_value_14 : decode cX6_value 14 = .ok (.iload_n 1, 1) := by decide +kernel
theorem dX6_value_15 : decode cX6_value 15 = .ok (.iconst 3, 1) := by decide +kernel
theorem dX6_value_16 : decode cX6_value 16 = .ok (.invokevirtual 50, 3) := by decide +kernel
theorem dX6_value_19 : decode cX6_value 19 = .ok (.if_icmp .lt 5, 3) := by decide +kernel
theorem dX6_value_22 : decode cX6_value 22 = .ok (.iconst (-1), 1) := by decide +kernel
theorem dX6_value_23 : decode cX6_value 23 = .ok (.ireturn, 1) := by decide +kernel
theorem dX6_value_24 : decode cX6_value 24 = .ok (.iload_n 2, 1) := by decide +kernel
theorem dX6_value_25 : decode cX6_value 25 = .ok (.aload_n 0, 1) := by decide +kernel
theorem dX6_value_26 : decode cX6_value 26 = .ok (.iload_n 1, 1) := by decide +kernel
theorem dX6_value_27 : decode cX6_value 27 = .ok (.iconst 4, 1) := by decide +kernel
theorem dX6_value_28 : decode cX6_value 28 = .ok (.invokevirtual 50, 3) := by decide +kernel
theorem dX6_value_31 : decode cX6_value 31 = .ok (.if_icmp .ge 14, 3) := by decide +kernel
theorem dX6_value_34 : decode cX6_value 34 = .ok (.aload_n 0, 1) := by decide +kernel
theorem dX6_value_35 : decode cX6_value 35 = .ok (.iload_n 1, 1) := by decide +kernel
theorem dX6_value_36 : decode cX6_value 36 = .ok (.iconst 5, 1) := by decide +kernel
theorem dX6_value_37 : decode cX6_value 37 = .ok (.iload_n 2, 1) := by decide +kernel
theorem dX6_value_38 : decode cX6_value 38 = .ok (.iadd, 1) := by decide +kernel
theorem dX6_value_39 : decode cX6_value 39 = .ok (.invokevirtual 50, 3) := by decide +kernel
theorem dX6_value_42 : decode cX6_value 42 = .ok (.goto 5, 3) := by decide +kernel
theorem dX6_value_45 : decode cX6_value 45 = .ok (.bipush (-4), 2) := by decide +kernel
theorem dX6_value_47 : decode cX6_value 47 = .ok (.ireturn, 1) := by decide +kernel
theorem dX6_question_0 : decode cX6_question 0 = .ok (.aload_n 0, 1) := by decide +kernel
theorem dX6_question_1 : decode cX6_question 1 = .ok (.iload_n 1, 1) := by decide +kernel
theorem dX6_question_2 : decode cX6_question 2 = .ok (.invokevirtual 172, 3) := by decide +kernel
theorem dX6_question_5 : decode cX6_question 5 = .ok (.ifCond .ne 5, 3) := by decide +kernel
theorem dX6_question_8 : decode cX6_question 8 = .ok (.iconst (-1), 1) := by decide +kernel
theorem dX6_question_9 : decode cX6_question 9 = .ok (.ireturn, 1) := by decide +kernel
theorem dX6_question_10 : decode cX6_question 10 = .ok (.iload_n 2, 1) := by decide +kernel
theorem dX6_question_11 : decode cX6_question 11 = .ok (.iconst 0, 1) := by decide +kernel
theorem dX6_question_12 : decode cX6_question 12 = .ok (.bipush 12, 2) := by decide +kernel
theorem dX6_question_14 : decode cX6_question 14 = .ok (.invokestatic 157, 3) := by decide +kernel
theorem dX6_question_17 : decode cX6_question 17 = .ok (.ifCond .ne 6, 3) := by decide +kernel
theorem dX6_question_20 : decode cX6_question 20 = .ok (.bipush (-2), 2) := by decide +kernel
theorem dX6_question_22 : decode cX6_question 22 = .ok (.ireturn, 1) := by decide +kernel
theorem dX6_question_23 : decode cX6_question 23 = .ok (.iload_n 2, 1) := by decide +kernel
theorem dX6_question_24 : decode cX6_question 24 = .ok (.iconst 5, 1) := by decide +kernel
theorem dX6_question_25 : decode cX6_question 25 = .ok (.if_icmp .ge 10, 3) := by decide +kernel
theorem dX6_question_28 : decode cX6_question 28 = .ok (.aload_n 0, 1) := by decide +kernel
theorem dX6_question_29 : decode cX6_question 29 = .ok (.iload_n 1, 1) := by decide +kernel
theorem dX6_question_30 : decode cX6_question 30 = .ok (.iload_n 2, 1) := by decide +kernel
theorem dX6_question_31 : decode cX6_question 31 = .ok (.invokevirtual 57, 3) := by decide +kernel
theorem dX6_question_34 : decode cX6_question 34 = .ok (.ireturn, 1) := by decide +kernel
theorem dX6_question_35 : decode cX6_question 35 = .ok (.iload_n 2, 1) := by decide +kernel
theorem dX6_question_36 : decode cX6_question 36 = .ok (.bipush 8, 2) := by decide +kernel
theorem dX6_question_38 : decode cX6_question 38 = .ok (.if_icmp .ge 12, 3) := by decide +kernel
theorem dX6_question_41 : decode cX6_question 41 = .ok (.aload_n 0, 1) := by decide +kernel
theorem dX6_question_42 : decode cX6_question 42 = .ok (.iload_n 1, 1) := by decide +kernel
theorem dX6_question_43 : decode cX6_question 43 = .ok (.iload_n 2, 1) := by decide +kernel
theorem dX6_question_44 : decode cX6_question 44 = .ok (.iconst 5, 1) := by decide +kernel
theorem dX6_question_45 : decode cX6_question 45 = .ok (.isub, 1) := by decide +kernel
theorem dX6_question_46 : decode cX6_question 46 = .ok (.invokevirtual 93, 3) := by decide +kernel
theorem dX6_question_49 : decode cX6_question 49 = .ok (.ireturn, 1) := by decide +kernel
theorem dX6_question_50 : decode cX6_question 50 = .ok (.iload_n 2, 1) := by decide +kernel
theorem dX6_question_51 : decode cX6_question 51 = .ok (.bipush 11, 2) := by decide +kernel
theorem dX6_question_53 : decode cX6_question 53 = .ok (.if_icmp .ge 30, 3) := by decide +kernel
theorem dX6_question_56 : decode cX6_question 56 = .ok (.aload_n 0, 1) := by decide +kernel
theorem dX6_question_57 : decode cX6_question 57 = .ok (.iload_n 1, 1) := by decide +kernel
theorem dX6_question_58 : decode cX6_question 58 = .ok (.iconst 4, 1) := by decide +kernel
theorem dX6_question_59 : decode cX6_question 59 = .ok (.invokevirtual 57, 3) := by decide +kernel
theorem dX6_question_62 : decode cX6_question 62 = .ok (.iconst 1, 1) := by decide +kernel
theorem dX6_question_63 : decode cX6_question 63 = .ok (.if_icmp .ne 17, 3) := by decide +kernel
theorem dX6_question_66 : decode cX6_question 66 = .ok (.aload_n 0, 1) := by decide +kernel
theorem dX6_question_67 : decode cX6_question 67 = .ok (.iload_n 1, 1) := by decide +kernel
theorem dX6_question_68 : decode cX6_question 68 = .ok (.iconst 5, 1) := by decide +kernel
theorem dX6_question_69 : decode cX6_question 69 = .ok (.iload_n 2, 1) := by decide +kernel
theorem dX6_question_70 : decode cX6_question 70 = .ok (.iadd, 1) := by decide +kernel
theorem dX6_question_71 : decode cX6_question 71 = .ok (.bipush 8, 2) := by decide +kernel
theorem dX6_question_73 : decode cX6_question 73 = .ok (.isub, 1) := by decide +kernel
theorem dX6_question_74 : decode cX6_question 74 = .ok (.invokevirtual 57, 3) := by decide +kernel
theorem dX6_question_77 : decode cX6_question 77 = .ok (.goto 5, 3) := by decide +kernel
theorem dX6_question_80 : decode cX6_question 80 = .ok (.bipush (-5), 2) := by decide +kernel
theorem dX6_question_82 : decode cX6_question 82 = .ok (.ireturn, 1) := by decide +kernel
theorem dX6_question_83 : decode cX6_question 83 = .ok (.aload_n 0, 1) := by decide +kernel
theorem dX6_question_84 : decode cX6_question 84 = .ok (.iload_n 1, 1) := by decide +kernel
theorem dX6_question_85 : decode cX6_question 85 = .ok (.iload_n 2, 1) := by decide +kernel
theorem dX6_question_86 : decode cX6_question 86 = .ok (.bipush 11, 2) := by decide +kernel
theorem dX6_question_88 : decode cX6_question 88 = .ok (.if_icmp .ne 7, 3) := by decide +kernel
theorem dX6_question_91 : decode cX6_question 91 = .ok (.iconst 3, 1) := by decide +kernel
theorem dX6_question_92 : decode cX6_question 92 = .ok (.goto 4, 3) := by decide +kernel
theorem dX6_question_95 : decode cX6_question 95 = .ok (.iconst 4, 1) := by decide +kernel
theorem dX6_question_96 : decode cX6_question 96 = .ok (.invokevirtual 76, 3) := by decide +kernel
theorem dX6_question_99 : decode cX6_question 99 = .ok (.ireturn, 1) := by decide +kernel
theorem dX6_next_0 : decode cX6_next 0 = .ok (.iload_n 1, 1) := by decide +kernel
theorem dX6_next_1 : decode cX6_next 1 = .ok (.iconst 0, 1) := by decide +kernel
theorem dX6_next_2 : decode cX6_next 2 = .ok (.iconst 1, 1) := by decide +kernel
theorem dX6_next_3 : decode cX6_next 3 = .ok (.invokestatic 157, 3) := by decide +kernel
theorem dX6_next_6 : decode cX6_next 6 = .ok (.ifCond .ne 6, 3) := by decide +kernel
theorem dX6_next_9 : decode cX6_next 9 = .ok (.bipush (-2), 2) := by decide +kernel
theorem dX6_next_11 : decode cX6_next 11 = .ok (.ireturn, 1) := by decide +kernel
theorem dX6_next_12 : decode cX6_next 12 = .ok (.aload_n 0, 1) := by decide +kernel
theorem dX6_next_13 : decode cX6_next 13 = .ok (.invokevirtual 122, 3) := by decide +kernel
theorem dX6_next_16 : decode cX6_next 16 = .ok (.istore_n 2, 1) := by decide +kernel
theorem dX6_next_17 : decode cX6_next 17 = .ok (.iload_n 2, 1) := by decide +kernel
theorem dX6_next_18 : decode cX6_next 18 = .ok (.bipush (-5), 2) := by decide +kernel
theorem dX6_next_20 : decode cX6_next 20 = .ok (.if_icmp .eq 7, 3) := by decide +kernel
theorem dX6_next_23 : decode cX6_next 23 = .ok (.iload_n 1, 1) := by decide +kernel
theorem dX6_next_24 : decode cX6_next 24 = .ok (.ifCond .ne 7, 3) := by decide +kernel
theorem dX6_next_27 : decode cX6_next 27 = .ok (.iload_n 2, 1) := by decide +kernel
theorem dX6_next_28 : decode cX6_next 28 = .ok (.goto 9, 3) := by decide +kernel
theorem dX6_next_31 : decode cX6_next 31 = .ok (.aload_n 0, 1) := by decide +kernel
theorem dX6_next_32 : decode cX6_next 32 = .ok (.iload_n 2, 1) := by decide +kernel
theorem dX6_next_33 : decode cX6_next 33 = .ok (.iconst 4, 1) := by decide +kernel
theorem dX6_next_34 : decode cX6_next 34 = .ok (.invokevirtual 50, 3) := by decide +kernel
theorem dX6_next_37 : decode cX6_next 37 = .ok (.ireturn, 1) := by decide +kernel
theorem dX6_stopsIn_0 : decode cX6_stopsIn 0 = .ok (.aload_n 0, 1) := by decide +kernel
theorem dX6_stopsIn_1 : decode cX6_stopsIn 1 = .ok (.iload_n 1, 1) := by decide +kernel
theorem dX6_stopsIn_2 : decode cX6_stopsIn 2 = .ok (.invokevirtual 172, 3) := by decide +kernel
theorem dX6_stopsIn_5 : decode cX6_stopsIn 5 = .ok (.ifCond .ne 5, 3) := by decide +kernel
theorem dX6_stopsIn_8 : decode cX6_stopsIn 8 = .ok (.iconst (-1), 1) := by decide +kernel
theorem dX6_stopsIn_9 : decode cX6_stopsIn 9 = .ok (.ireturn, 1) := by decide +kernel
theorem dX6_stopsIn_10 : decode cX6_stopsIn 10 = .ok (.aload_n 0, 1) := by decide +kernel
theorem dX6_stopsIn_11 : decode cX6_stopsIn 11 = .ok (.iload_n 1, 1) := by decide +kernel
theorem dX6_stopsIn_12 : decode cX6_stopsIn 12 = .ok (.iconst 4, 1) := by decide +kernel
theorem dX6_stopsIn_13 : decode cX6_stopsIn 13 = .ok (.invokevirtual 57, 3) := by decide +kernel
theorem dX6_stopsIn_16 : decode cX6_stopsIn 16 = .ok (.iconst 1, 1) := by decide +kernel
theorem dX6_stopsIn_17 : decode cX6_stopsIn 17 = .ok (.if_icmp .ne 6, 3) := by decide +kernel
theorem dX6_stopsIn_20 : decode cX6_stopsIn 20 = .ok (.bipush (-4), 2) := by decide +kernel
theorem dX6_stopsIn_22 : decode cX6_stopsIn 22 = .ok (.ireturn, 1) := by decide +kernel
theorem dX6_stopsIn_23 : decode cX6_stopsIn 23 = .ok (.aload_n 0, 1) := by decide +kernel
theorem dX6_stopsIn_24 : decode cX6_stopsIn 24 = .ok (.invokevirtual 187, 3) := by decide +kernel
theorem dX6_stopsIn_27 : decode cX6_stopsIn 27 = .ok (.iconst 0, 1) := by decide +kernel
theorem dX6_stopsIn_28 : decode cX6_stopsIn 28 = .ok (.istore_n 2, 1) := by decide +kernel
theorem dX6_stopsIn_29 : decode cX6_stopsIn 29 = .ok (.aload_n 0, 1) := by decide +kernel
theorem dX6_stopsIn_30 : decode cX6_stopsIn 30 = .ok (.iload_n 1, 1) := by decide +kernel
theorem dX6_stopsIn_31 : decode cX6_stopsIn 31 = .ok (.iconst 4, 1) := by decide +kernel
theorem dX6_stopsIn_32 : decode cX6_stopsIn 32 = .ok (.invokevirtual 57, 3) := by decide +kernel
theorem dX6_stopsIn_35 : decode cX6_stopsIn 35 = .ok (.ifCond .ne 20, 3) := by decide +kernel
theorem dX6_stopsIn_38 : decode cX6_stopsIn 38 = .ok (.aload_n 0, 1) := by decide +kernel
theorem dX6_stopsIn_39 : decode cX6_stopsIn 39 = .ok (.invokevirtual 175, 3) := by decide +kernel
theorem dX6_stopsIn_42 : decode cX6_stopsIn 42 = .ok (.ifCond .le 13, 3) := by decide +kernel
theorem dX6_stopsIn_45 : decode cX6_stopsIn 45 = .ok (.aload_n 0, 1) := by decide +kernel
theorem dX6_stopsIn_46 : decode cX6_stopsIn 46 = .ok (.invokevirtual 178, 3) := by decide +kernel
theorem dX6_stopsIn_49 : decode cX6_stopsIn 49 = .ok (.iinc 2 1, 3) := by decide +kernel
theorem dX6_stopsIn_52 : decode cX6_stopsIn 52 = .ok (.goto (-23), 3) := by decide +kernel
theorem dX6_stopsIn_55 : decode cX6_stopsIn 55 = .ok (.aload_n 0, 1) := by decide +kernel
theorem dX6_stopsIn_56 : decode cX6_stopsIn 56 = .ok (.iload_n 1, 1) := by decide +kernel
theorem dX6_stopsIn_57 : decode cX6_stopsIn 57 = .ok (.iconst 4, 1) := by decide +kernel
theorem dX6_stopsIn_58 : decode cX6_stopsIn 58 = .ok (.invokevirtual 57, 3) := by decide +kernel
theorem dX6_stopsIn_61 : decode cX6_stopsIn 61 = .ok (.iconst 1, 1) := by decide +kernel
theorem dX6_stopsIn_62 : decode cX6_stopsIn 62 = .ok (.if_icmp .ne 7, 3) := by decide +kernel
theorem dX6_stopsIn_65 : decode cX6_stopsIn 65 = .ok (.iconst 1, 1) := by decide +kernel
theorem dX6_stopsIn_66 : decode cX6_stopsIn 66 = .ok (.goto 4, 3) := by decide +kernel
theorem dX6_stopsIn_69 : decode cX6_stopsIn 69 = .ok (.iconst 0, 1) := by decide +kernel
theorem dX6_stopsIn_70 : decode cX6_stopsIn 70 = .ok (.istore_n 3, 1) := by decide +kernel
theorem dX6_stopsIn_71 : decode cX6_stopsIn 71 = .ok (.aload_n 0, 1) := by decide +kernel
theorem dX6_stopsIn_72 : decode cX6_stopsIn 72 = .ok (.invokevirtual 190, 3) := by decide +kernel
theorem dX6_stopsIn_75 : decode cX6_stopsIn 75 = .ok (.iload_n 3, 1) := by decide +kernel
theorem dX6_stopsIn_76 : decode cX6_stopsIn 76 = .ok (.ifCond .eq 7, 3) := by decide +kernel
theorem dX6_stopsIn_79 : decode cX6_stopsIn 79 = .ok (.iload_n 2, 1) := by decide +kernel
theorem dX6_stopsIn_80 : decode cX6_stopsIn 80 = .ok (.goto 5, 3) := by decide +kernel
theorem dX6_stopsIn_83 : decode cX6_stopsIn 83 = .ok (.bipush (-5), 2) := by decide +kernel
theorem dX6_stopsIn_85 : decode cX6_stopsIn 85 = .ok (.ireturn, 1) := by decide +kernel
theorem dX6_best_0 : decode cX6_best 0 = .ok (.iload_n 1, 1) := by decide +kernel
theorem dX6_best_1 : decode cX6_best 1 = .ok (.iconst 0, 1) := by decide +kernel
theorem dX6_best_2 : decode cX6_best 2 = .ok (.iconst 1, 1) := by decide +kernel
theorem dX6_best_3 : decode cX6_best 3 = .ok (.invokestatic 157, 3) := by decide +kernel
theorem dX6_best_6 : decode cX6_best 6 = .ok (.ifCond .ne 6, 3) := by decide +kernel
theorem dX6_best_9 : decode cX6_best 9 = .ok (.bipush (-2), 2) := by decide +kernel
theorem dX6_best_11 : decode cX6_best 11 = .ok (.ireturn, 1) := by decide +kernel
theorem dX6_best_12 : decode cX6_best 12 = .ok (.aload_n 0, 1) := by decide +kernel
theorem dX6_best_13 : decode cX6_best 13 = .ok (.invokevirtual 181, 3) := by decide +kernel
theorem dX6_best_16 : decode cX6_best 16 = .ok (.ifCond .ne 6, 3) := by decide +kernel
theorem dX6_best_19 : decode cX6_best 19 = .ok (.bipush (-4), 2) := by decide +kernel
theorem dX6_best_21 : decode cX6_best 21 = .ok (.ireturn, 1) := by decide +kernel
theorem dX6_best_22 : decode cX6_best 22 = .ok (.bipush (-5), 2) := by decide +kernel
theorem dX6_best_24 : decode cX6_best 24 = .ok (.istore_n 2, 1) := by decide +kernel
theorem dX6_best_25 : decode cX6_best 25 = .ok (.bipush (-5), 2) := by decide +kernel
theorem dX6_best_27 : decode cX6_best 27 = .ok (.istore_n 3, 1) := by decide +kernel
theorem dX6_best_28 : decode cX6_best 28 = .ok (.aload_n 0, 1) := by decide +kernel
theorem dX6_best_29 : decode cX6_best 29 = .ok (.invokevirtual 187, 3) := by decide +kernel
theorem dX6_best_32 : decode cX6_best 32 = .ok (.iconst 0, 1) := by decide +kernel
theorem dX6_best_33 : decode cX6_best 33 = .ok (.istore 4, 2) := by decide +kernel
theorem dX6_best_35 : decode cX6_best 35 = .ok (.iload 4, 2) := by decide +kernel
theorem dX6_best_37 : decode cX6_best 37 = .ok (.iconst 3, 1) := by decide +kernel
theorem dX6_best_38 : decode cX6_best 38 = .ok (.if_icmp .ge 52, 3) := by decide +kernel
theorem dX6_best_41 : decode cX6_best 41 = .ok (.aload_n 0, 1) := by decide +kernel
theorem dX6_best_42 : decode cX6_best 42 = .ok (.getfield 7, 3) := by decide +kernel
theorem dX6_best_45 : decode cX6_best 45 = .ok (.iconst 2, 1) := by decide +kernel
theorem dX6_best_46 : decode cX6_best 46 = .ok (.iload 4, 2) := by decide +kernel
theorem dX6_best_48 : decode cX6_best 48 = .ok (.iastore, 1) := by decide +kernel
theorem dX6_best_49 : decode cX6_best 49 = .ok (.aload_n 0, 1) := by decide +kernel
theorem dX6_best_50 : decode cX6_best 50 = .ok (.invokevirtual 184, 3) := by decide +kernel
theorem dX6_best_53 : decode cX6_best 53 = .ok (.istore 5, 2) := by decide +kernel
theorem dX6_best_55 : decode cX6_best 55 = .ok (.aload_n 0, 1) := by decide +kernel
theorem dX6_best_56 : decode cX6_best 56 = .ok (.invokevirtual 181, 3) := by decide +kernel
theorem dX6_best_59 : decode cX6_best 59 = .ok (.ifCond .ne 21, 3) := by decide +kernel
theorem dX6_best_62 : decode cX6_best 62 = .ok (.iload_n 2, 1) := by decide +kernel
theorem dX6_best_63 : decode cX6_best 63 = .ok (.bipush (-5), 2) := by decide +kernel
theorem dX6_best_65 : decode cX6_best 65 = .ok (.if_icmp .eq 9, 3) := by decide +kernel
theorem dX6_best_68 : decode cX6_best 68 = .ok (.iload 5, 2) := by decide +kernel
theorem dX6_best_70 : decode cX6_best 70 = .ok (.iload_n 3, 1) := by decide +kernel
theorem dX6_best_71 : decode cX6_best 71 = .ok (.if_icmp .ge 9, 3) := by decide +kernel
theorem dX6_best_74 : decode cX6_best 74 = .ok (.iload 4, 2) := by decide +kernel
theorem dX6_best_76 : decode cX6_best 76 = .ok (.istore_n 2, 1) := by decide +kernel
theorem dX6_best_77 : decode cX6_best 77 = .ok (.iload 5, 2) := by decide +kernel
theorem dX6_best_79 : decode cX6_best 79 = .ok (.istore_n 3, 1) := by decide +kernel
theorem dX6_best_80 : decode cX6_best 80 = .ok (.aload_n 0, 1) := by decide +kernel
theorem dX6_best_81 : decode cX6_best 81 = .ok (.invokevirtual 190, 3) := by decide +kernel
theorem dX6_best_84 : decode cX6_best 84 = .ok (.iinc 4 1, 3) := by decide +kernel
theorem dX6_best_87 : decode cX6_best 87 = .ok (.goto (-52), 3) := by decide +kernel
theorem dX6_best_90 : decode cX6_best 90 = .ok (.iload_n 1, 1) := by decide +kernel
theorem dX6_best_91 : decode cX6_best 91 = .ok (.ifCond .ne 7, 3) := by decide +kernel
theorem dX6_best_94 : decode cX6_best 94 = .ok (.iload_n 2, 1) := by decide +kernel
theorem dX6_best_95 : decode cX6_best 95 = .ok (.goto 4, 3) := by decide +kernel
theorem dX6_best_98 : decode cX6_best 98 = .ok (.iload_n 3, 1) := by decide +kernel
theorem dX6_best_99 : decode cX6_best 99 = .ok (.ireturn, 1) := by decide +kernel
theorem dX6_count_0 : decode cX6_count 0 = .ok (.iload_n 1, 1) := by decide +kernel
theorem dX6_count_1 : decode cX6_count 1 = .ok (.tableswitch 106 0 8 #[51, 58, 65, 70, 77, 83, 89, 96, 101], 51) := by decide +kernel
theorem dX6_count_52 : decode cX6_count 52 = .ok (.aload_n 0, 1) := by decide +kernel
theorem dX6_count_53 : decode cX6_count 53 = .ok (.getfield 7, 3) := by decide +kernel
theorem dX6_count_56 : decode cX6_count 56 = .ok (.iconst 0, 1) := by decide +kernel
theorem dX6_count_57 : decode cX6_count 57 = .ok (.iaload, 1) := by decide +kernel
theorem dX6_count_58 : decode cX6_count 58 = .ok (.ireturn, 1) := by decide +kernel
theorem dX6_count_59 : decode cX6_count 59 = .ok (.aload_n 0, 1) := by decide +kernel
theorem dX6_count_60 : decode cX6_count 60 = .ok (.getfield 7, 3) := by decide +kernel
theorem dX6_count_63 : decode cX6_count 63 = .ok (.iconst 1, 1) := by decide +kernel
theorem dX6_count_64 : decode cX6_count 64 = .ok (.iaload, 1) := by decide +kernel
theorem dX6_count_65 : decode cX6_count 65 = .ok (.ireturn, 1) := by decide +kernel
theorem dX6_count_66 : decode cX6_count 66 = .ok (.aload_n 0, 1) := by decide +kernel
theorem dX6_count_67 : decode cX6_count 67 = .ok (.invokevirtual 181, 3) := by decide +kernel
theorem dX6_count_70 : decode cX6_count 70 = .ok (.ireturn, 1) := by decide +kernel
theorem dX6_count_71 : decode cX6_count 71 = .ok (.aload_n 0, 1) := by decide +kernel
theorem dX6_count_72 : decode cX6_count 72 = .ok (.getfield 7, 3) := by decide +kernel
theorem dX6_count_75 : decode cX6_count 75 = .ok (.iconst 2, 1) := by decide +kernel
theorem dX6_count_76 : decode cX6_count 76 = .ok (.iaload, 1) := by decide +kernel
theorem dX6_count_77 : decode cX6_count 77 = .ok (.ireturn, 1) := by decide +kernel
theorem dX6_count_78 : decode cX6_count 78 = .ok (.aload_n 0, 1) := by decide +kernel
theorem dX6_count_79 : decode cX6_count 79 = .ok (.iconst 3, 1) := by decide +kernel
theorem dX6_count_80 : decode cX6_count 80 = .ok (.invokevirtual 43, 3) := by decide +kernel
theorem dX6_count_83 : decode cX6_count 83 = .ok (.ireturn, 1) := by decide +kernel
theorem dX6_count_84 : decode cX6_count 84 = .ok (.aload_n 0, 1) := by decide +kernel
theorem dX6_count_85 : decode cX6_count 85 = .ok (.iconst 4, 1) := by decide +kernel
theorem dX6_count_86 : decode cX6_count 86 = .ok (.invokevirtual 43, 3) := by decide +kernel
theorem dX6_count_89 : decode cX6_count 89 = .ok (.ireturn, 1) := by decide +kernel
theorem dX6_count_90 : decode cX6_count 90 = .ok (.aload_n 0, 1) := by decide +kernel
theorem dX6_count_91 : decode cX6_count 91 = .ok (.getfield 7, 3) := by decide +kernel
theorem dX6_count_94 : decode cX6_count 94 = .ok (.iconst 3, 1) := by decide +kernel
theorem dX6_count_95 : decode cX6_count 95 = .ok (.iaload, 1) := by decide +kernel
theorem dX6_count_96 : decode cX6_count 96 = .ok (.ireturn, 1) := by decide +kernel
theorem dX6_count_97 : decode cX6_count 97 = .ok (.aload_n 0, 1) := by decide +kernel
theorem dX6_count_98 : decode cX6_count 98 = .ok (.getfield 35, 3) := by decide +kernel
theorem dX6_count_101 : decode cX6_count 101 = .ok (.ireturn, 1) := by decide +kernel
theorem dX6_count_102 : decode cX6_count 102 = .ok (.aload_n 0, 1) := by decide +kernel
theorem dX6_count_103 : decode cX6_count 103 = .ok (.getfield 128, 3) := by decide +kernel
theorem dX6_count_106 : decode cX6_count 106 = .ok (.ireturn, 1) := by decide +kernel
theorem dX6_count_107 : decode cX6_count 107 = .ok (.bipush (-2), 2) := by decide +kernel
theorem dX6_count_109 : decode cX6_count 109 = .ok (.ireturn, 1) := by decide +kernel
theorem dL_law_0 : decode cL_law 0 = .ok (.new 7, 3) := by decide +kernel
theorem dL_law_3 : decode cL_law 3 = .ok (.dup, 1) := by decide +kernel
theorem dL_law_4 : decode cL_law 4 = .ok (.invokespecial 9, 3) := by decide +kernel
theorem dL_law_7 : decode cL_law 7 = .ok (.astore_n 1, 1) := by decide +kernel
theorem dL_law_8 : decode cL_law 8 = .ok (.new 10, 3) := by decide +kernel
theorem dL_law_11 : decode cL_law 11 = .ok (.dup, 1) := by decide +kernel
theorem dL_law_12 : decode cL_law 12 = .ok (.invokespecial 12, 3) := by decide +kernel
theorem dL_law_15 : decode cL_law 15 = .ok (.astore_n 2, 1) := by decide +kernel
theorem dL_law_16 : decode cL_law 16 = .ok (.iconst 0, 1) := by decide +kernel
theorem dL_law_17 : decode cL_law 17 = .ok (.istore_n 3, 1) := by decide +kernel
theorem dL_law_18 : decode cL_law 18 = .ok (.iload_n 3, 1) := by decide +kernel
theorem dL_law_19 : decode cL_law 19 = .ok (.aload_n 0, 1) := by decide +kernel
theorem dL_law_20 : decode cL_law 20 = .ok (.arraylength, 1) := by decide +kernel
theorem dL_law_21 : decode cL_law 21 = .ok (.iconst 5, 1) := by decide +kernel
theorem dL_law_22 : decode cL_law 22 = .ok (.isub, 1) := by decide +kernel
theorem dL_law_23 : decode cL_law 23 = .ok (.if_icmp .gt 738, 3) := by decide +kernel
theorem dL_law_26 : decode cL_law 26 = .ok (.aload_n 0, 1) := by decide +kernel
theorem dL_law_27 : decode cL_law 27 = .ok (.iload_n 3, 1) := by decide +kernel
theorem dL_law_28 : decode cL_law 28 = .ok (.iaload, 1) := by decide +kernel
theorem dL_law_29 : decode cL_law 29 = .ok (.bipush 31, 2) := by decide +kernel
theorem dL_law_31 : decode cL_law 31 = .ok (.iand, 1) := by decide +kernel
theorem dL_law_32 : decode cL_law 32 = .ok (.tableswitch 723 0 24 #[116, 129, 162, 205, 228, 241, 294, 327, 350, 373, 396, 419, 432, 455, 480, 493, 506, 519, 532, 565, 598, 631, 654, 677, 700], 116) := by decide +kernel
theorem dL_law_148 : decode cL_law 148 = .ok (.aload_n 1, 1) := by decide +kernel
theorem dL_law_149 : decode cL_law 149 = .ok (.invokevirtual 13, 3) := by decide +kernel
theorem dL_law_152 : decode cL_law 152 = .ok (.aload_n 2, 1) := by decide +kernel
theorem dL_law_153 : decode cL_law 153 = .ok (.invokevirtual 17, 3) := by decide +kernel
theorem dL_law_156 : decode cL_law 156 = .ok (.if_icmp .eq 599, 3) := by decide +kernel
theorem dL_law_159 : decode cL_law 159 = .ok (.iconst 0, 1) := by decide +kernel
theorem dL_law_160 : decode cL_law 160 = .ok (.ireturn, 1) := by decide +kernel
theorem dL_law_161 : decode cL_law 161 = .ok (.aload_n 1, 1) := by decide +kernel
theorem dL_law_162 : decode cL_law 162 = .ok (.aload_n 0, 1) := by decide +kernel
theorem dL_law_163 : decode cL_law 163 = .ok (.iload_n 3, 1) := by decide +kernel
theorem dL_law_164 : decode cL_law 164 = .ok (.iconst 1, 1) := by decide +kernel
theorem dL_law_165 : decode cL_law 165 = .ok (.iadd, 1) := by decide +kernel
theorem dL_law_166 : decode cL_law 166 = .ok (.iaload, 1) := by decide +kernel
theorem dL_law_167 : decode cL_law 167 = .ok (.aload_n 0, 1) := by decide +kernel
theorem dL_law_168 : decode cL_law 168 = .ok (.iload_n 3, 1) := by decide +kernel
theorem dL_law_169 : decode cL_law 169 = .ok (.iconst 2, 1) := by decide +kernel
theorem dL_law_170 : decode cL_law 170 = .ok (.iadd, 1) := by decide +kernel
theorem dL_law_171 : decode cL_law 171 = .ok (.iaload, 1) := by decide +kernel
theorem dL_law_172 : decode cL_law 172 = .ok (.invokevirtual 18, 3) := by decide +kernel
theorem dL_law_175 : decode cL_law 175 = .ok (.aload_n 2, 1) := by decide +kernel
theorem dL_law_176 : decode cL_law 176 = .ok (.aload_n 0, 1) := by decide +kernel
theorem dL_law_177 : decode cL_law 177 = .ok (.iload_n 3, 1) := by decide +kernel
theorem dL_law_178 : decode cL_law 178 = .ok (.iconst 1, 1) := by decide +kernel
theorem dL_law_179 : decode cL_law 179 = .ok (.iadd, 1) := by decide +kernel
theorem dL_law_180 : decode cL_law 180 = .ok (.iaload, 1) := by decide +kernel
theorem dL_law_181 : decode cL_law 181 = .ok (.aload_n 0, 1) := by decide +kernel
theorem dL_law_182 : decode cL_law 182 = .ok (.iload_n 3, 1) := by decide +kernel
theorem dL_law_183 : decode cL_law 183 = .ok (.iconst 2, 1) := by decide +kernel
theorem dL_law_184 : decode cL_law 184 = .ok (.iadd, 1) := by decide +kernel
theorem dL_law_185 : decode cL_law 185 = .ok (.iaload, 1) := by decide +kernel
theorem dL_law_186 : decode cL_law 186 = .ok (.invokevirtual 22, 3) := by decide +kernel
theorem dL_law_189 : decode cL_law 189 = .ok (.if_icmp .eq 566, 3) := by decide +kernel
theorem dL_law_192 : decode cL_law 192 = .ok (.iconst 0, 1) := by decide +kernel
theorem dL_law_193 : decode cL_law 193 = .ok (.ireturn, 1) := by decide +kernel
theorem dL_law_194 : decode cL_law 194 = .ok (.aload_n 1, 1) := by decide +kernel
theorem dL_law_195 : decode cL_law 195 = .ok (.aload_n 0, 1) := by decide +kernel
theorem dL_law_196 : decode cL_law 196 = .ok (.iload_n 3, 1) := by decide +kernel
theorem dL_law_197 : decode cL_law 197 = .ok (.iconst 1, 1) := by decide +kernel
theorem dL_law_198 : decode cL_law 198 = .ok (.iadd, 1) := by decide +kernel
theorem dL_law_199 : decode cL_law 199 = .ok (.iaload, 1) := by decide +kernel
theorem dL_law_200 : decode cL_law 200 = .ok (.aload_n 0, 1) := by decide +kernel
theorem dL_law_201 : decode cL_law 201 = .ok (.iload_n 3, 1) := by decide +kernel
theorem dL_law_202 : decode cL_law 202 = .ok (.iconst 2, 1) := by decide +kernel
theorem dL_law_203 : decode cL_law 203 = .ok (.iadd, 1) := by decide +kernel
theorem dL_law_204 : decode cL_law 204 = .ok (.iaload, 1) := by decide +kernel
theorem dL_law_205 : decode cL_law 205 = .ok (.aload_n 0, 1) := by decide +kernel
theorem dL_law_206 : decode cL_law 206 = .ok (.iload_n 3, 1) := by decide +kernel
theorem dL_law_207 : decode cL_law 207 = .ok (.iconst 3, 1) := by decide +kernel
theorem dL_law_208 : decode cL_law 208 = .ok (.iadd, 1) := by decide +kernel
theorem dL_law_209 : decode cL_law 209 = .ok (.iaload, 1) := by decide +kernel
theorem dL_law_210 : decode cL_law 210 = .ok (.invokevirtual 23, 3) := by decide +kernel
theorem dL_law_213 : decode cL_law 213 = .ok (.aload_n 2, 1) := by decide +kernel
theorem dL_law_214 : decode cL_law 214 = .ok (.aload_n 0, 1) := by decide +kernel
theorem dL_law_215 : decode cL_law 215 = .ok (.iload_n 3, 1) := by decide +kernel
theorem dL_law_216 : decode cL_law 216 = .ok (.iconst 1, 1) := by decide +kernel
theorem dL_law_217 : decode cL_law 217 = .ok (.iadd, 1) := by decide +kernel
theorem dL_law_218 : decode cL_law 218 = .ok (.iaload, 1) := by decide +kernel
theorem dL_law_219 : decode cL_law 219 = .ok (.aload_n 0, 1) := by decide +kernel
theorem dL_law_220 : decode cL_law 220 = .ok (.iload_n 3, 1) := by decide +kernel
theorem dL_law_221 : decode cL_law 221 = .ok (.iconst 2, 1) := by decide +kernel
theorem dL_law_222 : decode cL_law 222 = .ok (.iadd, 1) := by decide +kernel
theorem dL_law_223 : decode cL_law 223 = .ok (.iaload, 1) := by decide +kernel
theorem dL_law_224 : decode cL_law 224 = .ok (.aload_n 0, 1) := by decide +kernel
theorem dL_law_225 : decode cL_law 225 = .ok (.iload_n 3, 1) := by decide +kernel
theorem dL_law_226 : decode cL_law 226 = .ok (.iconst 3, 1) := by decide +kernel
theorem dL_law_227 : decode cL_law 227 = .ok (.iadd, 1) := by decide +kernel
theorem dL_law_228 : decode cL_law 228 = .ok (.iaload, 1) := by decide +kernel
theorem dL_law_229 : decode cL_law 229 = .ok (.invokevirtual 27, 3) := by decide +kernel
theorem dL_law_232 : decode cL_law 232 = .ok (.if_icmp .eq 523, 3) := by decide +kernel
theorem dL_law_235 : decode cL_law 235 = .ok (.iconst 0, 1) := by decide +kernel
theorem dL_law_236 : decode cL_law 236 = .ok (.ireturn, 1) := by decide +kernel
theorem dL_law_237 : decode cL_law 237 = .ok (.aload_n 1, 1) := by decide +kernel
theorem dL_law_238 : decode cL_law 238 = .ok (.aload_n 0, 1) := by decide +kernel
theorem dL_law_239 : decode cL_law 239 = .ok (.iload_n 3, 1) := by decide +kernel
theorem dL_law_240 : decode cL_law 240 = .ok (.iconst 1, 1) := by decide +kernel
theorem dL_law_241 : decode cL_law 241 = .ok (.iadd, 1) := by decide +kernel
theorem dL_law_242 : decode cL_law 242 = .ok (.iaload, 1) := by decide +kernel
theorem dL_law_243 : decode cL_law 243 = .ok (.invokevirtual 28, 3) := by decide +kernel
theorem dL_law_246 : decode cL_law 246 = .ok (.aload_n 2, 1) := by decide +kernel
theorem dL_law_247 : decode cL_law 247 = .ok (.aload_n 0, 1) := by decide +kernel
theorem dL_law_248 : decode cL_law 248 = .ok (.iload_n 3, 1) := by decide +kernel
theorem dL_law_249 : decode cL_law 249 = .ok (.iconst 1, 1) := by decide +kernel
theorem dL_law_250 : decode cL_law 250 = .ok (.iadd, 1) := by decide +kernel
theorem dL_law_251 : decode cL_law 251 = .ok (.iaload, 1) := by decide +kernel
theorem dL_law_252 : decode cL_law 252 = .ok (.invokevirtual 32, 3) := by decide +kernel
theorem dL_law_255 : decode cL_law 255 = .ok (.if_icmp .eq 500, 3) := by decide +kernel
theorem dL_law_258 : decode cL_law 258 = .ok (.iconst 0, 1) := by decide +kernel
theorem dL_law_259 : decode cL_law 259 = .ok (.ireturn, 1) := by decide +kernel
theorem dL_law_260 : decode cL_law 260 = .ok (.aload_n 1, 1) := by decide +kernel
theorem dL_law_261 : decode cL_law 261 = .ok (.invokevirtual 33, 3) := by decide +kernel
theorem dL_law_264 : decode cL_law 264 = .ok (.aload_n 2, 1) := by decide +kernel
theorem dL_law_265 : decode cL_law 265 = .ok (.invokevirtual 36, 3) := by decide +kernel
theorem dL_law_268 : decode cL_law 268 = .ok (.if_icmp .eq 487, 3) := by decide +kernel
theorem dL_law_271 : decode cL_law 271 = .ok (.iconst 0, 1) := by decide +kernel
theorem dL_law_272 : decode cL_law 272 = .ok (.ireturn, 1) := by decide +kernel
theorem dL_law_273 : decode cL_law 273 = .ok (.aload_n 1, 1) := by decide +kernel
theorem dL_law_274 : decode cL_law 274 = .ok (.aload_n 0, 1) := by decide +kernel
theorem dL_law_275 : decode cL_law 275 = .ok (.iload_n 3, 1) := by decide +kernel
theorem dL_law_276 : decode cL_law 276 = .ok (.iconst 1, 1) := by decide +kernel
theorem dL_law_277 : decode cL_law 277 = .ok (.iadd, 1) := by decide +kernel
theorem dL_law_278 : decode cL_law 278 = .ok (.iaload, 1) := by decide +kernel
theorem dL_law_279 : decode cL_law 279 = .ok (.aload_n 0, 1) := by decide +kernel
theorem dL_law_280 : decode cL_law 280 = .ok (.iload_n 3, 1) := by decide +kernel
theorem dL_law_281 : decode cL_law 281 = .ok (.iconst 2, 1) := by decide +kernel
theorem dL_law_282 : decode cL_law 282 = .ok (.iadd, 1) := by decide +kernel
theorem dL_law_283 : decode cL_law 283 = .ok (.iaload, 1) := by decide +kernel
theorem dL_law_284 : decode cL_law 284 = .ok (.aload_n 0, 1) := by decide +kernel
theorem dL_law_285 : decode cL_law 285 = .ok (.iload_n 3, 1) := by decide +kernel
theorem dL_law_286 : decode cL_law 286 = .ok (.iconst 3, 1) := by decide +kernel
theorem dL_law_287 : decode cL_law 287 = .ok (.iadd, 1) := by decide +kernel
theorem dL_law_288 : decode cL_law 288 = .ok (.iaload, 1) := by decide +kernel
theorem dL_law_289 : decode cL_law 289 = .ok (.aload_n 0, 1) := by decide +kernel
theorem dL_law_290 : decode cL_law 290 = .ok (.iload_n 3, 1) := by decide +kernel
theorem dL_law_291 : decode cL_law 291 = .ok (.iconst 4, 1) := by decide +kernel
theorem dL_law_292 : decode cL_law 292 = .ok (.iadd, 1) := by decide +kernel
theorem dL_law_293 : decode cL_law 293 = .ok (.iaload, 1) := by decide +kernel
theorem dL_law_294 : decode cL_law 294 = .ok (.invokevirtual 37, 3) := by decide +kernel
theorem dL_law_297 : decode cL_law 297 = .ok (.aload_n 2, 1) := by decide +kernel
theorem dL_law_298 : decode cL_law 298 = .ok (.aload_n 0, 1) := by decide +kernel
theorem dL_law_299 : decode cL_law 299 = .ok (.iload_n 3, 1) := by decide +kernel
theorem dL_law_300 : decode cL_law 300 = .ok (.iconst 1, 1) := by decide +kernel
theorem dL_law_301 : decode cL_law 301 = .ok (.iadd, 1) := by decide +kernel
theorem dL_law_302 : decode cL_law 302 = .ok (.iaload, 1) := by decide +kernel
theorem dL_law_303 : decode cL_law 303 = .ok (.aload_n 0, 1) := by decide +kernel
theorem dL_law_304 : decode cL_law 304 = .ok (.iload_n 3, 1) := by decide +kernel
theorem dL_law_305 : decode cL_law 305 = .ok (.iconst 2, 1) := by decide +kernel
theorem dL_law_306 : decode cL_law 306 = .ok (.iadd, 1) := by decide +kernel
theorem dL_law_307 : decode cL_law 307 = .ok (.iaload, 1) := by decide +kernel
theorem dL_law_308 : decode cL_law 308 = .ok (.aload_n 0, 1) := by decide +kernel
theorem dL_law_309 : decode cL_law 309 = .ok (.iload_n 3, 1) := by decide +kernel
theorem dL_law_310 : decode cL_law 310 = .ok (.iconst 3, 1) := by decide +kernel
theorem dL_law_311 : decode cL_law 311 = .ok (.iadd, 1) := by decide +kernel
theorem dL_law_312 : decode cL_law 312 = .ok (.iaload, 1) := by decide +kernel
theorem dL_law_313 : decode cL_law 313 = .ok (.aload_n 0, 1) := by decide +kernel
theorem dL_law_314 : decode cL_law 314 = .ok (.iload_n 3, 1) := by decide +kernel
theorem dL_law_315 : decode cL_law 315 = .ok (.iconst 4, 1) := by decide +kernel
theorem dL_law_316 : decode cL_law 316 = .ok (.iadd, 1) := by decide +kernel
theorem dL_law_317 : decode cL_law 317 = .ok (.iaload, 1) := by decide +kernel
theorem dL_law_318 : decode cL_law 318 = .ok (.invokevirtual 41, 3) := by decide +kernel
theorem dL_law_321 : decode cL_law 321 = .ok (.if_icmp .eq 434, 3) := by decide +kernel
theorem dL_law_324 : decode cL_law 324 = .ok (.iconst 0, 1) := by decide +kernel
theorem dL_law_325 : decode cL_law 325 = .ok (.ireturn, 1) := by decide +kernel
theorem dL_law_326 : decode cL_law 326 = .ok (.aload_n 1, 1) := by decide +kernel
theorem dL_law_327 : decode cL_law 327 = .ok (.aload_n 0, 1) := by decide +kernel
theorem dL_law_328 : decode cL_law 328 = .ok (.iload_n 3, 1) := by decide +kernel
theorem dL_law_329 : decode cL_law 329 = .ok (.iconst 1, 1) := by decide +kernel
theorem dL_law_330 : decode cL_law 330 = .ok (.iadd, 1) := by decide +kernel
theorem dL_law_331 : decode cL_law 331 = .ok (.iaload, 1) := by decide +kernel
theorem dL_law_332 : decode cL_law 332 = .ok (.aload_n 0, 1) := by decide +kernel
theorem dL_law_333 : decode cL_law 333 = .ok (.iload_n 3, 1) := by decide +kernel
theorem dL_law_334 : decode cL_law 334 = .ok (.iconst 2, 1) := by decide +kernel
theorem dL_law_335 : decode cL_law 335 = .ok (.iadd, 1) := by decide +kernel
theorem dL_law_336 : decode cL_law 336 = .ok (.iaload, 1) := by decide +kernel
theorem dL_law_337 : decode cL_law 337 = .ok (.invokevirtual 42, 3) := by decide +kernel
theorem dL_law_340 : decode cL_law 340 = .ok (.aload_n 2, 1) := by decide +kernel
theorem dL_law_341 : decode cL_law 341 = .ok (.aload_n 0, 1) := by decide +kernel
theorem dL_law_342 : decode cL_law 342 = .ok (.iload_n 3, 1) := by decide +kernel
theorem dL_law_343 : decode cL_law 343 = .ok (.iconst 1, 1) := by decide +kernel
theorem dL_law_344 : decode cL_law 344 = .ok (.iadd, 1) := by decide +kernel
theorem dL_law_345 : decode cL_law 345 = .ok (.iaload, 1) := by decide +kernel
theorem dL_law_346 : decode cL_law 346 = .ok (.aload_n 0, 1) := by decide +kernel
theorem dL_law_347 : decode cL_law 347 = .ok (.iload_n 3, 1) := by decide +kernel
theorem dL_law_348 : decode cL_law 348 = .ok (.iconst 2, 1) := by decide +kernel
theorem dL_law_349 : decode cL_law 349 = .ok (.iadd, 1) := by decide +kernel
theorem dL_law_350 : decode cL_law 350 = .ok (.iaload, 1) := by decide +kernel
theorem dL_law_351 : decode cL_law 351 = .ok (.invokevirtual 45, 3) := by decide +kernel
theorem dL_law_354 : decode cL_law 354 = .ok (.if_icmp .eq 401, 3) := by decide +kernel
theorem dL_law_357 : decode cL_law 357 = .ok (.iconst 0, 1) := by decide +kernel
theorem dL_law_358 : decode cL_law 358 = .ok (.ireturn, 1) := by decide +kernel
theorem dL_law_359 : decode cL_law 359 = .ok (.aload_n 1, 1) := by decide +kernel
theorem dL_law_360 : decode cL_law 360 = .ok (.aload_n 0, 1) := by decide +kernel
theorem dL_law_361 : decode cL_law 361 = .ok (.iload_n 3, 1) := by decide +kernel
theorem dL_law_362 : decode cL_law 362 = .ok (.iconst 1, 1) := by decide +kernel
theorem dL_law_363 : decode cL_law 363 = .ok (.iadd, 1) := by decide +kernel
theorem dL_law_364 : decode cL_law 364 = .ok (.iaload, 1) := by decide +kernel
theorem dL_law_365 : decode cL_law 365 = .ok (.invokevirtual 46, 3) := by decide +kernel
theorem dL_law_368 : decode cL_law 368 = .ok (.aload_n 2, 1) := by decide +kernel
theorem dL_law_369 : decode cL_law 369 = .ok (.aload_n 0, 1) := by decide +kernel
theorem dL_law_370 : decode cL_law 370 = .ok (.iload_n 3, 1) := by decide +kernel
theorem dL_law_371 : decode cL_law 371 = .ok (.iconst 1, 1) := by decide +kernel
theorem dL_law_372 : decode cL_law 372 = .ok (.iadd, 1) := by decide +kernel
theorem dL_law_373 : decode cL_law 373 = .ok (.iaload, 1) := by decide +kernel
theorem dL_law_374 : decode cL_law 374 = .ok (.invokevirtual 49, 3) := by decide +kernel
theorem dL_law_377 : decode cL_law 377 = .ok (.if_icmp .eq 378, 3) := by decide +kernel
theorem dL_law_380 : decode cL_law 380 = .ok (.iconst 0, 1) := by decide +kernel
theorem dL_law_381 : decode cL_law 381 = .ok (.ireturn, 1) := by decide +kernel
theorem dL_law_382 : decode cL_law 382 = .ok (.aload_n 1, 1) := by decide +kernel
theorem dL_law_383 : decode cL_law 383 = .ok (.aload_n 0, 1) := by decide +kernel
theorem dL_law_384 : decode cL_law 384 = .ok (.iload_n 3, 1) := by decide +kernel
theorem dL_law_385 : decode cL_law 385 = .ok (.iconst 1, 1) := by decide +kernel
theorem dL_law_386 : decode cL_law 386 = .ok (.iadd, 1) := by decide +kernel
theorem dL_law_387 : decode cL_law 387 = .ok (.iaload, 1) := by decide +kernel
theorem dL_law_388 : decode cL_law 388 = .ok (.invokevirtual 50, 3) := by decide +kernel
theorem dL_law_391 : decode cL_law 391 = .ok (.aload_n 2, 1) := by decide +kernel
theorem dL_law_392 : decode cL_law 392 = .ok (.aload_n 0, 1) := by decide +kernel
theorem dL_law_393 : decode cL_law 393 = .ok (.iload_n 3, 1) := by decide +kernel
theorem dL_law_394 : decode cL_law 394 = .ok (.iconst 1, 1) := by decide +kernel
theorem dL_law_395 : decode cL_law 395 = .ok (.iadd, 1) := by decide +kernel
theorem dL_law_396 : decode cL_law 396 = .ok (.iaload, 1) := by decide +kernel
theorem dL_law_397 : decode cL_law 397 = .ok (.invokevirtual 53, 3) := by decide +kernel
theorem dL_law_400 : decode cL_law 400 = .ok (.if_icmp .eq 355, 3) := by decide +kernel
theorem dL_law_403 : decode cL_law 403 = .ok (.iconst 0, 1) := by decide +kernel
theorem dL_law_404 : decode cL_law 404 = .ok (.ireturn, 1) := by decide +kernel
theorem dL_law_405 : decode cL_law 405 = .ok (.aload_n 1, 1) := by decide +kernel
theorem dL_law_406 : decode cL_law 406 = .ok (.aload_n 0, 1) := by decide +kernel
theorem dL_law_407 : decode cL_law 407 = .ok (.iload_n 3, 1) := by decide +kernel
theorem dL_law_408 : decode cL_law 408 = .ok (.iconst 1, 1) := by decide +kernel
theorem dL_law_409 : decode cL_law 409 = .ok (.iadd, 1) := by decide +kernel
theorem dL_law_410 : decode cL_law 410 = .ok (.iaload, 1) := by decide +kernel
theorem dL_law_411 : decode cL_law 411 = .ok (.invokevirtual 54, 3) := by decide +kernel
theorem dL_law_414 : decode cL_law 414 = .ok (.aload_n 2, 1) := by decide +kernel
theorem dL_law_415 : decode cL_law 415 = .ok (.aload_n 0, 1) := by decide +kernel
theorem dL_law_416 : decode cL_law 416 = .ok (.iload_n 3, 1) := by decide +kernel
theorem dL_law_417 : decode cL_law 417 = .ok (.iconst 1, 1) := by decide +kernel
theorem dL_law_418 : decode cL_law 418 = .ok (.iadd, 1) := by decide +kernel
theorem dL_law_419 : decode cL_law 419 = .ok (.iaload, 1) := by decide +kernel
theorem dL_law_420 : decode cL_law 420 = .ok (.invokevirtual 57, 3) := by decide +kernel
theorem dL_law_423 : decode cL_law 423 = .ok (.if_icmp .eq 332, 3) := by decide +kernel
theorem dL_law_426 : decode cL_law 426 = .ok (.iconst 0, 1) := by decide +kernel
theorem dL_law_427 : decode cL_law 427 = .ok (.ireturn, 1) := by decide +kernel
theorem dL_law_428 : decode cL_law 428 = .ok (.aload_n 1, 1) := by decide +kernel
theorem dL_law_429 : decode cL_law 429 = .ok (.aload_n 0, 1) := by decide +kernel
theorem dL_law_430 : decode cL_law 430 = .ok (.iload_n 3, 1) := by decide +kernel
theorem dL_law_431 : decode cL_law 431 = .ok (.iconst 1, 1) := by decide +kernel
theorem dL_law_432 : decode cL_law 432 = .ok (.iadd, 1) := by decide +kernel
theorem dL_law_433 : decode cL_law 433 = .ok (.iaload, 1) := by decide +kernel
theorem dL_law_434 : decode cL_law 434 = .ok (.invokevirtual 58, 3) := by decide +kernel
theorem dL_law_437 : decode cL_law 437 = .ok (.aload_n 2, 1) := by decide +kernel
theorem dL_law_438 : decode cL_law 438 = .ok (.aload_n 0, 1) := by decide +kernel
theorem dL_law_439 : decode cL_law 439 = .ok (.iload_n 3, 1) := by decide +kernel
theorem dL_law_440 : decode cL_law 440 = .ok (.iconst 1, 1) := by decide +kernel
theorem dL_law_441 : decode cL_law 441 = .ok (.iadd, 1) := by decide +kernel
theorem dL_law_442 : decode cL_law 442 = .ok (.iaload, 1) := by decide +kernel
theorem dL_law_443 : decode cL_law 443 = .ok (.invokevirtual 61, 3) := by decide +kernel
theorem dL_law_446 : decode cL_law 446 = .ok (.if_icmp .eq 309, 3) := by decide +kernel
theorem dL_law_449 : decode cL_law 449 = .ok (.iconst 0, 1) := by decide +kernel
theorem dL_law_450 : decode cL_law 450 = .ok (.ireturn, 1) := by decide +kernel
theorem dL_law_451 : decode cL_law 451 = .ok (.aload_n 1, 1) := by decide +kernel
theorem dL_law_452 : decode cL_law 452 = .ok (.invokevirtual 62, 3) := by decide +kernel
theorem dL_law_455 : decode cL_law 455 = .ok (.aload_n 2, 1) := by decide +kernel
theorem dL_law_456 : decode cL_law 456 = .ok (.invokevirtual 65, 3) := by decide +kernel
theorem dL_law_459 : decode cL_law 459 = .ok (.if_icmp .eq 296, 3) := by decide +kernel
theorem dL_law_462 : decode cL_law 462 = .ok (.iconst 0, 1) := by decide +kernel
theorem dL_law_463 : decode cL_law 463 = .ok (.ireturn, 1) := by decide +kernel
theorem dL_law_464 : decode cL_law 464 = .ok (.aload_n 1, 1) := by decide +kernel
theorem dL_law_465 : decode cL_law 465 = .ok (.aload_n 0, 1) := by decide +kernel
theorem dL_law_466 : decode cL_law 466 = .ok (.iload_n 3, 1) := by decide +kernel
theorem dL_law_467 : decode cL_law 467 = .ok (.iconst 1, 1) := by decide +kernel
theorem dL_law_468 : decode cL_law 468 = .ok (.iadd, 1) := by decide +kernel
theorem dL_law_469 : decode cL_law 469 = .ok (.iaload, 1) := by decide +kernel
theorem dL_law_470 : decode cL_law 470 = .ok (.invokevirtual 66, 3) := by decide +kernel
theorem dL_law_473 : decode cL_law 473 = .ok (.aload_n 2, 1) := by decide +kernel
theorem dL_law_474 : decode cL_law 474 = .ok (.aload_n 0, 1) := by decide +kernel
theorem dL_law_475 : decode cL_law 475 = .ok (.iload_n 3, 1) := by decide +kernel
theorem dL_law_476 : decode cL_law 476 = .ok (.iconst 1, 1) := by decide +kernel
theorem dL_law_477 : decode cL_law 477 = .ok (.iadd, 1) := by decide +kernel
theorem dL_law_478 : decode cL_law 478 = .ok (.iaload, 1) := by decide +kernel
theorem dL_law_479 : decode cL_law 479 = .ok (.invokevirtual 69, 3) := by decide +kernel
theorem dL_law_482 : decode cL_law 482 = .ok (.if_icmp .eq 273, 3) := by decide +kernel
theorem dL_law_485 : decode cL_law 485 = .ok (.iconst 0, 1) := by decide +kernel
theorem dL_law_486 : decode cL_law 486 = .ok (.ireturn, 1) := by decide +kernel
theorem dL_law_487 : decode cL_law 487 = .ok (.aload_n 1, 1) := by decide +kernel
theorem dL_law_488 : decode cL_law 488 = .ok (.aload_n 0, 1) := by decide +kernel
theorem dL_law_489 : decode cL_law 489 = .ok (.iload_n 3, 1) := by decide +kernel
theorem dL_law_490 : decode cL_law 490 = .ok (.iconst 1, 1) := by decide +kernel
theorem dL_law_491 : decode cL_law 491 = .ok (.iadd, 1) := by decide +kernel
theorem dL_law_492 : decode cL_law 492 = .ok (.iaload, 1) := by decide +kernel
theorem dL_law_493 : decode cL_law 493 = .ok (.i2c, 1) := by decide +kernel
theorem dL_law_494 : decode cL_law 494 = .ok (.invokevirtual 70, 3) := by decide +kernel
theorem dL_law_497 : decode cL_law 497 = .ok (.aload_n 2, 1) := by decide +kernel
theorem dL_law_498 : decode cL_law 498 = .ok (.aload_n 0, 1) := by decide +kernel
theorem dL_law_499 : decode cL_law 499 = .ok (.iload_n 3, 1) := by decide +kernel
theorem dL_law_500 : decode cL_law 500 = .ok (.iconst 1, 1) := by decide +kernel
theorem dL_law_501 : decode cL_law 501 = .ok (.iadd, 1) := by decide +kernel
theorem dL_law_502 : decode cL_law 502 = .ok (.iaload, 1) := by decide +kernel
theorem dL_law_503 : decode cL_law 503 = .ok (.i2c, 1) := by decide +kernel
theorem dL_law_504 : decode cL_law 504 = .ok (.invokevirtual 74, 3) := by decide +kernel
theorem dL_law_507 : decode cL_law 507 = .ok (.if_icmp .eq 248, 3) := by decide +kernel
theorem dL_law_510 : decode cL_law 510 = .ok (.iconst 0, 1) := by decide +kernel
theorem dL_law_511 : decode cL_law 511 = .ok (.ireturn, 1) := by decide +kernel
theorem dL_law_512 : decode cL_law 512 = .ok (.aload_n 1, 1) := by decide +kernel
theorem dL_law_513 : decode cL_law 513 = .ok (.invokevirtual 75, 3) := by decide +kernel
theorem dL_law_516 : decode cL_law 516 = .ok (.aload_n 2, 1) := by decide +kernel
theorem dL_law_517 : decode cL_law 517 = .ok (.invokevirtual 78, 3) := by decide +kernel
theorem dL_law_520 : decode cL_law 520 = .ok (.if_icmp .eq 235, 3) := by decide +kernel
theorem dL_law_523 : decode cL_law 523 = .ok (.iconst 0, 1) := by decide +kernel
theorem dL_law_524 : decode cL_law 524 = .ok (.ireturn, 1) := by decide +kernel
theorem dL_law_525 : decode cL_law 525 = .ok (.aload_n 1, 1) := by decide +kernel
theorem dL_law_526 : decode cL_law 526 = .ok (.invokevirtual 79, 3) := by decide +kernel
theorem dL_law_529 : decode cL_law 529 = .ok (.aload_n 2, 1) := by decide +kernel
theorem dL_law_530 : decode cL_law 530 = .ok (.invokevirtual 82, 3) := by decide +kernel
theorem dL_law_533 : decode cL_law 533 = .ok (.if_icmp .eq 222, 3) := by decide +kernel
theorem dL_law_536 : decode cL_law 536 = .ok (.iconst 0, 1) := by decide +kernel
theorem dL_law_537 : decode cL_law 537 = .ok (.ireturn, 1) := by decide +kernel
theorem dL_law_538 : decode cL_law 538 = .ok (.aload_n 1, 1) := by decide +kernel
theorem dL_law_539 : decode cL_law 539 = .ok (.invokevirtual 83, 3) := by decide +kernel
theorem dL_law_542 : decode cL_law 542 = .ok (.aload_n 2, 1) := by decide +kernel
theorem dL_law_543 : decode cL_law 543 = .ok (.invokevirtual 86, 3) := by decide +kernel
theorem dL_law_546 : decode cL_law 546 = .ok (.if_icmp .eq 209, 3) := by decide +kernel
theorem dL_law_549 : decode cL_law 549 = .ok (.iconst 0, 1) := by decide +kernel
theorem dL_law_550 : decode cL_law 550 = .ok (.ireturn, 1) := by decide +kernel
theorem dL_law_551 : decode cL_law 551 = .ok (.aload_n 1, 1) := by decide +kernel
theorem dL_law_552 : decode cL_law 552 = .ok (.invokevirtual 87, 3) := by decide +kernel
theorem dL_law_555 : decode cL_law 555 = .ok (.aload_n 2, 1) := by decide +kernel
theorem dL_law_556 : decode cL_law 556 = .ok (.invokevirtual 90, 3) := by decide +kernel
theorem dL_law_559 : decode cL_law 559 = .ok (.if_icmp .eq 196, 3) := by decide +kernel
theorem dL_law_562 : decode cL_law 562 = .ok (.iconst 0, 1) := by decide +kernel
theorem dL_law_563 : decode cL_law 563 = .ok (.ireturn, 1) := by decide +kernel
theorem dL_law_564 : decode cL_law 564 = .ok (.aload_n 1, 1) := by decide +kernel
theorem dL_law_565 : decode cL_law 565 = .ok (.aload_n 0, 1) := by decide +kernel
theorem dL_law_566 : decode cL_law 566 = .ok (.iload_n 3, 1) := by decide +kernel
theorem dL_law_567 : decode cL_law 567 = .ok (.iconst 1, 1) := by decide +kernel
theorem dL_law_568 : decode cL_law 568 = .ok (.iadd, 1) := by decide +kernel
theorem dL_law_569 : decode cL_law 569 = .ok (.iaload, 1) := by decide +kernel
theorem dL_law_570 : decode cL_law 570 = .ok (.aload_n 0, 1) := by decide +kernel
theorem dL_law_571 : decode cL_law 571 = .ok (.iload_n 3, 1) := by decide +kernel
theorem dL_law_572 : decode cL_law 572 = .ok (.iconst 2, 1) := by decide +kernel
theorem dL_law_573 : decode cL_law 573 = .ok (.iadd, 1) := by decide +kernel
theorem dL_law_574 : decode cL_law 574 = .ok (.iaload, 1) := by decide +kernel
theorem dL_law_575 : decode cL_law 575 = .ok (.invokevirtual 91, 3) := by decide +kernel
theorem dL_law_578 : decode cL_law 578 = .ok (.aload_n 2, 1) := by decide +kernel
theorem dL_law_579 : decode cL_law 579 = .ok (.aload_n 0, 1) := by decide +kernel
theorem dL_law_580 : decode cL_law 580 = .ok (.iload_n 3, 1) := by decide +kernel
theorem dL_law_581 : decode cL_law 581 = .ok (.iconst 1, 1) := by decide +kernel
theorem dL_law_582 : decode cL_law 582 = .ok (.iadd, 1) := by decide +kernel
theorem dL_law_583 : decode cL_law 583 = .ok (.iaload, 1) := by decide +kernel
theorem dL_law_584 : decode cL_law 584 = .ok (.aload_n 0, 1) := by decide +kernel
theorem dL_law_585 : decode cL_law 585 = .ok (.iload_n 3, 1) := by decide +kernel
theorem dL_law_586 : decode cL_law 586 = .ok (.iconst 2, 1) := by decide +kernel
theorem dL_law_587 : decode cL_law 587 = .ok (.iadd, 1) := by decide +kernel
theorem dL_law_588 : decode cL_law 588 = .ok (.iaload, 1) := by decide +kernel
theorem dL_law_589 : decode cL_law 589 = .ok (.invokevirtual 94, 3) := by decide +kernel
theorem dL_law_592 : decode cL_law 592 = .ok (.if_icmp .eq 163, 3) := by decide +kernel
theorem dL_law_595 : decode cL_law 595 = .ok (.iconst 0, 1) := by decide +kernel
theorem dL_law_596 : decode cL_law 596 = .ok (.ireturn, 1) := by decide +kernel
theorem dL_law_597 : decode cL_law 597 = .ok (.aload_n 1, 1) := by decide +kernel
theorem dL_law_598 : decode cL_law 598 = .ok (.aload_n 0, 1) := by decide +kernel
theorem dL_law_599 : decode cL_law 599 = .ok (.iload_n 3, 1) := by decide +kernel
theorem dL_law_600 : decode cL_law 600 = .ok (.iconst 1, 1) := by decide +kernel
theorem dL_law_601 : decode cL_law 601 = .ok (.iadd, 1) := by decide +kernel
theorem dL_law_602 : decode cL_law 602 = .ok (.iaload, 1) := by decide +kernel
theorem dL_law_603 : decode cL_law 603 = .ok (.aload_n 0, 1) := by decide +kernel
theorem dL_law_604 : decode cL_law 604 = .ok (.iload_n 3, 1) := by decide +kernel
theorem dL_law_605 : decode cL_law 605 = .ok (.iconst 2, 1) := by decide +kernel
theorem dL_law_606 : decode cL_law 606 = .ok (.iadd, 1) := by decide +kernel
theorem dL_law_607 : decode cL_law 607 = .ok (.iaload, 1) := by decide +kernel
theorem dL_law_608 : decode cL_law 608 = .ok (.invokevirtual 95, 3) := by decide +kernel
theorem dL_law_611 : decode cL_law 611 = .ok (.aload_n 2, 1) := by decide +kernel
theorem dL_law_612 : decode cL_law 612 = .ok (.aload_n 0, 1) := by decide +kernel
theorem dL_law_613 : decode cL_law 613 = .ok (.iload_n 3, 1) := by decide +kernel
theorem dL_law_614 : decode cL_law 614 = .ok (.iconst 1, 1) := by decide +kernel
theorem dL_law_615 : decode cL_law 615 = .ok (.iadd, 1) := by decide +kernel
theorem dL_law_616 : decode cL_law 616 = .ok (.iaload, 1) := by decide +kernel
theorem dL_law_617 : decode cL_law 617 = .ok (.aload_n 0, 1) := by decide +kernel
theorem dL_law_618 : decode cL_law 618 = .ok (.iload_n 3, 1) := by decide +kernel
theorem dL_law_619 : decode cL_law 619 = .ok (.iconst 2, 1) := by decide +kernel
theorem dL_law_620 : decode cL_law 620 = .ok (.iadd, 1) := by decide +kernel
theorem dL_law_621 : decode cL_law 621 = .ok (.iaload, 1) := by decide +kernel
theorem dL_law_622 : decode cL_law 622 = .ok (.invokevirtual 98, 3) := by decide +kernel
theorem dL_law_625 : decode cL_law 625 = .ok (.if_icmp .eq 130, 3) := by decide +kernel
theorem dL_law_628 : decode cL_law 628 = .ok (.iconst 0, 1) := by decide +kernel
theorem dL_law_629 : decode cL_law 629 = .ok (.ireturn, 1) := by decide +kernel
theorem dL_law_630 : decode cL_law 630 = .ok (.aload_n 1, 1) := by decide +kernel
theorem dL_law_631 : decode cL_law 631 = .ok (.aload_n 0, 1) := by decide +kernel
theorem dL_law_632 : decode cL_law 632 = .ok (.iload_n 3, 1) := by decide +kernel
theorem dL_law_633 : decode cL_law 633 = .ok (.iconst 1, 1) := by decide +kernel
theorem dL_law_634 : decode cL_law 634 = .ok (.iadd, 1) := by decide +kernel
theorem dL_law_635 : decode cL_law 635 = .ok (.iaload, 1) := by decide +kernel
theorem dL_law_636 : decode cL_law 636 = .ok (.aload_n 0, 1) := by decide +kernel
theorem dL_law_637 : decode cL_law 637 = .ok (.iload_n 3, 1) := by decide +kernel
theorem dL_law_638 : decode cL_law 638 = .ok (.iconst 2, 1) := by decide +kernel
theorem dL_law_639 : decode cL_law 639 = .ok (.iadd, 1) := by decide +kernel
theorem dL_law_640 : decode cL_law 640 = .ok (.iaload, 1) := by decide +kernel
theorem dL_law_641 : decode cL_law 641 = .ok (.invokevirtual 99, 3) := by decide +kernel
theorem dL_law_644 : decode cL_law 644 = .ok (.aload_n 2, 1) := by decide +kernel
theorem dL_law_645 : decode cL_law 645 = .ok (.aload_n 0, 1) := by decide +kernel
theorem dL_law_646 : decode cL_law 646 = .ok (.iload_n 3, 1) := by decide +kernel
theorem dL_law_647 : decode cL_law 647 = .ok (.iconst 1, 1) := by decide +kernel
theorem dL_law_648 : decode cL_law 648 = .ok (.iadd, 1) := by decide +kernel
theorem dL_law_649 : decode cL_law 649 = .ok (.iaload, 1) := by decide +kernel
theorem dL_law_650 : decode cL_law 650 = .ok (.aload_n 0, 1) := by decide +kernel
theorem dL_law_651 : decode cL_law 651 = .ok (.iload_n 3, 1) := by decide +kernel
theorem dL_law_652 : decode cL_law 652 = .ok (.iconst 2, 1) := by decide +kernel
theorem dL_law_653 : decode cL_law 653 = .ok (.iadd, 1) := by decide +kernel
theorem dL_law_654 : decode cL_law 654 = .ok (.iaload, 1) := by decide +kernel
theorem dL_law_655 : decode cL_law 655 = .ok (.invokevirtual 102, 3) := by decide +kernel
theorem dL_law_658 : decode cL_law 658 = .ok (.if_icmp .eq 97, 3) := by decide +kernel
theorem dL_law_661 : decode cL_law 661 = .ok (.iconst 0, 1) := by decide +kernel
theorem dL_law_662 : decode cL_law 662 = .ok (.ireturn, 1) := by decide +kernel
theorem dL_law_663 : decode cL_law 663 = .ok (.aload_n 1, 1) := by decide +kernel
theorem dL_law_664 : decode cL_law 664 = .ok (.aload_n 0, 1) := by decide +kernel
theorem dL_law_665 : decode cL_law 665 = .ok (.iload_n 3, 1) := by decide +kernel
theorem dL_law_666 : decode cL_law 666 = .ok (.iconst 1, 1) := by decide +kernel
theorem dL_law_667 : decode cL_law 667 = .ok (.iadd, 1) := by decide +kernel
theorem dL_law_668 : decode cL_law 668 = .ok (.iaload, 1) := by decide +kernel
theorem dL_law_669 : decode cL_law 669 = .ok (.invokevirtual 103, 3) := by decide +kernel
theorem dL_law_672 : decode cL_law 672 = .ok (.aload_n 2, 1) := by decide +kernel
theorem dL_law_673 : decode cL_law 673 = .ok (.aload_n 0, 1) := by decide +kernel
theorem dL_law_674 : decode cL_law 674 = .ok (.iload_n 3, 1) := by decide +kernel
theorem dL_law_675 : decode cL_law 675 = .ok (.iconst 1, 1) := by decide +kernel
theorem dL_law_676 : decode cL_law 676 = .ok (.iadd, 1) := by decide +kernel
theorem dL_law_677 : decode cL_law 677 = .ok (.iaload, 1) := by decide +kernel
theorem dL_law_678 : decode cL_law 678 = .ok (.invokevirtual 106, 3) := by decide +kernel
theorem dL_law_681 : decode cL_law 681 = .ok (.if_icmp .eq 74, 3) := by decide +kernel
theorem dL_law_684 : decode cL_law 684 = .ok (.iconst 0, 1) := by decide +kernel
theorem dL_law_685 : decode cL_law 685 = .ok (.ireturn, 1) := by decide +kernel
theorem dL_law_686 : decode cL_law 686 = .ok (.aload_n 1, 1) := by decide +kernel
theorem dL_law_687 : decode cL_law 687 = .ok (.aload_n 0, 1) := by decide +kernel
theorem dL_law_688 : decode cL_law 688 = .ok (.iload_n 3, 1) := by decide +kernel
theorem dL_law_689 : decode cL_law 689 = .ok (.iconst 1, 1) := by decide +kernel
theorem dL_law_690 : decode cL_law 690 = .ok (.iadd, 1) := by decide +kernel
theorem dL_law_691 : decode cL_law 691 = .ok (.iaload, 1) := by decide +kernel
theorem dL_law_692 : decode cL_law 692 = .ok (.invokevirtual 107, 3) := by decide +kernel
theorem dL_law_695 : decode cL_law 695 = .ok (.aload_n 2, 1) := by decide +kernel
theorem dL_law_696 : decode cL_law 696 = .ok (.aload_n 0, 1) := by decide +kernel
theorem dL_law_697 : decode cL_law 697 = .ok (.iload_n 3, 1) := by decide +kernel
theorem dL_law_698 : decode cL_law 698 = .ok (.iconst 1, 1) := by decide +kernel
theorem dL_law_699 : decode cL_law 699 = .ok (.iadd, 1) := by decide +kernel
theorem dL_law_700 : decode cL_law 700 = .ok (.iaload, 1) := by decide +kernel
theorem dL_law_701 : decode cL_law 701 = .ok (.invokevirtual 110, 3) := by decide +kernel
theorem dL_law_704 : decode cL_law 704 = .ok (.if_icmp .eq 51, 3) := by decide +kernel
theorem dL_law_707 : decode cL_law 707 = .ok (.iconst 0, 1) := by decide +kernel
theorem dL_law_708 : decode cL_law 708 = .ok (.ireturn, 1) := by decide +kernel
theorem dL_law_709 : decode cL_law 709 = .ok (.aload_n 1, 1) := by decide +kernel
theorem dL_law_710 : decode cL_law 710 = .ok (.aload_n 0, 1) := by decide +kernel
theorem dL_law_711 : decode cL_law 711 = .ok (.iload_n 3, 1) := by decide +kernel
theorem dL_law_712 : decode cL_law 712 = .ok (.iconst 1, 1) := by decide +kernel
theorem dL_law_713 : decode cL_law 713 = .ok (.iadd, 1) := by decide +kernel
theorem dL_law_714 : decode cL_law 714 = .ok (.iaload, 1) := by decide +kernel
theorem dL_law_715 : decode cL_law 715 = .ok (.invokevirtual 111, 3) := by decide +kernel
theorem dL_law_718 : decode cL_law 718 = .ok (.aload_n 2, 1) := by decide +kernel
theorem dL_law_719 : decode cL_law 719 = .ok (.aload_n 0, 1) := by decide +kernel
theorem dL_law_720 : decode cL_law 720 = .ok (.iload_n 3, 1) := by decide +kernel
theorem dL_law_721 : decode cL_law 721 = .ok (.iconst 1, 1) := by decide +kernel
theorem dL_law_722 : decode cL_law 722 = .ok (.iadd, 1) := by decide +kernel
theorem dL_law_723 : decode cL_law 723 = .ok (.iaload, 1) := by decide +kernel
theorem dL_law_724 : decode cL_law 724 = .ok (.invokevirtual 114, 3) := by decide +kernel
theorem dL_law_727 : decode cL_law 727 = .ok (.if_icmp .eq 28, 3) := by decide +kernel
theorem dL_law_730 : decode cL_law 730 = .ok (.iconst 0, 1) := by decide +kernel
theorem dL_law_731 : decode cL_law 731 = .ok (.ireturn, 1) := by decide +kernel
theorem dL_law_732 : decode cL_law 732 = .ok (.aload_n 1, 1) := by decide +kernel
theorem dL_law_733 : decode cL_law 733 = .ok (.aload_n 0, 1) := by decide +kernel
theorem dL_law_734 : decode cL_law 734 = .ok (.iload_n 3, 1) := by decide +kernel
theorem dL_law_735 : decode cL_law 735 = .ok (.iconst 1, 1) := by decide +kernel
theorem dL_law_736 : decode cL_law 736 = .ok (.iadd, 1) := by decide +kernel
theorem dL_law_737 : decode cL_law 737 = .ok (.iaload, 1) := by decide +kernel
theorem dL_law_738 : decode cL_law 738 = .ok (.invokevirtual 115, 3) := by decide +kernel
theorem dL_law_741 : decode cL_law 741 = .ok (.aload_n 2, 1) := by decide +kernel
theorem dL_law_742 : decode cL_law 742 = .ok (.aload_n 0, 1) := by decide +kernel
theorem dL_law_743 : decode cL_law 743 = .ok (.iload_n 3, 1) := by decide +kernel
theorem dL_law_744 : decode cL_law 744 = .ok (.iconst 1, 1) := by decide +kernel
theorem dL_law_745 : decode cL_law 745 = .ok (.iadd, 1) := by decide +kernel
theorem dL_law_746 : decode cL_law 746 = .ok (.iaload, 1) := by decide +kernel
theorem dL_law_747 : decode cL_law 747 = .ok (.invokevirtual 118, 3) := by decide +kernel
theorem dL_law_750 : decode cL_law 750 = .ok (.if_icmp .eq 5, 3) := by decide +kernel
theorem dL_law_753 : decode cL_law 753 = .ok (.iconst 0, 1) := by decide +kernel
theorem dL_law_754 : decode cL_law 754 = .ok (.ireturn, 1) := by decide +kernel
theorem dL_law_755 : decode cL_law 755 = .ok (.iinc 3 5, 3) := by decide +kernel
theorem dL_law_758 : decode cL_law 758 = .ok (.goto (-740), 3) := by decide +kernel
theorem dL_law_761 : decode cL_law 761 = .ok (.iconst 1, 1) := by decide +kernel
theorem dL_law_762 : decode cL_law 762 = .ok (.ireturn, 1) := by decide +kernel

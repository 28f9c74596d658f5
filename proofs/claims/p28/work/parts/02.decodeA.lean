theorem dX0_init_0 : decode cX0_init 0 = .ok (.aload_n 0, 1) := by decide +kernel
theorem dX0_init_1 : decode cX0_init 1 = .ok (.invokespecial 3, 3) := by decide +kernel
theorem dX0_init_4 : decode cX0_init 4 = .ok (.aload_n 0, 1) := by decide +kernel
theorem dX0_init_5 : decode cX0_init 5 = .ok (.bipush 16, 2) := by decide +kernel
theorem dX0_init_7 : decode cX0_init 7 = .ok (.newarray .int, 2) := by decide +kernel
theorem dX0_init_9 : decode cX0_init 9 = .ok (.putfield 9, 3) := by decide +kernel
theorem dX0_init_12 : decode cX0_init 12 = .ok (.return_, 1) := by decide +kernel
theorem dX0_copyFrom_0 : decode cX0_copyFrom 0 = .ok (.aload_n 1, 1) := by decide +kernel
theorem dX0_copyFrom_1 : decode cX0_copyFrom 1 = .ok (.getfield 9, 3) := by decide +kernel
theorem dX0_copyFrom_4 : decode cX0_copyFrom 4 = .ok (.iconst 0, 1) := by decide +kernel
theorem dX0_copyFrom_5 : decode cX0_copyFrom 5 = .ok (.aload_n 0, 1) := by decide +kernel
theorem dX0_copyFrom_6 : decode cX0_copyFrom 6 = .ok (.getfield 9, 3) := by decide +kernel
theorem dX0_copyFrom_9 : decode cX0_copyFrom 9 = .ok (.iconst 0, 1) := by decide +kernel
theorem dX0_copyFrom_10 : decode cX0_copyFrom 10 = .ok (.bipush 16, 2) := by decide +kernel
theorem dX0_copyFrom_12 : decode cX0_copyFrom 12 = .ok (.invokestatic 15, 3) := by decide +kernel
theorem dX0_copyFrom_15 : decode cX0_copyFrom 15 = .ok (.aload_n 0, 1) := by decide +kernel
theorem dX0_copyFrom_16 : decode cX0_copyFrom 16 = .ok (.aload_n 1, 1) := by decide +kernel
theorem dX0_copyFrom_17 : decode cX0_copyFrom 17 = .ok (.getfield 21, 3) := by decide +kernel
theorem dX0_copyFrom_20 : decode cX0_copyFrom 20 = .ok (.putfield 21, 3) := by decide +kernel
theorem dX0_copyFrom_23 : decode cX0_copyFrom 23 = .ok (.aload_n 0, 1) := by decide +kernel
theorem dX0_copyFrom_24 : decode cX0_copyFrom 24 = .ok (.aload_n 1, 1) := by decide +kernel
theorem dX0_copyFrom_25 : decode cX0_copyFrom 25 = .ok (.getfield 25, 3) := by decide +kernel
theorem dX0_copyFrom_28 : decode cX0_copyFrom 28 = .ok (.putfield 25, 3) := by decide +kernel
theorem dX0_copyFrom_31 : decode cX0_copyFrom 31 = .ok (.aload_n 0, 1) := by decide +kernel
theorem dX0_copyFrom_32 : decode cX0_copyFrom 32 = .ok (.aload_n 1, 1) := by decide +kernel
theorem dX0_copyFrom_33 : decode cX0_copyFrom 33 = .ok (.getfield 28, 3) := by decide +kernel
theorem dX0_copyFrom_36 : decode cX0_copyFrom 36 = .ok (.putfield 28, 3) := by decide +kernel
theorem dX0_copyFrom_39 : decode cX0_copyFrom 39 = .ok (.aload_n 0, 1) := by decide +kernel
theorem dX0_copyFrom_40 : decode cX0_copyFrom 40 = .ok (.aload_n 1, 1) := by decide +kernel
theorem dX0_copyFrom_41 : decode cX0_copyFrom 41 = .ok (.getfield 31, 3) := by decide +kernel
theorem dX0_copyFrom_44 : decode cX0_copyFrom 44 = .ok (.putfield 31, 3) := by decide +kernel
theorem dX0_copyFrom_47 : decode cX0_copyFrom 47 = .ok (.aload_n 0, 1) := by decide +kernel
theorem dX0_copyFrom_48 : decode cX0_copyFrom 48 = .ok (.aload_n 1, 1) := by decide +kernel
theorem dX0_copyFrom_49 : decode cX0_copyFrom 49 = .ok (.getfield 34, 3) := by decide +kernel
theorem dX0_copyFrom_52 : decode cX0_copyFrom 52 = .ok (.putfield 34, 3) := by decide +kernel
theorem dX0_copyFrom_55 : decode cX0_copyFrom 55 = .ok (.aload_n 0, 1) := by decide +kernel
theorem dX0_copyFrom_56 : decode cX0_copyFrom 56 = .ok (.aload_n 1, 1) := by decide +kernel
theorem dX0_copyFrom_57 : decode cX0_copyFrom 57 = .ok (.getfield 37, 3) := by decide +kernel
theorem dX0_copyFrom_60 : decode cX0_copyFrom 60 = .ok (.putfield 37, 3) := by decide +kernel
theorem dX0_copyFrom_63 : decode cX0_copyFrom 63 = .ok (.aload_n 0, 1) := by decide +kernel
theorem dX0_copyFrom_64 : decode cX0_copyFrom 64 = .ok (.aload_n 1, 1) := by decide +kernel
theorem dX0_copyFrom_65 : decode cX0_copyFrom 65 = .ok (.getfield 40, 3) := by decide +kernel
theorem dX0_copyFrom_68 : decode cX0_copyFrom 68 = .ok (.putfield 40, 3) := by decide +kernel
theorem dX0_copyFrom_71 : decode cX0_copyFrom 71 = .ok (.aload_n 0, 1) := by decide +kernel
theorem dX0_copyFrom_72 : decode cX0_copyFrom 72 = .ok (.aload_n 1, 1) := by decide +kernel
theorem dX0_copyFrom_73 : decode cX0_copyFrom 73 = .ok (.getfield 43, 3) := by decide +kernel
theorem dX0_copyFrom_76 : decode cX0_copyFrom 76 = .ok (.putfield 43, 3) := by decide +kernel
theorem dX0_copyFrom_79 : decode cX0_copyFrom 79 = .ok (.return_, 1) := by decide +kernel
theorem dX0_copyFromText_0 : decode cX0_copyFromText 0 = .ok (.aload_n 1, 1) := by decide +kernel
theorem dX0_copyFromText_1 : decode cX0_copyFromText 1 = .ok (.getfield 46, 3) := by decide +kernel
theorem dX0_copyFromText_4 : decode cX0_copyFromText 4 = .ok (.iconst 0, 1) := by decide +kernel
theorem dX0_copyFromText_5 : decode cX0_copyFromText 5 = .ok (.aload_n 0, 1) := by decide +kernel
theorem dX0_copyFromText_6 : decode cX0_copyFromText 6 = .ok (.getfield 9, 3) := by decide +kernel
theorem dX0_copyFromText_9 : decode cX0_copyFromText 9 = .ok (.iconst 0, 1) := by decide +kernel
theorem dX0_copyFromText_10 : decode cX0_copyFromText 10 = .ok (.bipush 16, 2) := by decide +kernel
theorem dX0_copyFromText_12 : decode cX0_copyFromText 12 = .ok (.invokestatic 15, 3) := by decide +kernel
theorem dX0_copyFromText_15 : decode cX0_copyFromText 15 = .ok (.aload_n 0, 1) := by decide +kernel
theorem dX0_copyFromText_16 : decode cX0_copyFromText 16 = .ok (.aload_n 1, 1) := by decide +kernel
theorem dX0_copyFromText_17 : decode cX0_copyFromText 17 = .ok (.getfield 49, 3) := by decide +kernel
theorem dX0_copyFromText_20 : decode cX0_copyFromText 20 = .ok (.putfield 21, 3) := by decide +kernel
theorem dX0_copyFromText_23 : decode cX0_copyFromText 23 = .ok (.aload_n 0, 1) := by decide +kernel
theorem dX0_copyFromText_24 : decode cX0_copyFromText 24 = .ok (.aload_n 1, 1) := by decide +kernel
theorem dX0_copyFromText_25 : decode cX0_copyFromText 25 = .ok (.getfield 50, 3) := by decide +kernel
theorem dX0_copyFromText_28 : decode cX0_copyFromText 28 = .ok (.putfield 25, 3) := by decide +kernel
theorem dX0_copyFromText_31 : decode cX0_copyFromText 31 = .ok (.aload_n 0, 1) := by decide +kernel
theorem dX0_copyFromText_32 : decode cX0_copyFromText 32 = .ok (.aload_n 1, 1) := by decide +kernel
theorem dX0_copyFromText_33 : decode cX0_copyFromText 33 = .ok (.getfield 51, 3) := by decide +kernel
theorem dX0_copyFromText_36 : decode cX0_copyFromText 36 = .ok (.putfield 28, 3) := by decide +kernel
theorem dX0_copyFromText_39 : decode cX0_copyFromText 39 = .ok (.aload_n 0, 1) := by decide +kernel
theorem dX0_copyFromText_40 : decode cX0_copyFromText 40 = .ok (.aload_n 1, 1) := by decide +kernel
theorem dX0_copyFromText_41 : decode cX0_copyFromText 41 = .ok (.getfield 52, 3) := by decide +kernel
theorem dX0_copyFromText_44 : decode cX0_copyFromText 44 = .ok (.putfield 31, 3) := by decide +kernel
theorem dX0_copyFromText_47 : decode cX0_copyFromText 47 = .ok (.aload_n 0, 1) := by decide +kernel
theorem dX0_copyFromText_48 : decode cX0_copyFromText 48 = .ok (.iconst 0, 1) := by decide +kernel
theorem dX0_copyFromText_49 : decode cX0_copyFromText 49 = .ok (.invokevirtual 53, 3) := by decide +kernel
theorem dX0_copyFromText_52 : decode cX0_copyFromText 52 = .ok (.return_, 1) := by decide +kernel
theorem dX0_unread_0 : decode cX0_unread 0 = .ok (.aload_n 0, 1) := by decide +kernel
theorem dX0_unread_1 : decode cX0_unread 1 = .ok (.getfield 31, 3) := by decide +kernel
theorem dX0_unread_4 : decode cX0_unread 4 = .ok (.aload_n 0, 1) := by decide +kernel
theorem dX0_unread_5 : decode cX0_unread 5 = .ok (.getfield 34, 3) := by decide +kernel
theorem dX0_unread_8 : decode cX0_unread 8 = .ok (.isub, 1) := by decide +kernel
theorem dX0_unread_9 : decode cX0_unread 9 = .ok (.ireturn, 1) := by decide +kernel
theorem dX0_readRow_0 : decode cX0_readRow 0 = .ok (.aload_n 0, 1) := by decide +kernel
theorem dX0_readRow_1 : decode cX0_readRow 1 = .ok (.getfield 34, 3) := by decide +kernel
theorem dX0_readRow_4 : decode cX0_readRow 4 = .ok (.aload_n 0, 1) := by decide +kernel
theorem dX0_readRow_5 : decode cX0_readRow 5 = .ok (.getfield 31, 3) := by decide +kernel
theorem dX0_readRow_8 : decode cX0_readRow 8 = .ok (.if_icmp .lt 6, 3) := by decide +kernel
theorem dX0_readRow_11 : decode cX0_readRow 11 = .ok (.bipush (-5), 2) := by decide +kernel
theorem dX0_readRow_13 : decode cX0_readRow 13 = .ok (.ireturn, 1) := by decide +kernel
theorem dX0_readRow_14 : decode cX0_readRow 14 = .ok (.aload_n 0, 1) := by decide +kernel
theorem dX0_readRow_15 : decode cX0_readRow 15 = .ok (.getfield 9, 3) := by decide +kernel
theorem dX0_readRow_18 : decode cX0_readRow 18 = .ok (.aload_n 0, 1) := by decide +kernel
theorem dX0_readRow_19 : decode cX0_readRow 19 = .ok (.getfield 34, 3) := by decide +kernel
theorem dX0_readRow_22 : decode cX0_readRow 22 = .ok (.iaload, 1) := by decide +kernel
theorem dX0_readRow_23 : decode cX0_readRow 23 = .ok (.istore_n 1, 1) := by decide +kernel
theorem dX0_readRow_24 : decode cX0_readRow 24 = .ok (.aload_n 0, 1) := by decide +kernel
theorem dX0_readRow_25 : decode cX0_readRow 25 = .ok (.dup, 1) := by decide +kernel
theorem dX0_readRow_26 : decode cX0_readRow 26 = .ok (.getfield 34, 3) := by decide +kernel
theorem dX0_readRow_29 : decode cX0_readRow 29 = .ok (.iconst 1, 1) := by decide +kernel
theorem dX0_readRow_30 : decode cX0_readRow 30 = .ok (.iadd, 1) := by decide +kernel
theorem dX0_readRow_31 : decode cX0_readRow 31 = .ok (.putfield 34, 3) := by decide +kernel
theorem dX0_readRow_34 : decode cX0_readRow 34 = .ok (.aload_n 0, 1) := by decide +kernel
theorem dX0_readRow_35 : decode cX0_readRow 35 = .ok (.dup, 1) := by decide +kernel
theorem dX0_readRow_36 : decode cX0_readRow 36 = .ok (.getfield 37, 3) := by decide +kernel
theorem dX0_readRow_39 : decode cX0_readRow 39 = .ok (.iload_n 1, 1) := by decide +kernel
theorem dX0_readRow_40 : decode cX0_readRow 40 = .ok (.iadd, 1) := by decide +kernel
theorem dX0_readRow_41 : decode cX0_readRow 41 = .ok (.putfield 37, 3) := by decide +kernel
theorem dX0_readRow_44 : decode cX0_readRow 44 = .ok (.aload_n 0, 1) := by decide +kernel
theorem dX0_readRow_45 : decode cX0_readRow 45 = .ok (.aload_n 0, 1) := by decide +kernel
theorem dX0_readRow_46 : decode cX0_readRow 46 = .ok (.getfield 40, 3) := by decide +kernel
theorem dX0_readRow_49 : decode cX0_readRow 49 = .ok (.iload_n 1, 1) := by decide +kernel
theorem dX0_readRow_50 : decode cX0_readRow 50 = .ok (.invokestatic 61, 3) := by decide +kernel
theorem dX0_readRow_53 : decode cX0_readRow 53 = .ok (.putfield 40, 3) := by decide +kernel
theorem dX0_readRow_56 : decode cX0_readRow 56 = .ok (.aload_n 0, 1) := by decide +kernel
theorem dX0_readRow_57 : decode cX0_readRow 57 = .ok (.aload_n 0, 1) := by decide +kernel
theorem dX0_readRow_58 : decode cX0_readRow 58 = .ok (.getfield 43, 3) := by decide +kernel
theorem dX0_readRow_61 : decode cX0_readRow 61 = .ok (.iload_n 1, 1) := by decide +kernel
theorem dX0_readRow_62 : decode cX0_readRow 62 = .ok (.invokestatic 67, 3) := by decide +kernel
theorem dX0_readRow_65 : decode cX0_readRow 65 = .ok (.putfield 43, 3) := by decide +kernel
theorem dX0_readRow_68 : decode cX0_readRow 68 = .ok (.iload_n 1, 1) := by decide +kernel
theorem dX0_readRow_69 : decode cX0_readRow 69 = .ok (.ireturn, 1) := by decide +kernel
theorem dX0_readFirst_0 : decode cX0_readFirst 0 = .ok (.aload_n 0, 1) := by decide +kernel
theorem dX0_readFirst_1 : decode cX0_readFirst 1 = .ok (.iconst 0, 1) := by decide +kernel
theorem dX0_readFirst_2 : decode cX0_readFirst 2 = .ok (.putfield 34, 3) := by decide +kernel
theorem dX0_readFirst_5 : decode cX0_readFirst 5 = .ok (.aload_n 0, 1) := by decide +kernel
theorem dX0_readFirst_6 : decode cX0_readFirst 6 = .ok (.iconst 0, 1) := by decide +kernel
theorem dX0_readFirst_7 : decode cX0_readFirst 7 = .ok (.putfield 37, 3) := by decide +kernel
theorem dX0_readFirst_10 : decode cX0_readFirst 10 = .ok (.aload_n 0, 1) := by decide +kernel
theorem dX0_readFirst_11 : decode cX0_readFirst 11 = .ok (.sipush 999, 3) := by decide +kernel
theorem dX0_readFirst_14 : decode cX0_readFirst 14 = .ok (.putfield 40, 3) := by decide +kernel
theorem dX0_readFirst_17 : decode cX0_readFirst 17 = .ok (.aload_n 0, 1) := by decide +kernel
theorem dX0_readFirst_18 : decode cX0_readFirst 18 = .ok (.iconst 0, 1) := by decide +kernel
theorem dX0_readFirst_19 : decode cX0_readFirst 19 = .ok (.putfield 43, 3) := by decide +kernel
theorem dX0_readFirst_22 : decode cX0_readFirst 22 = .ok (.iconst 0, 1) := by decide +kernel
theorem dX0_readFirst_23 : decode cX0_readFirst 23 = .ok (.istore_n 2, 1) := by decide +kernel
theorem dX0_readFirst_24 : decode cX0_readFirst 24 = .ok (.iload_n 2, 1) := by decide +kernel
theorem dX0_readFirst_25 : decode cX0_readFirst 25 = .ok (.iload_n 1, 1) := by decide +kernel
theorem dX0_readFirst_26 : decode cX0_readFirst 26 = .ok (.if_icmp .ge 14, 3) := by decide +kernel
theorem dX0_readFirst_29 : decode cX0_readFirst 29 = .ok (.aload_n 0, 1) := by decide +kernel
theorem dX0_readFirst_30 : decode cX0_readFirst 30 = .ok (.invokevirtual 70, 3) := by decide +kernel
theorem dX0_readFirst_33 : decode cX0_readFirst 33 = .ok (.pop, 1) := by decide +kernel
theorem dX0_readFirst_34 : decode cX0_readFirst 34 = .ok (.iinc 2 1, 3) := by decide +kernel
theorem dX0_readFirst_37 : decode cX0_readFirst 37 = .ok (.goto (-13), 3) := by decide +kernel
theorem dX0_readFirst_40 : decode cX0_readFirst 40 = .ok (.return_, 1) := by decide +kernel
theorem dX0_readFromLimit_0 : decode cX0_readFromLimit 0 = .ok (.iconst 0, 1) := by decide +kernel
theorem dX0_readFromLimit_1 : decode cX0_readFromLimit 1 = .ok (.istore_n 2, 1) := by decide +kernel
theorem dX0_readFromLimit_2 : decode cX0_readFromLimit 2 = .ok (.iconst 0, 1) := by decide +kernel
theorem dX0_readFromLimit_3 : decode cX0_readFromLimit 3 = .ok (.istore_n 3, 1) := by decide +kernel
theorem dX0_readFromLimit_4 : decode cX0_readFromLimit 4 = .ok (.iload_n 3, 1) := by decide +kernel
theorem dX0_readFromLimit_5 : decode cX0_readFromLimit 5 = .ok (.aload_n 0, 1) := by decide +kernel
theorem dX0_readFromLimit_6 : decode cX0_readFromLimit 6 = .ok (.getfield 34, 3) := by decide +kernel
theorem dX0_readFromLimit_9 : decode cX0_readFromLimit 9 = .ok (.if_icmp .ge 22, 3) := by decide +kernel
theorem dX0_readFromLimit_12 : decode cX0_readFromLimit 12 = .ok (.aload_n 0, 1) := by decide +kernel
theorem dX0_readFromLimit_13 : decode cX0_readFromLimit 13 = .ok (.getfield 9, 3) := by decide +kernel
theorem dX0_readFromLimit_16 : decode cX0_readFromLimit 16 = .ok (.iload_n 3, 1) := by decide +kernel
theorem dX0_readFromLimit_17 : decode cX0_readFromLimit 17 = .ok (.iaload, 1) := by decide +kernel
theorem dX0_readFromLimit_18 : decode cX0_readFromLimit 18 = .ok (.iload_n 1, 1) := by decide +kernel
theorem dX0_readFromLimit_19 : decode cX0_readFromLimit 19 = .ok (.if_icmp .lt 6, 3) := by decide +kernel
theorem dX0_readFromLimit_22 : decode cX0_readFromLimit 22 = .ok (.iinc 2 1, 3) := by decide +kernel
theorem dX0_readFromLimit_25 : decode cX0_readFromLimit 25 = .ok (.iinc 3 1, 3) := by decide +kernel
theorem dX0_readFromLimit_28 : decode cX0_readFromLimit 28 = .ok (.goto (-24), 3) := by decide +kernel
theorem dX0_readFromLimit_31 : decode cX0_readFromLimit 31 = .ok (.iload_n 2, 1) := by decide +kernel
theorem dX0_readFromLimit_32 : decode cX0_readFromLimit 32 = .ok (.ireturn, 1) := by decide +kernel
theorem dX0_share_0 : decode cX0_share 0 = .ok (.aload_n 0, 1) := by decide +kernel
theorem dX0_share_1 : decode cX0_share 1 = .ok (.invokevirtual 74, 3) := by decide +kernel
theorem dX0_share_4 : decode cX0_share 4 = .ok (.istore 4, 2) := by decide +kernel
theorem dX0_share_6 : decode cX0_share 6 = .ok (.iload_n 1, 1) := by decide +kernel
theorem dX0_share_7 : decode cX0_share 7 = .ok (.tableswitch 85 1 3 #[25, 43, 64], 25) := by decide +kernel
theorem dX0_share_32 : decode cX0_share 32 = .ok (.aload_n 0, 1) := by decide +kernel
theorem dX0_share_33 : decode cX0_share 33 = .ok (.iload_n 2, 1) := by decide +kernel
theorem dX0_share_34 : decode cX0_share 34 = .ok (.invokevirtual 77, 3) := by decide +kernel
theorem dX0_share_37 : decode cX0_share 37 = .ok (.iload_n 3, 1) := by decide +kernel
theorem dX0_share_38 : decode cX0_share 38 = .ok (.iload_n 2, 1) := by decide +kernel
theorem dX0_share_39 : decode cX0_share 39 = .ok (.if_icmp .lt 8, 3) := by decide +kernel
theorem dX0_share_42 : decode cX0_share 42 = .ok (.iload 4, 2) := by decide +kernel
theorem dX0_share_44 : decode cX0_share 44 = .ok (.goto 4, 3) := by decide +kernel
theorem dX0_share_47 : decode cX0_share 47 = .ok (.iconst 0, 1) := by decide +kernel
theorem dX0_share_48 : decode cX0_share 48 = .ok (.iadd, 1) := by decide +kernel
theorem dX0_share_49 : decode cX0_share 49 = .ok (.ireturn, 1) := by decide +kernel
theorem dX0_share_50 : decode cX0_share 50 = .ok (.iload 4, 2) := by decide +kernel
theorem dX0_share_52 : decode cX0_share 52 = .ok (.ifCond .le 14, 3) := by decide +kernel
theorem dX0_share_55 : decode cX0_share 55 = .ok (.aload_n 0, 1) := by decide +kernel
theorem dX0_share_56 : decode cX0_share 56 = .ok (.getfield 40, 3) := by decide +kernel
theorem dX0_share_59 : decode cX0_share 59 = .ok (.iload_n 3, 1) := by decide +kernel
theorem dX0_share_60 : decode cX0_share 60 = .ok (.invokestatic 61, 3) := by decide +kernel
theorem dX0_share_63 : decode cX0_share 63 = .ok (.goto 7, 3) := by decide +kernel
theorem dX0_share_66 : decode cX0_share 66 = .ok (.aload_n 0, 1) := by decide +kernel
theorem dX0_share_67 : decode cX0_share 67 = .ok (.getfield 40, 3) := by decide +kernel
theorem dX0_share_70 : decode cX0_share 70 = .ok (.ireturn, 1) := by decide +kernel
theorem dX0_share_71 : decode cX0_share 71 = .ok (.iload 4, 2) := by decide +kernel
theorem dX0_share_73 : decode cX0_share 73 = .ok (.ifCond .le 14, 3) := by decide +kernel
theorem dX0_share_76 : decode cX0_share 76 = .ok (.aload_n 0, 1) := by decide +kernel
theorem dX0_share_77 : decode cX0_share 77 = .ok (.getfield 43, 3) := by decide +kernel
theorem dX0_share_80 : decode cX0_share 80 = .ok (.iload_n 3, 1) := by decide +kernel
theorem dX0_share_81 : decode cX0_share 81 = .ok (.invokestatic 67, 3) := by decide +kernel
theorem dX0_share_84 : decode cX0_share 84 = .ok (.goto 7, 3) := by decide +kernel
theorem dX0_share_87 : decode cX0_share 87 = .ok (.aload_n 0, 1) := by decide +kernel
theorem dX0_share_88 : decode cX0_share 88 = .ok (.getfield 43, 3) := by decide +kernel
theorem dX0_share_91 : decode cX0_share 91 = .ok (.ireturn, 1) := by decide +kernel
theorem dX0_share_92 : decode cX0_share 92 = .ok (.aload_n 0, 1) := by decide +kernel
theorem dX0_share_93 : decode cX0_share 93 = .ok (.getfield 37, 3) := by decide +kernel
theorem dX0_share_96 : decode cX0_share 96 = .ok (.iload 4, 2) := by decide +kernel
theorem dX0_share_98 : decode cX0_share 98 = .ok (.iload_n 3, 1) := by decide +kernel
theorem dX0_share_99 : decode cX0_share 99 = .ok (.imul, 1) := by decide +kernel
theorem dX0_share_100 : decode cX0_share 100 = .ok (.iadd, 1) := by decide +kernel
theorem dX0_share_101 : decode cX0_share 101 = .ok (.ireturn, 1) := by decide +kernel
theorem dX1_init_0 : decode cX1_init 0 = .ok (.aload_n 0, 1) := by decide +kernel
theorem dX1_init_1 : decode cX1_init 1 = .ok (.invokespecial 3, 3) := by decide +kernel
theorem dX1_init_4 : decode cX1_init 4 = .ok (.aload_n 0, 1) := by decide +kernel
theorem dX1_init_5 : decode cX1_init 5 = .ok (.bipush 80, 2) := by decide +kernel
theorem dX1_init_7 : decode cX1_init 7 = .ok (.newarray .char, 2) := by decide +kernel
theorem dX1_init_9 : decode cX1_init 9 = .ok (.putfield 9, 3) := by decide +kernel
theorem dX1_init_12 : decode cX1_init 12 = .ok (.aload_n 0, 1) := by decide +kernel
theorem dX1_init_13 : decode cX1_init 13 = .ok (.bipush 16, 2) := by decide +kernel
theorem dX1_init_15 : decode cX1_init 15 = .ok (.newarray .int, 2) := by decide +kernel
theorem dX1_init_17 : decode cX1_init 17 = .ok (.putfield 15, 3) := by decide +kernel
theorem dX1_init_20 : decode cX1_init 20 = .ok (.return_, 1) := by decide +kernel
theorem dX1_append_0 : decode cX1_append 0 = .ok (.aload_n 0, 1) := by decide +kernel
theorem dX1_append_1 : decode cX1_append 1 = .ok (.getfield 19, 3) := by decide +kernel
theorem dX1_append_4 : decode cX1_append 4 = .ok (.bipush 80, 2) := by decide +kernel
theorem dX1_append_6 : decode cX1_append 6 = .ok (.if_icmp .ge 23, 3) := by decide +kernel
theorem dX1_append_9 : decode cX1_append 9 = .ok (.aload_n 0, 1) := by decide +kernel
theorem dX1_append_10 : decode cX1_append 10 = .ok (.getfield 9, 3) := by decide +kernel
theorem dX1_append_13 : decode cX1_append 13 = .ok (.aload_n 0, 1) := by decide +kernel
theorem dX1_append_14 : decode cX1_append 14 = .ok (.getfield 19, 3) := by decide +kernel
theorem dX1_append_17 : decode cX1_append 17 = .ok (.iload_n 1, 1) := by decide +kernel
theorem dX1_append_18 : decode cX1_append 18 = .ok (.castore, 1) := by decide +kernel
theorem dX1_append_19 : decode cX1_append 19 = .ok (.aload_n 0, 1) := by decide +kernel
theorem dX1_append_20 : decode cX1_append 20 = .ok (.dup, 1) := by decide +kernel
theorem dX1_append_21 : decode cX1_append 21 = .ok (.getfield 19, 3) := by decide +kernel
theorem dX1_append_24 : decode cX1_append 24 = .ok (.iconst 1, 1) := by decide +kernel
theorem dX1_append_25 : decode cX1_append 25 = .ok (.iadd, 1) := by decide +kernel
theorem dX1_append_26 : decode cX1_append 26 = .ok (.putfield 19, 3) := by decide +kernel
theorem dX1_append_29 : decode cX1_append 29 = .ok (.return_, 1) := by decide +kernel
theorem dX1_parse_0 : decode cX1_parse 0 = .ok (.aload_n 0, 1) := by decide +kernel
theorem dX1_parse_1 : decode cX1_parse 1 = .ok (.iconst 0, 1) := by decide +kernel
theorem dX1_parse_2 : decode cX1_parse 2 = .ok (.putfield 23, 3) := by decide +kernel
theorem dX1_parse_5 : decode cX1_parse 5 = .ok (.aload_n 0, 1) := by decide +kernel
theorem dX1_parse_6 : decode cX1_parse 6 = .ok (.aload_n 0, 1) := by decide +kernel
theorem dX1_parse_7 : decode cX1_parse 7 = .ok (.bipush 48, 2) := by decide +kernel
theorem dX1_parse_9 : decode cX1_parse 9 = .ok (.bipush 51, 2) := by decide +kernel
theorem dX1_parse_11 : decode cX1_parse 11 = .ok (.invokevirtual 26, 3) := by decide +kernel
theorem dX1_parse_14 : decode cX1_parse 14 = .ok (.putfield 30, 3) := by decide +kernel
theorem dX1_parse_17 : decode cX1_parse 17 = .ok (.aload_n 0, 1) := by decide +kernel
theorem dX1_parse_18 : decode cX1_parse 18 = .ok (.getfield 30, 3) := by decide +kernel
theorem dX1_parse_21 : decode cX1_parse 21 = .ok (.ifCond .lt 12, 3) := by decide +kernel
theorem dX1_parse_24 : decode cX1_parse 24 = .ok (.aload_n 0, 1) := by decide +kernel
theorem dX1_parse_25 : decode cX1_parse 25 = .ok (.bipush 58, 2) := by decide +kernel
theorem dX1_parse_27 : decode cX1_parse 27 = .ok (.invokevirtual 33, 3) := by decide +kernel
theorem dX1_parse_30 : decode cX1_parse 30 = .ok (.ifCond .ne 5, 3) := by decide +kernel
theorem dX1_parse_33 : decode cX1_parse 33 = .ok (.iconst 0, 1) := by decide +kernel
theorem dX1_parse_34 : decode cX1_parse 34 = .ok (.ireturn, 1) := by decide +kernel
theorem dX1_parse_35 : decode cX1_parse 35 = .ok (.aload_n 0, 1) := by decide +kernel
theorem dX1_parse_36 : decode cX1_parse 36 = .ok (.aload_n 0, 1) := by decide +kernel
theorem dX1_parse_37 : decode cX1_parse 37 = .ok (.invokevirtual 37, 3) := by decide +kernel
theorem dX1_parse_40 : decode cX1_parse 40 = .ok (.putfield 41, 3) := by decide +kernel
theorem dX1_parse_43 : decode cX1_parse 43 = .ok (.aload_n 0, 1) := by decide +kernel
theorem dX1_parse_44 : decode cX1_parse 44 = .ok (.getfield 41, 3) := by decide +kernel
theorem dX1_parse_47 : decode cX1_parse 47 = .ok (.ifCond .lt 12, 3) := by decide +kernel
theorem dX1_parse_50 : decode cX1_parse 50 = .ok (.aload_n 0, 1) := by decide +kernel
theorem dX1_parse_51 : decode cX1_parse 51 = .ok (.bipush 45, 2) := by decide +kernel
theorem dX1_parse_53 : decode cX1_parse 53 = .ok (.invokevirtual 33, 3) := by decide +kernel
theorem dX1_parse_56 : decode cX1_parse 56 = .ok (.ifCond .ne 5, 3) := by decide +kernel
theorem dX1_parse_59 : decode cX1_parse 59 = .ok (.iconst 0, 1) := by decide +kernel
theorem dX1_parse_60 : decode cX1_parse 60 = .ok (.ireturn, 1) := by decide +kernel
theorem dX1_parse_61 : decode cX1_parse 61 = .ok (.aload_n 0, 1) := by decide +kernel
theorem dX1_parse_62 : decode cX1_parse 62 = .ok (.aload_n 0, 1) := by decide +kernel
theorem dX1_parse_63 : decode cX1_parse 63 = .ok (.invokevirtual 37, 3) := by decide +kernel
theorem dX1_parse_66 : decode cX1_parse 66 = .ok (.putfield 44, 3) := by decide +kernel
theorem dX1_parse_69 : decode cX1_parse 69 = .ok (.aload_n 0, 1) := by decide +kernel
theorem dX1_parse_70 : decode cX1_parse 70 = .ok (.getfield 44, 3) := by decide +kernel
theorem dX1_parse_73 : decode cX1_parse 73 = .ok (.ifCond .lt 12, 3) := by decide +kernel
theorem dX1_parse_76 : decode cX1_parse 76 = .ok (.aload_n 0, 1) := by decide +kernel
theorem dX1_parse_77 : decode cX1_parse 77 = .ok (.bipush 61, 2) := by decide +kernel
theorem dX1_parse_79 : decode cX1_parse 79 = .ok (.invokevirtual 33, 3) := by decide +kernel
theorem dX1_parse_82 : decode cX1_parse 82 = .ok (.ifCond .ne 5, 3) := by decide +kernel
theorem dX1_parse_85 : decode cX1_parse 85 = .ok (.iconst 0, 1) := by decide +kernel
theorem dX1_parse_86 : decode cX1_parse 86 = .ok (.ireturn, 1) := by decide +kernel
theorem dX1_parse_87 : decode cX1_parse 87 = .ok (.aload_n 0, 1) := by decide +kernel
theorem dX1_parse_88 : decode cX1_parse 88 = .ok (.invokevirtual 47, 3) := by decide +kernel
theorem dX1_parse_91 : decode cX1_parse 91 = .ok (.ireturn, 1) := by decide +kernel
theorem dX1_takeValues_0 : decode cX1_takeValues 0 = .ok (.aload_n 0, 1) := by decide +kernel
theorem dX1_takeValues_1 : decode cX1_takeValues 1 = .ok (.iconst 0, 1) := by decide +kernel
theorem dX1_takeValues_2 : decode cX1_takeValues 2 = .ok (.putfield 51, 3) := by decide +kernel
theorem dX1_takeValues_5 : decode cX1_takeValues 5 = .ok (.iconst 0, 1) := by decide +kernel
theorem dX1_takeValues_6 : decode cX1_takeValues 6 = .ok (.istore_n 1, 1) := by decide +kernel
theorem dX1_takeValues_7 : decode cX1_takeValues 7 = .ok (.iload_n 1, 1) := by decide +kernel
theorem dX1_takeValues_8 : decode cX1_takeValues 8 = .ok (.bipush 16, 2) := by decide +kernel
theorem dX1_takeValues_10 : decode cX1_takeValues 10 = .ok (.if_icmp .ge 65, 3) := by decide +kernel
theorem dX1_takeValues_13 : decode cX1_takeValues 13 = .ok (.iload_n 1, 1) := by decide +kernel
theorem dX1_takeValues_14 : decode cX1_takeValues 14 = .ok (.ifCond .le 14, 3) := by decide +kernel
theorem dX1_takeValues_17 : decode cX1_takeValues 17 = .ok (.aload_n 0, 1) := by decide +kernel
theorem dX1_takeValues_18 : decode cX1_takeValues 18 = .ok (.bipush 44, 2) := by decide +kernel
theorem dX1_takeValues_20 : decode cX1_takeValues 20 = .ok (.invokevirtual 33, 3) := by decide +kernel
theorem dX1_takeValues_23 : decode cX1_takeValues 23 = .ok (.ifCond .ne 5, 3) := by decide +kernel
theorem dX1_takeValues_26 : decode cX1_takeValues 26 = .ok (.iconst 0, 1) := by decide +kernel
theorem dX1_takeValues_27 : decode cX1_takeValues 27 = .ok (.ireturn, 1) := by decide +kernel
theorem dX1_takeValues_28 : decode cX1_takeValues 28 = .ok (.aload_n 0, 1) := by decide +kernel
theorem dX1_takeValues_29 : decode cX1_takeValues 29 = .ok (.invokevirtual 37, 3) := by decide +kernel
theorem dX1_takeValues_32 : decode cX1_takeValues 32 = .ok (.istore_n 2, 1) := by decide +kernel
theorem dX1_takeValues_33 : decode cX1_takeValues 33 = .ok (.iload_n 2, 1) := by decide +kernel
theorem dX1_takeValues_34 : decode cX1_takeValues 34 = .ok (.ifCond .ge 5, 3) := by decide +kernel
theorem dX1_takeValues_37 : decode cX1_takeValues 37 = .ok (.iconst 0, 1) := by decide +kernel
theorem dX1_takeValues_38 : decode cX1_takeValues 38 = .ok (.ireturn, 1) := by decide +kernel
theorem dX1_takeValues_39 : decode cX1_takeValues 39 = .ok (.aload_n 0, 1) := by decide +kernel
theorem dX1_takeValues_40 : decode cX1_takeValues 40 = .ok (.getfield 15, 3) := by decide +kernel
theorem dX1_takeValues_43 : decode cX1_takeValues 43 = .ok (.iload_n 1, 1) := by decide +kernel
theorem dX1_takeValues_44 : decode cX1_takeValues 44 = .ok (.iload_n 2, 1) := by decide +kernel
theorem dX1_takeValues_45 : decode cX1_takeValues 45 = .ok (.iastore, 1) := by decide +kernel
theorem dX1_takeValues_46 : decode cX1_takeValues 46 = .ok (.aload_n 0, 1) := by decide +kernel
theorem dX1_takeValues_47 : decode cX1_takeValues 47 = .ok (.dup, 1) := by decide +kernel
theorem dX1_takeValues_48 : decode cX1_takeValues 48 = .ok (.getfield 51, 3) := by decide +kernel
theorem dX1_takeValues_51 : decode cX1_takeValues 51 = .ok (.iconst 1, 1) := by decide +kernel
theorem dX1_takeValues_52 : decode cX1_takeValues 52 = .ok (.iadd, 1) := by decide +kernel
theorem dX1_takeValues_53 : decode cX1_takeValues 53 = .ok (.putfield 51, 3) := by decide +kernel
theorem dX1_takeValues_56 : decode cX1_takeValues 56 = .ok (.aload_n 0, 1) := by decide +kernel
theorem dX1_takeValues_57 : decode cX1_takeValues 57 = .ok (.getfield 23, 3) := by decide +kernel
theorem dX1_takeValues_60 : decode cX1_takeValues 60 = .ok (.aload_n 0, 1) := by decide +kernel
theorem dX1_takeValues_61 : decode cX1_takeValues 61 = .ok (.getfield 19, 3) := by decide +kernel
theorem dX1_takeValues_64 : decode cX1_takeValues 64 = .ok (.if_icmp .lt 5, 3) := by decide +kernel
theorem dX1_takeValues_67 : decode cX1_takeValues 67 = .ok (.iconst 1, 1) := by decide +kernel
theorem dX1_takeValues_68 : decode cX1_takeValues 68 = .ok (.ireturn, 1) := by decide +kernel
theorem dX1_takeValues_69 : decode cX1_takeValues 69 = .ok (.iinc 1 1, 3) := by decide +kernel
theorem dX1_takeValues_72 : decode cX1_takeValues 72 = .ok (.goto (-65), 3) := by decide +kernel
theorem dX1_takeValues_75 : decode cX1_takeValues 75 = .ok (.iconst 0, 1) := by decide +kernel
theorem dX1_takeValues_76 : decode cX1_takeValues 76 = .ok (.ireturn, 1) := by decide +kernel
theorem dX1_takeSign_0 : decode cX1_takeSign 0 = .ok (.aload_n 0, 1) := by decide +kernel
theorem dX1_takeSign_1 : decode cX1_takeSign 1 = .ok (.getfield 23, 3) := by decide +kernel
theorem dX1_takeSign_4 : decode cX1_takeSign 4 = .ok (.aload_n 0, 1) := by decide +kernel
theorem dX1_takeSign_5 : decode cX1_takeSign 5 = .ok (.getfield 19, 3) := by decide +kernel
theorem dX1_takeSign_8 : decode cX1_takeSign 8 = .ok (.if_icmp .ge 16, 3) := by decide +kernel
theorem dX1_takeSign_11 : decode cX1_takeSign 11 = .ok (.aload_n 0, 1) := by decide +kernel
theorem dX1_takeSign_12 : decode cX1_takeSign 12 = .ok (.getfield 9, 3) := by decide +kernel
theorem dX1_takeSign_15 : decode cX1_takeSign 15 = .ok (.aload_n 0, 1) := by decide +kernel
theorem dX1_takeSign_16 : decode cX1_takeSign 16 = .ok (.getfield 23, 3) := by decide +kernel
theorem dX1_takeSign_19 : decode cX1_takeSign 19 = .ok (.caload, 1) := by decide +kernel
theorem dX1_takeSign_20 : decode cX1_takeSign 20 = .ok (.iload_n 1, 1) := by decide +kernel
theorem dX1_takeSign_21 : decode cX1_takeSign 21 = .ok (.if_icmp .eq 5, 3) := by decide +kernel
theorem dX1_takeSign_24 : decode cX1_takeSign 24 = .ok (.iconst 0, 1) := by decide +kernel
theorem dX1_takeSign_25 : decode cX1_takeSign 25 = .ok (.ireturn, 1) := by decide +kernel
theorem dX1_takeSign_26 : decode cX1_takeSign 26 = .ok (.aload_n 0, 1) := by decide +kernel
theorem dX1_takeSign_27 : decode cX1_takeSign 27 = .ok (.dup, 1) := by decide +kernel
theorem dX1_takeSign_28 : decode cX1_takeSign 28 = .ok (.getfield 23, 3) := by decide +kernel
theorem dX1_takeSign_31 : decode cX1_takeSign 31 = .ok (.iconst 1, 1) := by decide +kernel
theorem dX1_takeSign_32 : decode cX1_takeSign 32 = .ok (.iadd, 1) := by decide +kernel
theorem dX1_takeSign_33 : decode cX1_takeSign 33 = .ok (.putfield 23, 3) := by decide +kernel
theorem dX1_takeSign_36 : decode cX1_takeSign 36 = .ok (.iconst 1, 1) := by decide +kernel
theorem dX1_takeSign_37 : decode cX1_takeSign 37 = .ok (.ireturn, 1) := by decide +kernel
theorem dX1_takeDigit_0 : decode cX1_takeDigit 0 = .ok (.aload_n 0, 1) := by decide +kernel
theorem dX1_takeDigit_1 : decode cX1_takeDigit 1 = .ok (.getfield 23, 3) := by decide +kernel
theorem dX1_takeDigit_4 : decode cX1_takeDigit 4 = .ok (.aload_n 0, 1) := by decide +kernel
theorem dX1_takeDigit_5 : decode cX1_takeDigit 5 = .ok (.getfield 19, 3) := by decide +kernel
theorem dX1_takeDigit_8 : decode cX1_takeDigit 8 = .ok (.if_icmp .ge 29, 3) := by decide +kernel
theorem dX1_takeDigit_11 : decode cX1_takeDigit 11 = .ok (.aload_n 0, 1) := by decide +kernel
theorem dX1_takeDigit_12 : decode cX1_takeDigit 12 = .ok (.getfield 9, 3) := by decide +kernel
theorem dX1_takeDigit_15 : decode cX1_takeDigit 15 = .ok (.aload_n 0, 1) := by decide +kernel
theorem dX1_takeDigit_16 : decode cX1_takeDigit 16 = .ok (.getfield 23, 3) := by decide +kernel
theorem dX1_takeDigit_19 : decode cX1_takeDigit 19 = .ok (.caload, 1) := by decide +kernel
theorem dX1_takeDigit_20 : decode cX1_takeDigit 20 = .ok (.iload_n 1, 1) := by decide +kernel
theorem dX1_takeDigit_21 : decode cX1_takeDigit 21 = .ok (.if_icmp .lt 16, 3) := by decide +kernel
theorem dX1_takeDigit_24 : decode cX1_takeDigit 24 = .ok (.aload_n 0, 1) := by decide +kernel
theorem dX1_takeDigit_25 : decode cX1_takeDigit 25 = .ok (.getfield 9, 3) := by decide +kernel
theorem dX1_takeDigit_28 : decode cX1_takeDigit 28 = .ok (.aload_n 0, 1) := by decide +kernel
theorem dX1_takeDigit_29 : decode cX1_takeDigit 29 = .ok (.getfield 23, 3) := by decide +kernel
theorem dX1_takeDigit_32 : decode cX1_takeDigit 32 = .ok (.caload, 1) := by decide +kernel
theorem dX1_takeDigit_33 : decode cX1_takeDigit 33 = .ok (.iload_n 2, 1) := by decide +kernel
theorem dX1_takeDigit_34 : decode cX1_takeDigit 34 = .ok (.if_icmp .le 5, 3) := by decide +kernel
theorem dX1_takeDigit_37 : decode cX1_takeDigit 37 = .ok (.iconst (-1), 1) := by decide +kernel
theorem dX1_takeDigit_38 : decode cX1_takeDigit 38 = .ok (.ireturn, 1) := by decide +kernel
theorem dX1_takeDigit_39 : decode cX1_takeDigit 39 = .ok (.aload_n 0, 1) := by decide +kernel
theorem dX1_takeDigit_40 : decode cX1_takeDigit 40 = .ok (.getfield 9, 3) := by decide +kernel
theorem dX1_takeDigit_43 : decode cX1_takeDigit 43 = .ok (.aload_n 0, 1) := by decide +kernel
theorem dX1_takeDigit_44 : decode cX1_takeDigit 44 = .ok (.getfield 23, 3) := by decide +kernel
theorem dX1_takeDigit_47 : decode cX1_takeDigit 47 = .ok (.caload, 1) := by decide +kernel
theorem dX1_takeDigit_48 : decode cX1_takeDigit 48 = .ok (.bipush 48, 2) := by decide +kernel
theorem dX1_takeDigit_50 : decode cX1_takeDigit 50 = .ok (.isub, 1) := by decide +kernel
theorem dX1_takeDigit_51 : decode cX1_takeDigit 51 = .ok (.istore_n 3, 1) := by decide +kernel
theorem dX1_takeDigit_52 : decode cX1_takeDigit 52 = .ok (.aload_n 0, 1) := by decide +kernel
theorem dX1_takeDigit_53 : decode cX1_takeDigit 53 = .ok (.dup, 1) := by decide +kernel
theorem dX1_takeDigit_54 : decode cX1_takeDigit 54 = .ok (.getfield 23, 3) := by decide +kernel
theorem dX1_takeDigit_57 : decode cX1_takeDigit 57 = .ok (.iconst 1, 1) := by decide +kernel
theorem dX1_takeDigit_58 : decode cX1_takeDigit 58 = .ok (.iadd, 1) := by decide +kernel
theorem dX1_takeDigit_59 : decode cX1_takeDigit 59 = .ok (.putfield 23, 3) := by decide +kernel
theorem dX1_takeDigit_62 : decode cX1_takeDigit 62 = .ok (.iload_n 3, 1) := by decide +kernel
theorem dX1_takeDigit_63 : decode cX1_takeDigit 63 = .ok (.ireturn, 1) := by decide +kernel
theorem dX1_takeNumber_0 : decode cX1_takeNumber 0 = .ok (.aload_n 0, 1) := by decide +kernel
theorem dX1_takeNumber_1 : decode cX1_takeNumber 1 = .ok (.bipush 48, 2) := by decide +kernel
theorem dX1_takeNumber_3 : decode cX1_takeNumber 3 = .ok (.bipush 57, 2) := by decide +kernel
theorem dX1_takeNumber_5 : decode cX1_takeNumber 5 = .ok (.invokevirtual 26, 3) := by decide +kernel
theorem dX1_takeNumber_8 : decode cX1_takeNumber 8 = .ok (.istore_n 1, 1) := by decide +kernel
theorem dX1_takeNumber_9 : decode cX1_takeNumber 9 = .ok (.iconst 1, 1) := by decide +kernel
theorem dX1_takeNumber_10 : decode cX1_takeNumber 10 = .ok (.istore_n 2, 1) := by decide +kernel
theorem dX1_takeNumber_11 : decode cX1_takeNumber 11 = .ok (.iload_n 2, 1) := by decide +kernel
theorem dX1_takeNumber_12 : decode cX1_takeNumber 12 = .ok (.iconst 3, 1) := by decide +kernel
theorem dX1_takeNumber_13 : decode cX1_takeNumber 13 = .ok (.if_icmp .ge 35, 3) := by decide +kernel
theorem dX1_takeNumber_16 : decode cX1_takeNumber 16 = .ok (.iload_n 1, 1) := by decide +kernel
theorem dX1_takeNumber_17 : decode cX1_takeNumber 17 = .ok (.ifCond .le 31, 3) := by decide +kernel
theorem dX1_takeNumber_20 : decode cX1_takeNumber 20 = .ok (.aload_n 0, 1) := by decide +kernel
theorem dX1_takeNumber_21 : decode cX1_takeNumber 21 = .ok (.bipush 48, 2) := by decide +kernel
theorem dX1_takeNumber_23 : decode cX1_takeNumber 23 = .ok (.bipush 57, 2) := by decide +kernel
theorem dX1_takeNumber_25 : decode cX1_takeNumber 25 = .ok (.invokevirtual 26, 3) := by decide +kernel
theorem dX1_takeNumber_28 : decode cX1_takeNumber 28 = .ok (.istore_n 3, 1) := by decide +kernel
theorem dX1_takeNumber_29 : decode cX1_takeNumber 29 = .ok (.iload_n 3, 1) := by decide +kernel
theorem dX1_takeNumber_30 : decode cX1_takeNumber 30 = .ok (.ifCond .ge 5, 3) := by decide +kernel
theorem dX1_takeNumber_33 : decode cX1_takeNumber 33 = .ok (.iload_n 1, 1) := by decide +kernel
theorem dX1_takeNumber_34 : decode cX1_takeNumber 34 = .ok (.ireturn, 1) := by decide +kernel
theorem dX1_takeNumber_35 : decode cX1_takeNumber 35 = .ok (.bipush 10, 2) := by decide +kernel
theorem dX1_takeNumber_37 : decode cX1_takeNumber 37 = .ok (.iload_n 1, 1) := by decide +kernel
theorem dX1_takeNumber_38 : decode cX1_takeNumber 38 = .ok (.imul, 1) := by decide +kernel
theorem dX1_takeNumber_39 : decode cX1_takeNumber 39 = .ok (.iload_n 3, 1) := by decide +kernel
theorem dX1_takeNumber_40 : decode cX1_takeNumber 40 = .ok (.iadd, 1) := by decide +kernel
theorem dX1_takeNumber_41 : decode cX1_takeNumber 41 = .ok (.istore_n 1, 1) := by decide +kernel
theorem dX1_takeNumber_42 : decode cX1_takeNumber 42 = .ok (.iinc 2 1, 3) := by decide +kernel
theorem dX1_takeNumber_45 : decode cX1_takeNumber 45 = .ok (.goto (-34), 3) := by decide +kernel
theorem dX1_takeNumber_48 : decode cX1_takeNumber 48 = .ok (.iload_n 1, 1) := by decide +kernel
theorem dX1_takeNumber_49 : decode cX1_takeNumber 49 = .ok (.ireturn, 1) := by decide +kernel
theorem dX1_isInRange_0 : decode cX1_isInRange 0 = .ok (.aload_n 0, 1) := by decide +kernel
theorem dX1_isInRange_1 : decode cX1_isInRange 1 = .ok (.getfield 41, 3) := by decide +kernel
theorem dX1_isInRange_4 : decode cX1_isInRange 4 = .ok (.aload_n 0, 1) := by decide +kernel
theorem dX1_isInRange_5 : decode cX1_isInRange 5 = .ok (.getfield 44, 3) := by decide +kernel
theorem dX1_isInRange_8 : decode cX1_isInRange 8 = .ok (.if_icmp .le 5, 3) := by decide +kernel
theorem dX1_isInRange_11 : decode cX1_isInRange 11 = .ok (.iconst 0, 1) := by decide +kernel
theorem dX1_isInRange_12 : decode cX1_isInRange 12 = .ok (.ireturn, 1) := by decide +kernel
theorem dX1_isInRange_13 : decode cX1_isInRange 13 = .ok (.iconst 0, 1) := by decide +kernel
theorem dX1_isInRange_14 : decode cX1_isInRange 14 = .ok (.istore_n 1, 1) := by decide +kernel
theorem dX1_isInRange_15 : decode cX1_isInRange 15 = .ok (.iload_n 1, 1) := by decide +kernel
theorem dX1_isInRange_16 : decode cX1_isInRange 16 = .ok (.aload_n 0, 1) := by decide +kernel
theorem dX1_isInRange_17 : decode cX1_isInRange 17 = .ok (.getfield 51, 3) := by decide +kernel
theorem dX1_isInRange_20 : decode cX1_isInRange 20 = .ok (.if_icmp .ge 31, 3) := by decide +kernel
theorem dX1_isInRange_23 : decode cX1_isInRange 23 = .ok (.aload_n 0, 1) := by decide +kernel
theorem dX1_isInRange_24 : decode cX1_isInRange 24 = .ok (.getfield 15, 3) := by decide +kernel
theorem dX1_isInRange_27 : decode cX1_isInRange 27 = .ok (.iload_n 1, 1) := by decide +kernel
theorem dX1_isInRange_28 : decode cX1_isInRange 28 = .ok (.iaload, 1) := by decide +kernel
theorem dX1_isInRange_29 : decode cX1_isInRange 29 = .ok (.aload_n 0, 1) := by decide +kernel
theorem dX1_isInRange_30 : decode cX1_isInRange 30 = .ok (.getfield 41, 3) := by decide +kernel
theorem dX1_isInRange_33 : decode cX1_isInRange 33 = .ok (.aload_n 0, 1) := by decide +kernel
theorem dX1_isInRange_34 : decode cX1_isInRange 34 = .ok (.getfield 44, 3) := by decide +kernel
theorem dX1_isInRange_37 : decode cX1_isInRange 37 = .ok (.invokestatic 54, 3) := by decide +kernel
theorem dX1_isInRange_40 : decode cX1_isInRange 40 = .ok (.ifCond .ne 5, 3) := by decide +kernel
theorem dX1_isInRange_43 : decode cX1_isInRange 43 = .ok (.iconst 0, 1) := by decide +kernel
theorem dX1_isInRange_44 : decode cX1_isInRange 44 = .ok (.ireturn, 1) := by decide +kernel
theorem dX1_isInRange_45 : decode cX1_isInRange 45 = .ok (.iinc 1 1, 3) := by decide +kernel
theorem dX1_isInRange_48 : decode cX1_isInRange 48 = .ok (.goto (-33), 3) := by decide +kernel
theorem dX1_isInRange_51 : decode cX1_isInRange 51 = .ok (.iconst 1, 1) := by decide +kernel
theorem dX1_isInRange_52 : decode cX1_isInRange 52 = .ok (.ireturn, 1) := by decide +kernel
theorem dX2_init_0 : decode cX2_init 0 = .ok (.aload_n 0, 1) := by decide +kernel
theorem dX2_init_1 : decode cX2_init 1 = .ok (.invokespecial 3, 3) := by decide +kernel
theorem dX2_init_4 : decode cX2_init 4 = .ok (.aload_n 0, 1) := by decide +kernel
theorem dX2_init_5 : decode cX2_init 5 = .ok (.iconst 4, 1) := by decide +kernel
theorem dX2_init_6 : decode cX2_init 6 = .ok (.anewarray 9, 3) := by decide +kernel
theorem dX2_init_9 : decode cX2_init 9 = .ok (.putfield 11, 3) := by decide +kernel
theorem dX2_init_12 : decode cX2_init 12 = .ok (.iconst 0, 1) := by decide +kernel
theorem dX2_init_13 : decode cX2_init 13 = .ok (.istore_n 1, 1) := by decide +kernel
theorem dX2_init_14 : decode cX2_init 14 = .ok (.iload_n 1, 1) := by decide +kernel
theorem dX2_init_15 : decode cX2_init 15 = .ok (.iconst 4, 1) := by decide +kernel
theorem dX2_init_16 : decode cX2_init 16 = .ok (.if_icmp .ge 22, 3) := by decide +kernel
theorem dX2_init_19 : decode cX2_init 19 = .ok (.aload_n 0, 1) := by decide +kernel
theorem dX2_init_20 : decode cX2_init 20 = .ok (.getfield 11, 3) := by decide +kernel
theorem dX2_init_23 : decode cX2_init 23 = .ok (.iload_n 1, 1) := by decide +kernel
theorem dX2_init_24 : decode cX2_init 24 = .ok (.new 9, 3) := by decide +kernel
theorem dX2_init_27 : decode cX2_init 27 = .ok (.dup, 1) := by decide +kernel
theorem dX2_init_28 : decode cX2_init 28 = .ok (.invokespecial 17, 3) := by decide +kernel
theorem dX2_init_31 : decode cX2_init 31 = .ok (.aastore, 1) := by decide +kernel
theorem dX2_init_32 : decode cX2_init 32 = .ok (.iinc 1 1, 3) := by decide +kernel
theorem dX2_init_35 : decode cX2_init 35 = .ok (.goto (-21), 3) := by decide +kernel
theorem dX2_init_38 : decode cX2_init 38 = .ok (.return_, 1) := by decide +kernel
theorem dX2_record_0 : decode cX2_record 0 = .ok (.aload_n 0, 1) := by decide +kernel
theorem dX2_record_1 : decode cX2_record 1 = .ok (.getfield 11, 3) := by decide +kernel
theorem dX2_record_4 : decode cX2_record 4 = .ok (.aload_n 0, 1) := by decide +kernel
theorem dX2_record_5 : decode cX2_record 5 = .ok (.getfield 18, 3) := by decide +kernel
theorem dX2_record_8 : decode cX2_record 8 = .ok (.aload_n 0, 1) := by decide +kernel
theorem dX2_record_9 : decode cX2_record 9 = .ok (.getfield 22, 3) := by decide +kernel
theorem dX2_record_12 : decode cX2_record 12 = .ok (.iadd, 1) := by decide +kernel
theorem dX2_record_13 : decode cX2_record 13 = .ok (.iconst 4, 1) := by decide +kernel
theorem dX2_record_14 : decode cX2_record 14 = .ok (.irem, 1) := by decide +kernel
theorem dX2_record_15 : decode cX2_record 15 = .ok (.aaload, 1) := by decide +kernel
theorem dX2_record_16 : decode cX2_record 16 = .ok (.aload_n 1, 1) := by decide +kernel
theorem dX2_record_17 : decode cX2_record 17 = .ok (.invokevirtual 25, 3) := by decide +kernel
theorem dX2_record_20 : decode cX2_record 20 = .ok (.aload_n 0, 1) := by decide +kernel
theorem dX2_record_21 : decode cX2_record 21 = .ok (.getfield 22, 3) := by decide +kernel
theorem dX2_record_24 : decode cX2_record 24 = .ok (.iconst 4, 1) := by decide +kernel
theorem dX2_record_25 : decode cX2_record 25 = .ok (.if_icmp .ge 16, 3) := by decide +kernel
theorem dX2_record_28 : decode cX2_record 28 = .ok (.aload_n 0, 1) := by decide +kernel
theorem dX2_record_29 : decode cX2_record 29 = .ok (.dup, 1) := by decide +kernel
theorem dX2_record_30 : decode cX2_record 30 = .ok (.getfield 22, 3) := by decide +kernel
theorem dX2_record_33 : decode cX2_record 33 = .ok (.iconst 1, 1) := by decide +kernel
theorem dX2_record_34 : decode cX2_record 34 = .ok (.iadd, 1) := by decide +kernel
theorem dX2_record_35 : decode cX2_record 35 = .ok (.putfield 22, 3) := by decide +kernel
theorem dX2_record_38 : decode cX2_record 38 = .ok (.goto 15, 3) := by decide +kernel
theorem dX2_record_41 : decode cX2_record 41 = .ok (.aload_n 0, 1) := by decide +kernel
theorem dX2_record_42 : decode cX2_record 42 = .ok (.aload_n 0, 1) := by decide +kernel
theorem dX2_record_43 : decode cX2_record 43 = .ok (.getfield 18, 3) := by decide +kernel
theorem dX2_record_46 : decode cX2_record 46 = .ok (.iconst 1, 1) := by decide +kernel
theorem dX2_record_47 : decode cX2_record 47 = .ok (.iadd, 1) := by decide +kernel
theorem dX2_record_48 : decode cX2_record 48 = .ok (.iconst 4, 1) := by decide +kernel
theorem dX2_record_49 : decode cX2_record 49 = .ok (.irem, 1) := by decide +kernel
theorem dX2_record_50 : decode cX2_record 50 = .ok (.putfield 18, 3) := by decide +kernel
theorem dX2_record_53 : decode cX2_record 53 = .ok (.return_, 1) := by decide +kernel
theorem dX3_init_0 : decode cX3_init 0 = .ok (.aload_n 0, 1) := by decide +kernel
theorem dX3_init_1 : decode cX3_init 1 = .ok (.invokespecial 3, 3) := by decide +kernel
theorem dX3_init_4 : decode cX3_init 4 = .ok (.return_, 1) := by decide +kernel
theorem dX3_copyFrom_0 : decode cX3_copyFrom 0 = .ok (.aload_n 0, 1) := by decide +kernel
theorem dX3_copyFrom_1 : decode cX3_copyFrom 1 = .ok (.aload_n 1, 1) := by decide +kernel
theorem dX3_copyFrom_2 : decode cX3_copyFrom 2 = .ok (.getfield 9, 3) := by decide +kernel
theorem dX3_copyFrom_5 : decode cX3_copyFrom 5 = .ok (.putfield 9, 3) := by decide +kernel
theorem dX3_copyFrom_8 : decode cX3_copyFrom 8 = .ok (.aload_n 0, 1) := by decide +kernel
theorem dX3_copyFrom_9 : decode cX3_copyFrom 9 = .ok (.aload_n 1, 1) := by decide +kernel
theorem dX3_copyFrom_10 : decode cX3_copyFrom 10 = .ok (.getfield 15, 3) := by decide +kernel
theorem dX3_copyFrom_13 : decode cX3_copyFrom 13 = .ok (.putfield 15, 3) := by decide +kernel
theorem dX3_copyFrom_16 : decode cX3_copyFrom 16 = .ok (.aload_n 0, 1) := by decide +kernel
theorem dX3_copyFrom_17 : decode cX3_copyFrom 17 = .ok (.aload_n 1, 1) := by decide +kernel
theorem dX3_copyFrom_18 : decode cX3_copyFrom 18 = .ok (.getfield 18, 3) := by decide +kernel
theorem dX3_copyFrom_21 : decode cX3_copyFrom 21 = .ok (.putfield 18, 3) := by decide +kernel
theorem dX3_copyFrom_24 : decode cX3_copyFrom 24 = .ok (.aload_n 0, 1) := by decide +kernel
theorem dX3_copyFrom_25 : decode cX3_copyFrom 25 = .ok (.aload_n 1, 1) := by decide +kernel
theorem dX3_copyFrom_26 : decode cX3_copyFrom 26 = .ok (.getfield 21, 3) := by decide +kernel
theorem dX3_copyFrom_29 : decode cX3_copyFrom 29 = .ok (.putfield 21, 3) := by decide +kernel
theorem dX3_copyFrom_32 : decode cX3_copyFrom 32 = .ok (.aload_n 0, 1) := by decide +kernel
theorem dX3_copyFrom_33 : decode cX3_copyFrom 33 = .ok (.aload_n 1, 1) := by decide +kernel
theorem dX3_copyFrom_34 : decode cX3_copyFrom 34 = .ok (.getfield 24, 3) := by decide +kernel
theorem dX3_copyFrom_37 : decode cX3_copyFrom 37 = .ok (.putfield 24, 3) := by decide +kernel
theorem dX3_copyFrom_40 : decode cX3_copyFrom 40 = .ok (.aload_n 0, 1) := by decide +kernel
theorem dX3_copyFrom_41 : decode cX3_copyFrom 41 = .ok (.aload_n 1, 1) := by decide +kernel
theorem dX3_copyFrom_42 : decode cX3_copyFrom 42 = .ok (.getfield 28, 3) := by decide +kernel
theorem dX3_copyFrom_45 : decode cX3_copyFrom 45 = .ok (.putfield 28, 3) := by decide +kernel
theorem dX3_copyFrom_48 : decode cX3_copyFrom 48 = .ok (.aload_n 0, 1) := by decide +kernel
theorem dX3_copyFrom_49 : decode cX3_copyFrom 49 = .ok (.aload_n 1, 1) := by decide +kernel
theorem dX3_copyFrom_50 : decode cX3_copyFrom 50 = .ok (.getfield 31, 3) := by decide +kernel
theorem dX3_copyFrom_53 : decode cX3_copyFrom 53 = .ok (.putfield 31, 3) := by decide +kernel
theorem dX3_copyFrom_56 : decode cX3_copyFrom 56 = .ok (.aload_n 0, 1) := by decide +kernel
theorem dX3_copyFrom_57 : decode cX3_copyFrom 57 = .ok (.aload_n 1, 1) := by decide +kernel
theorem dX3_copyFrom_58 : decode cX3_copyFrom 58 = .ok (.getfield 34, 3) := by decide +kernel
theorem dX3_copyFrom_61 : decode cX3_copyFrom 61 = .ok (.putfield 34, 3) := by decide +kernel
theorem dX3_copyFrom_64 : decode cX3_copyFrom 64 = .ok (.return_, 1) := by decide +kernel
theorem dX3_finish_0 : decode cX3_finish 0 = .ok (.aload_n 0, 1) := by decide +kernel
theorem dX3_finish_1 : decode cX3_finish 1 = .ok (.iload_n 1, 1) := by decide +kernel
theorem dX3_finish_2 : decode cX3_finish 2 = .ok (.putfield 34, 3) := by decide +kernel
theorem dX3_finish_5 : decode cX3_finish 5 = .ok (.aload_n 0, 1) := by decide +kernel
theorem dX3_finish_6 : decode cX3_finish 6 = .ok (.iconst 1, 1) := by decide +kernel
theorem dX3_finish_7 : decode cX3_finish 7 = .ok (.putfield 24, 3) := by decide +kernel
theorem dX3_finish_10 : decode cX3_finish 10 = .ok (.return_, 1) := by decide +kernel
theorem dX3_urgency_0 : decode cX3_urgency 0 = .ok (.aload_n 0, 1) := by decide +kernel
theorem dX3_urgency_1 : decode cX3_urgency 1 = .ok (.getfield 9, 3) := by decide +kernel
theorem dX3_urgency_4 : decode cX3_urgency 4 = .ok (.tableswitch 93 1 3 #[28, 57, 75], 28) := by decide +kernel
theorem dX3_urgency_32 : decode cX3_urgency 32 = .ok (.aload_n 1, 1) := by decide +kernel
theorem dX3_urgency_33 : decode cX3_urgency 33 = .ok (.getfield 37, 3) := by decide +kernel
theorem dX3_urgency_36 : decode cX3_urgency 36 = .ok (.aload_n 0, 1) := by decide +kernel
theorem dX3_urgency_37 : decode cX3_urgency 37 = .ok (.getfield 18, 3) := by decide +kernel
theorem dX3_urgency_40 : decode cX3_urgency 40 = .ok (.if_icmp .ge 19, 3) := by decide +kernel
theorem dX3_urgency_43 : decode cX3_urgency 43 = .ok (.aload_n 1, 1) := by decide +kernel
theorem dX3_urgency_44 : decode cX3_urgency 44 = .ok (.getfield 42, 3) := by decide +kernel
theorem dX3_urgency_47 : decode cX3_urgency 47 = .ok (.aload_n 0, 1) := by decide +kernel
theorem dX3_urgency_48 : decode cX3_urgency 48 = .ok (.getfield 18, 3) := by decide +kernel
theorem dX3_urgency_51 : decode cX3_urgency 51 = .ok (.if_icmp .lt 8, 3) := by decide +kernel
theorem dX3_urgency_54 : decode cX3_urgency 54 = .ok (.bipush 100, 2) := by decide +kernel
theorem dX3_urgency_56 : decode cX3_urgency 56 = .ok (.goto 4, 3) := by decide +kernel
theorem dX3_urgency_59 : decode cX3_urgency 59 = .ok (.iconst 0, 1) := by decide +kernel
theorem dX3_urgency_60 : decode cX3_urgency 60 = .ok (.ireturn, 1) := by decide +kernel
theorem dX3_urgency_61 : decode cX3_urgency 61 = .ok (.aload_n 1, 1) := by decide +kernel
theorem dX3_urgency_62 : decode cX3_urgency 62 = .ok (.getfield 37, 3) := by decide +kernel
theorem dX3_urgency_65 : decode cX3_urgency 65 = .ok (.aload_n 0, 1) := by decide +kernel
theorem dX3_urgency_66 : decode cX3_urgency 66 = .ok (.getfield 31, 3) := by decide +kernel
theorem dX3_urgency_69 : decode cX3_urgency 69 = .ok (.if_icmp .ge 8, 3) := by decide +kernel
theorem dX3_urgency_72 : decode cX3_urgency 72 = .ok (.bipush 100, 2) := by decide +kernel
theorem dX3_urgency_74 : decode cX3_urgency 74 = .ok (.goto 4, 3) := by decide +kernel
theorem dX3_urgency_77 : decode cX3_urgency 77 = .ok (.iconst 0, 1) := by decide +kernel
theorem dX3_urgency_78 : decode cX3_urgency 78 = .ok (.ireturn, 1) := by decide +kernel
theorem dX3_urgency_79 : decode cX3_urgency 79 = .ok (.aload_n 1, 1) := by decide +kernel
theorem dX3_urgency_80 : decode cX3_urgency 80 = .ok (.getfield 42, 3) := by decide +kernel
theorem dX3_urgency_83 : decode cX3_urgency 83 = .ok (.aload_n 0, 1) := by decide +kernel
theorem dX3_urgency_84 : decode cX3_urgency 84 = .ok (.getfield 28, 3) := by decide +kernel
theorem dX3_urgency_87 : decode cX3_urgency 87 = .ok (.if_icmp .le 8, 3) := by decide +kernel
theorem dX3_urgency_90 : decode cX3_urgency 90 = .ok (.bipush 100, 2) := by decide +kernel
theorem dX3_urgency_92 : decode cX3_urgency 92 = .ok (.goto 4, 3) := by decide +kernel
theorem dX3_urgency_95 : decode cX3_urgency 95 = .ok (.iconst 0, 1) := by decide +kernel
theorem dX3_urgency_96 : decode cX3_urgency 96 = .ok (.ireturn, 1) := by decide +kernel
theorem dX3_urgency_97 : decode cX3_urgency 97 = .ok (.aload_n 1, 1) := by decide +kernel
theorem dX3_urgency_98 : decode cX3_urgency 98 = .ok (.getfield 42, 3) := by decide +kernel
theorem dX3_urgency_101 : decode cX3_urgency 101 = .ok (.aload_n 1, 1) := by decide +kernel
theorem dX3_urgency_102 : decode cX3_urgency 102 = .ok (.getfield 37, 3) := by decide +kernel
theorem dX3_urgency_105 : decode cX3_urgency 105 = .ok (.isub, 1) := by decide +kernel
theorem dX3_urgency_106 : decode cX3_urgency 106 = .ok (.ireturn, 1) := by decide +kernel
theorem dX4_init_0 : decode cX4_init 0 = .ok (.aload_n 0, 1) := by decide +kernel
theorem dX4_init_1 : decode cX4_init 1 = .ok (.invokespecial 3, 3) := by decide +kernel
theorem dX4_init_4 : decode cX4_init 4 = .ok (.aload_n 0, 1) := by decide +kernel
theorem dX4_init_5 : decode cX4_init 5 = .ok (.bipush 8, 2) := by decide +kernel
theorem dX4_init_7 : decode cX4_init 7 = .ok (.anewarray 9, 3) := by decide +kernel
theorem dX4_init_10 : decode cX4_init 10 = .ok (.putfield 11, 3) := by decide +kernel
theorem dX4_init_13 : decode cX4_init 13 = .ok (.aload_n 0, 1) := by decide +kernel
theorem dX4_init_14 : decode cX4_init 14 = .ok (.bipush 6, 2) := by decide +kernel
theorem dX4_init_16 : decode cX4_init 16 = .ok (.anewarray 17, 3) := by decide +kernel
theorem dX4_init_19 : decode cX4_init 19 = .ok (.putfield 19, 3) := by decide +kernel
theorem dX4_init_22 : decode cX4_init 22 = .ok (.iconst 0, 1) := by decide +kernel
theorem dX4_init_23 : decode cX4_init 23 = .ok (.istore_n 1, 1) := by decide +kernel
theorem dX4_init_24 : decode cX4_init 24 = .ok (.iload_n 1, 1) := by decide +kernel
theorem dX4_init_25 : decode cX4_init 25 = .ok (.bipush 8, 2) := by decide +kernel
theorem dX4_init_27 : decode cX4_init 27 = .ok (.if_icmp .ge 22, 3) := by decide +kernel
theorem dX4_init_30 : decode cX4_init 30 = .ok (.aload_n 0, 1) := by decide +kernel
theorem dX4_init_31 : decode cX4_init 31 = .ok (.getfield 11, 3) := by decide +kernel
theorem dX4_init_34 : decode cX4_init 34 = .ok (.iload_n 1, 1) := by decide +kernel
theorem dX4_init_35 : decode cX4_init 35 = .ok (.new 9, 3) := by decide +kernel
theorem dX4_init_38 : decode cX4_init 38 = .ok (.dup, 1) := by decide +kernel
theorem dX4_init_39 : decode cX4_init 39 = .ok (.invokespecial 23, 3) := by decide +kernel
theorem dX4_init_42 : decode cX4_init 42 = .ok (.aastore, 1) := by decide +kernel
theorem dX4_init_43 : decode cX4_init 43 = .ok (.iinc 1 1, 3) := by decide +kernel
theorem dX4_init_46 : decode cX4_init 46 = .ok (.goto (-22), 3) := by decide +kernel
theorem dX4_init_49 : decode cX4_init 49 = .ok (.iconst 0, 1) := by decide +kernel
theorem dX4_init_50 : decode cX4_init 50 = .ok (.istore_n 1, 1) := by decide +kernel
theorem dX4_init_51 : decode cX4_init 51 = .ok (.iload_n 1, 1) := by decide +kernel
theorem dX4_init_52 : decode cX4_init 52 = .ok (.bipush 6, 2) := by decide +kernel
theorem dX4_init_54 : decode cX4_init 54 = .ok (.if_icmp .ge 22, 3) := by decide +kernel
theorem dX4_init_57 : decode cX4_init 57 = .ok (.aload_n 0, 1) := by decide +kernel
theorem dX4_init_58 : decode cX4_init 58 = .ok (.getfield 19, 3) := by decide +kernel
theorem dX4_init_61 : decode cX4_init 61 = .ok (.iload_n 1, 1) := by decide +kernel
theorem dX4_init_62 : decode cX4_init 62 = .ok (.new 17, 3) := by decide +kernel
theorem dX4_init_65 : decode cX4_init 65 = .ok (.dup, 1) := by decide +kernel
theorem dX4_init_66 : decode cX4_init 66 = .ok (.invokespecial 24, 3) := by decide +kernel
theorem dX4_init_69 : decode cX4_init 69 = .ok (.aastore, 1) := by decide +kernel
theorem dX4_init_70 : decode cX4_init 70 = .ok (.iinc 1 1, 3) := by decide +kernel
theorem dX4_init_73 : decode cX4_init 73 = .ok (.goto (-22), 3) := by decide +kernel
theorem dX4_init_76 : decode cX4_init 76 = .ok (.return_, 1) := by decide +kernel
theorem dX4_copyFrom_0 : decode cX4_copyFrom 0 = .ok (.iconst 0, 1) := by decide +kernel
theorem dX4_copyFrom_1 : decode cX4_copyFrom 1 = .ok (.istore_n 2, 1) := by decide +kernel
theorem dX4_copyFrom_2 : decode cX4_copyFrom 2 = .ok (.iload_n 2, 1) := by decide +kernel
theorem dX4_copyFrom_3 : decode cX4_copyFrom 3 = .ok (.aload_n 1, 1) := by decide +kernel
theorem dX4_copyFrom_4 : decode cX4_copyFrom 4 = .ok (.getfield 25, 3) := by decide +kernel
theorem dX4_copyFrom_7 : decode cX4_copyFrom 7 = .ok (.if_icmp .ge 24, 3) := by decide +kernel
theorem dX4_copyFrom_10 : decode cX4_copyFrom 10 = .ok (.aload_n 0, 1) := by decide +kernel
theorem dX4_copyFrom_11 : decode cX4_copyFrom 11 = .ok (.getfield 11, 3) := by decide +kernel
theorem dX4_copyFrom_14 : decode cX4_copyFrom 14 = .ok (.iload_n 2, 1) := by decide +kernel
theorem dX4_copyFrom_15 : decode cX4_copyFrom 15 = .ok (.aaload, 1) := by decide +kernel
theorem dX4_copyFrom_16 : decode cX4_copyFrom 16 = .ok (.aload_n 1, 1) := by decide +kernel
theorem dX4_copyFrom_17 : decode cX4_copyFrom 17 = .ok (.getfield 11, 3) := by decide +kernel
theorem dX4_copyFrom_20 : decode cX4_copyFrom 20 = .ok (.iload_n 2, 1) := by decide +kernel
theorem dX4_copyFrom_21 : decode cX4_copyFrom 21 = .ok (.aaload, 1) := by decide +kernel
theorem dX4_copyFrom_22 : decode cX4_copyFrom 22 = .ok (.invokevirtual 29, 3) := by decide +kernel
theorem dX4_copyFrom_25 : decode cX4_copyFrom 25 = .ok (.iinc 2 1, 3) := by decide +kernel
theorem dX4_copyFrom_28 : decode cX4_copyFrom 28 = .ok (.goto (-26), 3) := by decide +kernel
theorem dX4_copyFrom_31 : decode cX4_copyFrom 31 = .ok (.iconst 0, 1) := by decide +kernel
theorem dX4_copyFrom_32 : decode cX4_copyFrom 32 = .ok (.istore_n 2, 1) := by decide +kernel
theorem dX4_copyFrom_33 : decode cX4_copyFrom 33 = .ok (.iload_n 2, 1) := by decide +kernel
theorem dX4_copyFrom_34 : decode cX4_copyFrom 34 = .ok (.aload_n 1, 1) := by decide +kernel
theorem dX4_copyFrom_35 : decode cX4_copyFrom 35 = .ok (.getfield 33, 3) := by decide +kernel
theorem dX4_copyFrom_38 : decode cX4_copyFrom 38 = .ok (.if_icmp .ge 24, 3) := by decide +kernel
theorem dX4_copyFrom_41 : decode cX4_copyFrom 41 = .ok (.aload_n 0, 1) := by decide +kernel
theorem dX4_copyFrom_42 : decode cX4_copyFrom 42 = .ok (.getfield 19, 3) := by decide +kernel
theorem dX4_copyFrom_45 : decode cX4_copyFrom 45 = .ok (.iload_n 2, 1) := by decide +kernel
theorem dX4_copyFrom_46 : decode cX4_copyFrom 46 = .ok (.aaload, 1) := by decide +kernel
theorem dX4_copyFrom_47 : decode cX4_copyFrom 47 = .ok (.aload_n 1, 1) := by decide +kernel
theorem dX4_copyFrom_48 : decode cX4_copyFrom 48 = .ok (.getfield 19, 3) := by decide +kernel
theorem dX4_copyFrom_51 : decode cX4_copyFrom 51 = .ok (.iload_n 2, 1) := by decide +kernel
theorem dX4_copyFrom_52 : decode cX4_copyFrom 52 = .ok (.aaload, 1) := by decide +kernel
theorem dX4_copyFrom_53 : decode cX4_copyFrom 53 = .ok (.invokevirtual 36, 3) := by decide +kernel
theorem dX4_copyFrom_56 : decode cX4_copyFrom 56 = .ok (.iinc 2 1, 3) := by decide +kernel
theorem dX4_copyFrom_59 : decode cX4_copyFrom 59 = .ok (.goto (-26), 3) := by decide +kernel
theorem dX4_copyFrom_62 : decode cX4_copyFrom 62 = .ok (.aload_n 0, 1) := by decide +kernel
theorem dX4_copyFrom_63 : decode cX4_copyFrom 63 = .ok (.aload_n 1, 1) := by decide +kernel
theorem dX4_copyFrom_64 : decode cX4_copyFrom 64 = .ok (.getfield 25, 3) := by decide +kernel
theorem dX4_copyFrom_67 : decode cX4_copyFrom 67 = .ok (.putfield 25, 3) := by decide +kernel
theorem dX4_copyFrom_70 : decode cX4_copyFrom 70 = .ok (.aload_n 0, 1) := by decide +kernel
theorem dX4_copyFrom_71 : decode cX4_copyFrom 71 = .ok (.aload_n 1, 1) := by decide +kernel
theorem dX4_copyFrom_72 : decode cX4_copyFrom 72 = .ok (.getfield 33, 3) := by decide +kernel
theorem dX4_copyFrom_75 : decode cX4_copyFrom 75 = .ok (.putfield 33, 3) := by decide +kernel
theorem dX4_copyFrom_78 : decode cX4_copyFrom 78 = .ok (.aload_n 0, 1) := by decide +kernel
theorem dX4_copyFrom_79 : decode cX4_copyFrom 79 = .ok (.aload_n 1, 1) := by decide +kernel
theorem dX4_copyFrom_80 : decode cX4_copyFrom 80 = .ok (.getfield 39, 3) := by decide +kernel
theorem dX4_copyFrom_83 : decode cX4_copyFrom 83 = .ok (.putfield 39, 3) := by decide +kernel
theorem dX4_copyFrom_86 : decode cX4_copyFrom 86 = .ok (.aload_n 0, 1) := by decide +kernel
theorem dX4_copyFrom_87 : decode cX4_copyFrom 87 = .ok (.aload_n 1, 1) := by decide +kernel
theorem dX4_copyFrom_88 : decode cX4_copyFrom 88 = .ok (.getfield 42, 3) := by decide +kernel
theorem dX4_copyFrom_91 : decode cX4_copyFrom 91 = .ok (.putfield 42, 3) := by decide +kernel
theorem dX4_copyFrom_94 : decode cX4_copyFrom 94 = .ok (.return_, 1) := by decide +kernel
theorem dX4_hasBlock_0 : decode cX4_hasBlock 0 = .ok (.iload_n 1, 1) := by decide +kernel
theorem dX4_hasBlock_1 : decode cX4_hasBlock 1 = .ok (.iconst 0, 1) := by decide +kernel
theorem dX4_hasBlock_2 : decode cX4_hasBlock 2 = .ok (.aload_n 0, 1) := by decide +kernel
theorem dX4_hasBlock_3 : decode cX4_hasBlock 3 = .ok (.getfield 25, 3) := by decide +kernel
theorem dX4_hasBlock_6 : decode cX4_hasBlock 6 = .ok (.iconst 1, 1) := by decide +kernel
theorem dX4_hasBlock_7 : decode cX4_hasBlock 7 = .ok (.isub, 1) := by decide +kernel
theorem dX4_hasBlock_8 : decode cX4_hasBlock 8 = .ok (.invokestatic 45, 3) := by decide +kernel
theorem dX4_hasBlock_11 : decode cX4_hasBlock 11 = .ok (.ireturn, 1) := by decide +kernel
theorem dX4_hasRow_0 : decode cX4_hasRow 0 = .ok (.aload_n 0, 1) := by decide +kernel
theorem dX4_hasRow_1 : decode cX4_hasRow 1 = .ok (.iload_n 1, 1) := by decide +kernel
theorem dX4_hasRow_2 : decode cX4_hasRow 2 = .ok (.invokevirtual 49, 3) := by decide +kernel
theorem dX4_hasRow_5 : decode cX4_hasRow 5 = .ok (.ifCond .eq 26, 3) := by decide +kernel
theorem dX4_hasRow_8 : decode cX4_hasRow 8 = .ok (.iload_n 2, 1) := by decide +kernel
theorem dX4_hasRow_9 : decode cX4_hasRow 9 = .ok (.iconst 0, 1) := by decide +kernel
theorem dX4_hasRow_10 : decode cX4_hasRow 10 = .ok (.aload_n 0, 1) := by decide +kernel
theorem dX4_hasRow_11 : decode cX4_hasRow 11 = .ok (.getfield 11, 3) := by decide +kernel
theorem dX4_hasRow_14 : decode cX4_hasRow 14 = .ok (.iload_n 1, 1) := by decide +kernel
theorem dX4_hasRow_15 : decode cX4_hasRow 15 = .ok (.aaload, 1) := by decide +kernel
theorem dX4_hasRow_16 : decode cX4_hasRow 16 = .ok (.getfield 53, 3) := by decide +kernel
theorem dX4_hasRow_19 : decode cX4_hasRow 19 = .ok (.iconst 1, 1) := by decide +kernel
theorem dX4_hasRow_20 : decode cX4_hasRow 20 = .ok (.isub, 1) := by decide +kernel
theorem dX4_hasRow_21 : decode cX4_hasRow 21 = .ok (.invokestatic 45, 3) := by decide +kernel
theorem dX4_hasRow_24 : decode cX4_hasRow 24 = .ok (.ifCond .eq 7, 3) := by decide +kernel
theorem dX4_hasRow_27 : decode cX4_hasRow 27 = .ok (.iconst 1, 1) := by decide +kernel
theorem dX4_hasRow_28 : decode cX4_hasRow 28 = .ok (.goto 4, 3) := by decide +kernel
theorem dX4_hasRow_31 : decode cX4_hasRow 31 = .ok (.iconst 0, 1) := by decide +kernel
theorem dX4_hasRow_32 : decode cX4_hasRow 32 = .ok (.ireturn, 1) := by decide +kernel
theorem dX4_hasQuestion_0 : decode cX4_hasQuestion 0 = .ok (.iload_n 1, 1) := by decide +kernel
theorem dX4_hasQuestion_1 : decode cX4_hasQuestion 1 = .ok (.iconst 0, 1) := by decide +kernel
theorem dX4_hasQuestion_2 : decode cX4_hasQuestion 2 = .ok (.aload_n 0, 1) := by decide +kernel
theorem dX4_hasQuestion_3 : decode cX4_hasQuestion 3 = .ok (.getfield 33, 3) := by decide +kernel
theorem dX4_hasQuestion_6 : decode cX4_hasQuestion 6 = .ok (.iconst 1, 1) := by decide +kernel
theorem dX4_hasQuestion_7 : decode cX4_hasQuestion 7 = .ok (.isub, 1) := by decide +kernel
theorem dX4_hasQuestion_8 : decode cX4_hasQuestion 8 = .ok (.invokestatic 45, 3) := by decide +kernel
theorem dX4_hasQuestion_11 : decode cX4_hasQuestion 11 = .ok (.ireturn, 1) := by decide +kernel
theorem dX4_appendBlock_0 : decode cX4_appendBlock 0 = .ok (.aload_n 0, 1) := by decide +kernel
theorem dX4_appendBlock_1 : decode cX4_appendBlock 1 = .ok (.getfield 25, 3) := by decide +kernel
theorem dX4_appendBlock_4 : decode cX4_appendBlock 4 = .ok (.bipush 8, 2) := by decide +kernel
theorem dX4_appendBlock_6 : decode cX4_appendBlock 6 = .ok (.if_icmp .lt 6, 3) := by decide +kernel
theorem dX4_appendBlock_9 : decode cX4_appendBlock 9 = .ok (.bipush (-3), 2) := by decide +kernel
theorem dX4_appendBlock_11 : decode cX4_appendBlock 11 = .ok (.ireturn, 1) := by decide +kernel
theorem dX4_appendBlock_12 : decode cX4_appendBlock 12 = .ok (.aload_n 0, 1) := by decide +kernel
theorem dX4_appendBlock_13 : decode cX4_appendBlock 13 = .ok (.getfield 11, 3) := by decide +kernel
theorem dX4_appendBlock_16 : decode cX4_appendBlock 16 = .ok (.aload_n 0, 1) := by decide +kernel
theorem dX4_appendBlock_17 : decode cX4_appendBlock 17 = .ok (.getfield 25, 3) := by decide +kernel
theorem dX4_appendBlock_20 : decode cX4_appendBlock 20 = .ok (.aaload, 1) := by decide +kernel
theorem dX4_appendBlock_21 : decode cX4_appendBlock 21 = .ok (.aload_n 1, 1) := by decide +kernel
theorem dX4_appendBlock_22 : decode cX4_appendBlock 22 = .ok (.invokevirtual 56, 3) := by decide +kernel
theorem dX4_appendBlock_25 : decode cX4_appendBlock 25 = .ok (.aload_n 0, 1) := by decide +kernel
theorem dX4_appendBlock_26 : decode cX4_appendBlock 26 = .ok (.dup, 1) := by decide +kernel
theorem dX4_appendBlock_27 : decode cX4_appendBlock 27 = .ok (.getfield 25, 3) := by decide +kernel
theorem dX4_appendBlock_30 : decode cX4_appendBlock 30 = .ok (.iconst 1, 1) := by decide +kernel
theorem dX4_appendBlock_31 : decode cX4_appendBlock 31 = .ok (.iadd, 1) := by decide +kernel
theorem dX4_appendBlock_32 : decode cX4_appendBlock 32 = .ok (.putfield 25, 3) := by decide +kernel
theorem dX4_appendBlock_35 : decode cX4_appendBlock 35 = .ok (.aload_n 0, 1) := by decide +kernel
theorem dX4_appendBlock_36 : decode cX4_appendBlock 36 = .ok (.getfield 25, 3) := by decide +kernel
theorem dX4_appendBlock_39 : decode cX4_appendBlock 39 = .ok (.iconst 1, 1) := by decide +kernel
theorem dX4_appendBlock_40 : decode cX4_appendBlock 40 = .ok (.isub, 1) := by decide +kernel
theorem dX4_appendBlock_41 : decode cX4_appendBlock 41 = .ok (.ireturn, 1) := by decide +kernel
theorem dX4_appendQuestion_0 : decode cX4_appendQuestion 0 = .ok (.aload_n 0, 1) := by decide +kernel
theorem dX4_appendQuestion_1 : decode cX4_appendQuestion 1 = .ok (.getfield 33, 3) := by decide +kernel
theorem dX4_appendQuestion_4 : decode cX4_appendQuestion 4 = .ok (.bipush 6, 2) := by decide +kernel
theorem dX4_appendQuestion_6 : decode cX4_appendQuestion 6 = .ok (.if_icmp .lt 6, 3) := by decide +kernel
theorem dX4_appendQuestion_9 : decode cX4_appendQuestion 9 = .ok (.bipush (-3), 2) := by decide +kernel
theorem dX4_appendQuestion_11 : decode cX4_appendQuestion 11 = .ok (.ireturn, 1) := by decide +kernel
theorem dX4_appendQuestion_12 : decode cX4_appendQuestion 12 = .ok (.aload_n 0, 1) := by decide +kernel
theorem dX4_appendQuestion_13 : decode cX4_appendQuestion 13 = .ok (.getfield 19, 3) := by decide +kernel
theorem dX4_appendQuestion_16 : decode cX4_appendQuestion 16 = .ok (.aload_n 0, 1) := by decide +kernel
theorem dX4_appendQuestion_17 : decode cX4_appendQuestion 17 = .ok (.getfield 33, 3) := by decide +kernel
theorem dX4_appendQuestion_20 : decode cX4_appendQuestion 20 = .ok (.aaload, 1) := by decide +kernel
theorem dX4_appendQuestion_21 : decode cX4_appendQuestion 21 = .ok (.astore 5, 2) := by decide +kernel
theorem dX4_appendQuestion_23 : decode cX4_appendQuestion 23 = .ok (.aload 5, 2) := by decide +kernel
theorem dX4_appendQuestion_25 : decode cX4_appendQuestion 25 = .ok (.iload_n 1, 1) := by decide +kernel
theorem dX4_appendQuestion_26 : decode cX4_appendQuestion 26 = .ok (.putfield 60, 3) := by decide +kernel
theorem dX4_appendQuestion_29 : decode cX4_appendQuestion 29 = .ok (.aload 5, 2) := by decide +kernel
theorem dX4_appendQuestion_31 : decode cX4_appendQuestion 31 = .ok (.iload_n 2, 1) := by decide +kernel
theorem dX4_appendQuestion_32 : decode cX4_appendQuestion 32 = .ok (.putfield 63, 3) := by decide +kernel
theorem dX4_appendQuestion_35 : decode cX4_appendQuestion 35 = .ok (.aload 5, 2) := by decide +kernel
theorem dX4_appendQuestion_37 : decode cX4_appendQuestion 37 = .ok (.iload_n 3, 1) := by decide +kernel
theorem dX4_appendQuestion_38 : decode cX4_appendQuestion 38 = .ok (.putfield 66, 3) := by decide +kernel
theorem dX4_appendQuestion_41 : decode cX4_appendQuestion 41 = .ok (.aload 5, 2) := by decide +kernel
theorem dX4_appendQuestion_43 : decode cX4_appendQuestion 43 = .ok (.iload 4, 2) := by decide +kernel
theorem dX4_appendQuestion_45 : decode cX4_appendQuestion 45 = .ok (.putfield 69, 3) := by decide +kernel
theorem dX4_appendQuestion_48 : decode cX4_appendQuestion 48 = .ok (.aload 5, 2) := by decide +kernel
theorem dX4_appendQuestion_50 : decode cX4_appendQuestion 50 = .ok (.iconst 0, 1) := by decide +kernel
theorem dX4_appendQuestion_51 : decode cX4_appendQuestion 51 = .ok (.putfield 72, 3) := by decide +kernel
theorem dX4_appendQuestion_54 : decode cX4_appendQuestion 54 = .ok (.aload_n 0, 1) := by decide +kernel
theorem dX4_appendQuestion_55 : decode cX4_appendQuestion 55 = .ok (.dup, 1) := by decide +kernel
theorem dX4_appendQuestion_56 : decode cX4_appendQuestion 56 = .ok (.getfield 33, 3) := by decide +kernel
theorem dX4_appendQuestion_59 : decode cX4_appendQuestion 59 = .ok (.iconst 1, 1) := by decide +kernel
theorem dX4_appendQuestion_60 : decode cX4_appendQuestion 60 = .ok (.iadd, 1) := by decide +kernel
theorem dX4_appendQuestion_61 : decode cX4_appendQuestion 61 = .ok (.putfield 33, 3) := by decide +kernel
theorem dX4_appendQuestion_64 : decode cX4_appendQuestion 64 = .ok (.aload_n 0, 1) := by decide +kernel
theorem dX4_appendQuestion_65 : decode cX4_appendQuestion 65 = .ok (.getfield 33, 3) := by decide +kernel
theorem dX4_appendQuestion_68 : decode cX4_appendQuestion 68 = .ok (.iconst 1, 1) := by decide +kernel
theorem dX4_appendQuestion_69 : decode cX4_appendQuestion 69 = .ok (.isub, 1) := by decide +kernel
theorem dX4_appendQuestion_70 : decode cX4_appendQuestion 70 = .ok (.ireturn, 1) := by decide +kernel
theorem dX4_rows_0 : decode cX4_rows 0 = .ok (.iconst 0, 1) := by decide +kernel
theorem dX4_rows_1 : decode cX4_rows 1 = .ok (.istore_n 2, 1) := by decide +kernel
theorem dX4_rows_2 : decode cX4_rows 2 = .ok (.iconst 0, 1) := by decide +kernel
theorem dX4_rows_3 : decode cX4_rows 3 = .ok (.istore_n 3, 1) := by decide +kernel
theorem dX4_rows_4 : decode cX4_rows 4 = .ok (.iload_n 3, 1) := by decide +kernel
theorem dX4_rows_5 : decode cX4_rows 5 = .ok (.aload_n 0, 1) := by decide +kernel
theorem dX4_rows_6 : decode cX4_rows 6 = .ok (.getfield 25, 3) := by decide +kernel
theorem dX4_rows_9 : decode cX4_rows 9 = .ok (.if_icmp .ge 37, 3) := by decide +kernel
theorem dX4_rows_12 : decode cX4_rows 12 = .ok (.iload_n 1, 1) := by decide +kernel
theorem dX4_rows_13 : decode cX4_rows 13 = .ok (.aload_n 0, 1) := by decide +kernel
theorem dX4_rows_14 : decode cX4_rows 14 = .ok (.getfield 11, 3) := by decide +kernel
theorem dX4_rows_17 : decode cX4_rows 17 = .ok (.iload_n 3, 1) := by decide +kernel
theorem dX4_rows_18 : decode cX4_rows 18 = .ok (.aaload, 1) := by decide +kernel
theorem dX4_rows_19 : decode cX4_rows 19 = .ok (.getfield 83, 3) := by decide +kernel
theorem dX4_rows_22 : decode cX4_rows 22 = .ok (.invokestatic 86, 3) := by decide +kernel
theorem dX4_rows_25 : decode cX4_rows 25 = .ok (.ifCond .eq 15, 3) := by decide +kernel
theorem dX4_rows_28 : decode cX4_rows 28 = .ok (.iload_n 2, 1) := by decide +kernel
theorem dX4_rows_29 : decode cX4_rows 29 = .ok (.aload_n 0, 1) := by decide +kernel
theorem dX4_rows_30 : decode cX4_rows 30 = .ok (.getfield 11, 3) := by decide +kernel
theorem dX4_rows_33 : decode cX4_rows 33 = .ok (.iload_n 3, 1) := by decide +kernel
theorem dX4_rows_34 : decode cX4_rows 34 = .ok (.aaload, 1) := by decide +kernel
theorem dX4_rows_35 : decode cX4_rows 35 = .ok (.getfield 53, 3) := by decide +kernel
theorem dX4_rows_38 : decode cX4_rows 38 = .ok (.iadd, 1) := by decide +kernel
theorem dX4_rows_39 : decode cX4_rows 39 = .ok (.istore_n 2, 1) := by decide +kernel
theorem dX4_rows_40 : decode cX4_rows 40 = .ok (.iinc 3 1, 3) := by decide +kernel
theorem dX4_rows_43 : decode cX4_rows 43 = .ok (.goto (-39), 3) := by decide +kernel
theorem dX4_rows_46 : decode cX4_rows 46 = .ok (.iload_n 2, 1) := by decide +kernel
theorem dX4_rows_47 : decode cX4_rows 47 = .ok (.ireturn, 1) := by decide +kernel
theorem dX4_readRows_0 : decode cX4_readRows 0 = .ok (.iconst 0, 1) := by decide +kernel
theorem dX4_readRows_1 : decode cX4_readRows 1 = .ok (.istore_n 2, 1) := by decide +kernel
theorem dX4_readRows_2 : decode cX4_readRows 2 = .ok (.iconst 0, 1) := by decide +kernel
theorem dX4_readRows_3 : decode cX4_readRows 3 = .ok (.istore_n 3, 1) := by decide +kernel
theorem dX4_readRows_4 : decode cX4_readRows 4 = .ok (.iload_n 3, 1) := by decide +kernel
theorem dX4_readRows_5 : decode cX4_readRows 5 = .ok (.aload_n 0, 1) := by decide +kernel
theorem dX4_readRows_6 : decode cX4_readRows 6 = .ok (.getfield 25, 3) := by decide +kernel
theorem dX4_readRows_9 : decode cX4_readRows 9 = .ok (.if_icmp .ge 37, 3) := by decide +kernel
theorem dX4_readRows_12 : decode cX4_readRows 12 = .ok (.iload_n 1, 1) := by decide +kernel
theorem dX4_readRows_13 : decode cX4_readRows 13 = .ok (.aload_n 0, 1) := by decide +kernel
theorem dX4_readRows_14 : decode cX4_readRows 14 = .ok (.getfield 11, 3) := by decide +kernel
theorem dX4_readRows_17 : decode cX4_readRows 17 = .ok (.iload_n 3, 1) := by decide +kernel
theorem dX4_readRows_18 : decode cX4_readRows 18 = .ok (.aaload, 1) := by decide +kernel
theorem dX4_readRows_19 : decode cX4_readRows 19 = .ok (.getfield 83, 3) := by decide +kernel
theorem dX4_readRows_22 : decode cX4_readRows 22 = .ok (.invokestatic 86, 3) := by decide +kernel
theorem dX4_readRows_25 : decode cX4_readRows 25 = .ok (.ifCond .eq 15, 3) := by decide +kernel
theorem dX4_readRows_28 : decode cX4_readRows 28 = .ok (.iload_n 2, 1) := by decide +kernel
theorem dX4_readRows_29 : decode cX4_readRows 29 = .ok (.aload_n 0, 1) := by decide +kernel
theorem dX4_readRows_30 : decode cX4_readRows 30 = .ok (.getfield 11, 3) := by decide +kernel
theorem dX4_readRows_33 : decode cX4_readRows 33 = .ok (.iload_n 3, 1) := by decide +kernel
theorem dX4_readRows_34 : decode cX4_readRows 34 = .ok (.aaload, 1) := by decide +kernel
theorem dX4_readRows_35 : decode cX4_readRows 35 = .ok (.getfield 90, 3) := by decide +kernel
theorem dX4_readRows_38 : decode cX4_readRows 38 = .ok (.iadd, 1) := by decide +kernel
theorem dX4_readRows_39 : decode cX4_readRows 39 = .ok (.istore_n 2, 1) := by decide +kernel
theorem dX4_readRows_40 : decode cX4_readRows 40 = .ok (.iinc 3 1, 3) := by decide +kernel
theorem dX4_readRows_43 : decode cX4_readRows 43 = .ok (.goto (-39), 3) := by decide +kernel
theorem dX4_readRows_46 : decode cX4_readRows 46 = .ok (.iload_n 2, 1) := by decide +kernel
theorem dX4_readRows_47 : decode cX4_readRows 47 = .ok (.ireturn, 1) := by decide +kernel
theorem dX4_openQuestions_0 : decode cX4_openQuestions 0 = .ok (.iconst 0, 1) := by decide +kernel
theorem dX4_openQuestions_1 : decode cX4_openQuestions 1 = .ok (.istore_n 1, 1) := by decide +kernel
theorem dX4_openQuestions_2 : decode cX4_openQuestions 2 = .ok (.iconst 0, 1) := by decide +kernel
theorem dX4_openQuestions_3 : decode cX4_openQuestions 3 = .ok (.istore_n 2, 1) := by decide +kernel
theorem dX4_openQuestions_4 : decode cX4_openQuestions 4 = .ok (.iload_n 2, 1) := by decide +kernel
theorem dX4_openQuestions_5 : decode cX4_openQuestions 5 = .ok (.aload_n 0, 1) := by decide +kernel
theorem dX4_openQuestions_6 : decode cX4_openQuestions 6 = .ok (.getfield 33, 3) := by decide +kernel
theorem dX4_openQuestions_9 : decode cX4_openQuestions 9 = .ok (.if_icmp .ge 24, 3) := by decide +kernel
theorem dX4_openQuestions_12 : decode cX4_openQuestions 12 = .ok (.aload_n 0, 1) := by decide +kernel
theorem dX4_openQuestions_13 : decode cX4_openQuestions 13 = .ok (.getfield 19, 3) := by decide +kernel
theorem dX4_openQuestions_16 : decode cX4_openQuestions 16 = .ok (.iload_n 2, 1) := by decide +kernel
theorem dX4_openQuestions_17 : decode cX4_openQuestions 17 = .ok (.aaload, 1) := by decide +kernel
theorem dX4_openQuestions_18 : decode cX4_openQuestions 18 = .ok (.getfield 72, 3) := by decide +kernel
theorem dX4_openQuestions_21 : decode cX4_openQuestions 21 = .ok (.ifCond .ne 6, 3) := by decide +kernel
theorem dX4_openQuestions_24 : decode cX4_openQuestions 24 = .ok (.iinc 1 1, 3) := by decide +kernel
theorem dX4_openQuestions_27 : decode cX4_openQuestions 27 = .ok (.iinc 2 1, 3) := by decide +kernel
theorem dX4_openQuestions_30 : decode cX4_openQuestions 30 = .ok (.goto (-26), 3) := by decide +kernel
theorem dX4_openQuestions_33 : decode cX4_openQuestions 33 = .ok (.iload_n 1, 1) := by decide +kernel
theorem dX4_openQuestions_34 : decode cX4_openQuestions 34 = .ok (.ireturn, 1) := by decide +kernel
theorem dX4_settle_0 : decode cX4_settle 0 = .ok (.iconst 0, 1) := by decide +kernel
theorem dX4_settle_1 : decode cX4_settle 1 = .ok (.istore_n 1, 1) := by decide +kernel
theorem dX4_settle_2 : decode cX4_settle 2 = .ok (.iload_n 1, 1) := by decide +kernel
theorem dX4_settle_3 : decode cX4_settle 3 = .ok (.aload_n 0, 1) := by decide +kernel
theorem dX4_settle_4 : decode cX4_settle 4 = .ok (.getfield 33, 3) := by decide +kernel
theorem dX4_settle_7 : decode cX4_settle 7 = .ok (.if_icmp .ge 83, 3) := by decide +kernel
theorem dX4_settle_10 : decode cX4_settle 10 = .ok (.aload_n 0, 1) := by decide +kernel
theorem dX4_settle_11 : decode cX4_settle 11 = .ok (.getfield 19, 3) := by decide +kernel
theorem dX4_settle_14 : decode cX4_settle 14 = .ok (.iload_n 1, 1) := by decide +kernel
theorem dX4_settle_15 : decode cX4_settle 15 = .ok (.aaload, 1) := by decide +kernel
theorem dX4_settle_16 : decode cX4_settle 16 = .ok (.astore_n 2, 1) := by decide +kernel
theorem dX4_settle_17 : decode cX4_settle 17 = .ok (.aload_n 2, 1) := by decide +kernel
theorem dX4_settle_18 : decode cX4_settle 18 = .ok (.getfield 72, 3) := by decide +kernel
theorem dX4_settle_21 : decode cX4_settle 21 = .ok (.ifCond .ne 63, 3) := by decide +kernel
theorem dX4_settle_24 : decode cX4_settle 24 = .ok (.aload_n 0, 1) := by decide +kernel
theorem dX4_settle_25 : decode cX4_settle 25 = .ok (.aload_n 2, 1) := by decide +kernel
theorem dX4_settle_26 : decode cX4_settle 26 = .ok (.getfield 63, 3) := by decide +kernel
theorem dX4_settle_29 : decode cX4_settle 29 = .ok (.invokevirtual 93, 3) := by decide +kernel
theorem dX4_settle_32 : decode cX4_settle 32 = .ok (.ifCond .ne 6, 3) := by decide +kernel
theorem dX4_settle_35 : decode cX4_settle 35 = .ok (.goto 49, 3) := by decide +kernel
theorem dX4_settle_38 : decode cX4_settle 38 = .ok (.aload_n 2, 1) := by decide +kernel
theorem dX4_settle_39 : decode cX4_settle 39 = .ok (.aload_n 0, 1) := by decide +kernel
theorem dX4_settle_40 : decode cX4_settle 40 = .ok (.aload_n 2, 1) := by decide +kernel
theorem dX4_settle_41 : decode cX4_settle 41 = .ok (.iconst 0, 1) := by decide +kernel
theorem dX4_settle_42 : decode cX4_settle 42 = .ok (.invokevirtual 96, 3) := by decide +kernel
theorem dX4_settle_45 : decode cX4_settle 45 = .ok (.putfield 100, 3) := by decide +kernel
theorem dX4_settle_48 : decode cX4_settle 48 = .ok (.aload_n 2, 1) := by decide +kernel
theorem dX4_settle_49 : decode cX4_settle 49 = .ok (.aload_n 0, 1) := by decide +kernel
theorem dX4_settle_50 : decode cX4_settle 50 = .ok (.aload_n 2, 1) := by decide +kernel
theorem dX4_settle_51 : decode cX4_settle 51 = .ok (.iconst 1, 1) := by decide +kernel
theorem dX4_settle_52 : decode cX4_settle 52 = .ok (.invokevirtual 96, 3) := by decide +kernel
theorem dX4_settle_55 : decode cX4_settle 55 = .ok (.putfield 103, 3) := by decide +kernel
theorem dX4_settle_58 : decode cX4_settle 58 = .ok (.aload_n 2, 1) := by decide +kernel
theorem dX4_settle_59 : decode cX4_settle 59 = .ok (.getfield 103, 3) := by decide +kernel
theorem dX4_settle_62 : decode cX4_settle 62 = .ok (.aload_n 2, 1) := by decide +kernel
theorem dX4_settle_63 : decode cX4_settle 63 = .ok (.getfield 100, 3) := by decide +kernel
theorem dX4_settle_66 : decode cX4_settle 66 = .ok (.isub, 1) := by decide +kernel
theorem dX4_settle_67 : decode cX4_settle 67 = .ok (.aload_n 2, 1) := by decide +kernel
theorem dX4_settle_68 : decode cX4_settle 68 = .ok (.getfield 69, 3) := by decide +kernel
theorem dX4_settle_71 : decode cX4_settle 71 = .ok (.if_icmp .gt 13, 3) := by decide +kernel
theorem dX4_settle_74 : decode cX4_settle 74 = .ok (.aload_n 2, 1) := by decide +kernel
theorem dX4_settle_75 : decode cX4_settle 75 = .ok (.aload_n 0, 1) := by decide +kernel
theorem dX4_settle_76 : decode cX4_settle 76 = .ok (.aload_n 2, 1) := by decide +kernel
theorem dX4_settle_77 : decode cX4_settle 77 = .ok (.iconst 2, 1) := by decide +kernel
theorem dX4_settle_78 : decode cX4_settle 78 = .ok (.invokevirtual 96, 3) := by decide +kernel
theorem dX4_settle_81 : decode cX4_settle 81 = .ok (.invokevirtual 106, 3) := by decide +kernel
theorem dX4_settle_84 : decode cX4_settle 84 = .ok (.iinc 1 1, 3) := by decide +kernel
theorem dX4_settle_87 : decode cX4_settle 87 = .ok (.goto (-85), 3) := by decide +kernel
theorem dX4_settle_90 : decode cX4_settle 90 = .ok (.return_, 1) := by decide +kernel
theorem dX4_answer_0 : decode cX4_answer 0 = .ok (.iconst 0, 1) := by decide +kernel
theorem dX4_answer_1 : decode cX4_answer 1 = .ok (.istore_n 3, 1) := by decide +kernel
theorem dX4_answer_2 : decode cX4_answer 2 = .ok (.iconst 0, 1) := by decide +kernel
theorem dX4_answer_3 : decode cX4_answer 3 = .ok (.istore 4, 2) := by decide +kernel
theorem dX4_answer_5 : decode cX4_answer 5 = .ok (.sipush 999, 3) := by decide +kernel
theorem dX4_answer_8 : decode cX4_answer 8 = .ok (.istore 5, 2) := by decide +kernel
theorem dX4_answer_10 : decode cX4_answer 10 = .ok (.iconst 0, 1) := by decide +kernel
theorem dX4_answer_11 : decode cX4_answer 11 = .ok (.istore 6, 2) := by decide +kernel
theorem dX4_answer_13 : decode cX4_answer 13 = .ok (.iconst 0, 1) := by decide +kernel
theorem dX4_answer_14 : decode cX4_answer 14 = .ok (.istore 7, 2) := by decide +kernel
theorem dX4_answer_16 : decode cX4_answer 16 = .ok (.iload 7, 2) := by decide +kernel
theorem dX4_answer_18 : decode cX4_answer 18 = .ok (.aload_n 0, 1) := by decide +kernel
theorem dX4_answer_19 : decode cX4_answer 19 = .ok (.getfield 25, 3) := by decide +kernel
theorem dX4_answer_22 : decode cX4_answer 22 = .ok (.if_icmp .ge 88, 3) := by decide +kernel
theorem dX4_answer_25 : decode cX4_answer 25 = .ok (.aload_n 0, 1) := by decide +kernel
theorem dX4_answer_26 : decode cX4_answer 26 = .ok (.getfield 11, 3) := by decide +kernel
theorem dX4_answer_29 : decode cX4_answer 29 = .ok (.iload 7, 2) := by decide +kernel
theorem dX4_answer_31 : decode cX4_answer 31 = .ok (.aaload, 1) := by decide +kernel
theorem dX4_answer_32 : decode cX4_answer 32 = .ok (.astore 8, 2) := by decide +kernel
theorem dX4_answer_34 : decode cX4_answer 34 = .ok (.aload_n 1, 1) := by decide +kernel
theorem dX4_answer_35 : decode cX4_answer 35 = .ok (.getfield 63, 3) := by decide +kernel
theorem dX4_answer_38 : decode cX4_answer 38 = .ok (.aload 8, 2) := by decide +kernel
theorem dX4_answer_40 : decode cX4_answer 40 = .ok (.getfield 83, 3) := by decide +kernel
theorem dX4_answer_43 : decode cX4_answer 43 = .ok (.invokestatic 86, 3) := by decide +kernel
theorem dX4_answer_46 : decode cX4_answer 46 = .ok (.ifCond .eq 58, 3) := by decide +kernel
theorem dX4_answer_49 : decode cX4_answer 49 = .ok (.aload 8, 2) := by decide +kernel
theorem dX4_answer_51 : decode cX4_answer 51 = .ok (.aload_n 1, 1) := by decide +kernel
theorem dX4_answer_52 : decode cX4_answer 52 = .ok (.getfield 60, 3) := by decide +kernel
theorem dX4_answer_55 : decode cX4_answer 55 = .ok (.aload_n 1, 1) := by decide +kernel
theorem dX4_answer_56 : decode cX4_answer 56 = .ok (.getfield 66, 3) := by decide +kernel
theorem dX4_answer_59 : decode cX4_answer 59 = .ok (.aload_n 0, 1) := by decide +kernel
theorem dX4_answer_60 : decode cX4_answer 60 = .ok (.aload 8, 2) := by decide +kernel
theorem dX4_answer_62 : decode cX4_answer 62 = .ok (.iload_n 2, 1) := by decide +kernel
theorem dX4_answer_63 : decode cX4_answer 63 = .ok (.invokevirtual 109, 3) := by decide +kernel
theorem dX4_answer_66 : decode cX4_answer 66 = .ok (.invokevirtual 113, 3) := by decide +kernel
theorem dX4_answer_69 : decode cX4_answer 69 = .ok (.istore 9, 2) := by decide +kernel
theorem dX4_answer_71 : decode cX4_answer 71 = .ok (.iload_n 3, 1) := by decide +kernel
theorem dX4_answer_72 : decode cX4_answer 72 = .ok (.aload 8, 2) := by decide +kernel
theorem dX4_answer_74 : decode cX4_answer 74 = .ok (.getfield 53, 3) := by decide +kernel
theorem dX4_answer_77 : decode cX4_answer 77 = .ok (.iadd, 1) := by decide +kernel
theorem dX4_answer_78 : decode cX4_answer 78 = .ok (.istore_n 3, 1) := by decide +kernel
theorem dX4_answer_79 : decode cX4_answer 79 = .ok (.iload 4, 2) := by decide +kernel
theorem dX4_answer_81 : decode cX4_answer 81 = .ok (.iload 9, 2) := by decide +kernel
theorem dX4_answer_83 : decode cX4_answer 83 = .ok (.iadd, 1) := by decide +kernel
theorem dX4_answer_84 : decode cX4_answer 84 = .ok (.istore 4, 2) := by decide +kernel
theorem dX4_answer_86 : decode cX4_answer 86 = .ok (.iload 5, 2) := by decide +kernel
theorem dX4_answer_88 : decode cX4_answer 88 = .ok (.iload 9, 2) := by decide +kernel
theorem dX4_answer_90 : decode cX4_answer 90 = .ok (.invokestatic 117, 3) := by decide +kernel
theorem dX4_answer_93 : decode cX4_answer 93 = .ok (.istore 5, 2) := by decide +kernel
theorem dX4_answer_95 : decode cX4_answer 95 = .ok (.iload 6, 2) := by decide +kernel
theorem dX4_answer_97 : decode cX4_answer 97 = .ok (.iload 9, 2) := by decide +kernel
theorem dX4_answer_99 : decode cX4_answer 99 = .ok (.invokestatic 123, 3) := by decide +kernel
theorem dX4_answer_102 : decode cX4_answer 102 = .ok (.istore 6, 2) := by decide +kernel
theorem dX4_answer_104 : decode cX4_answer 104 = .ok (.iinc 7 1, 3) := by decide +kernel
theorem dX4_answer_107 : decode cX4_answer 107 = .ok (.goto (-91), 3) := by decide +kernel
theorem dX4_answer_110 : decode cX4_answer 110 = .ok (.iload_n 3, 1) := by decide +kernel
theorem dX4_answer_111 : decode cX4_answer 111 = .ok (.ifCond .ne 6, 3) := by decide +kernel
theorem dX4_answer_114 : decode cX4_answer 114 = .ok (.bipush (-5), 2) := by decide +kernel
theorem dX4_answer_116 : decode cX4_answer 116 = .ok (.ireturn, 1) := by decide +kernel
theorem dX4_answer_117 : decode cX4_answer 117 = .ok (.aload_n 1, 1) := by decide +kernel
theorem dX4_answer_118 : decode cX4_answer 118 = .ok (.getfield 60, 3) := by decide +kernel
theorem dX4_answer_121 : decode cX4_answer 121 = .ok (.tableswitch 41 2 4 #[27, 30, 33], 27) := by decide +kernel
theorem dX4_answer_148 : decode cX4_answer 148 = .ok (.iload 5, 2) := by decide +kernel
theorem dX4_answer_150 : decode cX4_answer 150 = .ok (.ireturn, 1) := by decide +kernel
theorem dX4_answer_151 : decode cX4_answer 151 = .ok (.iload 6, 2) := by decide +kernel
theorem dX4_answer_153 : decode cX4_answer 153 = .ok (.ireturn, 1) := by decide +kernel
theorem dX4_answer_154 : decode cX4_answer 154 = .ok (.bipush 100, 2) := by decide +kernel
theorem dX4_answer_156 : decode cX4_answer 156 = .ok (.iload 4, 2) := by decide +kernel
theorem dX4_answer_158 : decode cX4_answer 158 = .ok (.imul, 1) := by decide +kernel
theorem dX4_answer_159 : decode cX4_answer 159 = .ok (.iload_n 3, 1) := by decide +kernel
theorem dX4_answer_160 : decode cX4_answer 160 = .ok (.idiv, 1) := by decide +kernel
theorem dX4_answer_161 : decode cX4_answer 161 = .ok (.ireturn, 1) := by decide +kernel
theorem dX4_answer_162 : decode cX4_answer 162 = .ok (.iload 4, 2) := by decide +kernel
theorem dX4_answer_164 : decode cX4_answer 164 = .ok (.ireturn, 1) := by decide +kernel
theorem dX4_assumed_0 : decode cX4_assumed 0 = .ok (.iload_n 2, 1) := by decide +kernel
theorem dX4_assumed_1 : decode cX4_assumed 1 = .ok (.ifCond .ne 8, 3) := by decide +kernel
theorem dX4_assumed_4 : decode cX4_assumed 4 = .ok (.aload_n 1, 1) := by decide +kernel
theorem dX4_assumed_5 : decode cX4_assumed 5 = .ok (.getfield 126, 3) := by decide +kernel
theorem dX4_assumed_8 : decode cX4_assumed 8 = .ok (.ireturn, 1) := by decide +kernel
theorem dX4_assumed_9 : decode cX4_assumed 9 = .ok (.iload_n 2, 1) := by decide +kernel
theorem dX4_assumed_10 : decode cX4_assumed 10 = .ok (.iconst 1, 1) := by decide +kernel
theorem dX4_assumed_11 : decode cX4_assumed 11 = .ok (.if_icmp .ne 8, 3) := by decide +kernel
theorem dX4_assumed_14 : decode cX4_assumed 14 = .ok (.aload_n 1, 1) := by decide +kernel
theorem dX4_assumed_15 : decode cX4_assumed 15 = .ok (.getfield 129, 3) := by decide +kernel
theorem dX4_assumed_18 : decode cX4_assumed 18 = .ok (.ireturn, 1) := by decide +kernel
theorem dX4_assumed_19 : decode cX4_assumed 19 = .ok (.iconst 0, 1) := by decide +kernel
theorem dX4_assumed_20 : decode cX4_assumed 20 = .ok (.istore_n 3, 1) := by decide +kernel
theorem dX4_assumed_21 : decode cX4_assumed 21 = .ok (.iconst 0, 1) := by decide +kernel
theorem dX4_assumed_22 : decode cX4_assumed 22 = .ok (.istore 4, 2) := by decide +kernel
theorem dX4_assumed_24 : decode cX4_assumed 24 = .ok (.iconst 0, 1) := by decide +kernel
theorem dX4_assumed_25 : decode cX4_assumed 25 = .ok (.istore 5, 2) := by decide +kernel
theorem dX4_assumed_27 : decode cX4_assumed 27 = .ok (.iload 5, 2) := by decide +kernel
theorem dX4_assumed_29 : decode cX4_assumed 29 = .ok (.aload_n 0, 1) := by decide +kernel
theorem dX4_assumed_30 : decode cX4_assumed 30 = .ok (.getfield 25, 3) := by decide +kernel
theorem dX4_assumed_33 : decode cX4_assumed 33 = .ok (.if_icmp .ge 54, 3) := by decide +kernel
theorem dX4_assumed_36 : decode cX4_assumed 36 = .ok (.aload_n 0, 1) := by decide +kernel
theorem dX4_assumed_37 : decode cX4_assumed 37 = .ok (.getfield 11, 3) := by decide +kernel
theorem dX4_assumed_40 : decode cX4_assumed 40 = .ok (.iload 5, 2) := by decide +kernel
theorem dX4_assumed_42 : decode cX4_assumed 42 = .ok (.aaload, 1) := by decide +kernel
theorem dX4_assumed_43 : decode cX4_assumed 43 = .ok (.getfield 83, 3) := by decide +kernel
theorem dX4_assumed_46 : decode cX4_assumed 46 = .ok (.aload_n 1, 1) := by decide +kernel
theorem dX4_assumed_47 : decode cX4_assumed 47 = .ok (.getfield 83, 3) := by decide +kernel
theorem dX4_assumed_50 : decode cX4_assumed 50 = .ok (.if_icmp .ne 31, 3) := by decide +kernel
theorem dX4_assumed_53 : decode cX4_assumed 53 = .ok (.iload_n 3, 1) := by decide +kernel
theorem dX4_assumed_54 : decode cX4_assumed 54 = .ok (.aload_n 0, 1) := by decide +kernel
theorem dX4_assumed_55 : decode cX4_assumed 55 = .ok (.getfield 11, 3) := by decide +kernel
theorem dX4_assumed_58 : decode cX4_assumed 58 = .ok (.iload 5, 2) := by decide +kernel
theorem dX4_assumed_60 : decode cX4_assumed 60 = .ok (.aaload, 1) := by decide +kernel
theorem dX4_assumed_61 : decode cX4_assumed 61 = .ok (.getfield 90, 3) := by decide +kernel
theorem dX4_assumed_64 : decode cX4_assumed 64 = .ok (.iadd, 1) := by decide +kernel
theorem dX4_assumed_65 : decode cX4_assumed 65 = .ok (.istore_n 3, 1) := by decide +kernel
theorem dX4_assumed_66 : decode cX4_assumed 66 = .ok (.iload 4, 2) := by decide +kernel
theorem dX4_assumed_68 : decode cX4_assumed 68 = .ok (.aload_n 0, 1) := by decide +kernel
theorem dX4_assumed_69 : decode cX4_assumed 69 = .ok (.getfield 11, 3) := by decide +kernel
theorem dX4_assumed_72 : decode cX4_assumed 72 = .ok (.iload 5, 2) := by decide +kernel
theorem dX4_assumed_74 : decode cX4_assumed 74 = .ok (.aaload, 1) := by decide +kernel
theorem dX4_assumed_75 : decode cX4_assumed 75 = .ok (.getfield 132, 3) := by decide +kernel
theorem dX4_assumed_78 : decode cX4_assumed 78 = .ok (.iadd, 1) := by decide +kernel
theorem dX4_assumed_79 : decode cX4_assumed 79 = .ok (.istore 4, 2) := by decide +kernel
theorem dX4_assumed_81 : decode cX4_assumed 81 = .ok (.iinc 5 1, 3) := by decide +kernel
theorem dX4_assumed_84 : decode cX4_assumed 84 = .ok (.goto (-57), 3) := by decide +kernel
theorem dX4_assumed_87 : decode cX4_assumed 87 = .ok (.iload_n 3, 1) := by decide +kernel
theorem dX4_assumed_88 : decode cX4_assumed 88 = .ok (.ifCond .ne 15, 3) := by decide +kernel
theorem dX4_assumed_91 : decode cX4_assumed 91 = .ok (.aload_n 1, 1) := by decide +kernel
theorem dX4_assumed_92 : decode cX4_assumed 92 = .ok (.getfield 126, 3) := by decide +kernel
theorem dX4_assumed_95 : decode cX4_assumed 95 = .ok (.aload_n 1, 1) := by decide +kernel
theorem dX4_assumed_96 : decode cX4_assumed 96 = .ok (.getfield 129, 3) := by decide +kernel
theorem dX4_assumed_99 : decode cX4_assumed 99 = .ok (.iadd, 1) := by decide +kernel
theorem dX4_assumed_100 : decode cX4_assumed 100 = .ok (.iconst 2, 1) := by decide +kernel
theorem dX4_assumed_101 : decode cX4_assumed 101 = .ok (.idiv, 1) := by decide +kernel
theorem dX4_assumed_102 : decode cX4_assumed 102 = .ok (.ireturn, 1) := by decide +kernel
theorem dX4_assumed_103 : decode cX4_assumed 103 = .ok (.aload_n 1, 1) := by decide +kernel
theorem dX4_assumed_104 : decode cX4_assumed 104 = .ok (.getfield 126, 3) := by decide +kernel
theorem dX4_assumed_107 : decode cX4_assumed 107 = .ok (.aload_n 1, 1) := by decide +kernel
theorem dX4_assumed_108 : decode cX4_assumed 108 = .ok (.getfield 129, 3) := by decide +kernel
theorem dX4_assumed_111 : decode cX4_assumed 111 = .ok (.iload 4, 2) := by decide +kernel
theorem dX4_assumed_113 : decode cX4_assumed 113 = .ok (.iload_n 3, 1) := by decide +kernel
theorem dX4_assumed_114 : decode cX4_assumed 114 = .ok (.idiv, 1) := by decide +kernel
theorem dX4_assumed_115 : decode cX4_assumed 115 = .ok (.invokestatic 117, 3) := by decide +kernel
theorem dX4_assumed_118 : decode cX4_assumed 118 = .ok (.invokestatic 123, 3) := by decide +kernel
theorem dX4_assumed_121 : decode cX4_assumed 121 = .ok (.ireturn, 1) := by decide +kernel
theorem dX4_weight_0 : decode cX4_weight 0 = .ok (.iconst 0, 1) := by decide +kernel
theorem dX4_weight_1 : decode cX4_weight 1 = .ok (.istore_n 2, 1) := by decide +kernel
theorem dX4_weight_2 : decode cX4_weight 2 = .ok (.iconst 0, 1) := by decide +kernel
theorem dX4_weight_3 : decode cX4_weight 3 = .ok (.istore_n 3, 1) := by decide +kernel
theorem dX4_weight_4 : decode cX4_weight 4 = .ok (.iload_n 3, 1) := by decide +kernel
theorem dX4_weight_5 : decode cX4_weight 5 = .ok (.aload_n 0, 1) := by decide +kernel
theorem dX4_weight_6 : decode cX4_weight 6 = .ok (.getfield 33, 3) := by decide +kernel
theorem dX4_weight_9 : decode cX4_weight 9 = .ok (.if_icmp .ge 49, 3) := by decide +kernel
theorem dX4_weight_12 : decode cX4_weight 12 = .ok (.aload_n 0, 1) := by decide +kernel
theorem dX4_weight_13 : decode cX4_weight 13 = .ok (.getfield 19, 3) := by decide +kernel
theorem dX4_weight_16 : decode cX4_weight 16 = .ok (.iload_n 3, 1) := by decide +kernel
theorem dX4_weight_17 : decode cX4_weight 17 = .ok (.aaload, 1) := by decide +kernel
theorem dX4_weight_18 : decode cX4_weight 18 = .ok (.astore 4, 2) := by decide +kernel
theorem dX4_weight_20 : decode cX4_weight 20 = .ok (.aload 4, 2) := by decide +kernel
theorem dX4_weight_22 : decode cX4_weight 22 = .ok (.getfield 72, 3) := by decide +kernel
theorem dX4_weight_25 : decode cX4_weight 25 = .ok (.ifCond .ne 27, 3) := by decide +kernel
theorem dX4_weight_28 : decode cX4_weight 28 = .ok (.aload 4, 2) := by decide +kernel
theorem dX4_weight_30 : decode cX4_weight 30 = .ok (.getfield 63, 3) := by decide +kernel
theorem dX4_weight_33 : decode cX4_weight 33 = .ok (.aload_n 1, 1) := by decide +kernel
theorem dX4_weight_34 : decode cX4_weight 34 = .ok (.getfield 83, 3) := by decide +kernel
theorem dX4_weight_37 : decode cX4_weight 37 = .ok (.invokestatic 86, 3) := by decide +kernel
theorem dX4_weight_40 : decode cX4_weight 40 = .ok (.ifCond .eq 12, 3) := by decide +kernel
theorem dX4_weight_43 : decode cX4_weight 43 = .ok (.iload_n 2, 1) := by decide +kernel
theorem dX4_weight_44 : decode cX4_weight 44 = .ok (.aload 4, 2) := by decide +kernel
theorem dX4_weight_46 : decode cX4_weight 46 = .ok (.aload_n 1, 1) := by decide +kernel
theorem dX4_weight_47 : decode cX4_weight 47 = .ok (.invokevirtual 135, 3) := by decide +kernel
theorem dX4_weight_50 : decode cX4_weight 50 = .ok (.iadd, 1) := by decide +kernel
theorem dX4_weight_51 : decode cX4_weight 51 = .ok (.istore_n 2, 1) := by decide +kernel
theorem dX4_weight_52 : decode cX4_weight 52 = .ok (.iinc 3 1, 3) := by decide +kernel
theorem dX4_weight_55 : decode cX4_weight 55 = .ok (.goto (-51), 3) := by decide +kernel
theorem dX4_weight_58 : decode cX4_weight 58 = .ok (.iload_n 2, 1) := by decide +kernel
theorem dX4_weight_59 : decode cX4_weight 59 = .ok (.ireturn, 1) := by decide +kernel
theorem dX4_nextBlock_0 : decode cX4_nextBlock 0 = .ok (.aload_n 0, 1) := by decide +kernel
theorem dX4_nextBlock_1 : decode cX4_nextBlock 1 = .ok (.getfield 39, 3) := by decide +kernel
theorem dX4_nextBlock_4 : decode cX4_nextBlock 4 = .ok (.ifCond .ne 10, 3) := by decide +kernel
theorem dX4_nextBlock_7 : decode cX4_nextBlock 7 = .ok (.aload_n 0, 1) := by decide +kernel
theorem dX4_nextBlock_8 : decode cX4_nextBlock 8 = .ok (.invokevirtual 139, 3) := by decide +kernel
theorem dX4_nextBlock_11 : decode cX4_nextBlock 11 = .ok (.goto 7, 3) := by decide +kernel
theorem dX4_nextBlock_14 : decode cX4_nextBlock 14 = .ok (.aload_n 0, 1) := by decide +kernel
theorem dX4_nextBlock_15 : decode cX4_nextBlock 15 = .ok (.invokevirtual 143, 3) := by decide +kernel
theorem dX4_nextBlock_18 : decode cX4_nextBlock 18 = .ok (.ireturn, 1) := by decide +kernel
theorem dX4_blockInTurn_0 : decode cX4_blockInTurn 0 = .ok (.iconst 0, 1) := by decide +kernel
theorem dX4_blockInTurn_1 : decode cX4_blockInTurn 1 = .ok (.istore_n 1, 1) := by decide +kernel
theorem dX4_blockInTurn_2 : decode cX4_blockInTurn 2 = .ok (.iload_n 1, 1) := by decide +kernel
theorem dX4_blockInTurn_3 : decode cX4_blockInTurn 3 = .ok (.aload_n 0, 1) := by decide +kernel
theorem dX4_blockInTurn_4 : decode cX4_blockInTurn 4 = .ok (.getfield 25, 3) := by decide +kernel
theorem dX4_blockInTurn_7 : decode cX4_blockInTurn 7 = .ok (.if_icmp .ge 35, 3) := by decide +kernel
theorem dX4_blockInTurn_10 : decode cX4_blockInTurn 10 = .ok (.aload_n 0, 1) := by decide +kernel
theorem dX4_blockInTurn_11 : decode cX4_blockInTurn 11 = .ok (.getfield 42, 3) := by decide +kernel
theorem dX4_blockInTurn_14 : decode cX4_blockInTurn 14 = .ok (.iload_n 1, 1) := by decide +kernel
theorem dX4_blockInTurn_15 : decode cX4_blockInTurn 15 = .ok (.iadd, 1) := by decide +kernel
theorem dX4_blockInTurn_16 : decode cX4_blockInTurn 16 = .ok (.aload_n 0, 1) := by decide +kernel
theorem dX4_blockInTurn_17 : decode cX4_blockInTurn 17 = .ok (.getfield 25, 3) := by decide +kernel
theorem dX4_blockInTurn_20 : decode cX4_blockInTurn 20 = .ok (.irem, 1) := by decide +kernel
theorem dX4_blockInTurn_21 : decode cX4_blockInTurn 21 = .ok (.istore_n 2, 1) := by decide +kernel
theorem dX4_blockInTurn_22 : decode cX4_blockInTurn 22 = .ok (.aload_n 0, 1) := by decide +kernel
theorem dX4_blockInTurn_23 : decode cX4_blockInTurn 23 = .ok (.getfield 11, 3) := by decide +kernel
theorem dX4_blockInTurn_26 : decode cX4_blockInTurn 26 = .ok (.iload_n 2, 1) := by decide +kernel
theorem dX4_blockInTurn_27 : decode cX4_blockInTurn 27 = .ok (.aaload, 1) := by decide +kernel
theorem dX4_blockInTurn_28 : decode cX4_blockInTurn 28 = .ok (.invokevirtual 146, 3) := by decide +kernel
theorem dX4_blockInTurn_31 : decode cX4_blockInTurn 31 = .ok (.ifCond .le 5, 3) := by decide +kernel
theorem dX4_blockInTurn_34 : decode cX4_blockInTurn 34 = .ok (.iload_n 2, 1) := by decide +kernel
theorem dX4_blockInTurn_35 : decode cX4_blockInTurn 35 = .ok (.ireturn, 1) := by decide +kernel
theorem dX4_blockInTurn_36 : decode cX4_blockInTurn 36 = .ok (.iinc 1 1, 3) := by decide +kernel
theorem dX4_blockInTurn_39 : decode cX4_blockInTurn 39 = .ok (.goto (-37), 3) := by decide +kernel
theorem dX4_blockInTurn_42 : decode cX4_blockInTurn 42 = .ok (.bipush (-5), 2) := by decide +kernel
theorem dX4_blockInTurn_44 : decode cX4_blockInTurn 44 = .ok (.ireturn, 1) := by decide +kernel
theorem dX4_mostPressingBlock_0 : decode cX4_mostPressingBlock 0 = .ok (.bipush (-5), 2) := by decide +kernel
theorem dX4_mostPressingBlock_2 : decode cX4_mostPressingBlock 2 = .ok (.istore_n 1, 1) := by decide +kernel
theorem dX4_mostPressingBlock_3 : decode cX4_mostPressingBlock 3 = .ok (.iconst (-1), 1) := by decide +kernel
theorem dX4_mostPressingBlock_4 : decode cX4_mostPressingBlock 4 = .ok (.istore_n 2, 1) := by decide +kernel
theorem dX4_mostPressingBlock_5 : decode cX4_mostPressingBlock 5 = .ok (.iconst 0, 1) := by decide +kernel
theorem dX4_mostPressingBlock_6 : decode cX4_mostPressingBlock 6 = .ok (.istore_n 3, 1) := by decide +kernel
theorem dX4_mostPressingBlock_7 : decode cX4_mostPressingBlock 7 = .ok (.iload_n 3, 1) := by decide +kernel
theorem dX4_mostPressingBlock_8 : decode cX4_mostPressingBlock 8 = .ok (.aload_n 0, 1) := by decide +kernel
theorem dX4_mostPressingBlock_9 : decode cX4_mostPressingBlock 9 = .ok (.getfield 25, 3) := by decide +kernel
theorem dX4_mostPressingBlock_12 : decode cX4_mostPressingBlock 12 = .ok (.if_icmp .ge 72, 3) := by decide +kernel
theorem dX4_mostPressingBlock_15 : decode cX4_mostPressingBlock 15 = .ok (.aload_n 0, 1) := by decide +kernel
theorem dX4_mostPressingBlock_16 : decode cX4_mostPressingBlock 16 = .ok (.getfield 11, 3) := by decide +kernel
theorem dX4_mostPressingBlock_19 : decode cX4_mostPressingBlock 19 = .ok (.iload_n 3, 1) := by decide +kernel
theorem dX4_mostPressingBlock_20 : decode cX4_mostPressingBlock 20 = .ok (.aaload, 1) := by decide +kernel
theorem dX4_mostPressingBlock_21 : decode cX4_mostPressingBlock 21 = .ok (.astore 4, 2) := by decide +kernel
theorem dX4_mostPressingBlock_23 : decode cX4_mostPressingBlock 23 = .ok (.aload 4, 2) := by decide +kernel
theorem dX4_mostPressingBlock_25 : decode cX4_mostPressingBlock 25 = .ok (.invokevirtual 146, 3) := by decide +kernel
theorem dX4_mostPressingBlock_28 : decode cX4_mostPressingBlock 28 = .ok (.ifCond .le 50, 3) := by decide +kernel
theorem dX4_mostPressingBlock_31 : decode cX4_mostPressingBlock 31 = .ok (.aload_n 0, 1) := by decide +kernel
theorem dX4_mostPressingBlock_32 : decode cX4_mostPressingBlock 32 = .ok (.getfield 39, 3) := by decide +kernel
theorem dX4_mostPressingBlock_35 : decode cX4_mostPressingBlock 35 = .ok (.iconst 1, 1) := by decide +kernel
theorem dX4_mostPressingBlock_36 : decode cX4_mostPressingBlock 36 = .ok (.if_icmp .ne 23, 3) := by decide +kernel
theorem dX4_mostPressingBlock_39 : decode cX4_mostPressingBlock 39 = .ok (.aload 4, 2) := by decide +kernel
theorem dX4_mostPressingBlock_41 : decode cX4_mostPressingBlock 41 = .ok (.invokevirtual 146, 3) := by decide +kernel
theorem dX4_mostPressingBlock_44 : decode cX4_mostPressingBlock 44 = .ok (.aload 4, 2) := by decide +kernel
theorem dX4_mostPressingBlock_46 : decode cX4_mostPressingBlock 46 = .ok (.getfield 129, 3) := by decide +kernel
theorem dX4_mostPressingBlock_49 : decode cX4_mostPressingBlock 49 = .ok (.aload 4, 2) := by decide +kernel
theorem dX4_mostPressingBlock_51 : decode cX4_mostPressingBlock 51 = .ok (.getfield 126, 3) := by decide +kernel
theorem dX4_mostPressingBlock_54 : decode cX4_mostPressingBlock 54 = .ok (.isub, 1) := by decide +kernel
theorem dX4_mostPressingBlock_55 : decode cX4_mostPressingBlock 55 = .ok (.imul, 1) := by decide +kernel
theorem dX4_mostPressingBlock_56 : decode cX4_mostPressingBlock 56 = .ok (.goto 9, 3) := by decide +kernel
theorem dX4_mostPressingBlock_59 : decode cX4_mostPressingBlock 59 = .ok (.aload_n 0, 1) := by decide +kernel
theorem dX4_mostPressingBlock_60 : decode cX4_mostPressingBlock 60 = .ok (.aload 4, 2) := by decide +kernel
theorem dX4_mostPressingBlock_62 : decode cX4_mostPressingBlock 62 = .ok (.invokevirtual 149, 3) := by decide +kernel
theorem dX4_mostPressingBlock_65 : decode cX4_mostPressingBlock 65 = .ok (.istore 5, 2) := by decide +kernel
theorem dX4_mostPressingBlock_67 : decode cX4_mostPressingBlock 67 = .ok (.iload 5, 2) := by decide +kernel
theorem dX4_mostPressingBlock_69 : decode cX4_mostPressingBlock 69 = .ok (.iload_n 2, 1) := by decide +kernel
theorem dX4_mostPressingBlock_70 : decode cX4_mostPressingBlock 70 = .ok (.if_icmp .le 8, 3) := by decide +kernel
theorem dX4_mostPressingBlock_73 : decode cX4_mostPressingBlock 73 = .ok (.iload_n 3, 1) := by decide +kernel
theorem dX4_mostPressingBlock_74 : decode cX4_mostPressingBlock 74 = .ok (.istore_n 1, 1) := by decide +kernel
theorem dX4_mostPressingBlock_75 : decode cX4_mostPressingBlock 75 = .ok (.iload 5, 2) := by decide +kernel
theorem dX4_mostPressingBlock_77 : decode cX4_mostPressingBlock 77 = .ok (.istore_n 2, 1) := by decide +kernel
theorem dX4_mostPressingBlock_78 : decode cX4_mostPressingBlock 78 = .ok (.iinc 3 1, 3) := by decide +kernel
theorem dX4_mostPressingBlock_81 : decode cX4_mostPressingBlock 81 = .ok (.goto (-74), 3) := by decide +kernel
theorem dX4_mostPressingBlock_84 : decode cX4_mostPressingBlock 84 = .ok (.iload_n 1, 1) := by decide +kernel
theorem dX4_mostPressingBlock_85 : decode cX4_mostPressingBlock 85 = .ok (.ireturn, 1) := by decide +kernel
theorem dX4_readByPlan_0 : decode cX4_readByPlan 0 = .ok (.aload_n 0, 1) := by decide +kernel
theorem dX4_readByPlan_1 : decode cX4_readByPlan 1 = .ok (.invokevirtual 152, 3) := by decide +kernel
theorem dX4_readByPlan_4 : decode cX4_readByPlan 4 = .ok (.istore_n 1, 1) := by decide +kernel
theorem dX4_readByPlan_5 : decode cX4_readByPlan 5 = .ok (.aload_n 0, 1) := by decide +kernel
theorem dX4_readByPlan_6 : decode cX4_readByPlan 6 = .ok (.iload_n 1, 1) := by decide +kernel
theorem dX4_readByPlan_7 : decode cX4_readByPlan 7 = .ok (.invokevirtual 49, 3) := by decide +kernel
theorem dX4_readByPlan_10 : decode cX4_readByPlan 10 = .ok (.ifCond .ne 5, 3) := by decide +kernel
theorem dX4_readByPlan_13 : decode cX4_readByPlan 13 = .ok (.iconst 0, 1) := by decide +kernel
theorem dX4_readByPlan_14 : decode cX4_readByPlan 14 = .ok (.ireturn, 1) := by decide +kernel
theorem dX4_readByPlan_15 : decode cX4_readByPlan 15 = .ok (.aload_n 0, 1) := by decide +kernel
theorem dX4_readByPlan_16 : decode cX4_readByPlan 16 = .ok (.getfield 11, 3) := by decide +kernel
theorem dX4_readByPlan_19 : decode cX4_readByPlan 19 = .ok (.iload_n 1, 1) := by decide +kernel
theorem dX4_readByPlan_20 : decode cX4_readByPlan 20 = .ok (.aaload, 1) := by decide +kernel
theorem dX4_readByPlan_21 : decode cX4_readByPlan 21 = .ok (.invokevirtual 155, 3) := by decide +kernel
theorem dX4_readByPlan_24 : decode cX4_readByPlan 24 = .ok (.pop, 1) := by decide +kernel
theorem dX4_readByPlan_25 : decode cX4_readByPlan 25 = .ok (.aload_n 0, 1) := by decide +kernel
theorem dX4_readByPlan_26 : decode cX4_readByPlan 26 = .ok (.getfield 39, 3) := by decide +kernel
theorem dX4_readByPlan_29 : decode cX4_readByPlan 29 = .ok (.ifCond .ne 24, 3) := by decide +kernel
theorem dX4_readByPlan_32 : decode cX4_readByPlan 32 = .ok (.aload_n 0, 1) := by decide +kernel
theorem dX4_readByPlan_33 : decode cX4_readByPlan 33 = .ok (.iload_n 1, 1) := by decide +kernel
theorem dX4_readByPlan_34 : decode cX4_readByPlan 34 = .ok (.iconst 1, 1) := by decide +kernel
theorem dX4_readByPlan_35 : decode cX4_readByPlan 35 = .ok (.iadd, 1) := by decide +kernel
theorem dX4_readByPlan_36 : decode cX4_readByPlan 36 = .ok (.aload_n 0, 1) := by decide +kernel
theorem dX4_readByPlan_37 : decode cX4_readByPlan 37 = .ok (.getfield 25, 3) := by decide +kernel
theorem dX4_readByPlan_40 : decode cX4_readByPlan 40 = .ok (.if_icmp .ge 9, 3) := by decide +kernel
theorem dX4_readByPlan_43 : decode cX4_readByPlan 43 = .ok (.iload_n 1, 1) := by decide +kernel
theorem dX4_readByPlan_44 : decode cX4_readByPlan 44 = .ok (.iconst 1, 1) := by decide +kernel
theorem dX4_readByPlan_45 : decode cX4_readByPlan 45 = .ok (.iadd, 1) := by decide +kernel
theorem dX4_readByPlan_46 : decode cX4_readByPlan 46 = .ok (.goto 4, 3) := by decide +kernel
theorem dX4_readByPlan_49 : decode cX4_readByPlan 49 = .ok (.iconst 0, 1) := by decide +kernel
theorem dX4_readByPlan_50 : decode cX4_readByPlan 50 = .ok (.putfield 42, 3) := by decide +kernel
theorem dX4_readByPlan_53 : decode cX4_readByPlan 53 = .ok (.aload_n 0, 1) := by decide +kernel
theorem dX4_readByPlan_54 : decode cX4_readByPlan 54 = .ok (.invokevirtual 158, 3) := by decide +kernel
theorem dX4_readByPlan_57 : decode cX4_readByPlan 57 = .ok (.iconst 1, 1) := by decide +kernel
theorem dX4_readByPlan_58 : decode cX4_readByPlan 58 = .ok (.ireturn, 1) := by decide +kernel
theorem dX4_readWhileOpen_0 : decode cX4_readWhileOpen 0 = .ok (.iconst 0, 1) := by decide +kernel
theorem dX4_readWhileOpen_1 : decode cX4_readWhileOpen 1 = .ok (.istore_n 1, 1) := by decide +kernel
theorem dX4_readWhileOpen_2 : decode cX4_readWhileOpen 2 = .ok (.iconst 0, 1) := by decide +kernel
theorem dX4_readWhileOpen_3 : decode cX4_readWhileOpen 3 = .ok (.istore_n 2, 1) := by decide +kernel
theorem dX4_readWhileOpen_4 : decode cX4_readWhileOpen 4 = .ok (.iload_n 2, 1) := by decide +kernel
theorem dX4_readWhileOpen_5 : decode cX4_readWhileOpen 5 = .ok (.sipush 128, 3) := by decide +kernel
theorem dX4_readWhileOpen_8 : decode cX4_readWhileOpen 8 = .ok (.if_icmp .ge 29, 3) := by decide +kernel
theorem dX4_readWhileOpen_11 : decode cX4_readWhileOpen 11 = .ok (.aload_n 0, 1) := by decide +kernel
theorem dX4_readWhileOpen_12 : decode cX4_readWhileOpen 12 = .ok (.invokevirtual 161, 3) := by decide +kernel
theorem dX4_readWhileOpen_15 : decode cX4_readWhileOpen 15 = .ok (.ifCond .eq 22, 3) := by decide +kernel
theorem dX4_readWhileOpen_18 : decode cX4_readWhileOpen 18 = .ok (.aload_n 0, 1) := by decide +kernel
theorem dX4_readWhileOpen_19 : decode cX4_readWhileOpen 19 = .ok (.invokevirtual 164, 3) := by decide +kernel
theorem dX4_readWhileOpen_22 : decode cX4_readWhileOpen 22 = .ok (.ifCond .ne 6, 3) := by decide +kernel
theorem dX4_readWhileOpen_25 : decode cX4_readWhileOpen 25 = .ok (.goto 12, 3) := by decide +kernel
theorem dX4_readWhileOpen_28 : decode cX4_readWhileOpen 28 = .ok (.iinc 1 1, 3) := by decide +kernel
theorem dX4_readWhileOpen_31 : decode cX4_readWhileOpen 31 = .ok (.iinc 2 1, 3) := by decide +kernel
theorem dX4_readWhileOpen_34 : decode cX4_readWhileOpen 34 = .ok (.goto (-30), 3) := by decide +kernel
theorem dX4_readWhileOpen_37 : decode cX4_readWhileOpen 37 = .ok (.iload_n 1, 1) := by decide +kernel
theorem dX4_readWhileOpen_38 : decode cX4_readWhileOpen 38 = .ok (.ireturn, 1) := by decide +kernel
theorem dX5_init_0 : decode cX5_init 0 = .ok (.aload_n 0, 1) := by decide +kernel
theorem dX5_init_1 : decode cX5_init 1 = .ok (.invokespecial 3, 3) := by decide +kernel
theorem dX5_init_4 : decode cX5_init 4 = .ok (.aload_n 0, 1) := by decide +kernel
theorem dX5_init_5 : decode cX5_init 5 = .ok (.new 9, 3) := by decide +kernel
theorem dX5_init_8 : decode cX5_init 8 = .ok (.dup, 1) := by decide +kernel
theorem dX5_init_9 : decode cX5_init 9 = .ok (.invokespecial 11, 3) := by decide +kernel
theorem dX5_init_12 : decode cX5_init 12 = .ok (.putfield 12, 3) := by decide +kernel
theorem dX5_init_15 : decode cX5_init 15 = .ok (.aload_n 0, 1) := by decide +kernel
theorem dX5_init_16 : decode cX5_init 16 = .ok (.new 16, 3) := by decide +kernel
theorem dX5_init_19 : decode cX5_init 19 = .ok (.dup, 1) := by decide +kernel
theorem dX5_init_20 : decode cX5_init 20 = .ok (.invokespecial 18, 3) := by decide +kernel
theorem dX5_init_23 : decode cX5_init 23 = .ok (.putfield 19, 3) := by decide +kernel
theorem dX5_init_26 : decode cX5_init 26 = .ok (.aload_n 0, 1) := by decide +kernel
theorem dX5_init_27 : decode cX5_init 27 = .ok (.new 16, 3) := by decide +kernel
theorem dX5_init_30 : decode cX5_init 30 = .ok (.dup, 1) := by decide +kernel
theorem dX5_init_31 : decode cX5_init 31 = .ok (.invokespecial 18, 3) := by decide +kernel
theorem dX5_init_34 : decode cX5_init 34 = .ok (.putfield 23, 3) := by decide +kernel
theorem dX5_init_37 : decode cX5_init 37 = .ok (.aload_n 0, 1) := by decide +kernel
theorem dX5_init_38 : decode cX5_init 38 = .ok (.new 16, 3) := by decide +kernel
theorem dX5_init_41 : decode cX5_init 41 = .ok (.dup, 1) := by decide +kernel
theorem dX5_init_42 : decode cX5_init 42 = .ok (.invokespecial 18, 3) := by decide +kernel
theorem dX5_init_45 : decode cX5_init 45 = .ok (.putfield 26, 3) := by decide +kernel
theorem dX5_init_48 : decode cX5_init 48 = .ok (.aload_n 0, 1) := by decide +kernel
theorem dX5_init_49 : decode cX5_init 49 = .ok (.new 29, 3) := by decide +kernel
theorem dX5_init_52 : decode cX5_init 52 = .ok (.dup, 1) := by decide +kernel
theorem dX5_init_53 : decode cX5_init 53 = .ok (.invokespecial 31, 3) := by decide +kernel
theorem dX5_init_56 : decode cX5_init 56 = .ok (.putfield 32, 3) := by decide +kernel
theorem dX5_init_59 : decode cX5_init 59 = .ok (.aload_n 0, 1) := by decide +kernel
theorem dX5_init_60 : decode cX5_init 60 = .ok (.iconst 0, 1) := by decide +kernel
theorem dX5_init_61 : decode cX5_init 61 = .ok (.putfield 36, 3) := by decide +kernel
theorem dX5_init_64 : decode cX5_init 64 = .ok (.return_, 1) := by decide +kernel
theorem dX5_addBlock_0 : decode cX5_addBlock 0 = .ok (.aload_n 0, 1) := by decide +kernel
theorem dX5_addBlock_1 : decode cX5_addBlock 1 = .ok (.getfield 12, 3) := by decide +kernel
theorem dX5_addBlock_4 : decode cX5_addBlock 4 = .ok (.invokevirtual 40, 3) := by decide +kernel
theorem dX5_addBlock_7 : decode cX5_addBlock 7 = .ok (.ifCond .ne 14, 3) := by decide +kernel
theorem dX5_addBlock_10 : decode cX5_addBlock 10 = .ok (.bipush (-100), 2) := by decide +kernel
theorem dX5_addBlock_12 : decode cX5_addBlock 12 = .ok (.aload_n 0, 1) := by decide +kernel
theorem dX5_addBlock_13 : decode cX5_addBlock 13 = .ok (.getfield 12, 3) := by decide +kernel
theorem dX5_addBlock_16 : decode cX5_addBlock 16 = .ok (.getfield 44, 3) := by decide +kernel
theorem dX5_addBlock_19 : decode cX5_addBlock 19 = .ok (.isub, 1) := by decide +kernel
theorem dX5_addBlock_20 : decode cX5_addBlock 20 = .ok (.ireturn, 1) := by decide +kernel
theorem dX5_addBlock_21 : decode cX5_addBlock 21 = .ok (.aload_n 0, 1) := by decide +kernel
theorem dX5_addBlock_22 : decode cX5_addBlock 22 = .ok (.getfield 12, 3) := by decide +kernel
theorem dX5_addBlock_25 : decode cX5_addBlock 25 = .ok (.invokevirtual 48, 3) := by decide +kernel
theorem dX5_addBlock_28 : decode cX5_addBlock 28 = .ok (.ifCond .ne 6, 3) := by decide +kernel
theorem dX5_addBlock_31 : decode cX5_addBlock 31 = .ok (.bipush (-2), 2) := by decide +kernel
theorem dX5_addBlock_33 : decode cX5_addBlock 33 = .ok (.ireturn, 1) := by decide +kernel
theorem dX5_addBlock_34 : decode cX5_addBlock 34 = .ok (.aload_n 0, 1) := by decide +kernel
theorem dX5_addBlock_35 : decode cX5_addBlock 35 = .ok (.getfield 19, 3) := by decide +kernel
theorem dX5_addBlock_38 : decode cX5_addBlock 38 = .ok (.getfield 51, 3) := by decide +kernel
theorem dX5_addBlock_41 : decode cX5_addBlock 41 = .ok (.bipush 8, 2) := by decide +kernel
theorem dX5_addBlock_43 : decode cX5_addBlock 43 = .ok (.if_icmp .lt 6, 3) := by decide +kernel
theorem dX5_addBlock_46 : decode cX5_addBlock 46 = .ok (.bipush (-3), 2) := by decide +kernel
theorem dX5_addBlock_48 : decode cX5_addBlock 48 = .ok (.ireturn, 1) := by decide +kernel
theorem dX5_addBlock_49 : decode cX5_addBlock 49 = .ok (.aload_n 0, 1) := by decide +kernel
theorem dX5_addBlock_50 : decode cX5_addBlock 50 = .ok (.getfield 32, 3) := by decide +kernel
theorem dX5_addBlock_53 : decode cX5_addBlock 53 = .ok (.aload_n 0, 1) := by decide +kernel
theorem dX5_addBlock_54 : decode cX5_addBlock 54 = .ok (.getfield 19, 3) := by decide +kernel
theorem dX5_addBlock_57 : decode cX5_addBlock 57 = .ok (.invokevirtual 54, 3) := by decide +kernel
theorem dX5_addBlock_60 : decode cX5_addBlock 60 = .ok (.aload_n 0, 1) := by decide +kernel
theorem dX5_addBlock_61 : decode cX5_addBlock 61 = .ok (.getfield 19, 3) := by decide +kernel
theorem dX5_addBlock_64 : decode cX5_addBlock 64 = .ok (.aload_n 0, 1) := by decide +kernel
theorem dX5_addBlock_65 : decode cX5_addBlock 65 = .ok (.getfield 12, 3) := by decide +kernel
theorem dX5_addBlock_68 : decode cX5_addBlock 68 = .ok (.invokevirtual 58, 3) := by decide +kernel
theorem dX5_addBlock_71 : decode cX5_addBlock 71 = .ok (.istore_n 1, 1) := by decide +kernel
theorem dX5_addBlock_72 : decode cX5_addBlock 72 = .ok (.aload_n 0, 1) := by decide +kernel
theorem dX5_addBlock_73 : decode cX5_addBlock 73 = .ok (.getfield 19, 3) := by decide +kernel
theorem dX5_addBlock_76 : decode cX5_addBlock 76 = .ok (.invokevirtual 62, 3) := by decide +kernel
theorem dX5_addBlock_79 : decode cX5_addBlock 79 = .ok (.iload_n 1, 1) := by decide +kernel
theorem dX5_addBlock_80 : decode cX5_addBlock 80 = .ok (.ireturn, 1) := by decide +kernel
theorem dX5_ask_0 : decode cX5_ask 0 = .ok (.iload_n 1, 1) := by decide +kernel
theorem dX5_ask_1 : decode cX5_ask 1 = .ok (.iconst 0, 1) := by decide +kernel
theorem dX5_ask_2 : decode cX5_ask 2 = .ok (.iconst 4, 1) := by decide +kernel
theorem dX5_ask_3 : decode cX5_ask 3 = .ok (.invokestatic 120, 3) := by decide +kernel
theorem dX5_ask_6 : decode cX5_ask 6 = .ok (.ifCond .eq 48, 3) := by decide +kernel
theorem dX5_ask_9 : decode cX5_ask 9 = .ok (.iload_n 2, 1) := by decide +kernel
theorem dX5_ask_10 : decode cX5_ask 10 = .ok (.iconst 1, 1) := by decide +kernel
theorem dX5_ask_11 : decode cX5_ask 11 = .ok (.bipush 15, 2) := by decide +kernel
theorem dX5_ask_13 : decode cX5_ask 13 = .ok (.invokestatic 120, 3) := by decide +kernel
theorem dX5_ask_16 : decode cX5_ask 16 = .ok (.ifCond .eq 38, 3) := by decide +kernel
theorem dX5_ask_19 : decode cX5_ask 19 = .ok (.iload_n 3, 1) := by decide +kernel
theorem dX5_ask_20 : decode cX5_ask 20 = .ok (.iconst 0, 1) := by decide +kernel
theorem dX5_ask_21 : decode cX5_ask 21 = .ok (.iload_n 1, 1) := by decide +kernel
theorem dX5_ask_22 : decode cX5_ask 22 = .ok (.iconst 1, 1) := by decide +kernel
theorem dX5_ask_23 : decode cX5_ask 23 = .ok (.if_icmp .ne 9, 3) := by decide +kernel
theorem dX5_ask_26 : decode cX5_ask 26 = .ok (.sipush 999, 3) := by decide +kernel
theorem dX5_ask_29 : decode cX5_ask 29 = .ok (.goto 4, 3) := by decide +kernel
theorem dX5_ask_32 : decode cX5_ask 32 = .ok (.iconst 0, 1) := by decide +kernel
theorem dX5_ask_33 : decode cX5_ask 33 = .ok (.invokestatic 120, 3) := by decide +kernel
theorem dX5_ask_36 : decode cX5_ask 36 = .ok (.ifCond .eq 18, 3) := by decide +kernel
theorem dX5_ask_39 : decode cX5_ask 39 = .ok (.iload 4, 2) := by decide +kernel
theorem dX5_ask_41 : decode cX5_ask 41 = .ok (.iconst 0, 1) := by decide +kernel
theorem dX5_ask_42 : decode cX5_ask 42 = .ok (.ldc 124, 2) := by decide +kernel
theorem dX5_ask_44 : decode cX5_ask 44 = .ok (.invokestatic 120, 3) := by decide +kernel
theorem dX5_ask_47 : decode cX5_ask 47 = .ok (.ifCond .eq 7, 3) := by decide +kernel
theorem dX5_ask_50 : decode cX5_ask 50 = .ok (.iconst 1, 1) := by decide +kernel
theorem dX5_ask_51 : decode cX5_ask 51 = .ok (.goto 4, 3) := by decide +kernel
theorem dX5_ask_54 : decode cX5_ask 54 = .ok (.iconst 0, 1) := by decide +kernel
theorem dX5_ask_55 : decode cX5_ask 55 = .ok (.istore 5, 2) := by decide +kernel
theorem dX5_ask_57 : decode cX5_ask 57 = .ok (.iload 5, 2) := by decide +kernel
theorem dX5_ask_59 : decode cX5_ask 59 = .ok (.ifCond .ne 6, 3) := by decide +kernel
theorem dX5_ask_62 : decode cX5_ask 62 = .ok (.bipush (-2), 2) := by decide +kernel
theorem dX5_ask_64 : decode cX5_ask 64 = .ok (.ireturn, 1) := by decide +kernel
theorem dX5_ask_65 : decode cX5_ask 65 = .ok (.aload_n 0, 1) := by decide +kernel
theorem dX5_ask_66 : decode cX5_ask 66 = .ok (.getfield 19, 3) := by decide +kernel
theorem dX5_ask_69 : decode cX5_ask 69 = .ok (.getfield 125, 3) := by decide +kernel
theorem dX5_ask_72 : decode cX5_ask 72 = .ok (.bipush 6, 2) := by decide +kernel
theorem dX5_ask_74 : decode cX5_ask 74 = .ok (.if_icmp .lt 6, 3) := by decide +kernel
theorem dX5_ask_77 : decode cX5_ask 77 = .ok (.bipush (-3), 2) := by decide +kernel
theorem dX5_ask_79 : decode cX5_ask 79 = .ok (.ireturn, 1) := by decide +kernel
theorem dX5_ask_80 : decode cX5_ask 80 = .ok (.aload_n 0, 1) := by decide +kernel
theorem dX5_ask_81 : decode cX5_ask 81 = .ok (.getfield 32, 3) := by decide +kernel
theorem dX5_ask_84 : decode cX5_ask 84 = .ok (.aload_n 0, 1) := by decide +kernel
theorem dX5_ask_85 : decode cX5_ask 85 = .ok (.getfield 19, 3) := by decide +kernel
theorem dX5_ask_88 : decode cX5_ask 88 = .ok (.invokevirtual 54, 3) := by decide +kernel
theorem dX5_ask_91 : decode cX5_ask 91 = .ok (.aload_n 0, 1) := by decide +kernel
theorem dX5_ask_92 : decode cX5_ask 92 = .ok (.getfield 19, 3) := by decide +kernel
theorem dX5_ask_95 : decode cX5_ask 95 = .ok (.iload_n 1, 1) := by decide +kernel
theorem dX5_ask_96 : decode cX5_ask 96 = .ok (.iload_n 2, 1) := by decide +kernel
theorem dX5_ask_97 : decode cX5_ask 97 = .ok (.iload_n 3, 1) := by decide +kernel
theorem dX5_ask_98 : decode cX5_ask 98 = .ok (.iload 4, 2) := by decide +kernel
theorem dX5_ask_100 : decode cX5_ask 100 = .ok (.invokevirtual 128, 3) := by decide +kernel
theorem dX5_ask_103 : decode cX5_ask 103 = .ok (.istore 6, 2) := by decide +kernel
theorem dX5_ask_105 : decode cX5_ask 105 = .ok (.aload_n 0, 1) := by decide +kernel
theorem dX5_ask_106 : decode cX5_ask 106 = .ok (.getfield 19, 3) := by decide +kernel
theorem dX5_ask_109 : decode cX5_ask 109 = .ok (.invokevirtual 62, 3) := by decide +kernel
theorem dX5_ask_112 : decode cX5_ask 112 = .ok (.iload 6, 2) := by decide +kernel
theorem dX5_ask_114 : decode cX5_ask 114 = .ok (.ireturn, 1) := by decide +kernel
theorem dX5_setPlan_0 : decode cX5_setPlan 0 = .ok (.iload_n 1, 1) := by decide +kernel
theorem dX5_setPlan_1 : decode cX5_setPlan 1 = .ok (.iconst 0, 1) := by decide +kernel
theorem dX5_setPlan_2 : decode cX5_setPlan 2 = .ok (.iconst 2, 1) := by decide +kernel
theorem dX5_setPlan_3 : decode cX5_setPlan 3 = .ok (.invokestatic 120, 3) := by decide +kernel
theorem dX5_setPlan_6 : decode cX5_setPlan 6 = .ok (.ifCond .ne 6, 3) := by decide +kernel
theorem dX5_setPlan_9 : decode cX5_setPlan 9 = .ok (.bipush (-2), 2) := by decide +kernel
theorem dX5_setPlan_11 : decode cX5_setPlan 11 = .ok (.ireturn, 1) := by decide +kernel
theorem dX5_setPlan_12 : decode cX5_setPlan 12 = .ok (.aload_n 0, 1) := by decide +kernel
theorem dX5_setPlan_13 : decode cX5_setPlan 13 = .ok (.getfield 19, 3) := by decide +kernel
theorem dX5_setPlan_16 : decode cX5_setPlan 16 = .ok (.getfield 165, 3) := by decide +kernel
theorem dX5_setPlan_19 : decode cX5_setPlan 19 = .ok (.istore_n 2, 1) := by decide +kernel
theorem dX5_setPlan_20 : decode cX5_setPlan 20 = .ok (.iload_n 2, 1) := by decide +kernel
theorem dX5_setPlan_21 : decode cX5_setPlan 21 = .ok (.iload_n 1, 1) := by decide +kernel
theorem dX5_setPlan_22 : decode cX5_setPlan 22 = .ok (.if_icmp .ne 6, 3) := by decide +kernel
theorem dX5_setPlan_25 : decode cX5_setPlan 25 = .ok (.bipush (-5), 2) := by decide +kernel
theorem dX5_setPlan_27 : decode cX5_setPlan 27 = .ok (.ireturn, 1) := by decide +kernel
theorem dX5_setPlan_28 : decode cX5_setPlan 28 = .ok (.aload_n 0, 1) := by decide +kernel
theorem dX5_setPlan_29 : decode cX5_setPlan 29 = .ok (.getfield 32, 3) := by decide +kernel
theorem dX5_setPlan_32 : decode cX5_setPlan 32 = .ok (.aload_n 0, 1) := by decide +kernel
theorem dX5_setPlan_33 : decode cX5_setPlan 33 = .ok (.getfield 19, 3) := by decide +kernel
theorem dX5_setPlan_36 : decode cX5_setPlan 36 = .ok (.invokevirtual 54, 3) := by decide +kernel
theorem dX5_setPlan_39 : decode cX5_setPlan 39 = .ok (.aload_n 0, 1) := by decide +kernel
theorem dX5_setPlan_40 : decode cX5_setPlan 40 = .ok (.getfield 19, 3) := by decide +kernel
theorem dX5_setPlan_43 : decode cX5_setPlan 43 = .ok (.iload_n 1, 1) := by decide +kernel
theorem dX5_setPlan_44 : decode cX5_setPlan 44 = .ok (.putfield 165, 3) := by decide +kernel
theorem dX5_setPlan_47 : decode cX5_setPlan 47 = .ok (.aload_n 0, 1) := by decide +kernel
theorem dX5_setPlan_48 : decode cX5_setPlan 48 = .ok (.getfield 19, 3) := by decide +kernel
theorem dX5_setPlan_51 : decode cX5_setPlan 51 = .ok (.invokevirtual 62, 3) := by decide +kernel
theorem dX5_setPlan_54 : decode cX5_setPlan 54 = .ok (.iload_n 2, 1) := by decide +kernel
theorem dX5_setPlan_55 : decode cX5_setPlan 55 = .ok (.ireturn, 1) := by decide +kernel
theorem dX5_read_0 : decode cX5_read 0 = .ok (.iload_n 1, 1) := by decide +kernel
theorem dX5_read_1 : decode cX5_read 1 = .ok (.iconst 1, 1) := by decide +kernel
theorem dX5_read_2 : decode cX5_read 2 = .ok (.sipush 128, 3) := by decide +kernel
theorem dX5_read_5 : decode cX5_read 5 = .ok (.invokestatic 120, 3) := by decide +kernel
theorem dX5_read_8 : decode cX5_read 8 = .ok (.ifCond .ne 6, 3) := by decide +kernel
theorem dX5_read_11 : decode cX5_read 11 = .ok (.bipush (-2), 2) := by decide +kernel
theorem dX5_read_13 : decode cX5_read 13 = .ok (.ireturn, 1) := by decide +kernel
theorem dX5_read_14 : decode cX5_read 14 = .ok (.aload_n 0, 1) := by decide +kernel
theorem dX5_read_15 : decode cX5_read 15 = .ok (.getfield 19, 3) := by decide +kernel
theorem dX5_read_18 : decode cX5_read 18 = .ok (.invokevirtual 168, 3) := by decide +kernel
theorem dX5_read_21 : decode cX5_read 21 = .ok (.bipush (-5), 2) := by decide +kernel
theorem dX5_read_23 : decode cX5_read 23 = .ok (.if_icmp .ne 6, 3) := by decide +kernel
theorem dX5_read_26 : decode cX5_read 26 = .ok (.bipush (-5), 2) := by decide +kernel
theorem dX5_read_28 : decode cX5_read 28 = .ok (.ireturn, 1) := by decide +kernel
theorem dX5_read_29 : decode cX5_read 29 = .ok (.aload_n 0, 1) := by decide +kernel
theorem dX5_read_30 : decode cX5_read 30 = .ok (.getfield 32, 3) := by decide +kernel
theorem dX5_read_33 : decode cX5_read 33 = .ok (.aload_n 0, 1) := by decide +kernel
theorem dX5_read_34 : decode cX5_read 34 = .ok (.getfield 19, 3) := by decide +kernel
theorem dX5_read_37 : decode cX5_read 37 = .ok (.invokevirtual 54, 3) := by decide +kernel
theorem dX5_read_40 : decode cX5_read 40 = .ok (.iconst 0, 1) := by decide +kernel
theorem dX5_read_41 : decode cX5_read 41 = .ok (.istore_n 2, 1) := by decide +kernel
theorem dX5_read_42 : decode cX5_read 42 = .ok (.iconst 0, 1) := by decide +kernel
theorem dX5_read_43 : decode cX5_read 43 = .ok (.istore_n 3, 1) := by decide +kernel
theorem dX5_read_44 : decode cX5_read 44 = .ok (.iload_n 3, 1) := by decide +kernel
theorem dX5_read_45 : decode cX5_read 45 = .ok (.iload_n 1, 1) := by decide +kernel
theorem dX5_read_46 : decode cX5_read 46 = .ok (.if_icmp .ge 22, 3) := by decide +kernel
theorem dX5_read_49 : decode cX5_read 49 = .ok (.aload_n 0, 1) := by decide +kernel
theorem dX5_read_50 : decode cX5_read 50 = .ok (.getfield 19, 3) := by decide +kernel
theorem dX5_read_53 : decode cX5_read 53 = .ok (.invokevirtual 171, 3) := by decide +kernel
theorem dX5_read_56 : decode cX5_read 56 = .ok (.ifCond .eq 12, 3) := by decide +kernel
theorem dX5_read_59 : decode cX5_read 59 = .ok (.iinc 2 1, 3) := by decide +kernel
theorem dX5_read_62 : decode cX5_read 62 = .ok (.iinc 3 1, 3) := by decide +kernel
theorem dX5_read_65 : decode cX5_read 65 = .ok (.goto (-21), 3) := by decide +kernel
theorem dX5_read_68 : decode cX5_read 68 = .ok (.iload_n 2, 1) := by decide +kernel
theorem dX5_read_69 : decode cX5_read 69 = .ok (.ireturn, 1) := by decide +kernel
theorem dX5_readOn_0 : decode cX5_readOn 0 = .ok (.aload_n 0, 1) := by decide +kernel
theorem dX5_readOn_1 : decode cX5_readOn 1 = .ok (.getfield 19, 3) := by decide +kernel
theorem dX5_readOn_4 : decode cX5_readOn 4 = .ok (.invokevirtual 174, 3) := by decide +kernel
theorem dX5_readOn_7 : decode cX5_readOn 7 = .ok (.ifCond .ne 6, 3) := by decide +kernel
theorem dX5_readOn_10 : decode cX5_readOn 10 = .ok (.bipush (-4), 2) := by decide +kernel
theorem dX5_readOn_12 : decode cX5_readOn 12 = .ok (.ireturn, 1) := by decide +kernel
theorem dX5_readOn_13 : decode cX5_readOn 13 = .ok (.aload_n 0, 1) := by decide +kernel
theorem dX5_readOn_14 : decode cX5_readOn 14 = .ok (.getfield 19, 3) := by decide +kernel
theorem dX5_readOn_17 : decode cX5_readOn 17 = .ok (.invokevirtual 168, 3) := by decide +kernel
theorem dX5_readOn_20 : decode cX5_readOn 20 = .ok (.bipush (-5), 2) := by decide +kernel
theorem dX5_readOn_22 : decode cX5_readOn 22 = .ok (.if_icmp .ne 6, 3) := by decide +kernel
theorem dX5_readOn_25 : decode cX5_readOn 25 = .ok (.bipush (-5), 2) := by decide +kernel
theorem dX5_readOn_27 : decode cX5_readOn 27 = .ok (.ireturn, 1) := by decide +kernel
theorem dX5_readOn_28 : decode cX5_readOn 28 = .ok (.aload_n 0, 1) := by decide +kernel
theorem dX5_readOn_29 : decode cX5_readOn 29 = .ok (.getfield 32, 3) := by decide +kernel
theorem dX5_readOn_32 : decode cX5_readOn 32 = .ok (.aload_n 0, 1) := by decide +kernel
theorem dX5_readOn_33 : decode cX5_readOn 33 = .ok (.getfield 19, 3) := by decide +kernel
theorem dX5_readOn_36 : decode cX5_readOn 36 = .ok (.invokevirtual 54, 3) := by decide +kernel
theorem dX5_readOn_39 : decode cX5_readOn 39 = .ok (.aload_n 0, 1) := by decide +kernel
theorem dX5_readOn_40 : decode cX5_readOn 40 = .ok (.getfield 19, 3) := by decide +kernel
theorem dX5_readOn_43 : decode cX5_readOn 43 = .ok (.invokevirtual 177, 3) := by decide +kernel
theorem dX5_readOn_46 : decode cX5_readOn 46 = .ok (.ireturn, 1) := by decide +kernel
theorem dX5_type_0 : decode cX5_type 0 = .ok (.aload_n 0, 1) := by decide +kernel
theorem dX5_type_1 : decode cX5_type 1 = .ok (.getfield 12, 3) := by decide +kernel
theorem dX5_type_4 : decode cX5_type 4 = .ok (.getfield 186, 3) := by decide +kernel
theorem dX5_type_7 : decode cX5_type 7 = .ok (.bipush 80, 2) := by decide +kernel
theorem dX5_type_9 : decode cX5_type 9 = .ok (.if_icmp .lt 6, 3) := by decide +kernel
theorem dX5_type_12 : decode cX5_type 12 = .ok (.bipush (-3), 2) := by decide +kernel
theorem dX5_type_14 : decode cX5_type 14 = .ok (.ireturn, 1) := by decide +kernel
theorem dX5_type_15 : decode cX5_type 15 = .ok (.aload_n 0, 1) := by decide +kernel
theorem dX5_type_16 : decode cX5_type 16 = .ok (.getfield 12, 3) := by decide +kernel
theorem dX5_type_19 : decode cX5_type 19 = .ok (.iload_n 1, 1) := by decide +kernel
theorem dX5_type_20 : decode cX5_type 20 = .ok (.invokevirtual 189, 3) := by decide +kernel
theorem dX5_type_23 : decode cX5_type 23 = .ok (.aload_n 0, 1) := by decide +kernel
theorem dX5_type_24 : decode cX5_type 24 = .ok (.getfield 12, 3) := by decide +kernel
theorem dX5_type_27 : decode cX5_type 27 = .ok (.getfield 186, 3) := by decide +kernel
theorem dX5_type_30 : decode cX5_type 30 = .ok (.ireturn, 1) := by decide +kernel
theorem dX5_clearText_0 : decode cX5_clearText 0 = .ok (.aload_n 0, 1) := by decide +kernel
theorem dX5_clearText_1 : decode cX5_clearText 1 = .ok (.getfield 12, 3) := by decide +kernel
theorem dX5_clearText_4 : decode cX5_clearText 4 = .ok (.getfield 186, 3) := by decide +kernel
theorem dX5_clearText_7 : decode cX5_clearText 7 = .ok (.istore_n 1, 1) := by decide +kernel
theorem dX5_clearText_8 : decode cX5_clearText 8 = .ok (.aload_n 0, 1) := by decide +kernel
theorem dX5_clearText_9 : decode cX5_clearText 9 = .ok (.getfield 12, 3) := by decide +kernel
theorem dX5_clearText_12 : decode cX5_clearText 12 = .ok (.iconst 0, 1) := by decide +kernel
theorem dX5_clearText_13 : decode cX5_clearText 13 = .ok (.putfield 186, 3) := by decide +kernel
theorem dX5_clearText_16 : decode cX5_clearText 16 = .ok (.iload_n 1, 1) := by decide +kernel
theorem dX5_clearText_17 : decode cX5_clearText 17 = .ok (.ireturn, 1) := by decide +kernel
theorem dX5_block_0 : decode cX5_block 0 = .ok (.aload_n 0, 1) := by decide +kernel
theorem dX5_block_1 : decode cX5_block 1 = .ok (.getfield 19, 3) := by decide +kernel
theorem dX5_block_4 : decode cX5_block 4 = .ok (.iload_n 1, 1) := by decide +kernel
theorem dX5_block_5 : decode cX5_block 5 = .ok (.invokevirtual 65, 3) := by decide +kernel
theorem dX5_block_8 : decode cX5_block 8 = .ok (.ifCond .ne 5, 3) := by decide +kernel
theorem dX5_block_11 : decode cX5_block 11 = .ok (.iconst (-1), 1) := by decide +kernel
theorem dX5_block_12 : decode cX5_block 12 = .ok (.ireturn, 1) := by decide +kernel
theorem dX5_block_13 : decode cX5_block 13 = .ok (.aload_n 0, 1) := by decide +kernel
theorem dX5_block_14 : decode cX5_block 14 = .ok (.getfield 19, 3) := by decide +kernel
theorem dX5_block_17 : decode cX5_block 17 = .ok (.getfield 69, 3) := by decide +kernel
theorem dX5_block_20 : decode cX5_block 20 = .ok (.iload_n 1, 1) := by decide +kernel
theorem dX5_block_21 : decode cX5_block 21 = .ok (.aaload, 1) := by decide +kernel
theorem dX5_block_22 : decode cX5_block 22 = .ok (.astore_n 3, 1) := by decide +kernel
theorem dX5_block_23 : decode cX5_block 23 = .ok (.iload_n 2, 1) := by decide +kernel
theorem dX5_block_24 : decode cX5_block 24 = .ok (.tableswitch 83 0 6 #[44, 49, 54, 59, 64, 69, 78], 44) := by decide +kernel
theorem dX5_block_68 : decode cX5_block 68 = .ok (.aload_n 3, 1) := by decide +kernel
theorem dX5_block_69 : decode cX5_block 69 = .ok (.getfield 201, 3) := by decide +kernel
theorem dX5_block_72 : decode cX5_block 72 = .ok (.ireturn, 1) := by decide +kernel
theorem dX5_block_73 : decode cX5_block 73 = .ok (.aload_n 3, 1) := by decide +kernel
theorem dX5_block_74 : decode cX5_block 74 = .ok (.getfield 110, 3) := by decide +kernel
theorem dX5_block_77 : decode cX5_block 77 = .ok (.ireturn, 1) := by decide +kernel
theorem dX5_block_78 : decode cX5_block 78 = .ok (.aload_n 3, 1) := by decide +kernel
theorem dX5_block_79 : decode cX5_block 79 = .ok (.getfield 107, 3) := by decide +kernel
theorem dX5_block_82 : decode cX5_block 82 = .ok (.ireturn, 1) := by decide +kernel
theorem dX5_block_83 : decode cX5_block 83 = .ok (.aload_n 3, 1) := by decide +kernel
theorem dX5_block_84 : decode cX5_block 84 = .ok (.getfield 78, 3) := by decide +kernel
theorem dX5_block_87 : decode cX5_block 87 = .ok (.ireturn, 1) := by decide +kernel
theorem dX5_block_88 : decode cX5_block 88 = .ok (.aload_n 3, 1) := by decide +kernel
theorem dX5_block_89 : decode cX5_block 89 = .ok (.getfield 97, 3) := by decide +kernel
theorem dX5_block_92 : decode cX5_block 92 = .ok (.ireturn, 1) := by decide +kernel
theorem dX5_block_93 : decode cX5_block 93 = .ok (.aload_n 0, 1) := by decide +kernel
theorem dX5_block_94 : decode cX5_block 94 = .ok (.getfield 19, 3) := by decide +kernel
theorem dX5_block_97 : decode cX5_block 97 = .ok (.aload_n 3, 1) := by decide +kernel
theorem dX5_block_98 : decode cX5_block 98 = .ok (.invokevirtual 204, 3) := by decide +kernel
theorem dX5_block_101 : decode cX5_block 101 = .ok (.ireturn, 1) := by decide +kernel
theorem dX5_block_102 : decode cX5_block 102 = .ok (.aload_n 3, 1) := by decide +kernel
theorem dX5_block_103 : decode cX5_block 103 = .ok (.getfield 208, 3) := by decide +kernel
theorem dX5_block_106 : decode cX5_block 106 = .ok (.ireturn, 1) := by decide +kernel
theorem dX5_block_107 : decode cX5_block 107 = .ok (.bipush (-2), 2) := by decide +kernel
theorem dX5_block_109 : decode cX5_block 109 = .ok (.ireturn, 1) := by decide +kernel
theorem dX5_value_0 : decode cX5_value 0 = .ok (.aload_n 0, 1) := by decide +kernel
theorem dX5_value_1 : decode cX5_value 1 = .ok (.getfield 19, 3) := by decide +kernel
theorem dX5_value_4 : decode cX5_value 4 = .ok (.iload_n 1, 1) := by decide +kernel
theorem dX5_value_5 : decode cX5_value 5 = .ok (.iload_n 2, 1) := by decide +kernel
theorem dX5_value_6 : decode cX5_value 6 = .ok (.invokevirtual 85, 3) := by decide +kernel
theorem dX5_value_9 : decode cX5_value 9 = .ok (.ifCond .ne 5, 3) := by decide +kernel
theorem dX5_value_12 : decode cX5_value 12 = .ok (.iconst (-1), 1) := by decide +kernel
theorem dX5_value_13 : decode cX5_value 13 = .ok (.ireturn, 1) := by decide +kernel
theorem dX5_value_14 : decode cX5_value 14 = .ok (.aload_n 0, 1) := by decide +kernel
theorem dX5_value_15 : decode cX5_value 15 = .ok (.getfield 19, 3) := by decide +kernel
theorem dX5_value_18 : decode cX5_value 18 = .ok (.getfield 69, 3) := by decide +kernel
theorem dX5_value_21 : decode cX5_value 21 = .ok (.iload_n 1, 1) := by decide +kernel
theorem dX5_value_22 : decode cX5_value 22 = .ok (.aaload, 1) := by decide +kernel
theorem dX5_value_23 : decode cX5_value 23 = .ok (.astore_n 3, 1) := by decide +kernel
theorem dX5_value_24 : decode cX5_value 24 = .ok (.iload_n 2, 1) := by decide +kernel
theorem dX5_value_25 : decode cX5_value 25 = .ok (.aload_n 3, 1) := by decide +kernel
theorem dX5_value_26 : decode cX5_value 26 = .ok (.getfield 97, 3) := by decide +kernel
theorem dX5_value_29 : decode cX5_value 29 = .ok (.if_icmp .ge 12, 3) := by decide +kernel
theorem dX5_value_32 : decode cX5_value 32 = .ok (.aload_n 3, 1) := by decide +kernel
theorem dX5_value_33 : decode cX5_value 33 = .ok (.getfield 89, 3) := by decide +kernel
theorem dX5_value_36 : decode cX5_value 36 = .ok (.iload_n 2, 1) := by decide +kernel
theorem dX5_value_37 : decode cX5_value 37 = .ok (.iaload, 1) := by decide +kernel
theorem dX5_value_38 : decode cX5_value 38 = .ok (.goto 5, 3) := by decide +kernel
theorem dX5_value_41 : decode cX5_value 41 = .ok (.bipush (-4), 2) := by decide +kernel
theorem dX5_value_43 : decode cX5_value 43 = .ok (.ireturn, 1) := by decide +kernel
theorem dX5_question_0 : decode cX5_question 0 = .ok (.aload_n 0, 1) := by decide +kernel
theorem dX5_question_1 : decode cX5_question 1 = .ok (.getfield 19, 3) := by decide +kernel
theorem dX5_question_4 : decode cX5_question 4 = .ok (.iload_n 1, 1) := by decide +kernel
theorem dX5_question_5 : decode cX5_question 5 = .ok (.invokevirtual 132, 3) := by decide +kernel
theorem dX5_question_8 : decode cX5_question 8 = .ok (.ifCond .ne 5, 3) := by decide +kernel
theorem dX5_question_11 : decode cX5_question 11 = .ok (.iconst (-1), 1) := by decide +kernel
theorem dX5_question_12 : decode cX5_question 12 = .ok (.ireturn, 1) := by decide +kernel
theorem dX5_question_13 : decode cX5_question 13 = .ok (.aload_n 0, 1) := by decide +kernel
theorem dX5_question_14 : decode cX5_question 14 = .ok (.getfield 19, 3) := by decide +kernel
theorem dX5_question_17 : decode cX5_question 17 = .ok (.getfield 135, 3) := by decide +kernel
theorem dX5_question_20 : decode cX5_question 20 = .ok (.iload_n 1, 1) := by decide +kernel
theorem dX5_question_21 : decode cX5_question 21 = .ok (.aaload, 1) := by decide +kernel
theorem dX5_question_22 : decode cX5_question 22 = .ok (.astore_n 3, 1) := by decide +kernel
theorem dX5_question_23 : decode cX5_question 23 = .ok (.iload_n 2, 1) := by decide +kernel
theorem dX5_question_24 : decode cX5_question 24 = .ok (.tableswitch 206 0 12 #[68, 73, 78, 83, 88, 101, 111, 121, 131, 148, 165, 182, 194], 68) := by decide +kernel
theorem dX5_question_92 : decode cX5_question 92 = .ok (.aload_n 3, 1) := by decide +kernel
theorem dX5_question_93 : decode cX5_question 93 = .ok (.getfield 211, 3) := by decide +kernel
theorem dX5_question_96 : decode cX5_question 96 = .ok (.ireturn, 1) := by decide +kernel
theorem dX5_question_97 : decode cX5_question 97 = .ok (.aload_n 3, 1) := by decide +kernel
theorem dX5_question_98 : decode cX5_question 98 = .ok (.getfield 147, 3) := by decide +kernel
theorem dX5_question_101 : decode cX5_question 101 = .ok (.ireturn, 1) := by decide +kernel
theorem dX5_question_102 : decode cX5_question 102 = .ok (.aload_n 3, 1) := by decide +kernel
theorem dX5_question_103 : decode cX5_question 103 = .ok (.getfield 214, 3) := by decide +kernel
theorem dX5_question_106 : decode cX5_question 106 = .ok (.ireturn, 1) := by decide +kernel
theorem dX5_question_107 : decode cX5_question 107 = .ok (.aload_n 3, 1) := by decide +kernel
theorem dX5_question_108 : decode cX5_question 108 = .ok (.getfield 144, 3) := by decide +kernel
theorem dX5_question_111 : decode cX5_question 111 = .ok (.ireturn, 1) := by decide +kernel
theorem dX5_question_112 : decode cX5_question 112 = .ok (.aload_n 3, 1) := by decide +kernel
theorem dX5_question_113 : decode cX5_question 113 = .ok (.getfield 139, 3) := by decide +kernel
theorem dX5_question_116 : decode cX5_question 116 = .ok (.ifCond .eq 7, 3) := by decide +kernel
theorem dX5_question_119 : decode cX5_question 119 = .ok (.iconst 1, 1) := by decide +kernel
theorem dX5_question_120 : decode cX5_question 120 = .ok (.goto 4, 3) := by decide +kernel
theorem dX5_question_123 : decode cX5_question 123 = .ok (.iconst 0, 1) := by decide +kernel
theorem dX5_question_124 : decode cX5_question 124 = .ok (.ireturn, 1) := by decide +kernel
theorem dX5_question_125 : decode cX5_question 125 = .ok (.aload_n 0, 1) := by decide +kernel
theorem dX5_question_126 : decode cX5_question 126 = .ok (.getfield 19, 3) := by decide +kernel
theorem dX5_question_129 : decode cX5_question 129 = .ok (.aload_n 3, 1) := by decide +kernel
theorem dX5_question_130 : decode cX5_question 130 = .ok (.iconst 0, 1) := by decide +kernel
theorem dX5_question_131 : decode cX5_question 131 = .ok (.invokevirtual 152, 3) := by decide +kernel
theorem dX5_question_134 : decode cX5_question 134 = .ok (.ireturn, 1) := by decide +kernel
theorem dX5_question_135 : decode cX5_question 135 = .ok (.aload_n 0, 1) := by decide +kernel
theorem dX5_question_136 : decode cX5_question 136 = .ok (.getfield 19, 3) := by decide +kernel
theorem dX5_question_139 : decode cX5_question 139 = .ok (.aload_n 3, 1) := by decide +kernel
theorem dX5_question_140 : decode cX5_question 140 = .ok (.iconst 1, 1) := by decide +kernel
theorem dX5_question_141 : decode cX5_question 141 = .ok (.invokevirtual 152, 3) := by decide +kernel
theorem dX5_question_144 : decode cX5_question 144 = .ok (.ireturn, 1) := by decide +kernel
theorem dX5_question_145 : decode cX5_question 145 = .ok (.aload_n 0, 1) := by decide +kernel
theorem dX5_question_146 : decode cX5_question 146 = .ok (.getfield 19, 3) := by decide +kernel
theorem dX5_question_149 : decode cX5_question 149 = .ok (.aload_n 3, 1) := by decide +kernel
theorem dX5_question_150 : decode cX5_question 150 = .ok (.iconst 2, 1) := by decide +kernel
theorem dX5_question_151 : decode cX5_question 151 = .ok (.invokevirtual 152, 3) := by decide +kernel
theorem dX5_question_154 : decode cX5_question 154 = .ok (.ireturn, 1) := by decide +kernel
theorem dX5_question_155 : decode cX5_question 155 = .ok (.aload_n 3, 1) := by decide +kernel
theorem dX5_question_156 : decode cX5_question 156 = .ok (.getfield 139, 3) := by decide +kernel
theorem dX5_question_159 : decode cX5_question 159 = .ok (.ifCond .eq 10, 3) := by decide +kernel
theorem dX5_question_162 : decode cX5_question 162 = .ok (.aload_n 3, 1) := by decide +kernel
theorem dX5_question_163 : decode cX5_question 163 = .ok (.getfield 217, 3) := by decide +kernel
theorem dX5_question_166 : decode cX5_question 166 = .ok (.goto 5, 3) := by decide +kernel
theorem dX5_question_169 : decode cX5_question 169 = .ok (.bipush (-5), 2) := by decide +kernel
theorem dX5_question_171 : decode cX5_question 171 = .ok (.ireturn, 1) := by decide +kernel
theorem dX5_question_172 : decode cX5_question 172 = .ok (.aload_n 3, 1) := by decide +kernel
theorem dX5_question_173 : decode cX5_question 173 = .ok (.getfield 139, 3) := by decide +kernel
theorem dX5_question_176 : decode cX5_question 176 = .ok (.ifCond .eq 10, 3) := by decide +kernel
theorem dX5_question_179 : decode cX5_question 179 = .ok (.aload_n 3, 1) := by decide +kernel
theorem dX5_question_180 : decode cX5_question 180 = .ok (.getfield 220, 3) := by decide +kernel
theorem dX5_question_183 : decode cX5_question 183 = .ok (.goto 5, 3) := by decide +kernel
theorem dX5_question_186 : decode cX5_question 186 = .ok (.bipush (-5), 2) := by decide +kernel
theorem dX5_question_188 : decode cX5_question 188 = .ok (.ireturn, 1) := by decide +kernel
theorem dX5_question_189 : decode cX5_question 189 = .ok (.aload_n 3, 1) := by decide +kernel
theorem dX5_question_190 : decode cX5_question 190 = .ok (.getfield 139, 3) := by decide +kernel
theorem dX5_question_193 : decode cX5_question 193 = .ok (.ifCond .eq 10, 3) := by decide +kernel
theorem dX5_question_196 : decode cX5_question 196 = .ok (.aload_n 3, 1) := by decide +kernel
theorem dX5_question_197 : decode cX5_question 197 = .ok (.getfield 159, 3) := by decide +kernel
theorem dX5_question_200 : decode cX5_question 200 = .ok (.goto 5, 3) := by decide +kernel
theorem dX5_question_203 : decode cX5_question 203 = .ok (.bipush (-5), 2) := by decide +kernel
theorem dX5_question_205 : decode cX5_question 205 = .ok (.ireturn, 1) := by decide +kernel
theorem dX5_question_206 : decode cX5_question 206 = .ok (.aload_n 0, 1) := by decide +kernel
theorem dX5_question_207 : decode cX5_question 207 = .ok (.getfield 19, 3) := by decide +kernel
theorem dX5_question_210 : decode cX5_question 210 = .ok (.aload_n 3, 1) := by decide +kernel
theorem dX5_question_211 : decode cX5_question 211 = .ok (.getfield 147, 3) := by decide +kernel
theorem dX5_question_214 : decode cX5_question 214 = .ok (.invokevirtual 150, 3) := by decide +kernel
theorem dX5_question_217 : decode cX5_question 217 = .ok (.ireturn, 1) := by decide +kernel
theorem dX5_question_218 : decode cX5_question 218 = .ok (.aload_n 0, 1) := by decide +kernel
theorem dX5_question_219 : decode cX5_question 219 = .ok (.getfield 19, 3) := by decide +kernel
theorem dX5_question_222 : decode cX5_question 222 = .ok (.aload_n 3, 1) := by decide +kernel
theorem dX5_question_223 : decode cX5_question 223 = .ok (.getfield 147, 3) := by decide +kernel
theorem dX5_question_226 : decode cX5_question 226 = .ok (.invokevirtual 113, 3) := by decide +kernel
theorem dX5_question_229 : decode cX5_question 229 = .ok (.ireturn, 1) := by decide +kernel
theorem dX5_question_230 : decode cX5_question 230 = .ok (.bipush (-2), 2) := by decide +kernel
theorem dX5_question_232 : decode cX5_question 232 = .ok (.ireturn, 1) := by decide +kernel
theorem dX5_next_0 : decode cX5_next 0 = .ok (.iload_n 1, 1) := by decide +kernel
theorem dX5_next_1 : decode cX5_next 1 = .ok (.iconst 0, 1) := by decide +kernel
theorem dX5_next_2 : decode cX5_next 2 = .ok (.iconst 1, 1) := by decide +kernel
theorem dX5_next_3 : decode cX5_next 3 = .ok (.invokestatic 120, 3) := by decide +kernel
theorem dX5_next_6 : decode cX5_next 6 = .ok (.ifCond .ne 6, 3) := by decide +kernel
theorem dX5_next_9 : decode cX5_next 9 = .ok (.bipush (-2), 2) := by decide +kernel
theorem dX5_next_11 : decode cX5_next 11 = .ok (.ireturn, 1) := by decide +kernel
theorem dX5_next_12 : decode cX5_next 12 = .ok (.aload_n 0, 1) := by decide +kernel
theorem dX5_next_13 : decode cX5_next 13 = .ok (.getfield 19, 3) := by decide +kernel
theorem dX5_next_16 : decode cX5_next 16 = .ok (.invokevirtual 168, 3) := by decide +kernel
theorem dX5_next_19 : decode cX5_next 19 = .ok (.istore_n 2, 1) := by decide +kernel
theorem dX5_next_20 : decode cX5_next 20 = .ok (.aload_n 0, 1) := by decide +kernel
theorem dX5_next_21 : decode cX5_next 21 = .ok (.getfield 19, 3) := by decide +kernel
theorem dX5_next_24 : decode cX5_next 24 = .ok (.iload_n 2, 1) := by decide +kernel
theorem dX5_next_25 : decode cX5_next 25 = .ok (.invokevirtual 65, 3) := by decide +kernel
theorem dX5_next_28 : decode cX5_next 28 = .ok (.ifCond .ne 6, 3) := by decide +kernel
theorem dX5_next_31 : decode cX5_next 31 = .ok (.bipush (-5), 2) := by decide +kernel
theorem dX5_next_33 : decode cX5_next 33 = .ok (.ireturn, 1) := by decide +kernel
theorem dX5_next_34 : decode cX5_next 34 = .ok (.iload_n 1, 1) := by decide +kernel
theorem dX5_next_35 : decode cX5_next 35 = .ok (.ifCond .ne 7, 3) := by decide +kernel
theorem dX5_next_38 : decode cX5_next 38 = .ok (.iload_n 2, 1) := by decide +kernel
theorem dX5_next_39 : decode cX5_next 39 = .ok (.goto 15, 3) := by decide +kernel
theorem dX5_next_42 : decode cX5_next 42 = .ok (.aload_n 0, 1) := by decide +kernel
theorem dX5_next_43 : decode cX5_next 43 = .ok (.getfield 19, 3) := by decide +kernel
theorem dX5_next_46 : decode cX5_next 46 = .ok (.getfield 69, 3) := by decide +kernel
theorem dX5_next_49 : decode cX5_next 49 = .ok (.iload_n 2, 1) := by decide +kernel
theorem dX5_next_50 : decode cX5_next 50 = .ok (.aaload, 1) := by decide +kernel
theorem dX5_next_51 : decode cX5_next 51 = .ok (.getfield 97, 3) := by decide +kernel
theorem dX5_next_54 : decode cX5_next 54 = .ok (.ireturn, 1) := by decide +kernel
theorem dX5_stopsIn_0 : decode cX5_stopsIn 0 = .ok (.aload_n 0, 1) := by decide +kernel
theorem dX5_stopsIn_1 : decode cX5_stopsIn 1 = .ok (.getfield 19, 3) := by decide +kernel
theorem dX5_stopsIn_4 : decode cX5_stopsIn 4 = .ok (.iload_n 1, 1) := by decide +kernel
theorem dX5_stopsIn_5 : decode cX5_stopsIn 5 = .ok (.invokevirtual 132, 3) := by decide +kernel
theorem dX5_stopsIn_8 : decode cX5_stopsIn 8 = .ok (.ifCond .ne 5, 3) := by decide +kernel
theorem dX5_stopsIn_11 : decode cX5_stopsIn 11 = .ok (.iconst (-1), 1) := by decide +kernel
theorem dX5_stopsIn_12 : decode cX5_stopsIn 12 = .ok (.ireturn, 1) := by decide +kernel
theorem dX5_stopsIn_13 : decode cX5_stopsIn 13 = .ok (.aload_n 0, 1) := by decide +kernel
theorem dX5_stopsIn_14 : decode cX5_stopsIn 14 = .ok (.getfield 19, 3) := by decide +kernel
theorem dX5_stopsIn_17 : decode cX5_stopsIn 17 = .ok (.getfield 135, 3) := by decide +kernel
theorem dX5_stopsIn_20 : decode cX5_stopsIn 20 = .ok (.iload_n 1, 1) := by decide +kernel
theorem dX5_stopsIn_21 : decode cX5_stopsIn 21 = .ok (.aaload, 1) := by decide +kernel
theorem dX5_stopsIn_22 : decode cX5_stopsIn 22 = .ok (.getfield 139, 3) := by decide +kernel
theorem dX5_stopsIn_25 : decode cX5_stopsIn 25 = .ok (.ifCond .eq 6, 3) := by decide +kernel
theorem dX5_stopsIn_28 : decode cX5_stopsIn 28 = .ok (.bipush (-4), 2) := by decide +kernel
theorem dX5_stopsIn_30 : decode cX5_stopsIn 30 = .ok (.ireturn, 1) := by decide +kernel
theorem dX5_stopsIn_31 : decode cX5_stopsIn 31 = .ok (.aload_n 0, 1) := by decide +kernel
theorem dX5_stopsIn_32 : decode cX5_stopsIn 32 = .ok (.getfield 23, 3) := by decide +kernel
theorem dX5_stopsIn_35 : decode cX5_stopsIn 35 = .ok (.aload_n 0, 1) := by decide +kernel
theorem dX5_stopsIn_36 : decode cX5_stopsIn 36 = .ok (.getfield 19, 3) := by decide +kernel
theorem dX5_stopsIn_39 : decode cX5_stopsIn 39 = .ok (.invokevirtual 198, 3) := by decide +kernel
theorem dX5_stopsIn_42 : decode cX5_stopsIn 42 = .ok (.aload_n 0, 1) := by decide +kernel
theorem dX5_stopsIn_43 : decode cX5_stopsIn 43 = .ok (.getfield 23, 3) := by decide +kernel
theorem dX5_stopsIn_46 : decode cX5_stopsIn 46 = .ok (.getfield 135, 3) := by decide +kernel
theorem dX5_stopsIn_49 : decode cX5_stopsIn 49 = .ok (.iload_n 1, 1) := by decide +kernel
theorem dX5_stopsIn_50 : decode cX5_stopsIn 50 = .ok (.aaload, 1) := by decide +kernel
theorem dX5_stopsIn_51 : decode cX5_stopsIn 51 = .ok (.astore_n 2, 1) := by decide +kernel
theorem dX5_stopsIn_52 : decode cX5_stopsIn 52 = .ok (.iconst 1, 1) := by decide +kernel
theorem dX5_stopsIn_53 : decode cX5_stopsIn 53 = .ok (.istore_n 3, 1) := by decide +kernel
theorem dX5_stopsIn_54 : decode cX5_stopsIn 54 = .ok (.iload_n 3, 1) := by decide +kernel
theorem dX5_stopsIn_55 : decode cX5_stopsIn 55 = .ok (.sipush 128, 3) := by decide +kernel
theorem dX5_stopsIn_58 : decode cX5_stopsIn 58 = .ok (.if_icmp .gt 28, 3) := by decide +kernel
theorem dX5_stopsIn_61 : decode cX5_stopsIn 61 = .ok (.aload_n 0, 1) := by decide +kernel
theorem dX5_stopsIn_62 : decode cX5_stopsIn 62 = .ok (.getfield 23, 3) := by decide +kernel
theorem dX5_stopsIn_65 : decode cX5_stopsIn 65 = .ok (.invokevirtual 171, 3) := by decide +kernel
theorem dX5_stopsIn_68 : decode cX5_stopsIn 68 = .ok (.ifCond .eq 18, 3) := by decide +kernel
theorem dX5_stopsIn_71 : decode cX5_stopsIn 71 = .ok (.aload_n 2, 1) := by decide +kernel
theorem dX5_stopsIn_72 : decode cX5_stopsIn 72 = .ok (.getfield 139, 3) := by decide +kernel
theorem dX5_stopsIn_75 : decode cX5_stopsIn 75 = .ok (.ifCond .eq 5, 3) := by decide +kernel
theorem dX5_stopsIn_78 : decode cX5_stopsIn 78 = .ok (.iload_n 3, 1) := by decide +kernel
theorem dX5_stopsIn_79 : decode cX5_stopsIn 79 = .ok (.ireturn, 1) := by decide +kernel
theorem dX5_stopsIn_80 : decode cX5_stopsIn 80 = .ok (.iinc 3 1, 3) := by decide +kernel
theorem dX5_stopsIn_83 : decode cX5_stopsIn 83 = .ok (.goto (-29), 3) := by decide +kernel
theorem dX5_stopsIn_86 : decode cX5_stopsIn 86 = .ok (.bipush (-5), 2) := by decide +kernel
theorem dX5_stopsIn_88 : decode cX5_stopsIn 88 = .ok (.ireturn, 1) := by decide +kernel
theorem dX5_best_0 : decode cX5_best 0 = .ok (.iload_n 1, 1) := by decide +kernel
theorem dX5_best_1 : decode cX5_best 1 = .ok (.iconst 0, 1) := by decide +kernel
theorem dX5_best_2 : decode cX5_best 2 = .ok (.iconst 1, 1) := by decide +kernel
theorem dX5_best_3 : decode cX5_best 3 = .ok (.invokestatic 120, 3) := by decide +kernel
theorem dX5_best_6 : decode cX5_best 6 = .ok (.ifCond .ne 6, 3) := by decide +kernel
theorem dX5_best_9 : decode cX5_best 9 = .ok (.bipush (-2), 2) := by decide +kernel
theorem dX5_best_11 : decode cX5_best 11 = .ok (.ireturn, 1) := by decide +kernel
theorem dX5_best_12 : decode cX5_best 12 = .ok (.aload_n 0, 1) := by decide +kernel
theorem dX5_best_13 : decode cX5_best 13 = .ok (.getfield 19, 3) := by decide +kernel
theorem dX5_best_16 : decode cX5_best 16 = .ok (.invokevirtual 174, 3) := by decide +kernel
theorem dX5_best_19 : decode cX5_best 19 = .ok (.ifCond .ne 6, 3) := by decide +kernel
theorem dX5_best_22 : decode cX5_best 22 = .ok (.bipush (-4), 2) := by decide +kernel
theorem dX5_best_24 : decode cX5_best 24 = .ok (.ireturn, 1) := by decide +kernel
theorem dX5_best_25 : decode cX5_best 25 = .ok (.bipush (-5), 2) := by decide +kernel
theorem dX5_best_27 : decode cX5_best 27 = .ok (.istore_n 2, 1) := by decide +kernel
theorem dX5_best_28 : decode cX5_best 28 = .ok (.sipush 129, 3) := by decide +kernel
theorem dX5_best_31 : decode cX5_best 31 = .ok (.istore_n 3, 1) := by decide +kernel
theorem dX5_best_32 : decode cX5_best 32 = .ok (.iconst 0, 1) := by decide +kernel
theorem dX5_best_33 : decode cX5_best 33 = .ok (.istore 4, 2) := by decide +kernel
theorem dX5_best_35 : decode cX5_best 35 = .ok (.iload 4, 2) := by decide +kernel
theorem dX5_best_37 : decode cX5_best 37 = .ok (.iconst 2, 1) := by decide +kernel
theorem dX5_best_38 : decode cX5_best 38 = .ok (.if_icmp .gt 60, 3) := by decide +kernel
theorem dX5_best_41 : decode cX5_best 41 = .ok (.aload_n 0, 1) := by decide +kernel
theorem dX5_best_42 : decode cX5_best 42 = .ok (.getfield 23, 3) := by decide +kernel
theorem dX5_best_45 : decode cX5_best 45 = .ok (.aload_n 0, 1) := by decide +kernel
theorem dX5_best_46 : decode cX5_best 46 = .ok (.getfield 19, 3) := by decide +kernel
theorem dX5_best_49 : decode cX5_best 49 = .ok (.invokevirtual 198, 3) := by decide +kernel
theorem dX5_best_52 : decode cX5_best 52 = .ok (.aload_n 0, 1) := by decide +kernel
theorem dX5_best_53 : decode cX5_best 53 = .ok (.getfield 23, 3) := by decide +kernel
theorem dX5_best_56 : decode cX5_best 56 = .ok (.iload 4, 2) := by decide +kernel
theorem dX5_best_58 : decode cX5_best 58 = .ok (.putfield 165, 3) := by decide +kernel
theorem dX5_best_61 : decode cX5_best 61 = .ok (.aload_n 0, 1) := by decide +kernel
theorem dX5_best_62 : decode cX5_best 62 = .ok (.getfield 23, 3) := by decide +kernel
theorem dX5_best_65 : decode cX5_best 65 = .ok (.invokevirtual 177, 3) := by decide +kernel
theorem dX5_best_68 : decode cX5_best 68 = .ok (.istore 5, 2) := by decide +kernel
theorem dX5_best_70 : decode cX5_best 70 = .ok (.aload_n 0, 1) := by decide +kernel
theorem dX5_best_71 : decode cX5_best 71 = .ok (.getfield 23, 3) := by decide +kernel
theorem dX5_best_74 : decode cX5_best 74 = .ok (.invokevirtual 174, 3) := by decide +kernel
theorem dX5_best_77 : decode cX5_best 77 = .ok (.ifCond .ne 15, 3) := by decide +kernel
theorem dX5_best_80 : decode cX5_best 80 = .ok (.iload 5, 2) := by decide +kernel
theorem dX5_best_82 : decode cX5_best 82 = .ok (.iload_n 3, 1) := by decide +kernel
theorem dX5_best_83 : decode cX5_best 83 = .ok (.if_icmp .ge 9, 3) := by decide +kernel
theorem dX5_best_86 : decode cX5_best 86 = .ok (.iload 4, 2) := by decide +kernel
theorem dX5_best_88 : decode cX5_best 88 = .ok (.istore_n 2, 1) := by decide +kernel
theorem dX5_best_89 : decode cX5_best 89 = .ok (.iload 5, 2) := by decide +kernel
theorem dX5_best_91 : decode cX5_best 91 = .ok (.istore_n 3, 1) := by decide +kernel
theorem dX5_best_92 : decode cX5_best 92 = .ok (.iinc 4 1, 3) := by decide +kernel
theorem dX5_best_95 : decode cX5_best 95 = .ok (.goto (-60), 3) := by decide +kernel
theorem dX5_best_98 : decode cX5_best 98 = .ok (.iload_n 2, 1) := by decide +kernel
theorem dX5_best_99 : decode cX5_best 99 = .ok (.bipush (-5), 2) := by decide +kernel
theorem dX5_best_101 : decode cX5_best 101 = .ok (.if_icmp .ne 6, 3) := by decide +kernel
theorem dX5_best_104 : decode cX5_best 104 = .ok (.bipush (-5), 2) := by decide +kernel
theorem dX5_best_106 : decode cX5_best 106 = .ok (.ireturn, 1) := by decide +kernel
theorem dX5_best_107 : decode cX5_best 107 = .ok (.iload_n 1, 1) := by decide +kernel
theorem dX5_best_108 : decode cX5_best 108 = .ok (.ifCond .ne 7, 3) := by decide +kernel
theorem dX5_best_111 : decode cX5_best 111 = .ok (.iload_n 2, 1) := by decide +kernel
theorem dX5_best_112 : decode cX5_best 112 = .ok (.goto 4, 3) := by decide +kernel
theorem dX5_best_115 : decode cX5_best 115 = .ok (.iload_n 3, 1) := by decide +kernel
theorem dX5_best_116 : decode cX5_best 116 = .ok (.ireturn, 1) := by decide +kernel
theorem dX5_count_0 : decode cX5_count 0 = .ok (.iload_n 1, 1) := by decide +kernel
theorem dX5_count_1 : decode cX5_count 1 = .ok (.tableswitch 127 0 8 #[51, 59, 67, 75, 83, 93, 103, 111, 119], 51) := by decide +kernel
theorem dX5_count_52 : decode cX5_count 52 = .ok (.aload_n 0, 1) := by decide +kernel
theorem dX5_count_53 : decode cX5_count 53 = .ok (.getfield 19, 3) := by decide +kernel
theorem dX5_count_56 : decode cX5_count 56 = .ok (.getfield 51, 3) := by decide +kernel
theorem dX5_count_59 : decode cX5_count 59 = .ok (.ireturn, 1) := by decide +kernel
theorem dX5_count_60 : decode cX5_count 60 = .ok (.aload_n 0, 1) := by decide +kernel
theorem dX5_count_61 : decode cX5_count 61 = .ok (.getfield 19, 3) := by decide +kernel
theorem dX5_count_64 : decode cX5_count 64 = .ok (.getfield 125, 3) := by decide +kernel
theorem dX5_count_67 : decode cX5_count 67 = .ok (.ireturn, 1) := by decide +kernel
theorem dX5_count_68 : decode cX5_count 68 = .ok (.aload_n 0, 1) := by decide +kernel
theorem dX5_count_69 : decode cX5_count 69 = .ok (.getfield 19, 3) := by decide +kernel
theorem dX5_count_72 : decode cX5_count 72 = .ok (.invokevirtual 174, 3) := by decide +kernel
theorem dX5_count_75 : decode cX5_count 75 = .ok (.ireturn, 1) := by decide +kernel
theorem dX5_count_76 : decode cX5_count 76 = .ok (.aload_n 0, 1) := by decide +kernel
theorem dX5_count_77 : decode cX5_count 77 = .ok (.getfield 19, 3) := by decide +kernel
theorem dX5_count_80 : decode cX5_count 80 = .ok (.getfield 165, 3) := by decide +kernel
theorem dX5_count_83 : decode cX5_count 83 = .ok (.ireturn, 1) := by decide +kernel
theorem dX5_count_84 : decode cX5_count 84 = .ok (.aload_n 0, 1) := by decide +kernel
theorem dX5_count_85 : decode cX5_count 85 = .ok (.getfield 19, 3) := by decide +kernel
theorem dX5_count_88 : decode cX5_count 88 = .ok (.bipush 15, 2) := by decide +kernel
theorem dX5_count_90 : decode cX5_count 90 = .ok (.invokevirtual 150, 3) := by decide +kernel
theorem dX5_count_93 : decode cX5_count 93 = .ok (.ireturn, 1) := by decide +kernel
theorem dX5_count_94 : decode cX5_count 94 = .ok (.aload_n 0, 1) := by decide +kernel
theorem dX5_count_95 : decode cX5_count 95 = .ok (.getfield 19, 3) := by decide +kernel
theorem dX5_count_98 : decode cX5_count 98 = .ok (.bipush 15, 2) := by decide +kernel
theorem dX5_count_100 : decode cX5_count 100 = .ok (.invokevirtual 113, 3) := by decide +kernel
theorem dX5_count_103 : decode cX5_count 103 = .ok (.ireturn, 1) := by decide +kernel
theorem dX5_count_104 : decode cX5_count 104 = .ok (.aload_n 0, 1) := by decide +kernel
theorem dX5_count_105 : decode cX5_count 105 = .ok (.getfield 19, 3) := by decide +kernel
theorem dX5_count_108 : decode cX5_count 108 = .ok (.getfield 223, 3) := by decide +kernel
theorem dX5_count_111 : decode cX5_count 111 = .ok (.ireturn, 1) := by decide +kernel
theorem dX5_count_112 : decode cX5_count 112 = .ok (.aload_n 0, 1) := by decide +kernel
theorem dX5_count_113 : decode cX5_count 113 = .ok (.getfield 32, 3) := by decide +kernel
theorem dX5_count_116 : decode cX5_count 116 = .ok (.getfield 192, 3) := by decide +kernel
theorem dX5_count_119 : decode cX5_count 119 = .ok (.ireturn, 1) := by decide +kernel
theorem dX5_count_120 : decode cX5_count 120 = .ok (.aload_n 0, 1) := by decide +kernel
theorem dX5_count_121 : decode cX5_count 121 = .ok (.getfield 12, 3) := by decide +kernel
theorem dX5_count_124 : decode cX5_count 124 = .ok (.getfield 186, 3) := by decide +kernel
theorem dX5_count_127 : decode cX5_count 127 = .ok (.ireturn, 1) := by decide +kernel
theorem dX5_count_128 : decode cX5_count 128 = .ok (.bipush (-2), 2) := by decide +kernel
theorem dX5_count_130 : decode cX5_count 130 = .ok (.ireturn, 1) := by decide +kernel
theorem dX5_isFromTo_0 : decode cX5_isFromTo 0 = .ok (.iload_n 0, 1) := by decide +kernel
theorem dX5_isFromTo_1 : decode cX5_isFromTo 1 = .ok (.iload_n 1, 1) := by decide +kernel
theorem dX5_isFromTo_2 : decode cX5_isFromTo 2 = .ok (.if_icmp .lt 12, 3) := by decide +kernel
theorem dX5_isFromTo_5 : decode cX5_isFromTo 5 = .ok (.iload_n 0, 1) := by decide +kernel
theorem dX5_isFromTo_6 : decode cX5_isFromTo 6 = .ok (.iload_n 2, 1) := by decide +kernel
theorem dX5_isFromTo_7 : decode cX5_isFromTo 7 = .ok (.if_icmp .gt 7, 3) := by decide +kernel
theorem dX5_isFromTo_10 : decode cX5_isFromTo 10 = .ok (.iconst 1, 1) := by decide +kernel
theorem dX5_isFromTo_11 : decode cX5_isFromTo 11 = .ok (.goto 4, 3) := by decide +kernel
theorem dX5_isFromTo_14 : decode cX5_isFromTo 14 = .ok (.iconst 0, 1) := by decide +kernel
theorem dX5_isFromTo_15 : decode cX5_isFromTo 15 = .ok (.ireturn, 1) := by decide +kernel
theorem dX5_covers_0 : decode cX5_covers 0 = .ok (.iload_n 0, 1) := by decide +kernel
theorem dX5_covers_1 : decode cX5_covers 1 = .ok (.iload_n 1, 1) := by decide +kernel
theorem dX5_covers_2 : decode cX5_covers 2 = .ok (.ishr, 1) := by decide +kernel
theorem dX5_covers_3 : decode cX5_covers 3 = .ok (.iconst 1, 1) := by decide +kernel
theorem dX5_covers_4 : decode cX5_covers 4 = .ok (.iand, 1) := by decide +kernel
theorem dX5_covers_5 : decode cX5_covers 5 = .ok (.ifCond .eq 7, 3) := by decide +kernel
theorem dX5_covers_8 : decode cX5_covers 8 = .ok (.iconst 1, 1) := by decide +kernel
theorem dX5_covers_9 : decode cX5_covers 9 = .ok (.goto 4, 3) := by decide +kernel
theorem dX5_covers_12 : decode cX5_covers 12 = .ok (.iconst 0, 1) := by decide +kernel
theorem dX5_covers_13 : decode cX5_covers 13 = .ok (.ireturn, 1) := by decide +kernel

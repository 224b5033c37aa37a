theorem dX0_init_0 : decode cX0_init 0 = .ok (.aload_n 0, 1) := by decide +kernel
theorem dX0_init_1 : decode cX0_init 1 = .ok (.invokespecial 3, 3) := by decide +kernel
theorem dX0_init_4 : decode cX0_init 4 = .ok (.aload_n 0, 1) := by decide +kernel
theorem dX0_init_5 : decode cX0_init 5 = .ok (.bipush 7, 2) := by decide +kernel
theorem dX0_init_7 : decode cX0_init 7 = .ok (.newarray .int, 2) := by decide +kernel
theorem dX0_init_9 : decode cX0_init 9 = .ok (.putfield 9, 3) := by decide +kernel
theorem dX0_init_12 : decode cX0_init 12 = .ok (.return_, 1) := by decide +kernel
theorem dX0_passings_0 : decode cX0_passings 0 = .ok (.aload_n 0, 1) := by decide +kernel
theorem dX0_passings_1 : decode cX0_passings 1 = .ok (.iload_n 1, 1) := by decide +kernel
theorem dX0_passings_2 : decode cX0_passings 2 = .ok (.iload_n 2, 1) := by decide +kernel
theorem dX0_passings_3 : decode cX0_passings 3 = .ok (.invokestatic 15, 3) := by decide +kernel
theorem dX0_passings_6 : decode cX0_passings 6 = .ok (.istore_n 3, 1) := by decide +kernel
theorem dX0_passings_7 : decode cX0_passings 7 = .ok (.iload_n 3, 1) := by decide +kernel
theorem dX0_passings_8 : decode cX0_passings 8 = .ok (.ifCond .ne 6, 3) := by decide +kernel
theorem dX0_passings_11 : decode cX0_passings 11 = .ok (.bipush (-9), 2) := by decide +kernel
theorem dX0_passings_13 : decode cX0_passings 13 = .ok (.ireturn, 1) := by decide +kernel
theorem dX0_passings_14 : decode cX0_passings 14 = .ok (.iconst 0, 1) := by decide +kernel
theorem dX0_passings_15 : decode cX0_passings 15 = .ok (.istore 4, 2) := by decide +kernel
theorem dX0_passings_17 : decode cX0_passings 17 = .ok (.iload 4, 2) := by decide +kernel
theorem dX0_passings_19 : decode cX0_passings 19 = .ok (.aload_n 0, 1) := by decide +kernel
theorem dX0_passings_20 : decode cX0_passings 20 = .ok (.getfield 19, 3) := by decide +kernel
theorem dX0_passings_23 : decode cX0_passings 23 = .ok (.if_icmp .ge 50, 3) := by decide +kernel
theorem dX0_passings_26 : decode cX0_passings 26 = .ok (.iload 4, 2) := by decide +kernel
theorem dX0_passings_28 : decode cX0_passings 28 = .ok (.iload_n 2, 1) := by decide +kernel
theorem dX0_passings_29 : decode cX0_passings 29 = .ok (.if_icmp .eq 16, 3) := by decide +kernel
theorem dX0_passings_32 : decode cX0_passings 32 = .ok (.iload_n 3, 1) := by decide +kernel
theorem dX0_passings_33 : decode cX0_passings 33 = .ok (.iload 4, 2) := by decide +kernel
theorem dX0_passings_35 : decode cX0_passings 35 = .ok (.ishr, 1) := by decide +kernel
theorem dX0_passings_36 : decode cX0_passings 36 = .ok (.iconst 1, 1) := by decide +kernel
theorem dX0_passings_37 : decode cX0_passings 37 = .ok (.iand, 1) := by decide +kernel
theorem dX0_passings_38 : decode cX0_passings 38 = .ok (.ifCond .eq 7, 3) := by decide +kernel
theorem dX0_passings_41 : decode cX0_passings 41 = .ok (.iconst 1, 1) := by decide +kernel
theorem dX0_passings_42 : decode cX0_passings 42 = .ok (.goto 4, 3) := by decide +kernel
theorem dX0_passings_45 : decode cX0_passings 45 = .ok (.iconst 0, 1) := by decide +kernel
theorem dX0_passings_46 : decode cX0_passings 46 = .ok (.istore 5, 2) := by decide +kernel
theorem dX0_passings_48 : decode cX0_passings 48 = .ok (.iload 5, 2) := by decide +kernel
theorem dX0_passings_50 : decode cX0_passings 50 = .ok (.ifCond .eq 17, 3) := by decide +kernel
theorem dX0_passings_53 : decode cX0_passings 53 = .ok (.aload_n 0, 1) := by decide +kernel
theorem dX0_passings_54 : decode cX0_passings 54 = .ok (.getfield 25, 3) := by decide +kernel
theorem dX0_passings_57 : decode cX0_passings 57 = .ok (.iload 4, 2) := by decide +kernel
theorem dX0_passings_59 : decode cX0_passings 59 = .ok (.iaload, 1) := by decide +kernel
theorem dX0_passings_60 : decode cX0_passings 60 = .ok (.iconst 1, 1) := by decide +kernel
theorem dX0_passings_61 : decode cX0_passings 61 = .ok (.if_icmp .ne 6, 3) := by decide +kernel
theorem dX0_passings_64 : decode cX0_passings 64 = .ok (.bipush (-9), 2) := by decide +kernel
theorem dX0_passings_66 : decode cX0_passings 66 = .ok (.ireturn, 1) := by decide +kernel
theorem dX0_passings_67 : decode cX0_passings 67 = .ok (.iinc 4 1, 3) := by decide +kernel
theorem dX0_passings_70 : decode cX0_passings 70 = .ok (.goto (-53), 3) := by decide +kernel
theorem dX0_passings_73 : decode cX0_passings 73 = .ok (.iload_n 3, 1) := by decide +kernel
theorem dX0_passings_74 : decode cX0_passings 74 = .ok (.invokestatic 30, 3) := by decide +kernel
theorem dX0_passings_77 : decode cX0_passings 77 = .ok (.iconst 1, 1) := by decide +kernel
theorem dX0_passings_78 : decode cX0_passings 78 = .ok (.isub, 1) := by decide +kernel
theorem dX0_passings_79 : decode cX0_passings 79 = .ok (.ireturn, 1) := by decide +kernel
theorem dX0_way_0 : decode cX0_way 0 = .ok (.aload_n 0, 1) := by decide +kernel
theorem dX0_way_1 : decode cX0_way 1 = .ok (.iload_n 1, 1) := by decide +kernel
theorem dX0_way_2 : decode cX0_way 2 = .ok (.invokevirtual 36, 3) := by decide +kernel
theorem dX0_way_5 : decode cX0_way 5 = .ok (.istore_n 3, 1) := by decide +kernel
theorem dX0_way_6 : decode cX0_way 6 = .ok (.aload_n 0, 1) := by decide +kernel
theorem dX0_way_7 : decode cX0_way 7 = .ok (.iload_n 2, 1) := by decide +kernel
theorem dX0_way_8 : decode cX0_way 8 = .ok (.invokevirtual 36, 3) := by decide +kernel
theorem dX0_way_11 : decode cX0_way 11 = .ok (.istore 4, 2) := by decide +kernel
theorem dX0_way_13 : decode cX0_way 13 = .ok (.iload_n 3, 1) := by decide +kernel
theorem dX0_way_14 : decode cX0_way 14 = .ok (.iload 4, 2) := by decide +kernel
theorem dX0_way_16 : decode cX0_way 16 = .ok (.iand, 1) := by decide +kernel
theorem dX0_way_17 : decode cX0_way 17 = .ok (.istore 5, 2) := by decide +kernel
theorem dX0_way_19 : decode cX0_way 19 = .ok (.iconst 0, 1) := by decide +kernel
theorem dX0_way_20 : decode cX0_way 20 = .ok (.istore 6, 2) := by decide +kernel
theorem dX0_way_22 : decode cX0_way 22 = .ok (.iload 6, 2) := by decide +kernel
theorem dX0_way_24 : decode cX0_way 24 = .ok (.aload_n 0, 1) := by decide +kernel
theorem dX0_way_25 : decode cX0_way 25 = .ok (.getfield 19, 3) := by decide +kernel
theorem dX0_way_28 : decode cX0_way 28 = .ok (.if_icmp .ge 35, 3) := by decide +kernel
theorem dX0_way_31 : decode cX0_way 31 = .ok (.iload 5, 2) := by decide +kernel
theorem dX0_way_33 : decode cX0_way 33 = .ok (.ifCond .eq 24, 3) := by decide +kernel
theorem dX0_way_36 : decode cX0_way 36 = .ok (.aload_n 0, 1) := by decide +kernel
theorem dX0_way_37 : decode cX0_way 37 = .ok (.iload 6, 2) := by decide +kernel
theorem dX0_way_39 : decode cX0_way 39 = .ok (.invokevirtual 36, 3) := by decide +kernel
theorem dX0_way_42 : decode cX0_way 42 = .ok (.iload 5, 2) := by decide +kernel
theorem dX0_way_44 : decode cX0_way 44 = .ok (.if_icmp .ne 13, 3) := by decide +kernel
theorem dX0_way_47 : decode cX0_way 47 = .ok (.iload_n 3, 1) := by decide +kernel
theorem dX0_way_48 : decode cX0_way 48 = .ok (.iload 4, 2) := by decide +kernel
theorem dX0_way_50 : decode cX0_way 50 = .ok (.ixor, 1) := by decide +kernel
theorem dX0_way_51 : decode cX0_way 51 = .ok (.iconst 1, 1) := by decide +kernel
theorem dX0_way_52 : decode cX0_way 52 = .ok (.iload 6, 2) := by decide +kernel
theorem dX0_way_54 : decode cX0_way 54 = .ok (.ishl, 1) := by decide +kernel
theorem dX0_way_55 : decode cX0_way 55 = .ok (.ior, 1) := by decide +kernel
theorem dX0_way_56 : decode cX0_way 56 = .ok (.ireturn, 1) := by decide +kernel
theorem dX0_way_57 : decode cX0_way 57 = .ok (.iinc 6 1, 3) := by decide +kernel
theorem dX0_way_60 : decode cX0_way 60 = .ok (.goto (-38), 3) := by decide +kernel
theorem dX0_way_63 : decode cX0_way 63 = .ok (.iconst 0, 1) := by decide +kernel
theorem dX0_way_64 : decode cX0_way 64 = .ok (.ireturn, 1) := by decide +kernel
theorem dX0_fedBy_0 : decode cX0_fedBy 0 = .ok (.iconst 0, 1) := by decide +kernel
theorem dX0_fedBy_1 : decode cX0_fedBy 1 = .ok (.istore_n 2, 1) := by decide +kernel
theorem dX0_fedBy_2 : decode cX0_fedBy 2 = .ok (.iconst 0, 1) := by decide +kernel
theorem dX0_fedBy_3 : decode cX0_fedBy 3 = .ok (.istore_n 3, 1) := by decide +kernel
theorem dX0_fedBy_4 : decode cX0_fedBy 4 = .ok (.iload_n 3, 1) := by decide +kernel
theorem dX0_fedBy_5 : decode cX0_fedBy 5 = .ok (.aload_n 0, 1) := by decide +kernel
theorem dX0_fedBy_6 : decode cX0_fedBy 6 = .ok (.getfield 19, 3) := by decide +kernel
theorem dX0_fedBy_9 : decode cX0_fedBy 9 = .ok (.if_icmp .ge 39, 3) := by decide +kernel
theorem dX0_fedBy_12 : decode cX0_fedBy 12 = .ok (.aload_n 0, 1) := by decide +kernel
theorem dX0_fedBy_13 : decode cX0_fedBy 13 = .ok (.iload_n 1, 1) := by decide +kernel
theorem dX0_fedBy_14 : decode cX0_fedBy 14 = .ok (.invokevirtual 39, 3) := by decide +kernel
theorem dX0_fedBy_17 : decode cX0_fedBy 17 = .ok (.ifCond .eq 25, 3) := by decide +kernel
theorem dX0_fedBy_20 : decode cX0_fedBy 20 = .ok (.iload_n 1, 1) := by decide +kernel
theorem dX0_fedBy_21 : decode cX0_fedBy 21 = .ok (.iload_n 3, 1) := by decide +kernel
theorem dX0_fedBy_22 : decode cX0_fedBy 22 = .ok (.if_icmp .eq 14, 3) := by decide +kernel
theorem dX0_fedBy_25 : decode cX0_fedBy 25 = .ok (.aload_n 0, 1) := by decide +kernel
theorem dX0_fedBy_26 : decode cX0_fedBy 26 = .ok (.iload_n 1, 1) := by decide +kernel
theorem dX0_fedBy_27 : decode cX0_fedBy 27 = .ok (.iload_n 3, 1) := by decide +kernel
theorem dX0_fedBy_28 : decode cX0_fedBy 28 = .ok (.invokestatic 43, 3) := by decide +kernel
theorem dX0_fedBy_31 : decode cX0_fedBy 31 = .ok (.bipush (-9), 2) := by decide +kernel
theorem dX0_fedBy_33 : decode cX0_fedBy 33 = .ok (.if_icmp .eq 9, 3) := by decide +kernel
theorem dX0_fedBy_36 : decode cX0_fedBy 36 = .ok (.iload_n 2, 1) := by decide +kernel
theorem dX0_fedBy_37 : decode cX0_fedBy 37 = .ok (.iconst 1, 1) := by decide +kernel
theorem dX0_fedBy_38 : decode cX0_fedBy 38 = .ok (.iload_n 3, 1) := by decide +kernel
theorem dX0_fedBy_39 : decode cX0_fedBy 39 = .ok (.ishl, 1) := by decide +kernel
theorem dX0_fedBy_40 : decode cX0_fedBy 40 = .ok (.ior, 1) := by decide +kernel
theorem dX0_fedBy_41 : decode cX0_fedBy 41 = .ok (.istore_n 2, 1) := by decide +kernel
theorem dX0_fedBy_42 : decode cX0_fedBy 42 = .ok (.iinc 3 1, 3) := by decide +kernel
theorem dX0_fedBy_45 : decode cX0_fedBy 45 = .ok (.goto (-41), 3) := by decide +kernel
theorem dX0_fedBy_48 : decode cX0_fedBy 48 = .ok (.iload_n 2, 1) := by decide +kernel
theorem dX0_fedBy_49 : decode cX0_fedBy 49 = .ok (.ireturn, 1) := by decide +kernel
theorem dX0_fewestSpoons_0 : decode cX0_fewestSpoons 0 = .ok (.aload_n 1, 1) := by decide +kernel
theorem dX0_fewestSpoons_1 : decode cX0_fewestSpoons 1 = .ok (.invokevirtual 46, 3) := by decide +kernel
theorem dX0_fewestSpoons_4 : decode cX0_fewestSpoons 4 = .ok (.istore_n 2, 1) := by decide +kernel
theorem dX0_fewestSpoons_5 : decode cX0_fewestSpoons 5 = .ok (.iconst 0, 1) := by decide +kernel
theorem dX0_fewestSpoons_6 : decode cX0_fewestSpoons 6 = .ok (.istore_n 3, 1) := by decide +kernel
theorem dX0_fewestSpoons_7 : decode cX0_fewestSpoons 7 = .ok (.iload_n 3, 1) := by decide +kernel
theorem dX0_fewestSpoons_8 : decode cX0_fewestSpoons 8 = .ok (.bipush 7, 2) := by decide +kernel
theorem dX0_fewestSpoons_10 : decode cX0_fewestSpoons 10 = .ok (.if_icmp .ge 20, 3) := by decide +kernel
theorem dX0_fewestSpoons_13 : decode cX0_fewestSpoons 13 = .ok (.aload_n 0, 1) := by decide +kernel
theorem dX0_fewestSpoons_14 : decode cX0_fewestSpoons 14 = .ok (.getfield 9, 3) := by decide +kernel
theorem dX0_fewestSpoons_17 : decode cX0_fewestSpoons 17 = .ok (.iload_n 3, 1) := by decide +kernel
theorem dX0_fewestSpoons_18 : decode cX0_fewestSpoons 18 = .ok (.aload_n 1, 1) := by decide +kernel
theorem dX0_fewestSpoons_19 : decode cX0_fewestSpoons 19 = .ok (.iload_n 3, 1) := by decide +kernel
theorem dX0_fewestSpoons_20 : decode cX0_fewestSpoons 20 = .ok (.invokestatic 50, 3) := by decide +kernel
theorem dX0_fewestSpoons_23 : decode cX0_fewestSpoons 23 = .ok (.iastore, 1) := by decide +kernel
theorem dX0_fewestSpoons_24 : decode cX0_fewestSpoons 24 = .ok (.iinc 3 1, 3) := by decide +kernel
theorem dX0_fewestSpoons_27 : decode cX0_fewestSpoons 27 = .ok (.goto (-20), 3) := by decide +kernel
theorem dX0_fewestSpoons_30 : decode cX0_fewestSpoons 30 = .ok (.iload_n 2, 1) := by decide +kernel
theorem dX0_fewestSpoons_31 : decode cX0_fewestSpoons 31 = .ok (.istore_n 3, 1) := by decide +kernel
theorem dX0_fewestSpoons_32 : decode cX0_fewestSpoons 32 = .ok (.iconst 0, 1) := by decide +kernel
theorem dX0_fewestSpoons_33 : decode cX0_fewestSpoons 33 = .ok (.istore 4, 2) := by decide +kernel
theorem dX0_fewestSpoons_35 : decode cX0_fewestSpoons 35 = .ok (.iload 4, 2) := by decide +kernel
theorem dX0_fewestSpoons_37 : decode cX0_fewestSpoons 37 = .ok (.sipush 128, 3) := by decide +kernel
theorem dX0_fewestSpoons_40 : decode cX0_fewestSpoons 40 = .ok (.if_icmp .ge 55, 3) := by decide +kernel
theorem dX0_fewestSpoons_43 : decode cX0_fewestSpoons 43 = .ok (.iload 4, 2) := by decide +kernel
theorem dX0_fewestSpoons_45 : decode cX0_fewestSpoons 45 = .ok (.invokestatic 30, 3) := by decide +kernel
theorem dX0_fewestSpoons_48 : decode cX0_fewestSpoons 48 = .ok (.iload_n 3, 1) := by decide +kernel
theorem dX0_fewestSpoons_49 : decode cX0_fewestSpoons 49 = .ok (.invokestatic 30, 3) := by decide +kernel
theorem dX0_fewestSpoons_52 : decode cX0_fewestSpoons 52 = .ok (.if_icmp .ge 7, 3) := by decide +kernel
theorem dX0_fewestSpoons_55 : decode cX0_fewestSpoons 55 = .ok (.iconst 1, 1) := by decide +kernel
theorem dX0_fewestSpoons_56 : decode cX0_fewestSpoons 56 = .ok (.goto 4, 3) := by decide +kernel
theorem dX0_fewestSpoons_59 : decode cX0_fewestSpoons 59 = .ok (.iconst 0, 1) := by decide +kernel
theorem dX0_fewestSpoons_60 : decode cX0_fewestSpoons 60 = .ok (.istore 5, 2) := by decide +kernel
theorem dX0_fewestSpoons_62 : decode cX0_fewestSpoons 62 = .ok (.iload 5, 2) := by decide +kernel
theorem dX0_fewestSpoons_64 : decode cX0_fewestSpoons 64 = .ok (.ifCond .eq 25, 3) := by decide +kernel
theorem dX0_fewestSpoons_67 : decode cX0_fewestSpoons 67 = .ok (.iload 4, 2) := by decide +kernel
theorem dX0_fewestSpoons_69 : decode cX0_fewestSpoons 69 = .ok (.iload_n 2, 1) := by decide +kernel
theorem dX0_fewestSpoons_70 : decode cX0_fewestSpoons 70 = .ok (.iconst (-1), 1) := by decide +kernel
theorem dX0_fewestSpoons_71 : decode cX0_fewestSpoons 71 = .ok (.ixor, 1) := by decide +kernel
theorem dX0_fewestSpoons_72 : decode cX0_fewestSpoons 72 = .ok (.iand, 1) := by decide +kernel
theorem dX0_fewestSpoons_73 : decode cX0_fewestSpoons 73 = .ok (.ifCond .ne 16, 3) := by decide +kernel
theorem dX0_fewestSpoons_76 : decode cX0_fewestSpoons 76 = .ok (.aload_n 0, 1) := by decide +kernel
theorem dX0_fewestSpoons_77 : decode cX0_fewestSpoons 77 = .ok (.iload 4, 2) := by decide +kernel
theorem dX0_fewestSpoons_79 : decode cX0_fewestSpoons 79 = .ok (.invokevirtual 54, 3) := by decide +kernel
theorem dX0_fewestSpoons_82 : decode cX0_fewestSpoons 82 = .ok (.iload_n 2, 1) := by decide +kernel
theorem dX0_fewestSpoons_83 : decode cX0_fewestSpoons 83 = .ok (.if_icmp .ne 6, 3) := by decide +kernel
theorem dX0_fewestSpoons_86 : decode cX0_fewestSpoons 86 = .ok (.iload 4, 2) := by decide +kernel
theorem dX0_fewestSpoons_88 : decode cX0_fewestSpoons 88 = .ok (.istore_n 3, 1) := by decide +kernel
theorem dX0_fewestSpoons_89 : decode cX0_fewestSpoons 89 = .ok (.iinc 4 1, 3) := by decide +kernel
theorem dX0_fewestSpoons_92 : decode cX0_fewestSpoons 92 = .ok (.goto (-57), 3) := by decide +kernel
theorem dX0_fewestSpoons_95 : decode cX0_fewestSpoons 95 = .ok (.iload_n 3, 1) := by decide +kernel
theorem dX0_fewestSpoons_96 : decode cX0_fewestSpoons 96 = .ok (.ireturn, 1) := by decide +kernel
theorem dX0_fedByAll_0 : decode cX0_fedByAll 0 = .ok (.iconst 0, 1) := by decide +kernel
theorem dX0_fedByAll_1 : decode cX0_fedByAll 1 = .ok (.istore_n 2, 1) := by decide +kernel
theorem dX0_fedByAll_2 : decode cX0_fedByAll 2 = .ok (.iconst 0, 1) := by decide +kernel
theorem dX0_fedByAll_3 : decode cX0_fedByAll 3 = .ok (.istore_n 3, 1) := by decide +kernel
theorem dX0_fedByAll_4 : decode cX0_fedByAll 4 = .ok (.iload_n 3, 1) := by decide +kernel
theorem dX0_fedByAll_5 : decode cX0_fedByAll 5 = .ok (.bipush 7, 2) := by decide +kernel
theorem dX0_fedByAll_7 : decode cX0_fedByAll 7 = .ok (.if_icmp .ge 26, 3) := by decide +kernel
theorem dX0_fedByAll_10 : decode cX0_fedByAll 10 = .ok (.iload_n 1, 1) := by decide +kernel
theorem dX0_fedByAll_11 : decode cX0_fedByAll 11 = .ok (.iload_n 3, 1) := by decide +kernel
theorem dX0_fedByAll_12 : decode cX0_fedByAll 12 = .ok (.ishr, 1) := by decide +kernel
theorem dX0_fedByAll_13 : decode cX0_fedByAll 13 = .ok (.iconst 1, 1) := by decide +kernel
theorem dX0_fedByAll_14 : decode cX0_fedByAll 14 = .ok (.iand, 1) := by decide +kernel
theorem dX0_fedByAll_15 : decode cX0_fedByAll 15 = .ok (.ifCond .eq 12, 3) := by decide +kernel
theorem dX0_fedByAll_18 : decode cX0_fedByAll 18 = .ok (.iload_n 2, 1) := by decide +kernel
theorem dX0_fedByAll_19 : decode cX0_fedByAll 19 = .ok (.aload_n 0, 1) := by decide +kernel
theorem dX0_fedByAll_20 : decode cX0_fedByAll 20 = .ok (.getfield 9, 3) := by decide +kernel
theorem dX0_fedByAll_23 : decode cX0_fedByAll 23 = .ok (.iload_n 3, 1) := by decide +kernel
theorem dX0_fedByAll_24 : decode cX0_fedByAll 24 = .ok (.iaload, 1) := by decide +kernel
theorem dX0_fedByAll_25 : decode cX0_fedByAll 25 = .ok (.ior, 1) := by decide +kernel
theorem dX0_fedByAll_26 : decode cX0_fedByAll 26 = .ok (.istore_n 2, 1) := by decide +kernel
theorem dX0_fedByAll_27 : decode cX0_fedByAll 27 = .ok (.iinc 3 1, 3) := by decide +kernel
theorem dX0_fedByAll_30 : decode cX0_fedByAll 30 = .ok (.goto (-26), 3) := by decide +kernel
theorem dX0_fedByAll_33 : decode cX0_fedByAll 33 = .ok (.iload_n 2, 1) := by decide +kernel
theorem dX0_fedByAll_34 : decode cX0_fedByAll 34 = .ok (.ireturn, 1) := by decide +kernel
theorem dX1_deal_0 : decode cX1_deal 0 = .ok (.aload_n 0, 1) := by decide +kernel
theorem dX1_deal_1 : decode cX1_deal 1 = .ok (.iload_n 1, 1) := by decide +kernel
theorem dX1_deal_2 : decode cX1_deal 2 = .ok (.invokevirtual 7, 3) := by decide +kernel
theorem dX1_deal_5 : decode cX1_deal 5 = .ok (.istore 4, 2) := by decide +kernel
theorem dX1_deal_7 : decode cX1_deal 7 = .ok (.iload 4, 2) := by decide +kernel
theorem dX1_deal_9 : decode cX1_deal 9 = .ok (.invokestatic 13, 3) := by decide +kernel
theorem dX1_deal_12 : decode cX1_deal 12 = .ok (.istore 5, 2) := by decide +kernel
theorem dX1_deal_14 : decode cX1_deal 14 = .ok (.iconst 0, 1) := by decide +kernel
theorem dX1_deal_15 : decode cX1_deal 15 = .ok (.istore 6, 2) := by decide +kernel
theorem dX1_deal_17 : decode cX1_deal 17 = .ok (.iconst 0, 1) := by decide +kernel
theorem dX1_deal_18 : decode cX1_deal 18 = .ok (.istore 7, 2) := by decide +kernel
theorem dX1_deal_20 : decode cX1_deal 20 = .ok (.iload 7, 2) := by decide +kernel
theorem dX1_deal_22 : decode cX1_deal 22 = .ok (.aload_n 0, 1) := by decide +kernel
theorem dX1_deal_23 : decode cX1_deal 23 = .ok (.getfield 18, 3) := by decide +kernel
theorem dX1_deal_26 : decode cX1_deal 26 = .ok (.if_icmp .ge 66, 3) := by decide +kernel
theorem dX1_deal_29 : decode cX1_deal 29 = .ok (.iload 5, 2) := by decide +kernel
theorem dX1_deal_31 : decode cX1_deal 31 = .ok (.ifCond .le 55, 3) := by decide +kernel
theorem dX1_deal_34 : decode cX1_deal 34 = .ok (.aload_n 3, 1) := by decide +kernel
theorem dX1_deal_35 : decode cX1_deal 35 = .ok (.iload 7, 2) := by decide +kernel
theorem dX1_deal_37 : decode cX1_deal 37 = .ok (.invokevirtual 22, 3) := by decide +kernel
theorem dX1_deal_40 : decode cX1_deal 40 = .ok (.ifCond .eq 46, 3) := by decide +kernel
theorem dX1_deal_43 : decode cX1_deal 43 = .ok (.iload 4, 2) := by decide +kernel
theorem dX1_deal_45 : decode cX1_deal 45 = .ok (.iload 7, 2) := by decide +kernel
theorem dX1_deal_47 : decode cX1_deal 47 = .ok (.ishr, 1) := by decide +kernel
theorem dX1_deal_48 : decode cX1_deal 48 = .ok (.iconst 1, 1) := by decide +kernel
theorem dX1_deal_49 : decode cX1_deal 49 = .ok (.iand, 1) := by decide +kernel
theorem dX1_deal_50 : decode cX1_deal 50 = .ok (.ifCond .eq 36, 3) := by decide +kernel
theorem dX1_deal_53 : decode cX1_deal 53 = .ok (.iload 6, 2) := by decide +kernel
theorem dX1_deal_55 : decode cX1_deal 55 = .ok (.iload_n 2, 1) := by decide +kernel
theorem dX1_deal_56 : decode cX1_deal 56 = .ok (.iload 5, 2) := by decide +kernel
theorem dX1_deal_58 : decode cX1_deal 58 = .ok (.irem, 1) := by decide +kernel
theorem dX1_deal_59 : decode cX1_deal 59 = .ok (.if_icmp .ge 7, 3) := by decide +kernel
theorem dX1_deal_62 : decode cX1_deal 62 = .ok (.iconst 1, 1) := by decide +kernel
theorem dX1_deal_63 : decode cX1_deal 63 = .ok (.goto 4, 3) := by decide +kernel
theorem dX1_deal_66 : decode cX1_deal 66 = .ok (.iconst 0, 1) := by decide +kernel
theorem dX1_deal_67 : decode cX1_deal 67 = .ok (.istore 8, 2) := by decide +kernel
theorem dX1_deal_69 : decode cX1_deal 69 = .ok (.aload_n 3, 1) := by decide +kernel
theorem dX1_deal_70 : decode cX1_deal 70 = .ok (.getfield 28, 3) := by decide +kernel
theorem dX1_deal_73 : decode cX1_deal 73 = .ok (.iload 7, 2) := by decide +kernel
theorem dX1_deal_75 : decode cX1_deal 75 = .ok (.iload_n 2, 1) := by decide +kernel
theorem dX1_deal_76 : decode cX1_deal 76 = .ok (.iload 5, 2) := by decide +kernel
theorem dX1_deal_78 : decode cX1_deal 78 = .ok (.idiv, 1) := by decide +kernel
theorem dX1_deal_79 : decode cX1_deal 79 = .ok (.iload 8, 2) := by decide +kernel
theorem dX1_deal_81 : decode cX1_deal 81 = .ok (.iadd, 1) := by decide +kernel
theorem dX1_deal_82 : decode cX1_deal 82 = .ok (.iastore, 1) := by decide +kernel
theorem dX1_deal_83 : decode cX1_deal 83 = .ok (.iinc 6 1, 3) := by decide +kernel
theorem dX1_deal_86 : decode cX1_deal 86 = .ok (.iinc 7 1, 3) := by decide +kernel
theorem dX1_deal_89 : decode cX1_deal 89 = .ok (.goto (-69), 3) := by decide +kernel
theorem dX1_deal_92 : decode cX1_deal 92 = .ok (.return_, 1) := by decide +kernel
theorem dX1_dealAtDepth_0 : decode cX1_dealAtDepth 0 = .ok (.iconst 0, 1) := by decide +kernel
theorem dX1_dealAtDepth_1 : decode cX1_dealAtDepth 1 = .ok (.istore_n 3, 1) := by decide +kernel
theorem dX1_dealAtDepth_2 : decode cX1_dealAtDepth 2 = .ok (.iload_n 3, 1) := by decide +kernel
theorem dX1_dealAtDepth_3 : decode cX1_dealAtDepth 3 = .ok (.aload_n 0, 1) := by decide +kernel
theorem dX1_dealAtDepth_4 : decode cX1_dealAtDepth 4 = .ok (.getfield 18, 3) := by decide +kernel
theorem dX1_dealAtDepth_7 : decode cX1_dealAtDepth 7 = .ok (.if_icmp .ge 77, 3) := by decide +kernel
theorem dX1_dealAtDepth_10 : decode cX1_dealAtDepth 10 = .ok (.aload_n 0, 1) := by decide +kernel
theorem dX1_dealAtDepth_11 : decode cX1_dealAtDepth 11 = .ok (.iload_n 3, 1) := by decide +kernel
theorem dX1_dealAtDepth_12 : decode cX1_dealAtDepth 12 = .ok (.invokevirtual 32, 3) := by decide +kernel
theorem dX1_dealAtDepth_15 : decode cX1_dealAtDepth 15 = .ok (.iload_n 1, 1) := by decide +kernel
theorem dX1_dealAtDepth_16 : decode cX1_dealAtDepth 16 = .ok (.if_icmp .ne 15, 3) := by decide +kernel
theorem dX1_dealAtDepth_19 : decode cX1_dealAtDepth 19 = .ok (.aload_n 0, 1) := by decide +kernel
theorem dX1_dealAtDepth_20 : decode cX1_dealAtDepth 20 = .ok (.iload_n 3, 1) := by decide +kernel
theorem dX1_dealAtDepth_21 : decode cX1_dealAtDepth 21 = .ok (.invokevirtual 7, 3) := by decide +kernel
theorem dX1_dealAtDepth_24 : decode cX1_dealAtDepth 24 = .ok (.ifCond .eq 7, 3) := by decide +kernel
theorem dX1_dealAtDepth_27 : decode cX1_dealAtDepth 27 = .ok (.iconst 1, 1) := by decide +kernel
theorem dX1_dealAtDepth_28 : decode cX1_dealAtDepth 28 = .ok (.goto 4, 3) := by decide +kernel
theorem dX1_dealAtDepth_31 : decode cX1_dealAtDepth 31 = .ok (.iconst 0, 1) := by decide +kernel
theorem dX1_dealAtDepth_32 : decode cX1_dealAtDepth 32 = .ok (.istore 4, 2) := by decide +kernel
theorem dX1_dealAtDepth_34 : decode cX1_dealAtDepth 34 = .ok (.iload 4, 2) := by decide +kernel
theorem dX1_dealAtDepth_36 : decode cX1_dealAtDepth 36 = .ok (.ifCond .eq 42, 3) := by decide +kernel
theorem dX1_dealAtDepth_39 : decode cX1_dealAtDepth 39 = .ok (.aload_n 2, 1) := by decide +kernel
theorem dX1_dealAtDepth_40 : decode cX1_dealAtDepth 40 = .ok (.iload_n 3, 1) := by decide +kernel
theorem dX1_dealAtDepth_41 : decode cX1_dealAtDepth 41 = .ok (.invokevirtual 22, 3) := by decide +kernel
theorem dX1_dealAtDepth_44 : decode cX1_dealAtDepth 44 = .ok (.ifCond .eq 34, 3) := by decide +kernel
theorem dX1_dealAtDepth_47 : decode cX1_dealAtDepth 47 = .ok (.aload_n 2, 1) := by decide +kernel
theorem dX1_dealAtDepth_48 : decode cX1_dealAtDepth 48 = .ok (.getfield 28, 3) := by decide +kernel
theorem dX1_dealAtDepth_51 : decode cX1_dealAtDepth 51 = .ok (.iload_n 3, 1) := by decide +kernel
theorem dX1_dealAtDepth_52 : decode cX1_dealAtDepth 52 = .ok (.iaload, 1) := by decide +kernel
theorem dX1_dealAtDepth_53 : decode cX1_dealAtDepth 53 = .ok (.iconst 1, 1) := by decide +kernel
theorem dX1_dealAtDepth_54 : decode cX1_dealAtDepth 54 = .ok (.if_icmp .le 24, 3) := by decide +kernel
theorem dX1_dealAtDepth_57 : decode cX1_dealAtDepth 57 = .ok (.aload_n 0, 1) := by decide +kernel
theorem dX1_dealAtDepth_58 : decode cX1_dealAtDepth 58 = .ok (.iload_n 3, 1) := by decide +kernel
theorem dX1_dealAtDepth_59 : decode cX1_dealAtDepth 59 = .ok (.aload_n 2, 1) := by decide +kernel
theorem dX1_dealAtDepth_60 : decode cX1_dealAtDepth 60 = .ok (.getfield 28, 3) := by decide +kernel
theorem dX1_dealAtDepth_63 : decode cX1_dealAtDepth 63 = .ok (.iload_n 3, 1) := by decide +kernel
theorem dX1_dealAtDepth_64 : decode cX1_dealAtDepth 64 = .ok (.iaload, 1) := by decide +kernel
theorem dX1_dealAtDepth_65 : decode cX1_dealAtDepth 65 = .ok (.iconst 1, 1) := by decide +kernel
theorem dX1_dealAtDepth_66 : decode cX1_dealAtDepth 66 = .ok (.isub, 1) := by decide +kernel
theorem dX1_dealAtDepth_67 : decode cX1_dealAtDepth 67 = .ok (.aload_n 2, 1) := by decide +kernel
theorem dX1_dealAtDepth_68 : decode cX1_dealAtDepth 68 = .ok (.invokestatic 35, 3) := by decide +kernel
theorem dX1_dealAtDepth_71 : decode cX1_dealAtDepth 71 = .ok (.aload_n 2, 1) := by decide +kernel
theorem dX1_dealAtDepth_72 : decode cX1_dealAtDepth 72 = .ok (.getfield 28, 3) := by decide +kernel
theorem dX1_dealAtDepth_75 : decode cX1_dealAtDepth 75 = .ok (.iload_n 3, 1) := by decide +kernel
theorem dX1_dealAtDepth_76 : decode cX1_dealAtDepth 76 = .ok (.iconst 1, 1) := by decide +kernel
theorem dX1_dealAtDepth_77 : decode cX1_dealAtDepth 77 = .ok (.iastore, 1) := by decide +kernel
theorem dX1_dealAtDepth_78 : decode cX1_dealAtDepth 78 = .ok (.iinc 3 1, 3) := by decide +kernel
theorem dX1_dealAtDepth_81 : decode cX1_dealAtDepth 81 = .ok (.goto (-79), 3) := by decide +kernel
theorem dX1_dealAtDepth_84 : decode cX1_dealAtDepth 84 = .ok (.return_, 1) := by decide +kernel
theorem dX2_ofLetter_0 : decode cX2_ofLetter 0 = .ok (.iconst 0, 1) := by decide +kernel
theorem dX2_ofLetter_1 : decode cX2_ofLetter 1 = .ok (.istore_n 1, 1) := by decide +kernel
theorem dX2_ofLetter_2 : decode cX2_ofLetter 2 = .ok (.iload_n 1, 1) := by decide +kernel
theorem dX2_ofLetter_3 : decode cX2_ofLetter 3 = .ok (.getstatic 9, 3) := by decide +kernel
theorem dX2_ofLetter_6 : decode cX2_ofLetter 6 = .ok (.arraylength, 1) := by decide +kernel
theorem dX2_ofLetter_7 : decode cX2_ofLetter 7 = .ok (.if_icmp .ge 20, 3) := by decide +kernel
theorem dX2_ofLetter_10 : decode cX2_ofLetter 10 = .ok (.getstatic 9, 3) := by decide +kernel
theorem dX2_ofLetter_13 : decode cX2_ofLetter 13 = .ok (.iload_n 1, 1) := by decide +kernel
theorem dX2_ofLetter_14 : decode cX2_ofLetter 14 = .ok (.iaload, 1) := by decide +kernel
theorem dX2_ofLetter_15 : decode cX2_ofLetter 15 = .ok (.iload_n 0, 1) := by decide +kernel
theorem dX2_ofLetter_16 : decode cX2_ofLetter 16 = .ok (.if_icmp .ne 5, 3) := by decide +kernel
theorem dX2_ofLetter_19 : decode cX2_ofLetter 19 = .ok (.iload_n 1, 1) := by decide +kernel
theorem dX2_ofLetter_20 : decode cX2_ofLetter 20 = .ok (.ireturn, 1) := by decide +kernel
theorem dX2_ofLetter_21 : decode cX2_ofLetter 21 = .ok (.iinc 1 1, 3) := by decide +kernel
theorem dX2_ofLetter_24 : decode cX2_ofLetter 24 = .ok (.goto (-22), 3) := by decide +kernel
theorem dX2_ofLetter_27 : decode cX2_ofLetter 27 = .ok (.bipush (-9), 2) := by decide +kernel
theorem dX2_ofLetter_29 : decode cX2_ofLetter 29 = .ok (.ireturn, 1) := by decide +kernel
theorem dX2_isA_0 : decode cX2_isA 0 = .ok (.iload_n 0, 1) := by decide +kernel
theorem dX2_isA_1 : decode cX2_isA 1 = .ok (.istore_n 2, 1) := by decide +kernel
theorem dX2_isA_2 : decode cX2_isA 2 = .ok (.iconst 0, 1) := by decide +kernel
theorem dX2_isA_3 : decode cX2_isA 3 = .ok (.istore_n 3, 1) := by decide +kernel
theorem dX2_isA_4 : decode cX2_isA 4 = .ok (.iload_n 3, 1) := by decide +kernel
theorem dX2_isA_5 : decode cX2_isA 5 = .ok (.bipush 6, 2) := by decide +kernel
theorem dX2_isA_7 : decode cX2_isA 7 = .ok (.if_icmp .ge 34, 3) := by decide +kernel
theorem dX2_isA_10 : decode cX2_isA 10 = .ok (.iload_n 2, 1) := by decide +kernel
theorem dX2_isA_11 : decode cX2_isA 11 = .ok (.ifCond .lt 30, 3) := by decide +kernel
theorem dX2_isA_14 : decode cX2_isA 14 = .ok (.iload_n 2, 1) := by decide +kernel
theorem dX2_isA_15 : decode cX2_isA 15 = .ok (.getstatic 15, 3) := by decide +kernel
theorem dX2_isA_18 : decode cX2_isA 18 = .ok (.arraylength, 1) := by decide +kernel
theorem dX2_isA_19 : decode cX2_isA 19 = .ok (.if_icmp .ge 22, 3) := by decide +kernel
theorem dX2_isA_22 : decode cX2_isA 22 = .ok (.iload_n 2, 1) := by decide +kernel
theorem dX2_isA_23 : decode cX2_isA 23 = .ok (.iload_n 1, 1) := by decide +kernel
theorem dX2_isA_24 : decode cX2_isA 24 = .ok (.if_icmp .ne 5, 3) := by decide +kernel
theorem dX2_isA_27 : decode cX2_isA 27 = .ok (.iconst 1, 1) := by decide +kernel
theorem dX2_isA_28 : decode cX2_isA 28 = .ok (.ireturn, 1) := by decide +kernel
theorem dX2_isA_29 : decode cX2_isA 29 = .ok (.getstatic 15, 3) := by decide +kernel
theorem dX2_isA_32 : decode cX2_isA 32 = .ok (.iload_n 2, 1) := by decide +kernel
theorem dX2_isA_33 : decode cX2_isA 33 = .ok (.iaload, 1) := by decide +kernel
theorem dX2_isA_34 : decode cX2_isA 34 = .ok (.istore_n 2, 1) := by decide +kernel
theorem dX2_isA_35 : decode cX2_isA 35 = .ok (.iinc 3 1, 3) := by decide +kernel
theorem dX2_isA_38 : decode cX2_isA 38 = .ok (.goto (-34), 3) := by decide +kernel
theorem dX2_isA_41 : decode cX2_isA 41 = .ok (.iconst 0, 1) := by decide +kernel
theorem dX2_isA_42 : decode cX2_isA 42 = .ok (.ireturn, 1) := by decide +kernel
theorem dX3_init_0 : decode cX3_init 0 = .ok (.aload_n 0, 1) := by decide +kernel
theorem dX3_init_1 : decode cX3_init 1 = .ok (.invokespecial 3, 3) := by decide +kernel
theorem dX3_init_4 : decode cX3_init 4 = .ok (.aload_n 0, 1) := by decide +kernel
theorem dX3_init_5 : decode cX3_init 5 = .ok (.bipush 7, 2) := by decide +kernel
theorem dX3_init_7 : decode cX3_init 7 = .ok (.newarray .int, 2) := by decide +kernel
theorem dX3_init_9 : decode cX3_init 9 = .ok (.putfield 9, 3) := by decide +kernel
theorem dX3_init_12 : decode cX3_init 12 = .ok (.aload_n 0, 1) := by decide +kernel
theorem dX3_init_13 : decode cX3_init 13 = .ok (.sipush 128, 3) := by decide +kernel
theorem dX3_init_16 : decode cX3_init 16 = .ok (.newarray .int, 2) := by decide +kernel
theorem dX3_init_18 : decode cX3_init 18 = .ok (.putfield 15, 3) := by decide +kernel
theorem dX3_init_21 : decode cX3_init 21 = .ok (.aload_n 0, 1) := by decide +kernel
theorem dX3_init_22 : decode cX3_init 22 = .ok (.sipush 128, 3) := by decide +kernel
theorem dX3_init_25 : decode cX3_init 25 = .ok (.newarray .int, 2) := by decide +kernel
theorem dX3_init_27 : decode cX3_init 27 = .ok (.putfield 18, 3) := by decide +kernel
theorem dX3_init_30 : decode cX3_init 30 = .ok (.aload_n 0, 1) := by decide +kernel
theorem dX3_init_31 : decode cX3_init 31 = .ok (.iconst 0, 1) := by decide +kernel
theorem dX3_init_32 : decode cX3_init 32 = .ok (.putfield 21, 3) := by decide +kernel
theorem dX3_init_35 : decode cX3_init 35 = .ok (.return_, 1) := by decide +kernel
theorem dX3_look_0 : decode cX3_look 0 = .ok (.aload_n 0, 1) := by decide +kernel
theorem dX3_look_1 : decode cX3_look 1 = .ok (.aload_n 1, 1) := by decide +kernel
theorem dX3_look_2 : decode cX3_look 2 = .ok (.invokevirtual 25, 3) := by decide +kernel
theorem dX3_look_5 : decode cX3_look 5 = .ok (.putfield 21, 3) := by decide +kernel
theorem dX3_look_8 : decode cX3_look 8 = .ok (.aload_n 1, 1) := by decide +kernel
theorem dX3_look_9 : decode cX3_look 9 = .ok (.getfield 31, 3) := by decide +kernel
theorem dX3_look_12 : decode cX3_look 12 = .ok (.iconst 0, 1) := by decide +kernel
theorem dX3_look_13 : decode cX3_look 13 = .ok (.aload_n 0, 1) := by decide +kernel
theorem dX3_look_14 : decode cX3_look 14 = .ok (.getfield 9, 3) := by decide +kernel
theorem dX3_look_17 : decode cX3_look 17 = .ok (.iconst 0, 1) := by decide +kernel
theorem dX3_look_18 : decode cX3_look 18 = .ok (.bipush 7, 2) := by decide +kernel
theorem dX3_look_20 : decode cX3_look 20 = .ok (.invokestatic 34, 3) := by decide +kernel
theorem dX3_look_23 : decode cX3_look 23 = .ok (.aload_n 0, 1) := by decide +kernel
theorem dX3_look_24 : decode cX3_look 24 = .ok (.getfield 15, 3) := by decide +kernel
theorem dX3_look_27 : decode cX3_look 27 = .ok (.iconst 0, 1) := by decide +kernel
theorem dX3_look_28 : decode cX3_look 28 = .ok (.invokestatic 40, 3) := by decide +kernel
theorem dX3_look_31 : decode cX3_look 31 = .ok (.aload_n 0, 1) := by decide +kernel
theorem dX3_look_32 : decode cX3_look 32 = .ok (.getfield 18, 3) := by decide +kernel
theorem dX3_look_35 : decode cX3_look 35 = .ok (.iconst 0, 1) := by decide +kernel
theorem dX3_look_36 : decode cX3_look 36 = .ok (.invokestatic 40, 3) := by decide +kernel
theorem dX3_look_39 : decode cX3_look 39 = .ok (.aload_n 0, 1) := by decide +kernel
theorem dX3_look_40 : decode cX3_look 40 = .ok (.getfield 15, 3) := by decide +kernel
theorem dX3_look_43 : decode cX3_look 43 = .ok (.iconst 0, 1) := by decide +kernel
theorem dX3_look_44 : decode cX3_look 44 = .ok (.iconst 1, 1) := by decide +kernel
theorem dX3_look_45 : decode cX3_look 45 = .ok (.iastore, 1) := by decide +kernel
theorem dX3_look_46 : decode cX3_look 46 = .ok (.iconst 0, 1) := by decide +kernel
theorem dX3_look_47 : decode cX3_look 47 = .ok (.istore_n 2, 1) := by decide +kernel
theorem dX3_look_48 : decode cX3_look 48 = .ok (.iload_n 2, 1) := by decide +kernel
theorem dX3_look_49 : decode cX3_look 49 = .ok (.sipush 128, 3) := by decide +kernel
theorem dX3_look_52 : decode cX3_look 52 = .ok (.if_icmp .ge 51, 3) := by decide +kernel
theorem dX3_look_55 : decode cX3_look 55 = .ok (.iconst 0, 1) := by decide +kernel
theorem dX3_look_56 : decode cX3_look 56 = .ok (.istore_n 3, 1) := by decide +kernel
theorem dX3_look_57 : decode cX3_look 57 = .ok (.iload_n 3, 1) := by decide +kernel
theorem dX3_look_58 : decode cX3_look 58 = .ok (.bipush 7, 2) := by decide +kernel
theorem dX3_look_60 : decode cX3_look 60 = .ok (.if_icmp .ge 37, 3) := by decide +kernel
theorem dX3_look_63 : decode cX3_look 63 = .ok (.aload_n 0, 1) := by decide +kernel
theorem dX3_look_64 : decode cX3_look 64 = .ok (.iload_n 3, 1) := by decide +kernel
theorem dX3_look_65 : decode cX3_look 65 = .ok (.iload_n 2, 1) := by decide +kernel
theorem dX3_look_66 : decode cX3_look 66 = .ok (.invokevirtual 46, 3) := by decide +kernel
theorem dX3_look_69 : decode cX3_look 69 = .ok (.ifCond .eq 22, 3) := by decide +kernel
theorem dX3_look_72 : decode cX3_look 72 = .ok (.aload_n 0, 1) := by decide +kernel
theorem dX3_look_73 : decode cX3_look 73 = .ok (.getfield 15, 3) := by decide +kernel
theorem dX3_look_76 : decode cX3_look 76 = .ok (.iload_n 2, 1) := by decide +kernel
theorem dX3_look_77 : decode cX3_look 77 = .ok (.iload_n 3, 1) := by decide +kernel
theorem dX3_look_78 : decode cX3_look 78 = .ok (.invokestatic 50, 3) := by decide +kernel
theorem dX3_look_81 : decode cX3_look 81 = .ok (.dup2, 1) := by decide +kernel
theorem dX3_look_82 : decode cX3_look 82 = .ok (.iaload, 1) := by decide +kernel
theorem dX3_look_83 : decode cX3_look 83 = .ok (.aload_n 0, 1) := by decide +kernel
theorem dX3_look_84 : decode cX3_look 84 = .ok (.getfield 15, 3) := by decide +kernel
theorem dX3_look_87 : decode cX3_look 87 = .ok (.iload_n 2, 1) := by decide +kernel
theorem dX3_look_88 : decode cX3_look 88 = .ok (.iaload, 1) := by decide +kernel
theorem dX3_look_89 : decode cX3_look 89 = .ok (.iadd, 1) := by decide +kernel
theorem dX3_look_90 : decode cX3_look 90 = .ok (.iastore, 1) := by decide +kernel
theorem dX3_look_91 : decode cX3_look 91 = .ok (.iinc 3 1, 3) := by decide +kernel
theorem dX3_look_94 : decode cX3_look 94 = .ok (.goto (-37), 3) := by decide +kernel
theorem dX3_look_97 : decode cX3_look 97 = .ok (.iinc 2 1, 3) := by decide +kernel
theorem dX3_look_100 : decode cX3_look 100 = .ok (.goto (-52), 3) := by decide +kernel
theorem dX3_look_103 : decode cX3_look 103 = .ok (.bipush 127, 2) := by decide +kernel
theorem dX3_look_105 : decode cX3_look 105 = .ok (.istore_n 2, 1) := by decide +kernel
theorem dX3_look_106 : decode cX3_look 106 = .ok (.iload_n 2, 1) := by decide +kernel
theorem dX3_look_107 : decode cX3_look 107 = .ok (.ifCond .lt 70, 3) := by decide +kernel
theorem dX3_look_110 : decode cX3_look 110 = .ok (.aload_n 0, 1) := by decide +kernel
theorem dX3_look_111 : decode cX3_look 111 = .ok (.getfield 18, 3) := by decide +kernel
theorem dX3_look_114 : decode cX3_look 114 = .ok (.iload_n 2, 1) := by decide +kernel
theorem dX3_look_115 : decode cX3_look 115 = .ok (.iload_n 2, 1) := by decide +kernel
theorem dX3_look_116 : decode cX3_look 116 = .ok (.aload_n 0, 1) := by decide +kernel
theorem dX3_look_117 : decode cX3_look 117 = .ok (.getfield 21, 3) := by decide +kernel
theorem dX3_look_120 : decode cX3_look 120 = .ok (.if_icmp .ne 7, 3) := by decide +kernel
theorem dX3_look_123 : decode cX3_look 123 = .ok (.iconst 1, 1) := by decide +kernel
theorem dX3_look_124 : decode cX3_look 124 = .ok (.goto 4, 3) := by decide +kernel
theorem dX3_look_127 : decode cX3_look 127 = .ok (.iconst 0, 1) := by decide +kernel
theorem dX3_look_128 : decode cX3_look 128 = .ok (.iastore, 1) := by decide +kernel
theorem dX3_look_129 : decode cX3_look 129 = .ok (.iconst 0, 1) := by decide +kernel
theorem dX3_look_130 : decode cX3_look 130 = .ok (.istore_n 3, 1) := by decide +kernel
theorem dX3_look_131 : decode cX3_look 131 = .ok (.iload_n 3, 1) := by decide +kernel
theorem dX3_look_132 : decode cX3_look 132 = .ok (.bipush 7, 2) := by decide +kernel
theorem dX3_look_134 : decode cX3_look 134 = .ok (.if_icmp .ge 37, 3) := by decide +kernel
theorem dX3_look_137 : decode cX3_look 137 = .ok (.aload_n 0, 1) := by decide +kernel
theorem dX3_look_138 : decode cX3_look 138 = .ok (.iload_n 3, 1) := by decide +kernel
theorem dX3_look_139 : decode cX3_look 139 = .ok (.iload_n 2, 1) := by decide +kernel
theorem dX3_look_140 : decode cX3_look 140 = .ok (.invokevirtual 46, 3) := by decide +kernel
theorem dX3_look_143 : decode cX3_look 143 = .ok (.ifCond .eq 22, 3) := by decide +kernel
theorem dX3_look_146 : decode cX3_look 146 = .ok (.aload_n 0, 1) := by decide +kernel
theorem dX3_look_147 : decode cX3_look 147 = .ok (.getfield 18, 3) := by decide +kernel
theorem dX3_look_150 : decode cX3_look 150 = .ok (.iload_n 2, 1) := by decide +kernel
theorem dX3_look_151 : decode cX3_look 151 = .ok (.dup2, 1) := by decide +kernel
theorem dX3_look_152 : decode cX3_look 152 = .ok (.iaload, 1) := by decide +kernel
theorem dX3_look_153 : decode cX3_look 153 = .ok (.aload_n 0, 1) := by decide +kernel
theorem dX3_look_154 : decode cX3_look 154 = .ok (.getfield 18, 3) := by decide +kernel
theorem dX3_look_157 : decode cX3_look 157 = .ok (.iload_n 2, 1) := by decide +kernel
theorem dX3_look_158 : decode cX3_look 158 = .ok (.iload_n 3, 1) := by decide +kernel
theorem dX3_look_159 : decode cX3_look 159 = .ok (.invokestatic 50, 3) := by decide +kernel
theorem dX3_look_162 : decode cX3_look 162 = .ok (.iaload, 1) := by decide +kernel
theorem dX3_look_163 : decode cX3_look 163 = .ok (.iadd, 1) := by decide +kernel
theorem dX3_look_164 : decode cX3_look 164 = .ok (.iastore, 1) := by decide +kernel
theorem dX3_look_165 : decode cX3_look 165 = .ok (.iinc 3 1, 3) := by decide +kernel
theorem dX3_look_168 : decode cX3_look 168 = .ok (.goto (-37), 3) := by decide +kernel
theorem dX3_look_171 : decode cX3_look 171 = .ok (.iinc 2 (-1), 3) := by decide +kernel
theorem dX3_look_174 : decode cX3_look 174 = .ok (.goto (-68), 3) := by decide +kernel
theorem dX3_look_177 : decode cX3_look 177 = .ok (.return_, 1) := by decide +kernel
theorem dX3_with_0 : decode cX3_with 0 = .ok (.iload_n 0, 1) := by decide +kernel
theorem dX3_with_1 : decode cX3_with 1 = .ok (.iconst 1, 1) := by decide +kernel
theorem dX3_with_2 : decode cX3_with 2 = .ok (.iload_n 1, 1) := by decide +kernel
theorem dX3_with_3 : decode cX3_with 3 = .ok (.ishl, 1) := by decide +kernel
theorem dX3_with_4 : decode cX3_with 4 = .ok (.ior, 1) := by decide +kernel
theorem dX3_with_5 : decode cX3_with 5 = .ok (.bipush 127, 2) := by decide +kernel
theorem dX3_with_7 : decode cX3_with 7 = .ok (.iand, 1) := by decide +kernel
theorem dX3_with_8 : decode cX3_with 8 = .ok (.ireturn, 1) := by decide +kernel
theorem dX3_canFollow_0 : decode cX3_canFollow 0 = .ok (.aload_n 0, 1) := by decide +kernel
theorem dX3_canFollow_1 : decode cX3_canFollow 1 = .ok (.getfield 21, 3) := by decide +kernel
theorem dX3_canFollow_4 : decode cX3_canFollow 4 = .ok (.iload_n 1, 1) := by decide +kernel
theorem dX3_canFollow_5 : decode cX3_canFollow 5 = .ok (.ishr, 1) := by decide +kernel
theorem dX3_canFollow_6 : decode cX3_canFollow 6 = .ok (.iconst 1, 1) := by decide +kernel
theorem dX3_canFollow_7 : decode cX3_canFollow 7 = .ok (.iand, 1) := by decide +kernel
theorem dX3_canFollow_8 : decode cX3_canFollow 8 = .ok (.ifCond .eq 11, 3) := by decide +kernel
theorem dX3_canFollow_11 : decode cX3_canFollow 11 = .ok (.iload_n 2, 1) := by decide +kernel
theorem dX3_canFollow_12 : decode cX3_canFollow 12 = .ok (.iload_n 1, 1) := by decide +kernel
theorem dX3_canFollow_13 : decode cX3_canFollow 13 = .ok (.ishr, 1) := by decide +kernel
theorem dX3_canFollow_14 : decode cX3_canFollow 14 = .ok (.iconst 1, 1) := by decide +kernel
theorem dX3_canFollow_15 : decode cX3_canFollow 15 = .ok (.iand, 1) := by decide +kernel
theorem dX3_canFollow_16 : decode cX3_canFollow 16 = .ok (.ifCond .eq 5, 3) := by decide +kernel
theorem dX3_canFollow_19 : decode cX3_canFollow 19 = .ok (.iconst 0, 1) := by decide +kernel
theorem dX3_canFollow_20 : decode cX3_canFollow 20 = .ok (.ireturn, 1) := by decide +kernel
theorem dX3_canFollow_21 : decode cX3_canFollow 21 = .ok (.aload_n 0, 1) := by decide +kernel
theorem dX3_canFollow_22 : decode cX3_canFollow 22 = .ok (.getfield 9, 3) := by decide +kernel
theorem dX3_canFollow_25 : decode cX3_canFollow 25 = .ok (.iload_n 1, 1) := by decide +kernel
theorem dX3_canFollow_26 : decode cX3_canFollow 26 = .ok (.iaload, 1) := by decide +kernel
theorem dX3_canFollow_27 : decode cX3_canFollow 27 = .ok (.istore_n 3, 1) := by decide +kernel
theorem dX3_canFollow_28 : decode cX3_canFollow 28 = .ok (.iload_n 3, 1) := by decide +kernel
theorem dX3_canFollow_29 : decode cX3_canFollow 29 = .ok (.bipush 9, 2) := by decide +kernel
theorem dX3_canFollow_31 : decode cX3_canFollow 31 = .ok (.if_icmp .eq 21, 3) := by decide +kernel
theorem dX3_canFollow_34 : decode cX3_canFollow 34 = .ok (.iload_n 3, 1) := by decide +kernel
theorem dX3_canFollow_35 : decode cX3_canFollow 35 = .ok (.ifCond .lt 21, 3) := by decide +kernel
theorem dX3_canFollow_38 : decode cX3_canFollow 38 = .ok (.iload_n 3, 1) := by decide +kernel
theorem dX3_canFollow_39 : decode cX3_canFollow 39 = .ok (.bipush 7, 2) := by decide +kernel
theorem dX3_canFollow_41 : decode cX3_canFollow 41 = .ok (.if_icmp .ge 15, 3) := by decide +kernel
theorem dX3_canFollow_44 : decode cX3_canFollow 44 = .ok (.iload_n 2, 1) := by decide +kernel
theorem dX3_canFollow_45 : decode cX3_canFollow 45 = .ok (.iload_n 3, 1) := by decide +kernel
theorem dX3_canFollow_46 : decode cX3_canFollow 46 = .ok (.ishr, 1) := by decide +kernel
theorem dX3_canFollow_47 : decode cX3_canFollow 47 = .ok (.iconst 1, 1) := by decide +kernel
theorem dX3_canFollow_48 : decode cX3_canFollow 48 = .ok (.iand, 1) := by decide +kernel
theorem dX3_canFollow_49 : decode cX3_canFollow 49 = .ok (.ifCond .eq 7, 3) := by decide +kernel
theorem dX3_canFollow_52 : decode cX3_canFollow 52 = .ok (.iconst 1, 1) := by decide +kernel
theorem dX3_canFollow_53 : decode cX3_canFollow 53 = .ok (.goto 4, 3) := by decide +kernel
theorem dX3_canFollow_56 : decode cX3_canFollow 56 = .ok (.iconst 0, 1) := by decide +kernel
theorem dX3_canFollow_57 : decode cX3_canFollow 57 = .ok (.ireturn, 1) := by decide +kernel
theorem dX3_all_0 : decode cX3_all 0 = .ok (.aload_n 0, 1) := by decide +kernel
theorem dX3_all_1 : decode cX3_all 1 = .ok (.getfield 18, 3) := by decide +kernel
theorem dX3_all_4 : decode cX3_all 4 = .ok (.iconst 0, 1) := by decide +kernel
theorem dX3_all_5 : decode cX3_all 5 = .ok (.iaload, 1) := by decide +kernel
theorem dX3_all_6 : decode cX3_all 6 = .ok (.ireturn, 1) := by decide +kernel
theorem dX3_withPlace_0 : decode cX3_withPlace 0 = .ok (.iconst 0, 1) := by decide +kernel
theorem dX3_withPlace_1 : decode cX3_withPlace 1 = .ok (.istore_n 3, 1) := by decide +kernel
theorem dX3_withPlace_2 : decode cX3_withPlace 2 = .ok (.iconst 0, 1) := by decide +kernel
theorem dX3_withPlace_3 : decode cX3_withPlace 3 = .ok (.istore 4, 2) := by decide +kernel
theorem dX3_withPlace_5 : decode cX3_withPlace 5 = .ok (.iload 4, 2) := by decide +kernel
theorem dX3_withPlace_7 : decode cX3_withPlace 7 = .ok (.sipush 128, 3) := by decide +kernel
theorem dX3_withPlace_10 : decode cX3_withPlace 10 = .ok (.if_icmp .ge 28, 3) := by decide +kernel
theorem dX3_withPlace_13 : decode cX3_withPlace 13 = .ok (.iload 4, 2) := by decide +kernel
theorem dX3_withPlace_15 : decode cX3_withPlace 15 = .ok (.invokestatic 54, 3) := by decide +kernel
theorem dX3_withPlace_18 : decode cX3_withPlace 18 = .ok (.iload_n 2, 1) := by decide +kernel
theorem dX3_withPlace_19 : decode cX3_withPlace 19 = .ok (.if_icmp .ne 13, 3) := by decide +kernel
theorem dX3_withPlace_22 : decode cX3_withPlace 22 = .ok (.iload_n 3, 1) := by decide +kernel
theorem dX3_withPlace_23 : decode cX3_withPlace 23 = .ok (.aload_n 0, 1) := by decide +kernel
theorem dX3_withPlace_24 : decode cX3_withPlace 24 = .ok (.iload 4, 2) := by decide +kernel
theorem dX3_withPlace_26 : decode cX3_withPlace 26 = .ok (.iload_n 1, 1) := by decide +kernel
theorem dX3_withPlace_27 : decode cX3_withPlace 27 = .ok (.invokevirtual 60, 3) := by decide +kernel
theorem dX3_withPlace_30 : decode cX3_withPlace 30 = .ok (.iadd, 1) := by decide +kernel
theorem dX3_withPlace_31 : decode cX3_withPlace 31 = .ok (.istore_n 3, 1) := by decide +kernel
theorem dX3_withPlace_32 : decode cX3_withPlace 32 = .ok (.iinc 4 1, 3) := by decide +kernel
theorem dX3_withPlace_35 : decode cX3_withPlace 35 = .ok (.goto (-30), 3) := by decide +kernel
theorem dX3_withPlace_38 : decode cX3_withPlace 38 = .ok (.iload_n 3, 1) := by decide +kernel
theorem dX3_withPlace_39 : decode cX3_withPlace 39 = .ok (.ireturn, 1) := by decide +kernel
theorem dX3_withFirst_0 : decode cX3_withFirst 0 = .ok (.iconst 0, 1) := by decide +kernel
theorem dX3_withFirst_1 : decode cX3_withFirst 1 = .ok (.istore_n 3, 1) := by decide +kernel
theorem dX3_withFirst_2 : decode cX3_withFirst 2 = .ok (.iconst 0, 1) := by decide +kernel
theorem dX3_withFirst_3 : decode cX3_withFirst 3 = .ok (.istore 4, 2) := by decide +kernel
theorem dX3_withFirst_5 : decode cX3_withFirst 5 = .ok (.iload 4, 2) := by decide +kernel
theorem dX3_withFirst_7 : decode cX3_withFirst 7 = .ok (.sipush 128, 3) := by decide +kernel
theorem dX3_withFirst_10 : decode cX3_withFirst 10 = .ok (.if_icmp .ge 28, 3) := by decide +kernel
theorem dX3_withFirst_13 : decode cX3_withFirst 13 = .ok (.iload 4, 2) := by decide +kernel
theorem dX3_withFirst_15 : decode cX3_withFirst 15 = .ok (.iload_n 1, 1) := by decide +kernel
theorem dX3_withFirst_16 : decode cX3_withFirst 16 = .ok (.ishr, 1) := by decide +kernel
theorem dX3_withFirst_17 : decode cX3_withFirst 17 = .ok (.iconst 1, 1) := by decide +kernel
theorem dX3_withFirst_18 : decode cX3_withFirst 18 = .ok (.iand, 1) := by decide +kernel
theorem dX3_withFirst_19 : decode cX3_withFirst 19 = .ok (.ifCond .eq 13, 3) := by decide +kernel
theorem dX3_withFirst_22 : decode cX3_withFirst 22 = .ok (.iload_n 3, 1) := by decide +kernel
theorem dX3_withFirst_23 : decode cX3_withFirst 23 = .ok (.aload_n 0, 1) := by decide +kernel
theorem dX3_withFirst_24 : decode cX3_withFirst 24 = .ok (.iload 4, 2) := by decide +kernel
theorem dX3_withFirst_26 : decode cX3_withFirst 26 = .ok (.iload_n 2, 1) := by decide +kernel
theorem dX3_withFirst_27 : decode cX3_withFirst 27 = .ok (.invokevirtual 60, 3) := by decide +kernel
theorem dX3_withFirst_30 : decode cX3_withFirst 30 = .ok (.iadd, 1) := by decide +kernel
theorem dX3_withFirst_31 : decode cX3_withFirst 31 = .ok (.istore_n 3, 1) := by decide +kernel
theorem dX3_withFirst_32 : decode cX3_withFirst 32 = .ok (.iinc 4 1, 3) := by decide +kernel
theorem dX3_withFirst_35 : decode cX3_withFirst 35 = .ok (.goto (-30), 3) := by decide +kernel
theorem dX3_withFirst_38 : decode cX3_withFirst 38 = .ok (.iload_n 3, 1) := by decide +kernel
theorem dX3_withFirst_39 : decode cX3_withFirst 39 = .ok (.ireturn, 1) := by decide +kernel
theorem dX3_nextAfter_0 : decode cX3_nextAfter 0 = .ok (.iload_n 2, 1) := by decide +kernel
theorem dX3_nextAfter_1 : decode cX3_nextAfter 1 = .ok (.ifCond .lt 29, 3) := by decide +kernel
theorem dX3_nextAfter_4 : decode cX3_nextAfter 4 = .ok (.iload_n 2, 1) := by decide +kernel
theorem dX3_nextAfter_5 : decode cX3_nextAfter 5 = .ok (.bipush 7, 2) := by decide +kernel
theorem dX3_nextAfter_7 : decode cX3_nextAfter 7 = .ok (.if_icmp .ge 23, 3) := by decide +kernel
theorem dX3_nextAfter_10 : decode cX3_nextAfter 10 = .ok (.iload_n 1, 1) := by decide +kernel
theorem dX3_nextAfter_11 : decode cX3_nextAfter 11 = .ok (.ifCond .lt 19, 3) := by decide +kernel
theorem dX3_nextAfter_14 : decode cX3_nextAfter 14 = .ok (.iload_n 1, 1) := by decide +kernel
theorem dX3_nextAfter_15 : decode cX3_nextAfter 15 = .ok (.sipush 128, 3) := by decide +kernel
theorem dX3_nextAfter_18 : decode cX3_nextAfter 18 = .ok (.if_icmp .ge 12, 3) := by decide +kernel
theorem dX3_nextAfter_21 : decode cX3_nextAfter 21 = .ok (.aload_n 0, 1) := by decide +kernel
theorem dX3_nextAfter_22 : decode cX3_nextAfter 22 = .ok (.iload_n 2, 1) := by decide +kernel
theorem dX3_nextAfter_23 : decode cX3_nextAfter 23 = .ok (.iload_n 1, 1) := by decide +kernel
theorem dX3_nextAfter_24 : decode cX3_nextAfter 24 = .ok (.invokevirtual 46, 3) := by decide +kernel
theorem dX3_nextAfter_27 : decode cX3_nextAfter 27 = .ok (.ifCond .ne 5, 3) := by decide +kernel
theorem dX3_nextAfter_30 : decode cX3_nextAfter 30 = .ok (.iconst 0, 1) := by decide +kernel
theorem dX3_nextAfter_31 : decode cX3_nextAfter 31 = .ok (.ireturn, 1) := by decide +kernel
theorem dX3_nextAfter_32 : decode cX3_nextAfter 32 = .ok (.aload_n 0, 1) := by decide +kernel
theorem dX3_nextAfter_33 : decode cX3_nextAfter 33 = .ok (.getfield 15, 3) := by decide +kernel
theorem dX3_nextAfter_36 : decode cX3_nextAfter 36 = .ok (.iload_n 1, 1) := by decide +kernel
theorem dX3_nextAfter_37 : decode cX3_nextAfter 37 = .ok (.iaload, 1) := by decide +kernel
theorem dX3_nextAfter_38 : decode cX3_nextAfter 38 = .ok (.aload_n 0, 1) := by decide +kernel
theorem dX3_nextAfter_39 : decode cX3_nextAfter 39 = .ok (.getfield 18, 3) := by decide +kernel
theorem dX3_nextAfter_42 : decode cX3_nextAfter 42 = .ok (.iload_n 1, 1) := by decide +kernel
theorem dX3_nextAfter_43 : decode cX3_nextAfter 43 = .ok (.iload_n 2, 1) := by decide +kernel
theorem dX3_nextAfter_44 : decode cX3_nextAfter 44 = .ok (.invokestatic 50, 3) := by decide +kernel
theorem dX3_nextAfter_47 : decode cX3_nextAfter 47 = .ok (.iaload, 1) := by decide +kernel
theorem dX3_nextAfter_48 : decode cX3_nextAfter 48 = .ok (.imul, 1) := by decide +kernel
theorem dX3_nextAfter_49 : decode cX3_nextAfter 49 = .ok (.ireturn, 1) := by decide +kernel
theorem dX3_write_0 : decode cX3_write 0 = .ok (.aload_n 2, 1) := by decide +kernel
theorem dX3_write_1 : decode cX3_write 1 = .ok (.iconst 0, 1) := by decide +kernel
theorem dX3_write_2 : decode cX3_write 2 = .ok (.iconst 0, 1) := by decide +kernel
theorem dX3_write_3 : decode cX3_write 3 = .ok (.invokevirtual 63, 3) := by decide +kernel
theorem dX3_write_6 : decode cX3_write 6 = .ok (.iconst 0, 1) := by decide +kernel
theorem dX3_write_7 : decode cX3_write 7 = .ok (.istore_n 3, 1) := by decide +kernel
theorem dX3_write_8 : decode cX3_write 8 = .ok (.iload_n 1, 1) := by decide +kernel
theorem dX3_write_9 : decode cX3_write 9 = .ok (.istore 4, 2) := by decide +kernel
theorem dX3_write_11 : decode cX3_write 11 = .ok (.iconst 0, 1) := by decide +kernel
theorem dX3_write_12 : decode cX3_write 12 = .ok (.istore 5, 2) := by decide +kernel
theorem dX3_write_14 : decode cX3_write 14 = .ok (.iload 5, 2) := by decide +kernel
theorem dX3_write_16 : decode cX3_write 16 = .ok (.bipush 7, 2) := by decide +kernel
theorem dX3_write_18 : decode cX3_write 18 = .ok (.if_icmp .ge 81, 3) := by decide +kernel
theorem dX3_write_21 : decode cX3_write 21 = .ok (.iconst 0, 1) := by decide +kernel
theorem dX3_write_22 : decode cX3_write 22 = .ok (.istore 6, 2) := by decide +kernel
theorem dX3_write_24 : decode cX3_write 24 = .ok (.iload 6, 2) := by decide +kernel
theorem dX3_write_26 : decode cX3_write 26 = .ok (.bipush 7, 2) := by decide +kernel
theorem dX3_write_28 : decode cX3_write 28 = .ok (.if_icmp .ge 65, 3) := by decide +kernel
theorem dX3_write_31 : decode cX3_write 31 = .ok (.aload_n 0, 1) := by decide +kernel
theorem dX3_write_32 : decode cX3_write 32 = .ok (.iload 6, 2) := by decide +kernel
theorem dX3_write_34 : decode cX3_write 34 = .ok (.iload_n 3, 1) := by decide +kernel
theorem dX3_write_35 : decode cX3_write 35 = .ok (.invokevirtual 46, 3) := by decide +kernel
theorem dX3_write_38 : decode cX3_write 38 = .ok (.ifCond .ne 6, 3) := by decide +kernel
theorem dX3_write_41 : decode cX3_write 41 = .ok (.goto 46, 3) := by decide +kernel
theorem dX3_write_44 : decode cX3_write 44 = .ok (.aload_n 0, 1) := by decide +kernel
theorem dX3_write_45 : decode cX3_write 45 = .ok (.getfield 18, 3) := by decide +kernel
theorem dX3_write_48 : decode cX3_write 48 = .ok (.iload_n 3, 1) := by decide +kernel
theorem dX3_write_49 : decode cX3_write 49 = .ok (.iload 6, 2) := by decide +kernel
theorem dX3_write_51 : decode cX3_write 51 = .ok (.invokestatic 50, 3) := by decide +kernel
theorem dX3_write_54 : decode cX3_write 54 = .ok (.iaload, 1) := by decide +kernel
theorem dX3_write_55 : decode cX3_write 55 = .ok (.istore 7, 2) := by decide +kernel
theorem dX3_write_57 : decode cX3_write 57 = .ok (.iload 4, 2) := by decide +kernel
theorem dX3_write_59 : decode cX3_write 59 = .ok (.iload 7, 2) := by decide +kernel
theorem dX3_write_61 : decode cX3_write 61 = .ok (.if_icmp .ge 19, 3) := by decide +kernel
theorem dX3_write_64 : decode cX3_write 64 = .ok (.aload_n 2, 1) := by decide +kernel
theorem dX3_write_65 : decode cX3_write 65 = .ok (.iload 6, 2) := by decide +kernel
theorem dX3_write_67 : decode cX3_write 67 = .ok (.invokevirtual 69, 3) := by decide +kernel
theorem dX3_write_70 : decode cX3_write 70 = .ok (.iload_n 3, 1) := by decide +kernel
theorem dX3_write_71 : decode cX3_write 71 = .ok (.iload 6, 2) := by decide +kernel
theorem dX3_write_73 : decode cX3_write 73 = .ok (.invokestatic 50, 3) := by decide +kernel
theorem dX3_write_76 : decode cX3_write 76 = .ok (.istore_n 3, 1) := by decide +kernel
theorem dX3_write_77 : decode cX3_write 77 = .ok (.goto 16, 3) := by decide +kernel
theorem dX3_write_80 : decode cX3_write 80 = .ok (.iload 4, 2) := by decide +kernel
theorem dX3_write_82 : decode cX3_write 82 = .ok (.iload 7, 2) := by decide +kernel
theorem dX3_write_84 : decode cX3_write 84 = .ok (.isub, 1) := by decide +kernel
theorem dX3_write_85 : decode cX3_write 85 = .ok (.istore 4, 2) := by decide +kernel
theorem dX3_write_87 : decode cX3_write 87 = .ok (.iinc 6 1, 3) := by decide +kernel
theorem dX3_write_90 : decode cX3_write 90 = .ok (.goto (-66), 3) := by decide +kernel
theorem dX3_write_93 : decode cX3_write 93 = .ok (.iinc 5 1, 3) := by decide +kernel
theorem dX3_write_96 : decode cX3_write 96 = .ok (.goto (-82), 3) := by decide +kernel
theorem dX3_write_99 : decode cX3_write 99 = .ok (.return_, 1) := by decide +kernel
theorem dX4_tooWide_0 : decode cX4_tooWide 0 = .ok (.aload_n 0, 1) := by decide +kernel
theorem dX4_tooWide_1 : decode cX4_tooWide 1 = .ok (.bipush 9, 2) := by decide +kernel
theorem dX4_tooWide_3 : decode cX4_tooWide 3 = .ok (.invokevirtual 9, 3) := by decide +kernel
theorem dX4_tooWide_6 : decode cX4_tooWide 6 = .ok (.iload_n 1, 1) := by decide +kernel
theorem dX4_tooWide_7 : decode cX4_tooWide 7 = .ok (.iand, 1) := by decide +kernel
theorem dX4_tooWide_8 : decode cX4_tooWide 8 = .ok (.invokestatic 15, 3) := by decide +kernel
theorem dX4_tooWide_11 : decode cX4_tooWide 11 = .ok (.iload_n 2, 1) := by decide +kernel
theorem dX4_tooWide_12 : decode cX4_tooWide 12 = .ok (.if_icmp .le 6, 3) := by decide +kernel
theorem dX4_tooWide_15 : decode cX4_tooWide 15 = .ok (.bipush 9, 2) := by decide +kernel
theorem dX4_tooWide_17 : decode cX4_tooWide 17 = .ok (.ireturn, 1) := by decide +kernel
theorem dX4_tooWide_18 : decode cX4_tooWide 18 = .ok (.iconst 0, 1) := by decide +kernel
theorem dX4_tooWide_19 : decode cX4_tooWide 19 = .ok (.istore_n 3, 1) := by decide +kernel
theorem dX4_tooWide_20 : decode cX4_tooWide 20 = .ok (.iload_n 3, 1) := by decide +kernel
theorem dX4_tooWide_21 : decode cX4_tooWide 21 = .ok (.aload_n 0, 1) := by decide +kernel
theorem dX4_tooWide_22 : decode cX4_tooWide 22 = .ok (.getfield 20, 3) := by decide +kernel
theorem dX4_tooWide_25 : decode cX4_tooWide 25 = .ok (.if_icmp .ge 25, 3) := by decide +kernel
theorem dX4_tooWide_28 : decode cX4_tooWide 28 = .ok (.aload_n 0, 1) := by decide +kernel
theorem dX4_tooWide_29 : decode cX4_tooWide 29 = .ok (.iload_n 3, 1) := by decide +kernel
theorem dX4_tooWide_30 : decode cX4_tooWide 30 = .ok (.invokevirtual 9, 3) := by decide +kernel
theorem dX4_tooWide_33 : decode cX4_tooWide 33 = .ok (.iload_n 1, 1) := by decide +kernel
theorem dX4_tooWide_34 : decode cX4_tooWide 34 = .ok (.iand, 1) := by decide +kernel
theorem dX4_tooWide_35 : decode cX4_tooWide 35 = .ok (.invokestatic 15, 3) := by decide +kernel
theorem dX4_tooWide_38 : decode cX4_tooWide 38 = .ok (.iload_n 2, 1) := by decide +kernel
theorem dX4_tooWide_39 : decode cX4_tooWide 39 = .ok (.if_icmp .le 5, 3) := by decide +kernel
theorem dX4_tooWide_42 : decode cX4_tooWide 42 = .ok (.iload_n 3, 1) := by decide +kernel
theorem dX4_tooWide_43 : decode cX4_tooWide 43 = .ok (.ireturn, 1) := by decide +kernel
theorem dX4_tooWide_44 : decode cX4_tooWide 44 = .ok (.iinc 3 1, 3) := by decide +kernel
theorem dX4_tooWide_47 : decode cX4_tooWide 47 = .ok (.goto (-27), 3) := by decide +kernel
theorem dX4_tooWide_50 : decode cX4_tooWide 50 = .ok (.bipush (-9), 2) := by decide +kernel
theorem dX4_tooWide_52 : decode cX4_tooWide 52 = .ok (.ireturn, 1) := by decide +kernel
theorem dX4_tooDeep_0 : decode cX4_tooDeep 0 = .ok (.iconst 0, 1) := by decide +kernel
theorem dX4_tooDeep_1 : decode cX4_tooDeep 1 = .ok (.istore_n 3, 1) := by decide +kernel
theorem dX4_tooDeep_2 : decode cX4_tooDeep 2 = .ok (.iconst 0, 1) := by decide +kernel
theorem dX4_tooDeep_3 : decode cX4_tooDeep 3 = .ok (.istore 4, 2) := by decide +kernel
theorem dX4_tooDeep_5 : decode cX4_tooDeep 5 = .ok (.iload 4, 2) := by decide +kernel
theorem dX4_tooDeep_7 : decode cX4_tooDeep 7 = .ok (.aload_n 0, 1) := by decide +kernel
theorem dX4_tooDeep_8 : decode cX4_tooDeep 8 = .ok (.getfield 20, 3) := by decide +kernel
theorem dX4_tooDeep_11 : decode cX4_tooDeep 11 = .ok (.if_icmp .ge 35, 3) := by decide +kernel
theorem dX4_tooDeep_14 : decode cX4_tooDeep 14 = .ok (.iload_n 1, 1) := by decide +kernel
theorem dX4_tooDeep_15 : decode cX4_tooDeep 15 = .ok (.iload 4, 2) := by decide +kernel
theorem dX4_tooDeep_17 : decode cX4_tooDeep 17 = .ok (.ishr, 1) := by decide +kernel
theorem dX4_tooDeep_18 : decode cX4_tooDeep 18 = .ok (.iconst 1, 1) := by decide +kernel
theorem dX4_tooDeep_19 : decode cX4_tooDeep 19 = .ok (.iand, 1) := by decide +kernel
theorem dX4_tooDeep_20 : decode cX4_tooDeep 20 = .ok (.ifCond .eq 20, 3) := by decide +kernel
theorem dX4_tooDeep_23 : decode cX4_tooDeep 23 = .ok (.aload_n 0, 1) := by decide +kernel
theorem dX4_tooDeep_24 : decode cX4_tooDeep 24 = .ok (.iload 4, 2) := by decide +kernel
theorem dX4_tooDeep_26 : decode cX4_tooDeep 26 = .ok (.invokevirtual 24, 3) := by decide +kernel
theorem dX4_tooDeep_29 : decode cX4_tooDeep 29 = .ok (.iload_n 2, 1) := by decide +kernel
theorem dX4_tooDeep_30 : decode cX4_tooDeep 30 = .ok (.if_icmp .le 10, 3) := by decide +kernel
theorem dX4_tooDeep_33 : decode cX4_tooDeep 33 = .ok (.iload_n 3, 1) := by decide +kernel
theorem dX4_tooDeep_34 : decode cX4_tooDeep 34 = .ok (.iconst 1, 1) := by decide +kernel
theorem dX4_tooDeep_35 : decode cX4_tooDeep 35 = .ok (.iload 4, 2) := by decide +kernel
theorem dX4_tooDeep_37 : decode cX4_tooDeep 37 = .ok (.ishl, 1) := by decide +kernel
theorem dX4_tooDeep_38 : decode cX4_tooDeep 38 = .ok (.ior, 1) := by decide +kernel
theorem dX4_tooDeep_39 : decode cX4_tooDeep 39 = .ok (.istore_n 3, 1) := by decide +kernel
theorem dX4_tooDeep_40 : decode cX4_tooDeep 40 = .ok (.iinc 4 1, 3) := by decide +kernel
theorem dX4_tooDeep_43 : decode cX4_tooDeep 43 = .ok (.goto (-38), 3) := by decide +kernel
theorem dX4_tooDeep_46 : decode cX4_tooDeep 46 = .ok (.iload_n 3, 1) := by decide +kernel
theorem dX4_tooDeep_47 : decode cX4_tooDeep 47 = .ok (.ireturn, 1) := by decide +kernel
theorem dX4_passes_0 : decode cX4_passes 0 = .ok (.aload_n 0, 1) := by decide +kernel
theorem dX4_passes_1 : decode cX4_passes 1 = .ok (.iload_n 1, 1) := by decide +kernel
theorem dX4_passes_2 : decode cX4_passes 2 = .ok (.iload_n 3, 1) := by decide +kernel
theorem dX4_passes_3 : decode cX4_passes 3 = .ok (.invokestatic 27, 3) := by decide +kernel
theorem dX4_passes_6 : decode cX4_passes 6 = .ok (.ifCond .ne 18, 3) := by decide +kernel
theorem dX4_passes_9 : decode cX4_passes 9 = .ok (.aload_n 0, 1) := by decide +kernel
theorem dX4_passes_10 : decode cX4_passes 10 = .ok (.iload_n 1, 1) := by decide +kernel
theorem dX4_passes_11 : decode cX4_passes 11 = .ok (.iload_n 2, 1) := by decide +kernel
theorem dX4_passes_12 : decode cX4_passes 12 = .ok (.invokestatic 33, 3) := by decide +kernel
theorem dX4_passes_15 : decode cX4_passes 15 = .ok (.bipush (-9), 2) := by decide +kernel
theorem dX4_passes_17 : decode cX4_passes 17 = .ok (.if_icmp .ne 7, 3) := by decide +kernel
theorem dX4_passes_20 : decode cX4_passes 20 = .ok (.iconst 1, 1) := by decide +kernel
theorem dX4_passes_21 : decode cX4_passes 21 = .ok (.goto 4, 3) := by decide +kernel
theorem dX4_passes_24 : decode cX4_passes 24 = .ok (.iconst 0, 1) := by decide +kernel
theorem dX4_passes_25 : decode cX4_passes 25 = .ok (.ireturn, 1) := by decide +kernel
theorem dX4_cuts_0 : decode cX4_cuts 0 = .ok (.aload_n 0, 1) := by decide +kernel
theorem dX4_cuts_1 : decode cX4_cuts 1 = .ok (.invokevirtual 36, 3) := by decide +kernel
theorem dX4_cuts_4 : decode cX4_cuts 4 = .ok (.istore_n 3, 1) := by decide +kernel
theorem dX4_cuts_5 : decode cX4_cuts 5 = .ok (.iload_n 3, 1) := by decide +kernel
theorem dX4_cuts_6 : decode cX4_cuts 6 = .ok (.istore 4, 2) := by decide +kernel
theorem dX4_cuts_8 : decode cX4_cuts 8 = .ok (.iconst 0, 1) := by decide +kernel
theorem dX4_cuts_9 : decode cX4_cuts 9 = .ok (.istore 5, 2) := by decide +kernel
theorem dX4_cuts_11 : decode cX4_cuts 11 = .ok (.iload 5, 2) := by decide +kernel
theorem dX4_cuts_13 : decode cX4_cuts 13 = .ok (.sipush 128, 3) := by decide +kernel
theorem dX4_cuts_16 : decode cX4_cuts 16 = .ok (.if_icmp .ge 62, 3) := by decide +kernel
theorem dX4_cuts_19 : decode cX4_cuts 19 = .ok (.iload 5, 2) := by decide +kernel
theorem dX4_cuts_21 : decode cX4_cuts 21 = .ok (.invokestatic 15, 3) := by decide +kernel
theorem dX4_cuts_24 : decode cX4_cuts 24 = .ok (.iload 4, 2) := by decide +kernel
theorem dX4_cuts_26 : decode cX4_cuts 26 = .ok (.invokestatic 15, 3) := by decide +kernel
theorem dX4_cuts_29 : decode cX4_cuts 29 = .ok (.if_icmp .ge 7, 3) := by decide +kernel
theorem dX4_cuts_32 : decode cX4_cuts 32 = .ok (.iconst 1, 1) := by decide +kernel
theorem dX4_cuts_33 : decode cX4_cuts 33 = .ok (.goto 4, 3) := by decide +kernel
theorem dX4_cuts_36 : decode cX4_cuts 36 = .ok (.iconst 0, 1) := by decide +kernel
theorem dX4_cuts_37 : decode cX4_cuts 37 = .ok (.istore 6, 2) := by decide +kernel
theorem dX4_cuts_39 : decode cX4_cuts 39 = .ok (.iload 6, 2) := by decide +kernel
theorem dX4_cuts_41 : decode cX4_cuts 41 = .ok (.ifCond .eq 31, 3) := by decide +kernel
theorem dX4_cuts_44 : decode cX4_cuts 44 = .ok (.iload 5, 2) := by decide +kernel
theorem dX4_cuts_46 : decode cX4_cuts 46 = .ok (.iload_n 3, 1) := by decide +kernel
theorem dX4_cuts_47 : decode cX4_cuts 47 = .ok (.iconst (-1), 1) := by decide +kernel
theorem dX4_cuts_48 : decode cX4_cuts 48 = .ok (.ixor, 1) := by decide +kernel
theorem dX4_cuts_49 : decode cX4_cuts 49 = .ok (.iand, 1) := by decide +kernel
theorem dX4_cuts_50 : decode cX4_cuts 50 = .ok (.ifCond .ne 22, 3) := by decide +kernel
theorem dX4_cuts_53 : decode cX4_cuts 53 = .ok (.aload_n 0, 1) := by decide +kernel
theorem dX4_cuts_54 : decode cX4_cuts 54 = .ok (.aload_n 0, 1) := by decide +kernel
theorem dX4_cuts_55 : decode cX4_cuts 55 = .ok (.iload 5, 2) := by decide +kernel
theorem dX4_cuts_57 : decode cX4_cuts 57 = .ok (.invokestatic 40, 3) := by decide +kernel
theorem dX4_cuts_60 : decode cX4_cuts 60 = .ok (.iload_n 1, 1) := by decide +kernel
theorem dX4_cuts_61 : decode cX4_cuts 61 = .ok (.iload_n 2, 1) := by decide +kernel
theorem dX4_cuts_62 : decode cX4_cuts 62 = .ok (.invokestatic 44, 3) := by decide +kernel
theorem dX4_cuts_65 : decode cX4_cuts 65 = .ok (.ifCond .eq 7, 3) := by decide +kernel
theorem dX4_cuts_68 : decode cX4_cuts 68 = .ok (.iload 5, 2) := by decide +kernel
theorem dX4_cuts_70 : decode cX4_cuts 70 = .ok (.istore 4, 2) := by decide +kernel
theorem dX4_cuts_72 : decode cX4_cuts 72 = .ok (.iinc 5 1, 3) := by decide +kernel
theorem dX4_cuts_75 : decode cX4_cuts 75 = .ok (.goto (-64), 3) := by decide +kernel
theorem dX4_cuts_78 : decode cX4_cuts 78 = .ok (.iload 4, 2) := by decide +kernel
theorem dX4_cuts_80 : decode cX4_cuts 80 = .ok (.ireturn, 1) := by decide +kernel
theorem dX4_left_0 : decode cX4_left 0 = .ok (.iconst 0, 1) := by decide +kernel
theorem dX4_left_1 : decode cX4_left 1 = .ok (.istore_n 2, 1) := by decide +kernel
theorem dX4_left_2 : decode cX4_left 2 = .ok (.iconst 0, 1) := by decide +kernel
theorem dX4_left_3 : decode cX4_left 3 = .ok (.istore_n 3, 1) := by decide +kernel
theorem dX4_left_4 : decode cX4_left 4 = .ok (.iload_n 3, 1) := by decide +kernel
theorem dX4_left_5 : decode cX4_left 5 = .ok (.aload_n 0, 1) := by decide +kernel
theorem dX4_left_6 : decode cX4_left 6 = .ok (.getfield 20, 3) := by decide +kernel
theorem dX4_left_9 : decode cX4_left 9 = .ok (.if_icmp .ge 33, 3) := by decide +kernel
theorem dX4_left_12 : decode cX4_left 12 = .ok (.aload_n 0, 1) := by decide +kernel
theorem dX4_left_13 : decode cX4_left 13 = .ok (.iload_n 3, 1) := by decide +kernel
theorem dX4_left_14 : decode cX4_left 14 = .ok (.invokevirtual 48, 3) := by decide +kernel
theorem dX4_left_17 : decode cX4_left 17 = .ok (.ifCond .eq 19, 3) := by decide +kernel
theorem dX4_left_20 : decode cX4_left 20 = .ok (.aload_n 0, 1) := by decide +kernel
theorem dX4_left_21 : decode cX4_left 21 = .ok (.iload_n 3, 1) := by decide +kernel
theorem dX4_left_22 : decode cX4_left 22 = .ok (.invokevirtual 52, 3) := by decide +kernel
theorem dX4_left_25 : decode cX4_left 25 = .ok (.iload_n 1, 1) := by decide +kernel
theorem dX4_left_26 : decode cX4_left 26 = .ok (.iand, 1) := by decide +kernel
theorem dX4_left_27 : decode cX4_left 27 = .ok (.ifCond .ne 9, 3) := by decide +kernel
theorem dX4_left_30 : decode cX4_left 30 = .ok (.iload_n 2, 1) := by decide +kernel
theorem dX4_left_31 : decode cX4_left 31 = .ok (.iconst 1, 1) := by decide +kernel
theorem dX4_left_32 : decode cX4_left 32 = .ok (.iload_n 3, 1) := by decide +kernel
theorem dX4_left_33 : decode cX4_left 33 = .ok (.ishl, 1) := by decide +kernel
theorem dX4_left_34 : decode cX4_left 34 = .ok (.ior, 1) := by decide +kernel
theorem dX4_left_35 : decode cX4_left 35 = .ok (.istore_n 2, 1) := by decide +kernel
theorem dX4_left_36 : decode cX4_left 36 = .ok (.iinc 3 1, 3) := by decide +kernel
theorem dX4_left_39 : decode cX4_left 39 = .ok (.goto (-35), 3) := by decide +kernel
theorem dX4_left_42 : decode cX4_left 42 = .ok (.iload_n 2, 1) := by decide +kernel
theorem dX4_left_43 : decode cX4_left 43 = .ok (.ireturn, 1) := by decide +kernel
theorem dX4_places_0 : decode cX4_places 0 = .ok (.aload_n 0, 1) := by decide +kernel
theorem dX4_places_1 : decode cX4_places 1 = .ok (.aload_n 0, 1) := by decide +kernel
theorem dX4_places_2 : decode cX4_places 2 = .ok (.invokevirtual 36, 3) := by decide +kernel
theorem dX4_places_5 : decode cX4_places 5 = .ok (.iload_n 1, 1) := by decide +kernel
theorem dX4_places_6 : decode cX4_places 6 = .ok (.iload_n 2, 1) := by decide +kernel
theorem dX4_places_7 : decode cX4_places 7 = .ok (.invokestatic 44, 3) := by decide +kernel
theorem dX4_places_10 : decode cX4_places 10 = .ok (.ifCond .ne 5, 3) := by decide +kernel
theorem dX4_places_13 : decode cX4_places 13 = .ok (.iconst 0, 1) := by decide +kernel
theorem dX4_places_14 : decode cX4_places 14 = .ok (.ireturn, 1) := by decide +kernel
theorem dX4_places_15 : decode cX4_places 15 = .ok (.aload_n 0, 1) := by decide +kernel
theorem dX4_places_16 : decode cX4_places 16 = .ok (.bipush 9, 2) := by decide +kernel
theorem dX4_places_18 : decode cX4_places 18 = .ok (.iload_n 1, 1) := by decide +kernel
theorem dX4_places_19 : decode cX4_places 19 = .ok (.iload_n 2, 1) := by decide +kernel
theorem dX4_places_20 : decode cX4_places 20 = .ok (.invokestatic 55, 3) := by decide +kernel
theorem dX4_places_23 : decode cX4_places 23 = .ok (.ifCond .eq 7, 3) := by decide +kernel
theorem dX4_places_26 : decode cX4_places 26 = .ok (.iconst 1, 1) := by decide +kernel
theorem dX4_places_27 : decode cX4_places 27 = .ok (.goto 4, 3) := by decide +kernel
theorem dX4_places_30 : decode cX4_places 30 = .ok (.iconst 0, 1) := by decide +kernel
theorem dX4_places_31 : decode cX4_places 31 = .ok (.istore_n 3, 1) := by decide +kernel
theorem dX4_places_32 : decode cX4_places 32 = .ok (.iconst 0, 1) := by decide +kernel
theorem dX4_places_33 : decode cX4_places 33 = .ok (.istore 4, 2) := by decide +kernel
theorem dX4_places_35 : decode cX4_places 35 = .ok (.iload 4, 2) := by decide +kernel
theorem dX4_places_37 : decode cX4_places 37 = .ok (.aload_n 0, 1) := by decide +kernel
theorem dX4_places_38 : decode cX4_places 38 = .ok (.getfield 20, 3) := by decide +kernel
theorem dX4_places_41 : decode cX4_places 41 = .ok (.if_icmp .ge 32, 3) := by decide +kernel
theorem dX4_places_44 : decode cX4_places 44 = .ok (.aload_n 0, 1) := by decide +kernel
theorem dX4_places_45 : decode cX4_places 45 = .ok (.iload 4, 2) := by decide +kernel
theorem dX4_places_47 : decode cX4_places 47 = .ok (.invokevirtual 48, 3) := by decide +kernel
theorem dX4_places_50 : decode cX4_places 50 = .ok (.ifCond .eq 17, 3) := by decide +kernel
theorem dX4_places_53 : decode cX4_places 53 = .ok (.aload_n 0, 1) := by decide +kernel
theorem dX4_places_54 : decode cX4_places 54 = .ok (.iload 4, 2) := by decide +kernel
theorem dX4_places_56 : decode cX4_places 56 = .ok (.iload_n 1, 1) := by decide +kernel
theorem dX4_places_57 : decode cX4_places 57 = .ok (.iload_n 2, 1) := by decide +kernel
theorem dX4_places_58 : decode cX4_places 58 = .ok (.invokestatic 55, 3) := by decide +kernel
theorem dX4_places_61 : decode cX4_places 61 = .ok (.ifCond .eq 6, 3) := by decide +kernel
theorem dX4_places_64 : decode cX4_places 64 = .ok (.iinc 3 1, 3) := by decide +kernel
theorem dX4_places_67 : decode cX4_places 67 = .ok (.iinc 4 1, 3) := by decide +kernel
theorem dX4_places_70 : decode cX4_places 70 = .ok (.goto (-35), 3) := by decide +kernel
theorem dX4_places_73 : decode cX4_places 73 = .ok (.iload_n 3, 1) := by decide +kernel
theorem dX4_places_74 : decode cX4_places 74 = .ok (.ireturn, 1) := by decide +kernel
theorem dX4_hasRoom_0 : decode cX4_hasRoom 0 = .ok (.aload_n 0, 1) := by decide +kernel
theorem dX4_hasRoom_1 : decode cX4_hasRoom 1 = .ok (.iload_n 1, 1) := by decide +kernel
theorem dX4_hasRoom_2 : decode cX4_hasRoom 2 = .ok (.invokevirtual 9, 3) := by decide +kernel
theorem dX4_hasRoom_5 : decode cX4_hasRoom 5 = .ok (.invokestatic 15, 3) := by decide +kernel
theorem dX4_hasRoom_8 : decode cX4_hasRoom 8 = .ok (.iload_n 2, 1) := by decide +kernel
theorem dX4_hasRoom_9 : decode cX4_hasRoom 9 = .ok (.if_icmp .ge 16, 3) := by decide +kernel
theorem dX4_hasRoom_12 : decode cX4_hasRoom 12 = .ok (.aload_n 0, 1) := by decide +kernel
theorem dX4_hasRoom_13 : decode cX4_hasRoom 13 = .ok (.iload_n 1, 1) := by decide +kernel
theorem dX4_hasRoom_14 : decode cX4_hasRoom 14 = .ok (.invokevirtual 24, 3) := by decide +kernel
theorem dX4_hasRoom_17 : decode cX4_hasRoom 17 = .ok (.iload_n 3, 1) := by decide +kernel
theorem dX4_hasRoom_18 : decode cX4_hasRoom 18 = .ok (.if_icmp .ge 7, 3) := by decide +kernel
theorem dX4_hasRoom_21 : decode cX4_hasRoom 21 = .ok (.iconst 1, 1) := by decide +kernel
theorem dX4_hasRoom_22 : decode cX4_hasRoom 22 = .ok (.goto 4, 3) := by decide +kernel
theorem dX4_hasRoom_25 : decode cX4_hasRoom 25 = .ok (.iconst 0, 1) := by decide +kernel
theorem dX4_hasRoom_26 : decode cX4_hasRoom 26 = .ok (.ireturn, 1) := by decide +kernel
theorem dX5_faultPlace_0 : decode cX5_faultPlace 0 = .ok (.iconst 0, 1) := by decide +kernel
theorem dX5_faultPlace_1 : decode cX5_faultPlace 1 = .ok (.istore_n 1, 1) := by decide +kernel
theorem dX5_faultPlace_2 : decode cX5_faultPlace 2 = .ok (.iconst 0, 1) := by decide +kernel
theorem dX5_faultPlace_3 : decode cX5_faultPlace 3 = .ok (.istore_n 2, 1) := by decide +kernel
theorem dX5_faultPlace_4 : decode cX5_faultPlace 4 = .ok (.iconst 0, 1) := by decide +kernel
theorem dX5_faultPlace_5 : decode cX5_faultPlace 5 = .ok (.istore_n 3, 1) := by decide +kernel
theorem dX5_faultPlace_6 : decode cX5_faultPlace 6 = .ok (.iload_n 3, 1) := by decide +kernel
theorem dX5_faultPlace_7 : decode cX5_faultPlace 7 = .ok (.aload_n 0, 1) := by decide +kernel
theorem dX5_faultPlace_8 : decode cX5_faultPlace 8 = .ok (.getfield 9, 3) := by decide +kernel
theorem dX5_faultPlace_11 : decode cX5_faultPlace 11 = .ok (.if_icmp .ge 61, 3) := by decide +kernel
theorem dX5_faultPlace_14 : decode cX5_faultPlace 14 = .ok (.aload_n 0, 1) := by decide +kernel
theorem dX5_faultPlace_15 : decode cX5_faultPlace 15 = .ok (.getfield 15, 3) := by decide +kernel
theorem dX5_faultPlace_18 : decode cX5_faultPlace 18 = .ok (.iload_n 3, 1) := by decide +kernel
theorem dX5_faultPlace_19 : decode cX5_faultPlace 19 = .ok (.iaload, 1) := by decide +kernel
theorem dX5_faultPlace_20 : decode cX5_faultPlace 20 = .ok (.istore 4, 2) := by decide +kernel
theorem dX5_faultPlace_22 : decode cX5_faultPlace 22 = .ok (.iload_n 1, 1) := by decide +kernel
theorem dX5_faultPlace_23 : decode cX5_faultPlace 23 = .ok (.ifCond .ne 13, 3) := by decide +kernel
theorem dX5_faultPlace_26 : decode cX5_faultPlace 26 = .ok (.iload 4, 2) := by decide +kernel
theorem dX5_faultPlace_28 : decode cX5_faultPlace 28 = .ok (.bipush 32, 2) := by decide +kernel
theorem dX5_faultPlace_30 : decode cX5_faultPlace 30 = .ok (.if_icmp .ne 6, 3) := by decide +kernel
theorem dX5_faultPlace_33 : decode cX5_faultPlace 33 = .ok (.goto 33, 3) := by decide +kernel
theorem dX5_faultPlace_36 : decode cX5_faultPlace 36 = .ok (.iload_n 2, 1) := by decide +kernel
theorem dX5_faultPlace_37 : decode cX5_faultPlace 37 = .ok (.bipush 7, 2) := by decide +kernel
theorem dX5_faultPlace_39 : decode cX5_faultPlace 39 = .ok (.if_icmp .eq 12, 3) := by decide +kernel
theorem dX5_faultPlace_42 : decode cX5_faultPlace 42 = .ok (.iload 4, 2) := by decide +kernel
theorem dX5_faultPlace_44 : decode cX5_faultPlace 44 = .ok (.iload_n 1, 1) := by decide +kernel
theorem dX5_faultPlace_45 : decode cX5_faultPlace 45 = .ok (.invokestatic 19, 3) := by decide +kernel
theorem dX5_faultPlace_48 : decode cX5_faultPlace 48 = .ok (.ifCond .ne 5, 3) := by decide +kernel
theorem dX5_faultPlace_51 : decode cX5_faultPlace 51 = .ok (.iload_n 3, 1) := by decide +kernel
theorem dX5_faultPlace_52 : decode cX5_faultPlace 52 = .ok (.ireturn, 1) := by decide +kernel
theorem dX5_faultPlace_53 : decode cX5_faultPlace 53 = .ok (.iinc 1 1, 3) := by decide +kernel
theorem dX5_faultPlace_56 : decode cX5_faultPlace 56 = .ok (.iload_n 1, 1) := by decide +kernel
theorem dX5_faultPlace_57 : decode cX5_faultPlace 57 = .ok (.iconst 5, 1) := by decide +kernel
theorem dX5_faultPlace_58 : decode cX5_faultPlace 58 = .ok (.if_icmp .ne 8, 3) := by decide +kernel
theorem dX5_faultPlace_61 : decode cX5_faultPlace 61 = .ok (.iconst 0, 1) := by decide +kernel
theorem dX5_faultPlace_62 : decode cX5_faultPlace 62 = .ok (.istore_n 1, 1) := by decide +kernel
theorem dX5_faultPlace_63 : decode cX5_faultPlace 63 = .ok (.iinc 2 1, 3) := by decide +kernel
theorem dX5_faultPlace_66 : decode cX5_faultPlace 66 = .ok (.iinc 3 1, 3) := by decide +kernel
theorem dX5_faultPlace_69 : decode cX5_faultPlace 69 = .ok (.goto (-63), 3) := by decide +kernel
theorem dX5_faultPlace_72 : decode cX5_faultPlace 72 = .ok (.iload_n 1, 1) := by decide +kernel
theorem dX5_faultPlace_73 : decode cX5_faultPlace 73 = .ok (.ifCond .ne 8, 3) := by decide +kernel
theorem dX5_faultPlace_76 : decode cX5_faultPlace 76 = .ok (.bipush (-9), 2) := by decide +kernel
theorem dX5_faultPlace_78 : decode cX5_faultPlace 78 = .ok (.goto 7, 3) := by decide +kernel
theorem dX5_faultPlace_81 : decode cX5_faultPlace 81 = .ok (.aload_n 0, 1) := by decide +kernel
theorem dX5_faultPlace_82 : decode cX5_faultPlace 82 = .ok (.getfield 9, 3) := by decide +kernel
theorem dX5_faultPlace_85 : decode cX5_faultPlace 85 = .ok (.ireturn, 1) := by decide +kernel
theorem dX5_canStand_0 : decode cX5_canStand 0 = .ok (.iload_n 1, 1) := by decide +kernel
theorem dX5_canStand_1 : decode cX5_canStand 1 = .ok (.ifCond .ne 18, 3) := by decide +kernel
theorem dX5_canStand_4 : decode cX5_canStand 4 = .ok (.iload_n 0, 1) := by decide +kernel
theorem dX5_canStand_5 : decode cX5_canStand 5 = .ok (.invokestatic 25, 3) := by decide +kernel
theorem dX5_canStand_8 : decode cX5_canStand 8 = .ok (.bipush (-9), 2) := by decide +kernel
theorem dX5_canStand_10 : decode cX5_canStand 10 = .ok (.if_icmp .eq 7, 3) := by decide +kernel
theorem dX5_canStand_13 : decode cX5_canStand 13 = .ok (.iconst 1, 1) := by decide +kernel
theorem dX5_canStand_14 : decode cX5_canStand 14 = .ok (.goto 4, 3) := by decide +kernel
theorem dX5_canStand_17 : decode cX5_canStand 17 = .ok (.iconst 0, 1) := by decide +kernel
theorem dX5_canStand_18 : decode cX5_canStand 18 = .ok (.ireturn, 1) := by decide +kernel
theorem dX5_canStand_19 : decode cX5_canStand 19 = .ok (.iload_n 0, 1) := by decide +kernel
theorem dX5_canStand_20 : decode cX5_canStand 20 = .ok (.bipush 48, 2) := by decide +kernel
theorem dX5_canStand_22 : decode cX5_canStand 22 = .ok (.isub, 1) := by decide +kernel
theorem dX5_canStand_23 : decode cX5_canStand 23 = .ok (.istore_n 2, 1) := by decide +kernel
theorem dX5_canStand_24 : decode cX5_canStand 24 = .ok (.iload_n 1, 1) := by decide +kernel
theorem dX5_canStand_25 : decode cX5_canStand 25 = .ok (.iconst 1, 1) := by decide +kernel
theorem dX5_canStand_26 : decode cX5_canStand 26 = .ok (.if_icmp .ne 20, 3) := by decide +kernel
theorem dX5_canStand_29 : decode cX5_canStand 29 = .ok (.iload_n 2, 1) := by decide +kernel
theorem dX5_canStand_30 : decode cX5_canStand 30 = .ok (.iconst 1, 1) := by decide +kernel
theorem dX5_canStand_31 : decode cX5_canStand 31 = .ok (.if_icmp .lt 13, 3) := by decide +kernel
theorem dX5_canStand_34 : decode cX5_canStand 34 = .ok (.iload_n 2, 1) := by decide +kernel
theorem dX5_canStand_35 : decode cX5_canStand 35 = .ok (.bipush 8, 2) := by decide +kernel
theorem dX5_canStand_37 : decode cX5_canStand 37 = .ok (.if_icmp .gt 7, 3) := by decide +kernel
theorem dX5_canStand_40 : decode cX5_canStand 40 = .ok (.iconst 1, 1) := by decide +kernel
theorem dX5_canStand_41 : decode cX5_canStand 41 = .ok (.goto 4, 3) := by decide +kernel
theorem dX5_canStand_44 : decode cX5_canStand 44 = .ok (.iconst 0, 1) := by decide +kernel
theorem dX5_canStand_45 : decode cX5_canStand 45 = .ok (.ireturn, 1) := by decide +kernel
theorem dX5_canStand_46 : decode cX5_canStand 46 = .ok (.iload_n 2, 1) := by decide +kernel
theorem dX5_canStand_47 : decode cX5_canStand 47 = .ok (.ifCond .lt 13, 3) := by decide +kernel
theorem dX5_canStand_50 : decode cX5_canStand 50 = .ok (.iload_n 2, 1) := by decide +kernel
theorem dX5_canStand_51 : decode cX5_canStand 51 = .ok (.bipush 9, 2) := by decide +kernel
theorem dX5_canStand_53 : decode cX5_canStand 53 = .ok (.if_icmp .gt 7, 3) := by decide +kernel
theorem dX5_canStand_56 : decode cX5_canStand 56 = .ok (.iconst 1, 1) := by decide +kernel
theorem dX5_canStand_57 : decode cX5_canStand 57 = .ok (.goto 4, 3) := by decide +kernel
theorem dX5_canStand_60 : decode cX5_canStand 60 = .ok (.iconst 0, 1) := by decide +kernel
theorem dX5_canStand_61 : decode cX5_canStand 61 = .ok (.ireturn, 1) := by decide +kernel
theorem dX5_settle_0 : decode cX5_settle 0 = .ok (.aload_n 1, 1) := by decide +kernel
theorem dX5_settle_1 : decode cX5_settle 1 = .ok (.iconst 0, 1) := by decide +kernel
theorem dX5_settle_2 : decode cX5_settle 2 = .ok (.putfield 31, 3) := by decide +kernel
theorem dX5_settle_5 : decode cX5_settle 5 = .ok (.iconst 0, 1) := by decide +kernel
theorem dX5_settle_6 : decode cX5_settle 6 = .ok (.istore_n 2, 1) := by decide +kernel
theorem dX5_settle_7 : decode cX5_settle 7 = .ok (.iload_n 2, 1) := by decide +kernel
theorem dX5_settle_8 : decode cX5_settle 8 = .ok (.iconst 5, 1) := by decide +kernel
theorem dX5_settle_9 : decode cX5_settle 9 = .ok (.iadd, 1) := by decide +kernel
theorem dX5_settle_10 : decode cX5_settle 10 = .ok (.aload_n 0, 1) := by decide +kernel
theorem dX5_settle_11 : decode cX5_settle 11 = .ok (.getfield 9, 3) := by decide +kernel
theorem dX5_settle_14 : decode cX5_settle 14 = .ok (.if_icmp .gt 83, 3) := by decide +kernel
theorem dX5_settle_17 : decode cX5_settle 17 = .ok (.aload_n 0, 1) := by decide +kernel
theorem dX5_settle_18 : decode cX5_settle 18 = .ok (.getfield 15, 3) := by decide +kernel
theorem dX5_settle_21 : decode cX5_settle 21 = .ok (.iload_n 2, 1) := by decide +kernel
theorem dX5_settle_22 : decode cX5_settle 22 = .ok (.iaload, 1) := by decide +kernel
theorem dX5_settle_23 : decode cX5_settle 23 = .ok (.invokestatic 25, 3) := by decide +kernel
theorem dX5_settle_26 : decode cX5_settle 26 = .ok (.istore_n 3, 1) := by decide +kernel
theorem dX5_settle_27 : decode cX5_settle 27 = .ok (.iload_n 3, 1) := by decide +kernel
theorem dX5_settle_28 : decode cX5_settle 28 = .ok (.bipush (-9), 2) := by decide +kernel
theorem dX5_settle_30 : decode cX5_settle 30 = .ok (.if_icmp .eq 61, 3) := by decide +kernel
theorem dX5_settle_33 : decode cX5_settle 33 = .ok (.iconst 0, 1) := by decide +kernel
theorem dX5_settle_34 : decode cX5_settle 34 = .ok (.istore 4, 2) := by decide +kernel
theorem dX5_settle_36 : decode cX5_settle 36 = .ok (.iload_n 2, 1) := by decide +kernel
theorem dX5_settle_37 : decode cX5_settle 37 = .ok (.iconst 2, 1) := by decide +kernel
theorem dX5_settle_38 : decode cX5_settle 38 = .ok (.iadd, 1) := by decide +kernel
theorem dX5_settle_39 : decode cX5_settle 39 = .ok (.istore 5, 2) := by decide +kernel
theorem dX5_settle_41 : decode cX5_settle 41 = .ok (.iload 5, 2) := by decide +kernel
theorem dX5_settle_43 : decode cX5_settle 43 = .ok (.iload_n 2, 1) := by decide +kernel
theorem dX5_settle_44 : decode cX5_settle 44 = .ok (.iconst 5, 1) := by decide +kernel
theorem dX5_settle_45 : decode cX5_settle 45 = .ok (.iadd, 1) := by decide +kernel
theorem dX5_settle_46 : decode cX5_settle 46 = .ok (.if_icmp .ge 27, 3) := by decide +kernel
theorem dX5_settle_49 : decode cX5_settle 49 = .ok (.bipush 10, 2) := by decide +kernel
theorem dX5_settle_51 : decode cX5_settle 51 = .ok (.iload 4, 2) := by decide +kernel
theorem dX5_settle_53 : decode cX5_settle 53 = .ok (.imul, 1) := by decide +kernel
theorem dX5_settle_54 : decode cX5_settle 54 = .ok (.aload_n 0, 1) := by decide +kernel
theorem dX5_settle_55 : decode cX5_settle 55 = .ok (.getfield 15, 3) := by decide +kernel
theorem dX5_settle_58 : decode cX5_settle 58 = .ok (.iload 5, 2) := by decide +kernel
theorem dX5_settle_60 : decode cX5_settle 60 = .ok (.iaload, 1) := by decide +kernel
theorem dX5_settle_61 : decode cX5_settle 61 = .ok (.iadd, 1) := by decide +kernel
theorem dX5_settle_62 : decode cX5_settle 62 = .ok (.bipush 48, 2) := by decide +kernel
theorem dX5_settle_64 : decode cX5_settle 64 = .ok (.isub, 1) := by decide +kernel
theorem dX5_settle_65 : decode cX5_settle 65 = .ok (.istore 4, 2) := by decide +kernel
theorem dX5_settle_67 : decode cX5_settle 67 = .ok (.iinc 5 1, 3) := by decide +kernel
theorem dX5_settle_70 : decode cX5_settle 70 = .ok (.goto (-29), 3) := by decide +kernel
theorem dX5_settle_73 : decode cX5_settle 73 = .ok (.aload_n 1, 1) := by decide +kernel
theorem dX5_settle_74 : decode cX5_settle 74 = .ok (.iload_n 3, 1) := by decide +kernel
theorem dX5_settle_75 : decode cX5_settle 75 = .ok (.aload_n 0, 1) := by decide +kernel
theorem dX5_settle_76 : decode cX5_settle 76 = .ok (.getfield 15, 3) := by decide +kernel
theorem dX5_settle_79 : decode cX5_settle 79 = .ok (.iload_n 2, 1) := by decide +kernel
theorem dX5_settle_80 : decode cX5_settle 80 = .ok (.iconst 1, 1) := by decide +kernel
theorem dX5_settle_81 : decode cX5_settle 81 = .ok (.iadd, 1) := by decide +kernel
theorem dX5_settle_82 : decode cX5_settle 82 = .ok (.iaload, 1) := by decide +kernel
theorem dX5_settle_83 : decode cX5_settle 83 = .ok (.bipush 48, 2) := by decide +kernel
theorem dX5_settle_85 : decode cX5_settle 85 = .ok (.isub, 1) := by decide +kernel
theorem dX5_settle_86 : decode cX5_settle 86 = .ok (.iload 4, 2) := by decide +kernel
theorem dX5_settle_88 : decode cX5_settle 88 = .ok (.invokevirtual 36, 3) := by decide +kernel
theorem dX5_settle_91 : decode cX5_settle 91 = .ok (.iinc 2 1, 3) := by decide +kernel
theorem dX5_settle_94 : decode cX5_settle 94 = .ok (.goto (-87), 3) := by decide +kernel
theorem dX5_settle_97 : decode cX5_settle 97 = .ok (.aload_n 1, 1) := by decide +kernel
theorem dX5_settle_98 : decode cX5_settle 98 = .ok (.invokevirtual 40, 3) := by decide +kernel
theorem dX5_settle_101 : decode cX5_settle 101 = .ok (.return_, 1) := by decide +kernel
theorem dX6_init_0 : decode cX6_init 0 = .ok (.aload_n 0, 1) := by decide +kernel
theorem dX6_init_1 : decode cX6_init 1 = .ok (.invokespecial 1, 3) := by decide +kernel
theorem dX6_init_4 : decode cX6_init 4 = .ok (.aload_n 0, 1) := by decide +kernel
theorem dX6_init_5 : decode cX6_init 5 = .ok (.iconst (-1), 1) := by decide +kernel
theorem dX6_init_6 : decode cX6_init 6 = .ok (.putfield 9, 3) := by decide +kernel
theorem dX6_init_9 : decode cX6_init 9 = .ok (.aload_n 0, 1) := by decide +kernel
theorem dX6_init_10 : decode cX6_init 10 = .ok (.iconst 0, 1) := by decide +kernel
theorem dX6_init_11 : decode cX6_init 11 = .ok (.iload_n 1, 1) := by decide +kernel
theorem dX6_init_12 : decode cX6_init 12 = .ok (.invokestatic 13, 3) := by decide +kernel
theorem dX6_init_15 : decode cX6_init 15 = .ok (.newarray .int, 2) := by decide +kernel
theorem dX6_init_17 : decode cX6_init 17 = .ok (.putfield 19, 3) := by decide +kernel
theorem dX6_init_20 : decode cX6_init 20 = .ok (.return_, 1) := by decide +kernel
theorem dX6_isMissing_0 : decode cX6_isMissing 0 = .ok (.aload_n 0, 1) := by decide +kernel
theorem dX6_isMissing_1 : decode cX6_isMissing 1 = .ok (.getfield 9, 3) := by decide +kernel
theorem dX6_isMissing_4 : decode cX6_isMissing 4 = .ok (.ifCond .ge 7, 3) := by decide +kernel
theorem dX6_isMissing_7 : decode cX6_isMissing 7 = .ok (.iconst 1, 1) := by decide +kernel
theorem dX6_isMissing_8 : decode cX6_isMissing 8 = .ok (.goto 4, 3) := by decide +kernel
theorem dX6_isMissing_11 : decode cX6_isMissing 11 = .ok (.iconst 0, 1) := by decide +kernel
theorem dX6_isMissing_12 : decode cX6_isMissing 12 = .ok (.ireturn, 1) := by decide +kernel
theorem dX6_has_0 : decode cX6_has 0 = .ok (.iload_n 1, 1) := by decide +kernel
theorem dX6_has_1 : decode cX6_has 1 = .ok (.ifCond .lt 15, 3) := by decide +kernel
theorem dX6_has_4 : decode cX6_has 4 = .ok (.iload_n 1, 1) := by decide +kernel
theorem dX6_has_5 : decode cX6_has 5 = .ok (.aload_n 0, 1) := by decide +kernel
theorem dX6_has_6 : decode cX6_has 6 = .ok (.getfield 9, 3) := by decide +kernel
theorem dX6_has_9 : decode cX6_has 9 = .ok (.if_icmp .ge 7, 3) := by decide +kernel
theorem dX6_has_12 : decode cX6_has 12 = .ok (.iconst 1, 1) := by decide +kernel
theorem dX6_has_13 : decode cX6_has 13 = .ok (.goto 4, 3) := by decide +kernel
theorem dX6_has_16 : decode cX6_has 16 = .ok (.iconst 0, 1) := by decide +kernel
theorem dX6_has_17 : decode cX6_has 17 = .ok (.ireturn, 1) := by decide +kernel
theorem dX6_hasRun_0 : decode cX6_hasRun 0 = .ok (.iload_n 1, 1) := by decide +kernel
theorem dX6_hasRun_1 : decode cX6_hasRun 1 = .ok (.ifCond .lt 29, 3) := by decide +kernel
theorem dX6_hasRun_4 : decode cX6_hasRun 4 = .ok (.iload_n 2, 1) := by decide +kernel
theorem dX6_hasRun_5 : decode cX6_hasRun 5 = .ok (.ifCond .lt 25, 3) := by decide +kernel
theorem dX6_hasRun_8 : decode cX6_hasRun 8 = .ok (.iload_n 1, 1) := by decide +kernel
theorem dX6_hasRun_9 : decode cX6_hasRun 9 = .ok (.aload_n 0, 1) := by decide +kernel
theorem dX6_hasRun_10 : decode cX6_hasRun 10 = .ok (.getfield 9, 3) := by decide +kernel
theorem dX6_hasRun_13 : decode cX6_hasRun 13 = .ok (.if_icmp .gt 17, 3) := by decide +kernel
theorem dX6_hasRun_16 : decode cX6_hasRun 16 = .ok (.iload_n 2, 1) := by decide +kernel
theorem dX6_hasRun_17 : decode cX6_hasRun 17 = .ok (.aload_n 0, 1) := by decide +kernel
theorem dX6_hasRun_18 : decode cX6_hasRun 18 = .ok (.getfield 9, 3) := by decide +kernel
theorem dX6_hasRun_21 : decode cX6_hasRun 21 = .ok (.iload_n 1, 1) := by decide +kernel
theorem dX6_hasRun_22 : decode cX6_hasRun 22 = .ok (.isub, 1) := by decide +kernel
theorem dX6_hasRun_23 : decode cX6_hasRun 23 = .ok (.if_icmp .gt 7, 3) := by decide +kernel
theorem dX6_hasRun_26 : decode cX6_hasRun 26 = .ok (.iconst 1, 1) := by decide +kernel
theorem dX6_hasRun_27 : decode cX6_hasRun 27 = .ok (.goto 4, 3) := by decide +kernel
theorem dX6_hasRun_30 : decode cX6_hasRun 30 = .ok (.iconst 0, 1) := by decide +kernel
theorem dX6_hasRun_31 : decode cX6_hasRun 31 = .ok (.ireturn, 1) := by decide +kernel
theorem dX6_layOut_0 : decode cX6_layOut 0 = .ok (.iload_n 1, 1) := by decide +kernel
theorem dX6_layOut_1 : decode cX6_layOut 1 = .ok (.ifCond .lt 12, 3) := by decide +kernel
theorem dX6_layOut_4 : decode cX6_layOut 4 = .ok (.iload_n 1, 1) := by decide +kernel
theorem dX6_layOut_5 : decode cX6_layOut 5 = .ok (.aload_n 0, 1) := by decide +kernel
theorem dX6_layOut_6 : decode cX6_layOut 6 = .ok (.getfield 19, 3) := by decide +kernel
theorem dX6_layOut_9 : decode cX6_layOut 9 = .ok (.arraylength, 1) := by decide +kernel
theorem dX6_layOut_10 : decode cX6_layOut 10 = .ok (.if_icmp .le 4, 3) := by decide +kernel
theorem dX6_layOut_13 : decode cX6_layOut 13 = .ok (.return_, 1) := by decide +kernel
theorem dX6_layOut_14 : decode cX6_layOut 14 = .ok (.aload_n 0, 1) := by decide +kernel
theorem dX6_layOut_15 : decode cX6_layOut 15 = .ok (.iload_n 1, 1) := by decide +kernel
theorem dX6_layOut_16 : decode cX6_layOut 16 = .ok (.putfield 9, 3) := by decide +kernel
theorem dX6_layOut_19 : decode cX6_layOut 19 = .ok (.aload_n 0, 1) := by decide +kernel
theorem dX6_layOut_20 : decode cX6_layOut 20 = .ok (.getfield 19, 3) := by decide +kernel
theorem dX6_layOut_23 : decode cX6_layOut 23 = .ok (.iload_n 2, 1) := by decide +kernel
theorem dX6_layOut_24 : decode cX6_layOut 24 = .ok (.invokestatic 23, 3) := by decide +kernel
theorem dX6_layOut_27 : decode cX6_layOut 27 = .ok (.return_, 1) := by decide +kernel
theorem dX6_add_0 : decode cX6_add 0 = .ok (.aload_n 0, 1) := by decide +kernel
theorem dX6_add_1 : decode cX6_add 1 = .ok (.getfield 9, 3) := by decide +kernel
theorem dX6_add_4 : decode cX6_add 4 = .ok (.ifCond .lt 35, 3) := by decide +kernel
theorem dX6_add_7 : decode cX6_add 7 = .ok (.aload_n 0, 1) := by decide +kernel
theorem dX6_add_8 : decode cX6_add 8 = .ok (.getfield 9, 3) := by decide +kernel
theorem dX6_add_11 : decode cX6_add 11 = .ok (.aload_n 0, 1) := by decide +kernel
theorem dX6_add_12 : decode cX6_add 12 = .ok (.getfield 19, 3) := by decide +kernel
theorem dX6_add_15 : decode cX6_add 15 = .ok (.arraylength, 1) := by decide +kernel
theorem dX6_add_16 : decode cX6_add 16 = .ok (.if_icmp .ge 23, 3) := by decide +kernel
theorem dX6_add_19 : decode cX6_add 19 = .ok (.aload_n 0, 1) := by decide +kernel
theorem dX6_add_20 : decode cX6_add 20 = .ok (.getfield 19, 3) := by decide +kernel
theorem dX6_add_23 : decode cX6_add 23 = .ok (.aload_n 0, 1) := by decide +kernel
theorem dX6_add_24 : decode cX6_add 24 = .ok (.getfield 9, 3) := by decide +kernel
theorem dX6_add_27 : decode cX6_add 27 = .ok (.iload_n 1, 1) := by decide +kernel
theorem dX6_add_28 : decode cX6_add 28 = .ok (.iastore, 1) := by decide +kernel
theorem dX6_add_29 : decode cX6_add 29 = .ok (.aload_n 0, 1) := by decide +kernel
theorem dX6_add_30 : decode cX6_add 30 = .ok (.dup, 1) := by decide +kernel
theorem dX6_add_31 : decode cX6_add 31 = .ok (.getfield 9, 3) := by decide +kernel
theorem dX6_add_34 : decode cX6_add 34 = .ok (.iconst 1, 1) := by decide +kernel
theorem dX6_add_35 : decode cX6_add 35 = .ok (.iadd, 1) := by decide +kernel
theorem dX6_add_36 : decode cX6_add 36 = .ok (.putfield 9, 3) := by decide +kernel
theorem dX6_add_39 : decode cX6_add 39 = .ok (.return_, 1) := by decide +kernel
theorem dX6_sum_0 : decode cX6_sum 0 = .ok (.lconst 0, 1) := by decide +kernel
theorem dX6_sum_1 : decode cX6_sum 1 = .ok (.lstore_n 1, 1) := by decide +kernel
theorem dX6_sum_2 : decode cX6_sum 2 = .ok (.iconst 0, 1) := by decide +kernel
theorem dX6_sum_3 : decode cX6_sum 3 = .ok (.istore_n 3, 1) := by decide +kernel
theorem dX6_sum_4 : decode cX6_sum 4 = .ok (.iload_n 3, 1) := by decide +kernel
theorem dX6_sum_5 : decode cX6_sum 5 = .ok (.aload_n 0, 1) := by decide +kernel
theorem dX6_sum_6 : decode cX6_sum 6 = .ok (.getfield 9, 3) := by decide +kernel
theorem dX6_sum_9 : decode cX6_sum 9 = .ok (.if_icmp .ge 19, 3) := by decide +kernel
theorem dX6_sum_12 : decode cX6_sum 12 = .ok (.lload_n 1, 1) := by decide +kernel
theorem dX6_sum_13 : decode cX6_sum 13 = .ok (.aload_n 0, 1) := by decide +kernel
theorem dX6_sum_14 : decode cX6_sum 14 = .ok (.getfield 19, 3) := by decide +kernel
theorem dX6_sum_17 : decode cX6_sum 17 = .ok (.iload_n 3, 1) := by decide +kernel
theorem dX6_sum_18 : decode cX6_sum 18 = .ok (.iaload, 1) := by decide +kernel
theorem dX6_sum_19 : decode cX6_sum 19 = .ok (.i2l, 1) := by decide +kernel
theorem dX6_sum_20 : decode cX6_sum 20 = .ok (.ladd, 1) := by decide +kernel
theorem dX6_sum_21 : decode cX6_sum 21 = .ok (.lstore_n 1, 1) := by decide +kernel
theorem dX6_sum_22 : decode cX6_sum 22 = .ok (.iinc 3 1, 3) := by decide +kernel
theorem dX6_sum_25 : decode cX6_sum 25 = .ok (.goto (-21), 3) := by decide +kernel
theorem dX6_sum_28 : decode cX6_sum 28 = .ok (.lload_n 1, 1) := by decide +kernel
theorem dX6_sum_29 : decode cX6_sum 29 = .ok (.lreturn, 1) := by decide +kernel
theorem dX6_mixInto_0 : decode cX6_mixInto 0 = .ok (.ldc2_w 29, 3) := by decide +kernel
theorem dX6_mixInto_3 : decode cX6_mixInto 3 = .ok (.lload_n 1, 1) := by decide +kernel
theorem dX6_mixInto_4 : decode cX6_mixInto 4 = .ok (.lmul, 1) := by decide +kernel
theorem dX6_mixInto_5 : decode cX6_mixInto 5 = .ok (.aload_n 0, 1) := by decide +kernel
theorem dX6_mixInto_6 : decode cX6_mixInto 6 = .ok (.getfield 9, 3) := by decide +kernel
theorem dX6_mixInto_9 : decode cX6_mixInto 9 = .ok (.i2l, 1) := by decide +kernel
theorem dX6_mixInto_10 : decode cX6_mixInto 10 = .ok (.ladd, 1) := by decide +kernel
theorem dX6_mixInto_11 : decode cX6_mixInto 11 = .ok (.lstore_n 3, 1) := by decide +kernel
theorem dX6_mixInto_12 : decode cX6_mixInto 12 = .ok (.iconst 0, 1) := by decide +kernel
theorem dX6_mixInto_13 : decode cX6_mixInto 13 = .ok (.istore 5, 2) := by decide +kernel
theorem dX6_mixInto_15 : decode cX6_mixInto 15 = .ok (.iload 5, 2) := by decide +kernel
theorem dX6_mixInto_17 : decode cX6_mixInto 17 = .ok (.aload_n 0, 1) := by decide +kernel
theorem dX6_mixInto_18 : decode cX6_mixInto 18 = .ok (.getfield 9, 3) := by decide +kernel
theorem dX6_mixInto_21 : decode cX6_mixInto 21 = .ok (.if_icmp .ge 24, 3) := by decide +kernel
theorem dX6_mixInto_24 : decode cX6_mixInto 24 = .ok (.ldc2_w 29, 3) := by decide +kernel
theorem dX6_mixInto_27 : decode cX6_mixInto 27 = .ok (.lload_n 3, 1) := by decide +kernel
theorem dX6_mixInto_28 : decode cX6_mixInto 28 = .ok (.lmul, 1) := by decide +kernel
theorem dX6_mixInto_29 : decode cX6_mixInto 29 = .ok (.aload_n 0, 1) := by decide +kernel
theorem dX6_mixInto_30 : decode cX6_mixInto 30 = .ok (.getfield 19, 3) := by decide +kernel
theorem dX6_mixInto_33 : decode cX6_mixInto 33 = .ok (.iload 5, 2) := by decide +kernel
theorem dX6_mixInto_35 : decode cX6_mixInto 35 = .ok (.iaload, 1) := by decide +kernel
theorem dX6_mixInto_36 : decode cX6_mixInto 36 = .ok (.i2l, 1) := by decide +kernel
theorem dX6_mixInto_37 : decode cX6_mixInto 37 = .ok (.ladd, 1) := by decide +kernel
theorem dX6_mixInto_38 : decode cX6_mixInto 38 = .ok (.lstore_n 3, 1) := by decide +kernel
theorem dX6_mixInto_39 : decode cX6_mixInto 39 = .ok (.iinc 5 1, 3) := by decide +kernel
theorem dX6_mixInto_42 : decode cX6_mixInto 42 = .ok (.goto (-27), 3) := by decide +kernel
theorem dX6_mixInto_45 : decode cX6_mixInto 45 = .ok (.lload_n 3, 1) := by decide +kernel
theorem dX6_mixInto_46 : decode cX6_mixInto 46 = .ok (.lreturn, 1) := by decide +kernel
theorem dX7_init_0 : decode cX7_init 0 = .ok (.aload_n 0, 1) := by decide +kernel
theorem dX7_init_1 : decode cX7_init 1 = .ok (.invokespecial 3, 3) := by decide +kernel
theorem dX7_init_4 : decode cX7_init 4 = .ok (.aload_n 0, 1) := by decide +kernel
theorem dX7_init_5 : decode cX7_init 5 = .ok (.iconst 0, 1) := by decide +kernel
theorem dX7_init_6 : decode cX7_init 6 = .ok (.putfield 9, 3) := by decide +kernel
theorem dX7_init_9 : decode cX7_init 9 = .ok (.aload_n 0, 1) := by decide +kernel
theorem dX7_init_10 : decode cX7_init 10 = .ok (.iconst 0, 1) := by decide +kernel
theorem dX7_init_11 : decode cX7_init 11 = .ok (.putfield 15, 3) := by decide +kernel
theorem dX7_init_14 : decode cX7_init 14 = .ok (.aload_n 0, 1) := by decide +kernel
theorem dX7_init_15 : decode cX7_init 15 = .ok (.iconst 0, 1) := by decide +kernel
theorem dX7_init_16 : decode cX7_init 16 = .ok (.putfield 18, 3) := by decide +kernel
theorem dX7_init_19 : decode cX7_init 19 = .ok (.aload_n 0, 1) := by decide +kernel
theorem dX7_init_20 : decode cX7_init 20 = .ok (.bipush 7, 2) := by decide +kernel
theorem dX7_init_22 : decode cX7_init 22 = .ok (.newarray .int, 2) := by decide +kernel
theorem dX7_init_24 : decode cX7_init 24 = .ok (.putfield 21, 3) := by decide +kernel
theorem dX7_init_27 : decode cX7_init 27 = .ok (.aload_n 0, 1) := by decide +kernel
theorem dX7_init_28 : decode cX7_init 28 = .ok (.bipush 7, 2) := by decide +kernel
theorem dX7_init_30 : decode cX7_init 30 = .ok (.newarray .int, 2) := by decide +kernel
theorem dX7_init_32 : decode cX7_init 32 = .ok (.putfield 25, 3) := by decide +kernel
theorem dX7_init_35 : decode cX7_init 35 = .ok (.aload_n 0, 1) := by decide +kernel
theorem dX7_init_36 : decode cX7_init 36 = .ok (.bipush 7, 2) := by decide +kernel
theorem dX7_init_38 : decode cX7_init 38 = .ok (.newarray .int, 2) := by decide +kernel
theorem dX7_init_40 : decode cX7_init 40 = .ok (.putfield 28, 3) := by decide +kernel
theorem dX7_init_43 : decode cX7_init 43 = .ok (.aload_n 0, 1) := by decide +kernel
theorem dX7_init_44 : decode cX7_init 44 = .ok (.bipush 7, 2) := by decide +kernel
theorem dX7_init_46 : decode cX7_init 46 = .ok (.newarray .int, 2) := by decide +kernel
theorem dX7_init_48 : decode cX7_init 48 = .ok (.putfield 31, 3) := by decide +kernel
theorem dX7_init_51 : decode cX7_init 51 = .ok (.aload_n 0, 1) := by decide +kernel
theorem dX7_init_52 : decode cX7_init 52 = .ok (.bipush 7, 2) := by decide +kernel
theorem dX7_init_54 : decode cX7_init 54 = .ok (.newarray .int, 2) := by decide +kernel
theorem dX7_init_56 : decode cX7_init 56 = .ok (.putfield 34, 3) := by decide +kernel
theorem dX7_init_59 : decode cX7_init 59 = .ok (.aload_n 0, 1) := by decide +kernel
theorem dX7_init_60 : decode cX7_init 60 = .ok (.bipush 7, 2) := by decide +kernel
theorem dX7_init_62 : decode cX7_init 62 = .ok (.newarray .int, 2) := by decide +kernel
theorem dX7_init_64 : decode cX7_init 64 = .ok (.putfield 37, 3) := by decide +kernel
theorem dX7_init_67 : decode cX7_init 67 = .ok (.aload_n 0, 1) := by decide +kernel
theorem dX7_init_68 : decode cX7_init 68 = .ok (.bipush 60, 2) := by decide +kernel
theorem dX7_init_70 : decode cX7_init 70 = .ok (.newarray .int, 2) := by decide +kernel
theorem dX7_init_72 : decode cX7_init 72 = .ok (.putfield 40, 3) := by decide +kernel
theorem dX7_init_75 : decode cX7_init 75 = .ok (.aload_n 0, 1) := by decide +kernel
theorem dX7_init_76 : decode cX7_init 76 = .ok (.bipush 60, 2) := by decide +kernel
theorem dX7_init_78 : decode cX7_init 78 = .ok (.newarray .int, 2) := by decide +kernel
theorem dX7_init_80 : decode cX7_init 80 = .ok (.putfield 43, 3) := by decide +kernel
theorem dX7_init_83 : decode cX7_init 83 = .ok (.aload_n 0, 1) := by decide +kernel
theorem dX7_init_84 : decode cX7_init 84 = .ok (.bipush 60, 2) := by decide +kernel
theorem dX7_init_86 : decode cX7_init 86 = .ok (.newarray .int, 2) := by decide +kernel
theorem dX7_init_88 : decode cX7_init 88 = .ok (.putfield 46, 3) := by decide +kernel
theorem dX7_init_91 : decode cX7_init 91 = .ok (.aload_n 0, 1) := by decide +kernel
theorem dX7_init_92 : decode cX7_init 92 = .ok (.bipush 60, 2) := by decide +kernel
theorem dX7_init_94 : decode cX7_init 94 = .ok (.newarray .int, 2) := by decide +kernel
theorem dX7_init_96 : decode cX7_init 96 = .ok (.putfield 49, 3) := by decide +kernel
theorem dX7_init_99 : decode cX7_init 99 = .ok (.return_, 1) := by decide +kernel
theorem dX7_addPerson_0 : decode cX7_addPerson 0 = .ok (.aload_n 0, 1) := by decide +kernel
theorem dX7_addPerson_1 : decode cX7_addPerson 1 = .ok (.getfield 9, 3) := by decide +kernel
theorem dX7_addPerson_4 : decode cX7_addPerson 4 = .ok (.ifCond .lt 12, 3) := by decide +kernel
theorem dX7_addPerson_7 : decode cX7_addPerson 7 = .ok (.aload_n 0, 1) := by decide +kernel
theorem dX7_addPerson_8 : decode cX7_addPerson 8 = .ok (.getfield 9, 3) := by decide +kernel
theorem dX7_addPerson_11 : decode cX7_addPerson 11 = .ok (.bipush 7, 2) := by decide +kernel
theorem dX7_addPerson_13 : decode cX7_addPerson 13 = .ok (.if_icmp .lt 4, 3) := by decide +kernel
theorem dX7_addPerson_16 : decode cX7_addPerson 16 = .ok (.return_, 1) := by decide +kernel
theorem dX7_addPerson_17 : decode cX7_addPerson 17 = .ok (.aload_n 0, 1) := by decide +kernel
theorem dX7_addPerson_18 : decode cX7_addPerson 18 = .ok (.getfield 21, 3) := by decide +kernel
theorem dX7_addPerson_21 : decode cX7_addPerson 21 = .ok (.aload_n 0, 1) := by decide +kernel
theorem dX7_addPerson_22 : decode cX7_addPerson 22 = .ok (.getfield 9, 3) := by decide +kernel
theorem dX7_addPerson_25 : decode cX7_addPerson 25 = .ok (.iload_n 1, 1) := by decide +kernel
theorem dX7_addPerson_26 : decode cX7_addPerson 26 = .ok (.iastore, 1) := by decide +kernel
theorem dX7_addPerson_27 : decode cX7_addPerson 27 = .ok (.aload_n 0, 1) := by decide +kernel
theorem dX7_addPerson_28 : decode cX7_addPerson 28 = .ok (.getfield 25, 3) := by decide +kernel
theorem dX7_addPerson_31 : decode cX7_addPerson 31 = .ok (.aload_n 0, 1) := by decide +kernel
theorem dX7_addPerson_32 : decode cX7_addPerson 32 = .ok (.getfield 9, 3) := by decide +kernel
theorem dX7_addPerson_35 : decode cX7_addPerson 35 = .ok (.iload_n 2, 1) := by decide +kernel
theorem dX7_addPerson_36 : decode cX7_addPerson 36 = .ok (.iastore, 1) := by decide +kernel
theorem dX7_addPerson_37 : decode cX7_addPerson 37 = .ok (.aload_n 0, 1) := by decide +kernel
theorem dX7_addPerson_38 : decode cX7_addPerson 38 = .ok (.getfield 28, 3) := by decide +kernel
theorem dX7_addPerson_41 : decode cX7_addPerson 41 = .ok (.aload_n 0, 1) := by decide +kernel
theorem dX7_addPerson_42 : decode cX7_addPerson 42 = .ok (.getfield 9, 3) := by decide +kernel
theorem dX7_addPerson_45 : decode cX7_addPerson 45 = .ok (.iload_n 3, 1) := by decide +kernel
theorem dX7_addPerson_46 : decode cX7_addPerson 46 = .ok (.ineg, 1) := by decide +kernel
theorem dX7_addPerson_47 : decode cX7_addPerson 47 = .ok (.iastore, 1) := by decide +kernel
theorem dX7_addPerson_48 : decode cX7_addPerson 48 = .ok (.aload_n 0, 1) := by decide +kernel
theorem dX7_addPerson_49 : decode cX7_addPerson 49 = .ok (.dup, 1) := by decide +kernel
theorem dX7_addPerson_50 : decode cX7_addPerson 50 = .ok (.getfield 9, 3) := by decide +kernel
theorem dX7_addPerson_53 : decode cX7_addPerson 53 = .ok (.iconst 1, 1) := by decide +kernel
theorem dX7_addPerson_54 : decode cX7_addPerson 54 = .ok (.iadd, 1) := by decide +kernel
theorem dX7_addPerson_55 : decode cX7_addPerson 55 = .ok (.putfield 9, 3) := by decide +kernel
theorem dX7_addPerson_58 : decode cX7_addPerson 58 = .ok (.return_, 1) := by decide +kernel
theorem dX7_startAnew_0 : decode cX7_startAnew 0 = .ok (.aload_n 0, 1) := by decide +kernel
theorem dX7_startAnew_1 : decode cX7_startAnew 1 = .ok (.iconst 0, 1) := by decide +kernel
theorem dX7_startAnew_2 : decode cX7_startAnew 2 = .ok (.putfield 15, 3) := by decide +kernel
theorem dX7_startAnew_5 : decode cX7_startAnew 5 = .ok (.aload_n 0, 1) := by decide +kernel
theorem dX7_startAnew_6 : decode cX7_startAnew 6 = .ok (.iconst 0, 1) := by decide +kernel
theorem dX7_startAnew_7 : decode cX7_startAnew 7 = .ok (.putfield 18, 3) := by decide +kernel
theorem dX7_startAnew_10 : decode cX7_startAnew 10 = .ok (.aload_n 0, 1) := by decide +kernel
theorem dX7_startAnew_11 : decode cX7_startAnew 11 = .ok (.getfield 28, 3) := by decide +kernel
theorem dX7_startAnew_14 : decode cX7_startAnew 14 = .ok (.iconst 0, 1) := by decide +kernel
theorem dX7_startAnew_15 : decode cX7_startAnew 15 = .ok (.aload_n 0, 1) := by decide +kernel
theorem dX7_startAnew_16 : decode cX7_startAnew 16 = .ok (.getfield 31, 3) := by decide +kernel
theorem dX7_startAnew_19 : decode cX7_startAnew 19 = .ok (.iconst 0, 1) := by decide +kernel
theorem dX7_startAnew_20 : decode cX7_startAnew 20 = .ok (.bipush 7, 2) := by decide +kernel
theorem dX7_startAnew_22 : decode cX7_startAnew 22 = .ok (.invokestatic 52, 3) := by decide +kernel
theorem dX7_startAnew_25 : decode cX7_startAnew 25 = .ok (.aload_n 0, 1) := by decide +kernel
theorem dX7_startAnew_26 : decode cX7_startAnew 26 = .ok (.invokevirtual 58, 3) := by decide +kernel
theorem dX7_startAnew_29 : decode cX7_startAnew 29 = .ok (.return_, 1) := by decide +kernel
theorem dX7_freeAll_0 : decode cX7_freeAll 0 = .ok (.aload_n 0, 1) := by decide +kernel
theorem dX7_freeAll_1 : decode cX7_freeAll 1 = .ok (.getfield 34, 3) := by decide +kernel
theorem dX7_freeAll_4 : decode cX7_freeAll 4 = .ok (.bipush (-9), 2) := by decide +kernel
theorem dX7_freeAll_6 : decode cX7_freeAll 6 = .ok (.invokestatic 61, 3) := by decide +kernel
theorem dX7_freeAll_9 : decode cX7_freeAll 9 = .ok (.aload_n 0, 1) := by decide +kernel
theorem dX7_freeAll_10 : decode cX7_freeAll 10 = .ok (.getfield 37, 3) := by decide +kernel
theorem dX7_freeAll_13 : decode cX7_freeAll 13 = .ok (.bipush (-9), 2) := by decide +kernel
theorem dX7_freeAll_15 : decode cX7_freeAll 15 = .ok (.invokestatic 61, 3) := by decide +kernel
theorem dX7_freeAll_18 : decode cX7_freeAll 18 = .ok (.return_, 1) := by decide +kernel
theorem dX7_become_0 : decode cX7_become 0 = .ok (.aload_n 0, 1) := by decide +kernel
theorem dX7_become_1 : decode cX7_become 1 = .ok (.aload_n 1, 1) := by decide +kernel
theorem dX7_become_2 : decode cX7_become 2 = .ok (.getfield 9, 3) := by decide +kernel
theorem dX7_become_5 : decode cX7_become 5 = .ok (.putfield 9, 3) := by decide +kernel
theorem dX7_become_8 : decode cX7_become 8 = .ok (.aload_n 0, 1) := by decide +kernel
theorem dX7_become_9 : decode cX7_become 9 = .ok (.aload_n 1, 1) := by decide +kernel
theorem dX7_become_10 : decode cX7_become 10 = .ok (.getfield 15, 3) := by decide +kernel
theorem dX7_become_13 : decode cX7_become 13 = .ok (.putfield 15, 3) := by decide +kernel
theorem dX7_become_16 : decode cX7_become 16 = .ok (.aload_n 0, 1) := by decide +kernel
theorem dX7_become_17 : decode cX7_become 17 = .ok (.aload_n 1, 1) := by decide +kernel
theorem dX7_become_18 : decode cX7_become 18 = .ok (.getfield 18, 3) := by decide +kernel
theorem dX7_become_21 : decode cX7_become 21 = .ok (.putfield 18, 3) := by decide +kernel
theorem dX7_become_24 : decode cX7_become 24 = .ok (.aload_n 1, 1) := by decide +kernel
theorem dX7_become_25 : decode cX7_become 25 = .ok (.getfield 21, 3) := by decide +kernel
theorem dX7_become_28 : decode cX7_become 28 = .ok (.iconst 0, 1) := by decide +kernel
theorem dX7_become_29 : decode cX7_become 29 = .ok (.aload_n 0, 1) := by decide +kernel
theorem dX7_become_30 : decode cX7_become 30 = .ok (.getfield 21, 3) := by decide +kernel
theorem dX7_become_33 : decode cX7_become 33 = .ok (.iconst 0, 1) := by decide +kernel
theorem dX7_become_34 : decode cX7_become 34 = .ok (.bipush 7, 2) := by decide +kernel
theorem dX7_become_36 : decode cX7_become 36 = .ok (.invokestatic 52, 3) := by decide +kernel
theorem dX7_become_39 : decode cX7_become 39 = .ok (.aload_n 1, 1) := by decide +kernel
theorem dX7_become_40 : decode cX7_become 40 = .ok (.getfield 25, 3) := by decide +kernel
theorem dX7_become_43 : decode cX7_become 43 = .ok (.iconst 0, 1) := by decide +kernel
theorem dX7_become_44 : decode cX7_become 44 = .ok (.aload_n 0, 1) := by decide +kernel
theorem dX7_become_45 : decode cX7_become 45 = .ok (.getfield 25, 3) := by decide +kernel
theorem dX7_become_48 : decode cX7_become 48 = .ok (.iconst 0, 1) := by decide +kernel
theorem dX7_become_49 : decode cX7_become 49 = .ok (.bipush 7, 2) := by decide +kernel
theorem dX7_become_51 : decode cX7_become 51 = .ok (.invokestatic 52, 3) := by decide +kernel
theorem dX7_become_54 : decode cX7_become 54 = .ok (.aload_n 1, 1) := by decide +kernel
theorem dX7_become_55 : decode cX7_become 55 = .ok (.getfield 28, 3) := by decide +kernel
theorem dX7_become_58 : decode cX7_become 58 = .ok (.iconst 0, 1) := by decide +kernel
theorem dX7_become_59 : decode cX7_become 59 = .ok (.aload_n 0, 1) := by decide +kernel
theorem dX7_become_60 : decode cX7_become 60 = .ok (.getfield 28, 3) := by decide +kernel
theorem dX7_become_63 : decode cX7_become 63 = .ok (.iconst 0, 1) := by decide +kernel
theorem dX7_become_64 : decode cX7_become 64 = .ok (.bipush 7, 2) := by decide +kernel
theorem dX7_become_66 : decode cX7_become 66 = .ok (.invokestatic 52, 3) := by decide +kernel
theorem dX7_become_69 : decode cX7_become 69 = .ok (.aload_n 1, 1) := by decide +kernel
theorem dX7_become_70 : decode cX7_become 70 = .ok (.getfield 31, 3) := by decide +kernel
theorem dX7_become_73 : decode cX7_become 73 = .ok (.iconst 0, 1) := by decide +kernel
theorem dX7_become_74 : decode cX7_become 74 = .ok (.aload_n 0, 1) := by decide +kernel
theorem dX7_become_75 : decode cX7_become 75 = .ok (.getfield 31, 3) := by decide +kernel
theorem dX7_become_78 : decode cX7_become 78 = .ok (.iconst 0, 1) := by decide +kernel
theorem dX7_become_79 : decode cX7_become 79 = .ok (.bipush 7, 2) := by decide +kernel
theorem dX7_become_81 : decode cX7_become 81 = .ok (.invokestatic 52, 3) := by decide +kernel
theorem dX7_become_84 : decode cX7_become 84 = .ok (.aload_n 1, 1) := by decide +kernel
theorem dX7_become_85 : decode cX7_become 85 = .ok (.getfield 34, 3) := by decide +kernel
theorem dX7_become_88 : decode cX7_become 88 = .ok (.iconst 0, 1) := by decide +kernel
theorem dX7_become_89 : decode cX7_become 89 = .ok (.aload_n 0, 1) := by decide +kernel
theorem dX7_become_90 : decode cX7_become 90 = .ok (.getfield 34, 3) := by decide +kernel
theorem dX7_become_93 : decode cX7_become 93 = .ok (.iconst 0, 1) := by decide +kernel
theorem dX7_become_94 : decode cX7_become 94 = .ok (.bipush 7, 2) := by decide +kernel
theorem dX7_become_96 : decode cX7_become 96 = .ok (.invokestatic 52, 3) := by decide +kernel
theorem dX7_become_99 : decode cX7_become 99 = .ok (.aload_n 1, 1) := by decide +kernel
theorem dX7_become_100 : decode cX7_become 100 = .ok (.getfield 37, 3) := by decide +kernel
theorem dX7_become_103 : decode cX7_become 103 = .ok (.iconst 0, 1) := by decide +kernel
theorem dX7_become_104 : decode cX7_become 104 = .ok (.aload_n 0, 1) := by decide +kernel
theorem dX7_become_105 : decode cX7_become 105 = .ok (.getfield 37, 3) := by decide +kernel
theorem dX7_become_108 : decode cX7_become 108 = .ok (.iconst 0, 1) := by decide +kernel
theorem dX7_become_109 : decode cX7_become 109 = .ok (.bipush 7, 2) := by decide +kernel
theorem dX7_become_111 : decode cX7_become 111 = .ok (.invokestatic 52, 3) := by decide +kernel
theorem dX7_become_114 : decode cX7_become 114 = .ok (.aload_n 1, 1) := by decide +kernel
theorem dX7_become_115 : decode cX7_become 115 = .ok (.getfield 40, 3) := by decide +kernel
theorem dX7_become_118 : decode cX7_become 118 = .ok (.iconst 0, 1) := by decide +kernel
theorem dX7_become_119 : decode cX7_become 119 = .ok (.aload_n 0, 1) := by decide +kernel
theorem dX7_become_120 : decode cX7_become 120 = .ok (.getfield 40, 3) := by decide +kernel
theorem dX7_become_123 : decode cX7_become 123 = .ok (.iconst 0, 1) := by decide +kernel
theorem dX7_become_124 : decode cX7_become 124 = .ok (.bipush 60, 2) := by decide +kernel
theorem dX7_become_126 : decode cX7_become 126 = .ok (.invokestatic 52, 3) := by decide +kernel
theorem dX7_become_129 : decode cX7_become 129 = .ok (.aload_n 1, 1) := by decide +kernel
theorem dX7_become_130 : decode cX7_become 130 = .ok (.getfield 43, 3) := by decide +kernel
theorem dX7_become_133 : decode cX7_become 133 = .ok (.iconst 0, 1) := by decide +kernel
theorem dX7_become_134 : decode cX7_become 134 = .ok (.aload_n 0, 1) := by decide +kernel
theorem dX7_become_135 : decode cX7_become 135 = .ok (.getfield 43, 3) := by decide +kernel
theorem dX7_become_138 : decode cX7_become 138 = .ok (.iconst 0, 1) := by decide +kernel
theorem dX7_become_139 : decode cX7_become 139 = .ok (.bipush 60, 2) := by decide +kernel
theorem dX7_become_141 : decode cX7_become 141 = .ok (.invokestatic 52, 3) := by decide +kernel
theorem dX7_become_144 : decode cX7_become 144 = .ok (.aload_n 1, 1) := by decide +kernel
theorem dX7_become_145 : decode cX7_become 145 = .ok (.getfield 46, 3) := by decide +kernel
theorem dX7_become_148 : decode cX7_become 148 = .ok (.iconst 0, 1) := by decide +kernel
theorem dX7_become_149 : decode cX7_become 149 = .ok (.aload_n 0, 1) := by decide +kernel
theorem dX7_become_150 : decode cX7_become 150 = .ok (.getfield 46, 3) := by decide +kernel
theorem dX7_become_153 : decode cX7_become 153 = .ok (.iconst 0, 1) := by decide +kernel
theorem dX7_become_154 : decode cX7_become 154 = .ok (.bipush 60, 2) := by decide +kernel
theorem dX7_become_156 : decode cX7_become 156 = .ok (.invokestatic 52, 3) := by decide +kernel
theorem dX7_become_159 : decode cX7_become 159 = .ok (.aload_n 1, 1) := by decide +kernel
theorem dX7_become_160 : decode cX7_become 160 = .ok (.getfield 49, 3) := by decide +kernel
theorem dX7_become_163 : decode cX7_become 163 = .ok (.iconst 0, 1) := by decide +kernel
theorem dX7_become_164 : decode cX7_become 164 = .ok (.aload_n 0, 1) := by decide +kernel
theorem dX7_become_165 : decode cX7_become 165 = .ok (.getfield 49, 3) := by decide +kernel
theorem dX7_become_168 : decode cX7_become 168 = .ok (.iconst 0, 1) := by decide +kernel
theorem dX7_become_169 : decode cX7_become 169 = .ok (.bipush 60, 2) := by decide +kernel
theorem dX7_become_171 : decode cX7_become 171 = .ok (.invokestatic 52, 3) := by decide +kernel
theorem dX7_become_174 : decode cX7_become 174 = .ok (.return_, 1) := by decide +kernel
theorem dX7_isFull_0 : decode cX7_isFull 0 = .ok (.aload_n 0, 1) := by decide +kernel
theorem dX7_isFull_1 : decode cX7_isFull 1 = .ok (.getfield 18, 3) := by decide +kernel
theorem dX7_isFull_4 : decode cX7_isFull 4 = .ok (.bipush 60, 2) := by decide +kernel
theorem dX7_isFull_6 : decode cX7_isFull 6 = .ok (.if_icmp .lt 7, 3) := by decide +kernel
theorem dX7_isFull_9 : decode cX7_isFull 9 = .ok (.iconst 1, 1) := by decide +kernel
theorem dX7_isFull_10 : decode cX7_isFull 10 = .ok (.goto 4, 3) := by decide +kernel
theorem dX7_isFull_13 : decode cX7_isFull 13 = .ok (.iconst 0, 1) := by decide +kernel
theorem dX7_isFull_14 : decode cX7_isFull 14 = .ok (.ireturn, 1) := by decide +kernel
theorem dX7_doDeed_0 : decode cX7_doDeed 0 = .ok (.aload_n 0, 1) := by decide +kernel
theorem dX7_doDeed_1 : decode cX7_doDeed 1 = .ok (.getfield 18, 3) := by decide +kernel
theorem dX7_doDeed_4 : decode cX7_doDeed 4 = .ok (.ifCond .lt 12, 3) := by decide +kernel
theorem dX7_doDeed_7 : decode cX7_doDeed 7 = .ok (.aload_n 0, 1) := by decide +kernel
theorem dX7_doDeed_8 : decode cX7_doDeed 8 = .ok (.getfield 18, 3) := by decide +kernel
theorem dX7_doDeed_11 : decode cX7_doDeed 11 = .ok (.bipush 60, 2) := by decide +kernel
theorem dX7_doDeed_13 : decode cX7_doDeed 13 = .ok (.if_icmp .lt 4, 3) := by decide +kernel
theorem dX7_doDeed_16 : decode cX7_doDeed 16 = .ok (.return_, 1) := by decide +kernel
theorem dX7_doDeed_17 : decode cX7_doDeed 17 = .ok (.aload_n 0, 1) := by decide +kernel
theorem dX7_doDeed_18 : decode cX7_doDeed 18 = .ok (.getfield 40, 3) := by decide +kernel
theorem dX7_doDeed_21 : decode cX7_doDeed 21 = .ok (.aload_n 0, 1) := by decide +kernel
theorem dX7_doDeed_22 : decode cX7_doDeed 22 = .ok (.getfield 18, 3) := by decide +kernel
theorem dX7_doDeed_25 : decode cX7_doDeed 25 = .ok (.iload_n 1, 1) := by decide +kernel
theorem dX7_doDeed_26 : decode cX7_doDeed 26 = .ok (.iastore, 1) := by decide +kernel
theorem dX7_doDeed_27 : decode cX7_doDeed 27 = .ok (.aload_n 0, 1) := by decide +kernel
theorem dX7_doDeed_28 : decode cX7_doDeed 28 = .ok (.getfield 43, 3) := by decide +kernel
theorem dX7_doDeed_31 : decode cX7_doDeed 31 = .ok (.aload_n 0, 1) := by decide +kernel
theorem dX7_doDeed_32 : decode cX7_doDeed 32 = .ok (.getfield 18, 3) := by decide +kernel
theorem dX7_doDeed_35 : decode cX7_doDeed 35 = .ok (.iload_n 2, 1) := by decide +kernel
theorem dX7_doDeed_36 : decode cX7_doDeed 36 = .ok (.iastore, 1) := by decide +kernel
theorem dX7_doDeed_37 : decode cX7_doDeed 37 = .ok (.aload_n 0, 1) := by decide +kernel
theorem dX7_doDeed_38 : decode cX7_doDeed 38 = .ok (.getfield 46, 3) := by decide +kernel
theorem dX7_doDeed_41 : decode cX7_doDeed 41 = .ok (.aload_n 0, 1) := by decide +kernel
theorem dX7_doDeed_42 : decode cX7_doDeed 42 = .ok (.getfield 18, 3) := by decide +kernel
theorem dX7_doDeed_45 : decode cX7_doDeed 45 = .ok (.iload_n 3, 1) := by decide +kernel
theorem dX7_doDeed_46 : decode cX7_doDeed 46 = .ok (.iastore, 1) := by decide +kernel
theorem dX7_doDeed_47 : decode cX7_doDeed 47 = .ok (.aload_n 0, 1) := by decide +kernel
theorem dX7_doDeed_48 : decode cX7_doDeed 48 = .ok (.getfield 49, 3) := by decide +kernel
theorem dX7_doDeed_51 : decode cX7_doDeed 51 = .ok (.aload_n 0, 1) := by decide +kernel
theorem dX7_doDeed_52 : decode cX7_doDeed 52 = .ok (.getfield 18, 3) := by decide +kernel
theorem dX7_doDeed_55 : decode cX7_doDeed 55 = .ok (.iload 4, 2) := by decide +kernel
theorem dX7_doDeed_57 : decode cX7_doDeed 57 = .ok (.iastore, 1) := by decide +kernel
theorem dX7_doDeed_58 : decode cX7_doDeed 58 = .ok (.aload_n 0, 1) := by decide +kernel
theorem dX7_doDeed_59 : decode cX7_doDeed 59 = .ok (.aload_n 0, 1) := by decide +kernel
theorem dX7_doDeed_60 : decode cX7_doDeed 60 = .ok (.getfield 18, 3) := by decide +kernel
theorem dX7_doDeed_63 : decode cX7_doDeed 63 = .ok (.invokevirtual 67, 3) := by decide +kernel
theorem dX7_doDeed_66 : decode cX7_doDeed 66 = .ok (.aload_n 0, 1) := by decide +kernel
theorem dX7_doDeed_67 : decode cX7_doDeed 67 = .ok (.dup, 1) := by decide +kernel
theorem dX7_doDeed_68 : decode cX7_doDeed 68 = .ok (.getfield 18, 3) := by decide +kernel
theorem dX7_doDeed_71 : decode cX7_doDeed 71 = .ok (.iconst 1, 1) := by decide +kernel
theorem dX7_doDeed_72 : decode cX7_doDeed 72 = .ok (.iadd, 1) := by decide +kernel
theorem dX7_doDeed_73 : decode cX7_doDeed 73 = .ok (.putfield 18, 3) := by decide +kernel
theorem dX7_doDeed_76 : decode cX7_doDeed 76 = .ok (.return_, 1) := by decide +kernel
theorem dX7_workDeed_0 : decode cX7_workDeed 0 = .ok (.iload_n 1, 1) := by decide +kernel
theorem dX7_workDeed_1 : decode cX7_workDeed 1 = .ok (.ifCond .lt 9, 3) := by decide +kernel
theorem dX7_workDeed_4 : decode cX7_workDeed 4 = .ok (.iload_n 1, 1) := by decide +kernel
theorem dX7_workDeed_5 : decode cX7_workDeed 5 = .ok (.bipush 60, 2) := by decide +kernel
theorem dX7_workDeed_7 : decode cX7_workDeed 7 = .ok (.if_icmp .lt 4, 3) := by decide +kernel
theorem dX7_workDeed_10 : decode cX7_workDeed 10 = .ok (.return_, 1) := by decide +kernel
theorem dX7_workDeed_11 : decode cX7_workDeed 11 = .ok (.aload_n 0, 1) := by decide +kernel
theorem dX7_workDeed_12 : decode cX7_workDeed 12 = .ok (.getfield 43, 3) := by decide +kernel
theorem dX7_workDeed_15 : decode cX7_workDeed 15 = .ok (.iload_n 1, 1) := by decide +kernel
theorem dX7_workDeed_16 : decode cX7_workDeed 16 = .ok (.iaload, 1) := by decide +kernel
theorem dX7_workDeed_17 : decode cX7_workDeed 17 = .ok (.istore_n 2, 1) := by decide +kernel
theorem dX7_workDeed_18 : decode cX7_workDeed 18 = .ok (.aload_n 0, 1) := by decide +kernel
theorem dX7_workDeed_19 : decode cX7_workDeed 19 = .ok (.getfield 40, 3) := by decide +kernel
theorem dX7_workDeed_22 : decode cX7_workDeed 22 = .ok (.iload_n 1, 1) := by decide +kernel
theorem dX7_workDeed_23 : decode cX7_workDeed 23 = .ok (.iaload, 1) := by decide +kernel
theorem dX7_workDeed_24 : decode cX7_workDeed 24 = .ok (.iconst 2, 1) := by decide +kernel
theorem dX7_workDeed_25 : decode cX7_workDeed 25 = .ok (.if_icmp .ne 16, 3) := by decide +kernel
theorem dX7_workDeed_28 : decode cX7_workDeed 28 = .ok (.aload_n 0, 1) := by decide +kernel
theorem dX7_workDeed_29 : decode cX7_workDeed 29 = .ok (.dup, 1) := by decide +kernel
theorem dX7_workDeed_30 : decode cX7_workDeed 30 = .ok (.getfield 15, 3) := by decide +kernel
theorem dX7_workDeed_33 : decode cX7_workDeed 33 = .ok (.iload_n 2, 1) := by decide +kernel
theorem dX7_workDeed_34 : decode cX7_workDeed 34 = .ok (.iadd, 1) := by decide +kernel
theorem dX7_workDeed_35 : decode cX7_workDeed 35 = .ok (.putfield 15, 3) := by decide +kernel
theorem dX7_workDeed_38 : decode cX7_workDeed 38 = .ok (.goto 70, 3) := by decide +kernel
theorem dX7_workDeed_41 : decode cX7_workDeed 41 = .ok (.aload_n 0, 1) := by decide +kernel
theorem dX7_workDeed_42 : decode cX7_workDeed 42 = .ok (.iload_n 2, 1) := by decide +kernel
theorem dX7_workDeed_43 : decode cX7_workDeed 43 = .ok (.invokevirtual 71, 3) := by decide +kernel
theorem dX7_workDeed_46 : decode cX7_workDeed 46 = .ok (.ifCond .eq 30, 3) := by decide +kernel
theorem dX7_workDeed_49 : decode cX7_workDeed 49 = .ok (.aload_n 0, 1) := by decide +kernel
theorem dX7_workDeed_50 : decode cX7_workDeed 50 = .ok (.getfield 40, 3) := by decide +kernel
theorem dX7_workDeed_53 : decode cX7_workDeed 53 = .ok (.iload_n 1, 1) := by decide +kernel
theorem dX7_workDeed_54 : decode cX7_workDeed 54 = .ok (.iaload, 1) := by decide +kernel
theorem dX7_workDeed_55 : decode cX7_workDeed 55 = .ok (.iconst 1, 1) := by decide +kernel
theorem dX7_workDeed_56 : decode cX7_workDeed 56 = .ok (.if_icmp .ne 20, 3) := by decide +kernel
theorem dX7_workDeed_59 : decode cX7_workDeed 59 = .ok (.aload_n 0, 1) := by decide +kernel
theorem dX7_workDeed_60 : decode cX7_workDeed 60 = .ok (.getfield 31, 3) := by decide +kernel
theorem dX7_workDeed_63 : decode cX7_workDeed 63 = .ok (.iload_n 2, 1) := by decide +kernel
theorem dX7_workDeed_64 : decode cX7_workDeed 64 = .ok (.aload_n 0, 1) := by decide +kernel
theorem dX7_workDeed_65 : decode cX7_workDeed 65 = .ok (.getfield 15, 3) := by decide +kernel
theorem dX7_workDeed_68 : decode cX7_workDeed 68 = .ok (.iastore, 1) := by decide +kernel
theorem dX7_workDeed_69 : decode cX7_workDeed 69 = .ok (.aload_n 0, 1) := by decide +kernel
theorem dX7_workDeed_70 : decode cX7_workDeed 70 = .ok (.invokevirtual 58, 3) := by decide +kernel
theorem dX7_workDeed_73 : decode cX7_workDeed 73 = .ok (.goto 35, 3) := by decide +kernel
theorem dX7_workDeed_76 : decode cX7_workDeed 76 = .ok (.aload_n 0, 1) := by decide +kernel
theorem dX7_workDeed_77 : decode cX7_workDeed 77 = .ok (.iload_n 2, 1) := by decide +kernel
theorem dX7_workDeed_78 : decode cX7_workDeed 78 = .ok (.invokevirtual 71, 3) := by decide +kernel
theorem dX7_workDeed_81 : decode cX7_workDeed 81 = .ok (.ifCond .eq 27, 3) := by decide +kernel
theorem dX7_workDeed_84 : decode cX7_workDeed 84 = .ok (.aload_n 0, 1) := by decide +kernel
theorem dX7_workDeed_85 : decode cX7_workDeed 85 = .ok (.getfield 34, 3) := by decide +kernel
theorem dX7_workDeed_88 : decode cX7_workDeed 88 = .ok (.iload_n 2, 1) := by decide +kernel
theorem dX7_workDeed_89 : decode cX7_workDeed 89 = .ok (.aload_n 0, 1) := by decide +kernel
theorem dX7_workDeed_90 : decode cX7_workDeed 90 = .ok (.getfield 49, 3) := by decide +kernel
theorem dX7_workDeed_93 : decode cX7_workDeed 93 = .ok (.iload_n 1, 1) := by decide +kernel
theorem dX7_workDeed_94 : decode cX7_workDeed 94 = .ok (.iaload, 1) := by decide +kernel
theorem dX7_workDeed_95 : decode cX7_workDeed 95 = .ok (.iastore, 1) := by decide +kernel
theorem dX7_workDeed_96 : decode cX7_workDeed 96 = .ok (.aload_n 0, 1) := by decide +kernel
theorem dX7_workDeed_97 : decode cX7_workDeed 97 = .ok (.getfield 37, 3) := by decide +kernel
theorem dX7_workDeed_100 : decode cX7_workDeed 100 = .ok (.iload_n 2, 1) := by decide +kernel
theorem dX7_workDeed_101 : decode cX7_workDeed 101 = .ok (.aload_n 0, 1) := by decide +kernel
theorem dX7_workDeed_102 : decode cX7_workDeed 102 = .ok (.getfield 46, 3) := by decide +kernel
theorem dX7_workDeed_105 : decode cX7_workDeed 105 = .ok (.iload_n 1, 1) := by decide +kernel
theorem dX7_workDeed_106 : decode cX7_workDeed 106 = .ok (.iaload, 1) := by decide +kernel
theorem dX7_workDeed_107 : decode cX7_workDeed 107 = .ok (.iastore, 1) := by decide +kernel
theorem dX7_workDeed_108 : decode cX7_workDeed 108 = .ok (.return_, 1) := by decide +kernel
theorem dX7_goBackTo_0 : decode cX7_goBackTo 0 = .ok (.aload_n 0, 1) := by decide +kernel
theorem dX7_goBackTo_1 : decode cX7_goBackTo 1 = .ok (.invokevirtual 75, 3) := by decide +kernel
theorem dX7_goBackTo_4 : decode cX7_goBackTo 4 = .ok (.iconst 0, 1) := by decide +kernel
theorem dX7_goBackTo_5 : decode cX7_goBackTo 5 = .ok (.istore_n 2, 1) := by decide +kernel
theorem dX7_goBackTo_6 : decode cX7_goBackTo 6 = .ok (.iload_n 2, 1) := by decide +kernel
theorem dX7_goBackTo_7 : decode cX7_goBackTo 7 = .ok (.iload_n 1, 1) := by decide +kernel
theorem dX7_goBackTo_8 : decode cX7_goBackTo 8 = .ok (.if_icmp .ge 14, 3) := by decide +kernel
theorem dX7_goBackTo_11 : decode cX7_goBackTo 11 = .ok (.aload_n 0, 1) := by decide +kernel
theorem dX7_goBackTo_12 : decode cX7_goBackTo 12 = .ok (.iload_n 2, 1) := by decide +kernel
theorem dX7_goBackTo_13 : decode cX7_goBackTo 13 = .ok (.invokevirtual 67, 3) := by decide +kernel
theorem dX7_goBackTo_16 : decode cX7_goBackTo 16 = .ok (.iinc 2 1, 3) := by decide +kernel
theorem dX7_goBackTo_19 : decode cX7_goBackTo 19 = .ok (.goto (-13), 3) := by decide +kernel
theorem dX7_goBackTo_22 : decode cX7_goBackTo 22 = .ok (.aload_n 0, 1) := by decide +kernel
theorem dX7_goBackTo_23 : decode cX7_goBackTo 23 = .ok (.iload_n 1, 1) := by decide +kernel
theorem dX7_goBackTo_24 : decode cX7_goBackTo 24 = .ok (.putfield 18, 3) := by decide +kernel
theorem dX7_goBackTo_27 : decode cX7_goBackTo 27 = .ok (.return_, 1) := by decide +kernel
theorem dX7_isPerson_0 : decode cX7_isPerson 0 = .ok (.iload_n 1, 1) := by decide +kernel
theorem dX7_isPerson_1 : decode cX7_isPerson 1 = .ok (.ifCond .lt 21, 3) := by decide +kernel
theorem dX7_isPerson_4 : decode cX7_isPerson 4 = .ok (.iload_n 1, 1) := by decide +kernel
theorem dX7_isPerson_5 : decode cX7_isPerson 5 = .ok (.aload_n 0, 1) := by decide +kernel
theorem dX7_isPerson_6 : decode cX7_isPerson 6 = .ok (.getfield 9, 3) := by decide +kernel
theorem dX7_isPerson_9 : decode cX7_isPerson 9 = .ok (.if_icmp .ge 13, 3) := by decide +kernel
theorem dX7_isPerson_12 : decode cX7_isPerson 12 = .ok (.iload_n 1, 1) := by decide +kernel
theorem dX7_isPerson_13 : decode cX7_isPerson 13 = .ok (.bipush 7, 2) := by decide +kernel
theorem dX7_isPerson_15 : decode cX7_isPerson 15 = .ok (.if_icmp .ge 7, 3) := by decide +kernel
theorem dX7_isPerson_18 : decode cX7_isPerson 18 = .ok (.iconst 1, 1) := by decide +kernel
theorem dX7_isPerson_19 : decode cX7_isPerson 19 = .ok (.goto 4, 3) := by decide +kernel
theorem dX7_isPerson_22 : decode cX7_isPerson 22 = .ok (.iconst 0, 1) := by decide +kernel
theorem dX7_isPerson_23 : decode cX7_isPerson 23 = .ok (.ireturn, 1) := by decide +kernel
theorem dX7_isHold_0 : decode cX7_isHold 0 = .ok (.iload_n 1, 1) := by decide +kernel
theorem dX7_isHold_1 : decode cX7_isHold 1 = .ok (.bipush 9, 2) := by decide +kernel
theorem dX7_isHold_3 : decode cX7_isHold 3 = .ok (.if_icmp .eq 11, 3) := by decide +kernel
theorem dX7_isHold_6 : decode cX7_isHold 6 = .ok (.aload_n 0, 1) := by decide +kernel
theorem dX7_isHold_7 : decode cX7_isHold 7 = .ok (.iload_n 1, 1) := by decide +kernel
theorem dX7_isHold_8 : decode cX7_isHold 8 = .ok (.invokevirtual 71, 3) := by decide +kernel
theorem dX7_isHold_11 : decode cX7_isHold 11 = .ok (.ifCond .eq 7, 3) := by decide +kernel
theorem dX7_isHold_14 : decode cX7_isHold 14 = .ok (.iconst 1, 1) := by decide +kernel
theorem dX7_isHold_15 : decode cX7_isHold 15 = .ok (.goto 4, 3) := by decide +kernel
theorem dX7_isHold_18 : decode cX7_isHold 18 = .ok (.iconst 0, 1) := by decide +kernel
theorem dX7_isHold_19 : decode cX7_isHold 19 = .ok (.ireturn, 1) := by decide +kernel
theorem dX7_isStuck_0 : decode cX7_isStuck 0 = .ok (.iload_n 1, 1) := by decide +kernel
theorem dX7_isStuck_1 : decode cX7_isStuck 1 = .ok (.ifCond .lt 32, 3) := by decide +kernel
theorem dX7_isStuck_4 : decode cX7_isStuck 4 = .ok (.iload_n 1, 1) := by decide +kernel
theorem dX7_isStuck_5 : decode cX7_isStuck 5 = .ok (.aload_n 0, 1) := by decide +kernel
theorem dX7_isStuck_6 : decode cX7_isStuck 6 = .ok (.getfield 9, 3) := by decide +kernel
theorem dX7_isStuck_9 : decode cX7_isStuck 9 = .ok (.if_icmp .ge 24, 3) := by decide +kernel
theorem dX7_isStuck_12 : decode cX7_isStuck 12 = .ok (.iload_n 1, 1) := by decide +kernel
theorem dX7_isStuck_13 : decode cX7_isStuck 13 = .ok (.bipush 7, 2) := by decide +kernel
theorem dX7_isStuck_15 : decode cX7_isStuck 15 = .ok (.if_icmp .ge 18, 3) := by decide +kernel
theorem dX7_isStuck_18 : decode cX7_isStuck 18 = .ok (.aload_n 0, 1) := by decide +kernel
theorem dX7_isStuck_19 : decode cX7_isStuck 19 = .ok (.getfield 34, 3) := by decide +kernel
theorem dX7_isStuck_22 : decode cX7_isStuck 22 = .ok (.iload_n 1, 1) := by decide +kernel
theorem dX7_isStuck_23 : decode cX7_isStuck 23 = .ok (.iaload, 1) := by decide +kernel
theorem dX7_isStuck_24 : decode cX7_isStuck 24 = .ok (.bipush (-9), 2) := by decide +kernel
theorem dX7_isStuck_26 : decode cX7_isStuck 26 = .ok (.if_icmp .eq 7, 3) := by decide +kernel
theorem dX7_isStuck_29 : decode cX7_isStuck 29 = .ok (.iconst 1, 1) := by decide +kernel
theorem dX7_isStuck_30 : decode cX7_isStuck 30 = .ok (.goto 4, 3) := by decide +kernel
theorem dX7_isStuck_33 : decode cX7_isStuck 33 = .ok (.iconst 0, 1) := by decide +kernel
theorem dX7_isStuck_34 : decode cX7_isStuck 34 = .ok (.ireturn, 1) := by decide +kernel
theorem dX7_isSticky_0 : decode cX7_isSticky 0 = .ok (.iload_n 1, 1) := by decide +kernel
theorem dX7_isSticky_1 : decode cX7_isSticky 1 = .ok (.bipush 9, 2) := by decide +kernel
theorem dX7_isSticky_3 : decode cX7_isSticky 3 = .ok (.if_icmp .eq 11, 3) := by decide +kernel
theorem dX7_isSticky_6 : decode cX7_isSticky 6 = .ok (.aload_n 0, 1) := by decide +kernel
theorem dX7_isSticky_7 : decode cX7_isSticky 7 = .ok (.iload_n 1, 1) := by decide +kernel
theorem dX7_isSticky_8 : decode cX7_isSticky 8 = .ok (.invokevirtual 78, 3) := by decide +kernel
theorem dX7_isSticky_11 : decode cX7_isSticky 11 = .ok (.ifCond .eq 7, 3) := by decide +kernel
theorem dX7_isSticky_14 : decode cX7_isSticky 14 = .ok (.iconst 1, 1) := by decide +kernel
theorem dX7_isSticky_15 : decode cX7_isSticky 15 = .ok (.goto 4, 3) := by decide +kernel
theorem dX7_isSticky_18 : decode cX7_isSticky 18 = .ok (.iconst 0, 1) := by decide +kernel
theorem dX7_isSticky_19 : decode cX7_isSticky 19 = .ok (.ireturn, 1) := by decide +kernel
theorem dX7_isOf_0 : decode cX7_isOf 0 = .ok (.aload_n 0, 1) := by decide +kernel
theorem dX7_isOf_1 : decode cX7_isOf 1 = .ok (.iload_n 1, 1) := by decide +kernel
theorem dX7_isOf_2 : decode cX7_isOf 2 = .ok (.invokevirtual 71, 3) := by decide +kernel
theorem dX7_isOf_5 : decode cX7_isOf 5 = .ok (.ifCond .eq 20, 3) := by decide +kernel
theorem dX7_isOf_8 : decode cX7_isOf 8 = .ok (.aload_n 0, 1) := by decide +kernel
theorem dX7_isOf_9 : decode cX7_isOf 9 = .ok (.getfield 21, 3) := by decide +kernel
theorem dX7_isOf_12 : decode cX7_isOf 12 = .ok (.iload_n 1, 1) := by decide +kernel
theorem dX7_isOf_13 : decode cX7_isOf 13 = .ok (.iaload, 1) := by decide +kernel
theorem dX7_isOf_14 : decode cX7_isOf 14 = .ok (.iload_n 2, 1) := by decide +kernel
theorem dX7_isOf_15 : decode cX7_isOf 15 = .ok (.invokestatic 81, 3) := by decide +kernel
theorem dX7_isOf_18 : decode cX7_isOf 18 = .ok (.ifCond .eq 7, 3) := by decide +kernel
theorem dX7_isOf_21 : decode cX7_isOf 21 = .ok (.iconst 1, 1) := by decide +kernel
theorem dX7_isOf_22 : decode cX7_isOf 22 = .ok (.goto 4, 3) := by decide +kernel
theorem dX7_isOf_25 : decode cX7_isOf 25 = .ok (.iconst 0, 1) := by decide +kernel
theorem dX7_isOf_26 : decode cX7_isOf 26 = .ok (.ireturn, 1) := by decide +kernel
theorem dX7_sticksBy_0 : decode cX7_sticksBy 0 = .ok (.iload_n 2, 1) := by decide +kernel
theorem dX7_sticksBy_1 : decode cX7_sticksBy 1 = .ok (.ifCond .ne 12, 3) := by decide +kernel
theorem dX7_sticksBy_4 : decode cX7_sticksBy 4 = .ok (.aload_n 0, 1) := by decide +kernel
theorem dX7_sticksBy_5 : decode cX7_sticksBy 5 = .ok (.iload_n 1, 1) := by decide +kernel
theorem dX7_sticksBy_6 : decode cX7_sticksBy 6 = .ok (.iconst 1, 1) := by decide +kernel
theorem dX7_sticksBy_7 : decode cX7_sticksBy 7 = .ok (.invokevirtual 87, 3) := by decide +kernel
theorem dX7_sticksBy_10 : decode cX7_sticksBy 10 = .ok (.ifCond .ne 7, 3) := by decide +kernel
theorem dX7_sticksBy_13 : decode cX7_sticksBy 13 = .ok (.iconst 1, 1) := by decide +kernel
theorem dX7_sticksBy_14 : decode cX7_sticksBy 14 = .ok (.goto 4, 3) := by decide +kernel
theorem dX7_sticksBy_17 : decode cX7_sticksBy 17 = .ok (.iconst 0, 1) := by decide +kernel
theorem dX7_sticksBy_18 : decode cX7_sticksBy 18 = .ok (.ireturn, 1) := by decide +kernel
theorem dX7_daysAgo_0 : decode cX7_daysAgo 0 = .ok (.aload_n 0, 1) := by decide +kernel
theorem dX7_daysAgo_1 : decode cX7_daysAgo 1 = .ok (.iload_n 1, 1) := by decide +kernel
theorem dX7_daysAgo_2 : decode cX7_daysAgo 2 = .ok (.invokevirtual 71, 3) := by decide +kernel
theorem dX7_daysAgo_5 : decode cX7_daysAgo 5 = .ok (.ifCond .eq 17, 3) := by decide +kernel
theorem dX7_daysAgo_8 : decode cX7_daysAgo 8 = .ok (.aload_n 0, 1) := by decide +kernel
theorem dX7_daysAgo_9 : decode cX7_daysAgo 9 = .ok (.getfield 15, 3) := by decide +kernel
theorem dX7_daysAgo_12 : decode cX7_daysAgo 12 = .ok (.aload_n 0, 1) := by decide +kernel
theorem dX7_daysAgo_13 : decode cX7_daysAgo 13 = .ok (.getfield 31, 3) := by decide +kernel
theorem dX7_daysAgo_16 : decode cX7_daysAgo 16 = .ok (.iload_n 1, 1) := by decide +kernel
theorem dX7_daysAgo_17 : decode cX7_daysAgo 17 = .ok (.iaload, 1) := by decide +kernel
theorem dX7_daysAgo_18 : decode cX7_daysAgo 18 = .ok (.isub, 1) := by decide +kernel
theorem dX7_daysAgo_19 : decode cX7_daysAgo 19 = .ok (.goto 4, 3) := by decide +kernel
theorem dX7_daysAgo_22 : decode cX7_daysAgo 22 = .ok (.iconst 0, 1) := by decide +kernel
theorem dX7_daysAgo_23 : decode cX7_daysAgo 23 = .ok (.ireturn, 1) := by decide +kernel
theorem dX7_stuckSet_0 : decode cX7_stuckSet 0 = .ok (.iconst 0, 1) := by decide +kernel
theorem dX7_stuckSet_1 : decode cX7_stuckSet 1 = .ok (.istore_n 1, 1) := by decide +kernel
theorem dX7_stuckSet_2 : decode cX7_stuckSet 2 = .ok (.iconst 0, 1) := by decide +kernel
theorem dX7_stuckSet_3 : decode cX7_stuckSet 3 = .ok (.istore_n 2, 1) := by decide +kernel
theorem dX7_stuckSet_4 : decode cX7_stuckSet 4 = .ok (.iload_n 2, 1) := by decide +kernel
theorem dX7_stuckSet_5 : decode cX7_stuckSet 5 = .ok (.aload_n 0, 1) := by decide +kernel
theorem dX7_stuckSet_6 : decode cX7_stuckSet 6 = .ok (.getfield 9, 3) := by decide +kernel
theorem dX7_stuckSet_9 : decode cX7_stuckSet 9 = .ok (.if_icmp .ge 23, 3) := by decide +kernel
theorem dX7_stuckSet_12 : decode cX7_stuckSet 12 = .ok (.aload_n 0, 1) := by decide +kernel
theorem dX7_stuckSet_13 : decode cX7_stuckSet 13 = .ok (.iload_n 2, 1) := by decide +kernel
theorem dX7_stuckSet_14 : decode cX7_stuckSet 14 = .ok (.invokevirtual 78, 3) := by decide +kernel
theorem dX7_stuckSet_17 : decode cX7_stuckSet 17 = .ok (.ifCond .eq 9, 3) := by decide +kernel
theorem dX7_stuckSet_20 : decode cX7_stuckSet 20 = .ok (.iload_n 1, 1) := by decide +kernel
theorem dX7_stuckSet_21 : decode cX7_stuckSet 21 = .ok (.iconst 1, 1) := by decide +kernel
theorem dX7_stuckSet_22 : decode cX7_stuckSet 22 = .ok (.iload_n 2, 1) := by decide +kernel
theorem dX7_stuckSet_23 : decode cX7_stuckSet 23 = .ok (.ishl, 1) := by decide +kernel
theorem dX7_stuckSet_24 : decode cX7_stuckSet 24 = .ok (.ior, 1) := by decide +kernel
theorem dX7_stuckSet_25 : decode cX7_stuckSet 25 = .ok (.istore_n 1, 1) := by decide +kernel
theorem dX7_stuckSet_26 : decode cX7_stuckSet 26 = .ok (.iinc 2 1, 3) := by decide +kernel
theorem dX7_stuckSet_29 : decode cX7_stuckSet 29 = .ok (.goto (-25), 3) := by decide +kernel
theorem dX7_stuckSet_32 : decode cX7_stuckSet 32 = .ok (.iload_n 1, 1) := by decide +kernel
theorem dX7_stuckSet_33 : decode cX7_stuckSet 33 = .ok (.ireturn, 1) := by decide +kernel
theorem dX7_stuckCount_0 : decode cX7_stuckCount 0 = .ok (.aload_n 0, 1) := by decide +kernel
theorem dX7_stuckCount_1 : decode cX7_stuckCount 1 = .ok (.invokevirtual 90, 3) := by decide +kernel
theorem dX7_stuckCount_4 : decode cX7_stuckCount 4 = .ok (.invokestatic 94, 3) := by decide +kernel
theorem dX7_stuckCount_7 : decode cX7_stuckCount 7 = .ok (.ireturn, 1) := by decide +kernel
theorem dX7_hangers_0 : decode cX7_hangers 0 = .ok (.iconst 0, 1) := by decide +kernel
theorem dX7_hangers_1 : decode cX7_hangers 1 = .ok (.istore_n 2, 1) := by decide +kernel
theorem dX7_hangers_2 : decode cX7_hangers 2 = .ok (.iconst 0, 1) := by decide +kernel
theorem dX7_hangers_3 : decode cX7_hangers 3 = .ok (.istore_n 3, 1) := by decide +kernel
theorem dX7_hangers_4 : decode cX7_hangers 4 = .ok (.iload_n 3, 1) := by decide +kernel
theorem dX7_hangers_5 : decode cX7_hangers 5 = .ok (.aload_n 0, 1) := by decide +kernel
theorem dX7_hangers_6 : decode cX7_hangers 6 = .ok (.getfield 9, 3) := by decide +kernel
theorem dX7_hangers_9 : decode cX7_hangers 9 = .ok (.if_icmp .ge 33, 3) := by decide +kernel
theorem dX7_hangers_12 : decode cX7_hangers 12 = .ok (.aload_n 0, 1) := by decide +kernel
theorem dX7_hangers_13 : decode cX7_hangers 13 = .ok (.iload_n 3, 1) := by decide +kernel
theorem dX7_hangers_14 : decode cX7_hangers 14 = .ok (.invokevirtual 78, 3) := by decide +kernel
theorem dX7_hangers_17 : decode cX7_hangers 17 = .ok (.ifCond .eq 19, 3) := by decide +kernel
theorem dX7_hangers_20 : decode cX7_hangers 20 = .ok (.aload_n 0, 1) := by decide +kernel
theorem dX7_hangers_21 : decode cX7_hangers 21 = .ok (.getfield 34, 3) := by decide +kernel
theorem dX7_hangers_24 : decode cX7_hangers 24 = .ok (.iload_n 3, 1) := by decide +kernel
theorem dX7_hangers_25 : decode cX7_hangers 25 = .ok (.iaload, 1) := by decide +kernel
theorem dX7_hangers_26 : decode cX7_hangers 26 = .ok (.iload_n 1, 1) := by decide +kernel
theorem dX7_hangers_27 : decode cX7_hangers 27 = .ok (.if_icmp .ne 9, 3) := by decide +kernel
theorem dX7_hangers_30 : decode cX7_hangers 30 = .ok (.iload_n 2, 1) := by decide +kernel
theorem dX7_hangers_31 : decode cX7_hangers 31 = .ok (.iconst 1, 1) := by decide +kernel
theorem dX7_hangers_32 : decode cX7_hangers 32 = .ok (.iload_n 3, 1) := by decide +kernel
theorem dX7_hangers_33 : decode cX7_hangers 33 = .ok (.ishl, 1) := by decide +kernel
theorem dX7_hangers_34 : decode cX7_hangers 34 = .ok (.ior, 1) := by decide +kernel
theorem dX7_hangers_35 : decode cX7_hangers 35 = .ok (.istore_n 2, 1) := by decide +kernel
theorem dX7_hangers_36 : decode cX7_hangers 36 = .ok (.iinc 3 1, 3) := by decide +kernel
theorem dX7_hangers_39 : decode cX7_hangers 39 = .ok (.goto (-35), 3) := by decide +kernel
theorem dX7_hangers_42 : decode cX7_hangers 42 = .ok (.iload_n 2, 1) := by decide +kernel
theorem dX7_hangers_43 : decode cX7_hangers 43 = .ok (.ireturn, 1) := by decide +kernel
theorem dX7_hangersOnChildren_0 : decode cX7_hangersOnChildren 0 = .ok (.iconst 0, 1) := by decide +kernel
theorem dX7_hangersOnChildren_1 : decode cX7_hangersOnChildren 1 = .ok (.istore_n 1, 1) := by decide +kernel
theorem dX7_hangersOnChildren_2 : decode cX7_hangersOnChildren 2 = .ok (.iconst 0, 1) := by decide +kernel
theorem dX7_hangersOnChildren_3 : decode cX7_hangersOnChildren 3 = .ok (.istore_n 2, 1) := by decide +kernel
theorem dX7_hangersOnChildren_4 : decode cX7_hangersOnChildren 4 = .ok (.iload_n 2, 1) := by decide +kernel
theorem dX7_hangersOnChildren_5 : decode cX7_hangersOnChildren 5 = .ok (.aload_n 0, 1) := by decide +kernel
theorem dX7_hangersOnChildren_6 : decode cX7_hangersOnChildren 6 = .ok (.getfield 9, 3) := by decide +kernel
theorem dX7_hangersOnChildren_9 : decode cX7_hangersOnChildren 9 = .ok (.if_icmp .ge 29, 3) := by decide +kernel
theorem dX7_hangersOnChildren_12 : decode cX7_hangersOnChildren 12 = .ok (.aload_n 0, 1) := by decide +kernel
theorem dX7_hangersOnChildren_13 : decode cX7_hangersOnChildren 13 = .ok (.iload_n 2, 1) := by decide +kernel
theorem dX7_hangersOnChildren_14 : decode cX7_hangersOnChildren 14 = .ok (.iconst 3, 1) := by decide +kernel
theorem dX7_hangersOnChildren_15 : decode cX7_hangersOnChildren 15 = .ok (.invokevirtual 87, 3) := by decide +kernel
theorem dX7_hangersOnChildren_18 : decode cX7_hangersOnChildren 18 = .ok (.ifCond .eq 14, 3) := by decide +kernel
theorem dX7_hangersOnChildren_21 : decode cX7_hangersOnChildren 21 = .ok (.iload_n 1, 1) := by decide +kernel
theorem dX7_hangersOnChildren_22 : decode cX7_hangersOnChildren 22 = .ok (.aload_n 0, 1) := by decide +kernel
theorem dX7_hangersOnChildren_23 : decode cX7_hangersOnChildren 23 = .ok (.iload_n 2, 1) := by decide +kernel
theorem dX7_hangersOnChildren_24 : decode cX7_hangersOnChildren 24 = .ok (.invokevirtual 100, 3) := by decide +kernel
theorem dX7_hangersOnChildren_27 : decode cX7_hangersOnChildren 27 = .ok (.invokestatic 94, 3) := by decide +kernel
theorem dX7_hangersOnChildren_30 : decode cX7_hangersOnChildren 30 = .ok (.iadd, 1) := by decide +kernel
theorem dX7_hangersOnChildren_31 : decode cX7_hangersOnChildren 31 = .ok (.istore_n 1, 1) := by decide +kernel
theorem dX7_hangersOnChildren_32 : decode cX7_hangersOnChildren 32 = .ok (.iinc 2 1, 3) := by decide +kernel
theorem dX7_hangersOnChildren_35 : decode cX7_hangersOnChildren 35 = .ok (.goto (-31), 3) := by decide +kernel
theorem dX7_hangersOnChildren_38 : decode cX7_hangersOnChildren 38 = .ok (.iload_n 1, 1) := by decide +kernel
theorem dX7_hangersOnChildren_39 : decode cX7_hangersOnChildren 39 = .ok (.ireturn, 1) := by decide +kernel
theorem dX7_chain_0 : decode cX7_chain 0 = .ok (.iconst 0, 1) := by decide +kernel
theorem dX7_chain_1 : decode cX7_chain 1 = .ok (.istore_n 2, 1) := by decide +kernel
theorem dX7_chain_2 : decode cX7_chain 2 = .ok (.iload_n 1, 1) := by decide +kernel
theorem dX7_chain_3 : decode cX7_chain 3 = .ok (.istore_n 3, 1) := by decide +kernel
theorem dX7_chain_4 : decode cX7_chain 4 = .ok (.iconst 0, 1) := by decide +kernel
theorem dX7_chain_5 : decode cX7_chain 5 = .ok (.istore 4, 2) := by decide +kernel
theorem dX7_chain_7 : decode cX7_chain 7 = .ok (.iload 4, 2) := by decide +kernel
theorem dX7_chain_9 : decode cX7_chain 9 = .ok (.bipush 7, 2) := by decide +kernel
theorem dX7_chain_11 : decode cX7_chain 11 = .ok (.if_icmp .ge 30, 3) := by decide +kernel
theorem dX7_chain_14 : decode cX7_chain 14 = .ok (.aload_n 0, 1) := by decide +kernel
theorem dX7_chain_15 : decode cX7_chain 15 = .ok (.iload_n 3, 1) := by decide +kernel
theorem dX7_chain_16 : decode cX7_chain 16 = .ok (.invokevirtual 78, 3) := by decide +kernel
theorem dX7_chain_19 : decode cX7_chain 19 = .ok (.ifCond .eq 22, 3) := by decide +kernel
theorem dX7_chain_22 : decode cX7_chain 22 = .ok (.iload_n 2, 1) := by decide +kernel
theorem dX7_chain_23 : decode cX7_chain 23 = .ok (.iconst 1, 1) := by decide +kernel
theorem dX7_chain_24 : decode cX7_chain 24 = .ok (.iload_n 3, 1) := by decide +kernel
theorem dX7_chain_25 : decode cX7_chain 25 = .ok (.ishl, 1) := by decide +kernel
theorem dX7_chain_26 : decode cX7_chain 26 = .ok (.ior, 1) := by decide +kernel
theorem dX7_chain_27 : decode cX7_chain 27 = .ok (.istore_n 2, 1) := by decide +kernel
theorem dX7_chain_28 : decode cX7_chain 28 = .ok (.aload_n 0, 1) := by decide +kernel
theorem dX7_chain_29 : decode cX7_chain 29 = .ok (.getfield 34, 3) := by decide +kernel
theorem dX7_chain_32 : decode cX7_chain 32 = .ok (.iload_n 3, 1) := by decide +kernel
theorem dX7_chain_33 : decode cX7_chain 33 = .ok (.iaload, 1) := by decide +kernel
theorem dX7_chain_34 : decode cX7_chain 34 = .ok (.istore_n 3, 1) := by decide +kernel
theorem dX7_chain_35 : decode cX7_chain 35 = .ok (.iinc 4 1, 3) := by decide +kernel
theorem dX7_chain_38 : decode cX7_chain 38 = .ok (.goto (-31), 3) := by decide +kernel
theorem dX7_chain_41 : decode cX7_chain 41 = .ok (.iload_n 2, 1) := by decide +kernel
theorem dX7_chain_42 : decode cX7_chain 42 = .ok (.ireturn, 1) := by decide +kernel
theorem dX7_depth_0 : decode cX7_depth 0 = .ok (.aload_n 0, 1) := by decide +kernel
theorem dX7_depth_1 : decode cX7_depth 1 = .ok (.iload_n 1, 1) := by decide +kernel
theorem dX7_depth_2 : decode cX7_depth 2 = .ok (.invokevirtual 103, 3) := by decide +kernel
theorem dX7_depth_5 : decode cX7_depth 5 = .ok (.invokestatic 94, 3) := by decide +kernel
theorem dX7_depth_8 : decode cX7_depth 8 = .ok (.ireturn, 1) := by decide +kernel
theorem dX7_deepest_0 : decode cX7_deepest 0 = .ok (.iconst 0, 1) := by decide +kernel
theorem dX7_deepest_1 : decode cX7_deepest 1 = .ok (.istore_n 1, 1) := by decide +kernel
theorem dX7_deepest_2 : decode cX7_deepest 2 = .ok (.iconst 0, 1) := by decide +kernel
theorem dX7_deepest_3 : decode cX7_deepest 3 = .ok (.istore_n 2, 1) := by decide +kernel
theorem dX7_deepest_4 : decode cX7_deepest 4 = .ok (.iload_n 2, 1) := by decide +kernel
theorem dX7_deepest_5 : decode cX7_deepest 5 = .ok (.aload_n 0, 1) := by decide +kernel
theorem dX7_deepest_6 : decode cX7_deepest 6 = .ok (.getfield 9, 3) := by decide +kernel
theorem dX7_deepest_9 : decode cX7_deepest 9 = .ok (.if_icmp .ge 22, 3) := by decide +kernel
theorem dX7_deepest_12 : decode cX7_deepest 12 = .ok (.iload_n 1, 1) := by decide +kernel
theorem dX7_deepest_13 : decode cX7_deepest 13 = .ok (.aload_n 0, 1) := by decide +kernel
theorem dX7_deepest_14 : decode cX7_deepest 14 = .ok (.iload_n 2, 1) := by decide +kernel
theorem dX7_deepest_15 : decode cX7_deepest 15 = .ok (.invokevirtual 103, 3) := by decide +kernel
theorem dX7_deepest_18 : decode cX7_deepest 18 = .ok (.invokestatic 94, 3) := by decide +kernel
theorem dX7_deepest_21 : decode cX7_deepest 21 = .ok (.invokestatic 106, 3) := by decide +kernel
theorem dX7_deepest_24 : decode cX7_deepest 24 = .ok (.istore_n 1, 1) := by decide +kernel
theorem dX7_deepest_25 : decode cX7_deepest 25 = .ok (.iinc 2 1, 3) := by decide +kernel
theorem dX7_deepest_28 : decode cX7_deepest 28 = .ok (.goto (-24), 3) := by decide +kernel
theorem dX7_deepest_31 : decode cX7_deepest 31 = .ok (.iload_n 1, 1) := by decide +kernel
theorem dX7_deepest_32 : decode cX7_deepest 32 = .ok (.ireturn, 1) := by decide +kernel
theorem dX7_glovedCount_0 : decode cX7_glovedCount 0 = .ok (.iconst 0, 1) := by decide +kernel
theorem dX7_glovedCount_1 : decode cX7_glovedCount 1 = .ok (.istore_n 1, 1) := by decide +kernel
theorem dX7_glovedCount_2 : decode cX7_glovedCount 2 = .ok (.iconst 0, 1) := by decide +kernel
theorem dX7_glovedCount_3 : decode cX7_glovedCount 3 = .ok (.istore_n 2, 1) := by decide +kernel
theorem dX7_glovedCount_4 : decode cX7_glovedCount 4 = .ok (.iload_n 2, 1) := by decide +kernel
theorem dX7_glovedCount_5 : decode cX7_glovedCount 5 = .ok (.aload_n 0, 1) := by decide +kernel
theorem dX7_glovedCount_6 : decode cX7_glovedCount 6 = .ok (.getfield 9, 3) := by decide +kernel
theorem dX7_glovedCount_9 : decode cX7_glovedCount 9 = .ok (.if_icmp .ge 21, 3) := by decide +kernel
theorem dX7_glovedCount_12 : decode cX7_glovedCount 12 = .ok (.aload_n 0, 1) := by decide +kernel
theorem dX7_glovedCount_13 : decode cX7_glovedCount 13 = .ok (.iload_n 2, 1) := by decide +kernel
theorem dX7_glovedCount_14 : decode cX7_glovedCount 14 = .ok (.iconst 1, 1) := by decide +kernel
theorem dX7_glovedCount_15 : decode cX7_glovedCount 15 = .ok (.invokevirtual 87, 3) := by decide +kernel
theorem dX7_glovedCount_18 : decode cX7_glovedCount 18 = .ok (.ifCond .eq 6, 3) := by decide +kernel
theorem dX7_glovedCount_21 : decode cX7_glovedCount 21 = .ok (.iinc 1 1, 3) := by decide +kernel
theorem dX7_glovedCount_24 : decode cX7_glovedCount 24 = .ok (.iinc 2 1, 3) := by decide +kernel
theorem dX7_glovedCount_27 : decode cX7_glovedCount 27 = .ok (.goto (-23), 3) := by decide +kernel
theorem dX7_glovedCount_30 : decode cX7_glovedCount 30 = .ok (.iload_n 1, 1) := by decide +kernel
theorem dX7_glovedCount_31 : decode cX7_glovedCount 31 = .ok (.ireturn, 1) := by decide +kernel
theorem dX7_sight_0 : decode cX7_sight 0 = .ok (.aload_n 0, 1) := by decide +kernel
theorem dX7_sight_1 : decode cX7_sight 1 = .ok (.iload_n 1, 1) := by decide +kernel
theorem dX7_sight_2 : decode cX7_sight 2 = .ok (.iconst 4, 1) := by decide +kernel
theorem dX7_sight_3 : decode cX7_sight 3 = .ok (.invokevirtual 87, 3) := by decide +kernel
theorem dX7_sight_6 : decode cX7_sight 6 = .ok (.ifCond .eq 10, 3) := by decide +kernel
theorem dX7_sight_9 : decode cX7_sight 9 = .ok (.aload_n 0, 1) := by decide +kernel
theorem dX7_sight_10 : decode cX7_sight 10 = .ok (.invokevirtual 112, 3) := by decide +kernel
theorem dX7_sight_13 : decode cX7_sight 13 = .ok (.goto 7, 3) := by decide +kernel
theorem dX7_sight_16 : decode cX7_sight 16 = .ok (.aload_n 0, 1) := by decide +kernel
theorem dX7_sight_17 : decode cX7_sight 17 = .ok (.invokevirtual 115, 3) := by decide +kernel
theorem dX7_sight_20 : decode cX7_sight 20 = .ok (.ireturn, 1) := by decide +kernel
theorem dX7_sightDue_0 : decode cX7_sightDue 0 = .ok (.aload_n 0, 1) := by decide +kernel
theorem dX7_sightDue_1 : decode cX7_sightDue 1 = .ok (.iload_n 1, 1) := by decide +kernel
theorem dX7_sightDue_2 : decode cX7_sightDue 2 = .ok (.invokevirtual 71, 3) := by decide +kernel
theorem dX7_sightDue_5 : decode cX7_sightDue 5 = .ok (.ifCond .eq 12, 3) := by decide +kernel
theorem dX7_sightDue_8 : decode cX7_sightDue 8 = .ok (.aload_n 0, 1) := by decide +kernel
theorem dX7_sightDue_9 : decode cX7_sightDue 9 = .ok (.iload_n 1, 1) := by decide +kernel
theorem dX7_sightDue_10 : decode cX7_sightDue 10 = .ok (.iconst 3, 1) := by decide +kernel
theorem dX7_sightDue_11 : decode cX7_sightDue 11 = .ok (.invokevirtual 87, 3) := by decide +kernel
theorem dX7_sightDue_14 : decode cX7_sightDue 14 = .ok (.ifCond .eq 5, 3) := by decide +kernel
theorem dX7_sightDue_17 : decode cX7_sightDue 17 = .ok (.iconst 1, 1) := by decide +kernel
theorem dX7_sightDue_18 : decode cX7_sightDue 18 = .ok (.ireturn, 1) := by decide +kernel
theorem dX7_sightDue_19 : decode cX7_sightDue 19 = .ok (.aload_n 0, 1) := by decide +kernel
theorem dX7_sightDue_20 : decode cX7_sightDue 20 = .ok (.iload_n 1, 1) := by decide +kernel
theorem dX7_sightDue_21 : decode cX7_sightDue 21 = .ok (.iconst 2, 1) := by decide +kernel
theorem dX7_sightDue_22 : decode cX7_sightDue 22 = .ok (.invokevirtual 87, 3) := by decide +kernel
theorem dX7_sightDue_25 : decode cX7_sightDue 25 = .ok (.ifCond .eq 14, 3) := by decide +kernel
theorem dX7_sightDue_28 : decode cX7_sightDue 28 = .ok (.aload_n 0, 1) := by decide +kernel
theorem dX7_sightDue_29 : decode cX7_sightDue 29 = .ok (.getfield 25, 3) := by decide +kernel
theorem dX7_sightDue_32 : decode cX7_sightDue 32 = .ok (.iload_n 1, 1) := by decide +kernel
theorem dX7_sightDue_33 : decode cX7_sightDue 33 = .ok (.iaload, 1) := by decide +kernel
theorem dX7_sightDue_34 : decode cX7_sightDue 34 = .ok (.iconst 1, 1) := by decide +kernel
theorem dX7_sightDue_35 : decode cX7_sightDue 35 = .ok (.iadd, 1) := by decide +kernel
theorem dX7_sightDue_36 : decode cX7_sightDue 36 = .ok (.goto 9, 3) := by decide +kernel
theorem dX7_sightDue_39 : decode cX7_sightDue 39 = .ok (.aload_n 0, 1) := by decide +kernel
theorem dX7_sightDue_40 : decode cX7_sightDue 40 = .ok (.getfield 25, 3) := by decide +kernel
theorem dX7_sightDue_43 : decode cX7_sightDue 43 = .ok (.iload_n 1, 1) := by decide +kernel
theorem dX7_sightDue_44 : decode cX7_sightDue 44 = .ok (.iaload, 1) := by decide +kernel
theorem dX7_sightDue_45 : decode cX7_sightDue 45 = .ok (.ireturn, 1) := by decide +kernel
theorem dX7_isReady_0 : decode cX7_isReady 0 = .ok (.aload_n 0, 1) := by decide +kernel
theorem dX7_isReady_1 : decode cX7_isReady 1 = .ok (.iload_n 1, 1) := by decide +kernel
theorem dX7_isReady_2 : decode cX7_isReady 2 = .ok (.iconst 3, 1) := by decide +kernel
theorem dX7_isReady_3 : decode cX7_isReady 3 = .ok (.invokevirtual 87, 3) := by decide +kernel
theorem dX7_isReady_6 : decode cX7_isReady 6 = .ok (.ifCond .ne 14, 3) := by decide +kernel
theorem dX7_isReady_9 : decode cX7_isReady 9 = .ok (.aload_n 0, 1) := by decide +kernel
theorem dX7_isReady_10 : decode cX7_isReady 10 = .ok (.iload_n 1, 1) := by decide +kernel
theorem dX7_isReady_11 : decode cX7_isReady 11 = .ok (.invokevirtual 118, 3) := by decide +kernel
theorem dX7_isReady_14 : decode cX7_isReady 14 = .ok (.sipush 365, 3) := by decide +kernel
theorem dX7_isReady_17 : decode cX7_isReady 17 = .ok (.if_icmp .lt 7, 3) := by decide +kernel
theorem dX7_isReady_20 : decode cX7_isReady 20 = .ok (.iconst 1, 1) := by decide +kernel
theorem dX7_isReady_21 : decode cX7_isReady 21 = .ok (.goto 4, 3) := by decide +kernel
theorem dX7_isReady_24 : decode cX7_isReady 24 = .ok (.iconst 0, 1) := by decide +kernel
theorem dX7_isReady_25 : decode cX7_isReady 25 = .ok (.ireturn, 1) := by decide +kernel
theorem dX7_isAmused_0 : decode cX7_isAmused 0 = .ok (.aload_n 0, 1) := by decide +kernel
theorem dX7_isAmused_1 : decode cX7_isAmused 1 = .ok (.iload_n 1, 1) := by decide +kernel
theorem dX7_isAmused_2 : decode cX7_isAmused 2 = .ok (.invokevirtual 78, 3) := by decide +kernel
theorem dX7_isAmused_5 : decode cX7_isAmused 5 = .ok (.ifCond .eq 16, 3) := by decide +kernel
theorem dX7_isAmused_8 : decode cX7_isAmused 8 = .ok (.aload_n 0, 1) := by decide +kernel
theorem dX7_isAmused_9 : decode cX7_isAmused 9 = .ok (.iload_n 1, 1) := by decide +kernel
theorem dX7_isAmused_10 : decode cX7_isAmused 10 = .ok (.iconst 3, 1) := by decide +kernel
theorem dX7_isAmused_11 : decode cX7_isAmused 11 = .ok (.invokevirtual 87, 3) := by decide +kernel
theorem dX7_isAmused_14 : decode cX7_isAmused 14 = .ok (.ifCond .ne 7, 3) := by decide +kernel
theorem dX7_isAmused_17 : decode cX7_isAmused 17 = .ok (.iconst 1, 1) := by decide +kernel
theorem dX7_isAmused_18 : decode cX7_isAmused 18 = .ok (.goto 4, 3) := by decide +kernel
theorem dX7_isAmused_21 : decode cX7_isAmused 21 = .ok (.iconst 0, 1) := by decide +kernel
theorem dX7_isAmused_22 : decode cX7_isAmused 22 = .ok (.istore_n 2, 1) := by decide +kernel
theorem dX7_isAmused_23 : decode cX7_isAmused 23 = .ok (.aload_n 0, 1) := by decide +kernel
theorem dX7_isAmused_24 : decode cX7_isAmused 24 = .ok (.iload_n 1, 1) := by decide +kernel
theorem dX7_isAmused_25 : decode cX7_isAmused 25 = .ok (.invokevirtual 71, 3) := by decide +kernel
theorem dX7_isAmused_28 : decode cX7_isAmused 28 = .ok (.ifCond .eq 32, 3) := by decide +kernel
theorem dX7_isAmused_31 : decode cX7_isAmused 31 = .ok (.iload_n 2, 1) := by decide +kernel
theorem dX7_isAmused_32 : decode cX7_isAmused 32 = .ok (.ifCond .ne 28, 3) := by decide +kernel
theorem dX7_isAmused_35 : decode cX7_isAmused 35 = .ok (.aload_n 0, 1) := by decide +kernel
theorem dX7_isAmused_36 : decode cX7_isAmused 36 = .ok (.iload_n 1, 1) := by decide +kernel
theorem dX7_isAmused_37 : decode cX7_isAmused 37 = .ok (.invokevirtual 121, 3) := by decide +kernel
theorem dX7_isAmused_40 : decode cX7_isAmused 40 = .ok (.ifCond .eq 20, 3) := by decide +kernel
theorem dX7_isAmused_43 : decode cX7_isAmused 43 = .ok (.aload_n 0, 1) := by decide +kernel
theorem dX7_isAmused_44 : decode cX7_isAmused 44 = .ok (.iload_n 1, 1) := by decide +kernel
theorem dX7_isAmused_45 : decode cX7_isAmused 45 = .ok (.invokevirtual 124, 3) := by decide +kernel
theorem dX7_isAmused_48 : decode cX7_isAmused 48 = .ok (.aload_n 0, 1) := by decide +kernel
theorem dX7_isAmused_49 : decode cX7_isAmused 49 = .ok (.iload_n 1, 1) := by decide +kernel
theorem dX7_isAmused_50 : decode cX7_isAmused 50 = .ok (.invokevirtual 127, 3) := by decide +kernel
theorem dX7_isAmused_53 : decode cX7_isAmused 53 = .ok (.if_icmp .lt 7, 3) := by decide +kernel
theorem dX7_isAmused_56 : decode cX7_isAmused 56 = .ok (.iconst 1, 1) := by decide +kernel
theorem dX7_isAmused_57 : decode cX7_isAmused 57 = .ok (.goto 4, 3) := by decide +kernel
theorem dX7_isAmused_60 : decode cX7_isAmused 60 = .ok (.iconst 0, 1) := by decide +kernel
theorem dX7_isAmused_61 : decode cX7_isAmused 61 = .ok (.ireturn, 1) := by decide +kernel
theorem dX7_freeOthers_0 : decode cX7_freeOthers 0 = .ok (.aload_n 0, 1) := by decide +kernel
theorem dX7_freeOthers_1 : decode cX7_freeOthers 1 = .ok (.getfield 9, 3) := by decide +kernel
theorem dX7_freeOthers_4 : decode cX7_freeOthers 4 = .ok (.aload_n 0, 1) := by decide +kernel
theorem dX7_freeOthers_5 : decode cX7_freeOthers 5 = .ok (.invokevirtual 115, 3) := by decide +kernel
theorem dX7_freeOthers_8 : decode cX7_freeOthers 8 = .ok (.isub, 1) := by decide +kernel
theorem dX7_freeOthers_9 : decode cX7_freeOthers 9 = .ok (.iconst 1, 1) := by decide +kernel
theorem dX7_freeOthers_10 : decode cX7_freeOthers 10 = .ok (.isub, 1) := by decide +kernel
theorem dX7_freeOthers_11 : decode cX7_freeOthers 11 = .ok (.ireturn, 1) := by decide +kernel
theorem dX7_touches_0 : decode cX7_touches 0 = .ok (.iconst 0, 1) := by decide +kernel
theorem dX7_touches_1 : decode cX7_touches 1 = .ok (.istore_n 1, 1) := by decide +kernel
theorem dX7_touches_2 : decode cX7_touches 2 = .ok (.iconst 0, 1) := by decide +kernel
theorem dX7_touches_3 : decode cX7_touches 3 = .ok (.istore_n 2, 1) := by decide +kernel
theorem dX7_touches_4 : decode cX7_touches 4 = .ok (.iload_n 2, 1) := by decide +kernel
theorem dX7_touches_5 : decode cX7_touches 5 = .ok (.aload_n 0, 1) := by decide +kernel
theorem dX7_touches_6 : decode cX7_touches 6 = .ok (.getfield 9, 3) := by decide +kernel
theorem dX7_touches_9 : decode cX7_touches 9 = .ok (.if_icmp .ge 34, 3) := by decide +kernel
theorem dX7_touches_12 : decode cX7_touches 12 = .ok (.aload_n 0, 1) := by decide +kernel
theorem dX7_touches_13 : decode cX7_touches 13 = .ok (.iload_n 2, 1) := by decide +kernel
theorem dX7_touches_14 : decode cX7_touches 14 = .ok (.invokevirtual 78, 3) := by decide +kernel
theorem dX7_touches_17 : decode cX7_touches 17 = .ok (.ifCond .ne 20, 3) := by decide +kernel
theorem dX7_touches_20 : decode cX7_touches 20 = .ok (.iload_n 1, 1) := by decide +kernel
theorem dX7_touches_21 : decode cX7_touches 21 = .ok (.aload_n 0, 1) := by decide +kernel
theorem dX7_touches_22 : decode cX7_touches 22 = .ok (.iload_n 2, 1) := by decide +kernel
theorem dX7_touches_23 : decode cX7_touches 23 = .ok (.iconst 0, 1) := by decide +kernel
theorem dX7_touches_24 : decode cX7_touches 24 = .ok (.invokevirtual 130, 3) := by decide +kernel
theorem dX7_touches_27 : decode cX7_touches 27 = .ok (.ifCond .eq 7, 3) := by decide +kernel
theorem dX7_touches_30 : decode cX7_touches 30 = .ok (.iconst 2, 1) := by decide +kernel
theorem dX7_touches_31 : decode cX7_touches 31 = .ok (.goto 4, 3) := by decide +kernel
theorem dX7_touches_34 : decode cX7_touches 34 = .ok (.iconst 1, 1) := by decide +kernel
theorem dX7_touches_35 : decode cX7_touches 35 = .ok (.iadd, 1) := by decide +kernel
theorem dX7_touches_36 : decode cX7_touches 36 = .ok (.istore_n 1, 1) := by decide +kernel
theorem dX7_touches_37 : decode cX7_touches 37 = .ok (.iinc 2 1, 3) := by decide +kernel
theorem dX7_touches_40 : decode cX7_touches 40 = .ok (.goto (-36), 3) := by decide +kernel
theorem dX7_touches_43 : decode cX7_touches 43 = .ok (.iload_n 1, 1) := by decide +kernel
theorem dX7_touches_44 : decode cX7_touches 44 = .ok (.aload_n 0, 1) := by decide +kernel
theorem dX7_touches_45 : decode cX7_touches 45 = .ok (.invokevirtual 115, 3) := by decide +kernel
theorem dX7_touches_48 : decode cX7_touches 48 = .ok (.iconst 1, 1) := by decide +kernel
theorem dX7_touches_49 : decode cX7_touches 49 = .ok (.iadd, 1) := by decide +kernel
theorem dX7_touches_50 : decode cX7_touches 50 = .ok (.imul, 1) := by decide +kernel
theorem dX7_touches_51 : decode cX7_touches 51 = .ok (.ireturn, 1) := by decide +kernel
theorem dX7_doTouch_0 : decode cX7_doTouch 0 = .ok (.aload_n 0, 1) := by decide +kernel
theorem dX7_doTouch_1 : decode cX7_doTouch 1 = .ok (.invokevirtual 115, 3) := by decide +kernel
theorem dX7_doTouch_4 : decode cX7_doTouch 4 = .ok (.iconst 1, 1) := by decide +kernel
theorem dX7_doTouch_5 : decode cX7_doTouch 5 = .ok (.iadd, 1) := by decide +kernel
theorem dX7_doTouch_6 : decode cX7_doTouch 6 = .ok (.istore_n 2, 1) := by decide +kernel
theorem dX7_doTouch_7 : decode cX7_doTouch 7 = .ok (.iload_n 1, 1) := by decide +kernel
theorem dX7_doTouch_8 : decode cX7_doTouch 8 = .ok (.istore_n 3, 1) := by decide +kernel
theorem dX7_doTouch_9 : decode cX7_doTouch 9 = .ok (.iconst 0, 1) := by decide +kernel
theorem dX7_doTouch_10 : decode cX7_doTouch 10 = .ok (.istore 4, 2) := by decide +kernel
theorem dX7_doTouch_12 : decode cX7_doTouch 12 = .ok (.iload 4, 2) := by decide +kernel
theorem dX7_doTouch_14 : decode cX7_doTouch 14 = .ok (.aload_n 0, 1) := by decide +kernel
theorem dX7_doTouch_15 : decode cX7_doTouch 15 = .ok (.getfield 9, 3) := by decide +kernel
theorem dX7_doTouch_18 : decode cX7_doTouch 18 = .ok (.if_icmp .ge 71, 3) := by decide +kernel
theorem dX7_doTouch_21 : decode cX7_doTouch 21 = .ok (.iconst 0, 1) := by decide +kernel
theorem dX7_doTouch_22 : decode cX7_doTouch 22 = .ok (.istore 5, 2) := by decide +kernel
theorem dX7_doTouch_24 : decode cX7_doTouch 24 = .ok (.iload 5, 2) := by decide +kernel
theorem dX7_doTouch_26 : decode cX7_doTouch 26 = .ok (.iconst 2, 1) := by decide +kernel
theorem dX7_doTouch_27 : decode cX7_doTouch 27 = .ok (.if_icmp .ge 56, 3) := by decide +kernel
theorem dX7_doTouch_30 : decode cX7_doTouch 30 = .ok (.aload_n 0, 1) := by decide +kernel
theorem dX7_doTouch_31 : decode cX7_doTouch 31 = .ok (.iload 4, 2) := by decide +kernel
theorem dX7_doTouch_33 : decode cX7_doTouch 33 = .ok (.invokevirtual 78, 3) := by decide +kernel
theorem dX7_doTouch_36 : decode cX7_doTouch 36 = .ok (.ifCond .ne 41, 3) := by decide +kernel
theorem dX7_doTouch_39 : decode cX7_doTouch 39 = .ok (.aload_n 0, 1) := by decide +kernel
theorem dX7_doTouch_40 : decode cX7_doTouch 40 = .ok (.iload 4, 2) := by decide +kernel
theorem dX7_doTouch_42 : decode cX7_doTouch 42 = .ok (.iload 5, 2) := by decide +kernel
theorem dX7_doTouch_44 : decode cX7_doTouch 44 = .ok (.invokevirtual 130, 3) := by decide +kernel
theorem dX7_doTouch_47 : decode cX7_doTouch 47 = .ok (.ifCond .ne 6, 3) := by decide +kernel
theorem dX7_doTouch_50 : decode cX7_doTouch 50 = .ok (.goto 27, 3) := by decide +kernel
theorem dX7_doTouch_53 : decode cX7_doTouch 53 = .ok (.iload_n 3, 1) := by decide +kernel
theorem dX7_doTouch_54 : decode cX7_doTouch 54 = .ok (.iload_n 2, 1) := by decide +kernel
theorem dX7_doTouch_55 : decode cX7_doTouch 55 = .ok (.if_icmp .ge 18, 3) := by decide +kernel
theorem dX7_doTouch_58 : decode cX7_doTouch 58 = .ok (.aload_n 0, 1) := by decide +kernel
theorem dX7_doTouch_59 : decode cX7_doTouch 59 = .ok (.iconst 0, 1) := by decide +kernel
theorem dX7_doTouch_60 : decode cX7_doTouch 60 = .ok (.iload 4, 2) := by decide +kernel
theorem dX7_doTouch_62 : decode cX7_doTouch 62 = .ok (.iload 5, 2) := by decide +kernel
theorem dX7_doTouch_64 : decode cX7_doTouch 64 = .ok (.aload_n 0, 1) := by decide +kernel
theorem dX7_doTouch_65 : decode cX7_doTouch 65 = .ok (.iload_n 3, 1) := by decide +kernel
theorem dX7_doTouch_66 : decode cX7_doTouch 66 = .ok (.invokevirtual 133, 3) := by decide +kernel
theorem dX7_doTouch_69 : decode cX7_doTouch 69 = .ok (.invokevirtual 136, 3) := by decide +kernel
theorem dX7_doTouch_72 : decode cX7_doTouch 72 = .ok (.return_, 1) := by decide +kernel
theorem dX7_doTouch_73 : decode cX7_doTouch 73 = .ok (.iload_n 3, 1) := by decide +kernel
theorem dX7_doTouch_74 : decode cX7_doTouch 74 = .ok (.iload_n 2, 1) := by decide +kernel
theorem dX7_doTouch_75 : decode cX7_doTouch 75 = .ok (.isub, 1) := by decide +kernel
theorem dX7_doTouch_76 : decode cX7_doTouch 76 = .ok (.istore_n 3, 1) := by decide +kernel
theorem dX7_doTouch_77 : decode cX7_doTouch 77 = .ok (.iinc 5 1, 3) := by decide +kernel
theorem dX7_doTouch_80 : decode cX7_doTouch 80 = .ok (.goto (-56), 3) := by decide +kernel
theorem dX7_doTouch_83 : decode cX7_doTouch 83 = .ok (.iinc 4 1, 3) := by decide +kernel
theorem dX7_doTouch_86 : decode cX7_doTouch 86 = .ok (.goto (-74), 3) := by decide +kernel
theorem dX7_doTouch_89 : decode cX7_doTouch 89 = .ok (.return_, 1) := by decide +kernel
theorem dX7_targetAt_0 : decode cX7_targetAt 0 = .ok (.iload_n 1, 1) := by decide +kernel
theorem dX7_targetAt_1 : decode cX7_targetAt 1 = .ok (.istore_n 2, 1) := by decide +kernel
theorem dX7_targetAt_2 : decode cX7_targetAt 2 = .ok (.iconst 0, 1) := by decide +kernel
theorem dX7_targetAt_3 : decode cX7_targetAt 3 = .ok (.istore_n 3, 1) := by decide +kernel
theorem dX7_targetAt_4 : decode cX7_targetAt 4 = .ok (.iload_n 3, 1) := by decide +kernel
theorem dX7_targetAt_5 : decode cX7_targetAt 5 = .ok (.aload_n 0, 1) := by decide +kernel
theorem dX7_targetAt_6 : decode cX7_targetAt 6 = .ok (.getfield 9, 3) := by decide +kernel
theorem dX7_targetAt_9 : decode cX7_targetAt 9 = .ok (.if_icmp .ge 26, 3) := by decide +kernel
theorem dX7_targetAt_12 : decode cX7_targetAt 12 = .ok (.aload_n 0, 1) := by decide +kernel
theorem dX7_targetAt_13 : decode cX7_targetAt 13 = .ok (.iload_n 3, 1) := by decide +kernel
theorem dX7_targetAt_14 : decode cX7_targetAt 14 = .ok (.invokevirtual 78, 3) := by decide +kernel
theorem dX7_targetAt_17 : decode cX7_targetAt 17 = .ok (.ifCond .eq 12, 3) := by decide +kernel
theorem dX7_targetAt_20 : decode cX7_targetAt 20 = .ok (.iload_n 2, 1) := by decide +kernel
theorem dX7_targetAt_21 : decode cX7_targetAt 21 = .ok (.ifCond .ne 5, 3) := by decide +kernel
theorem dX7_targetAt_24 : decode cX7_targetAt 24 = .ok (.iload_n 3, 1) := by decide +kernel
theorem dX7_targetAt_25 : decode cX7_targetAt 25 = .ok (.ireturn, 1) := by decide +kernel
theorem dX7_targetAt_26 : decode cX7_targetAt 26 = .ok (.iinc 2 (-1), 3) := by decide +kernel
theorem dX7_targetAt_29 : decode cX7_targetAt 29 = .ok (.iinc 3 1, 3) := by decide +kernel
theorem dX7_targetAt_32 : decode cX7_targetAt 32 = .ok (.goto (-28), 3) := by decide +kernel
theorem dX7_targetAt_35 : decode cX7_targetAt 35 = .ok (.bipush 9, 2) := by decide +kernel
theorem dX7_targetAt_37 : decode cX7_targetAt 37 = .ok (.ireturn, 1) := by decide +kernel
theorem dX8_init_0 : decode cX8_init 0 = .ok (.aload_n 0, 1) := by decide +kernel
theorem dX8_init_1 : decode cX8_init 1 = .ok (.invokespecial 3, 3) := by decide +kernel
theorem dX8_init_4 : decode cX8_init 4 = .ok (.aload_n 0, 1) := by decide +kernel
theorem dX8_init_5 : decode cX8_init 5 = .ok (.bipush 6, 2) := by decide +kernel
theorem dX8_init_7 : decode cX8_init 7 = .ok (.anewarray 9, 3) := by decide +kernel
theorem dX8_init_10 : decode cX8_init 10 = .ok (.putfield 11, 3) := by decide +kernel
theorem dX8_init_13 : decode cX8_init 13 = .ok (.aload_n 0, 1) := by decide +kernel
theorem dX8_init_14 : decode cX8_init 14 = .ok (.iconst 4, 1) := by decide +kernel
theorem dX8_init_15 : decode cX8_init 15 = .ok (.anewarray 9, 3) := by decide +kernel
theorem dX8_init_18 : decode cX8_init 18 = .ok (.putfield 15, 3) := by decide +kernel
theorem dX8_init_21 : decode cX8_init 21 = .ok (.aload_n 0, 1) := by decide +kernel
theorem dX8_init_22 : decode cX8_init 22 = .ok (.new 18, 3) := by decide +kernel
theorem dX8_init_25 : decode cX8_init 25 = .ok (.dup, 1) := by decide +kernel
theorem dX8_init_26 : decode cX8_init 26 = .ok (.invokespecial 20, 3) := by decide +kernel
theorem dX8_init_29 : decode cX8_init 29 = .ok (.putfield 21, 3) := by decide +kernel
theorem dX8_init_32 : decode cX8_init 32 = .ok (.aload_n 0, 1) := by decide +kernel
theorem dX8_init_33 : decode cX8_init 33 = .ok (.iconst 3, 1) := by decide +kernel
theorem dX8_init_34 : decode cX8_init 34 = .ok (.anewarray 18, 3) := by decide +kernel
theorem dX8_init_37 : decode cX8_init 37 = .ok (.putfield 25, 3) := by decide +kernel
theorem dX8_init_40 : decode cX8_init 40 = .ok (.aload_n 0, 1) := by decide +kernel
theorem dX8_init_41 : decode cX8_init 41 = .ok (.new 29, 3) := by decide +kernel
theorem dX8_init_44 : decode cX8_init 44 = .ok (.dup, 1) := by decide +kernel
theorem dX8_init_45 : decode cX8_init 45 = .ok (.invokespecial 31, 3) := by decide +kernel
theorem dX8_init_48 : decode cX8_init 48 = .ok (.putfield 32, 3) := by decide +kernel
theorem dX8_init_51 : decode cX8_init 51 = .ok (.aload_n 0, 1) := by decide +kernel
theorem dX8_init_52 : decode cX8_init 52 = .ok (.new 36, 3) := by decide +kernel
theorem dX8_init_55 : decode cX8_init 55 = .ok (.dup, 1) := by decide +kernel
theorem dX8_init_56 : decode cX8_init 56 = .ok (.invokespecial 38, 3) := by decide +kernel
theorem dX8_init_59 : decode cX8_init 59 = .ok (.putfield 39, 3) := by decide +kernel
theorem dX8_init_62 : decode cX8_init 62 = .ok (.aload_n 0, 1) := by decide +kernel
theorem dX8_init_63 : decode cX8_init 63 = .ok (.bipush 6, 2) := by decide +kernel
theorem dX8_init_65 : decode cX8_init 65 = .ok (.newarray .int, 2) := by decide +kernel
theorem dX8_init_67 : decode cX8_init 67 = .ok (.putfield 43, 3) := by decide +kernel
theorem dX8_init_70 : decode cX8_init 70 = .ok (.aload_n 0, 1) := by decide +kernel
theorem dX8_init_71 : decode cX8_init 71 = .ok (.iconst 0, 1) := by decide +kernel
theorem dX8_init_72 : decode cX8_init 72 = .ok (.putfield 47, 3) := by decide +kernel
theorem dX8_init_75 : decode cX8_init 75 = .ok (.aload_n 0, 1) := by decide +kernel
theorem dX8_init_76 : decode cX8_init 76 = .ok (.iconst 0, 1) := by decide +kernel
theorem dX8_init_77 : decode cX8_init 77 = .ok (.putfield 51, 3) := by decide +kernel
theorem dX8_init_80 : decode cX8_init 80 = .ok (.aload_n 0, 1) := by decide +kernel
theorem dX8_init_81 : decode cX8_init 81 = .ok (.lconst 0, 1) := by decide +kernel
theorem dX8_init_82 : decode cX8_init 82 = .ok (.putfield 54, 3) := by decide +kernel
theorem dX8_init_85 : decode cX8_init 85 = .ok (.aload_n 0, 1) := by decide +kernel
theorem dX8_init_86 : decode cX8_init 86 = .ok (.lconst 1, 1) := by decide +kernel
theorem dX8_init_87 : decode cX8_init 87 = .ok (.putfield 58, 3) := by decide +kernel
theorem dX8_init_90 : decode cX8_init 90 = .ok (.iconst 0, 1) := by decide +kernel
theorem dX8_init_91 : decode cX8_init 91 = .ok (.istore_n 1, 1) := by decide +kernel
theorem dX8_init_92 : decode cX8_init 92 = .ok (.iload_n 1, 1) := by decide +kernel
theorem dX8_init_93 : decode cX8_init 93 = .ok (.bipush 6, 2) := by decide +kernel
theorem dX8_init_95 : decode cX8_init 95 = .ok (.if_icmp .ge 24, 3) := by decide +kernel
theorem dX8_init_98 : decode cX8_init 98 = .ok (.aload_n 0, 1) := by decide +kernel
theorem dX8_init_99 : decode cX8_init 99 = .ok (.getfield 11, 3) := by decide +kernel
theorem dX8_init_102 : decode cX8_init 102 = .ok (.iload_n 1, 1) := by decide +kernel
theorem dX8_init_103 : decode cX8_init 103 = .ok (.new 9, 3) := by decide +kernel
theorem dX8_init_106 : decode cX8_init 106 = .ok (.dup, 1) := by decide +kernel
theorem dX8_init_107 : decode cX8_init 107 = .ok (.bipush 40, 2) := by decide +kernel
theorem dX8_init_109 : decode cX8_init 109 = .ok (.invokespecial 61, 3) := by decide +kernel
theorem dX8_init_112 : decode cX8_init 112 = .ok (.aastore, 1) := by decide +kernel
theorem dX8_init_113 : decode cX8_init 113 = .ok (.iinc 1 1, 3) := by decide +kernel
theorem dX8_init_116 : decode cX8_init 116 = .ok (.goto (-24), 3) := by decide +kernel
theorem dX8_init_119 : decode cX8_init 119 = .ok (.iconst 0, 1) := by decide +kernel
theorem dX8_init_120 : decode cX8_init 120 = .ok (.istore_n 1, 1) := by decide +kernel
theorem dX8_init_121 : decode cX8_init 121 = .ok (.iload_n 1, 1) := by decide +kernel
theorem dX8_init_122 : decode cX8_init 122 = .ok (.iconst 4, 1) := by decide +kernel
theorem dX8_init_123 : decode cX8_init 123 = .ok (.if_icmp .ge 24, 3) := by decide +kernel
theorem dX8_init_126 : decode cX8_init 126 = .ok (.aload_n 0, 1) := by decide +kernel
theorem dX8_init_127 : decode cX8_init 127 = .ok (.getfield 15, 3) := by decide +kernel
theorem dX8_init_130 : decode cX8_init 130 = .ok (.iload_n 1, 1) := by decide +kernel
theorem dX8_init_131 : decode cX8_init 131 = .ok (.new 9, 3) := by decide +kernel
theorem dX8_init_134 : decode cX8_init 134 = .ok (.dup, 1) := by decide +kernel
theorem dX8_init_135 : decode cX8_init 135 = .ok (.bipush 60, 2) := by decide +kernel
theorem dX8_init_137 : decode cX8_init 137 = .ok (.invokespecial 61, 3) := by decide +kernel
theorem dX8_init_140 : decode cX8_init 140 = .ok (.aastore, 1) := by decide +kernel
theorem dX8_init_141 : decode cX8_init 141 = .ok (.iinc 1 1, 3) := by decide +kernel
theorem dX8_init_144 : decode cX8_init 144 = .ok (.goto (-23), 3) := by decide +kernel
theorem dX8_init_147 : decode cX8_init 147 = .ok (.iconst 0, 1) := by decide +kernel
theorem dX8_init_148 : decode cX8_init 148 = .ok (.istore_n 1, 1) := by decide +kernel
theorem dX8_init_149 : decode cX8_init 149 = .ok (.iload_n 1, 1) := by decide +kernel
theorem dX8_init_150 : decode cX8_init 150 = .ok (.iconst 3, 1) := by decide +kernel
theorem dX8_init_151 : decode cX8_init 151 = .ok (.if_icmp .ge 22, 3) := by decide +kernel
theorem dX8_init_154 : decode cX8_init 154 = .ok (.aload_n 0, 1) := by decide +kernel
theorem dX8_init_155 : decode cX8_init 155 = .ok (.getfield 25, 3) := by decide +kernel
theorem dX8_init_158 : decode cX8_init 158 = .ok (.iload_n 1, 1) := by decide +kernel
theorem dX8_init_159 : decode cX8_init 159 = .ok (.new 18, 3) := by decide +kernel
theorem dX8_init_162 : decode cX8_init 162 = .ok (.dup, 1) := by decide +kernel
theorem dX8_init_163 : decode cX8_init 163 = .ok (.invokespecial 20, 3) := by decide +kernel
theorem dX8_init_166 : decode cX8_init 166 = .ok (.aastore, 1) := by decide +kernel
theorem dX8_init_167 : decode cX8_init 167 = .ok (.iinc 1 1, 3) := by decide +kernel
theorem dX8_init_170 : decode cX8_init 170 = .ok (.goto (-21), 3) := by decide +kernel
theorem dX8_init_173 : decode cX8_init 173 = .ok (.return_, 1) := by decide +kernel
theorem dX8_row_0 : decode cX8_row 0 = .ok (.iload_n 1, 1) := by decide +kernel
theorem dX8_row_1 : decode cX8_row 1 = .ok (.invokestatic 64, 3) := by decide +kernel
theorem dX8_row_4 : decode cX8_row 4 = .ok (.ifCond .eq 9, 3) := by decide +kernel
theorem dX8_row_7 : decode cX8_row 7 = .ok (.iload_n 2, 1) := by decide +kernel
theorem dX8_row_8 : decode cX8_row 8 = .ok (.bipush 40, 2) := by decide +kernel
theorem dX8_row_10 : decode cX8_row 10 = .ok (.if_icmp .le 5, 3) := by decide +kernel
theorem dX8_row_13 : decode cX8_row 13 = .ok (.iconst (-1), 1) := by decide +kernel
theorem dX8_row_14 : decode cX8_row 14 = .ok (.ireturn, 1) := by decide +kernel
theorem dX8_row_15 : decode cX8_row 15 = .ok (.iload_n 2, 1) := by decide +kernel
theorem dX8_row_16 : decode cX8_row 16 = .ok (.ifCond .ge 9, 3) := by decide +kernel
theorem dX8_row_19 : decode cX8_row 19 = .ok (.aload_n 0, 1) := by decide +kernel
theorem dX8_row_20 : decode cX8_row 20 = .ok (.iconst 5, 1) := by decide +kernel
theorem dX8_row_21 : decode cX8_row 21 = .ok (.invokevirtual 68, 3) := by decide +kernel
theorem dX8_row_24 : decode cX8_row 24 = .ok (.ireturn, 1) := by decide +kernel
theorem dX8_row_25 : decode cX8_row 25 = .ok (.aload_n 0, 1) := by decide +kernel
theorem dX8_row_26 : decode cX8_row 26 = .ok (.getfield 11, 3) := by decide +kernel
theorem dX8_row_29 : decode cX8_row 29 = .ok (.iload_n 1, 1) := by decide +kernel
theorem dX8_row_30 : decode cX8_row 30 = .ok (.aaload, 1) := by decide +kernel
theorem dX8_row_31 : decode cX8_row 31 = .ok (.iload_n 2, 1) := by decide +kernel
theorem dX8_row_32 : decode cX8_row 32 = .ok (.iconst 0, 1) := by decide +kernel
theorem dX8_row_33 : decode cX8_row 33 = .ok (.invokevirtual 72, 3) := by decide +kernel
theorem dX8_row_36 : decode cX8_row 36 = .ok (.iload_n 2, 1) := by decide +kernel
theorem dX8_row_37 : decode cX8_row 37 = .ok (.ireturn, 1) := by decide +kernel
theorem dX8_lay_0 : decode cX8_lay 0 = .ok (.iload_n 1, 1) := by decide +kernel
theorem dX8_lay_1 : decode cX8_lay 1 = .ok (.invokestatic 64, 3) := by decide +kernel
theorem dX8_lay_4 : decode cX8_lay 4 = .ok (.ifCond .ne 5, 3) := by decide +kernel
theorem dX8_lay_7 : decode cX8_lay 7 = .ok (.iconst (-1), 1) := by decide +kernel
theorem dX8_lay_8 : decode cX8_lay 8 = .ok (.ireturn, 1) := by decide +kernel
theorem dX8_lay_9 : decode cX8_lay 9 = .ok (.aload_n 0, 1) := by decide +kernel
theorem dX8_lay_10 : decode cX8_lay 10 = .ok (.getfield 11, 3) := by decide +kernel
theorem dX8_lay_13 : decode cX8_lay 13 = .ok (.iload_n 1, 1) := by decide +kernel
theorem dX8_lay_14 : decode cX8_lay 14 = .ok (.aaload, 1) := by decide +kernel
theorem dX8_lay_15 : decode cX8_lay 15 = .ok (.invokevirtual 76, 3) := by decide +kernel
theorem dX8_lay_18 : decode cX8_lay 18 = .ok (.ifCond .eq 9, 3) := by decide +kernel
theorem dX8_lay_21 : decode cX8_lay 21 = .ok (.aload_n 0, 1) := by decide +kernel
theorem dX8_lay_22 : decode cX8_lay 22 = .ok (.iconst 1, 1) := by decide +kernel
theorem dX8_lay_23 : decode cX8_lay 23 = .ok (.invokevirtual 68, 3) := by decide +kernel
theorem dX8_lay_26 : decode cX8_lay 26 = .ok (.ireturn, 1) := by decide +kernel
theorem dX8_lay_27 : decode cX8_lay 27 = .ok (.aload_n 0, 1) := by decide +kernel
theorem dX8_lay_28 : decode cX8_lay 28 = .ok (.getfield 11, 3) := by decide +kernel
theorem dX8_lay_31 : decode cX8_lay 31 = .ok (.iload_n 1, 1) := by decide +kernel
theorem dX8_lay_32 : decode cX8_lay 32 = .ok (.aaload, 1) := by decide +kernel
theorem dX8_lay_33 : decode cX8_lay 33 = .ok (.iload_n 2, 1) := by decide +kernel
theorem dX8_lay_34 : decode cX8_lay 34 = .ok (.invokevirtual 80, 3) := by decide +kernel
theorem dX8_lay_37 : decode cX8_lay 37 = .ok (.ifCond .ne 9, 3) := by decide +kernel
theorem dX8_lay_40 : decode cX8_lay 40 = .ok (.aload_n 0, 1) := by decide +kernel
theorem dX8_lay_41 : decode cX8_lay 41 = .ok (.iconst 2, 1) := by decide +kernel
theorem dX8_lay_42 : decode cX8_lay 42 = .ok (.invokevirtual 68, 3) := by decide +kernel
theorem dX8_lay_45 : decode cX8_lay 45 = .ok (.ireturn, 1) := by decide +kernel
theorem dX8_lay_46 : decode cX8_lay 46 = .ok (.aload_n 0, 1) := by decide +kernel
theorem dX8_lay_47 : decode cX8_lay 47 = .ok (.aload_n 0, 1) := by decide +kernel
theorem dX8_lay_48 : decode cX8_lay 48 = .ok (.getfield 11, 3) := by decide +kernel
theorem dX8_lay_51 : decode cX8_lay 51 = .ok (.iload_n 1, 1) := by decide +kernel
theorem dX8_lay_52 : decode cX8_lay 52 = .ok (.aaload, 1) := by decide +kernel
theorem dX8_lay_53 : decode cX8_lay 53 = .ok (.getfield 83, 3) := by decide +kernel
theorem dX8_lay_56 : decode cX8_lay 56 = .ok (.iload_n 2, 1) := by decide +kernel
theorem dX8_lay_57 : decode cX8_lay 57 = .ok (.iaload, 1) := by decide +kernel
theorem dX8_lay_58 : decode cX8_lay 58 = .ok (.putfield 51, 3) := by decide +kernel
theorem dX8_lay_61 : decode cX8_lay 61 = .ok (.aload_n 0, 1) := by decide +kernel
theorem dX8_lay_62 : decode cX8_lay 62 = .ok (.getfield 11, 3) := by decide +kernel
theorem dX8_lay_65 : decode cX8_lay 65 = .ok (.iload_n 1, 1) := by decide +kernel
theorem dX8_lay_66 : decode cX8_lay 66 = .ok (.aaload, 1) := by decide +kernel
theorem dX8_lay_67 : decode cX8_lay 67 = .ok (.getfield 83, 3) := by decide +kernel
theorem dX8_lay_70 : decode cX8_lay 70 = .ok (.iload_n 2, 1) := by decide +kernel
theorem dX8_lay_71 : decode cX8_lay 71 = .ok (.iload_n 3, 1) := by decide +kernel
theorem dX8_lay_72 : decode cX8_lay 72 = .ok (.iastore, 1) := by decide +kernel
theorem dX8_lay_73 : decode cX8_lay 73 = .ok (.iconst 1, 1) := by decide +kernel
theorem dX8_lay_74 : decode cX8_lay 74 = .ok (.ireturn, 1) := by decide +kernel
theorem dX8_at_0 : decode cX8_at 0 = .ok (.iload_n 1, 1) := by decide +kernel
theorem dX8_at_1 : decode cX8_at 1 = .ok (.invokestatic 64, 3) := by decide +kernel
theorem dX8_at_4 : decode cX8_at 4 = .ok (.ifCond .ne 5, 3) := by decide +kernel
theorem dX8_at_7 : decode cX8_at 7 = .ok (.iconst (-1), 1) := by decide +kernel
theorem dX8_at_8 : decode cX8_at 8 = .ok (.ireturn, 1) := by decide +kernel
theorem dX8_at_9 : decode cX8_at 9 = .ok (.aload_n 0, 1) := by decide +kernel
theorem dX8_at_10 : decode cX8_at 10 = .ok (.getfield 11, 3) := by decide +kernel
theorem dX8_at_13 : decode cX8_at 13 = .ok (.iload_n 1, 1) := by decide +kernel
theorem dX8_at_14 : decode cX8_at 14 = .ok (.aaload, 1) := by decide +kernel
theorem dX8_at_15 : decode cX8_at 15 = .ok (.invokevirtual 76, 3) := by decide +kernel
theorem dX8_at_18 : decode cX8_at 18 = .ok (.ifCond .eq 9, 3) := by decide +kernel
theorem dX8_at_21 : decode cX8_at 21 = .ok (.aload_n 0, 1) := by decide +kernel
theorem dX8_at_22 : decode cX8_at 22 = .ok (.iconst 1, 1) := by decide +kernel
theorem dX8_at_23 : decode cX8_at 23 = .ok (.invokevirtual 68, 3) := by decide +kernel
theorem dX8_at_26 : decode cX8_at 26 = .ok (.ireturn, 1) := by decide +kernel
theorem dX8_at_27 : decode cX8_at 27 = .ok (.aload_n 0, 1) := by decide +kernel
theorem dX8_at_28 : decode cX8_at 28 = .ok (.getfield 11, 3) := by decide +kernel
theorem dX8_at_31 : decode cX8_at 31 = .ok (.iload_n 1, 1) := by decide +kernel
theorem dX8_at_32 : decode cX8_at 32 = .ok (.aaload, 1) := by decide +kernel
theorem dX8_at_33 : decode cX8_at 33 = .ok (.iload_n 2, 1) := by decide +kernel
theorem dX8_at_34 : decode cX8_at 34 = .ok (.invokevirtual 80, 3) := by decide +kernel
theorem dX8_at_37 : decode cX8_at 37 = .ok (.ifCond .ne 9, 3) := by decide +kernel
theorem dX8_at_40 : decode cX8_at 40 = .ok (.aload_n 0, 1) := by decide +kernel
theorem dX8_at_41 : decode cX8_at 41 = .ok (.iconst 2, 1) := by decide +kernel
theorem dX8_at_42 : decode cX8_at 42 = .ok (.invokevirtual 68, 3) := by decide +kernel
theorem dX8_at_45 : decode cX8_at 45 = .ok (.ireturn, 1) := by decide +kernel
theorem dX8_at_46 : decode cX8_at 46 = .ok (.aload_n 0, 1) := by decide +kernel
theorem dX8_at_47 : decode cX8_at 47 = .ok (.aload_n 0, 1) := by decide +kernel
theorem dX8_at_48 : decode cX8_at 48 = .ok (.getfield 11, 3) := by decide +kernel
theorem dX8_at_51 : decode cX8_at 51 = .ok (.iload_n 1, 1) := by decide +kernel
theorem dX8_at_52 : decode cX8_at 52 = .ok (.aaload, 1) := by decide +kernel
theorem dX8_at_53 : decode cX8_at 53 = .ok (.getfield 83, 3) := by decide +kernel
theorem dX8_at_56 : decode cX8_at 56 = .ok (.iload_n 2, 1) := by decide +kernel
theorem dX8_at_57 : decode cX8_at 57 = .ok (.iaload, 1) := by decide +kernel
theorem dX8_at_58 : decode cX8_at 58 = .ok (.putfield 51, 3) := by decide +kernel
theorem dX8_at_61 : decode cX8_at 61 = .ok (.iconst 1, 1) := by decide +kernel
theorem dX8_at_62 : decode cX8_at 62 = .ok (.ireturn, 1) := by decide +kernel
theorem dX8_tear_0 : decode cX8_tear 0 = .ok (.iload_n 1, 1) := by decide +kernel
theorem dX8_tear_1 : decode cX8_tear 1 = .ok (.invokestatic 64, 3) := by decide +kernel
theorem dX8_tear_4 : decode cX8_tear 4 = .ok (.ifCond .ne 5, 3) := by decide +kernel
theorem dX8_tear_7 : decode cX8_tear 7 = .ok (.iconst (-1), 1) := by decide +kernel
theorem dX8_tear_8 : decode cX8_tear 8 = .ok (.ireturn, 1) := by decide +kernel
theorem dX8_tear_9 : decode cX8_tear 9 = .ok (.aload_n 0, 1) := by decide +kernel
theorem dX8_tear_10 : decode cX8_tear 10 = .ok (.getfield 11, 3) := by decide +kernel
theorem dX8_tear_13 : decode cX8_tear 13 = .ok (.iload_n 1, 1) := by decide +kernel
theorem dX8_tear_14 : decode cX8_tear 14 = .ok (.aaload, 1) := by decide +kernel
theorem dX8_tear_15 : decode cX8_tear 15 = .ok (.invokevirtual 76, 3) := by decide +kernel
theorem dX8_tear_18 : decode cX8_tear 18 = .ok (.ifCond .eq 9, 3) := by decide +kernel
theorem dX8_tear_21 : decode cX8_tear 21 = .ok (.aload_n 0, 1) := by decide +kernel
theorem dX8_tear_22 : decode cX8_tear 22 = .ok (.iconst 1, 1) := by decide +kernel
theorem dX8_tear_23 : decode cX8_tear 23 = .ok (.invokevirtual 68, 3) := by decide +kernel
theorem dX8_tear_26 : decode cX8_tear 26 = .ok (.ireturn, 1) := by decide +kernel
theorem dX8_tear_27 : decode cX8_tear 27 = .ok (.aload_n 0, 1) := by decide +kernel
theorem dX8_tear_28 : decode cX8_tear 28 = .ok (.getfield 11, 3) := by decide +kernel
theorem dX8_tear_31 : decode cX8_tear 31 = .ok (.iload_n 1, 1) := by decide +kernel
theorem dX8_tear_32 : decode cX8_tear 32 = .ok (.aaload, 1) := by decide +kernel
theorem dX8_tear_33 : decode cX8_tear 33 = .ok (.iconst (-1), 1) := by decide +kernel
theorem dX8_tear_34 : decode cX8_tear 34 = .ok (.putfield 86, 3) := by decide +kernel
theorem dX8_tear_37 : decode cX8_tear 37 = .ok (.iconst 1, 1) := by decide +kernel
theorem dX8_tear_38 : decode cX8_tear 38 = .ok (.ireturn, 1) := by decide +kernel
theorem dX8_copy_0 : decode cX8_copy 0 = .ok (.iload_n 1, 1) := by decide +kernel
theorem dX8_copy_1 : decode cX8_copy 1 = .ok (.invokestatic 64, 3) := by decide +kernel
theorem dX8_copy_4 : decode cX8_copy 4 = .ok (.ifCond .eq 10, 3) := by decide +kernel
theorem dX8_copy_7 : decode cX8_copy 7 = .ok (.iload_n 3, 1) := by decide +kernel
theorem dX8_copy_8 : decode cX8_copy 8 = .ok (.invokestatic 64, 3) := by decide +kernel
theorem dX8_copy_11 : decode cX8_copy 11 = .ok (.ifCond .ne 5, 3) := by decide +kernel
theorem dX8_copy_14 : decode cX8_copy 14 = .ok (.iconst (-1), 1) := by decide +kernel
theorem dX8_copy_15 : decode cX8_copy 15 = .ok (.ireturn, 1) := by decide +kernel
theorem dX8_copy_16 : decode cX8_copy 16 = .ok (.iload 5, 2) := by decide +kernel
theorem dX8_copy_18 : decode cX8_copy 18 = .ok (.ifCond .ge 9, 3) := by decide +kernel
theorem dX8_copy_21 : decode cX8_copy 21 = .ok (.aload_n 0, 1) := by decide +kernel
theorem dX8_copy_22 : decode cX8_copy 22 = .ok (.iconst 5, 1) := by decide +kernel
theorem dX8_copy_23 : decode cX8_copy 23 = .ok (.invokevirtual 68, 3) := by decide +kernel
theorem dX8_copy_26 : decode cX8_copy 26 = .ok (.ireturn, 1) := by decide +kernel
theorem dX8_copy_27 : decode cX8_copy 27 = .ok (.aload_n 0, 1) := by decide +kernel
theorem dX8_copy_28 : decode cX8_copy 28 = .ok (.getfield 11, 3) := by decide +kernel
theorem dX8_copy_31 : decode cX8_copy 31 = .ok (.iload_n 1, 1) := by decide +kernel
theorem dX8_copy_32 : decode cX8_copy 32 = .ok (.aaload, 1) := by decide +kernel
theorem dX8_copy_33 : decode cX8_copy 33 = .ok (.invokevirtual 76, 3) := by decide +kernel
theorem dX8_copy_36 : decode cX8_copy 36 = .ok (.ifCond .ne 15, 3) := by decide +kernel
theorem dX8_copy_39 : decode cX8_copy 39 = .ok (.aload_n 0, 1) := by decide +kernel
theorem dX8_copy_40 : decode cX8_copy 40 = .ok (.getfield 11, 3) := by decide +kernel
theorem dX8_copy_43 : decode cX8_copy 43 = .ok (.iload_n 3, 1) := by decide +kernel
theorem dX8_copy_44 : decode cX8_copy 44 = .ok (.aaload, 1) := by decide +kernel
theorem dX8_copy_45 : decode cX8_copy 45 = .ok (.invokevirtual 76, 3) := by decide +kernel
theorem dX8_copy_48 : decode cX8_copy 48 = .ok (.ifCond .eq 9, 3) := by decide +kernel
theorem dX8_copy_51 : decode cX8_copy 51 = .ok (.aload_n 0, 1) := by decide +kernel
theorem dX8_copy_52 : decode cX8_copy 52 = .ok (.iconst 1, 1) := by decide +kernel
theorem dX8_copy_53 : decode cX8_copy 53 = .ok (.invokevirtual 68, 3) := by decide +kernel
theorem dX8_copy_56 : decode cX8_copy 56 = .ok (.ireturn, 1) := by decide +kernel
theorem dX8_copy_57 : decode cX8_copy 57 = .ok (.aload_n 0, 1) := by decide +kernel
theorem dX8_copy_58 : decode cX8_copy 58 = .ok (.getfield 11, 3) := by decide +kernel
theorem dX8_copy_61 : decode cX8_copy 61 = .ok (.iload_n 1, 1) := by decide +kernel
theorem dX8_copy_62 : decode cX8_copy 62 = .ok (.aaload, 1) := by decide +kernel
theorem dX8_copy_63 : decode cX8_copy 63 = .ok (.iload_n 2, 1) := by decide +kernel
theorem dX8_copy_64 : decode cX8_copy 64 = .ok (.iload 5, 2) := by decide +kernel
theorem dX8_copy_66 : decode cX8_copy 66 = .ok (.invokevirtual 89, 3) := by decide +kernel
theorem dX8_copy_69 : decode cX8_copy 69 = .ok (.ifCond .eq 19, 3) := by decide +kernel
theorem dX8_copy_72 : decode cX8_copy 72 = .ok (.aload_n 0, 1) := by decide +kernel
theorem dX8_copy_73 : decode cX8_copy 73 = .ok (.getfield 11, 3) := by decide +kernel
theorem dX8_copy_76 : decode cX8_copy 76 = .ok (.iload_n 3, 1) := by decide +kernel
theorem dX8_copy_77 : decode cX8_copy 77 = .ok (.aaload, 1) := by decide +kernel
theorem dX8_copy_78 : decode cX8_copy 78 = .ok (.iload 4, 2) := by decide +kernel
theorem dX8_copy_80 : decode cX8_copy 80 = .ok (.iload 5, 2) := by decide +kernel
theorem dX8_copy_82 : decode cX8_copy 82 = .ok (.invokevirtual 89, 3) := by decide +kernel
theorem dX8_copy_85 : decode cX8_copy 85 = .ok (.ifCond .ne 9, 3) := by decide +kernel
theorem dX8_copy_88 : decode cX8_copy 88 = .ok (.aload_n 0, 1) := by decide +kernel
theorem dX8_copy_89 : decode cX8_copy 89 = .ok (.iconst 2, 1) := by decide +kernel
theorem dX8_copy_90 : decode cX8_copy 90 = .ok (.invokevirtual 68, 3) := by decide +kernel
theorem dX8_copy_93 : decode cX8_copy 93 = .ok (.ireturn, 1) := by decide +kernel
theorem dX8_copy_94 : decode cX8_copy 94 = .ok (.aload_n 0, 1) := by decide +kernel
theorem dX8_copy_95 : decode cX8_copy 95 = .ok (.getfield 11, 3) := by decide +kernel
theorem dX8_copy_98 : decode cX8_copy 98 = .ok (.iload_n 1, 1) := by decide +kernel
theorem dX8_copy_99 : decode cX8_copy 99 = .ok (.aaload, 1) := by decide +kernel
theorem dX8_copy_100 : decode cX8_copy 100 = .ok (.getfield 83, 3) := by decide +kernel
theorem dX8_copy_103 : decode cX8_copy 103 = .ok (.iload_n 2, 1) := by decide +kernel
theorem dX8_copy_104 : decode cX8_copy 104 = .ok (.aload_n 0, 1) := by decide +kernel
theorem dX8_copy_105 : decode cX8_copy 105 = .ok (.getfield 11, 3) := by decide +kernel
theorem dX8_copy_108 : decode cX8_copy 108 = .ok (.iload_n 3, 1) := by decide +kernel
theorem dX8_copy_109 : decode cX8_copy 109 = .ok (.aaload, 1) := by decide +kernel
theorem dX8_copy_110 : decode cX8_copy 110 = .ok (.getfield 83, 3) := by decide +kernel
theorem dX8_copy_113 : decode cX8_copy 113 = .ok (.iload 4, 2) := by decide +kernel
theorem dX8_copy_115 : decode cX8_copy 115 = .ok (.iload 5, 2) := by decide +kernel
theorem dX8_copy_117 : decode cX8_copy 117 = .ok (.invokestatic 93, 3) := by decide +kernel
theorem dX8_copy_120 : decode cX8_copy 120 = .ok (.iconst 1, 1) := by decide +kernel
theorem dX8_copy_121 : decode cX8_copy 121 = .ok (.ireturn, 1) := by decide +kernel
theorem dX8_mean_0 : decode cX8_mean 0 = .ok (.iload_n 1, 1) := by decide +kernel
theorem dX8_mean_1 : decode cX8_mean 1 = .ok (.invokestatic 64, 3) := by decide +kernel
theorem dX8_mean_4 : decode cX8_mean 4 = .ok (.ifCond .ne 5, 3) := by decide +kernel
theorem dX8_mean_7 : decode cX8_mean 7 = .ok (.iconst (-1), 1) := by decide +kernel
theorem dX8_mean_8 : decode cX8_mean 8 = .ok (.ireturn, 1) := by decide +kernel
theorem dX8_mean_9 : decode cX8_mean 9 = .ok (.aload_n 0, 1) := by decide +kernel
theorem dX8_mean_10 : decode cX8_mean 10 = .ok (.getfield 11, 3) := by decide +kernel
theorem dX8_mean_13 : decode cX8_mean 13 = .ok (.iload_n 1, 1) := by decide +kernel
theorem dX8_mean_14 : decode cX8_mean 14 = .ok (.aaload, 1) := by decide +kernel
theorem dX8_mean_15 : decode cX8_mean 15 = .ok (.invokevirtual 76, 3) := by decide +kernel
theorem dX8_mean_18 : decode cX8_mean 18 = .ok (.ifCond .eq 9, 3) := by decide +kernel
theorem dX8_mean_21 : decode cX8_mean 21 = .ok (.aload_n 0, 1) := by decide +kernel
theorem dX8_mean_22 : decode cX8_mean 22 = .ok (.iconst 1, 1) := by decide +kernel
theorem dX8_mean_23 : decode cX8_mean 23 = .ok (.invokevirtual 68, 3) := by decide +kernel
theorem dX8_mean_26 : decode cX8_mean 26 = .ok (.ireturn, 1) := by decide +kernel
theorem dX8_mean_27 : decode cX8_mean 27 = .ok (.aload_n 0, 1) := by decide +kernel
theorem dX8_mean_28 : decode cX8_mean 28 = .ok (.getfield 11, 3) := by decide +kernel
theorem dX8_mean_31 : decode cX8_mean 31 = .ok (.iload_n 1, 1) := by decide +kernel
theorem dX8_mean_32 : decode cX8_mean 32 = .ok (.aaload, 1) := by decide +kernel
theorem dX8_mean_33 : decode cX8_mean 33 = .ok (.getfield 86, 3) := by decide +kernel
theorem dX8_mean_36 : decode cX8_mean 36 = .ok (.ifCond .ne 9, 3) := by decide +kernel
theorem dX8_mean_39 : decode cX8_mean 39 = .ok (.aload_n 0, 1) := by decide +kernel
theorem dX8_mean_40 : decode cX8_mean 40 = .ok (.iconst 4, 1) := by decide +kernel
theorem dX8_mean_41 : decode cX8_mean 41 = .ok (.invokevirtual 68, 3) := by decide +kernel
theorem dX8_mean_44 : decode cX8_mean 44 = .ok (.ireturn, 1) := by decide +kernel
theorem dX8_mean_45 : decode cX8_mean 45 = .ok (.aload_n 0, 1) := by decide +kernel
theorem dX8_mean_46 : decode cX8_mean 46 = .ok (.aload_n 0, 1) := by decide +kernel
theorem dX8_mean_47 : decode cX8_mean 47 = .ok (.getfield 11, 3) := by decide +kernel
theorem dX8_mean_50 : decode cX8_mean 50 = .ok (.iload_n 1, 1) := by decide +kernel
theorem dX8_mean_51 : decode cX8_mean 51 = .ok (.aaload, 1) := by decide +kernel
theorem dX8_mean_52 : decode cX8_mean 52 = .ok (.invokevirtual 99, 3) := by decide +kernel
theorem dX8_mean_55 : decode cX8_mean 55 = .ok (.aload_n 0, 1) := by decide +kernel
theorem dX8_mean_56 : decode cX8_mean 56 = .ok (.getfield 11, 3) := by decide +kernel
theorem dX8_mean_59 : decode cX8_mean 59 = .ok (.iload_n 1, 1) := by decide +kernel
theorem dX8_mean_60 : decode cX8_mean 60 = .ok (.aaload, 1) := by decide +kernel
theorem dX8_mean_61 : decode cX8_mean 61 = .ok (.getfield 86, 3) := by decide +kernel
theorem dX8_mean_64 : decode cX8_mean 64 = .ok (.i2l, 1) := by decide +kernel
theorem dX8_mean_65 : decode cX8_mean 65 = .ok (.ldiv, 1) := by decide +kernel
theorem dX8_mean_66 : decode cX8_mean 66 = .ok (.l2i, 1) := by decide +kernel
theorem dX8_mean_67 : decode cX8_mean 67 = .ok (.putfield 51, 3) := by decide +kernel
theorem dX8_mean_70 : decode cX8_mean 70 = .ok (.iconst 1, 1) := by decide +kernel
theorem dX8_mean_71 : decode cX8_mean 71 = .ok (.ireturn, 1) := by decide +kernel
theorem dX8_text_0 : decode cX8_text 0 = .ok (.iload_n 1, 1) := by decide +kernel
theorem dX8_text_1 : decode cX8_text 1 = .ok (.invokestatic 103, 3) := by decide +kernel
theorem dX8_text_4 : decode cX8_text 4 = .ok (.ifCond .eq 9, 3) := by decide +kernel
theorem dX8_text_7 : decode cX8_text 7 = .ok (.iload_n 2, 1) := by decide +kernel
theorem dX8_text_8 : decode cX8_text 8 = .ok (.bipush 60, 2) := by decide +kernel
theorem dX8_text_10 : decode cX8_text 10 = .ok (.if_icmp .le 5, 3) := by decide +kernel
theorem dX8_text_13 : decode cX8_text 13 = .ok (.iconst (-1), 1) := by decide +kernel
theorem dX8_text_14 : decode cX8_text 14 = .ok (.ireturn, 1) := by decide +kernel
theorem dX8_text_15 : decode cX8_text 15 = .ok (.iload_n 2, 1) := by decide +kernel
theorem dX8_text_16 : decode cX8_text 16 = .ok (.ifCond .ge 9, 3) := by decide +kernel
theorem dX8_text_19 : decode cX8_text 19 = .ok (.aload_n 0, 1) := by decide +kernel
theorem dX8_text_20 : decode cX8_text 20 = .ok (.iconst 5, 1) := by decide +kernel
theorem dX8_text_21 : decode cX8_text 21 = .ok (.invokevirtual 68, 3) := by decide +kernel
theorem dX8_text_24 : decode cX8_text 24 = .ok (.ireturn, 1) := by decide +kernel
theorem dX8_text_25 : decode cX8_text 25 = .ok (.aload_n 0, 1) := by decide +kernel
theorem dX8_text_26 : decode cX8_text 26 = .ok (.getfield 15, 3) := by decide +kernel
theorem dX8_text_29 : decode cX8_text 29 = .ok (.iload_n 1, 1) := by decide +kernel
theorem dX8_text_30 : decode cX8_text 30 = .ok (.aaload, 1) := by decide +kernel
theorem dX8_text_31 : decode cX8_text 31 = .ok (.iload_n 2, 1) := by decide +kernel
theorem dX8_text_32 : decode cX8_text 32 = .ok (.bipush 32, 2) := by decide +kernel
theorem dX8_text_34 : decode cX8_text 34 = .ok (.invokevirtual 72, 3) := by decide +kernel
theorem dX8_text_37 : decode cX8_text 37 = .ok (.iload_n 2, 1) := by decide +kernel
theorem dX8_text_38 : decode cX8_text 38 = .ok (.ireturn, 1) := by decide +kernel
theorem dX8_put_0 : decode cX8_put 0 = .ok (.iload_n 1, 1) := by decide +kernel
theorem dX8_put_1 : decode cX8_put 1 = .ok (.invokestatic 103, 3) := by decide +kernel
theorem dX8_put_4 : decode cX8_put 4 = .ok (.ifCond .ne 5, 3) := by decide +kernel
theorem dX8_put_7 : decode cX8_put 7 = .ok (.iconst (-1), 1) := by decide +kernel
theorem dX8_put_8 : decode cX8_put 8 = .ok (.ireturn, 1) := by decide +kernel
theorem dX8_put_9 : decode cX8_put 9 = .ok (.aload_n 0, 1) := by decide +kernel
theorem dX8_put_10 : decode cX8_put 10 = .ok (.getfield 15, 3) := by decide +kernel
theorem dX8_put_13 : decode cX8_put 13 = .ok (.iload_n 1, 1) := by decide +kernel
theorem dX8_put_14 : decode cX8_put 14 = .ok (.aaload, 1) := by decide +kernel
theorem dX8_put_15 : decode cX8_put 15 = .ok (.invokevirtual 76, 3) := by decide +kernel
theorem dX8_put_18 : decode cX8_put 18 = .ok (.ifCond .eq 9, 3) := by decide +kernel
theorem dX8_put_21 : decode cX8_put 21 = .ok (.aload_n 0, 1) := by decide +kernel
theorem dX8_put_22 : decode cX8_put 22 = .ok (.iconst 1, 1) := by decide +kernel
theorem dX8_put_23 : decode cX8_put 23 = .ok (.invokevirtual 68, 3) := by decide +kernel
theorem dX8_put_26 : decode cX8_put 26 = .ok (.ireturn, 1) := by decide +kernel
theorem dX8_put_27 : decode cX8_put 27 = .ok (.aload_n 0, 1) := by decide +kernel
theorem dX8_put_28 : decode cX8_put 28 = .ok (.getfield 15, 3) := by decide +kernel
theorem dX8_put_31 : decode cX8_put 31 = .ok (.iload_n 1, 1) := by decide +kernel
theorem dX8_put_32 : decode cX8_put 32 = .ok (.aaload, 1) := by decide +kernel
theorem dX8_put_33 : decode cX8_put 33 = .ok (.iload_n 2, 1) := by decide +kernel
theorem dX8_put_34 : decode cX8_put 34 = .ok (.invokevirtual 80, 3) := by decide +kernel
theorem dX8_put_37 : decode cX8_put 37 = .ok (.ifCond .ne 9, 3) := by decide +kernel
theorem dX8_put_40 : decode cX8_put 40 = .ok (.aload_n 0, 1) := by decide +kernel
theorem dX8_put_41 : decode cX8_put 41 = .ok (.iconst 2, 1) := by decide +kernel
theorem dX8_put_42 : decode cX8_put 42 = .ok (.invokevirtual 68, 3) := by decide +kernel
theorem dX8_put_45 : decode cX8_put 45 = .ok (.ireturn, 1) := by decide +kernel
theorem dX8_put_46 : decode cX8_put 46 = .ok (.aload_n 0, 1) := by decide +kernel
theorem dX8_put_47 : decode cX8_put 47 = .ok (.getfield 15, 3) := by decide +kernel
theorem dX8_put_50 : decode cX8_put 50 = .ok (.iload_n 1, 1) := by decide +kernel
theorem dX8_put_51 : decode cX8_put 51 = .ok (.aaload, 1) := by decide +kernel
theorem dX8_put_52 : decode cX8_put 52 = .ok (.getfield 83, 3) := by decide +kernel
theorem dX8_put_55 : decode cX8_put 55 = .ok (.iload_n 2, 1) := by decide +kernel
theorem dX8_put_56 : decode cX8_put 56 = .ok (.iaload, 1) := by decide +kernel
theorem dX8_put_57 : decode cX8_put 57 = .ok (.istore 4, 2) := by decide +kernel
theorem dX8_put_59 : decode cX8_put 59 = .ok (.aload_n 0, 1) := by decide +kernel
theorem dX8_put_60 : decode cX8_put 60 = .ok (.getfield 15, 3) := by decide +kernel
theorem dX8_put_63 : decode cX8_put 63 = .ok (.iload_n 1, 1) := by decide +kernel
theorem dX8_put_64 : decode cX8_put 64 = .ok (.aaload, 1) := by decide +kernel
theorem dX8_put_65 : decode cX8_put 65 = .ok (.getfield 83, 3) := by decide +kernel
theorem dX8_put_68 : decode cX8_put 68 = .ok (.iload_n 2, 1) := by decide +kernel
theorem dX8_put_69 : decode cX8_put 69 = .ok (.iload_n 3, 1) := by decide +kernel
theorem dX8_put_70 : decode cX8_put 70 = .ok (.i2b, 1) := by decide +kernel
theorem dX8_put_71 : decode cX8_put 71 = .ok (.iastore, 1) := by decide +kernel
theorem dX8_put_72 : decode cX8_put 72 = .ok (.iload 4, 2) := by decide +kernel
theorem dX8_put_74 : decode cX8_put 74 = .ok (.sipush 1000, 3) := by decide +kernel
theorem dX8_put_77 : decode cX8_put 77 = .ok (.iadd, 1) := by decide +kernel
theorem dX8_put_78 : decode cX8_put 78 = .ok (.ireturn, 1) := by decide +kernel
theorem dX8_fault_0 : decode cX8_fault 0 = .ok (.iload_n 1, 1) := by decide +kernel
theorem dX8_fault_1 : decode cX8_fault 1 = .ok (.invokestatic 103, 3) := by decide +kernel
theorem dX8_fault_4 : decode cX8_fault 4 = .ok (.ifCond .ne 5, 3) := by decide +kernel
theorem dX8_fault_7 : decode cX8_fault 7 = .ok (.iconst (-1), 1) := by decide +kernel
theorem dX8_fault_8 : decode cX8_fault 8 = .ok (.ireturn, 1) := by decide +kernel
theorem dX8_fault_9 : decode cX8_fault 9 = .ok (.aload_n 0, 1) := by decide +kernel
theorem dX8_fault_10 : decode cX8_fault 10 = .ok (.getfield 15, 3) := by decide +kernel
theorem dX8_fault_13 : decode cX8_fault 13 = .ok (.iload_n 1, 1) := by decide +kernel
theorem dX8_fault_14 : decode cX8_fault 14 = .ok (.aaload, 1) := by decide +kernel
theorem dX8_fault_15 : decode cX8_fault 15 = .ok (.invokevirtual 76, 3) := by decide +kernel
theorem dX8_fault_18 : decode cX8_fault 18 = .ok (.ifCond .eq 9, 3) := by decide +kernel
theorem dX8_fault_21 : decode cX8_fault 21 = .ok (.aload_n 0, 1) := by decide +kernel
theorem dX8_fault_22 : decode cX8_fault 22 = .ok (.iconst 1, 1) := by decide +kernel
theorem dX8_fault_23 : decode cX8_fault 23 = .ok (.invokevirtual 68, 3) := by decide +kernel
theorem dX8_fault_26 : decode cX8_fault 26 = .ok (.ireturn, 1) := by decide +kernel
theorem dX8_fault_27 : decode cX8_fault 27 = .ok (.aload_n 0, 1) := by decide +kernel
theorem dX8_fault_28 : decode cX8_fault 28 = .ok (.getfield 15, 3) := by decide +kernel
theorem dX8_fault_31 : decode cX8_fault 31 = .ok (.iload_n 1, 1) := by decide +kernel
theorem dX8_fault_32 : decode cX8_fault 32 = .ok (.aaload, 1) := by decide +kernel
theorem dX8_fault_33 : decode cX8_fault 33 = .ok (.invokestatic 106, 3) := by decide +kernel
theorem dX8_fault_36 : decode cX8_fault 36 = .ok (.ireturn, 1) := by decide +kernel
theorem dX8_village_0 : decode cX8_village 0 = .ok (.iload_n 1, 1) := by decide +kernel
theorem dX8_village_1 : decode cX8_village 1 = .ok (.invokestatic 103, 3) := by decide +kernel
theorem dX8_village_4 : decode cX8_village 4 = .ok (.ifCond .ne 5, 3) := by decide +kernel
theorem dX8_village_7 : decode cX8_village 7 = .ok (.iconst (-1), 1) := by decide +kernel
theorem dX8_village_8 : decode cX8_village 8 = .ok (.ireturn, 1) := by decide +kernel
theorem dX8_village_9 : decode cX8_village 9 = .ok (.aload_n 0, 1) := by decide +kernel
theorem dX8_village_10 : decode cX8_village 10 = .ok (.getfield 15, 3) := by decide +kernel
theorem dX8_village_13 : decode cX8_village 13 = .ok (.iload_n 1, 1) := by decide +kernel
theorem dX8_village_14 : decode cX8_village 14 = .ok (.aaload, 1) := by decide +kernel
theorem dX8_village_15 : decode cX8_village 15 = .ok (.invokevirtual 76, 3) := by decide +kernel
theorem dX8_village_18 : decode cX8_village 18 = .ok (.ifCond .eq 9, 3) := by decide +kernel
theorem dX8_village_21 : decode cX8_village 21 = .ok (.aload_n 0, 1) := by decide +kernel
theorem dX8_village_22 : decode cX8_village 22 = .ok (.iconst 1, 1) := by decide +kernel
theorem dX8_village_23 : decode cX8_village 23 = .ok (.invokevirtual 68, 3) := by decide +kernel
theorem dX8_village_26 : decode cX8_village 26 = .ok (.ireturn, 1) := by decide +kernel
theorem dX8_village_27 : decode cX8_village 27 = .ok (.aload_n 0, 1) := by decide +kernel
theorem dX8_village_28 : decode cX8_village 28 = .ok (.getfield 15, 3) := by decide +kernel
theorem dX8_village_31 : decode cX8_village 31 = .ok (.iload_n 1, 1) := by decide +kernel
theorem dX8_village_32 : decode cX8_village 32 = .ok (.aaload, 1) := by decide +kernel
theorem dX8_village_33 : decode cX8_village 33 = .ok (.invokestatic 106, 3) := by decide +kernel
theorem dX8_village_36 : decode cX8_village 36 = .ok (.bipush (-9), 2) := by decide +kernel
theorem dX8_village_38 : decode cX8_village 38 = .ok (.if_icmp .eq 6, 3) := by decide +kernel
theorem dX8_village_41 : decode cX8_village 41 = .ok (.bipush (-4), 2) := by decide +kernel
theorem dX8_village_43 : decode cX8_village 43 = .ok (.ireturn, 1) := by decide +kernel
theorem dX8_village_44 : decode cX8_village 44 = .ok (.aload_n 0, 1) := by decide +kernel
theorem dX8_village_45 : decode cX8_village 45 = .ok (.getfield 15, 3) := by decide +kernel
theorem dX8_village_48 : decode cX8_village 48 = .ok (.iload_n 1, 1) := by decide +kernel
theorem dX8_village_49 : decode cX8_village 49 = .ok (.aaload, 1) := by decide +kernel
theorem dX8_village_50 : decode cX8_village 50 = .ok (.aload_n 0, 1) := by decide +kernel
theorem dX8_village_51 : decode cX8_village 51 = .ok (.getfield 21, 3) := by decide +kernel
theorem dX8_village_54 : decode cX8_village 54 = .ok (.invokestatic 112, 3) := by decide +kernel
theorem dX8_village_57 : decode cX8_village 57 = .ok (.iconst 0, 1) := by decide +kernel
theorem dX8_village_58 : decode cX8_village 58 = .ok (.istore_n 2, 1) := by decide +kernel
theorem dX8_village_59 : decode cX8_village 59 = .ok (.iload_n 2, 1) := by decide +kernel
theorem dX8_village_60 : decode cX8_village 60 = .ok (.iconst 3, 1) := by decide +kernel
theorem dX8_village_61 : decode cX8_village 61 = .ok (.if_icmp .ge 19, 3) := by decide +kernel
theorem dX8_village_64 : decode cX8_village 64 = .ok (.aload_n 0, 1) := by decide +kernel
theorem dX8_village_65 : decode cX8_village 65 = .ok (.getfield 25, 3) := by decide +kernel
theorem dX8_village_68 : decode cX8_village 68 = .ok (.iload_n 2, 1) := by decide +kernel
theorem dX8_village_69 : decode cX8_village 69 = .ok (.aaload, 1) := by decide +kernel
theorem dX8_village_70 : decode cX8_village 70 = .ok (.iconst 0, 1) := by decide +kernel
theorem dX8_village_71 : decode cX8_village 71 = .ok (.putfield 116, 3) := by decide +kernel
theorem dX8_village_74 : decode cX8_village 74 = .ok (.iinc 2 1, 3) := by decide +kernel
theorem dX8_village_77 : decode cX8_village 77 = .ok (.goto (-18), 3) := by decide +kernel
theorem dX8_village_80 : decode cX8_village 80 = .ok (.aload_n 0, 1) := by decide +kernel
theorem dX8_village_81 : decode cX8_village 81 = .ok (.getfield 21, 3) := by decide +kernel
theorem dX8_village_84 : decode cX8_village 84 = .ok (.getfield 116, 3) := by decide +kernel
theorem dX8_village_87 : decode cX8_village 87 = .ok (.ireturn, 1) := by decide +kernel
theorem dX8_person_0 : decode cX8_person 0 = .ok (.aload_n 0, 1) := by decide +kernel
theorem dX8_person_1 : decode cX8_person 1 = .ok (.getfield 21, 3) := by decide +kernel
theorem dX8_person_4 : decode cX8_person 4 = .ok (.iload_n 1, 1) := by decide +kernel
theorem dX8_person_5 : decode cX8_person 5 = .ok (.invokevirtual 119, 3) := by decide +kernel
theorem dX8_person_8 : decode cX8_person 8 = .ok (.ifCond .eq 13, 3) := by decide +kernel
theorem dX8_person_11 : decode cX8_person 11 = .ok (.iload_n 2, 1) := by decide +kernel
theorem dX8_person_12 : decode cX8_person 12 = .ok (.ifCond .lt 9, 3) := by decide +kernel
theorem dX8_person_15 : decode cX8_person 15 = .ok (.iload_n 2, 1) := by decide +kernel
theorem dX8_person_16 : decode cX8_person 16 = .ok (.bipush 6, 2) := by decide +kernel
theorem dX8_person_18 : decode cX8_person 18 = .ok (.if_icmp .lt 5, 3) := by decide +kernel
theorem dX8_person_21 : decode cX8_person 21 = .ok (.iconst (-1), 1) := by decide +kernel
theorem dX8_person_22 : decode cX8_person 22 = .ok (.ireturn, 1) := by decide +kernel
theorem dX8_person_23 : decode cX8_person 23 = .ok (.aload_n 0, 1) := by decide +kernel
theorem dX8_person_24 : decode cX8_person 24 = .ok (.aload_n 0, 1) := by decide +kernel
theorem dX8_person_25 : decode cX8_person 25 = .ok (.iload_n 1, 1) := by decide +kernel
theorem dX8_person_26 : decode cX8_person 26 = .ok (.iload_n 2, 1) := by decide +kernel
theorem dX8_person_27 : decode cX8_person 27 = .ok (.invokevirtual 122, 3) := by decide +kernel
theorem dX8_person_30 : decode cX8_person 30 = .ok (.putfield 51, 3) := by decide +kernel
theorem dX8_person_33 : decode cX8_person 33 = .ok (.iconst 1, 1) := by decide +kernel
theorem dX8_person_34 : decode cX8_person 34 = .ok (.ireturn, 1) := by decide +kernel
theorem dX8_mark_0 : decode cX8_mark 0 = .ok (.aload_n 0, 1) := by decide +kernel
theorem dX8_mark_1 : decode cX8_mark 1 = .ok (.getfield 21, 3) := by decide +kernel
theorem dX8_mark_4 : decode cX8_mark 4 = .ok (.iload_n 1, 1) := by decide +kernel
theorem dX8_mark_5 : decode cX8_mark 5 = .ok (.invokevirtual 119, 3) := by decide +kernel
theorem dX8_mark_8 : decode cX8_mark 8 = .ok (.ifCond .eq 13, 3) := by decide +kernel
theorem dX8_mark_11 : decode cX8_mark 11 = .ok (.iload_n 2, 1) := by decide +kernel
theorem dX8_mark_12 : decode cX8_mark 12 = .ok (.ifCond .le 9, 3) := by decide +kernel
theorem dX8_mark_15 : decode cX8_mark 15 = .ok (.iload_n 2, 1) := by decide +kernel
theorem dX8_mark_16 : decode cX8_mark 16 = .ok (.bipush 6, 2) := by decide +kernel
theorem dX8_mark_18 : decode cX8_mark 18 = .ok (.if_icmp .lt 5, 3) := by decide +kernel
theorem dX8_mark_21 : decode cX8_mark 21 = .ok (.iconst (-1), 1) := by decide +kernel
theorem dX8_mark_22 : decode cX8_mark 22 = .ok (.ireturn, 1) := by decide +kernel
theorem dX8_mark_23 : decode cX8_mark 23 = .ok (.aload_n 0, 1) := by decide +kernel
theorem dX8_mark_24 : decode cX8_mark 24 = .ok (.getfield 21, 3) := by decide +kernel
theorem dX8_mark_27 : decode cX8_mark 27 = .ok (.iload_n 1, 1) := by decide +kernel
theorem dX8_mark_28 : decode cX8_mark 28 = .ok (.iload_n 2, 1) := by decide +kernel
theorem dX8_mark_29 : decode cX8_mark 29 = .ok (.invokevirtual 128, 3) := by decide +kernel
theorem dX8_mark_32 : decode cX8_mark 32 = .ok (.ifCond .ne 9, 3) := by decide +kernel
theorem dX8_mark_35 : decode cX8_mark 35 = .ok (.aload_n 0, 1) := by decide +kernel
theorem dX8_mark_36 : decode cX8_mark 36 = .ok (.iconst 3, 1) := by decide +kernel
theorem dX8_mark_37 : decode cX8_mark 37 = .ok (.invokevirtual 68, 3) := by decide +kernel
theorem dX8_mark_40 : decode cX8_mark 40 = .ok (.ireturn, 1) := by decide +kernel
theorem dX8_mark_41 : decode cX8_mark 41 = .ok (.iload_n 2, 1) := by decide +kernel
theorem dX8_mark_42 : decode cX8_mark 42 = .ok (.tableswitch 101 1 4 #[30, 60, 85, 93], 30) := by decide +kernel
theorem dX8_mark_72 : decode cX8_mark 72 = .ok (.aload_n 0, 1) := by decide +kernel
theorem dX8_mark_73 : decode cX8_mark 73 = .ok (.getfield 21, 3) := by decide +kernel
theorem dX8_mark_76 : decode cX8_mark 76 = .ok (.iload_n 1, 1) := by decide +kernel
theorem dX8_mark_77 : decode cX8_mark 77 = .ok (.invokevirtual 131, 3) := by decide +kernel
theorem dX8_mark_80 : decode cX8_mark 80 = .ok (.ifCond .eq 20, 3) := by decide +kernel
theorem dX8_mark_83 : decode cX8_mark 83 = .ok (.aload_n 0, 1) := by decide +kernel
theorem dX8_mark_84 : decode cX8_mark 84 = .ok (.getfield 21, 3) := by decide +kernel
theorem dX8_mark_87 : decode cX8_mark 87 = .ok (.getfield 134, 3) := by decide +kernel
theorem dX8_mark_90 : decode cX8_mark 90 = .ok (.iload_n 1, 1) := by decide +kernel
theorem dX8_mark_91 : decode cX8_mark 91 = .ok (.iaload, 1) := by decide +kernel
theorem dX8_mark_92 : decode cX8_mark 92 = .ok (.iconst 1, 1) := by decide +kernel
theorem dX8_mark_93 : decode cX8_mark 93 = .ok (.if_icmp .ne 7, 3) := by decide +kernel
theorem dX8_mark_96 : decode cX8_mark 96 = .ok (.iconst 1, 1) := by decide +kernel
theorem dX8_mark_97 : decode cX8_mark 97 = .ok (.goto 4, 3) := by decide +kernel
theorem dX8_mark_100 : decode cX8_mark 100 = .ok (.iconst 0, 1) := by decide +kernel
theorem dX8_mark_101 : decode cX8_mark 101 = .ok (.ireturn, 1) := by decide +kernel
theorem dX8_mark_102 : decode cX8_mark 102 = .ok (.iconst 0, 1) := by decide +kernel
theorem dX8_mark_103 : decode cX8_mark 103 = .ok (.aload_n 0, 1) := by decide +kernel
theorem dX8_mark_104 : decode cX8_mark 104 = .ok (.getfield 21, 3) := by decide +kernel
theorem dX8_mark_107 : decode cX8_mark 107 = .ok (.getfield 137, 3) := by decide +kernel
theorem dX8_mark_110 : decode cX8_mark 110 = .ok (.iload_n 1, 1) := by decide +kernel
theorem dX8_mark_111 : decode cX8_mark 111 = .ok (.iaload, 1) := by decide +kernel
theorem dX8_mark_112 : decode cX8_mark 112 = .ok (.iconst 1, 1) := by decide +kernel
theorem dX8_mark_113 : decode cX8_mark 113 = .ok (.iadd, 1) := by decide +kernel
theorem dX8_mark_114 : decode cX8_mark 114 = .ok (.aload_n 0, 1) := by decide +kernel
theorem dX8_mark_115 : decode cX8_mark 115 = .ok (.getfield 21, 3) := by decide +kernel
theorem dX8_mark_118 : decode cX8_mark 118 = .ok (.iload_n 1, 1) := by decide +kernel
theorem dX8_mark_119 : decode cX8_mark 119 = .ok (.invokevirtual 140, 3) := by decide +kernel
theorem dX8_mark_122 : decode cX8_mark 122 = .ok (.isub, 1) := by decide +kernel
theorem dX8_mark_123 : decode cX8_mark 123 = .ok (.invokestatic 143, 3) := by decide +kernel
theorem dX8_mark_126 : decode cX8_mark 126 = .ok (.ireturn, 1) := by decide +kernel
theorem dX8_mark_127 : decode cX8_mark 127 = .ok (.aload_n 0, 1) := by decide +kernel
theorem dX8_mark_128 : decode cX8_mark 128 = .ok (.getfield 21, 3) := by decide +kernel
theorem dX8_mark_131 : decode cX8_mark 131 = .ok (.invokevirtual 148, 3) := by decide +kernel
theorem dX8_mark_134 : decode cX8_mark 134 = .ok (.ireturn, 1) := by decide +kernel
theorem dX8_mark_135 : decode cX8_mark 135 = .ok (.aload_n 0, 1) := by decide +kernel
theorem dX8_mark_136 : decode cX8_mark 136 = .ok (.getfield 21, 3) := by decide +kernel
theorem dX8_mark_139 : decode cX8_mark 139 = .ok (.invokevirtual 152, 3) := by decide +kernel
theorem dX8_mark_142 : decode cX8_mark 142 = .ok (.ireturn, 1) := by decide +kernel
theorem dX8_mark_143 : decode cX8_mark 143 = .ok (.aload_n 0, 1) := by decide +kernel
theorem dX8_mark_144 : decode cX8_mark 144 = .ok (.getfield 21, 3) := by decide +kernel
theorem dX8_mark_147 : decode cX8_mark 147 = .ok (.iload_n 1, 1) := by decide +kernel
theorem dX8_mark_148 : decode cX8_mark 148 = .ok (.invokestatic 155, 3) := by decide +kernel
theorem dX8_mark_151 : decode cX8_mark 151 = .ok (.iconst 1, 1) := by decide +kernel
theorem dX8_mark_152 : decode cX8_mark 152 = .ok (.iload_n 1, 1) := by decide +kernel
theorem dX8_mark_153 : decode cX8_mark 153 = .ok (.ishl, 1) := by decide +kernel
theorem dX8_mark_154 : decode cX8_mark 154 = .ok (.iconst (-1), 1) := by decide +kernel
theorem dX8_mark_155 : decode cX8_mark 155 = .ok (.ixor, 1) := by decide +kernel
theorem dX8_mark_156 : decode cX8_mark 156 = .ok (.iand, 1) := by decide +kernel
theorem dX8_mark_157 : decode cX8_mark 157 = .ok (.invokestatic 159, 3) := by decide +kernel
theorem dX8_mark_160 : decode cX8_mark 160 = .ok (.ireturn, 1) := by decide +kernel
theorem dX8_taste_0 : decode cX8_taste 0 = .ok (.aload_n 0, 1) := by decide +kernel
theorem dX8_taste_1 : decode cX8_taste 1 = .ok (.getfield 21, 3) := by decide +kernel
theorem dX8_taste_4 : decode cX8_taste 4 = .ok (.iload_n 1, 1) := by decide +kernel
theorem dX8_taste_5 : decode cX8_taste 5 = .ok (.invokevirtual 119, 3) := by decide +kernel
theorem dX8_taste_8 : decode cX8_taste 8 = .ok (.ifCond .eq 14, 3) := by decide +kernel
theorem dX8_taste_11 : decode cX8_taste 11 = .ok (.iload_n 2, 1) := by decide +kernel
theorem dX8_taste_12 : decode cX8_taste 12 = .ok (.iconst 1, 1) := by decide +kernel
theorem dX8_taste_13 : decode cX8_taste 13 = .ok (.if_icmp .lt 9, 3) := by decide +kernel
theorem dX8_taste_16 : decode cX8_taste 16 = .ok (.iload_n 2, 1) := by decide +kernel
theorem dX8_taste_17 : decode cX8_taste 17 = .ok (.bipush 8, 2) := by decide +kernel
theorem dX8_taste_19 : decode cX8_taste 19 = .ok (.if_icmp .le 5, 3) := by decide +kernel
theorem dX8_taste_22 : decode cX8_taste 22 = .ok (.iconst (-1), 1) := by decide +kernel
theorem dX8_taste_23 : decode cX8_taste 23 = .ok (.ireturn, 1) := by decide +kernel
theorem dX8_taste_24 : decode cX8_taste 24 = .ok (.aload_n 0, 1) := by decide +kernel
theorem dX8_taste_25 : decode cX8_taste 25 = .ok (.getfield 21, 3) := by decide +kernel
theorem dX8_taste_28 : decode cX8_taste 28 = .ok (.getfield 137, 3) := by decide +kernel
theorem dX8_taste_31 : decode cX8_taste 31 = .ok (.iload_n 1, 1) := by decide +kernel
theorem dX8_taste_32 : decode cX8_taste 32 = .ok (.iaload, 1) := by decide +kernel
theorem dX8_taste_33 : decode cX8_taste 33 = .ok (.istore_n 3, 1) := by decide +kernel
theorem dX8_taste_34 : decode cX8_taste 34 = .ok (.aload_n 0, 1) := by decide +kernel
theorem dX8_taste_35 : decode cX8_taste 35 = .ok (.getfield 21, 3) := by decide +kernel
theorem dX8_taste_38 : decode cX8_taste 38 = .ok (.getfield 137, 3) := by decide +kernel
theorem dX8_taste_41 : decode cX8_taste 41 = .ok (.iload_n 1, 1) := by decide +kernel
theorem dX8_taste_42 : decode cX8_taste 42 = .ok (.iload_n 2, 1) := by decide +kernel
theorem dX8_taste_43 : decode cX8_taste 43 = .ok (.iastore, 1) := by decide +kernel
theorem dX8_taste_44 : decode cX8_taste 44 = .ok (.iload_n 3, 1) := by decide +kernel
theorem dX8_taste_45 : decode cX8_taste 45 = .ok (.ireturn, 1) := by decide +kernel
theorem dX8_touch_0 : decode cX8_touch 0 = .ok (.aload_n 0, 1) := by decide +kernel
theorem dX8_touch_1 : decode cX8_touch 1 = .ok (.getfield 21, 3) := by decide +kernel
theorem dX8_touch_4 : decode cX8_touch 4 = .ok (.iload_n 1, 1) := by decide +kernel
theorem dX8_touch_5 : decode cX8_touch 5 = .ok (.invokevirtual 119, 3) := by decide +kernel
theorem dX8_touch_8 : decode cX8_touch 8 = .ok (.ifCond .eq 28, 3) := by decide +kernel
theorem dX8_touch_11 : decode cX8_touch 11 = .ok (.iload_n 2, 1) := by decide +kernel
theorem dX8_touch_12 : decode cX8_touch 12 = .ok (.ifCond .eq 8, 3) := by decide +kernel
theorem dX8_touch_15 : decode cX8_touch 15 = .ok (.iload_n 2, 1) := by decide +kernel
theorem dX8_touch_16 : decode cX8_touch 16 = .ok (.iconst 1, 1) := by decide +kernel
theorem dX8_touch_17 : decode cX8_touch 17 = .ok (.if_icmp .ne 19, 3) := by decide +kernel
theorem dX8_touch_20 : decode cX8_touch 20 = .ok (.aload_n 0, 1) := by decide +kernel
theorem dX8_touch_21 : decode cX8_touch 21 = .ok (.getfield 21, 3) := by decide +kernel
theorem dX8_touch_24 : decode cX8_touch 24 = .ok (.iload_n 3, 1) := by decide +kernel
theorem dX8_touch_25 : decode cX8_touch 25 = .ok (.invokevirtual 164, 3) := by decide +kernel
theorem dX8_touch_28 : decode cX8_touch 28 = .ok (.ifCond .eq 8, 3) := by decide +kernel
theorem dX8_touch_31 : decode cX8_touch 31 = .ok (.iload_n 1, 1) := by decide +kernel
theorem dX8_touch_32 : decode cX8_touch 32 = .ok (.iload_n 3, 1) := by decide +kernel
theorem dX8_touch_33 : decode cX8_touch 33 = .ok (.if_icmp .ne 5, 3) := by decide +kernel
theorem dX8_touch_36 : decode cX8_touch 36 = .ok (.iconst (-1), 1) := by decide +kernel
theorem dX8_touch_37 : decode cX8_touch 37 = .ok (.ireturn, 1) := by decide +kernel
theorem dX8_touch_38 : decode cX8_touch 38 = .ok (.aload_n 0, 1) := by decide +kernel
theorem dX8_touch_39 : decode cX8_touch 39 = .ok (.getfield 21, 3) := by decide +kernel
theorem dX8_touch_42 : decode cX8_touch 42 = .ok (.iload_n 1, 1) := by decide +kernel
theorem dX8_touch_43 : decode cX8_touch 43 = .ok (.invokevirtual 131, 3) := by decide +kernel
theorem dX8_touch_46 : decode cX8_touch 46 = .ok (.ifCond .ne 14, 3) := by decide +kernel
theorem dX8_touch_49 : decode cX8_touch 49 = .ok (.aload_n 0, 1) := by decide +kernel
theorem dX8_touch_50 : decode cX8_touch 50 = .ok (.getfield 21, 3) := by decide +kernel
theorem dX8_touch_53 : decode cX8_touch 53 = .ok (.iload_n 3, 1) := by decide +kernel
theorem dX8_touch_54 : decode cX8_touch 54 = .ok (.invokevirtual 167, 3) := by decide +kernel
theorem dX8_touch_57 : decode cX8_touch 57 = .ok (.ifCond .ne 6, 3) := by decide +kernel
theorem dX8_touch_60 : decode cX8_touch 60 = .ok (.bipush (-4), 2) := by decide +kernel
theorem dX8_touch_62 : decode cX8_touch 62 = .ok (.ireturn, 1) := by decide +kernel
theorem dX8_touch_63 : decode cX8_touch 63 = .ok (.aload_n 0, 1) := by decide +kernel
theorem dX8_touch_64 : decode cX8_touch 64 = .ok (.getfield 21, 3) := by decide +kernel
theorem dX8_touch_67 : decode cX8_touch 67 = .ok (.invokevirtual 170, 3) := by decide +kernel
theorem dX8_touch_70 : decode cX8_touch 70 = .ok (.ifCond .eq 6, 3) := by decide +kernel
theorem dX8_touch_73 : decode cX8_touch 73 = .ok (.bipush (-2), 2) := by decide +kernel
theorem dX8_touch_75 : decode cX8_touch 75 = .ok (.ireturn, 1) := by decide +kernel
theorem dX8_touch_76 : decode cX8_touch 76 = .ok (.aload_n 0, 1) := by decide +kernel
theorem dX8_touch_77 : decode cX8_touch 77 = .ok (.getfield 21, 3) := by decide +kernel
theorem dX8_touch_80 : decode cX8_touch 80 = .ok (.iload_n 1, 1) := by decide +kernel
theorem dX8_touch_81 : decode cX8_touch 81 = .ok (.iload_n 2, 1) := by decide +kernel
theorem dX8_touch_82 : decode cX8_touch 82 = .ok (.invokevirtual 173, 3) := by decide +kernel
theorem dX8_touch_85 : decode cX8_touch 85 = .ok (.ifCond .ne 5, 3) := by decide +kernel
theorem dX8_touch_88 : decode cX8_touch 88 = .ok (.iconst 0, 1) := by decide +kernel
theorem dX8_touch_89 : decode cX8_touch 89 = .ok (.ireturn, 1) := by decide +kernel
theorem dX8_touch_90 : decode cX8_touch 90 = .ok (.aload_n 0, 1) := by decide +kernel
theorem dX8_touch_91 : decode cX8_touch 91 = .ok (.getfield 21, 3) := by decide +kernel
theorem dX8_touch_94 : decode cX8_touch 94 = .ok (.iconst 0, 1) := by decide +kernel
theorem dX8_touch_95 : decode cX8_touch 95 = .ok (.iload_n 1, 1) := by decide +kernel
theorem dX8_touch_96 : decode cX8_touch 96 = .ok (.iload_n 2, 1) := by decide +kernel
theorem dX8_touch_97 : decode cX8_touch 97 = .ok (.iload_n 3, 1) := by decide +kernel
theorem dX8_touch_98 : decode cX8_touch 98 = .ok (.invokevirtual 176, 3) := by decide +kernel
theorem dX8_touch_101 : decode cX8_touch 101 = .ok (.iconst 1, 1) := by decide +kernel
theorem dX8_touch_102 : decode cX8_touch 102 = .ok (.ireturn, 1) := by decide +kernel
theorem dX8_laugh_0 : decode cX8_laugh 0 = .ok (.aload_n 0, 1) := by decide +kernel
theorem dX8_laugh_1 : decode cX8_laugh 1 = .ok (.getfield 21, 3) := by decide +kernel
theorem dX8_laugh_4 : decode cX8_laugh 4 = .ok (.iload_n 1, 1) := by decide +kernel
theorem dX8_laugh_5 : decode cX8_laugh 5 = .ok (.invokevirtual 119, 3) := by decide +kernel
theorem dX8_laugh_8 : decode cX8_laugh 8 = .ok (.ifCond .ne 5, 3) := by decide +kernel
theorem dX8_laugh_11 : decode cX8_laugh 11 = .ok (.iconst (-1), 1) := by decide +kernel
theorem dX8_laugh_12 : decode cX8_laugh 12 = .ok (.ireturn, 1) := by decide +kernel
theorem dX8_laugh_13 : decode cX8_laugh 13 = .ok (.aload_n 0, 1) := by decide +kernel
theorem dX8_laugh_14 : decode cX8_laugh 14 = .ok (.getfield 21, 3) := by decide +kernel
theorem dX8_laugh_17 : decode cX8_laugh 17 = .ok (.iload_n 1, 1) := by decide +kernel
theorem dX8_laugh_18 : decode cX8_laugh 18 = .ok (.invokevirtual 180, 3) := by decide +kernel
theorem dX8_laugh_21 : decode cX8_laugh 21 = .ok (.ifCond .ne 6, 3) := by decide +kernel
theorem dX8_laugh_24 : decode cX8_laugh 24 = .ok (.bipush (-4), 2) := by decide +kernel
theorem dX8_laugh_26 : decode cX8_laugh 26 = .ok (.ireturn, 1) := by decide +kernel
theorem dX8_laugh_27 : decode cX8_laugh 27 = .ok (.aload_n 0, 1) := by decide +kernel
theorem dX8_laugh_28 : decode cX8_laugh 28 = .ok (.getfield 21, 3) := by decide +kernel
theorem dX8_laugh_31 : decode cX8_laugh 31 = .ok (.invokevirtual 170, 3) := by decide +kernel
theorem dX8_laugh_34 : decode cX8_laugh 34 = .ok (.ifCond .eq 6, 3) := by decide +kernel
theorem dX8_laugh_37 : decode cX8_laugh 37 = .ok (.bipush (-2), 2) := by decide +kernel
theorem dX8_laugh_39 : decode cX8_laugh 39 = .ok (.ireturn, 1) := by decide +kernel
theorem dX8_laugh_40 : decode cX8_laugh 40 = .ok (.aload_n 0, 1) := by decide +kernel
theorem dX8_laugh_41 : decode cX8_laugh 41 = .ok (.getfield 21, 3) := by decide +kernel
theorem dX8_laugh_44 : decode cX8_laugh 44 = .ok (.invokevirtual 183, 3) := by decide +kernel
theorem dX8_laugh_47 : decode cX8_laugh 47 = .ok (.istore_n 2, 1) := by decide +kernel
theorem dX8_laugh_48 : decode cX8_laugh 48 = .ok (.aload_n 0, 1) := by decide +kernel
theorem dX8_laugh_49 : decode cX8_laugh 49 = .ok (.getfield 21, 3) := by decide +kernel
theorem dX8_laugh_52 : decode cX8_laugh 52 = .ok (.iconst 1, 1) := by decide +kernel
theorem dX8_laugh_53 : decode cX8_laugh 53 = .ok (.iload_n 1, 1) := by decide +kernel
theorem dX8_laugh_54 : decode cX8_laugh 54 = .ok (.iconst 0, 1) := by decide +kernel
theorem dX8_laugh_55 : decode cX8_laugh 55 = .ok (.iconst 0, 1) := by decide +kernel
theorem dX8_laugh_56 : decode cX8_laugh 56 = .ok (.invokevirtual 176, 3) := by decide +kernel
theorem dX8_laugh_59 : decode cX8_laugh 59 = .ok (.iload_n 2, 1) := by decide +kernel
theorem dX8_laugh_60 : decode cX8_laugh 60 = .ok (.ireturn, 1) := by decide +kernel
theorem dX8_days_0 : decode cX8_days 0 = .ok (.iload_n 1, 1) := by decide +kernel
theorem dX8_days_1 : decode cX8_days 1 = .ok (.ifCond .lt 10, 3) := by decide +kernel
theorem dX8_days_4 : decode cX8_days 4 = .ok (.iload_n 1, 1) := by decide +kernel
theorem dX8_days_5 : decode cX8_days 5 = .ok (.sipush 400, 3) := by decide +kernel
theorem dX8_days_8 : decode cX8_days 8 = .ok (.if_icmp .le 5, 3) := by decide +kernel
theorem dX8_days_11 : decode cX8_days 11 = .ok (.iconst (-1), 1) := by decide +kernel
theorem dX8_days_12 : decode cX8_days 12 = .ok (.ireturn, 1) := by decide +kernel
theorem dX8_days_13 : decode cX8_days 13 = .ok (.aload_n 0, 1) := by decide +kernel
theorem dX8_days_14 : decode cX8_days 14 = .ok (.getfield 21, 3) := by decide +kernel
theorem dX8_days_17 : decode cX8_days 17 = .ok (.getfield 116, 3) := by decide +kernel
theorem dX8_days_20 : decode cX8_days 20 = .ok (.ifCond .ne 6, 3) := by decide +kernel
theorem dX8_days_23 : decode cX8_days 23 = .ok (.bipush (-4), 2) := by decide +kernel
theorem dX8_days_25 : decode cX8_days 25 = .ok (.ireturn, 1) := by decide +kernel
theorem dX8_days_26 : decode cX8_days 26 = .ok (.aload_n 0, 1) := by decide +kernel
theorem dX8_days_27 : decode cX8_days 27 = .ok (.getfield 21, 3) := by decide +kernel
theorem dX8_days_30 : decode cX8_days 30 = .ok (.invokevirtual 170, 3) := by decide +kernel
theorem dX8_days_33 : decode cX8_days 33 = .ok (.ifCond .ne 18, 3) := by decide +kernel
theorem dX8_days_36 : decode cX8_days 36 = .ok (.aload_n 0, 1) := by decide +kernel
theorem dX8_days_37 : decode cX8_days 37 = .ok (.getfield 21, 3) := by decide +kernel
theorem dX8_days_40 : decode cX8_days 40 = .ok (.getfield 186, 3) := by decide +kernel
theorem dX8_days_43 : decode cX8_days 43 = .ok (.iload_n 1, 1) := by decide +kernel
theorem dX8_days_44 : decode cX8_days 44 = .ok (.iadd, 1) := by decide +kernel
theorem dX8_days_45 : decode cX8_days 45 = .ok (.sipush 9999, 3) := by decide +kernel
theorem dX8_days_48 : decode cX8_days 48 = .ok (.if_icmp .le 6, 3) := by decide +kernel
theorem dX8_days_51 : decode cX8_days 51 = .ok (.bipush (-2), 2) := by decide +kernel
theorem dX8_days_53 : decode cX8_days 53 = .ok (.ireturn, 1) := by decide +kernel
theorem dX8_days_54 : decode cX8_days 54 = .ok (.aload_n 0, 1) := by decide +kernel
theorem dX8_days_55 : decode cX8_days 55 = .ok (.getfield 21, 3) := by decide +kernel
theorem dX8_days_58 : decode cX8_days 58 = .ok (.iconst 2, 1) := by decide +kernel
theorem dX8_days_59 : decode cX8_days 59 = .ok (.iload_n 1, 1) := by decide +kernel
theorem dX8_days_60 : decode cX8_days 60 = .ok (.iconst 0, 1) := by decide +kernel
theorem dX8_days_61 : decode cX8_days 61 = .ok (.iconst 0, 1) := by decide +kernel
theorem dX8_days_62 : decode cX8_days 62 = .ok (.invokevirtual 176, 3) := by decide +kernel
theorem dX8_days_65 : decode cX8_days 65 = .ok (.aload_n 0, 1) := by decide +kernel
theorem dX8_days_66 : decode cX8_days 66 = .ok (.getfield 21, 3) := by decide +kernel
theorem dX8_days_69 : decode cX8_days 69 = .ok (.getfield 186, 3) := by decide +kernel
theorem dX8_days_72 : decode cX8_days 72 = .ok (.ireturn, 1) := by decide +kernel
theorem dX8_undo_0 : decode cX8_undo 0 = .ok (.iload_n 1, 1) := by decide +kernel
theorem dX8_undo_1 : decode cX8_undo 1 = .ok (.ifCond .lt 14, 3) := by decide +kernel
theorem dX8_undo_4 : decode cX8_undo 4 = .ok (.iload_n 1, 1) := by decide +kernel
theorem dX8_undo_5 : decode cX8_undo 5 = .ok (.aload_n 0, 1) := by decide +kernel
theorem dX8_undo_6 : decode cX8_undo 6 = .ok (.getfield 21, 3) := by decide +kernel
theorem dX8_undo_9 : decode cX8_undo 9 = .ok (.getfield 189, 3) := by decide +kernel
theorem dX8_undo_12 : decode cX8_undo 12 = .ok (.if_icmp .le 5, 3) := by decide +kernel
theorem dX8_undo_15 : decode cX8_undo 15 = .ok (.iconst (-1), 1) := by decide +kernel
theorem dX8_undo_16 : decode cX8_undo 16 = .ok (.ireturn, 1) := by decide +kernel
theorem dX8_undo_17 : decode cX8_undo 17 = .ok (.aload_n 0, 1) := by decide +kernel
theorem dX8_undo_18 : decode cX8_undo 18 = .ok (.getfield 21, 3) := by decide +kernel
theorem dX8_undo_21 : decode cX8_undo 21 = .ok (.getfield 189, 3) := by decide +kernel
theorem dX8_undo_24 : decode cX8_undo 24 = .ok (.iload_n 1, 1) := by decide +kernel
theorem dX8_undo_25 : decode cX8_undo 25 = .ok (.isub, 1) := by decide +kernel
theorem dX8_undo_26 : decode cX8_undo 26 = .ok (.istore_n 2, 1) := by decide +kernel
theorem dX8_undo_27 : decode cX8_undo 27 = .ok (.aload_n 0, 1) := by decide +kernel
theorem dX8_undo_28 : decode cX8_undo 28 = .ok (.getfield 21, 3) := by decide +kernel
theorem dX8_undo_31 : decode cX8_undo 31 = .ok (.iload_n 1, 1) := by decide +kernel
theorem dX8_undo_32 : decode cX8_undo 32 = .ok (.invokevirtual 192, 3) := by decide +kernel
theorem dX8_undo_35 : decode cX8_undo 35 = .ok (.iload_n 2, 1) := by decide +kernel
theorem dX8_undo_36 : decode cX8_undo 36 = .ok (.ireturn, 1) := by decide +kernel
theorem dX8_stuck_0 : decode cX8_stuck 0 = .ok (.aload_n 0, 1) := by decide +kernel
theorem dX8_stuck_1 : decode cX8_stuck 1 = .ok (.getfield 21, 3) := by decide +kernel
theorem dX8_stuck_4 : decode cX8_stuck 4 = .ok (.invokevirtual 195, 3) := by decide +kernel
theorem dX8_stuck_7 : decode cX8_stuck 7 = .ok (.ireturn, 1) := by decide +kernel
theorem dX8_canLaugh_0 : decode cX8_canLaugh 0 = .ok (.iconst 0, 1) := by decide +kernel
theorem dX8_canLaugh_1 : decode cX8_canLaugh 1 = .ok (.istore_n 1, 1) := by decide +kernel
theorem dX8_canLaugh_2 : decode cX8_canLaugh 2 = .ok (.iconst 0, 1) := by decide +kernel
theorem dX8_canLaugh_3 : decode cX8_canLaugh 3 = .ok (.istore_n 2, 1) := by decide +kernel
theorem dX8_canLaugh_4 : decode cX8_canLaugh 4 = .ok (.iload_n 2, 1) := by decide +kernel
theorem dX8_canLaugh_5 : decode cX8_canLaugh 5 = .ok (.aload_n 0, 1) := by decide +kernel
theorem dX8_canLaugh_6 : decode cX8_canLaugh 6 = .ok (.getfield 21, 3) := by decide +kernel
theorem dX8_canLaugh_9 : decode cX8_canLaugh 9 = .ok (.getfield 116, 3) := by decide +kernel
theorem dX8_canLaugh_12 : decode cX8_canLaugh 12 = .ok (.if_icmp .ge 26, 3) := by decide +kernel
theorem dX8_canLaugh_15 : decode cX8_canLaugh 15 = .ok (.aload_n 0, 1) := by decide +kernel
theorem dX8_canLaugh_16 : decode cX8_canLaugh 16 = .ok (.getfield 21, 3) := by decide +kernel
theorem dX8_canLaugh_19 : decode cX8_canLaugh 19 = .ok (.iload_n 2, 1) := by decide +kernel
theorem dX8_canLaugh_20 : decode cX8_canLaugh 20 = .ok (.invokevirtual 180, 3) := by decide +kernel
theorem dX8_canLaugh_23 : decode cX8_canLaugh 23 = .ok (.ifCond .eq 9, 3) := by decide +kernel
theorem dX8_canLaugh_26 : decode cX8_canLaugh 26 = .ok (.iload_n 1, 1) := by decide +kernel
theorem dX8_canLaugh_27 : decode cX8_canLaugh 27 = .ok (.iconst 1, 1) := by decide +kernel
theorem dX8_canLaugh_28 : decode cX8_canLaugh 28 = .ok (.iload_n 2, 1) := by decide +kernel
theorem dX8_canLaugh_29 : decode cX8_canLaugh 29 = .ok (.ishl, 1) := by decide +kernel
theorem dX8_canLaugh_30 : decode cX8_canLaugh 30 = .ok (.ior, 1) := by decide +kernel
theorem dX8_canLaugh_31 : decode cX8_canLaugh 31 = .ok (.istore_n 1, 1) := by decide +kernel
theorem dX8_canLaugh_32 : decode cX8_canLaugh 32 = .ok (.iinc 2 1, 3) := by decide +kernel
theorem dX8_canLaugh_35 : decode cX8_canLaugh 35 = .ok (.goto (-31), 3) := by decide +kernel
theorem dX8_canLaugh_38 : decode cX8_canLaugh 38 = .ok (.iload_n 1, 1) := by decide +kernel
theorem dX8_canLaugh_39 : decode cX8_canLaugh 39 = .ok (.ireturn, 1) := by decide +kernel
theorem dX8_hang_0 : decode cX8_hang 0 = .ok (.aload_n 0, 1) := by decide +kernel
theorem dX8_hang_1 : decode cX8_hang 1 = .ok (.getfield 21, 3) := by decide +kernel
theorem dX8_hang_4 : decode cX8_hang 4 = .ok (.iload_n 1, 1) := by decide +kernel
theorem dX8_hang_5 : decode cX8_hang 5 = .ok (.invokevirtual 164, 3) := by decide +kernel
theorem dX8_hang_8 : decode cX8_hang 8 = .ok (.ifCond .ne 5, 3) := by decide +kernel
theorem dX8_hang_11 : decode cX8_hang 11 = .ok (.iconst (-1), 1) := by decide +kernel
theorem dX8_hang_12 : decode cX8_hang 12 = .ok (.ireturn, 1) := by decide +kernel
theorem dX8_hang_13 : decode cX8_hang 13 = .ok (.aload_n 0, 1) := by decide +kernel
theorem dX8_hang_14 : decode cX8_hang 14 = .ok (.getfield 21, 3) := by decide +kernel
theorem dX8_hang_17 : decode cX8_hang 17 = .ok (.iload_n 1, 1) := by decide +kernel
theorem dX8_hang_18 : decode cX8_hang 18 = .ok (.invokevirtual 198, 3) := by decide +kernel
theorem dX8_hang_21 : decode cX8_hang 21 = .ok (.ireturn, 1) := by decide +kernel
theorem dX8_train_0 : decode cX8_train 0 = .ok (.iload_n 1, 1) := by decide +kernel
theorem dX8_train_1 : decode cX8_train 1 = .ok (.invokestatic 64, 3) := by decide +kernel
theorem dX8_train_4 : decode cX8_train 4 = .ok (.ifCond .ne 5, 3) := by decide +kernel
theorem dX8_train_7 : decode cX8_train 7 = .ok (.iconst (-1), 1) := by decide +kernel
theorem dX8_train_8 : decode cX8_train 8 = .ok (.ireturn, 1) := by decide +kernel
theorem dX8_train_9 : decode cX8_train 9 = .ok (.aload_n 0, 1) := by decide +kernel
theorem dX8_train_10 : decode cX8_train 10 = .ok (.getfield 11, 3) := by decide +kernel
theorem dX8_train_13 : decode cX8_train 13 = .ok (.iload_n 1, 1) := by decide +kernel
theorem dX8_train_14 : decode cX8_train 14 = .ok (.aaload, 1) := by decide +kernel
theorem dX8_train_15 : decode cX8_train 15 = .ok (.iconst 0, 1) := by decide +kernel
theorem dX8_train_16 : decode cX8_train 16 = .ok (.iconst 0, 1) := by decide +kernel
theorem dX8_train_17 : decode cX8_train 17 = .ok (.invokevirtual 72, 3) := by decide +kernel
theorem dX8_train_20 : decode cX8_train 20 = .ok (.aload_n 0, 1) := by decide +kernel
theorem dX8_train_21 : decode cX8_train 21 = .ok (.getfield 21, 3) := by decide +kernel
theorem dX8_train_24 : decode cX8_train 24 = .ok (.aload_n 0, 1) := by decide +kernel
theorem dX8_train_25 : decode cX8_train 25 = .ok (.getfield 11, 3) := by decide +kernel
theorem dX8_train_28 : decode cX8_train 28 = .ok (.iload_n 1, 1) := by decide +kernel
theorem dX8_train_29 : decode cX8_train 29 = .ok (.aaload, 1) := by decide +kernel
theorem dX8_train_30 : decode cX8_train 30 = .ok (.bipush 9, 2) := by decide +kernel
theorem dX8_train_32 : decode cX8_train 32 = .ok (.iconst 0, 1) := by decide +kernel
theorem dX8_train_33 : decode cX8_train 33 = .ok (.invokestatic 201, 3) := by decide +kernel
theorem dX8_train_36 : decode cX8_train 36 = .ok (.aload_n 0, 1) := by decide +kernel
theorem dX8_train_37 : decode cX8_train 37 = .ok (.getfield 11, 3) := by decide +kernel
theorem dX8_train_40 : decode cX8_train 40 = .ok (.iload_n 1, 1) := by decide +kernel
theorem dX8_train_41 : decode cX8_train 41 = .ok (.aaload, 1) := by decide +kernel
theorem dX8_train_42 : decode cX8_train 42 = .ok (.getfield 86, 3) := by decide +kernel
theorem dX8_train_45 : decode cX8_train 45 = .ok (.ireturn, 1) := by decide +kernel
theorem dX8_keep_0 : decode cX8_keep 0 = .ok (.iload_n 1, 1) := by decide +kernel
theorem dX8_keep_1 : decode cX8_keep 1 = .ok (.invokestatic 205, 3) := by decide +kernel
theorem dX8_keep_4 : decode cX8_keep 4 = .ok (.ifCond .ne 5, 3) := by decide +kernel
theorem dX8_keep_7 : decode cX8_keep 7 = .ok (.iconst (-1), 1) := by decide +kernel
theorem dX8_keep_8 : decode cX8_keep 8 = .ok (.ireturn, 1) := by decide +kernel
theorem dX8_keep_9 : decode cX8_keep 9 = .ok (.aload_n 0, 1) := by decide +kernel
theorem dX8_keep_10 : decode cX8_keep 10 = .ok (.getfield 21, 3) := by decide +kernel
theorem dX8_keep_13 : decode cX8_keep 13 = .ok (.getfield 116, 3) := by decide +kernel
theorem dX8_keep_16 : decode cX8_keep 16 = .ok (.ifCond .ne 6, 3) := by decide +kernel
theorem dX8_keep_19 : decode cX8_keep 19 = .ok (.bipush (-4), 2) := by decide +kernel
theorem dX8_keep_21 : decode cX8_keep 21 = .ok (.ireturn, 1) := by decide +kernel
theorem dX8_keep_22 : decode cX8_keep 22 = .ok (.aload_n 0, 1) := by decide +kernel
theorem dX8_keep_23 : decode cX8_keep 23 = .ok (.getfield 25, 3) := by decide +kernel
theorem dX8_keep_26 : decode cX8_keep 26 = .ok (.iload_n 1, 1) := by decide +kernel
theorem dX8_keep_27 : decode cX8_keep 27 = .ok (.aaload, 1) := by decide +kernel
theorem dX8_keep_28 : decode cX8_keep 28 = .ok (.aload_n 0, 1) := by decide +kernel
theorem dX8_keep_29 : decode cX8_keep 29 = .ok (.getfield 21, 3) := by decide +kernel
theorem dX8_keep_32 : decode cX8_keep 32 = .ok (.invokevirtual 208, 3) := by decide +kernel
theorem dX8_keep_35 : decode cX8_keep 35 = .ok (.aload_n 0, 1) := by decide +kernel
theorem dX8_keep_36 : decode cX8_keep 36 = .ok (.getfield 21, 3) := by decide +kernel
theorem dX8_keep_39 : decode cX8_keep 39 = .ok (.getfield 189, 3) := by decide +kernel
theorem dX8_keep_42 : decode cX8_keep 42 = .ok (.ireturn, 1) := by decide +kernel
theorem dX8_on_0 : decode cX8_on 0 = .ok (.iload_n 1, 1) := by decide +kernel
theorem dX8_on_1 : decode cX8_on 1 = .ok (.invokestatic 205, 3) := by decide +kernel
theorem dX8_on_4 : decode cX8_on 4 = .ok (.ifCond .ne 5, 3) := by decide +kernel
theorem dX8_on_7 : decode cX8_on 7 = .ok (.iconst (-1), 1) := by decide +kernel
theorem dX8_on_8 : decode cX8_on 8 = .ok (.ireturn, 1) := by decide +kernel
theorem dX8_on_9 : decode cX8_on 9 = .ok (.aload_n 0, 1) := by decide +kernel
theorem dX8_on_10 : decode cX8_on 10 = .ok (.getfield 25, 3) := by decide +kernel
theorem dX8_on_13 : decode cX8_on 13 = .ok (.iload_n 1, 1) := by decide +kernel
theorem dX8_on_14 : decode cX8_on 14 = .ok (.aaload, 1) := by decide +kernel
theorem dX8_on_15 : decode cX8_on 15 = .ok (.getfield 116, 3) := by decide +kernel
theorem dX8_on_18 : decode cX8_on 18 = .ok (.ifCond .ne 9, 3) := by decide +kernel
theorem dX8_on_21 : decode cX8_on 21 = .ok (.aload_n 0, 1) := by decide +kernel
theorem dX8_on_22 : decode cX8_on 22 = .ok (.iconst 1, 1) := by decide +kernel
theorem dX8_on_23 : decode cX8_on 23 = .ok (.invokevirtual 68, 3) := by decide +kernel
theorem dX8_on_26 : decode cX8_on 26 = .ok (.ireturn, 1) := by decide +kernel
theorem dX8_on_27 : decode cX8_on 27 = .ok (.aload_n 0, 1) := by decide +kernel
theorem dX8_on_28 : decode cX8_on 28 = .ok (.getfield 21, 3) := by decide +kernel
theorem dX8_on_31 : decode cX8_on 31 = .ok (.aload_n 0, 1) := by decide +kernel
theorem dX8_on_32 : decode cX8_on 32 = .ok (.getfield 25, 3) := by decide +kernel
theorem dX8_on_35 : decode cX8_on 35 = .ok (.iload_n 1, 1) := by decide +kernel
theorem dX8_on_36 : decode cX8_on 36 = .ok (.aaload, 1) := by decide +kernel
theorem dX8_on_37 : decode cX8_on 37 = .ok (.invokevirtual 208, 3) := by decide +kernel
theorem dX8_on_40 : decode cX8_on 40 = .ok (.aload_n 0, 1) := by decide +kernel
theorem dX8_on_41 : decode cX8_on 41 = .ok (.getfield 21, 3) := by decide +kernel
theorem dX8_on_44 : decode cX8_on 44 = .ok (.getfield 189, 3) := by decide +kernel
theorem dX8_on_47 : decode cX8_on 47 = .ok (.ireturn, 1) := by decide +kernel
theorem dX8_door_0 : decode cX8_door 0 = .ok (.iload_n 1, 1) := by decide +kernel
theorem dX8_door_1 : decode cX8_door 1 = .ok (.invokestatic 212, 3) := by decide +kernel
theorem dX8_door_4 : decode cX8_door 4 = .ok (.ifCond .ne 5, 3) := by decide +kernel
theorem dX8_door_7 : decode cX8_door 7 = .ok (.iconst (-1), 1) := by decide +kernel
theorem dX8_door_8 : decode cX8_door 8 = .ok (.ireturn, 1) := by decide +kernel
theorem dX8_door_9 : decode cX8_door 9 = .ok (.aload_n 0, 1) := by decide +kernel
theorem dX8_door_10 : decode cX8_door 10 = .ok (.getfield 21, 3) := by decide +kernel
theorem dX8_door_13 : decode cX8_door 13 = .ok (.aload_n 0, 1) := by decide +kernel
theorem dX8_door_14 : decode cX8_door 14 = .ok (.getfield 21, 3) := by decide +kernel
theorem dX8_door_17 : decode cX8_door 17 = .ok (.invokevirtual 195, 3) := by decide +kernel
theorem dX8_door_20 : decode cX8_door 20 = .ok (.iload_n 1, 1) := by decide +kernel
theorem dX8_door_21 : decode cX8_door 21 = .ok (.invokestatic 215, 3) := by decide +kernel
theorem dX8_door_24 : decode cX8_door 24 = .ok (.ireturn, 1) := by decide +kernel
theorem dX8_stairs_0 : decode cX8_stairs 0 = .ok (.iload_n 1, 1) := by decide +kernel
theorem dX8_stairs_1 : decode cX8_stairs 1 = .ok (.invokestatic 212, 3) := by decide +kernel
theorem dX8_stairs_4 : decode cX8_stairs 4 = .ok (.ifCond .ne 5, 3) := by decide +kernel
theorem dX8_stairs_7 : decode cX8_stairs 7 = .ok (.iconst (-1), 1) := by decide +kernel
theorem dX8_stairs_8 : decode cX8_stairs 8 = .ok (.ireturn, 1) := by decide +kernel
theorem dX8_stairs_9 : decode cX8_stairs 9 = .ok (.aload_n 0, 1) := by decide +kernel
theorem dX8_stairs_10 : decode cX8_stairs 10 = .ok (.getfield 21, 3) := by decide +kernel
theorem dX8_stairs_13 : decode cX8_stairs 13 = .ok (.aload_n 0, 1) := by decide +kernel
theorem dX8_stairs_14 : decode cX8_stairs 14 = .ok (.getfield 21, 3) := by decide +kernel
theorem dX8_stairs_17 : decode cX8_stairs 17 = .ok (.invokevirtual 195, 3) := by decide +kernel
theorem dX8_stairs_20 : decode cX8_stairs 20 = .ok (.iload_n 1, 1) := by decide +kernel
theorem dX8_stairs_21 : decode cX8_stairs 21 = .ok (.invokestatic 221, 3) := by decide +kernel
theorem dX8_stairs_24 : decode cX8_stairs 24 = .ok (.ireturn, 1) := by decide +kernel
theorem dX8_part_0 : decode cX8_part 0 = .ok (.iload_n 1, 1) := by decide +kernel
theorem dX8_part_1 : decode cX8_part 1 = .ok (.invokestatic 212, 3) := by decide +kernel
theorem dX8_part_4 : decode cX8_part 4 = .ok (.ifCond .eq 10, 3) := by decide +kernel
theorem dX8_part_7 : decode cX8_part 7 = .ok (.iload_n 2, 1) := by decide +kernel
theorem dX8_part_8 : decode cX8_part 8 = .ok (.invokestatic 212, 3) := by decide +kernel
theorem dX8_part_11 : decode cX8_part 11 = .ok (.ifCond .ne 5, 3) := by decide +kernel
theorem dX8_part_14 : decode cX8_part 14 = .ok (.iconst (-1), 1) := by decide +kernel
theorem dX8_part_15 : decode cX8_part 15 = .ok (.ireturn, 1) := by decide +kernel
theorem dX8_part_16 : decode cX8_part 16 = .ok (.aload_n 0, 1) := by decide +kernel
theorem dX8_part_17 : decode cX8_part 17 = .ok (.aload_n 0, 1) := by decide +kernel
theorem dX8_part_18 : decode cX8_part 18 = .ok (.getfield 21, 3) := by decide +kernel
theorem dX8_part_21 : decode cX8_part 21 = .ok (.iload_n 1, 1) := by decide +kernel
theorem dX8_part_22 : decode cX8_part 22 = .ok (.iload_n 2, 1) := by decide +kernel
theorem dX8_part_23 : decode cX8_part 23 = .ok (.invokestatic 224, 3) := by decide +kernel
theorem dX8_part_26 : decode cX8_part 26 = .ok (.putfield 51, 3) := by decide +kernel
theorem dX8_part_29 : decode cX8_part 29 = .ok (.aload_n 0, 1) := by decide +kernel
theorem dX8_part_30 : decode cX8_part 30 = .ok (.getfield 51, 3) := by decide +kernel
theorem dX8_part_33 : decode cX8_part 33 = .ok (.invokestatic 159, 3) := by decide +kernel
theorem dX8_part_36 : decode cX8_part 36 = .ok (.ireturn, 1) := by decide +kernel
theorem dX8_room_0 : decode cX8_room 0 = .ok (.iload_n 1, 1) := by decide +kernel
theorem dX8_room_1 : decode cX8_room 1 = .ok (.invokestatic 212, 3) := by decide +kernel
theorem dX8_room_4 : decode cX8_room 4 = .ok (.ifCond .eq 10, 3) := by decide +kernel
theorem dX8_room_7 : decode cX8_room 7 = .ok (.iload_n 2, 1) := by decide +kernel
theorem dX8_room_8 : decode cX8_room 8 = .ok (.invokestatic 212, 3) := by decide +kernel
theorem dX8_room_11 : decode cX8_room 11 = .ok (.ifCond .ne 5, 3) := by decide +kernel
theorem dX8_room_14 : decode cX8_room 14 = .ok (.iconst (-1), 1) := by decide +kernel
theorem dX8_room_15 : decode cX8_room 15 = .ok (.ireturn, 1) := by decide +kernel
theorem dX8_room_16 : decode cX8_room 16 = .ok (.aload_n 0, 1) := by decide +kernel
theorem dX8_room_17 : decode cX8_room 17 = .ok (.getfield 21, 3) := by decide +kernel
theorem dX8_room_20 : decode cX8_room 20 = .ok (.iload_n 1, 1) := by decide +kernel
theorem dX8_room_21 : decode cX8_room 21 = .ok (.iload_n 2, 1) := by decide +kernel
theorem dX8_room_22 : decode cX8_room 22 = .ok (.invokestatic 227, 3) := by decide +kernel
theorem dX8_room_25 : decode cX8_room 25 = .ok (.ireturn, 1) := by decide +kernel
theorem dX8_place_0 : decode cX8_place 0 = .ok (.aload_n 0, 1) := by decide +kernel
theorem dX8_place_1 : decode cX8_place 1 = .ok (.getfield 21, 3) := by decide +kernel
theorem dX8_place_4 : decode cX8_place 4 = .ok (.iload_n 1, 1) := by decide +kernel
theorem dX8_place_5 : decode cX8_place 5 = .ok (.invokevirtual 119, 3) := by decide +kernel
theorem dX8_place_8 : decode cX8_place 8 = .ok (.ifCond .eq 14, 3) := by decide +kernel
theorem dX8_place_11 : decode cX8_place 11 = .ok (.iload_n 2, 1) := by decide +kernel
theorem dX8_place_12 : decode cX8_place 12 = .ok (.iconst 1, 1) := by decide +kernel
theorem dX8_place_13 : decode cX8_place 13 = .ok (.if_icmp .lt 9, 3) := by decide +kernel
theorem dX8_place_16 : decode cX8_place 16 = .ok (.iload_n 2, 1) := by decide +kernel
theorem dX8_place_17 : decode cX8_place 17 = .ok (.bipush 7, 2) := by decide +kernel
theorem dX8_place_19 : decode cX8_place 19 = .ok (.if_icmp .le 5, 3) := by decide +kernel
theorem dX8_place_22 : decode cX8_place 22 = .ok (.iconst (-1), 1) := by decide +kernel
theorem dX8_place_23 : decode cX8_place 23 = .ok (.ireturn, 1) := by decide +kernel
theorem dX8_place_24 : decode cX8_place 24 = .ok (.aload_n 0, 1) := by decide +kernel
theorem dX8_place_25 : decode cX8_place 25 = .ok (.getfield 21, 3) := by decide +kernel
theorem dX8_place_28 : decode cX8_place 28 = .ok (.iload_n 1, 1) := by decide +kernel
theorem dX8_place_29 : decode cX8_place 29 = .ok (.invokevirtual 131, 3) := by decide +kernel
theorem dX8_place_32 : decode cX8_place 32 = .ok (.ifCond .eq 6, 3) := by decide +kernel
theorem dX8_place_35 : decode cX8_place 35 = .ok (.bipush (-9), 2) := by decide +kernel
theorem dX8_place_37 : decode cX8_place 37 = .ok (.ireturn, 1) := by decide +kernel
theorem dX8_place_38 : decode cX8_place 38 = .ok (.iconst 0, 1) := by decide +kernel
theorem dX8_place_39 : decode cX8_place 39 = .ok (.iload_n 2, 1) := by decide +kernel
theorem dX8_place_40 : decode cX8_place 40 = .ok (.iconst 1, 1) := by decide +kernel
theorem dX8_place_41 : decode cX8_place 41 = .ok (.isub, 1) := by decide +kernel
theorem dX8_place_42 : decode cX8_place 42 = .ok (.aload_n 0, 1) := by decide +kernel
theorem dX8_place_43 : decode cX8_place 43 = .ok (.getfield 21, 3) := by decide +kernel
theorem dX8_place_46 : decode cX8_place 46 = .ok (.invokevirtual 152, 3) := by decide +kernel
theorem dX8_place_49 : decode cX8_place 49 = .ok (.isub, 1) := by decide +kernel
theorem dX8_place_50 : decode cX8_place 50 = .ok (.invokestatic 143, 3) := by decide +kernel
theorem dX8_place_53 : decode cX8_place 53 = .ok (.istore_n 3, 1) := by decide +kernel
theorem dX8_place_54 : decode cX8_place 54 = .ok (.iload_n 3, 1) := by decide +kernel
theorem dX8_place_55 : decode cX8_place 55 = .ok (.aload_n 0, 1) := by decide +kernel
theorem dX8_place_56 : decode cX8_place 56 = .ok (.getfield 21, 3) := by decide +kernel
theorem dX8_place_59 : decode cX8_place 59 = .ok (.invokevirtual 230, 3) := by decide +kernel
theorem dX8_place_62 : decode cX8_place 62 = .ok (.if_icmp .gt 9, 3) := by decide +kernel
theorem dX8_place_65 : decode cX8_place 65 = .ok (.iload_n 3, 1) := by decide +kernel
theorem dX8_place_66 : decode cX8_place 66 = .ok (.iconst 1, 1) := by decide +kernel
theorem dX8_place_67 : decode cX8_place 67 = .ok (.iadd, 1) := by decide +kernel
theorem dX8_place_68 : decode cX8_place 68 = .ok (.goto 5, 3) := by decide +kernel
theorem dX8_place_71 : decode cX8_place 71 = .ok (.bipush (-9), 2) := by decide +kernel
theorem dX8_place_73 : decode cX8_place 73 = .ok (.ireturn, 1) := by decide +kernel
theorem dX8_fun_0 : decode cX8_fun 0 = .ok (.aload_n 0, 1) := by decide +kernel
theorem dX8_fun_1 : decode cX8_fun 1 = .ok (.getfield 21, 3) := by decide +kernel
theorem dX8_fun_4 : decode cX8_fun 4 = .ok (.iload_n 1, 1) := by decide +kernel
theorem dX8_fun_5 : decode cX8_fun 5 = .ok (.invokevirtual 119, 3) := by decide +kernel
theorem dX8_fun_8 : decode cX8_fun 8 = .ok (.ifCond .ne 5, 3) := by decide +kernel
theorem dX8_fun_11 : decode cX8_fun 11 = .ok (.iconst (-1), 1) := by decide +kernel
theorem dX8_fun_12 : decode cX8_fun 12 = .ok (.ireturn, 1) := by decide +kernel
theorem dX8_fun_13 : decode cX8_fun 13 = .ok (.aload_n 0, 1) := by decide +kernel
theorem dX8_fun_14 : decode cX8_fun 14 = .ok (.getfield 21, 3) := by decide +kernel
theorem dX8_fun_17 : decode cX8_fun 17 = .ok (.iload_n 1, 1) := by decide +kernel
theorem dX8_fun_18 : decode cX8_fun 18 = .ok (.invokevirtual 131, 3) := by decide +kernel
theorem dX8_fun_21 : decode cX8_fun 21 = .ok (.ifCond .eq 6, 3) := by decide +kernel
theorem dX8_fun_24 : decode cX8_fun 24 = .ok (.bipush (-4), 2) := by decide +kernel
theorem dX8_fun_26 : decode cX8_fun 26 = .ok (.ireturn, 1) := by decide +kernel
theorem dX8_fun_27 : decode cX8_fun 27 = .ok (.aload_n 0, 1) := by decide +kernel
theorem dX8_fun_28 : decode cX8_fun 28 = .ok (.getfield 21, 3) := by decide +kernel
theorem dX8_fun_31 : decode cX8_fun 31 = .ok (.iload_n 1, 1) := by decide +kernel
theorem dX8_fun_32 : decode cX8_fun 32 = .ok (.invokevirtual 233, 3) := by decide +kernel
theorem dX8_fun_35 : decode cX8_fun 35 = .ok (.ifCond .ne 6, 3) := by decide +kernel
theorem dX8_fun_38 : decode cX8_fun 38 = .ok (.bipush (-9), 2) := by decide +kernel
theorem dX8_fun_40 : decode cX8_fun 40 = .ok (.ireturn, 1) := by decide +kernel
theorem dX8_fun_41 : decode cX8_fun 41 = .ok (.iconst 0, 1) := by decide +kernel
theorem dX8_fun_42 : decode cX8_fun 42 = .ok (.aload_n 0, 1) := by decide +kernel
theorem dX8_fun_43 : decode cX8_fun 43 = .ok (.getfield 21, 3) := by decide +kernel
theorem dX8_fun_46 : decode cX8_fun 46 = .ok (.iload_n 1, 1) := by decide +kernel
theorem dX8_fun_47 : decode cX8_fun 47 = .ok (.invokevirtual 236, 3) := by decide +kernel
theorem dX8_fun_50 : decode cX8_fun 50 = .ok (.aload_n 0, 1) := by decide +kernel
theorem dX8_fun_51 : decode cX8_fun 51 = .ok (.getfield 21, 3) := by decide +kernel
theorem dX8_fun_54 : decode cX8_fun 54 = .ok (.iload_n 1, 1) := by decide +kernel
theorem dX8_fun_55 : decode cX8_fun 55 = .ok (.invokevirtual 140, 3) := by decide +kernel
theorem dX8_fun_58 : decode cX8_fun 58 = .ok (.isub, 1) := by decide +kernel
theorem dX8_fun_59 : decode cX8_fun 59 = .ok (.invokestatic 143, 3) := by decide +kernel
theorem dX8_fun_62 : decode cX8_fun 62 = .ok (.istore_n 2, 1) := by decide +kernel
theorem dX8_fun_63 : decode cX8_fun 63 = .ok (.iload_n 2, 1) := by decide +kernel
theorem dX8_fun_64 : decode cX8_fun 64 = .ok (.aload_n 0, 1) := by decide +kernel
theorem dX8_fun_65 : decode cX8_fun 65 = .ok (.getfield 21, 3) := by decide +kernel
theorem dX8_fun_68 : decode cX8_fun 68 = .ok (.invokevirtual 230, 3) := by decide +kernel
theorem dX8_fun_71 : decode cX8_fun 71 = .ok (.if_icmp .gt 7, 3) := by decide +kernel
theorem dX8_fun_74 : decode cX8_fun 74 = .ok (.iload_n 2, 1) := by decide +kernel
theorem dX8_fun_75 : decode cX8_fun 75 = .ok (.goto 5, 3) := by decide +kernel
theorem dX8_fun_78 : decode cX8_fun 78 = .ok (.bipush (-9), 2) := by decide +kernel
theorem dX8_fun_80 : decode cX8_fun 80 = .ok (.ireturn, 1) := by decide +kernel
theorem dX8_jester_0 : decode cX8_jester 0 = .ok (.iconst 0, 1) := by decide +kernel
theorem dX8_jester_1 : decode cX8_jester 1 = .ok (.istore_n 1, 1) := by decide +kernel
theorem dX8_jester_2 : decode cX8_jester 2 = .ok (.iload_n 1, 1) := by decide +kernel
theorem dX8_jester_3 : decode cX8_jester 3 = .ok (.aload_n 0, 1) := by decide +kernel
theorem dX8_jester_4 : decode cX8_jester 4 = .ok (.getfield 21, 3) := by decide +kernel
theorem dX8_jester_7 : decode cX8_jester 7 = .ok (.getfield 116, 3) := by decide +kernel
theorem dX8_jester_10 : decode cX8_jester 10 = .ok (.if_icmp .ge 33, 3) := by decide +kernel
theorem dX8_jester_13 : decode cX8_jester 13 = .ok (.aload_n 0, 1) := by decide +kernel
theorem dX8_jester_14 : decode cX8_jester 14 = .ok (.getfield 21, 3) := by decide +kernel
theorem dX8_jester_17 : decode cX8_jester 17 = .ok (.iload_n 1, 1) := by decide +kernel
theorem dX8_jester_18 : decode cX8_jester 18 = .ok (.invokevirtual 180, 3) := by decide +kernel
theorem dX8_jester_21 : decode cX8_jester 21 = .ok (.ifCond .eq 16, 3) := by decide +kernel
theorem dX8_jester_24 : decode cX8_jester 24 = .ok (.aload_n 0, 1) := by decide +kernel
theorem dX8_jester_25 : decode cX8_jester 25 = .ok (.aload_n 0, 1) := by decide +kernel
theorem dX8_jester_26 : decode cX8_jester 26 = .ok (.getfield 21, 3) := by decide +kernel
theorem dX8_jester_29 : decode cX8_jester 29 = .ok (.invokevirtual 183, 3) := by decide +kernel
theorem dX8_jester_32 : decode cX8_jester 32 = .ok (.putfield 51, 3) := by decide +kernel
theorem dX8_jester_35 : decode cX8_jester 35 = .ok (.iload_n 1, 1) := by decide +kernel
theorem dX8_jester_36 : decode cX8_jester 36 = .ok (.ireturn, 1) := by decide +kernel
theorem dX8_jester_37 : decode cX8_jester 37 = .ok (.iinc 1 1, 3) := by decide +kernel
theorem dX8_jester_40 : decode cX8_jester 40 = .ok (.goto (-38), 3) := by decide +kernel
theorem dX8_jester_43 : decode cX8_jester 43 = .ok (.bipush (-9), 2) := by decide +kernel
theorem dX8_jester_45 : decode cX8_jester 45 = .ok (.ireturn, 1) := by decide +kernel
theorem dX8_ways_0 : decode cX8_ways 0 = .ok (.aload_n 0, 1) := by decide +kernel
theorem dX8_ways_1 : decode cX8_ways 1 = .ok (.getfield 21, 3) := by decide +kernel
theorem dX8_ways_4 : decode cX8_ways 4 = .ok (.invokevirtual 239, 3) := by decide +kernel
theorem dX8_ways_7 : decode cX8_ways 7 = .ok (.ireturn, 1) := by decide +kernel
theorem dX8_feed_0 : decode cX8_feed 0 = .ok (.aload_n 0, 1) := by decide +kernel
theorem dX8_feed_1 : decode cX8_feed 1 = .ok (.getfield 21, 3) := by decide +kernel
theorem dX8_feed_4 : decode cX8_feed 4 = .ok (.iload_n 1, 1) := by decide +kernel
theorem dX8_feed_5 : decode cX8_feed 5 = .ok (.invokevirtual 119, 3) := by decide +kernel
theorem dX8_feed_8 : decode cX8_feed 8 = .ok (.ifCond .eq 19, 3) := by decide +kernel
theorem dX8_feed_11 : decode cX8_feed 11 = .ok (.aload_n 0, 1) := by decide +kernel
theorem dX8_feed_12 : decode cX8_feed 12 = .ok (.getfield 21, 3) := by decide +kernel
theorem dX8_feed_15 : decode cX8_feed 15 = .ok (.iload_n 2, 1) := by decide +kernel
theorem dX8_feed_16 : decode cX8_feed 16 = .ok (.invokevirtual 119, 3) := by decide +kernel
theorem dX8_feed_19 : decode cX8_feed 19 = .ok (.ifCond .eq 8, 3) := by decide +kernel
theorem dX8_feed_22 : decode cX8_feed 22 = .ok (.iload_n 1, 1) := by decide +kernel
theorem dX8_feed_23 : decode cX8_feed 23 = .ok (.iload_n 2, 1) := by decide +kernel
theorem dX8_feed_24 : decode cX8_feed 24 = .ok (.if_icmp .ne 5, 3) := by decide +kernel
theorem dX8_feed_27 : decode cX8_feed 27 = .ok (.iconst (-1), 1) := by decide +kernel
theorem dX8_feed_28 : decode cX8_feed 28 = .ok (.ireturn, 1) := by decide +kernel
theorem dX8_feed_29 : decode cX8_feed 29 = .ok (.aload_n 0, 1) := by decide +kernel
theorem dX8_feed_30 : decode cX8_feed 30 = .ok (.getfield 21, 3) := by decide +kernel
theorem dX8_feed_33 : decode cX8_feed 33 = .ok (.iload_n 1, 1) := by decide +kernel
theorem dX8_feed_34 : decode cX8_feed 34 = .ok (.invokevirtual 131, 3) := by decide +kernel
theorem dX8_feed_37 : decode cX8_feed 37 = .ok (.ifCond .eq 14, 3) := by decide +kernel
theorem dX8_feed_40 : decode cX8_feed 40 = .ok (.aload_n 0, 1) := by decide +kernel
theorem dX8_feed_41 : decode cX8_feed 41 = .ok (.getfield 21, 3) := by decide +kernel
theorem dX8_feed_44 : decode cX8_feed 44 = .ok (.iload_n 2, 1) := by decide +kernel
theorem dX8_feed_45 : decode cX8_feed 45 = .ok (.invokevirtual 131, 3) := by decide +kernel
theorem dX8_feed_48 : decode cX8_feed 48 = .ok (.ifCond .ne 6, 3) := by decide +kernel
theorem dX8_feed_51 : decode cX8_feed 51 = .ok (.bipush (-4), 2) := by decide +kernel
theorem dX8_feed_53 : decode cX8_feed 53 = .ok (.ireturn, 1) := by decide +kernel
theorem dX8_feed_54 : decode cX8_feed 54 = .ok (.aload_n 0, 1) := by decide +kernel
theorem dX8_feed_55 : decode cX8_feed 55 = .ok (.getfield 21, 3) := by decide +kernel
theorem dX8_feed_58 : decode cX8_feed 58 = .ok (.iload_n 1, 1) := by decide +kernel
theorem dX8_feed_59 : decode cX8_feed 59 = .ok (.iload_n 2, 1) := by decide +kernel
theorem dX8_feed_60 : decode cX8_feed 60 = .ok (.invokestatic 242, 3) := by decide +kernel
theorem dX8_feed_63 : decode cX8_feed 63 = .ok (.ireturn, 1) := by decide +kernel
theorem dX8_spoons_0 : decode cX8_spoons 0 = .ok (.aload_n 0, 1) := by decide +kernel
theorem dX8_spoons_1 : decode cX8_spoons 1 = .ok (.aload_n 0, 1) := by decide +kernel
theorem dX8_spoons_2 : decode cX8_spoons 2 = .ok (.getfield 32, 3) := by decide +kernel
theorem dX8_spoons_5 : decode cX8_spoons 5 = .ok (.aload_n 0, 1) := by decide +kernel
theorem dX8_spoons_6 : decode cX8_spoons 6 = .ok (.getfield 21, 3) := by decide +kernel
theorem dX8_spoons_9 : decode cX8_spoons 9 = .ok (.invokevirtual 245, 3) := by decide +kernel
theorem dX8_spoons_12 : decode cX8_spoons 12 = .ok (.putfield 51, 3) := by decide +kernel
theorem dX8_spoons_15 : decode cX8_spoons 15 = .ok (.aload_n 0, 1) := by decide +kernel
theorem dX8_spoons_16 : decode cX8_spoons 16 = .ok (.getfield 51, 3) := by decide +kernel
theorem dX8_spoons_19 : decode cX8_spoons 19 = .ok (.invokestatic 159, 3) := by decide +kernel
theorem dX8_spoons_22 : decode cX8_spoons 22 = .ok (.ireturn, 1) := by decide +kernel
theorem dX8_orders_0 : decode cX8_orders 0 = .ok (.aload_n 0, 1) := by decide +kernel
theorem dX8_orders_1 : decode cX8_orders 1 = .ok (.getfield 39, 3) := by decide +kernel
theorem dX8_orders_4 : decode cX8_orders 4 = .ok (.aload_n 0, 1) := by decide +kernel
theorem dX8_orders_5 : decode cX8_orders 5 = .ok (.getfield 21, 3) := by decide +kernel
theorem dX8_orders_8 : decode cX8_orders 8 = .ok (.invokevirtual 249, 3) := by decide +kernel
theorem dX8_orders_11 : decode cX8_orders 11 = .ok (.aload_n 0, 1) := by decide +kernel
theorem dX8_orders_12 : decode cX8_orders 12 = .ok (.aload_n 0, 1) := by decide +kernel
theorem dX8_orders_13 : decode cX8_orders 13 = .ok (.getfield 39, 3) := by decide +kernel
theorem dX8_orders_16 : decode cX8_orders 16 = .ok (.invokevirtual 252, 3) := by decide +kernel
theorem dX8_orders_19 : decode cX8_orders 19 = .ok (.i2l, 1) := by decide +kernel
theorem dX8_orders_20 : decode cX8_orders 20 = .ok (.lconst 1, 1) := by decide +kernel
theorem dX8_orders_21 : decode cX8_orders 21 = .ok (.invokevirtual 255, 3) := by decide +kernel
theorem dX8_orders_24 : decode cX8_orders 24 = .ok (.iconst 1, 1) := by decide +kernel
theorem dX8_orders_25 : decode cX8_orders 25 = .ok (.ireturn, 1) := by decide +kernel
theorem dX8_came_0 : decode cX8_came 0 = .ok (.aload_n 0, 1) := by decide +kernel
theorem dX8_came_1 : decode cX8_came 1 = .ok (.getfield 21, 3) := by decide +kernel
theorem dX8_came_4 : decode cX8_came 4 = .ok (.iload_n 1, 1) := by decide +kernel
theorem dX8_came_5 : decode cX8_came 5 = .ok (.invokevirtual 119, 3) := by decide +kernel
theorem dX8_came_8 : decode cX8_came 8 = .ok (.ifCond .eq 7, 3) := by decide +kernel
theorem dX8_came_11 : decode cX8_came 11 = .ok (.iload_n 2, 1) := by decide +kernel
theorem dX8_came_12 : decode cX8_came 12 = .ok (.ifCond .ge 5, 3) := by decide +kernel
theorem dX8_came_15 : decode cX8_came 15 = .ok (.iconst (-1), 1) := by decide +kernel
theorem dX8_came_16 : decode cX8_came 16 = .ok (.ireturn, 1) := by decide +kernel
theorem dX8_came_17 : decode cX8_came 17 = .ok (.aload_n 0, 1) := by decide +kernel
theorem dX8_came_18 : decode cX8_came 18 = .ok (.getfield 21, 3) := by decide +kernel
theorem dX8_came_21 : decode cX8_came 21 = .ok (.invokevirtual 195, 3) := by decide +kernel
theorem dX8_came_24 : decode cX8_came 24 = .ok (.ifCond .ne 9, 3) := by decide +kernel
theorem dX8_came_27 : decode cX8_came 27 = .ok (.aload_n 0, 1) := by decide +kernel
theorem dX8_came_28 : decode cX8_came 28 = .ok (.iconst 4, 1) := by decide +kernel
theorem dX8_came_29 : decode cX8_came 29 = .ok (.invokevirtual 68, 3) := by decide +kernel
theorem dX8_came_32 : decode cX8_came 32 = .ok (.ireturn, 1) := by decide +kernel
theorem dX8_came_33 : decode cX8_came 33 = .ok (.aload_n 0, 1) := by decide +kernel
theorem dX8_came_34 : decode cX8_came 34 = .ok (.getfield 39, 3) := by decide +kernel
theorem dX8_came_37 : decode cX8_came 37 = .ok (.aload_n 0, 1) := by decide +kernel
theorem dX8_came_38 : decode cX8_came 38 = .ok (.getfield 21, 3) := by decide +kernel
theorem dX8_came_41 : decode cX8_came 41 = .ok (.invokevirtual 249, 3) := by decide +kernel
theorem dX8_came_44 : decode cX8_came 44 = .ok (.aload_n 0, 1) := by decide +kernel
theorem dX8_came_45 : decode cX8_came 45 = .ok (.aload_n 0, 1) := by decide +kernel
theorem dX8_came_46 : decode cX8_came 46 = .ok (.getfield 39, 3) := by decide +kernel
theorem dX8_came_49 : decode cX8_came 49 = .ok (.iload_n 1, 1) := by decide +kernel
theorem dX8_came_50 : decode cX8_came 50 = .ok (.iload_n 2, 1) := by decide +kernel
theorem dX8_came_51 : decode cX8_came 51 = .ok (.invokevirtual 259, 3) := by decide +kernel
theorem dX8_came_54 : decode cX8_came 54 = .ok (.i2l, 1) := by decide +kernel
theorem dX8_came_55 : decode cX8_came 55 = .ok (.aload_n 0, 1) := by decide +kernel
theorem dX8_came_56 : decode cX8_came 56 = .ok (.getfield 39, 3) := by decide +kernel
theorem dX8_came_59 : decode cX8_came 59 = .ok (.invokevirtual 252, 3) := by decide +kernel
theorem dX8_came_62 : decode cX8_came 62 = .ok (.i2l, 1) := by decide +kernel
theorem dX8_came_63 : decode cX8_came 63 = .ok (.invokevirtual 255, 3) := by decide +kernel
theorem dX8_came_66 : decode cX8_came 66 = .ok (.iconst 1, 1) := by decide +kernel
theorem dX8_came_67 : decode cX8_came 67 = .ok (.ireturn, 1) := by decide +kernel
theorem dX8_ahead_0 : decode cX8_ahead 0 = .ok (.aload_n 0, 1) := by decide +kernel
theorem dX8_ahead_1 : decode cX8_ahead 1 = .ok (.getfield 21, 3) := by decide +kernel
theorem dX8_ahead_4 : decode cX8_ahead 4 = .ok (.iload_n 1, 1) := by decide +kernel
theorem dX8_ahead_5 : decode cX8_ahead 5 = .ok (.invokevirtual 131, 3) := by decide +kernel
theorem dX8_ahead_8 : decode cX8_ahead 8 = .ok (.ifCond .eq 19, 3) := by decide +kernel
theorem dX8_ahead_11 : decode cX8_ahead 11 = .ok (.aload_n 0, 1) := by decide +kernel
theorem dX8_ahead_12 : decode cX8_ahead 12 = .ok (.getfield 21, 3) := by decide +kernel
theorem dX8_ahead_15 : decode cX8_ahead 15 = .ok (.iload_n 2, 1) := by decide +kernel
theorem dX8_ahead_16 : decode cX8_ahead 16 = .ok (.invokevirtual 131, 3) := by decide +kernel
theorem dX8_ahead_19 : decode cX8_ahead 19 = .ok (.ifCond .eq 8, 3) := by decide +kernel
theorem dX8_ahead_22 : decode cX8_ahead 22 = .ok (.iload_n 1, 1) := by decide +kernel
theorem dX8_ahead_23 : decode cX8_ahead 23 = .ok (.iload_n 2, 1) := by decide +kernel
theorem dX8_ahead_24 : decode cX8_ahead 24 = .ok (.if_icmp .ne 5, 3) := by decide +kernel
theorem dX8_ahead_27 : decode cX8_ahead 27 = .ok (.iconst (-1), 1) := by decide +kernel
theorem dX8_ahead_28 : decode cX8_ahead 28 = .ok (.ireturn, 1) := by decide +kernel
theorem dX8_ahead_29 : decode cX8_ahead 29 = .ok (.aload_n 0, 1) := by decide +kernel
theorem dX8_ahead_30 : decode cX8_ahead 30 = .ok (.getfield 39, 3) := by decide +kernel
theorem dX8_ahead_33 : decode cX8_ahead 33 = .ok (.aload_n 0, 1) := by decide +kernel
theorem dX8_ahead_34 : decode cX8_ahead 34 = .ok (.getfield 21, 3) := by decide +kernel
theorem dX8_ahead_37 : decode cX8_ahead 37 = .ok (.invokevirtual 249, 3) := by decide +kernel
theorem dX8_ahead_40 : decode cX8_ahead 40 = .ok (.aload_n 0, 1) := by decide +kernel
theorem dX8_ahead_41 : decode cX8_ahead 41 = .ok (.aload_n 0, 1) := by decide +kernel
theorem dX8_ahead_42 : decode cX8_ahead 42 = .ok (.getfield 39, 3) := by decide +kernel
theorem dX8_ahead_45 : decode cX8_ahead 45 = .ok (.iload_n 1, 1) := by decide +kernel
theorem dX8_ahead_46 : decode cX8_ahead 46 = .ok (.iload_n 2, 1) := by decide +kernel
theorem dX8_ahead_47 : decode cX8_ahead 47 = .ok (.invokevirtual 262, 3) := by decide +kernel
theorem dX8_ahead_50 : decode cX8_ahead 50 = .ok (.i2l, 1) := by decide +kernel
theorem dX8_ahead_51 : decode cX8_ahead 51 = .ok (.aload_n 0, 1) := by decide +kernel
theorem dX8_ahead_52 : decode cX8_ahead 52 = .ok (.getfield 39, 3) := by decide +kernel
theorem dX8_ahead_55 : decode cX8_ahead 55 = .ok (.invokevirtual 252, 3) := by decide +kernel
theorem dX8_ahead_58 : decode cX8_ahead 58 = .ok (.i2l, 1) := by decide +kernel
theorem dX8_ahead_59 : decode cX8_ahead 59 = .ok (.invokevirtual 255, 3) := by decide +kernel
theorem dX8_ahead_62 : decode cX8_ahead 62 = .ok (.iconst 1, 1) := by decide +kernel
theorem dX8_ahead_63 : decode cX8_ahead 63 = .ok (.ireturn, 1) := by decide +kernel
theorem dX8_nth_0 : decode cX8_nth 0 = .ok (.iload_n 1, 1) := by decide +kernel
theorem dX8_nth_1 : decode cX8_nth 1 = .ok (.ifCond .lt 10, 3) := by decide +kernel
theorem dX8_nth_4 : decode cX8_nth 4 = .ok (.iload_n 2, 1) := by decide +kernel
theorem dX8_nth_5 : decode cX8_nth 5 = .ok (.invokestatic 64, 3) := by decide +kernel
theorem dX8_nth_8 : decode cX8_nth 8 = .ok (.ifCond .ne 5, 3) := by decide +kernel
theorem dX8_nth_11 : decode cX8_nth 11 = .ok (.iconst (-1), 1) := by decide +kernel
theorem dX8_nth_12 : decode cX8_nth 12 = .ok (.ireturn, 1) := by decide +kernel
theorem dX8_nth_13 : decode cX8_nth 13 = .ok (.aload_n 0, 1) := by decide +kernel
theorem dX8_nth_14 : decode cX8_nth 14 = .ok (.getfield 39, 3) := by decide +kernel
theorem dX8_nth_17 : decode cX8_nth 17 = .ok (.aload_n 0, 1) := by decide +kernel
theorem dX8_nth_18 : decode cX8_nth 18 = .ok (.getfield 21, 3) := by decide +kernel
theorem dX8_nth_21 : decode cX8_nth 21 = .ok (.invokevirtual 249, 3) := by decide +kernel
theorem dX8_nth_24 : decode cX8_nth 24 = .ok (.iload_n 1, 1) := by decide +kernel
theorem dX8_nth_25 : decode cX8_nth 25 = .ok (.aload_n 0, 1) := by decide +kernel
theorem dX8_nth_26 : decode cX8_nth 26 = .ok (.getfield 39, 3) := by decide +kernel
theorem dX8_nth_29 : decode cX8_nth 29 = .ok (.invokevirtual 252, 3) := by decide +kernel
theorem dX8_nth_32 : decode cX8_nth 32 = .ok (.if_icmp .lt 9, 3) := by decide +kernel
theorem dX8_nth_35 : decode cX8_nth 35 = .ok (.aload_n 0, 1) := by decide +kernel
theorem dX8_nth_36 : decode cX8_nth 36 = .ok (.iconst 4, 1) := by decide +kernel
theorem dX8_nth_37 : decode cX8_nth 37 = .ok (.invokevirtual 68, 3) := by decide +kernel
theorem dX8_nth_40 : decode cX8_nth 40 = .ok (.ireturn, 1) := by decide +kernel
theorem dX8_nth_41 : decode cX8_nth 41 = .ok (.aload_n 0, 1) := by decide +kernel
theorem dX8_nth_42 : decode cX8_nth 42 = .ok (.getfield 39, 3) := by decide +kernel
theorem dX8_nth_45 : decode cX8_nth 45 = .ok (.iload_n 1, 1) := by decide +kernel
theorem dX8_nth_46 : decode cX8_nth 46 = .ok (.aload_n 0, 1) := by decide +kernel
theorem dX8_nth_47 : decode cX8_nth 47 = .ok (.getfield 11, 3) := by decide +kernel
theorem dX8_nth_50 : decode cX8_nth 50 = .ok (.iload_n 2, 1) := by decide +kernel
theorem dX8_nth_51 : decode cX8_nth 51 = .ok (.aaload, 1) := by decide +kernel
theorem dX8_nth_52 : decode cX8_nth 52 = .ok (.invokevirtual 265, 3) := by decide +kernel
theorem dX8_nth_55 : decode cX8_nth 55 = .ok (.iconst 1, 1) := by decide +kernel
theorem dX8_nth_56 : decode cX8_nth 56 = .ok (.ireturn, 1) := by decide +kernel
theorem dX8_gold_0 : decode cX8_gold 0 = .ok (.iload_n 1, 1) := by decide +kernel
theorem dX8_gold_1 : decode cX8_gold 1 = .ok (.ifCond .lt 16, 3) := by decide +kernel
theorem dX8_gold_4 : decode cX8_gold 4 = .ok (.iload_n 1, 1) := by decide +kernel
theorem dX8_gold_5 : decode cX8_gold 5 = .ok (.bipush 99, 2) := by decide +kernel
theorem dX8_gold_7 : decode cX8_gold 7 = .ok (.if_icmp .gt 10, 3) := by decide +kernel
theorem dX8_gold_10 : decode cX8_gold 10 = .ok (.iload_n 2, 1) := by decide +kernel
theorem dX8_gold_11 : decode cX8_gold 11 = .ok (.invokestatic 64, 3) := by decide +kernel
theorem dX8_gold_14 : decode cX8_gold 14 = .ok (.ifCond .ne 5, 3) := by decide +kernel
theorem dX8_gold_17 : decode cX8_gold 17 = .ok (.iconst (-1), 1) := by decide +kernel
theorem dX8_gold_18 : decode cX8_gold 18 = .ok (.ireturn, 1) := by decide +kernel
theorem dX8_gold_19 : decode cX8_gold 19 = .ok (.aload_n 0, 1) := by decide +kernel
theorem dX8_gold_20 : decode cX8_gold 20 = .ok (.getfield 11, 3) := by decide +kernel
theorem dX8_gold_23 : decode cX8_gold 23 = .ok (.iload_n 2, 1) := by decide +kernel
theorem dX8_gold_24 : decode cX8_gold 24 = .ok (.aaload, 1) := by decide +kernel
theorem dX8_gold_25 : decode cX8_gold 25 = .ok (.aload_n 0, 1) := by decide +kernel
theorem dX8_gold_26 : decode cX8_gold 26 = .ok (.getfield 21, 3) := by decide +kernel
theorem dX8_gold_29 : decode cX8_gold 29 = .ok (.getfield 116, 3) := by decide +kernel
theorem dX8_gold_32 : decode cX8_gold 32 = .ok (.iconst 0, 1) := by decide +kernel
theorem dX8_gold_33 : decode cX8_gold 33 = .ok (.invokevirtual 72, 3) := by decide +kernel
theorem dX8_gold_36 : decode cX8_gold 36 = .ok (.aload_n 0, 1) := by decide +kernel
theorem dX8_gold_37 : decode cX8_gold 37 = .ok (.getfield 21, 3) := by decide +kernel
theorem dX8_gold_40 : decode cX8_gold 40 = .ok (.bipush 9, 2) := by decide +kernel
theorem dX8_gold_42 : decode cX8_gold 42 = .ok (.invokevirtual 198, 3) := by decide +kernel
theorem dX8_gold_45 : decode cX8_gold 45 = .ok (.ifCond .ne 5, 3) := by decide +kernel
theorem dX8_gold_48 : decode cX8_gold 48 = .ok (.iload_n 1, 1) := by decide +kernel
theorem dX8_gold_49 : decode cX8_gold 49 = .ok (.ireturn, 1) := by decide +kernel
theorem dX8_gold_50 : decode cX8_gold 50 = .ok (.aload_n 0, 1) := by decide +kernel
theorem dX8_gold_51 : decode cX8_gold 51 = .ok (.getfield 21, 3) := by decide +kernel
theorem dX8_gold_54 : decode cX8_gold 54 = .ok (.bipush 9, 2) := by decide +kernel
theorem dX8_gold_56 : decode cX8_gold 56 = .ok (.iload_n 1, 1) := by decide +kernel
theorem dX8_gold_57 : decode cX8_gold 57 = .ok (.aload_n 0, 1) := by decide +kernel
theorem dX8_gold_58 : decode cX8_gold 58 = .ok (.getfield 11, 3) := by decide +kernel
theorem dX8_gold_61 : decode cX8_gold 61 = .ok (.iload_n 2, 1) := by decide +kernel
theorem dX8_gold_62 : decode cX8_gold 62 = .ok (.aaload, 1) := by decide +kernel
theorem dX8_gold_63 : decode cX8_gold 63 = .ok (.invokestatic 269, 3) := by decide +kernel
theorem dX8_gold_66 : decode cX8_gold 66 = .ok (.iconst 1, 1) := by decide +kernel
theorem dX8_gold_67 : decode cX8_gold 67 = .ok (.istore_n 3, 1) := by decide +kernel
theorem dX8_gold_68 : decode cX8_gold 68 = .ok (.iload_n 3, 1) := by decide +kernel
theorem dX8_gold_69 : decode cX8_gold 69 = .ok (.bipush 7, 2) := by decide +kernel
theorem dX8_gold_71 : decode cX8_gold 71 = .ok (.if_icmp .gt 23, 3) := by decide +kernel
theorem dX8_gold_74 : decode cX8_gold 74 = .ok (.aload_n 0, 1) := by decide +kernel
theorem dX8_gold_75 : decode cX8_gold 75 = .ok (.getfield 21, 3) := by decide +kernel
theorem dX8_gold_78 : decode cX8_gold 78 = .ok (.iload_n 3, 1) := by decide +kernel
theorem dX8_gold_79 : decode cX8_gold 79 = .ok (.aload_n 0, 1) := by decide +kernel
theorem dX8_gold_80 : decode cX8_gold 80 = .ok (.getfield 11, 3) := by decide +kernel
theorem dX8_gold_83 : decode cX8_gold 83 = .ok (.iload_n 2, 1) := by decide +kernel
theorem dX8_gold_84 : decode cX8_gold 84 = .ok (.aaload, 1) := by decide +kernel
theorem dX8_gold_85 : decode cX8_gold 85 = .ok (.invokestatic 275, 3) := by decide +kernel
theorem dX8_gold_88 : decode cX8_gold 88 = .ok (.iinc 3 1, 3) := by decide +kernel
theorem dX8_gold_91 : decode cX8_gold 91 = .ok (.goto (-23), 3) := by decide +kernel
theorem dX8_gold_94 : decode cX8_gold 94 = .ok (.iconst 0, 1) := by decide +kernel
theorem dX8_gold_95 : decode cX8_gold 95 = .ok (.ireturn, 1) := by decide +kernel
theorem dX8_tastes_0 : decode cX8_tastes 0 = .ok (.aload_n 0, 1) := by decide +kernel
theorem dX8_tastes_1 : decode cX8_tastes 1 = .ok (.iload_n 1, 1) := by decide +kernel
theorem dX8_tastes_2 : decode cX8_tastes 2 = .ok (.iconst 0, 1) := by decide +kernel
theorem dX8_tastes_3 : decode cX8_tastes 3 = .ok (.invokevirtual 279, 3) := by decide +kernel
theorem dX8_tastes_6 : decode cX8_tastes 6 = .ok (.ireturn, 1) := by decide +kernel
theorem dX8_sour_0 : decode cX8_sour 0 = .ok (.aload_n 0, 1) := by decide +kernel
theorem dX8_sour_1 : decode cX8_sour 1 = .ok (.iload_n 1, 1) := by decide +kernel
theorem dX8_sour_2 : decode cX8_sour 2 = .ok (.iconst 1, 1) := by decide +kernel
theorem dX8_sour_3 : decode cX8_sour 3 = .ok (.invokevirtual 279, 3) := by decide +kernel
theorem dX8_sour_6 : decode cX8_sour 6 = .ok (.ireturn, 1) := by decide +kernel
theorem dX8_lots_0 : decode cX8_lots 0 = .ok (.iload_n 1, 1) := by decide +kernel
theorem dX8_lots_1 : decode cX8_lots 1 = .ok (.iconst 1, 1) := by decide +kernel
theorem dX8_lots_2 : decode cX8_lots 2 = .ok (.if_icmp .lt 23, 3) := by decide +kernel
theorem dX8_lots_5 : decode cX8_lots 5 = .ok (.iload_n 1, 1) := by decide +kernel
theorem dX8_lots_6 : decode cX8_lots 6 = .ok (.bipush 40, 2) := by decide +kernel
theorem dX8_lots_8 : decode cX8_lots 8 = .ok (.if_icmp .gt 17, 3) := by decide +kernel
theorem dX8_lots_11 : decode cX8_lots 11 = .ok (.iload_n 2, 1) := by decide +kernel
theorem dX8_lots_12 : decode cX8_lots 12 = .ok (.iconst 1, 1) := by decide +kernel
theorem dX8_lots_13 : decode cX8_lots 13 = .ok (.if_icmp .lt 12, 3) := by decide +kernel
theorem dX8_lots_16 : decode cX8_lots 16 = .ok (.iload_n 2, 1) := by decide +kernel
theorem dX8_lots_17 : decode cX8_lots 17 = .ok (.i2l, 1) := by decide +kernel
theorem dX8_lots_18 : decode cX8_lots 18 = .ok (.ldc2_w 282, 3) := by decide +kernel
theorem dX8_lots_21 : decode cX8_lots 21 = .ok (.lcmp, 1) := by decide +kernel
theorem dX8_lots_22 : decode cX8_lots 22 = .ok (.ifCond .lt 5, 3) := by decide +kernel
theorem dX8_lots_25 : decode cX8_lots 25 = .ok (.iconst (-1), 1) := by decide +kernel
theorem dX8_lots_26 : decode cX8_lots 26 = .ok (.ireturn, 1) := by decide +kernel
theorem dX8_lots_27 : decode cX8_lots 27 = .ok (.aload_n 0, 1) := by decide +kernel
theorem dX8_lots_28 : decode cX8_lots 28 = .ok (.getfield 21, 3) := by decide +kernel
theorem dX8_lots_31 : decode cX8_lots 31 = .ok (.getfield 116, 3) := by decide +kernel
theorem dX8_lots_34 : decode cX8_lots 34 = .ok (.ifCond .ne 6, 3) := by decide +kernel
theorem dX8_lots_37 : decode cX8_lots 37 = .ok (.bipush (-4), 2) := by decide +kernel
theorem dX8_lots_39 : decode cX8_lots 39 = .ok (.ireturn, 1) := by decide +kernel
theorem dX8_lots_40 : decode cX8_lots 40 = .ok (.aload_n 0, 1) := by decide +kernel
theorem dX8_lots_41 : decode cX8_lots 41 = .ok (.getfield 21, 3) := by decide +kernel
theorem dX8_lots_44 : decode cX8_lots 44 = .ok (.getfield 189, 3) := by decide +kernel
theorem dX8_lots_47 : decode cX8_lots 47 = .ok (.iload_n 1, 1) := by decide +kernel
theorem dX8_lots_48 : decode cX8_lots 48 = .ok (.iadd, 1) := by decide +kernel
theorem dX8_lots_49 : decode cX8_lots 49 = .ok (.bipush 60, 2) := by decide +kernel
theorem dX8_lots_51 : decode cX8_lots 51 = .ok (.if_icmp .le 6, 3) := by decide +kernel
theorem dX8_lots_54 : decode cX8_lots 54 = .ok (.bipush (-2), 2) := by decide +kernel
theorem dX8_lots_56 : decode cX8_lots 56 = .ok (.ireturn, 1) := by decide +kernel
theorem dX8_lots_57 : decode cX8_lots 57 = .ok (.iload_n 2, 1) := by decide +kernel
theorem dX8_lots_58 : decode cX8_lots 58 = .ok (.i2l, 1) := by decide +kernel
theorem dX8_lots_59 : decode cX8_lots 59 = .ok (.lstore_n 3, 1) := by decide +kernel
theorem dX8_lots_60 : decode cX8_lots 60 = .ok (.iconst 0, 1) := by decide +kernel
theorem dX8_lots_61 : decode cX8_lots 61 = .ok (.istore 5, 2) := by decide +kernel
theorem dX8_lots_63 : decode cX8_lots 63 = .ok (.iload 5, 2) := by decide +kernel
theorem dX8_lots_65 : decode cX8_lots 65 = .ok (.iload_n 1, 1) := by decide +kernel
theorem dX8_lots_66 : decode cX8_lots 66 = .ok (.if_icmp .ge 49, 3) := by decide +kernel
theorem dX8_lots_69 : decode cX8_lots 69 = .ok (.aload_n 0, 1) := by decide +kernel
theorem dX8_lots_70 : decode cX8_lots 70 = .ok (.getfield 21, 3) := by decide +kernel
theorem dX8_lots_73 : decode cX8_lots 73 = .ok (.invokevirtual 239, 3) := by decide +kernel
theorem dX8_lots_76 : decode cX8_lots 76 = .ok (.istore 6, 2) := by decide +kernel
theorem dX8_lots_78 : decode cX8_lots 78 = .ok (.iload 6, 2) := by decide +kernel
theorem dX8_lots_80 : decode cX8_lots 80 = .ok (.ifCond .gt 6, 3) := by decide +kernel
theorem dX8_lots_83 : decode cX8_lots 83 = .ok (.iload 5, 2) := by decide +kernel
theorem dX8_lots_85 : decode cX8_lots 85 = .ok (.ireturn, 1) := by decide +kernel
theorem dX8_lots_86 : decode cX8_lots 86 = .ok (.lload_n 3, 1) := by decide +kernel
theorem dX8_lots_87 : decode cX8_lots 87 = .ok (.ldc2_w 284, 3) := by decide +kernel
theorem dX8_lots_90 : decode cX8_lots 90 = .ok (.lmul, 1) := by decide +kernel
theorem dX8_lots_91 : decode cX8_lots 91 = .ok (.ldc2_w 282, 3) := by decide +kernel
theorem dX8_lots_94 : decode cX8_lots 94 = .ok (.lrem, 1) := by decide +kernel
theorem dX8_lots_95 : decode cX8_lots 95 = .ok (.lstore_n 3, 1) := by decide +kernel
theorem dX8_lots_96 : decode cX8_lots 96 = .ok (.aload_n 0, 1) := by decide +kernel
theorem dX8_lots_97 : decode cX8_lots 97 = .ok (.getfield 21, 3) := by decide +kernel
theorem dX8_lots_100 : decode cX8_lots 100 = .ok (.lload_n 3, 1) := by decide +kernel
theorem dX8_lots_101 : decode cX8_lots 101 = .ok (.iload 6, 2) := by decide +kernel
theorem dX8_lots_103 : decode cX8_lots 103 = .ok (.i2l, 1) := by decide +kernel
theorem dX8_lots_104 : decode cX8_lots 104 = .ok (.lrem, 1) := by decide +kernel
theorem dX8_lots_105 : decode cX8_lots 105 = .ok (.l2i, 1) := by decide +kernel
theorem dX8_lots_106 : decode cX8_lots 106 = .ok (.invokevirtual 286, 3) := by decide +kernel
theorem dX8_lots_109 : decode cX8_lots 109 = .ok (.iinc 5 1, 3) := by decide +kernel
theorem dX8_lots_112 : decode cX8_lots 112 = .ok (.goto (-49), 3) := by decide +kernel
theorem dX8_lots_115 : decode cX8_lots 115 = .ok (.iload_n 1, 1) := by decide +kernel
theorem dX8_lots_116 : decode cX8_lots 116 = .ok (.ireturn, 1) := by decide +kernel
theorem dX8_asked_0 : decode cX8_asked 0 = .ok (.aload_n 0, 1) := by decide +kernel
theorem dX8_asked_1 : decode cX8_asked 1 = .ok (.getfield 51, 3) := by decide +kernel
theorem dX8_asked_4 : decode cX8_asked 4 = .ok (.ireturn, 1) := by decide +kernel
theorem dX8_upper_0 : decode cX8_upper 0 = .ok (.aload_n 0, 1) := by decide +kernel
theorem dX8_upper_1 : decode cX8_upper 1 = .ok (.getfield 54, 3) := by decide +kernel
theorem dX8_upper_4 : decode cX8_upper 4 = .ok (.lreturn, 1) := by decide +kernel
theorem dX8_lower_0 : decode cX8_lower 0 = .ok (.aload_n 0, 1) := by decide +kernel
theorem dX8_lower_1 : decode cX8_lower 1 = .ok (.getfield 58, 3) := by decide +kernel
theorem dX8_lower_4 : decode cX8_lower 4 = .ok (.lreturn, 1) := by decide +kernel
theorem dX8_count_0 : decode cX8_count 0 = .ok (.iload_n 1, 1) := by decide +kernel
theorem dX8_count_1 : decode cX8_count 1 = .ok (.ifCond .lt 9, 3) := by decide +kernel
theorem dX8_count_4 : decode cX8_count 4 = .ok (.iload_n 1, 1) := by decide +kernel
theorem dX8_count_5 : decode cX8_count 5 = .ok (.bipush 9, 2) := by decide +kernel
theorem dX8_count_7 : decode cX8_count 7 = .ok (.if_icmp .lt 5, 3) := by decide +kernel
theorem dX8_count_10 : decode cX8_count 10 = .ok (.iconst (-1), 1) := by decide +kernel
theorem dX8_count_11 : decode cX8_count 11 = .ok (.ireturn, 1) := by decide +kernel
theorem dX8_count_12 : decode cX8_count 12 = .ok (.aload_n 0, 1) := by decide +kernel
theorem dX8_count_13 : decode cX8_count 13 = .ok (.iload_n 1, 1) := by decide +kernel
theorem dX8_count_14 : decode cX8_count 14 = .ok (.invokevirtual 289, 3) := by decide +kernel
theorem dX8_count_17 : decode cX8_count 17 = .ok (.ireturn, 1) := by decide +kernel
theorem dX8_finding_0 : decode cX8_finding 0 = .ok (.aload_n 0, 1) := by decide +kernel
theorem dX8_finding_1 : decode cX8_finding 1 = .ok (.getfield 47, 3) := by decide +kernel
theorem dX8_finding_4 : decode cX8_finding 4 = .ok (.ireturn, 1) := by decide +kernel
theorem dX8_findings_0 : decode cX8_findings 0 = .ok (.iload_n 1, 1) := by decide +kernel
theorem dX8_findings_1 : decode cX8_findings 1 = .ok (.iconst 1, 1) := by decide +kernel
theorem dX8_findings_2 : decode cX8_findings 2 = .ok (.if_icmp .lt 8, 3) := by decide +kernel
theorem dX8_findings_5 : decode cX8_findings 5 = .ok (.iload_n 1, 1) := by decide +kernel
theorem dX8_findings_6 : decode cX8_findings 6 = .ok (.iconst 5, 1) := by decide +kernel
theorem dX8_findings_7 : decode cX8_findings 7 = .ok (.if_icmp .le 5, 3) := by decide +kernel
theorem dX8_findings_10 : decode cX8_findings 10 = .ok (.iconst (-1), 1) := by decide +kernel
theorem dX8_findings_11 : decode cX8_findings 11 = .ok (.ireturn, 1) := by decide +kernel
theorem dX8_findings_12 : decode cX8_findings 12 = .ok (.aload_n 0, 1) := by decide +kernel
theorem dX8_findings_13 : decode cX8_findings 13 = .ok (.getfield 43, 3) := by decide +kernel
theorem dX8_findings_16 : decode cX8_findings 16 = .ok (.iload_n 1, 1) := by decide +kernel
theorem dX8_findings_17 : decode cX8_findings 17 = .ok (.iaload, 1) := by decide +kernel
theorem dX8_findings_18 : decode cX8_findings 18 = .ok (.ireturn, 1) := by decide +kernel
theorem dX8_digest_0 : decode cX8_digest 0 = .ok (.ldc2_w 292, 3) := by decide +kernel
theorem dX8_digest_3 : decode cX8_digest 3 = .ok (.lstore_n 1, 1) := by decide +kernel
theorem dX8_digest_4 : decode cX8_digest 4 = .ok (.iconst 0, 1) := by decide +kernel
theorem dX8_digest_5 : decode cX8_digest 5 = .ok (.istore_n 3, 1) := by decide +kernel
theorem dX8_digest_6 : decode cX8_digest 6 = .ok (.iload_n 3, 1) := by decide +kernel
theorem dX8_digest_7 : decode cX8_digest 7 = .ok (.bipush 9, 2) := by decide +kernel
theorem dX8_digest_9 : decode cX8_digest 9 = .ok (.if_icmp .ge 22, 3) := by decide +kernel
theorem dX8_digest_12 : decode cX8_digest 12 = .ok (.ldc2_w 294, 3) := by decide +kernel
theorem dX8_digest_15 : decode cX8_digest 15 = .ok (.lload_n 1, 1) := by decide +kernel
theorem dX8_digest_16 : decode cX8_digest 16 = .ok (.lmul, 1) := by decide +kernel
theorem dX8_digest_17 : decode cX8_digest 17 = .ok (.aload_n 0, 1) := by decide +kernel
theorem dX8_digest_18 : decode cX8_digest 18 = .ok (.iload_n 3, 1) := by decide +kernel
theorem dX8_digest_19 : decode cX8_digest 19 = .ok (.invokevirtual 289, 3) := by decide +kernel
theorem dX8_digest_22 : decode cX8_digest 22 = .ok (.i2l, 1) := by decide +kernel
theorem dX8_digest_23 : decode cX8_digest 23 = .ok (.ladd, 1) := by decide +kernel
theorem dX8_digest_24 : decode cX8_digest 24 = .ok (.lstore_n 1, 1) := by decide +kernel
theorem dX8_digest_25 : decode cX8_digest 25 = .ok (.iinc 3 1, 3) := by decide +kernel
theorem dX8_digest_28 : decode cX8_digest 28 = .ok (.goto (-22), 3) := by decide +kernel
theorem dX8_digest_31 : decode cX8_digest 31 = .ok (.iconst 0, 1) := by decide +kernel
theorem dX8_digest_32 : decode cX8_digest 32 = .ok (.istore_n 3, 1) := by decide +kernel
theorem dX8_digest_33 : decode cX8_digest 33 = .ok (.iload_n 3, 1) := by decide +kernel
theorem dX8_digest_34 : decode cX8_digest 34 = .ok (.aload_n 0, 1) := by decide +kernel
theorem dX8_digest_35 : decode cX8_digest 35 = .ok (.getfield 21, 3) := by decide +kernel
theorem dX8_digest_38 : decode cX8_digest 38 = .ok (.getfield 116, 3) := by decide +kernel
theorem dX8_digest_41 : decode cX8_digest 41 = .ok (.if_icmp .ge 40, 3) := by decide +kernel
theorem dX8_digest_44 : decode cX8_digest 44 = .ok (.iconst 0, 1) := by decide +kernel
theorem dX8_digest_45 : decode cX8_digest 45 = .ok (.istore 4, 2) := by decide +kernel
theorem dX8_digest_47 : decode cX8_digest 47 = .ok (.iload 4, 2) := by decide +kernel
theorem dX8_digest_49 : decode cX8_digest 49 = .ok (.bipush 6, 2) := by decide +kernel
theorem dX8_digest_51 : decode cX8_digest 51 = .ok (.if_icmp .ge 24, 3) := by decide +kernel
theorem dX8_digest_54 : decode cX8_digest 54 = .ok (.ldc2_w 294, 3) := by decide +kernel
theorem dX8_digest_57 : decode cX8_digest 57 = .ok (.lload_n 1, 1) := by decide +kernel
theorem dX8_digest_58 : decode cX8_digest 58 = .ok (.lmul, 1) := by decide +kernel
theorem dX8_digest_59 : decode cX8_digest 59 = .ok (.aload_n 0, 1) := by decide +kernel
theorem dX8_digest_60 : decode cX8_digest 60 = .ok (.iload_n 3, 1) := by decide +kernel
theorem dX8_digest_61 : decode cX8_digest 61 = .ok (.iload 4, 2) := by decide +kernel
theorem dX8_digest_63 : decode cX8_digest 63 = .ok (.invokevirtual 122, 3) := by decide +kernel
theorem dX8_digest_66 : decode cX8_digest 66 = .ok (.i2l, 1) := by decide +kernel
theorem dX8_digest_67 : decode cX8_digest 67 = .ok (.ladd, 1) := by decide +kernel
theorem dX8_digest_68 : decode cX8_digest 68 = .ok (.lstore_n 1, 1) := by decide +kernel
theorem dX8_digest_69 : decode cX8_digest 69 = .ok (.iinc 4 1, 3) := by decide +kernel
theorem dX8_digest_72 : decode cX8_digest 72 = .ok (.goto (-25), 3) := by decide +kernel
theorem dX8_digest_75 : decode cX8_digest 75 = .ok (.iinc 3 1, 3) := by decide +kernel
theorem dX8_digest_78 : decode cX8_digest 78 = .ok (.goto (-45), 3) := by decide +kernel
theorem dX8_digest_81 : decode cX8_digest 81 = .ok (.iconst 0, 1) := by decide +kernel
theorem dX8_digest_82 : decode cX8_digest 82 = .ok (.istore_n 3, 1) := by decide +kernel
theorem dX8_digest_83 : decode cX8_digest 83 = .ok (.iload_n 3, 1) := by decide +kernel
theorem dX8_digest_84 : decode cX8_digest 84 = .ok (.iconst 3, 1) := by decide +kernel
theorem dX8_digest_85 : decode cX8_digest 85 = .ok (.if_icmp .ge 42, 3) := by decide +kernel
theorem dX8_digest_88 : decode cX8_digest 88 = .ok (.ldc2_w 294, 3) := by decide +kernel
theorem dX8_digest_91 : decode cX8_digest 91 = .ok (.lload_n 1, 1) := by decide +kernel
theorem dX8_digest_92 : decode cX8_digest 92 = .ok (.lmul, 1) := by decide +kernel
theorem dX8_digest_93 : decode cX8_digest 93 = .ok (.aload_n 0, 1) := by decide +kernel
theorem dX8_digest_94 : decode cX8_digest 94 = .ok (.getfield 25, 3) := by decide +kernel
theorem dX8_digest_97 : decode cX8_digest 97 = .ok (.iload_n 3, 1) := by decide +kernel
theorem dX8_digest_98 : decode cX8_digest 98 = .ok (.aaload, 1) := by decide +kernel
theorem dX8_digest_99 : decode cX8_digest 99 = .ok (.getfield 116, 3) := by decide +kernel
theorem dX8_digest_102 : decode cX8_digest 102 = .ok (.ifCond .ne 7, 3) := by decide +kernel
theorem dX8_digest_105 : decode cX8_digest 105 = .ok (.iconst (-1), 1) := by decide +kernel
theorem dX8_digest_106 : decode cX8_digest 106 = .ok (.goto 12, 3) := by decide +kernel
theorem dX8_digest_109 : decode cX8_digest 109 = .ok (.aload_n 0, 1) := by decide +kernel
theorem dX8_digest_110 : decode cX8_digest 110 = .ok (.getfield 25, 3) := by decide +kernel
theorem dX8_digest_113 : decode cX8_digest 113 = .ok (.iload_n 3, 1) := by decide +kernel
theorem dX8_digest_114 : decode cX8_digest 114 = .ok (.aaload, 1) := by decide +kernel
theorem dX8_digest_115 : decode cX8_digest 115 = .ok (.getfield 189, 3) := by decide +kernel
theorem dX8_digest_118 : decode cX8_digest 118 = .ok (.i2l, 1) := by decide +kernel
theorem dX8_digest_119 : decode cX8_digest 119 = .ok (.ladd, 1) := by decide +kernel
theorem dX8_digest_120 : decode cX8_digest 120 = .ok (.lstore_n 1, 1) := by decide +kernel
theorem dX8_digest_121 : decode cX8_digest 121 = .ok (.iinc 3 1, 3) := by decide +kernel
theorem dX8_digest_124 : decode cX8_digest 124 = .ok (.goto (-41), 3) := by decide +kernel
theorem dX8_digest_127 : decode cX8_digest 127 = .ok (.iconst 0, 1) := by decide +kernel
theorem dX8_digest_128 : decode cX8_digest 128 = .ok (.istore_n 3, 1) := by decide +kernel
theorem dX8_digest_129 : decode cX8_digest 129 = .ok (.iload_n 3, 1) := by decide +kernel
theorem dX8_digest_130 : decode cX8_digest 130 = .ok (.bipush 6, 2) := by decide +kernel
theorem dX8_digest_132 : decode cX8_digest 132 = .ok (.if_icmp .ge 20, 3) := by decide +kernel
theorem dX8_digest_135 : decode cX8_digest 135 = .ok (.aload_n 0, 1) := by decide +kernel
theorem dX8_digest_136 : decode cX8_digest 136 = .ok (.getfield 11, 3) := by decide +kernel
theorem dX8_digest_139 : decode cX8_digest 139 = .ok (.iload_n 3, 1) := by decide +kernel
theorem dX8_digest_140 : decode cX8_digest 140 = .ok (.aaload, 1) := by decide +kernel
theorem dX8_digest_141 : decode cX8_digest 141 = .ok (.lload_n 1, 1) := by decide +kernel
theorem dX8_digest_142 : decode cX8_digest 142 = .ok (.invokevirtual 296, 3) := by decide +kernel
theorem dX8_digest_145 : decode cX8_digest 145 = .ok (.lstore_n 1, 1) := by decide +kernel
theorem dX8_digest_146 : decode cX8_digest 146 = .ok (.iinc 3 1, 3) := by decide +kernel
theorem dX8_digest_149 : decode cX8_digest 149 = .ok (.goto (-20), 3) := by decide +kernel
theorem dX8_digest_152 : decode cX8_digest 152 = .ok (.iconst 0, 1) := by decide +kernel
theorem dX8_digest_153 : decode cX8_digest 153 = .ok (.istore_n 3, 1) := by decide +kernel
theorem dX8_digest_154 : decode cX8_digest 154 = .ok (.iload_n 3, 1) := by decide +kernel
theorem dX8_digest_155 : decode cX8_digest 155 = .ok (.iconst 4, 1) := by decide +kernel
theorem dX8_digest_156 : decode cX8_digest 156 = .ok (.if_icmp .ge 20, 3) := by decide +kernel
theorem dX8_digest_159 : decode cX8_digest 159 = .ok (.aload_n 0, 1) := by decide +kernel
theorem dX8_digest_160 : decode cX8_digest 160 = .ok (.getfield 15, 3) := by decide +kernel
theorem dX8_digest_163 : decode cX8_digest 163 = .ok (.iload_n 3, 1) := by decide +kernel
theorem dX8_digest_164 : decode cX8_digest 164 = .ok (.aaload, 1) := by decide +kernel
theorem dX8_digest_165 : decode cX8_digest 165 = .ok (.lload_n 1, 1) := by decide +kernel
theorem dX8_digest_166 : decode cX8_digest 166 = .ok (.invokevirtual 296, 3) := by decide +kernel
theorem dX8_digest_169 : decode cX8_digest 169 = .ok (.lstore_n 1, 1) := by decide +kernel
theorem dX8_digest_170 : decode cX8_digest 170 = .ok (.iinc 3 1, 3) := by decide +kernel
theorem dX8_digest_173 : decode cX8_digest 173 = .ok (.goto (-19), 3) := by decide +kernel
theorem dX8_digest_176 : decode cX8_digest 176 = .ok (.lload_n 1, 1) := by decide +kernel
theorem dX8_digest_177 : decode cX8_digest 177 = .ok (.lreturn, 1) := by decide +kernel
theorem dX8_isRow_0 : decode cX8_isRow 0 = .ok (.iload_n 0, 1) := by decide +kernel
theorem dX8_isRow_1 : decode cX8_isRow 1 = .ok (.ifCond .lt 13, 3) := by decide +kernel
theorem dX8_isRow_4 : decode cX8_isRow 4 = .ok (.iload_n 0, 1) := by decide +kernel
theorem dX8_isRow_5 : decode cX8_isRow 5 = .ok (.bipush 6, 2) := by decide +kernel
theorem dX8_isRow_7 : decode cX8_isRow 7 = .ok (.if_icmp .ge 7, 3) := by decide +kernel
theorem dX8_isRow_10 : decode cX8_isRow 10 = .ok (.iconst 1, 1) := by decide +kernel
theorem dX8_isRow_11 : decode cX8_isRow 11 = .ok (.goto 4, 3) := by decide +kernel
theorem dX8_isRow_14 : decode cX8_isRow 14 = .ok (.iconst 0, 1) := by decide +kernel
theorem dX8_isRow_15 : decode cX8_isRow 15 = .ok (.ireturn, 1) := by decide +kernel
theorem dX8_isText_0 : decode cX8_isText 0 = .ok (.iload_n 0, 1) := by decide +kernel
theorem dX8_isText_1 : decode cX8_isText 1 = .ok (.ifCond .lt 12, 3) := by decide +kernel
theorem dX8_isText_4 : decode cX8_isText 4 = .ok (.iload_n 0, 1) := by decide +kernel
theorem dX8_isText_5 : decode cX8_isText 5 = .ok (.iconst 4, 1) := by decide +kernel
theorem dX8_isText_6 : decode cX8_isText 6 = .ok (.if_icmp .ge 7, 3) := by decide +kernel
theorem dX8_isText_9 : decode cX8_isText 9 = .ok (.iconst 1, 1) := by decide +kernel
theorem dX8_isText_10 : decode cX8_isText 10 = .ok (.goto 4, 3) := by decide +kernel
theorem dX8_isText_13 : decode cX8_isText 13 = .ok (.iconst 0, 1) := by decide +kernel
theorem dX8_isText_14 : decode cX8_isText 14 = .ok (.ireturn, 1) := by decide +kernel
theorem dX8_isKept_0 : decode cX8_isKept 0 = .ok (.iload_n 0, 1) := by decide +kernel
theorem dX8_isKept_1 : decode cX8_isKept 1 = .ok (.ifCond .lt 12, 3) := by decide +kernel
theorem dX8_isKept_4 : decode cX8_isKept 4 = .ok (.iload_n 0, 1) := by decide +kernel
theorem dX8_isKept_5 : decode cX8_isKept 5 = .ok (.iconst 3, 1) := by decide +kernel
theorem dX8_isKept_6 : decode cX8_isKept 6 = .ok (.if_icmp .ge 7, 3) := by decide +kernel
theorem dX8_isKept_9 : decode cX8_isKept 9 = .ok (.iconst 1, 1) := by decide +kernel
theorem dX8_isKept_10 : decode cX8_isKept 10 = .ok (.goto 4, 3) := by decide +kernel
theorem dX8_isKept_13 : decode cX8_isKept 13 = .ok (.iconst 0, 1) := by decide +kernel
theorem dX8_isKept_14 : decode cX8_isKept 14 = .ok (.ireturn, 1) := by decide +kernel
theorem dX8_isWidth_0 : decode cX8_isWidth 0 = .ok (.iload_n 0, 1) := by decide +kernel
theorem dX8_isWidth_1 : decode cX8_isWidth 1 = .ok (.ifCond .lt 13, 3) := by decide +kernel
theorem dX8_isWidth_4 : decode cX8_isWidth 4 = .ok (.iload_n 0, 1) := by decide +kernel
theorem dX8_isWidth_5 : decode cX8_isWidth 5 = .ok (.bipush 7, 2) := by decide +kernel
theorem dX8_isWidth_7 : decode cX8_isWidth 7 = .ok (.if_icmp .gt 7, 3) := by decide +kernel
theorem dX8_isWidth_10 : decode cX8_isWidth 10 = .ok (.iconst 1, 1) := by decide +kernel
theorem dX8_isWidth_11 : decode cX8_isWidth 11 = .ok (.goto 4, 3) := by decide +kernel
theorem dX8_isWidth_14 : decode cX8_isWidth 14 = .ok (.iconst 0, 1) := by decide +kernel
theorem dX8_isWidth_15 : decode cX8_isWidth 15 = .ok (.ireturn, 1) := by decide +kernel
theorem dX8_found_0 : decode cX8_found 0 = .ok (.iload_n 1, 1) := by decide +kernel
theorem dX8_found_1 : decode cX8_found 1 = .ok (.iconst 1, 1) := by decide +kernel
theorem dX8_found_2 : decode cX8_found 2 = .ok (.if_icmp .lt 23, 3) := by decide +kernel
theorem dX8_found_5 : decode cX8_found 5 = .ok (.iload_n 1, 1) := by decide +kernel
theorem dX8_found_6 : decode cX8_found 6 = .ok (.iconst 5, 1) := by decide +kernel
theorem dX8_found_7 : decode cX8_found 7 = .ok (.if_icmp .gt 18, 3) := by decide +kernel
theorem dX8_found_10 : decode cX8_found 10 = .ok (.aload_n 0, 1) := by decide +kernel
theorem dX8_found_11 : decode cX8_found 11 = .ok (.iload_n 1, 1) := by decide +kernel
theorem dX8_found_12 : decode cX8_found 12 = .ok (.putfield 47, 3) := by decide +kernel
theorem dX8_found_15 : decode cX8_found 15 = .ok (.aload_n 0, 1) := by decide +kernel
theorem dX8_found_16 : decode cX8_found 16 = .ok (.getfield 43, 3) := by decide +kernel
theorem dX8_found_19 : decode cX8_found 19 = .ok (.iload_n 1, 1) := by decide +kernel
theorem dX8_found_20 : decode cX8_found 20 = .ok (.dup2, 1) := by decide +kernel
theorem dX8_found_21 : decode cX8_found 21 = .ok (.iaload, 1) := by decide +kernel
theorem dX8_found_22 : decode cX8_found 22 = .ok (.iconst 1, 1) := by decide +kernel
theorem dX8_found_23 : decode cX8_found 23 = .ok (.iadd, 1) := by decide +kernel
theorem dX8_found_24 : decode cX8_found 24 = .ok (.iastore, 1) := by decide +kernel
theorem dX8_found_25 : decode cX8_found 25 = .ok (.bipush (-3), 2) := by decide +kernel
theorem dX8_found_27 : decode cX8_found 27 = .ok (.ireturn, 1) := by decide +kernel
theorem dX8_fact_0 : decode cX8_fact 0 = .ok (.aload_n 0, 1) := by decide +kernel
theorem dX8_fact_1 : decode cX8_fact 1 = .ok (.getfield 21, 3) := by decide +kernel
theorem dX8_fact_4 : decode cX8_fact 4 = .ok (.iload_n 1, 1) := by decide +kernel
theorem dX8_fact_5 : decode cX8_fact 5 = .ok (.invokevirtual 119, 3) := by decide +kernel
theorem dX8_fact_8 : decode cX8_fact 8 = .ok (.ifCond .ne 6, 3) := by decide +kernel
theorem dX8_fact_11 : decode cX8_fact 11 = .ok (.bipush (-9), 2) := by decide +kernel
theorem dX8_fact_13 : decode cX8_fact 13 = .ok (.ireturn, 1) := by decide +kernel
theorem dX8_fact_14 : decode cX8_fact 14 = .ok (.iload_n 2, 1) := by decide +kernel
theorem dX8_fact_15 : decode cX8_fact 15 = .ok (.tableswitch 88 0 4 #[33, 43, 53, 68, 78], 33) := by decide +kernel
theorem dX8_fact_48 : decode cX8_fact 48 = .ok (.aload_n 0, 1) := by decide +kernel
theorem dX8_fact_49 : decode cX8_fact 49 = .ok (.getfield 21, 3) := by decide +kernel
theorem dX8_fact_52 : decode cX8_fact 52 = .ok (.getfield 300, 3) := by decide +kernel
theorem dX8_fact_55 : decode cX8_fact 55 = .ok (.iload_n 1, 1) := by decide +kernel
theorem dX8_fact_56 : decode cX8_fact 56 = .ok (.iaload, 1) := by decide +kernel
theorem dX8_fact_57 : decode cX8_fact 57 = .ok (.ireturn, 1) := by decide +kernel
theorem dX8_fact_58 : decode cX8_fact 58 = .ok (.aload_n 0, 1) := by decide +kernel
theorem dX8_fact_59 : decode cX8_fact 59 = .ok (.getfield 21, 3) := by decide +kernel
theorem dX8_fact_62 : decode cX8_fact 62 = .ok (.getfield 137, 3) := by decide +kernel
theorem dX8_fact_65 : decode cX8_fact 65 = .ok (.iload_n 1, 1) := by decide +kernel
theorem dX8_fact_66 : decode cX8_fact 66 = .ok (.iaload, 1) := by decide +kernel
theorem dX8_fact_67 : decode cX8_fact 67 = .ok (.ireturn, 1) := by decide +kernel
theorem dX8_fact_68 : decode cX8_fact 68 = .ok (.aload_n 0, 1) := by decide +kernel
theorem dX8_fact_69 : decode cX8_fact 69 = .ok (.getfield 21, 3) := by decide +kernel
theorem dX8_fact_72 : decode cX8_fact 72 = .ok (.iload_n 1, 1) := by decide +kernel
theorem dX8_fact_73 : decode cX8_fact 73 = .ok (.invokevirtual 303, 3) := by decide +kernel
theorem dX8_fact_76 : decode cX8_fact 76 = .ok (.sipush 9999, 3) := by decide +kernel
theorem dX8_fact_79 : decode cX8_fact 79 = .ok (.invokestatic 306, 3) := by decide +kernel
theorem dX8_fact_82 : decode cX8_fact 82 = .ok (.ireturn, 1) := by decide +kernel
theorem dX8_fact_83 : decode cX8_fact 83 = .ok (.aload_n 0, 1) := by decide +kernel
theorem dX8_fact_84 : decode cX8_fact 84 = .ok (.getfield 21, 3) := by decide +kernel
theorem dX8_fact_87 : decode cX8_fact 87 = .ok (.getfield 309, 3) := by decide +kernel
theorem dX8_fact_90 : decode cX8_fact 90 = .ok (.iload_n 1, 1) := by decide +kernel
theorem dX8_fact_91 : decode cX8_fact 91 = .ok (.iaload, 1) := by decide +kernel
theorem dX8_fact_92 : decode cX8_fact 92 = .ok (.ireturn, 1) := by decide +kernel
theorem dX8_fact_93 : decode cX8_fact 93 = .ok (.aload_n 0, 1) := by decide +kernel
theorem dX8_fact_94 : decode cX8_fact 94 = .ok (.getfield 21, 3) := by decide +kernel
theorem dX8_fact_97 : decode cX8_fact 97 = .ok (.getfield 134, 3) := by decide +kernel
theorem dX8_fact_100 : decode cX8_fact 100 = .ok (.iload_n 1, 1) := by decide +kernel
theorem dX8_fact_101 : decode cX8_fact 101 = .ok (.iaload, 1) := by decide +kernel
theorem dX8_fact_102 : decode cX8_fact 102 = .ok (.ireturn, 1) := by decide +kernel
theorem dX8_fact_103 : decode cX8_fact 103 = .ok (.aload_n 0, 1) := by decide +kernel
theorem dX8_fact_104 : decode cX8_fact 104 = .ok (.getfield 21, 3) := by decide +kernel
theorem dX8_fact_107 : decode cX8_fact 107 = .ok (.iload_n 1, 1) := by decide +kernel
theorem dX8_fact_108 : decode cX8_fact 108 = .ok (.invokevirtual 312, 3) := by decide +kernel
theorem dX8_fact_111 : decode cX8_fact 111 = .ok (.ireturn, 1) := by decide +kernel
theorem dX8_counted_0 : decode cX8_counted 0 = .ok (.iload_n 1, 1) := by decide +kernel
theorem dX8_counted_1 : decode cX8_counted 1 = .ok (.tableswitch 111 0 7 #[47, 55, 63, 71, 79, 87, 95, 103], 47) := by decide +kernel
theorem dX8_counted_48 : decode cX8_counted 48 = .ok (.aload_n 0, 1) := by decide +kernel
theorem dX8_counted_49 : decode cX8_counted 49 = .ok (.getfield 21, 3) := by decide +kernel
theorem dX8_counted_52 : decode cX8_counted 52 = .ok (.getfield 116, 3) := by decide +kernel
theorem dX8_counted_55 : decode cX8_counted 55 = .ok (.ireturn, 1) := by decide +kernel
theorem dX8_counted_56 : decode cX8_counted 56 = .ok (.aload_n 0, 1) := by decide +kernel
theorem dX8_counted_57 : decode cX8_counted 57 = .ok (.getfield 21, 3) := by decide +kernel
theorem dX8_counted_60 : decode cX8_counted 60 = .ok (.getfield 189, 3) := by decide +kernel
theorem dX8_counted_63 : decode cX8_counted 63 = .ok (.ireturn, 1) := by decide +kernel
theorem dX8_counted_64 : decode cX8_counted 64 = .ok (.aload_n 0, 1) := by decide +kernel
theorem dX8_counted_65 : decode cX8_counted 65 = .ok (.getfield 21, 3) := by decide +kernel
theorem dX8_counted_68 : decode cX8_counted 68 = .ok (.getfield 186, 3) := by decide +kernel
theorem dX8_counted_71 : decode cX8_counted 71 = .ok (.ireturn, 1) := by decide +kernel
theorem dX8_counted_72 : decode cX8_counted 72 = .ok (.aload_n 0, 1) := by decide +kernel
theorem dX8_counted_73 : decode cX8_counted 73 = .ok (.getfield 21, 3) := by decide +kernel
theorem dX8_counted_76 : decode cX8_counted 76 = .ok (.invokevirtual 183, 3) := by decide +kernel
theorem dX8_counted_79 : decode cX8_counted 79 = .ok (.ireturn, 1) := by decide +kernel
theorem dX8_counted_80 : decode cX8_counted 80 = .ok (.aload_n 0, 1) := by decide +kernel
theorem dX8_counted_81 : decode cX8_counted 81 = .ok (.getfield 21, 3) := by decide +kernel
theorem dX8_counted_84 : decode cX8_counted 84 = .ok (.invokevirtual 152, 3) := by decide +kernel
theorem dX8_counted_87 : decode cX8_counted 87 = .ok (.ireturn, 1) := by decide +kernel
theorem dX8_counted_88 : decode cX8_counted 88 = .ok (.aload_n 0, 1) := by decide +kernel
theorem dX8_counted_89 : decode cX8_counted 89 = .ok (.getfield 21, 3) := by decide +kernel
theorem dX8_counted_92 : decode cX8_counted 92 = .ok (.invokevirtual 315, 3) := by decide +kernel
theorem dX8_counted_95 : decode cX8_counted 95 = .ok (.ireturn, 1) := by decide +kernel
theorem dX8_counted_96 : decode cX8_counted 96 = .ok (.aload_n 0, 1) := by decide +kernel
theorem dX8_counted_97 : decode cX8_counted 97 = .ok (.getfield 11, 3) := by decide +kernel
theorem dX8_counted_100 : decode cX8_counted 100 = .ok (.invokestatic 318, 3) := by decide +kernel
theorem dX8_counted_103 : decode cX8_counted 103 = .ok (.ireturn, 1) := by decide +kernel
theorem dX8_counted_104 : decode cX8_counted 104 = .ok (.aload_n 0, 1) := by decide +kernel
theorem dX8_counted_105 : decode cX8_counted 105 = .ok (.getfield 15, 3) := by decide +kernel
theorem dX8_counted_108 : decode cX8_counted 108 = .ok (.invokestatic 318, 3) := by decide +kernel
theorem dX8_counted_111 : decode cX8_counted 111 = .ok (.ireturn, 1) := by decide +kernel
theorem dX8_counted_112 : decode cX8_counted 112 = .ok (.aload_n 0, 1) := by decide +kernel
theorem dX8_counted_113 : decode cX8_counted 113 = .ok (.invokevirtual 322, 3) := by decide +kernel
theorem dX8_counted_116 : decode cX8_counted 116 = .ok (.ireturn, 1) := by decide +kernel
theorem dX8_thereOf_0 : decode cX8_thereOf 0 = .ok (.iconst 0, 1) := by decide +kernel
theorem dX8_thereOf_1 : decode cX8_thereOf 1 = .ok (.istore_n 1, 1) := by decide +kernel
theorem dX8_thereOf_2 : decode cX8_thereOf 2 = .ok (.iconst 0, 1) := by decide +kernel
theorem dX8_thereOf_3 : decode cX8_thereOf 3 = .ok (.istore_n 2, 1) := by decide +kernel
theorem dX8_thereOf_4 : decode cX8_thereOf 4 = .ok (.iload_n 2, 1) := by decide +kernel
theorem dX8_thereOf_5 : decode cX8_thereOf 5 = .ok (.aload_n 0, 1) := by decide +kernel
theorem dX8_thereOf_6 : decode cX8_thereOf 6 = .ok (.arraylength, 1) := by decide +kernel
theorem dX8_thereOf_7 : decode cX8_thereOf 7 = .ok (.if_icmp .ge 21, 3) := by decide +kernel
theorem dX8_thereOf_10 : decode cX8_thereOf 10 = .ok (.aload_n 0, 1) := by decide +kernel
theorem dX8_thereOf_11 : decode cX8_thereOf 11 = .ok (.iload_n 2, 1) := by decide +kernel
theorem dX8_thereOf_12 : decode cX8_thereOf 12 = .ok (.aaload, 1) := by decide +kernel
theorem dX8_thereOf_13 : decode cX8_thereOf 13 = .ok (.invokevirtual 76, 3) := by decide +kernel
theorem dX8_thereOf_16 : decode cX8_thereOf 16 = .ok (.ifCond .ne 6, 3) := by decide +kernel
theorem dX8_thereOf_19 : decode cX8_thereOf 19 = .ok (.iinc 1 1, 3) := by decide +kernel
theorem dX8_thereOf_22 : decode cX8_thereOf 22 = .ok (.iinc 2 1, 3) := by decide +kernel
theorem dX8_thereOf_25 : decode cX8_thereOf 25 = .ok (.goto (-21), 3) := by decide +kernel
theorem dX8_thereOf_28 : decode cX8_thereOf 28 = .ok (.iload_n 1, 1) := by decide +kernel
theorem dX8_thereOf_29 : decode cX8_thereOf 29 = .ok (.ireturn, 1) := by decide +kernel
theorem dX8_keptCount_0 : decode cX8_keptCount 0 = .ok (.iconst 0, 1) := by decide +kernel
theorem dX8_keptCount_1 : decode cX8_keptCount 1 = .ok (.istore_n 1, 1) := by decide +kernel
theorem dX8_keptCount_2 : decode cX8_keptCount 2 = .ok (.iconst 0, 1) := by decide +kernel
theorem dX8_keptCount_3 : decode cX8_keptCount 3 = .ok (.istore_n 2, 1) := by decide +kernel
theorem dX8_keptCount_4 : decode cX8_keptCount 4 = .ok (.iload_n 2, 1) := by decide +kernel
theorem dX8_keptCount_5 : decode cX8_keptCount 5 = .ok (.iconst 3, 1) := by decide +kernel
theorem dX8_keptCount_6 : decode cX8_keptCount 6 = .ok (.if_icmp .ge 24, 3) := by decide +kernel
theorem dX8_keptCount_9 : decode cX8_keptCount 9 = .ok (.aload_n 0, 1) := by decide +kernel
theorem dX8_keptCount_10 : decode cX8_keptCount 10 = .ok (.getfield 25, 3) := by decide +kernel
theorem dX8_keptCount_13 : decode cX8_keptCount 13 = .ok (.iload_n 2, 1) := by decide +kernel
theorem dX8_keptCount_14 : decode cX8_keptCount 14 = .ok (.aaload, 1) := by decide +kernel
theorem dX8_keptCount_15 : decode cX8_keptCount 15 = .ok (.getfield 116, 3) := by decide +kernel
theorem dX8_keptCount_18 : decode cX8_keptCount 18 = .ok (.ifCond .eq 6, 3) := by decide +kernel
theorem dX8_keptCount_21 : decode cX8_keptCount 21 = .ok (.iinc 1 1, 3) := by decide +kernel
theorem dX8_keptCount_24 : decode cX8_keptCount 24 = .ok (.iinc 2 1, 3) := by decide +kernel
theorem dX8_keptCount_27 : decode cX8_keptCount 27 = .ok (.goto (-23), 3) := by decide +kernel
theorem dX8_keptCount_30 : decode cX8_keptCount 30 = .ok (.iload_n 1, 1) := by decide +kernel
theorem dX8_keptCount_31 : decode cX8_keptCount 31 = .ok (.ireturn, 1) := by decide +kernel
theorem dX8_addHangers_0 : decode cX8_addHangers 0 = .ok (.iload_n 3, 1) := by decide +kernel
theorem dX8_addHangers_1 : decode cX8_addHangers 1 = .ok (.bipush 7, 2) := by decide +kernel
theorem dX8_addHangers_3 : decode cX8_addHangers 3 = .ok (.if_icmp .lt 4, 3) := by decide +kernel
theorem dX8_addHangers_6 : decode cX8_addHangers 6 = .ok (.return_, 1) := by decide +kernel
theorem dX8_addHangers_7 : decode cX8_addHangers 7 = .ok (.aload_n 0, 1) := by decide +kernel
theorem dX8_addHangers_8 : decode cX8_addHangers 8 = .ok (.iload_n 2, 1) := by decide +kernel
theorem dX8_addHangers_9 : decode cX8_addHangers 9 = .ok (.invokevirtual 198, 3) := by decide +kernel
theorem dX8_addHangers_12 : decode cX8_addHangers 12 = .ok (.istore 4, 2) := by decide +kernel
theorem dX8_addHangers_14 : decode cX8_addHangers 14 = .ok (.iconst 0, 1) := by decide +kernel
theorem dX8_addHangers_15 : decode cX8_addHangers 15 = .ok (.istore 5, 2) := by decide +kernel
theorem dX8_addHangers_17 : decode cX8_addHangers 17 = .ok (.iload 5, 2) := by decide +kernel
theorem dX8_addHangers_19 : decode cX8_addHangers 19 = .ok (.bipush 7, 2) := by decide +kernel
theorem dX8_addHangers_21 : decode cX8_addHangers 21 = .ok (.if_icmp .ge 35, 3) := by decide +kernel
theorem dX8_addHangers_24 : decode cX8_addHangers 24 = .ok (.iload 4, 2) := by decide +kernel
theorem dX8_addHangers_26 : decode cX8_addHangers 26 = .ok (.iload 5, 2) := by decide +kernel
theorem dX8_addHangers_28 : decode cX8_addHangers 28 = .ok (.ishr, 1) := by decide +kernel
theorem dX8_addHangers_29 : decode cX8_addHangers 29 = .ok (.iconst 1, 1) := by decide +kernel
theorem dX8_addHangers_30 : decode cX8_addHangers 30 = .ok (.iand, 1) := by decide +kernel
theorem dX8_addHangers_31 : decode cX8_addHangers 31 = .ok (.ifCond .eq 19, 3) := by decide +kernel
theorem dX8_addHangers_34 : decode cX8_addHangers 34 = .ok (.aload_n 1, 1) := by decide +kernel
theorem dX8_addHangers_35 : decode cX8_addHangers 35 = .ok (.iload 5, 2) := by decide +kernel
theorem dX8_addHangers_37 : decode cX8_addHangers 37 = .ok (.invokevirtual 325, 3) := by decide +kernel
theorem dX8_addHangers_40 : decode cX8_addHangers 40 = .ok (.aload_n 0, 1) := by decide +kernel
theorem dX8_addHangers_41 : decode cX8_addHangers 41 = .ok (.aload_n 1, 1) := by decide +kernel
theorem dX8_addHangers_42 : decode cX8_addHangers 42 = .ok (.iload 5, 2) := by decide +kernel
theorem dX8_addHangers_44 : decode cX8_addHangers 44 = .ok (.iload_n 3, 1) := by decide +kernel
theorem dX8_addHangers_45 : decode cX8_addHangers 45 = .ok (.iconst 1, 1) := by decide +kernel
theorem dX8_addHangers_46 : decode cX8_addHangers 46 = .ok (.iadd, 1) := by decide +kernel
theorem dX8_addHangers_47 : decode cX8_addHangers 47 = .ok (.invokestatic 201, 3) := by decide +kernel
theorem dX8_addHangers_50 : decode cX8_addHangers 50 = .ok (.iinc 5 1, 3) := by decide +kernel
theorem dX8_addHangers_53 : decode cX8_addHangers 53 = .ok (.goto (-36), 3) := by decide +kernel
theorem dX8_addHangers_56 : decode cX8_addHangers 56 = .ok (.return_, 1) := by decide +kernel
theorem dX8_tastesThatFit_0 : decode cX8_tastesThatFit 0 = .ok (.iload_n 1, 1) := by decide +kernel
theorem dX8_tastesThatFit_1 : decode cX8_tastesThatFit 1 = .ok (.invokestatic 64, 3) := by decide +kernel
theorem dX8_tastesThatFit_4 : decode cX8_tastesThatFit 4 = .ok (.ifCond .ne 5, 3) := by decide +kernel
theorem dX8_tastesThatFit_7 : decode cX8_tastesThatFit 7 = .ok (.iconst (-1), 1) := by decide +kernel
theorem dX8_tastesThatFit_8 : decode cX8_tastesThatFit 8 = .ok (.ireturn, 1) := by decide +kernel
theorem dX8_tastesThatFit_9 : decode cX8_tastesThatFit 9 = .ok (.aload_n 0, 1) := by decide +kernel
theorem dX8_tastesThatFit_10 : decode cX8_tastesThatFit 10 = .ok (.getfield 11, 3) := by decide +kernel
theorem dX8_tastesThatFit_13 : decode cX8_tastesThatFit 13 = .ok (.iload_n 1, 1) := by decide +kernel
theorem dX8_tastesThatFit_14 : decode cX8_tastesThatFit 14 = .ok (.aaload, 1) := by decide +kernel
theorem dX8_tastesThatFit_15 : decode cX8_tastesThatFit 15 = .ok (.invokevirtual 76, 3) := by decide +kernel
theorem dX8_tastesThatFit_18 : decode cX8_tastesThatFit 18 = .ok (.ifCond .eq 9, 3) := by decide +kernel
theorem dX8_tastesThatFit_21 : decode cX8_tastesThatFit 21 = .ok (.aload_n 0, 1) := by decide +kernel
theorem dX8_tastesThatFit_22 : decode cX8_tastesThatFit 22 = .ok (.iconst 1, 1) := by decide +kernel
theorem dX8_tastesThatFit_23 : decode cX8_tastesThatFit 23 = .ok (.invokevirtual 68, 3) := by decide +kernel
theorem dX8_tastesThatFit_26 : decode cX8_tastesThatFit 26 = .ok (.ireturn, 1) := by decide +kernel
theorem dX8_tastesThatFit_27 : decode cX8_tastesThatFit 27 = .ok (.aload_n 0, 1) := by decide +kernel
theorem dX8_tastesThatFit_28 : decode cX8_tastesThatFit 28 = .ok (.getfield 11, 3) := by decide +kernel
theorem dX8_tastesThatFit_31 : decode cX8_tastesThatFit 31 = .ok (.iload_n 1, 1) := by decide +kernel
theorem dX8_tastesThatFit_32 : decode cX8_tastesThatFit 32 = .ok (.aaload, 1) := by decide +kernel
theorem dX8_tastesThatFit_33 : decode cX8_tastesThatFit 33 = .ok (.getfield 86, 3) := by decide +kernel
theorem dX8_tastesThatFit_36 : decode cX8_tastesThatFit 36 = .ok (.iconst 2, 1) := by decide +kernel
theorem dX8_tastesThatFit_37 : decode cX8_tastesThatFit 37 = .ok (.irem, 1) := by decide +kernel
theorem dX8_tastesThatFit_38 : decode cX8_tastesThatFit 38 = .ok (.ifCond .eq 9, 3) := by decide +kernel
theorem dX8_tastesThatFit_41 : decode cX8_tastesThatFit 41 = .ok (.aload_n 0, 1) := by decide +kernel
theorem dX8_tastesThatFit_42 : decode cX8_tastesThatFit 42 = .ok (.iconst 5, 1) := by decide +kernel
theorem dX8_tastesThatFit_43 : decode cX8_tastesThatFit 43 = .ok (.invokevirtual 68, 3) := by decide +kernel
theorem dX8_tastesThatFit_46 : decode cX8_tastesThatFit 46 = .ok (.ireturn, 1) := by decide +kernel
theorem dX8_tastesThatFit_47 : decode cX8_tastesThatFit 47 = .ok (.aload_n 0, 1) := by decide +kernel
theorem dX8_tastesThatFit_48 : decode cX8_tastesThatFit 48 = .ok (.getfield 11, 3) := by decide +kernel
theorem dX8_tastesThatFit_51 : decode cX8_tastesThatFit 51 = .ok (.iload_n 1, 1) := by decide +kernel
theorem dX8_tastesThatFit_52 : decode cX8_tastesThatFit 52 = .ok (.aaload, 1) := by decide +kernel
theorem dX8_tastesThatFit_53 : decode cX8_tastesThatFit 53 = .ok (.invokestatic 328, 3) := by decide +kernel
theorem dX8_tastesThatFit_56 : decode cX8_tastesThatFit 56 = .ok (.ifCond .ne 9, 3) := by decide +kernel
theorem dX8_tastesThatFit_59 : decode cX8_tastesThatFit 59 = .ok (.aload_n 0, 1) := by decide +kernel
theorem dX8_tastesThatFit_60 : decode cX8_tastesThatFit 60 = .ok (.iconst 3, 1) := by decide +kernel
theorem dX8_tastesThatFit_61 : decode cX8_tastesThatFit 61 = .ok (.invokevirtual 68, 3) := by decide +kernel
theorem dX8_tastesThatFit_64 : decode cX8_tastesThatFit 64 = .ok (.ireturn, 1) := by decide +kernel
theorem dX8_tastesThatFit_65 : decode cX8_tastesThatFit 65 = .ok (.iconst 0, 1) := by decide +kernel
theorem dX8_tastesThatFit_66 : decode cX8_tastesThatFit 66 = .ok (.istore_n 3, 1) := by decide +kernel
theorem dX8_tastesThatFit_67 : decode cX8_tastesThatFit 67 = .ok (.iconst 1, 1) := by decide +kernel
theorem dX8_tastesThatFit_68 : decode cX8_tastesThatFit 68 = .ok (.istore 4, 2) := by decide +kernel
theorem dX8_tastesThatFit_70 : decode cX8_tastesThatFit 70 = .ok (.iload 4, 2) := by decide +kernel
theorem dX8_tastesThatFit_72 : decode cX8_tastesThatFit 72 = .ok (.bipush 8, 2) := by decide +kernel
theorem dX8_tastesThatFit_74 : decode cX8_tastesThatFit 74 = .ok (.if_icmp .gt 32, 3) := by decide +kernel
theorem dX8_tastesThatFit_77 : decode cX8_tastesThatFit 77 = .ok (.aload_n 0, 1) := by decide +kernel
theorem dX8_tastesThatFit_78 : decode cX8_tastesThatFit 78 = .ok (.getfield 11, 3) := by decide +kernel
theorem dX8_tastesThatFit_81 : decode cX8_tastesThatFit 81 = .ok (.iload_n 1, 1) := by decide +kernel
theorem dX8_tastesThatFit_82 : decode cX8_tastesThatFit 82 = .ok (.aaload, 1) := by decide +kernel
theorem dX8_tastesThatFit_83 : decode cX8_tastesThatFit 83 = .ok (.iload 4, 2) := by decide +kernel
theorem dX8_tastesThatFit_85 : decode cX8_tastesThatFit 85 = .ok (.iload_n 2, 1) := by decide +kernel
theorem dX8_tastesThatFit_86 : decode cX8_tastesThatFit 86 = .ok (.iadd, 1) := by decide +kernel
theorem dX8_tastesThatFit_87 : decode cX8_tastesThatFit 87 = .ok (.invokestatic 332, 3) := by decide +kernel
theorem dX8_tastesThatFit_90 : decode cX8_tastesThatFit 90 = .ok (.ifCond .eq 10, 3) := by decide +kernel
theorem dX8_tastesThatFit_93 : decode cX8_tastesThatFit 93 = .ok (.iload_n 3, 1) := by decide +kernel
theorem dX8_tastesThatFit_94 : decode cX8_tastesThatFit 94 = .ok (.iconst 1, 1) := by decide +kernel
theorem dX8_tastesThatFit_95 : decode cX8_tastesThatFit 95 = .ok (.iload 4, 2) := by decide +kernel
theorem dX8_tastesThatFit_97 : decode cX8_tastesThatFit 97 = .ok (.ishl, 1) := by decide +kernel
theorem dX8_tastesThatFit_98 : decode cX8_tastesThatFit 98 = .ok (.ior, 1) := by decide +kernel
theorem dX8_tastesThatFit_99 : decode cX8_tastesThatFit 99 = .ok (.istore_n 3, 1) := by decide +kernel
theorem dX8_tastesThatFit_100 : decode cX8_tastesThatFit 100 = .ok (.iinc 4 1, 3) := by decide +kernel
theorem dX8_tastesThatFit_103 : decode cX8_tastesThatFit 103 = .ok (.goto (-33), 3) := by decide +kernel
theorem dX8_tastesThatFit_106 : decode cX8_tastesThatFit 106 = .ok (.iload_n 3, 1) := by decide +kernel
theorem dX8_tastesThatFit_107 : decode cX8_tastesThatFit 107 = .ok (.ireturn, 1) := by decide +kernel
theorem dX8_holdsPairs_0 : decode cX8_holdsPairs 0 = .ok (.iconst 0, 1) := by decide +kernel
theorem dX8_holdsPairs_1 : decode cX8_holdsPairs 1 = .ok (.istore_n 1, 1) := by decide +kernel
theorem dX8_holdsPairs_2 : decode cX8_holdsPairs 2 = .ok (.iload_n 1, 1) := by decide +kernel
theorem dX8_holdsPairs_3 : decode cX8_holdsPairs 3 = .ok (.iconst 1, 1) := by decide +kernel
theorem dX8_holdsPairs_4 : decode cX8_holdsPairs 4 = .ok (.iadd, 1) := by decide +kernel
theorem dX8_holdsPairs_5 : decode cX8_holdsPairs 5 = .ok (.aload_n 0, 1) := by decide +kernel
theorem dX8_holdsPairs_6 : decode cX8_holdsPairs 6 = .ok (.getfield 86, 3) := by decide +kernel
theorem dX8_holdsPairs_9 : decode cX8_holdsPairs 9 = .ok (.if_icmp .ge 46, 3) := by decide +kernel
theorem dX8_holdsPairs_12 : decode cX8_holdsPairs 12 = .ok (.aload_n 0, 1) := by decide +kernel
theorem dX8_holdsPairs_13 : decode cX8_holdsPairs 13 = .ok (.getfield 83, 3) := by decide +kernel
theorem dX8_holdsPairs_16 : decode cX8_holdsPairs 16 = .ok (.iload_n 1, 1) := by decide +kernel
theorem dX8_holdsPairs_17 : decode cX8_holdsPairs 17 = .ok (.iaload, 1) := by decide +kernel
theorem dX8_holdsPairs_18 : decode cX8_holdsPairs 18 = .ok (.istore_n 2, 1) := by decide +kernel
theorem dX8_holdsPairs_19 : decode cX8_holdsPairs 19 = .ok (.aload_n 0, 1) := by decide +kernel
theorem dX8_holdsPairs_20 : decode cX8_holdsPairs 20 = .ok (.getfield 83, 3) := by decide +kernel
theorem dX8_holdsPairs_23 : decode cX8_holdsPairs 23 = .ok (.iload_n 1, 1) := by decide +kernel
theorem dX8_holdsPairs_24 : decode cX8_holdsPairs 24 = .ok (.iconst 1, 1) := by decide +kernel
theorem dX8_holdsPairs_25 : decode cX8_holdsPairs 25 = .ok (.iadd, 1) := by decide +kernel
theorem dX8_holdsPairs_26 : decode cX8_holdsPairs 26 = .ok (.iaload, 1) := by decide +kernel
theorem dX8_holdsPairs_27 : decode cX8_holdsPairs 27 = .ok (.istore_n 3, 1) := by decide +kernel
theorem dX8_holdsPairs_28 : decode cX8_holdsPairs 28 = .ok (.iload_n 2, 1) := by decide +kernel
theorem dX8_holdsPairs_29 : decode cX8_holdsPairs 29 = .ok (.ifCond .lt 18, 3) := by decide +kernel
theorem dX8_holdsPairs_32 : decode cX8_holdsPairs 32 = .ok (.iload_n 2, 1) := by decide +kernel
theorem dX8_holdsPairs_33 : decode cX8_holdsPairs 33 = .ok (.bipush 7, 2) := by decide +kernel
theorem dX8_holdsPairs_35 : decode cX8_holdsPairs 35 = .ok (.if_icmp .gt 12, 3) := by decide +kernel
theorem dX8_holdsPairs_38 : decode cX8_holdsPairs 38 = .ok (.iload_n 3, 1) := by decide +kernel
theorem dX8_holdsPairs_39 : decode cX8_holdsPairs 39 = .ok (.ifCond .lt 8, 3) := by decide +kernel
theorem dX8_holdsPairs_42 : decode cX8_holdsPairs 42 = .ok (.iload_n 3, 1) := by decide +kernel
theorem dX8_holdsPairs_43 : decode cX8_holdsPairs 43 = .ok (.iconst 1, 1) := by decide +kernel
theorem dX8_holdsPairs_44 : decode cX8_holdsPairs 44 = .ok (.if_icmp .le 5, 3) := by decide +kernel
theorem dX8_holdsPairs_47 : decode cX8_holdsPairs 47 = .ok (.iconst 0, 1) := by decide +kernel
theorem dX8_holdsPairs_48 : decode cX8_holdsPairs 48 = .ok (.ireturn, 1) := by decide +kernel
theorem dX8_holdsPairs_49 : decode cX8_holdsPairs 49 = .ok (.iinc 1 2, 3) := by decide +kernel
theorem dX8_holdsPairs_52 : decode cX8_holdsPairs 52 = .ok (.goto (-50), 3) := by decide +kernel
theorem dX8_holdsPairs_55 : decode cX8_holdsPairs 55 = .ok (.iconst 1, 1) := by decide +kernel
theorem dX8_holdsPairs_56 : decode cX8_holdsPairs 56 = .ok (.ireturn, 1) := by decide +kernel
theorem dX8_fitsPairs_0 : decode cX8_fitsPairs 0 = .ok (.iconst 0, 1) := by decide +kernel
theorem dX8_fitsPairs_1 : decode cX8_fitsPairs 1 = .ok (.istore_n 2, 1) := by decide +kernel
theorem dX8_fitsPairs_2 : decode cX8_fitsPairs 2 = .ok (.iload_n 2, 1) := by decide +kernel
theorem dX8_fitsPairs_3 : decode cX8_fitsPairs 3 = .ok (.iconst 1, 1) := by decide +kernel
theorem dX8_fitsPairs_4 : decode cX8_fitsPairs 4 = .ok (.iadd, 1) := by decide +kernel
theorem dX8_fitsPairs_5 : decode cX8_fitsPairs 5 = .ok (.aload_n 0, 1) := by decide +kernel
theorem dX8_fitsPairs_6 : decode cX8_fitsPairs 6 = .ok (.getfield 86, 3) := by decide +kernel
theorem dX8_fitsPairs_9 : decode cX8_fitsPairs 9 = .ok (.if_icmp .ge 46, 3) := by decide +kernel
theorem dX8_fitsPairs_12 : decode cX8_fitsPairs 12 = .ok (.aload_n 0, 1) := by decide +kernel
theorem dX8_fitsPairs_13 : decode cX8_fitsPairs 13 = .ok (.getfield 83, 3) := by decide +kernel
theorem dX8_fitsPairs_16 : decode cX8_fitsPairs 16 = .ok (.iload_n 2, 1) := by decide +kernel
theorem dX8_fitsPairs_17 : decode cX8_fitsPairs 17 = .ok (.iaload, 1) := by decide +kernel
theorem dX8_fitsPairs_18 : decode cX8_fitsPairs 18 = .ok (.iload_n 1, 1) := by decide +kernel
theorem dX8_fitsPairs_19 : decode cX8_fitsPairs 19 = .ok (.if_icmp .lt 7, 3) := by decide +kernel
theorem dX8_fitsPairs_22 : decode cX8_fitsPairs 22 = .ok (.iconst 1, 1) := by decide +kernel
theorem dX8_fitsPairs_23 : decode cX8_fitsPairs 23 = .ok (.goto 4, 3) := by decide +kernel
theorem dX8_fitsPairs_26 : decode cX8_fitsPairs 26 = .ok (.iconst 0, 1) := by decide +kernel
theorem dX8_fitsPairs_27 : decode cX8_fitsPairs 27 = .ok (.aload_n 0, 1) := by decide +kernel
theorem dX8_fitsPairs_28 : decode cX8_fitsPairs 28 = .ok (.getfield 83, 3) := by decide +kernel
theorem dX8_fitsPairs_31 : decode cX8_fitsPairs 31 = .ok (.iload_n 2, 1) := by decide +kernel
theorem dX8_fitsPairs_32 : decode cX8_fitsPairs 32 = .ok (.iconst 1, 1) := by decide +kernel
theorem dX8_fitsPairs_33 : decode cX8_fitsPairs 33 = .ok (.iadd, 1) := by decide +kernel
theorem dX8_fitsPairs_34 : decode cX8_fitsPairs 34 = .ok (.iaload, 1) := by decide +kernel
theorem dX8_fitsPairs_35 : decode cX8_fitsPairs 35 = .ok (.iconst 1, 1) := by decide +kernel
theorem dX8_fitsPairs_36 : decode cX8_fitsPairs 36 = .ok (.if_icmp .ne 7, 3) := by decide +kernel
theorem dX8_fitsPairs_39 : decode cX8_fitsPairs 39 = .ok (.iconst 1, 1) := by decide +kernel
theorem dX8_fitsPairs_40 : decode cX8_fitsPairs 40 = .ok (.goto 4, 3) := by decide +kernel
theorem dX8_fitsPairs_43 : decode cX8_fitsPairs 43 = .ok (.iconst 0, 1) := by decide +kernel
theorem dX8_fitsPairs_44 : decode cX8_fitsPairs 44 = .ok (.if_icmp .eq 5, 3) := by decide +kernel
theorem dX8_fitsPairs_47 : decode cX8_fitsPairs 47 = .ok (.iconst 0, 1) := by decide +kernel
theorem dX8_fitsPairs_48 : decode cX8_fitsPairs 48 = .ok (.ireturn, 1) := by decide +kernel
theorem dX8_fitsPairs_49 : decode cX8_fitsPairs 49 = .ok (.iinc 2 2, 3) := by decide +kernel
theorem dX8_fitsPairs_52 : decode cX8_fitsPairs 52 = .ok (.goto (-50), 3) := by decide +kernel
theorem dX8_fitsPairs_55 : decode cX8_fitsPairs 55 = .ok (.iconst 1, 1) := by decide +kernel
theorem dX8_fitsPairs_56 : decode cX8_fitsPairs 56 = .ok (.ireturn, 1) := by decide +kernel
theorem dX8_tellFraction_0 : decode cX8_tellFraction 0 = .ok (.lload_n 1, 1) := by decide +kernel
theorem dX8_tellFraction_1 : decode cX8_tellFraction 1 = .ok (.lload_n 3, 1) := by decide +kernel
theorem dX8_tellFraction_2 : decode cX8_tellFraction 2 = .ok (.invokestatic 336, 3) := by decide +kernel
theorem dX8_tellFraction_5 : decode cX8_tellFraction 5 = .ok (.lstore 5, 2) := by decide +kernel
theorem dX8_tellFraction_7 : decode cX8_tellFraction 7 = .ok (.lload 5, 2) := by decide +kernel
theorem dX8_tellFraction_9 : decode cX8_tellFraction 9 = .ok (.lconst 0, 1) := by decide +kernel
theorem dX8_tellFraction_10 : decode cX8_tellFraction 10 = .ok (.lcmp, 1) := by decide +kernel
theorem dX8_tellFraction_11 : decode cX8_tellFraction 11 = .ok (.ifCond .gt 4, 3) := by decide +kernel
theorem dX8_tellFraction_14 : decode cX8_tellFraction 14 = .ok (.return_, 1) := by decide +kernel
theorem dX8_tellFraction_15 : decode cX8_tellFraction 15 = .ok (.aload_n 0, 1) := by decide +kernel
theorem dX8_tellFraction_16 : decode cX8_tellFraction 16 = .ok (.lload_n 1, 1) := by decide +kernel
theorem dX8_tellFraction_17 : decode cX8_tellFraction 17 = .ok (.lload 5, 2) := by decide +kernel
theorem dX8_tellFraction_19 : decode cX8_tellFraction 19 = .ok (.ldiv, 1) := by decide +kernel
theorem dX8_tellFraction_20 : decode cX8_tellFraction 20 = .ok (.putfield 54, 3) := by decide +kernel
theorem dX8_tellFraction_23 : decode cX8_tellFraction 23 = .ok (.aload_n 0, 1) := by decide +kernel
theorem dX8_tellFraction_24 : decode cX8_tellFraction 24 = .ok (.lload_n 3, 1) := by decide +kernel
theorem dX8_tellFraction_25 : decode cX8_tellFraction 25 = .ok (.lload 5, 2) := by decide +kernel
theorem dX8_tellFraction_27 : decode cX8_tellFraction 27 = .ok (.ldiv, 1) := by decide +kernel
theorem dX8_tellFraction_28 : decode cX8_tellFraction 28 = .ok (.putfield 58, 3) := by decide +kernel
theorem dX8_tellFraction_31 : decode cX8_tellFraction 31 = .ok (.return_, 1) := by decide +kernel
theorem dX8_commonDivisor_0 : decode cX8_commonDivisor 0 = .ok (.lload_n 0, 1) := by decide +kernel
theorem dX8_commonDivisor_1 : decode cX8_commonDivisor 1 = .ok (.lstore 4, 2) := by decide +kernel
theorem dX8_commonDivisor_3 : decode cX8_commonDivisor 3 = .ok (.lload_n 2, 1) := by decide +kernel
theorem dX8_commonDivisor_4 : decode cX8_commonDivisor 4 = .ok (.lstore 6, 2) := by decide +kernel
theorem dX8_commonDivisor_6 : decode cX8_commonDivisor 6 = .ok (.iconst 0, 1) := by decide +kernel
theorem dX8_commonDivisor_7 : decode cX8_commonDivisor 7 = .ok (.istore 8, 2) := by decide +kernel
theorem dX8_commonDivisor_9 : decode cX8_commonDivisor 9 = .ok (.iload 8, 2) := by decide +kernel
theorem dX8_commonDivisor_11 : decode cX8_commonDivisor 11 = .ok (.bipush 100, 2) := by decide +kernel
theorem dX8_commonDivisor_13 : decode cX8_commonDivisor 13 = .ok (.if_icmp .ge 31, 3) := by decide +kernel
theorem dX8_commonDivisor_16 : decode cX8_commonDivisor 16 = .ok (.lload 6, 2) := by decide +kernel
theorem dX8_commonDivisor_18 : decode cX8_commonDivisor 18 = .ok (.lconst 0, 1) := by decide +kernel
theorem dX8_commonDivisor_19 : decode cX8_commonDivisor 19 = .ok (.lcmp, 1) := by decide +kernel
theorem dX8_commonDivisor_20 : decode cX8_commonDivisor 20 = .ok (.ifCond .eq 24, 3) := by decide +kernel
theorem dX8_commonDivisor_23 : decode cX8_commonDivisor 23 = .ok (.lload 4, 2) := by decide +kernel
theorem dX8_commonDivisor_25 : decode cX8_commonDivisor 25 = .ok (.lload 6, 2) := by decide +kernel
theorem dX8_commonDivisor_27 : decode cX8_commonDivisor 27 = .ok (.lrem, 1) := by decide +kernel
theorem dX8_commonDivisor_28 : decode cX8_commonDivisor 28 = .ok (.lstore 9, 2) := by decide +kernel
theorem dX8_commonDivisor_30 : decode cX8_commonDivisor 30 = .ok (.lload 6, 2) := by decide +kernel
theorem dX8_commonDivisor_32 : decode cX8_commonDivisor 32 = .ok (.lstore 4, 2) := by decide +kernel
theorem dX8_commonDivisor_34 : decode cX8_commonDivisor 34 = .ok (.lload 9, 2) := by decide +kernel
theorem dX8_commonDivisor_36 : decode cX8_commonDivisor 36 = .ok (.lstore 6, 2) := by decide +kernel
theorem dX8_commonDivisor_38 : decode cX8_commonDivisor 38 = .ok (.iinc 8 1, 3) := by decide +kernel
theorem dX8_commonDivisor_41 : decode cX8_commonDivisor 41 = .ok (.goto (-32), 3) := by decide +kernel
theorem dX8_commonDivisor_44 : decode cX8_commonDivisor 44 = .ok (.lload 4, 2) := by decide +kernel
theorem dX8_commonDivisor_46 : decode cX8_commonDivisor 46 = .ok (.lreturn, 1) := by decide +kernel
theorem dJ6_bitCount_0f7a4_0 : decode cJ6_bitCount_0f7a4 0 = .ok (.iload_n 0, 1) := by decide +kernel
theorem dJ6_bitCount_0f7a4_1 : decode cJ6_bitCount_0f7a4 1 = .ok (.iload_n 0, 1) := by decide +kernel
theorem dJ6_bitCount_0f7a4_2 : decode cJ6_bitCount_0f7a4 2 = .ok (.iconst 1, 1) := by decide +kernel
theorem dJ6_bitCount_0f7a4_3 : decode cJ6_bitCount_0f7a4 3 = .ok (.iushr, 1) := by decide +kernel
theorem dJ6_bitCount_0f7a4_4 : decode cJ6_bitCount_0f7a4 4 = .ok (.ldc_w 265, 3) := by decide +kernel
theorem dJ6_bitCount_0f7a4_7 : decode cJ6_bitCount_0f7a4 7 = .ok (.iand, 1) := by decide +kernel
theorem dJ6_bitCount_0f7a4_8 : decode cJ6_bitCount_0f7a4 8 = .ok (.isub, 1) := by decide +kernel
theorem dJ6_bitCount_0f7a4_9 : decode cJ6_bitCount_0f7a4 9 = .ok (.istore_n 0, 1) := by decide +kernel
theorem dJ6_bitCount_0f7a4_10 : decode cJ6_bitCount_0f7a4 10 = .ok (.iload_n 0, 1) := by decide +kernel
theorem dJ6_bitCount_0f7a4_11 : decode cJ6_bitCount_0f7a4 11 = .ok (.ldc_w 266, 3) := by decide +kernel
theorem dJ6_bitCount_0f7a4_14 : decode cJ6_bitCount_0f7a4 14 = .ok (.iand, 1) := by decide +kernel
theorem dJ6_bitCount_0f7a4_15 : decode cJ6_bitCount_0f7a4 15 = .ok (.iload_n 0, 1) := by decide +kernel
theorem dJ6_bitCount_0f7a4_16 : decode cJ6_bitCount_0f7a4 16 = .ok (.iconst 2, 1) := by decide +kernel
theorem dJ6_bitCount_0f7a4_17 : decode cJ6_bitCount_0f7a4 17 = .ok (.iushr, 1) := by decide +kernel
theorem dJ6_bitCount_0f7a4_18 : decode cJ6_bitCount_0f7a4 18 = .ok (.ldc_w 266, 3) := by decide +kernel
theorem dJ6_bitCount_0f7a4_21 : decode cJ6_bitCount_0f7a4 21 = .ok (.iand, 1) := by decide +kernel
theorem dJ6_bitCount_0f7a4_22 : decode cJ6_bitCount_0f7a4 22 = .ok (.iadd, 1) := by decide +kernel
theorem dJ6_bitCount_0f7a4_23 : decode cJ6_bitCount_0f7a4 23 = .ok (.istore_n 0, 1) := by decide +kernel
theorem dJ6_bitCount_0f7a4_24 : decode cJ6_bitCount_0f7a4 24 = .ok (.iload_n 0, 1) := by decide +kernel
theorem dJ6_bitCount_0f7a4_25 : decode cJ6_bitCount_0f7a4 25 = .ok (.iload_n 0, 1) := by decide +kernel
theorem dJ6_bitCount_0f7a4_26 : decode cJ6_bitCount_0f7a4 26 = .ok (.iconst 4, 1) := by decide +kernel
theorem dJ6_bitCount_0f7a4_27 : decode cJ6_bitCount_0f7a4 27 = .ok (.iushr, 1) := by decide +kernel
theorem dJ6_bitCount_0f7a4_28 : decode cJ6_bitCount_0f7a4 28 = .ok (.iadd, 1) := by decide +kernel
theorem dJ6_bitCount_0f7a4_29 : decode cJ6_bitCount_0f7a4 29 = .ok (.ldc_w 267, 3) := by decide +kernel
theorem dJ6_bitCount_0f7a4_32 : decode cJ6_bitCount_0f7a4 32 = .ok (.iand, 1) := by decide +kernel
theorem dJ6_bitCount_0f7a4_33 : decode cJ6_bitCount_0f7a4 33 = .ok (.istore_n 0, 1) := by decide +kernel
theorem dJ6_bitCount_0f7a4_34 : decode cJ6_bitCount_0f7a4 34 = .ok (.iload_n 0, 1) := by decide +kernel
theorem dJ6_bitCount_0f7a4_35 : decode cJ6_bitCount_0f7a4 35 = .ok (.iload_n 0, 1) := by decide +kernel
theorem dJ6_bitCount_0f7a4_36 : decode cJ6_bitCount_0f7a4 36 = .ok (.bipush 8, 2) := by decide +kernel
theorem dJ6_bitCount_0f7a4_38 : decode cJ6_bitCount_0f7a4 38 = .ok (.iushr, 1) := by decide +kernel
theorem dJ6_bitCount_0f7a4_39 : decode cJ6_bitCount_0f7a4 39 = .ok (.iadd, 1) := by decide +kernel
theorem dJ6_bitCount_0f7a4_40 : decode cJ6_bitCount_0f7a4 40 = .ok (.istore_n 0, 1) := by decide +kernel
theorem dJ6_bitCount_0f7a4_41 : decode cJ6_bitCount_0f7a4 41 = .ok (.iload_n 0, 1) := by decide +kernel
theorem dJ6_bitCount_0f7a4_42 : decode cJ6_bitCount_0f7a4 42 = .ok (.iload_n 0, 1) := by decide +kernel
theorem dJ6_bitCount_0f7a4_43 : decode cJ6_bitCount_0f7a4 43 = .ok (.bipush 16, 2) := by decide +kernel
theorem dJ6_bitCount_0f7a4_45 : decode cJ6_bitCount_0f7a4 45 = .ok (.iushr, 1) := by decide +kernel
theorem dJ6_bitCount_0f7a4_46 : decode cJ6_bitCount_0f7a4 46 = .ok (.iadd, 1) := by decide +kernel
theorem dJ6_bitCount_0f7a4_47 : decode cJ6_bitCount_0f7a4 47 = .ok (.istore_n 0, 1) := by decide +kernel
theorem dJ6_bitCount_0f7a4_48 : decode cJ6_bitCount_0f7a4 48 = .ok (.iload_n 0, 1) := by decide +kernel
theorem dJ6_bitCount_0f7a4_49 : decode cJ6_bitCount_0f7a4 49 = .ok (.bipush 63, 2) := by decide +kernel
theorem dJ6_bitCount_0f7a4_51 : decode cJ6_bitCount_0f7a4 51 = .ok (.iand, 1) := by decide +kernel
theorem dJ6_bitCount_0f7a4_52 : decode cJ6_bitCount_0f7a4 52 = .ok (.ireturn, 1) := by decide +kernel
theorem dJ9_max_7cf53_0 : decode cJ9_max_7cf53 0 = .ok (.iload_n 0, 1) := by decide +kernel
theorem dJ9_max_7cf53_1 : decode cJ9_max_7cf53 1 = .ok (.iload_n 1, 1) := by decide +kernel
theorem dJ9_max_7cf53_2 : decode cJ9_max_7cf53 2 = .ok (.if_icmp .lt 7, 3) := by decide +kernel
theorem dJ9_max_7cf53_5 : decode cJ9_max_7cf53 5 = .ok (.iload_n 0, 1) := by decide +kernel
theorem dJ9_max_7cf53_6 : decode cJ9_max_7cf53 6 = .ok (.goto 4, 3) := by decide +kernel
theorem dJ9_max_7cf53_9 : decode cJ9_max_7cf53 9 = .ok (.iload_n 1, 1) := by decide +kernel
theorem dJ9_max_7cf53_10 : decode cJ9_max_7cf53 10 = .ok (.ireturn, 1) := by decide +kernel
theorem dJ9_min_7cf53_0 : decode cJ9_min_7cf53 0 = .ok (.iload_n 0, 1) := by decide +kernel
theorem dJ9_min_7cf53_1 : decode cJ9_min_7cf53 1 = .ok (.iload_n 1, 1) := by decide +kernel
theorem dJ9_min_7cf53_2 : decode cJ9_min_7cf53 2 = .ok (.if_icmp .gt 7, 3) := by decide +kernel
theorem dJ9_min_7cf53_5 : decode cJ9_min_7cf53 5 = .ok (.iload_n 0, 1) := by decide +kernel
theorem dJ9_min_7cf53_6 : decode cJ9_min_7cf53 6 = .ok (.goto 4, 3) := by decide +kernel
theorem dJ9_min_7cf53_9 : decode cJ9_min_7cf53 9 = .ok (.iload_n 1, 1) := by decide +kernel
theorem dJ9_min_7cf53_10 : decode cJ9_min_7cf53 10 = .ok (.ireturn, 1) := by decide +kernel
theorem dJ7_fill_53178_0 : decode cJ7_fill_53178 0 = .ok (.iconst 0, 1) := by decide +kernel
theorem dJ7_fill_53178_1 : decode cJ7_fill_53178 1 = .ok (.istore_n 2, 1) := by decide +kernel
theorem dJ7_fill_53178_2 : decode cJ7_fill_53178 2 = .ok (.aload_n 0, 1) := by decide +kernel
theorem dJ7_fill_53178_3 : decode cJ7_fill_53178 3 = .ok (.arraylength, 1) := by decide +kernel
theorem dJ7_fill_53178_4 : decode cJ7_fill_53178 4 = .ok (.istore_n 3, 1) := by decide +kernel
theorem dJ7_fill_53178_5 : decode cJ7_fill_53178 5 = .ok (.iload_n 2, 1) := by decide +kernel
theorem dJ7_fill_53178_6 : decode cJ7_fill_53178 6 = .ok (.iload_n 3, 1) := by decide +kernel
theorem dJ7_fill_53178_7 : decode cJ7_fill_53178 7 = .ok (.if_icmp .ge 13, 3) := by decide +kernel
theorem dJ7_fill_53178_10 : decode cJ7_fill_53178 10 = .ok (.aload_n 0, 1) := by decide +kernel
theorem dJ7_fill_53178_11 : decode cJ7_fill_53178 11 = .ok (.iload_n 2, 1) := by decide +kernel
theorem dJ7_fill_53178_12 : decode cJ7_fill_53178 12 = .ok (.iload_n 1, 1) := by decide +kernel
theorem dJ7_fill_53178_13 : decode cJ7_fill_53178 13 = .ok (.iastore, 1) := by decide +kernel
theorem dJ7_fill_53178_14 : decode cJ7_fill_53178 14 = .ok (.iinc 2 1, 3) := by decide +kernel
theorem dJ7_fill_53178_17 : decode cJ7_fill_53178 17 = .ok (.goto (-12), 3) := by decide +kernel
theorem dJ7_fill_53178_20 : decode cJ7_fill_53178 20 = .ok (.return_, 1) := by decide +kernel

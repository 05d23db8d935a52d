theorem dX0_init_0 : decode cX0_init 0 = .ok (.aload_n 0, 1) := by decide +kernel
theorem dX0_init_1 : decode cX0_init 1 = .ok (.invokespecial 3, 3) := by decide +kernel
theorem dX0_init_4 : decode cX0_init 4 = .ok (.aload_n 0, 1) := by decide +kernel
theorem dX0_init_5 : decode cX0_init 5 = .ok (.bipush 42, 2) := by decide +kernel
theorem dX0_init_7 : decode cX0_init 7 = .ok (.newarray .int, 2) := by decide +kernel
theorem dX0_init_9 : decode cX0_init 9 = .ok (.putfield 9, 3) := by decide +kernel
theorem dX0_init_12 : decode cX0_init 12 = .ok (.aload_n 0, 1) := by decide +kernel
theorem dX0_init_13 : decode cX0_init 13 = .ok (.bipush 43, 2) := by decide +kernel
theorem dX0_init_15 : decode cX0_init 15 = .ok (.newarray .int, 2) := by decide +kernel
theorem dX0_init_17 : decode cX0_init 17 = .ok (.putfield 13, 3) := by decide +kernel
theorem dX0_init_20 : decode cX0_init 20 = .ok (.aload_n 0, 1) := by decide +kernel
theorem dX0_init_21 : decode cX0_init 21 = .ok (.sipush 3720, 3) := by decide +kernel
theorem dX0_init_24 : decode cX0_init 24 = .ok (.newarray .long, 2) := by decide +kernel
theorem dX0_init_26 : decode cX0_init 26 = .ok (.putfield 16, 3) := by decide +kernel
theorem dX0_init_29 : decode cX0_init 29 = .ok (.return_, 1) := by decide +kernel
theorem dX0_waitsOf_0 : decode cX0_waitsOf 0 = .ok (.lload_n 0, 1) := by decide +kernel
theorem dX0_waitsOf_1 : decode cX0_waitsOf 1 = .ok (.ldc2_w 20, 3) := by decide +kernel
theorem dX0_waitsOf_4 : decode cX0_waitsOf 4 = .ok (.ldiv, 1) := by decide +kernel
theorem dX0_waitsOf_5 : decode cX0_waitsOf 5 = .ok (.l2i, 1) := by decide +kernel
theorem dX0_waitsOf_6 : decode cX0_waitsOf 6 = .ok (.ireturn, 1) := by decide +kernel
theorem dX0_minutesOf_0 : decode cX0_minutesOf 0 = .ok (.lload_n 0, 1) := by decide +kernel
theorem dX0_minutesOf_1 : decode cX0_minutesOf 1 = .ok (.ldc2_w 20, 3) := by decide +kernel
theorem dX0_minutesOf_4 : decode cX0_minutesOf 4 = .ok (.lrem, 1) := by decide +kernel
theorem dX0_minutesOf_5 : decode cX0_minutesOf 5 = .ok (.l2i, 1) := by decide +kernel
theorem dX0_minutesOf_6 : decode cX0_minutesOf 6 = .ok (.ireturn, 1) := by decide +kernel
theorem dX0_awaits_0 : decode cX0_awaits 0 = .ok (.aload_n 1, 1) := by decide +kernel
theorem dX0_awaits_1 : decode cX0_awaits 1 = .ok (.getfield 22, 3) := by decide +kernel
theorem dX0_awaits_4 : decode cX0_awaits 4 = .ok (.iconst 1, 1) := by decide +kernel
theorem dX0_awaits_5 : decode cX0_awaits 5 = .ok (.if_icmp .lt 12, 3) := by decide +kernel
theorem dX0_awaits_8 : decode cX0_awaits 8 = .ok (.aload_n 1, 1) := by decide +kernel
theorem dX0_awaits_9 : decode cX0_awaits 9 = .ok (.getfield 22, 3) := by decide +kernel
theorem dX0_awaits_12 : decode cX0_awaits 12 = .ok (.bipush 24, 2) := by decide +kernel
theorem dX0_awaits_14 : decode cX0_awaits 14 = .ok (.if_icmp .le 5, 3) := by decide +kernel
theorem dX0_awaits_17 : decode cX0_awaits 17 = .ok (.iconst 0, 1) := by decide +kernel
theorem dX0_awaits_18 : decode cX0_awaits 18 = .ok (.ireturn, 1) := by decide +kernel
theorem dX0_awaits_19 : decode cX0_awaits 19 = .ok (.iconst 0, 1) := by decide +kernel
theorem dX0_awaits_20 : decode cX0_awaits 20 = .ok (.istore_n 2, 1) := by decide +kernel
theorem dX0_awaits_21 : decode cX0_awaits 21 = .ok (.iconst 0, 1) := by decide +kernel
theorem dX0_awaits_22 : decode cX0_awaits 22 = .ok (.istore_n 3, 1) := by decide +kernel
theorem dX0_awaits_23 : decode cX0_awaits 23 = .ok (.iload_n 3, 1) := by decide +kernel
theorem dX0_awaits_24 : decode cX0_awaits 24 = .ok (.aload_n 0, 1) := by decide +kernel
theorem dX0_awaits_25 : decode cX0_awaits 25 = .ok (.getfield 9, 3) := by decide +kernel
theorem dX0_awaits_28 : decode cX0_awaits 28 = .ok (.arraylength, 1) := by decide +kernel
theorem dX0_awaits_29 : decode cX0_awaits 29 = .ok (.if_icmp .ge 70, 3) := by decide +kernel
theorem dX0_awaits_32 : decode cX0_awaits 32 = .ok (.iload_n 3, 1) := by decide +kernel
theorem dX0_awaits_33 : decode cX0_awaits 33 = .ok (.aload_n 1, 1) := by decide +kernel
theorem dX0_awaits_34 : decode cX0_awaits 34 = .ok (.getfield 22, 3) := by decide +kernel
theorem dX0_awaits_37 : decode cX0_awaits 37 = .ok (.if_icmp .ge 11, 3) := by decide +kernel
theorem dX0_awaits_40 : decode cX0_awaits 40 = .ok (.aload_n 1, 1) := by decide +kernel
theorem dX0_awaits_41 : decode cX0_awaits 41 = .ok (.iload_n 3, 1) := by decide +kernel
theorem dX0_awaits_42 : decode cX0_awaits 42 = .ok (.invokevirtual 28, 3) := by decide +kernel
theorem dX0_awaits_45 : decode cX0_awaits 45 = .ok (.goto 4, 3) := by decide +kernel
theorem dX0_awaits_48 : decode cX0_awaits 48 = .ok (.iconst 0, 1) := by decide +kernel
theorem dX0_awaits_49 : decode cX0_awaits 49 = .ok (.istore 4, 2) := by decide +kernel
theorem dX0_awaits_51 : decode cX0_awaits 51 = .ok (.iload 4, 2) := by decide +kernel
theorem dX0_awaits_53 : decode cX0_awaits 53 = .ok (.ifCond .lt 10, 3) := by decide +kernel
theorem dX0_awaits_56 : decode cX0_awaits 56 = .ok (.iload 4, 2) := by decide +kernel
theorem dX0_awaits_58 : decode cX0_awaits 58 = .ok (.bipush 20, 2) := by decide +kernel
theorem dX0_awaits_60 : decode cX0_awaits 60 = .ok (.if_icmp .le 5, 3) := by decide +kernel
theorem dX0_awaits_63 : decode cX0_awaits 63 = .ok (.iconst 0, 1) := by decide +kernel
theorem dX0_awaits_64 : decode cX0_awaits 64 = .ok (.ireturn, 1) := by decide +kernel
theorem dX0_awaits_65 : decode cX0_awaits 65 = .ok (.iload_n 2, 1) := by decide +kernel
theorem dX0_awaits_66 : decode cX0_awaits 66 = .ok (.iload 4, 2) := by decide +kernel
theorem dX0_awaits_68 : decode cX0_awaits 68 = .ok (.iadd, 1) := by decide +kernel
theorem dX0_awaits_69 : decode cX0_awaits 69 = .ok (.istore_n 2, 1) := by decide +kernel
theorem dX0_awaits_70 : decode cX0_awaits 70 = .ok (.aload_n 0, 1) := by decide +kernel
theorem dX0_awaits_71 : decode cX0_awaits 71 = .ok (.getfield 9, 3) := by decide +kernel
theorem dX0_awaits_74 : decode cX0_awaits 74 = .ok (.iload_n 3, 1) := by decide +kernel
theorem dX0_awaits_75 : decode cX0_awaits 75 = .ok (.iload_n 2, 1) := by decide +kernel
theorem dX0_awaits_76 : decode cX0_awaits 76 = .ok (.iastore, 1) := by decide +kernel
theorem dX0_awaits_77 : decode cX0_awaits 77 = .ok (.aload_n 0, 1) := by decide +kernel
theorem dX0_awaits_78 : decode cX0_awaits 78 = .ok (.getfield 13, 3) := by decide +kernel
theorem dX0_awaits_81 : decode cX0_awaits 81 = .ok (.iload_n 3, 1) := by decide +kernel
theorem dX0_awaits_82 : decode cX0_awaits 82 = .ok (.iconst 1, 1) := by decide +kernel
theorem dX0_awaits_83 : decode cX0_awaits 83 = .ok (.iadd, 1) := by decide +kernel
theorem dX0_awaits_84 : decode cX0_awaits 84 = .ok (.aload_n 0, 1) := by decide +kernel
theorem dX0_awaits_85 : decode cX0_awaits 85 = .ok (.getfield 13, 3) := by decide +kernel
theorem dX0_awaits_88 : decode cX0_awaits 88 = .ok (.iload_n 3, 1) := by decide +kernel
theorem dX0_awaits_89 : decode cX0_awaits 89 = .ok (.iaload, 1) := by decide +kernel
theorem dX0_awaits_90 : decode cX0_awaits 90 = .ok (.iload_n 2, 1) := by decide +kernel
theorem dX0_awaits_91 : decode cX0_awaits 91 = .ok (.iadd, 1) := by decide +kernel
theorem dX0_awaits_92 : decode cX0_awaits 92 = .ok (.iastore, 1) := by decide +kernel
theorem dX0_awaits_93 : decode cX0_awaits 93 = .ok (.iinc 3 1, 3) := by decide +kernel
theorem dX0_awaits_96 : decode cX0_awaits 96 = .ok (.goto (-73), 3) := by decide +kernel
theorem dX0_awaits_99 : decode cX0_awaits 99 = .ok (.aload_n 0, 1) := by decide +kernel
theorem dX0_awaits_100 : decode cX0_awaits 100 = .ok (.aload_n 1, 1) := by decide +kernel
theorem dX0_awaits_101 : decode cX0_awaits 101 = .ok (.getfield 22, 3) := by decide +kernel
theorem dX0_awaits_104 : decode cX0_awaits 104 = .ok (.putfield 32, 3) := by decide +kernel
theorem dX0_awaits_107 : decode cX0_awaits 107 = .ok (.iconst 1, 1) := by decide +kernel
theorem dX0_awaits_108 : decode cX0_awaits 108 = .ok (.ireturn, 1) := by decide +kernel
theorem dX0_bestPlan_0 : decode cX0_bestPlan 0 = .ok (.aload_n 0, 1) := by decide +kernel
theorem dX0_bestPlan_1 : decode cX0_bestPlan 1 = .ok (.iconst 2, 1) := by decide +kernel
theorem dX0_bestPlan_2 : decode cX0_bestPlan 2 = .ok (.iload_n 1, 1) := by decide +kernel
theorem dX0_bestPlan_3 : decode cX0_bestPlan 3 = .ok (.imul, 1) := by decide +kernel
theorem dX0_bestPlan_4 : decode cX0_bestPlan 4 = .ok (.putfield 35, 3) := by decide +kernel
theorem dX0_bestPlan_7 : decode cX0_bestPlan 7 = .ok (.aload_n 0, 1) := by decide +kernel
theorem dX0_bestPlan_8 : decode cX0_bestPlan 8 = .ok (.iload_n 2, 1) := by decide +kernel
theorem dX0_bestPlan_9 : decode cX0_bestPlan 9 = .ok (.putfield 38, 3) := by decide +kernel
theorem dX0_bestPlan_12 : decode cX0_bestPlan 12 = .ok (.aload_n 0, 1) := by decide +kernel
theorem dX0_bestPlan_13 : decode cX0_bestPlan 13 = .ok (.getfield 35, 3) := by decide +kernel
theorem dX0_bestPlan_16 : decode cX0_bestPlan 16 = .ok (.iconst 1, 1) := by decide +kernel
theorem dX0_bestPlan_17 : decode cX0_bestPlan 17 = .ok (.if_icmp .lt 11, 3) := by decide +kernel
theorem dX0_bestPlan_20 : decode cX0_bestPlan 20 = .ok (.aload_n 0, 1) := by decide +kernel
theorem dX0_bestPlan_21 : decode cX0_bestPlan 21 = .ok (.getfield 38, 3) := by decide +kernel
theorem dX0_bestPlan_24 : decode cX0_bestPlan 24 = .ok (.iconst 1, 1) := by decide +kernel
theorem dX0_bestPlan_25 : decode cX0_bestPlan 25 = .ok (.if_icmp .ge 5, 3) := by decide +kernel
theorem dX0_bestPlan_28 : decode cX0_bestPlan 28 = .ok (.lconst 0, 1) := by decide +kernel
theorem dX0_bestPlan_29 : decode cX0_bestPlan 29 = .ok (.lreturn, 1) := by decide +kernel
theorem dX0_bestPlan_30 : decode cX0_bestPlan 30 = .ok (.aload_n 0, 1) := by decide +kernel
theorem dX0_bestPlan_31 : decode cX0_bestPlan 31 = .ok (.getfield 32, 3) := by decide +kernel
theorem dX0_bestPlan_34 : decode cX0_bestPlan 34 = .ok (.iconst 1, 1) := by decide +kernel
theorem dX0_bestPlan_35 : decode cX0_bestPlan 35 = .ok (.isub, 1) := by decide +kernel
theorem dX0_bestPlan_36 : decode cX0_bestPlan 36 = .ok (.istore_n 3, 1) := by decide +kernel
theorem dX0_bestPlan_37 : decode cX0_bestPlan 37 = .ok (.iload_n 3, 1) := by decide +kernel
theorem dX0_bestPlan_38 : decode cX0_bestPlan 38 = .ok (.ifCond .lt 67, 3) := by decide +kernel
theorem dX0_bestPlan_41 : decode cX0_bestPlan 41 = .ok (.aload_n 0, 1) := by decide +kernel
theorem dX0_bestPlan_42 : decode cX0_bestPlan 42 = .ok (.getfield 9, 3) := by decide +kernel
theorem dX0_bestPlan_45 : decode cX0_bestPlan 45 = .ok (.iload_n 3, 1) := by decide +kernel
theorem dX0_bestPlan_46 : decode cX0_bestPlan 46 = .ok (.iaload, 1) := by decide +kernel
theorem dX0_bestPlan_47 : decode cX0_bestPlan 47 = .ok (.aload_n 0, 1) := by decide +kernel
theorem dX0_bestPlan_48 : decode cX0_bestPlan 48 = .ok (.getfield 38, 3) := by decide +kernel
theorem dX0_bestPlan_51 : decode cX0_bestPlan 51 = .ok (.iload_n 3, 1) := by decide +kernel
theorem dX0_bestPlan_52 : decode cX0_bestPlan 52 = .ok (.aload_n 0, 1) := by decide +kernel
theorem dX0_bestPlan_53 : decode cX0_bestPlan 53 = .ok (.getfield 35, 3) := by decide +kernel
theorem dX0_bestPlan_56 : decode cX0_bestPlan 56 = .ok (.idiv, 1) := by decide +kernel
theorem dX0_bestPlan_57 : decode cX0_bestPlan 57 = .ok (.imul, 1) := by decide +kernel
theorem dX0_bestPlan_58 : decode cX0_bestPlan 58 = .ok (.invokestatic 41, 3) := by decide +kernel
theorem dX0_bestPlan_61 : decode cX0_bestPlan 61 = .ok (.istore 4, 2) := by decide +kernel
theorem dX0_bestPlan_63 : decode cX0_bestPlan 63 = .ok (.iconst 0, 1) := by decide +kernel
theorem dX0_bestPlan_64 : decode cX0_bestPlan 64 = .ok (.istore 5, 2) := by decide +kernel
theorem dX0_bestPlan_66 : decode cX0_bestPlan 66 = .ok (.iload 5, 2) := by decide +kernel
theorem dX0_bestPlan_68 : decode cX0_bestPlan 68 = .ok (.iload 4, 2) := by decide +kernel
theorem dX0_bestPlan_70 : decode cX0_bestPlan 70 = .ok (.if_icmp .gt 29, 3) := by decide +kernel
theorem dX0_bestPlan_73 : decode cX0_bestPlan 73 = .ok (.aload_n 0, 1) := by decide +kernel
theorem dX0_bestPlan_74 : decode cX0_bestPlan 74 = .ok (.getfield 16, 3) := by decide +kernel
theorem dX0_bestPlan_77 : decode cX0_bestPlan 77 = .ok (.iload_n 3, 1) := by decide +kernel
theorem dX0_bestPlan_78 : decode cX0_bestPlan 78 = .ok (.sipush 155, 3) := by decide +kernel
theorem dX0_bestPlan_81 : decode cX0_bestPlan 81 = .ok (.imul, 1) := by decide +kernel
theorem dX0_bestPlan_82 : decode cX0_bestPlan 82 = .ok (.iload 5, 2) := by decide +kernel
theorem dX0_bestPlan_84 : decode cX0_bestPlan 84 = .ok (.iadd, 1) := by decide +kernel
theorem dX0_bestPlan_85 : decode cX0_bestPlan 85 = .ok (.aload_n 0, 1) := by decide +kernel
theorem dX0_bestPlan_86 : decode cX0_bestPlan 86 = .ok (.iload_n 3, 1) := by decide +kernel
theorem dX0_bestPlan_87 : decode cX0_bestPlan 87 = .ok (.iload 5, 2) := by decide +kernel
theorem dX0_bestPlan_89 : decode cX0_bestPlan 89 = .ok (.invokevirtual 47, 3) := by decide +kernel
theorem dX0_bestPlan_92 : decode cX0_bestPlan 92 = .ok (.lastore, 1) := by decide +kernel
theorem dX0_bestPlan_93 : decode cX0_bestPlan 93 = .ok (.iinc 5 1, 3) := by decide +kernel
theorem dX0_bestPlan_96 : decode cX0_bestPlan 96 = .ok (.goto (-30), 3) := by decide +kernel
theorem dX0_bestPlan_99 : decode cX0_bestPlan 99 = .ok (.iinc 3 (-1), 3) := by decide +kernel
theorem dX0_bestPlan_102 : decode cX0_bestPlan 102 = .ok (.goto (-65), 3) := by decide +kernel
theorem dX0_bestPlan_105 : decode cX0_bestPlan 105 = .ok (.aload_n 0, 1) := by decide +kernel
theorem dX0_bestPlan_106 : decode cX0_bestPlan 106 = .ok (.getfield 16, 3) := by decide +kernel
theorem dX0_bestPlan_109 : decode cX0_bestPlan 109 = .ok (.iconst 0, 1) := by decide +kernel
theorem dX0_bestPlan_110 : decode cX0_bestPlan 110 = .ok (.laload, 1) := by decide +kernel
theorem dX0_bestPlan_111 : decode cX0_bestPlan 111 = .ok (.lreturn, 1) := by decide +kernel
theorem dX0_bestFrom_0 : decode cX0_bestFrom 0 = .ok (.aload_n 0, 1) := by decide +kernel
theorem dX0_bestFrom_1 : decode cX0_bestFrom 1 = .ok (.getfield 9, 3) := by decide +kernel
theorem dX0_bestFrom_4 : decode cX0_bestFrom 4 = .ok (.iload_n 1, 1) := by decide +kernel
theorem dX0_bestFrom_5 : decode cX0_bestFrom 5 = .ok (.iaload, 1) := by decide +kernel
theorem dX0_bestFrom_6 : decode cX0_bestFrom 6 = .ok (.iload_n 2, 1) := by decide +kernel
theorem dX0_bestFrom_7 : decode cX0_bestFrom 7 = .ok (.isub, 1) := by decide +kernel
theorem dX0_bestFrom_8 : decode cX0_bestFrom 8 = .ok (.istore_n 3, 1) := by decide +kernel
theorem dX0_bestFrom_9 : decode cX0_bestFrom 9 = .ok (.iload_n 1, 1) := by decide +kernel
theorem dX0_bestFrom_10 : decode cX0_bestFrom 10 = .ok (.aload_n 0, 1) := by decide +kernel
theorem dX0_bestFrom_11 : decode cX0_bestFrom 11 = .ok (.getfield 32, 3) := by decide +kernel
theorem dX0_bestFrom_14 : decode cX0_bestFrom 14 = .ok (.iconst 1, 1) := by decide +kernel
theorem dX0_bestFrom_15 : decode cX0_bestFrom 15 = .ok (.isub, 1) := by decide +kernel
theorem dX0_bestFrom_16 : decode cX0_bestFrom 16 = .ok (.if_icmp .ne 7, 3) := by decide +kernel
theorem dX0_bestFrom_19 : decode cX0_bestFrom 19 = .ok (.iconst 1, 1) := by decide +kernel
theorem dX0_bestFrom_20 : decode cX0_bestFrom 20 = .ok (.goto 4, 3) := by decide +kernel
theorem dX0_bestFrom_23 : decode cX0_bestFrom 23 = .ok (.iconst 0, 1) := by decide +kernel
theorem dX0_bestFrom_24 : decode cX0_bestFrom 24 = .ok (.istore 4, 2) := by decide +kernel
theorem dX0_bestFrom_26 : decode cX0_bestFrom 26 = .ok (.iload_n 3, 1) := by decide +kernel
theorem dX0_bestFrom_27 : decode cX0_bestFrom 27 = .ok (.ifCond .gt 10, 3) := by decide +kernel
theorem dX0_bestFrom_30 : decode cX0_bestFrom 30 = .ok (.iload 4, 2) := by decide +kernel
theorem dX0_bestFrom_32 : decode cX0_bestFrom 32 = .ok (.ifCond .eq 5, 3) := by decide +kernel
theorem dX0_bestFrom_35 : decode cX0_bestFrom 35 = .ok (.lconst 0, 1) := by decide +kernel
theorem dX0_bestFrom_36 : decode cX0_bestFrom 36 = .ok (.lreturn, 1) := by decide +kernel
theorem dX0_bestFrom_37 : decode cX0_bestFrom 37 = .ok (.iload 4, 2) := by decide +kernel
theorem dX0_bestFrom_39 : decode cX0_bestFrom 39 = .ok (.ifCond .eq 10, 3) := by decide +kernel
theorem dX0_bestFrom_42 : decode cX0_bestFrom 42 = .ok (.aload_n 0, 1) := by decide +kernel
theorem dX0_bestFrom_43 : decode cX0_bestFrom 43 = .ok (.iload_n 1, 1) := by decide +kernel
theorem dX0_bestFrom_44 : decode cX0_bestFrom 44 = .ok (.iload_n 2, 1) := by decide +kernel
theorem dX0_bestFrom_45 : decode cX0_bestFrom 45 = .ok (.invokevirtual 51, 3) := by decide +kernel
theorem dX0_bestFrom_48 : decode cX0_bestFrom 48 = .ok (.lreturn, 1) := by decide +kernel
theorem dX0_bestFrom_49 : decode cX0_bestFrom 49 = .ok (.iload_n 3, 1) := by decide +kernel
theorem dX0_bestFrom_50 : decode cX0_bestFrom 50 = .ok (.i2l, 1) := by decide +kernel
theorem dX0_bestFrom_51 : decode cX0_bestFrom 51 = .ok (.ldc2_w 20, 3) := by decide +kernel
theorem dX0_bestFrom_54 : decode cX0_bestFrom 54 = .ok (.lmul, 1) := by decide +kernel
theorem dX0_bestFrom_55 : decode cX0_bestFrom 55 = .ok (.aload_n 0, 1) := by decide +kernel
theorem dX0_bestFrom_56 : decode cX0_bestFrom 56 = .ok (.getfield 16, 3) := by decide +kernel
theorem dX0_bestFrom_59 : decode cX0_bestFrom 59 = .ok (.iload_n 1, 1) := by decide +kernel
theorem dX0_bestFrom_60 : decode cX0_bestFrom 60 = .ok (.iconst 1, 1) := by decide +kernel
theorem dX0_bestFrom_61 : decode cX0_bestFrom 61 = .ok (.iadd, 1) := by decide +kernel
theorem dX0_bestFrom_62 : decode cX0_bestFrom 62 = .ok (.sipush 155, 3) := by decide +kernel
theorem dX0_bestFrom_65 : decode cX0_bestFrom 65 = .ok (.imul, 1) := by decide +kernel
theorem dX0_bestFrom_66 : decode cX0_bestFrom 66 = .ok (.iload_n 2, 1) := by decide +kernel
theorem dX0_bestFrom_67 : decode cX0_bestFrom 67 = .ok (.iadd, 1) := by decide +kernel
theorem dX0_bestFrom_68 : decode cX0_bestFrom 68 = .ok (.laload, 1) := by decide +kernel
theorem dX0_bestFrom_69 : decode cX0_bestFrom 69 = .ok (.ladd, 1) := by decide +kernel
theorem dX0_bestFrom_70 : decode cX0_bestFrom 70 = .ok (.lstore 5, 2) := by decide +kernel
theorem dX0_bestFrom_72 : decode cX0_bestFrom 72 = .ok (.iload_n 3, 1) := by decide +kernel
theorem dX0_bestFrom_73 : decode cX0_bestFrom 73 = .ok (.ifCond .gt 8, 3) := by decide +kernel
theorem dX0_bestFrom_76 : decode cX0_bestFrom 76 = .ok (.lload 5, 2) := by decide +kernel
theorem dX0_bestFrom_78 : decode cX0_bestFrom 78 = .ok (.goto 14, 3) := by decide +kernel
theorem dX0_bestFrom_81 : decode cX0_bestFrom 81 = .ok (.lload 5, 2) := by decide +kernel
theorem dX0_bestFrom_83 : decode cX0_bestFrom 83 = .ok (.aload_n 0, 1) := by decide +kernel
theorem dX0_bestFrom_84 : decode cX0_bestFrom 84 = .ok (.iload_n 1, 1) := by decide +kernel
theorem dX0_bestFrom_85 : decode cX0_bestFrom 85 = .ok (.iload_n 2, 1) := by decide +kernel
theorem dX0_bestFrom_86 : decode cX0_bestFrom 86 = .ok (.invokevirtual 51, 3) := by decide +kernel
theorem dX0_bestFrom_89 : decode cX0_bestFrom 89 = .ok (.invokestatic 54, 3) := by decide +kernel
theorem dX0_bestFrom_92 : decode cX0_bestFrom 92 = .ok (.lreturn, 1) := by decide +kernel
theorem dX0_planPuttingOff_0 : decode cX0_planPuttingOff 0 = .ok (.iload_n 2, 1) := by decide +kernel
theorem dX0_planPuttingOff_1 : decode cX0_planPuttingOff 1 = .ok (.aload_n 0, 1) := by decide +kernel
theorem dX0_planPuttingOff_2 : decode cX0_planPuttingOff 2 = .ok (.getfield 9, 3) := by decide +kernel
theorem dX0_planPuttingOff_5 : decode cX0_planPuttingOff 5 = .ok (.iload_n 1, 1) := by decide +kernel
theorem dX0_planPuttingOff_6 : decode cX0_planPuttingOff 6 = .ok (.iaload, 1) := by decide +kernel
theorem dX0_planPuttingOff_7 : decode cX0_planPuttingOff 7 = .ok (.iload_n 2, 1) := by decide +kernel
theorem dX0_planPuttingOff_8 : decode cX0_planPuttingOff 8 = .ok (.isub, 1) := by decide +kernel
theorem dX0_planPuttingOff_9 : decode cX0_planPuttingOff 9 = .ok (.aload_n 0, 1) := by decide +kernel
theorem dX0_planPuttingOff_10 : decode cX0_planPuttingOff 10 = .ok (.getfield 38, 3) := by decide +kernel
theorem dX0_planPuttingOff_13 : decode cX0_planPuttingOff 13 = .ok (.invokestatic 41, 3) := by decide +kernel
theorem dX0_planPuttingOff_16 : decode cX0_planPuttingOff 16 = .ok (.iadd, 1) := by decide +kernel
theorem dX0_planPuttingOff_17 : decode cX0_planPuttingOff 17 = .ok (.istore_n 3, 1) := by decide +kernel
theorem dX0_planPuttingOff_18 : decode cX0_planPuttingOff 18 = .ok (.iload_n 1, 1) := by decide +kernel
theorem dX0_planPuttingOff_19 : decode cX0_planPuttingOff 19 = .ok (.aload_n 0, 1) := by decide +kernel
theorem dX0_planPuttingOff_20 : decode cX0_planPuttingOff 20 = .ok (.getfield 35, 3) := by decide +kernel
theorem dX0_planPuttingOff_23 : decode cX0_planPuttingOff 23 = .ok (.iadd, 1) := by decide +kernel
theorem dX0_planPuttingOff_24 : decode cX0_planPuttingOff 24 = .ok (.istore 4, 2) := by decide +kernel
theorem dX0_planPuttingOff_26 : decode cX0_planPuttingOff 26 = .ok (.aload_n 0, 1) := by decide +kernel
theorem dX0_planPuttingOff_27 : decode cX0_planPuttingOff 27 = .ok (.getfield 13, 3) := by decide +kernel
theorem dX0_planPuttingOff_30 : decode cX0_planPuttingOff 30 = .ok (.iload 4, 2) := by decide +kernel
theorem dX0_planPuttingOff_32 : decode cX0_planPuttingOff 32 = .ok (.iaload, 1) := by decide +kernel
theorem dX0_planPuttingOff_33 : decode cX0_planPuttingOff 33 = .ok (.aload_n 0, 1) := by decide +kernel
theorem dX0_planPuttingOff_34 : decode cX0_planPuttingOff 34 = .ok (.getfield 13, 3) := by decide +kernel
theorem dX0_planPuttingOff_37 : decode cX0_planPuttingOff 37 = .ok (.iload_n 1, 1) := by decide +kernel
theorem dX0_planPuttingOff_38 : decode cX0_planPuttingOff 38 = .ok (.iaload, 1) := by decide +kernel
theorem dX0_planPuttingOff_39 : decode cX0_planPuttingOff 39 = .ok (.isub, 1) := by decide +kernel
theorem dX0_planPuttingOff_40 : decode cX0_planPuttingOff 40 = .ok (.aload_n 0, 1) := by decide +kernel
theorem dX0_planPuttingOff_41 : decode cX0_planPuttingOff 41 = .ok (.getfield 35, 3) := by decide +kernel
theorem dX0_planPuttingOff_44 : decode cX0_planPuttingOff 44 = .ok (.iload_n 3, 1) := by decide +kernel
theorem dX0_planPuttingOff_45 : decode cX0_planPuttingOff 45 = .ok (.imul, 1) := by decide +kernel
theorem dX0_planPuttingOff_46 : decode cX0_planPuttingOff 46 = .ok (.isub, 1) := by decide +kernel
theorem dX0_planPuttingOff_47 : decode cX0_planPuttingOff 47 = .ok (.i2l, 1) := by decide +kernel
theorem dX0_planPuttingOff_48 : decode cX0_planPuttingOff 48 = .ok (.lstore 5, 2) := by decide +kernel
theorem dX0_planPuttingOff_50 : decode cX0_planPuttingOff 50 = .ok (.iload 4, 2) := by decide +kernel
theorem dX0_planPuttingOff_52 : decode cX0_planPuttingOff 52 = .ok (.aload_n 0, 1) := by decide +kernel
theorem dX0_planPuttingOff_53 : decode cX0_planPuttingOff 53 = .ok (.getfield 32, 3) := by decide +kernel
theorem dX0_planPuttingOff_56 : decode cX0_planPuttingOff 56 = .ok (.if_icmp .ge 19, 3) := by decide +kernel
theorem dX0_planPuttingOff_59 : decode cX0_planPuttingOff 59 = .ok (.aload_n 0, 1) := by decide +kernel
theorem dX0_planPuttingOff_60 : decode cX0_planPuttingOff 60 = .ok (.getfield 16, 3) := by decide +kernel
theorem dX0_planPuttingOff_63 : decode cX0_planPuttingOff 63 = .ok (.iload 4, 2) := by decide +kernel
theorem dX0_planPuttingOff_65 : decode cX0_planPuttingOff 65 = .ok (.sipush 155, 3) := by decide +kernel
theorem dX0_planPuttingOff_68 : decode cX0_planPuttingOff 68 = .ok (.imul, 1) := by decide +kernel
theorem dX0_planPuttingOff_69 : decode cX0_planPuttingOff 69 = .ok (.iload_n 3, 1) := by decide +kernel
theorem dX0_planPuttingOff_70 : decode cX0_planPuttingOff 70 = .ok (.iadd, 1) := by decide +kernel
theorem dX0_planPuttingOff_71 : decode cX0_planPuttingOff 71 = .ok (.laload, 1) := by decide +kernel
theorem dX0_planPuttingOff_72 : decode cX0_planPuttingOff 72 = .ok (.goto 20, 3) := by decide +kernel
theorem dX0_planPuttingOff_75 : decode cX0_planPuttingOff 75 = .ok (.aload_n 0, 1) := by decide +kernel
theorem dX0_planPuttingOff_76 : decode cX0_planPuttingOff 76 = .ok (.aload_n 0, 1) := by decide +kernel
theorem dX0_planPuttingOff_77 : decode cX0_planPuttingOff 77 = .ok (.getfield 9, 3) := by decide +kernel
theorem dX0_planPuttingOff_80 : decode cX0_planPuttingOff 80 = .ok (.iload 4, 2) := by decide +kernel
theorem dX0_planPuttingOff_82 : decode cX0_planPuttingOff 82 = .ok (.iaload, 1) := by decide +kernel
theorem dX0_planPuttingOff_83 : decode cX0_planPuttingOff 83 = .ok (.iload_n 3, 1) := by decide +kernel
theorem dX0_planPuttingOff_84 : decode cX0_planPuttingOff 84 = .ok (.isub, 1) := by decide +kernel
theorem dX0_planPuttingOff_85 : decode cX0_planPuttingOff 85 = .ok (.invokevirtual 57, 3) := by decide +kernel
theorem dX0_planPuttingOff_88 : decode cX0_planPuttingOff 88 = .ok (.ldc2_w 20, 3) := by decide +kernel
theorem dX0_planPuttingOff_91 : decode cX0_planPuttingOff 91 = .ok (.lmul, 1) := by decide +kernel
theorem dX0_planPuttingOff_92 : decode cX0_planPuttingOff 92 = .ok (.lstore 7, 2) := by decide +kernel
theorem dX0_planPuttingOff_94 : decode cX0_planPuttingOff 94 = .ok (.lconst 1, 1) := by decide +kernel
theorem dX0_planPuttingOff_95 : decode cX0_planPuttingOff 95 = .ok (.iload_n 1, 1) := by decide +kernel
theorem dX0_planPuttingOff_96 : decode cX0_planPuttingOff 96 = .ok (.lshl, 1) := by decide +kernel
theorem dX0_planPuttingOff_97 : decode cX0_planPuttingOff 97 = .ok (.lload 5, 2) := by decide +kernel
theorem dX0_planPuttingOff_99 : decode cX0_planPuttingOff 99 = .ok (.ldc2_w 20, 3) := by decide +kernel
theorem dX0_planPuttingOff_102 : decode cX0_planPuttingOff 102 = .ok (.lmul, 1) := by decide +kernel
theorem dX0_planPuttingOff_103 : decode cX0_planPuttingOff 103 = .ok (.ladd, 1) := by decide +kernel
theorem dX0_planPuttingOff_104 : decode cX0_planPuttingOff 104 = .ok (.lload 7, 2) := by decide +kernel
theorem dX0_planPuttingOff_106 : decode cX0_planPuttingOff 106 = .ok (.ladd, 1) := by decide +kernel
theorem dX0_planPuttingOff_107 : decode cX0_planPuttingOff 107 = .ok (.lreturn, 1) := by decide +kernel
theorem dX0_waitsAfterLast_0 : decode cX0_waitsAfterLast 0 = .ok (.iload_n 1, 1) := by decide +kernel
theorem dX0_waitsAfterLast_1 : decode cX0_waitsAfterLast 1 = .ok (.ifCond .le 15, 3) := by decide +kernel
theorem dX0_waitsAfterLast_4 : decode cX0_waitsAfterLast 4 = .ok (.iload_n 1, 1) := by decide +kernel
theorem dX0_waitsAfterLast_5 : decode cX0_waitsAfterLast 5 = .ok (.iconst 1, 1) := by decide +kernel
theorem dX0_waitsAfterLast_6 : decode cX0_waitsAfterLast 6 = .ok (.isub, 1) := by decide +kernel
theorem dX0_waitsAfterLast_7 : decode cX0_waitsAfterLast 7 = .ok (.aload_n 0, 1) := by decide +kernel
theorem dX0_waitsAfterLast_8 : decode cX0_waitsAfterLast 8 = .ok (.getfield 38, 3) := by decide +kernel
theorem dX0_waitsAfterLast_11 : decode cX0_waitsAfterLast 11 = .ok (.idiv, 1) := by decide +kernel
theorem dX0_waitsAfterLast_12 : decode cX0_waitsAfterLast 12 = .ok (.i2l, 1) := by decide +kernel
theorem dX0_waitsAfterLast_13 : decode cX0_waitsAfterLast 13 = .ok (.goto 4, 3) := by decide +kernel
theorem dX0_waitsAfterLast_16 : decode cX0_waitsAfterLast 16 = .ok (.lconst 0, 1) := by decide +kernel
theorem dX0_waitsAfterLast_17 : decode cX0_waitsAfterLast 17 = .ok (.lstore_n 2, 1) := by decide +kernel
theorem dX0_waitsAfterLast_18 : decode cX0_waitsAfterLast 18 = .ok (.aload_n 0, 1) := by decide +kernel
theorem dX0_waitsAfterLast_19 : decode cX0_waitsAfterLast 19 = .ok (.getfield 35, 3) := by decide +kernel
theorem dX0_waitsAfterLast_22 : decode cX0_waitsAfterLast 22 = .ok (.i2l, 1) := by decide +kernel
theorem dX0_waitsAfterLast_23 : decode cX0_waitsAfterLast 23 = .ok (.lload_n 2, 1) := by decide +kernel
theorem dX0_waitsAfterLast_24 : decode cX0_waitsAfterLast 24 = .ok (.iload_n 1, 1) := by decide +kernel
theorem dX0_waitsAfterLast_25 : decode cX0_waitsAfterLast 25 = .ok (.i2l, 1) := by decide +kernel
theorem dX0_waitsAfterLast_26 : decode cX0_waitsAfterLast 26 = .ok (.lmul, 1) := by decide +kernel
theorem dX0_waitsAfterLast_27 : decode cX0_waitsAfterLast 27 = .ok (.aload_n 0, 1) := by decide +kernel
theorem dX0_waitsAfterLast_28 : decode cX0_waitsAfterLast 28 = .ok (.getfield 38, 3) := by decide +kernel
theorem dX0_waitsAfterLast_31 : decode cX0_waitsAfterLast 31 = .ok (.i2l, 1) := by decide +kernel
theorem dX0_waitsAfterLast_32 : decode cX0_waitsAfterLast 32 = .ok (.lload_n 2, 1) := by decide +kernel
theorem dX0_waitsAfterLast_33 : decode cX0_waitsAfterLast 33 = .ok (.lload_n 2, 1) := by decide +kernel
theorem dX0_waitsAfterLast_34 : decode cX0_waitsAfterLast 34 = .ok (.lconst 1, 1) := by decide +kernel
theorem dX0_waitsAfterLast_35 : decode cX0_waitsAfterLast 35 = .ok (.ladd, 1) := by decide +kernel
theorem dX0_waitsAfterLast_36 : decode cX0_waitsAfterLast 36 = .ok (.lmul, 1) := by decide +kernel
theorem dX0_waitsAfterLast_37 : decode cX0_waitsAfterLast 37 = .ok (.ldc2_w 61, 3) := by decide +kernel
theorem dX0_waitsAfterLast_40 : decode cX0_waitsAfterLast 40 = .ok (.ldiv, 1) := by decide +kernel
theorem dX0_waitsAfterLast_41 : decode cX0_waitsAfterLast 41 = .ok (.lmul, 1) := by decide +kernel
theorem dX0_waitsAfterLast_42 : decode cX0_waitsAfterLast 42 = .ok (.lsub, 1) := by decide +kernel
theorem dX0_waitsAfterLast_43 : decode cX0_waitsAfterLast 43 = .ok (.lmul, 1) := by decide +kernel
theorem dX0_waitsAfterLast_44 : decode cX0_waitsAfterLast 44 = .ok (.lreturn, 1) := by decide +kernel
theorem dX1_init_0 : decode cX1_init 0 = .ok (.aload_n 0, 1) := by decide +kernel
theorem dX1_init_1 : decode cX1_init 1 = .ok (.invokespecial 1, 3) := by decide +kernel
theorem dX1_init_4 : decode cX1_init 4 = .ok (.aload_n 0, 1) := by decide +kernel
theorem dX1_init_5 : decode cX1_init 5 = .ok (.iconst 1, 1) := by decide +kernel
theorem dX1_init_6 : decode cX1_init 6 = .ok (.putfield 7, 3) := by decide +kernel
theorem dX1_init_9 : decode cX1_init 9 = .ok (.aload_n 0, 1) := by decide +kernel
theorem dX1_init_10 : decode cX1_init 10 = .ok (.iload_n 1, 1) := by decide +kernel
theorem dX1_init_11 : decode cX1_init 11 = .ok (.putfield 13, 3) := by decide +kernel
theorem dX1_init_14 : decode cX1_init 14 = .ok (.aload_n 0, 1) := by decide +kernel
theorem dX1_init_15 : decode cX1_init 15 = .ok (.iload_n 2, 1) := by decide +kernel
theorem dX1_init_16 : decode cX1_init 16 = .ok (.putfield 16, 3) := by decide +kernel
theorem dX1_init_19 : decode cX1_init 19 = .ok (.return_, 1) := by decide +kernel
theorem dX1_become_0 : decode cX1_become 0 = .ok (.aload_n 0, 1) := by decide +kernel
theorem dX1_become_1 : decode cX1_become 1 = .ok (.getfield 7, 3) := by decide +kernel
theorem dX1_become_4 : decode cX1_become 4 = .ok (.istore_n 2, 1) := by decide +kernel
theorem dX1_become_5 : decode cX1_become 5 = .ok (.aload_n 0, 1) := by decide +kernel
theorem dX1_become_6 : decode cX1_become 6 = .ok (.iload_n 1, 1) := by decide +kernel
theorem dX1_become_7 : decode cX1_become 7 = .ok (.putfield 7, 3) := by decide +kernel
theorem dX1_become_10 : decode cX1_become 10 = .ok (.iload_n 2, 1) := by decide +kernel
theorem dX1_become_11 : decode cX1_become 11 = .ok (.ireturn, 1) := by decide +kernel
theorem dX1_takeHeads_0 : decode cX1_takeHeads 0 = .ok (.aload_n 0, 1) := by decide +kernel
theorem dX1_takeHeads_1 : decode cX1_takeHeads 1 = .ok (.getfield 19, 3) := by decide +kernel
theorem dX1_takeHeads_4 : decode cX1_takeHeads 4 = .ok (.istore_n 2, 1) := by decide +kernel
theorem dX1_takeHeads_5 : decode cX1_takeHeads 5 = .ok (.aload_n 0, 1) := by decide +kernel
theorem dX1_takeHeads_6 : decode cX1_takeHeads 6 = .ok (.iload_n 1, 1) := by decide +kernel
theorem dX1_takeHeads_7 : decode cX1_takeHeads 7 = .ok (.putfield 19, 3) := by decide +kernel
theorem dX1_takeHeads_10 : decode cX1_takeHeads 10 = .ok (.iload_n 2, 1) := by decide +kernel
theorem dX1_takeHeads_11 : decode cX1_takeHeads 11 = .ok (.ireturn, 1) := by decide +kernel
theorem dX1_crewNeeded_0 : decode cX1_crewNeeded 0 = .ok (.aload_n 0, 1) := by decide +kernel
theorem dX1_crewNeeded_1 : decode cX1_crewNeeded 1 = .ok (.getfield 13, 3) := by decide +kernel
theorem dX1_crewNeeded_4 : decode cX1_crewNeeded 4 = .ok (.bipush 30, 2) := by decide +kernel
theorem dX1_crewNeeded_6 : decode cX1_crewNeeded 6 = .ok (.if_icmp .le 7, 3) := by decide +kernel
theorem dX1_crewNeeded_9 : decode cX1_crewNeeded 9 = .ok (.iconst 3, 1) := by decide +kernel
theorem dX1_crewNeeded_10 : decode cX1_crewNeeded 10 = .ok (.goto 4, 3) := by decide +kernel
theorem dX1_crewNeeded_13 : decode cX1_crewNeeded 13 = .ok (.iconst 2, 1) := by decide +kernel
theorem dX1_crewNeeded_14 : decode cX1_crewNeeded 14 = .ok (.ireturn, 1) := by decide +kernel
theorem dX1_keep_0 : decode cX1_keep 0 = .ok (.aload_n 0, 1) := by decide +kernel
theorem dX1_keep_1 : decode cX1_keep 1 = .ok (.aload_n 0, 1) := by decide +kernel
theorem dX1_keep_2 : decode cX1_keep 2 = .ok (.getfield 7, 3) := by decide +kernel
theorem dX1_keep_5 : decode cX1_keep 5 = .ok (.putfield 22, 3) := by decide +kernel
theorem dX1_keep_8 : decode cX1_keep 8 = .ok (.aload_n 0, 1) := by decide +kernel
theorem dX1_keep_9 : decode cX1_keep 9 = .ok (.aload_n 0, 1) := by decide +kernel
theorem dX1_keep_10 : decode cX1_keep 10 = .ok (.getfield 19, 3) := by decide +kernel
theorem dX1_keep_13 : decode cX1_keep 13 = .ok (.putfield 25, 3) := by decide +kernel
theorem dX1_keep_16 : decode cX1_keep 16 = .ok (.return_, 1) := by decide +kernel
theorem dX1_comeBack_0 : decode cX1_comeBack 0 = .ok (.aload_n 0, 1) := by decide +kernel
theorem dX1_comeBack_1 : decode cX1_comeBack 1 = .ok (.aload_n 0, 1) := by decide +kernel
theorem dX1_comeBack_2 : decode cX1_comeBack 2 = .ok (.getfield 22, 3) := by decide +kernel
theorem dX1_comeBack_5 : decode cX1_comeBack 5 = .ok (.putfield 7, 3) := by decide +kernel
theorem dX1_comeBack_8 : decode cX1_comeBack 8 = .ok (.aload_n 0, 1) := by decide +kernel
theorem dX1_comeBack_9 : decode cX1_comeBack 9 = .ok (.aload_n 0, 1) := by decide +kernel
theorem dX1_comeBack_10 : decode cX1_comeBack 10 = .ok (.getfield 25, 3) := by decide +kernel
theorem dX1_comeBack_13 : decode cX1_comeBack 13 = .ok (.putfield 19, 3) := by decide +kernel
theorem dX1_comeBack_16 : decode cX1_comeBack 16 = .ok (.return_, 1) := by decide +kernel
theorem dX2_init_0 : decode cX2_init 0 = .ok (.aload_n 0, 1) := by decide +kernel
theorem dX2_init_1 : decode cX2_init 1 = .ok (.iload_n 1, 1) := by decide +kernel
theorem dX2_init_2 : decode cX2_init 2 = .ok (.iload_n 2, 1) := by decide +kernel
theorem dX2_init_3 : decode cX2_init 3 = .ok (.iload_n 3, 1) := by decide +kernel
theorem dX2_init_4 : decode cX2_init 4 = .ok (.invokespecial 1, 3) := by decide +kernel
theorem dX2_init_7 : decode cX2_init 7 = .ok (.return_, 1) := by decide +kernel
theorem dX2_pace_0 : decode cX2_pace 0 = .ok (.aload_n 0, 1) := by decide +kernel
theorem dX2_pace_1 : decode cX2_pace 1 = .ok (.invokespecial 7, 3) := by decide +kernel
theorem dX2_pace_4 : decode cX2_pace 4 = .ok (.iconst 2, 1) := by decide +kernel
theorem dX2_pace_5 : decode cX2_pace 5 = .ok (.idiv, 1) := by decide +kernel
theorem dX2_pace_6 : decode cX2_pace 6 = .ok (.iconst 2, 1) := by decide +kernel
theorem dX2_pace_7 : decode cX2_pace 7 = .ok (.iadd, 1) := by decide +kernel
theorem dX2_pace_8 : decode cX2_pace 8 = .ok (.ireturn, 1) := by decide +kernel
theorem dX2_may_0 : decode cX2_may 0 = .ok (.aload_n 0, 1) := by decide +kernel
theorem dX2_may_1 : decode cX2_may 1 = .ok (.iload_n 1, 1) := by decide +kernel
theorem dX2_may_2 : decode cX2_may 2 = .ok (.invokespecial 11, 3) := by decide +kernel
theorem dX2_may_5 : decode cX2_may 5 = .ok (.ifCond .eq 13, 3) := by decide +kernel
theorem dX2_may_8 : decode cX2_may 8 = .ok (.iload_n 1, 1) := by decide +kernel
theorem dX2_may_9 : decode cX2_may 9 = .ok (.bipush 14, 2) := by decide +kernel
theorem dX2_may_11 : decode cX2_may 11 = .ok (.if_icmp .ge 7, 3) := by decide +kernel
theorem dX2_may_14 : decode cX2_may 14 = .ok (.iconst 1, 1) := by decide +kernel
theorem dX2_may_15 : decode cX2_may 15 = .ok (.goto 4, 3) := by decide +kernel
theorem dX2_may_18 : decode cX2_may 18 = .ok (.iconst 0, 1) := by decide +kernel
theorem dX2_may_19 : decode cX2_may 19 = .ok (.ireturn, 1) := by decide +kernel
theorem dX2_parts_0 : decode cX2_parts 0 = .ok (.aload_n 0, 1) := by decide +kernel
theorem dX2_parts_1 : decode cX2_parts 1 = .ok (.invokespecial 15, 3) := by decide +kernel
theorem dX2_parts_4 : decode cX2_parts 4 = .ok (.iconst 1, 1) := by decide +kernel
theorem dX2_parts_5 : decode cX2_parts 5 = .ok (.iadd, 1) := by decide +kernel
theorem dX2_parts_6 : decode cX2_parts 6 = .ok (.ireturn, 1) := by decide +kernel
theorem dX3_init_0 : decode cX3_init 0 = .ok (.aload_n 0, 1) := by decide +kernel
theorem dX3_init_1 : decode cX3_init 1 = .ok (.iload_n 1, 1) := by decide +kernel
theorem dX3_init_2 : decode cX3_init 2 = .ok (.iload_n 2, 1) := by decide +kernel
theorem dX3_init_3 : decode cX3_init 3 = .ok (.iload_n 3, 1) := by decide +kernel
theorem dX3_init_4 : decode cX3_init 4 = .ok (.invokespecial 1, 3) := by decide +kernel
theorem dX3_init_7 : decode cX3_init 7 = .ok (.return_, 1) := by decide +kernel
theorem dX3_pace_0 : decode cX3_pace 0 = .ok (.aload_n 0, 1) := by decide +kernel
theorem dX3_pace_1 : decode cX3_pace 1 = .ok (.invokespecial 7, 3) := by decide +kernel
theorem dX3_pace_4 : decode cX3_pace 4 = .ok (.iconst 2, 1) := by decide +kernel
theorem dX3_pace_5 : decode cX3_pace 5 = .ok (.iadd, 1) := by decide +kernel
theorem dX3_pace_6 : decode cX3_pace 6 = .ok (.ireturn, 1) := by decide +kernel
theorem dX3_may_0 : decode cX3_may 0 = .ok (.aload_n 0, 1) := by decide +kernel
theorem dX3_may_1 : decode cX3_may 1 = .ok (.iload_n 1, 1) := by decide +kernel
theorem dX3_may_2 : decode cX3_may 2 = .ok (.invokespecial 11, 3) := by decide +kernel
theorem dX3_may_5 : decode cX3_may 5 = .ok (.ifCond .eq 16, 3) := by decide +kernel
theorem dX3_may_8 : decode cX3_may 8 = .ok (.aload_n 0, 1) := by decide +kernel
theorem dX3_may_9 : decode cX3_may 9 = .ok (.getfield 15, 3) := by decide +kernel
theorem dX3_may_12 : decode cX3_may 12 = .ok (.bipush 15, 2) := by decide +kernel
theorem dX3_may_14 : decode cX3_may 14 = .ok (.if_icmp .le 7, 3) := by decide +kernel
theorem dX3_may_17 : decode cX3_may 17 = .ok (.iconst 1, 1) := by decide +kernel
theorem dX3_may_18 : decode cX3_may 18 = .ok (.goto 4, 3) := by decide +kernel
theorem dX3_may_21 : decode cX3_may 21 = .ok (.iconst 0, 1) := by decide +kernel
theorem dX3_may_22 : decode cX3_may 22 = .ok (.ireturn, 1) := by decide +kernel
theorem dX3_parts_0 : decode cX3_parts 0 = .ok (.aload_n 0, 1) := by decide +kernel
theorem dX3_parts_1 : decode cX3_parts 1 = .ok (.invokespecial 21, 3) := by decide +kernel
theorem dX3_parts_4 : decode cX3_parts 4 = .ok (.iconst 1, 1) := by decide +kernel
theorem dX3_parts_5 : decode cX3_parts 5 = .ok (.isub, 1) := by decide +kernel
theorem dX3_parts_6 : decode cX3_parts 6 = .ok (.ireturn, 1) := by decide +kernel
theorem dX4_init_0 : decode cX4_init 0 = .ok (.aload_n 0, 1) := by decide +kernel
theorem dX4_init_1 : decode cX4_init 1 = .ok (.invokespecial 1, 3) := by decide +kernel
theorem dX4_init_4 : decode cX4_init 4 = .ok (.aload_n 0, 1) := by decide +kernel
theorem dX4_init_5 : decode cX4_init 5 = .ok (.bipush 100, 2) := by decide +kernel
theorem dX4_init_7 : decode cX4_init 7 = .ok (.newarray .int, 2) := by decide +kernel
theorem dX4_init_9 : decode cX4_init 9 = .ok (.putfield 9, 3) := by decide +kernel
theorem dX4_init_12 : decode cX4_init 12 = .ok (.aload_n 0, 1) := by decide +kernel
theorem dX4_init_13 : decode cX4_init 13 = .ok (.bipush 100, 2) := by decide +kernel
theorem dX4_init_15 : decode cX4_init 15 = .ok (.newarray .int, 2) := by decide +kernel
theorem dX4_init_17 : decode cX4_init 17 = .ok (.putfield 13, 3) := by decide +kernel
theorem dX4_init_20 : decode cX4_init 20 = .ok (.aload_n 0, 1) := by decide +kernel
theorem dX4_init_21 : decode cX4_init 21 = .ok (.bipush 100, 2) := by decide +kernel
theorem dX4_init_23 : decode cX4_init 23 = .ok (.newarray .int, 2) := by decide +kernel
theorem dX4_init_25 : decode cX4_init 25 = .ok (.putfield 16, 3) := by decide +kernel
theorem dX4_init_28 : decode cX4_init 28 = .ok (.aload_n 0, 1) := by decide +kernel
theorem dX4_init_29 : decode cX4_init 29 = .ok (.bipush 100, 2) := by decide +kernel
theorem dX4_init_31 : decode cX4_init 31 = .ok (.newarray .int, 2) := by decide +kernel
theorem dX4_init_33 : decode cX4_init 33 = .ok (.putfield 19, 3) := by decide +kernel
theorem dX4_init_36 : decode cX4_init 36 = .ok (.return_, 1) := by decide +kernel
theorem dX4_areTwo_0 : decode cX4_areTwo 0 = .ok (.iload_n 0, 1) := by decide +kernel
theorem dX4_areTwo_1 : decode cX4_areTwo 1 = .ok (.ifCond .lt 24, 3) := by decide +kernel
theorem dX4_areTwo_4 : decode cX4_areTwo 4 = .ok (.iload_n 0, 1) := by decide +kernel
theorem dX4_areTwo_5 : decode cX4_areTwo 5 = .ok (.bipush 100, 2) := by decide +kernel
theorem dX4_areTwo_7 : decode cX4_areTwo 7 = .ok (.if_icmp .ge 18, 3) := by decide +kernel
theorem dX4_areTwo_10 : decode cX4_areTwo 10 = .ok (.iload_n 0, 1) := by decide +kernel
theorem dX4_areTwo_11 : decode cX4_areTwo 11 = .ok (.bipush 10, 2) := by decide +kernel
theorem dX4_areTwo_13 : decode cX4_areTwo 13 = .ok (.idiv, 1) := by decide +kernel
theorem dX4_areTwo_14 : decode cX4_areTwo 14 = .ok (.iload_n 0, 1) := by decide +kernel
theorem dX4_areTwo_15 : decode cX4_areTwo 15 = .ok (.bipush 10, 2) := by decide +kernel
theorem dX4_areTwo_17 : decode cX4_areTwo 17 = .ok (.irem, 1) := by decide +kernel
theorem dX4_areTwo_18 : decode cX4_areTwo 18 = .ok (.if_icmp .eq 7, 3) := by decide +kernel
theorem dX4_areTwo_21 : decode cX4_areTwo 21 = .ok (.iconst 1, 1) := by decide +kernel
theorem dX4_areTwo_22 : decode cX4_areTwo 22 = .ok (.goto 4, 3) := by decide +kernel
theorem dX4_areTwo_25 : decode cX4_areTwo 25 = .ok (.iconst 0, 1) := by decide +kernel
theorem dX4_areTwo_26 : decode cX4_areTwo 26 = .ok (.ireturn, 1) := by decide +kernel
theorem dX4_turned_0 : decode cX4_turned 0 = .ok (.iload_n 0, 1) := by decide +kernel
theorem dX4_turned_1 : decode cX4_turned 1 = .ok (.bipush 10, 2) := by decide +kernel
theorem dX4_turned_3 : decode cX4_turned 3 = .ok (.irem, 1) := by decide +kernel
theorem dX4_turned_4 : decode cX4_turned 4 = .ok (.bipush 10, 2) := by decide +kernel
theorem dX4_turned_6 : decode cX4_turned 6 = .ok (.imul, 1) := by decide +kernel
theorem dX4_turned_7 : decode cX4_turned 7 = .ok (.iload_n 0, 1) := by decide +kernel
theorem dX4_turned_8 : decode cX4_turned 8 = .ok (.bipush 10, 2) := by decide +kernel
theorem dX4_turned_10 : decode cX4_turned 10 = .ok (.idiv, 1) := by decide +kernel
theorem dX4_turned_11 : decode cX4_turned 11 = .ok (.iadd, 1) := by decide +kernel
theorem dX4_turned_12 : decode cX4_turned 12 = .ok (.ireturn, 1) := by decide +kernel
theorem dX4_takePath_0 : decode cX4_takePath 0 = .ok (.aload_n 0, 1) := by decide +kernel
theorem dX4_takePath_1 : decode cX4_takePath 1 = .ok (.getfield 9, 3) := by decide +kernel
theorem dX4_takePath_4 : decode cX4_takePath 4 = .ok (.iload_n 1, 1) := by decide +kernel
theorem dX4_takePath_5 : decode cX4_takePath 5 = .ok (.iaload, 1) := by decide +kernel
theorem dX4_takePath_6 : decode cX4_takePath 6 = .ok (.istore_n 3, 1) := by decide +kernel
theorem dX4_takePath_7 : decode cX4_takePath 7 = .ok (.aload_n 0, 1) := by decide +kernel
theorem dX4_takePath_8 : decode cX4_takePath 8 = .ok (.getfield 9, 3) := by decide +kernel
theorem dX4_takePath_11 : decode cX4_takePath 11 = .ok (.iload_n 1, 1) := by decide +kernel
theorem dX4_takePath_12 : decode cX4_takePath 12 = .ok (.iload_n 2, 1) := by decide +kernel
theorem dX4_takePath_13 : decode cX4_takePath 13 = .ok (.iastore, 1) := by decide +kernel
theorem dX4_takePath_14 : decode cX4_takePath 14 = .ok (.aload_n 0, 1) := by decide +kernel
theorem dX4_takePath_15 : decode cX4_takePath 15 = .ok (.getfield 9, 3) := by decide +kernel
theorem dX4_takePath_18 : decode cX4_takePath 18 = .ok (.iload_n 1, 1) := by decide +kernel
theorem dX4_takePath_19 : decode cX4_takePath 19 = .ok (.invokestatic 22, 3) := by decide +kernel
theorem dX4_takePath_22 : decode cX4_takePath 22 = .ok (.iload_n 2, 1) := by decide +kernel
theorem dX4_takePath_23 : decode cX4_takePath 23 = .ok (.iastore, 1) := by decide +kernel
theorem dX4_takePath_24 : decode cX4_takePath 24 = .ok (.iload_n 3, 1) := by decide +kernel
theorem dX4_takePath_25 : decode cX4_takePath 25 = .ok (.ireturn, 1) := by decide +kernel
theorem dX4_leastWay_0 : decode cX4_leastWay 0 = .ok (.aload_n 0, 1) := by decide +kernel
theorem dX4_leastWay_1 : decode cX4_leastWay 1 = .ok (.aload_n 0, 1) := by decide +kernel
theorem dX4_leastWay_2 : decode cX4_leastWay 2 = .ok (.getfield 16, 3) := by decide +kernel
theorem dX4_leastWay_5 : decode cX4_leastWay 5 = .ok (.aload_n 2, 1) := by decide +kernel
theorem dX4_leastWay_6 : decode cX4_leastWay 6 = .ok (.iload_n 3, 1) := by decide +kernel
theorem dX4_leastWay_7 : decode cX4_leastWay 7 = .ok (.invokevirtual 26, 3) := by decide +kernel
theorem dX4_leastWay_10 : decode cX4_leastWay 10 = .ok (.aload_n 0, 1) := by decide +kernel
theorem dX4_leastWay_11 : decode cX4_leastWay 11 = .ok (.getfield 16, 3) := by decide +kernel
theorem dX4_leastWay_14 : decode cX4_leastWay 14 = .ok (.iload_n 1, 1) := by decide +kernel
theorem dX4_leastWay_15 : decode cX4_leastWay 15 = .ok (.iaload, 1) := by decide +kernel
theorem dX4_leastWay_16 : decode cX4_leastWay 16 = .ok (.ireturn, 1) := by decide +kernel
theorem dX4_measureNow_0 : decode cX4_measureNow 0 = .ok (.aload_n 0, 1) := by decide +kernel
theorem dX4_measureNow_1 : decode cX4_measureNow 1 = .ok (.aload_n 0, 1) := by decide +kernel
theorem dX4_measureNow_2 : decode cX4_measureNow 2 = .ok (.getfield 16, 3) := by decide +kernel
theorem dX4_measureNow_5 : decode cX4_measureNow 5 = .ok (.aload_n 1, 1) := by decide +kernel
theorem dX4_measureNow_6 : decode cX4_measureNow 6 = .ok (.iload_n 2, 1) := by decide +kernel
theorem dX4_measureNow_7 : decode cX4_measureNow 7 = .ok (.invokevirtual 26, 3) := by decide +kernel
theorem dX4_measureNow_10 : decode cX4_measureNow 10 = .ok (.return_, 1) := by decide +kernel
theorem dX4_measureThen_0 : decode cX4_measureThen 0 = .ok (.aload_n 0, 1) := by decide +kernel
theorem dX4_measureThen_1 : decode cX4_measureThen 1 = .ok (.aload_n 0, 1) := by decide +kernel
theorem dX4_measureThen_2 : decode cX4_measureThen 2 = .ok (.getfield 19, 3) := by decide +kernel
theorem dX4_measureThen_5 : decode cX4_measureThen 5 = .ok (.aload_n 1, 1) := by decide +kernel
theorem dX4_measureThen_6 : decode cX4_measureThen 6 = .ok (.iload_n 2, 1) := by decide +kernel
theorem dX4_measureThen_7 : decode cX4_measureThen 7 = .ok (.invokevirtual 26, 3) := by decide +kernel
theorem dX4_measureThen_10 : decode cX4_measureThen 10 = .ok (.return_, 1) := by decide +kernel
theorem dX4_measure_0 : decode cX4_measure 0 = .ok (.iconst 0, 1) := by decide +kernel
theorem dX4_measure_1 : decode cX4_measure 1 = .ok (.istore 4, 2) := by decide +kernel
theorem dX4_measure_3 : decode cX4_measure 3 = .ok (.iload 4, 2) := by decide +kernel
theorem dX4_measure_5 : decode cX4_measure 5 = .ok (.bipush 100, 2) := by decide +kernel
theorem dX4_measure_7 : decode cX4_measure 7 = .ok (.if_icmp .ge 52, 3) := by decide +kernel
theorem dX4_measure_10 : decode cX4_measure 10 = .ok (.aload_n 1, 1) := by decide +kernel
theorem dX4_measure_11 : decode cX4_measure 11 = .ok (.iload 4, 2) := by decide +kernel
theorem dX4_measure_13 : decode cX4_measure 13 = .ok (.iload 4, 2) := by decide +kernel
theorem dX4_measure_15 : decode cX4_measure 15 = .ok (.bipush 10, 2) := by decide +kernel
theorem dX4_measure_17 : decode cX4_measure 17 = .ok (.idiv, 1) := by decide +kernel
theorem dX4_measure_18 : decode cX4_measure 18 = .ok (.iload 4, 2) := by decide +kernel
theorem dX4_measure_20 : decode cX4_measure 20 = .ok (.bipush 10, 2) := by decide +kernel
theorem dX4_measure_22 : decode cX4_measure 22 = .ok (.irem, 1) := by decide +kernel
theorem dX4_measure_23 : decode cX4_measure 23 = .ok (.if_icmp .ne 7, 3) := by decide +kernel
theorem dX4_measure_26 : decode cX4_measure 26 = .ok (.iconst 0, 1) := by decide +kernel
theorem dX4_measure_27 : decode cX4_measure 27 = .ok (.goto 25, 3) := by decide +kernel
theorem dX4_measure_30 : decode cX4_measure 30 = .ok (.aload_n 0, 1) := by decide +kernel
theorem dX4_measure_31 : decode cX4_measure 31 = .ok (.getfield 9, 3) := by decide +kernel
theorem dX4_measure_34 : decode cX4_measure 34 = .ok (.iload 4, 2) := by decide +kernel
theorem dX4_measure_36 : decode cX4_measure 36 = .ok (.iaload, 1) := by decide +kernel
theorem dX4_measure_37 : decode cX4_measure 37 = .ok (.ifCond .le 13, 3) := by decide +kernel
theorem dX4_measure_40 : decode cX4_measure 40 = .ok (.aload_n 0, 1) := by decide +kernel
theorem dX4_measure_41 : decode cX4_measure 41 = .ok (.getfield 9, 3) := by decide +kernel
theorem dX4_measure_44 : decode cX4_measure 44 = .ok (.iload 4, 2) := by decide +kernel
theorem dX4_measure_46 : decode cX4_measure 46 = .ok (.iaload, 1) := by decide +kernel
theorem dX4_measure_47 : decode cX4_measure 47 = .ok (.goto 5, 3) := by decide +kernel
theorem dX4_measure_50 : decode cX4_measure 50 = .ok (.ldc 30, 2) := by decide +kernel
theorem dX4_measure_52 : decode cX4_measure 52 = .ok (.iastore, 1) := by decide +kernel
theorem dX4_measure_53 : decode cX4_measure 53 = .ok (.iinc 4 1, 3) := by decide +kernel
theorem dX4_measure_56 : decode cX4_measure 56 = .ok (.goto (-53), 3) := by decide +kernel
theorem dX4_measure_59 : decode cX4_measure 59 = .ok (.iconst 0, 1) := by decide +kernel
theorem dX4_measure_60 : decode cX4_measure 60 = .ok (.istore 4, 2) := by decide +kernel
theorem dX4_measure_62 : decode cX4_measure 62 = .ok (.iload 4, 2) := by decide +kernel
theorem dX4_measure_64 : decode cX4_measure 64 = .ok (.iload_n 3, 1) := by decide +kernel
theorem dX4_measure_65 : decode cX4_measure 65 = .ok (.if_icmp .ge 58, 3) := by decide +kernel
theorem dX4_measure_68 : decode cX4_measure 68 = .ok (.aload_n 2, 1) := by decide +kernel
theorem dX4_measure_69 : decode cX4_measure 69 = .ok (.iload 4, 2) := by decide +kernel
theorem dX4_measure_71 : decode cX4_measure 71 = .ok (.aaload, 1) := by decide +kernel
theorem dX4_measure_72 : decode cX4_measure 72 = .ok (.astore 5, 2) := by decide +kernel
theorem dX4_measure_74 : decode cX4_measure 74 = .ok (.aload 5, 2) := by decide +kernel
theorem dX4_measure_76 : decode cX4_measure 76 = .ok (.getfield 31, 3) := by decide +kernel
theorem dX4_measure_79 : decode cX4_measure 79 = .ok (.ifCond .eq 38, 3) := by decide +kernel
theorem dX4_measure_82 : decode cX4_measure 82 = .ok (.aload_n 1, 1) := by decide +kernel
theorem dX4_measure_83 : decode cX4_measure 83 = .ok (.aload 5, 2) := by decide +kernel
theorem dX4_measure_85 : decode cX4_measure 85 = .ok (.getfield 37, 3) := by decide +kernel
theorem dX4_measure_88 : decode cX4_measure 88 = .ok (.aload_n 1, 1) := by decide +kernel
theorem dX4_measure_89 : decode cX4_measure 89 = .ok (.aload 5, 2) := by decide +kernel
theorem dX4_measure_91 : decode cX4_measure 91 = .ok (.getfield 37, 3) := by decide +kernel
theorem dX4_measure_94 : decode cX4_measure 94 = .ok (.iaload, 1) := by decide +kernel
theorem dX4_measure_95 : decode cX4_measure 95 = .ok (.iconst 5, 1) := by decide +kernel
theorem dX4_measure_96 : decode cX4_measure 96 = .ok (.invokestatic 40, 3) := by decide +kernel
theorem dX4_measure_99 : decode cX4_measure 99 = .ok (.iastore, 1) := by decide +kernel
theorem dX4_measure_100 : decode cX4_measure 100 = .ok (.aload_n 1, 1) := by decide +kernel
theorem dX4_measure_101 : decode cX4_measure 101 = .ok (.aload 5, 2) := by decide +kernel
theorem dX4_measure_103 : decode cX4_measure 103 = .ok (.getfield 37, 3) := by decide +kernel
theorem dX4_measure_106 : decode cX4_measure 106 = .ok (.invokestatic 22, 3) := by decide +kernel
theorem dX4_measure_109 : decode cX4_measure 109 = .ok (.aload_n 1, 1) := by decide +kernel
theorem dX4_measure_110 : decode cX4_measure 110 = .ok (.aload 5, 2) := by decide +kernel
theorem dX4_measure_112 : decode cX4_measure 112 = .ok (.getfield 37, 3) := by decide +kernel
theorem dX4_measure_115 : decode cX4_measure 115 = .ok (.iaload, 1) := by decide +kernel
theorem dX4_measure_116 : decode cX4_measure 116 = .ok (.iastore, 1) := by decide +kernel
theorem dX4_measure_117 : decode cX4_measure 117 = .ok (.iinc 4 1, 3) := by decide +kernel
theorem dX4_measure_120 : decode cX4_measure 120 = .ok (.goto (-58), 3) := by decide +kernel
theorem dX4_measure_123 : decode cX4_measure 123 = .ok (.iconst 0, 1) := by decide +kernel
theorem dX4_measure_124 : decode cX4_measure 124 = .ok (.istore 4, 2) := by decide +kernel
theorem dX4_measure_126 : decode cX4_measure 126 = .ok (.iload 4, 2) := by decide +kernel
theorem dX4_measure_128 : decode cX4_measure 128 = .ok (.bipush 10, 2) := by decide +kernel
theorem dX4_measure_130 : decode cX4_measure 130 = .ok (.if_icmp .ge 67, 3) := by decide +kernel
theorem dX4_measure_133 : decode cX4_measure 133 = .ok (.iconst 0, 1) := by decide +kernel
theorem dX4_measure_134 : decode cX4_measure 134 = .ok (.istore 5, 2) := by decide +kernel
theorem dX4_measure_136 : decode cX4_measure 136 = .ok (.iload 5, 2) := by decide +kernel
theorem dX4_measure_138 : decode cX4_measure 138 = .ok (.bipush 100, 2) := by decide +kernel
theorem dX4_measure_140 : decode cX4_measure 140 = .ok (.if_icmp .ge 51, 3) := by decide +kernel
theorem dX4_measure_143 : decode cX4_measure 143 = .ok (.aload_n 1, 1) := by decide +kernel
theorem dX4_measure_144 : decode cX4_measure 144 = .ok (.iload 5, 2) := by decide +kernel
theorem dX4_measure_146 : decode cX4_measure 146 = .ok (.bipush 10, 2) := by decide +kernel
theorem dX4_measure_148 : decode cX4_measure 148 = .ok (.idiv, 1) := by decide +kernel
theorem dX4_measure_149 : decode cX4_measure 149 = .ok (.bipush 10, 2) := by decide +kernel
theorem dX4_measure_151 : decode cX4_measure 151 = .ok (.imul, 1) := by decide +kernel
theorem dX4_measure_152 : decode cX4_measure 152 = .ok (.iload 4, 2) := by decide +kernel
theorem dX4_measure_154 : decode cX4_measure 154 = .ok (.iadd, 1) := by decide +kernel
theorem dX4_measure_155 : decode cX4_measure 155 = .ok (.iaload, 1) := by decide +kernel
theorem dX4_measure_156 : decode cX4_measure 156 = .ok (.aload_n 1, 1) := by decide +kernel
theorem dX4_measure_157 : decode cX4_measure 157 = .ok (.iload 4, 2) := by decide +kernel
theorem dX4_measure_159 : decode cX4_measure 159 = .ok (.bipush 10, 2) := by decide +kernel
theorem dX4_measure_161 : decode cX4_measure 161 = .ok (.imul, 1) := by decide +kernel
theorem dX4_measure_162 : decode cX4_measure 162 = .ok (.iload 5, 2) := by decide +kernel
theorem dX4_measure_164 : decode cX4_measure 164 = .ok (.bipush 10, 2) := by decide +kernel
theorem dX4_measure_166 : decode cX4_measure 166 = .ok (.irem, 1) := by decide +kernel
theorem dX4_measure_167 : decode cX4_measure 167 = .ok (.iadd, 1) := by decide +kernel
theorem dX4_measure_168 : decode cX4_measure 168 = .ok (.iaload, 1) := by decide +kernel
theorem dX4_measure_169 : decode cX4_measure 169 = .ok (.iadd, 1) := by decide +kernel
theorem dX4_measure_170 : decode cX4_measure 170 = .ok (.istore 6, 2) := by decide +kernel
theorem dX4_measure_172 : decode cX4_measure 172 = .ok (.aload_n 1, 1) := by decide +kernel
theorem dX4_measure_173 : decode cX4_measure 173 = .ok (.iload 5, 2) := by decide +kernel
theorem dX4_measure_175 : decode cX4_measure 175 = .ok (.aload_n 1, 1) := by decide +kernel
theorem dX4_measure_176 : decode cX4_measure 176 = .ok (.iload 5, 2) := by decide +kernel
theorem dX4_measure_178 : decode cX4_measure 178 = .ok (.iaload, 1) := by decide +kernel
theorem dX4_measure_179 : decode cX4_measure 179 = .ok (.iload 6, 2) := by decide +kernel
theorem dX4_measure_181 : decode cX4_measure 181 = .ok (.invokestatic 40, 3) := by decide +kernel
theorem dX4_measure_184 : decode cX4_measure 184 = .ok (.iastore, 1) := by decide +kernel
theorem dX4_measure_185 : decode cX4_measure 185 = .ok (.iinc 5 1, 3) := by decide +kernel
theorem dX4_measure_188 : decode cX4_measure 188 = .ok (.goto (-52), 3) := by decide +kernel
theorem dX4_measure_191 : decode cX4_measure 191 = .ok (.iinc 4 1, 3) := by decide +kernel
theorem dX4_measure_194 : decode cX4_measure 194 = .ok (.goto (-68), 3) := by decide +kernel
theorem dX4_measure_197 : decode cX4_measure 197 = .ok (.return_, 1) := by decide +kernel
theorem dX4_lostMinutes_0 : decode cX4_lostMinutes 0 = .ok (.iconst 0, 1) := by decide +kernel
theorem dX4_lostMinutes_1 : decode cX4_lostMinutes 1 = .ok (.istore_n 1, 1) := by decide +kernel
theorem dX4_lostMinutes_2 : decode cX4_lostMinutes 2 = .ok (.iconst 0, 1) := by decide +kernel
theorem dX4_lostMinutes_3 : decode cX4_lostMinutes 3 = .ok (.istore_n 2, 1) := by decide +kernel
theorem dX4_lostMinutes_4 : decode cX4_lostMinutes 4 = .ok (.iload_n 2, 1) := by decide +kernel
theorem dX4_lostMinutes_5 : decode cX4_lostMinutes 5 = .ok (.bipush 100, 2) := by decide +kernel
theorem dX4_lostMinutes_7 : decode cX4_lostMinutes 7 = .ok (.if_icmp .ge 63, 3) := by decide +kernel
theorem dX4_lostMinutes_10 : decode cX4_lostMinutes 10 = .ok (.iload_n 2, 1) := by decide +kernel
theorem dX4_lostMinutes_11 : decode cX4_lostMinutes 11 = .ok (.bipush 10, 2) := by decide +kernel
theorem dX4_lostMinutes_13 : decode cX4_lostMinutes 13 = .ok (.idiv, 1) := by decide +kernel
theorem dX4_lostMinutes_14 : decode cX4_lostMinutes 14 = .ok (.iload_n 2, 1) := by decide +kernel
theorem dX4_lostMinutes_15 : decode cX4_lostMinutes 15 = .ok (.bipush 10, 2) := by decide +kernel
theorem dX4_lostMinutes_17 : decode cX4_lostMinutes 17 = .ok (.irem, 1) := by decide +kernel
theorem dX4_lostMinutes_18 : decode cX4_lostMinutes 18 = .ok (.if_icmp .ge 46, 3) := by decide +kernel
theorem dX4_lostMinutes_21 : decode cX4_lostMinutes 21 = .ok (.aload_n 0, 1) := by decide +kernel
theorem dX4_lostMinutes_22 : decode cX4_lostMinutes 22 = .ok (.getfield 16, 3) := by decide +kernel
theorem dX4_lostMinutes_25 : decode cX4_lostMinutes 25 = .ok (.iload_n 2, 1) := by decide +kernel
theorem dX4_lostMinutes_26 : decode cX4_lostMinutes 26 = .ok (.iaload, 1) := by decide +kernel
theorem dX4_lostMinutes_27 : decode cX4_lostMinutes 27 = .ok (.ldc 30, 2) := by decide +kernel
theorem dX4_lostMinutes_29 : decode cX4_lostMinutes 29 = .ok (.if_icmp .ge 35, 3) := by decide +kernel
theorem dX4_lostMinutes_32 : decode cX4_lostMinutes 32 = .ok (.iload_n 1, 1) := by decide +kernel
theorem dX4_lostMinutes_33 : decode cX4_lostMinutes 33 = .ok (.aload_n 0, 1) := by decide +kernel
theorem dX4_lostMinutes_34 : decode cX4_lostMinutes 34 = .ok (.getfield 19, 3) := by decide +kernel
theorem dX4_lostMinutes_37 : decode cX4_lostMinutes 37 = .ok (.iload_n 2, 1) := by decide +kernel
theorem dX4_lostMinutes_38 : decode cX4_lostMinutes 38 = .ok (.iaload, 1) := by decide +kernel
theorem dX4_lostMinutes_39 : decode cX4_lostMinutes 39 = .ok (.ldc 30, 2) := by decide +kernel
theorem dX4_lostMinutes_41 : decode cX4_lostMinutes 41 = .ok (.if_icmp .ge 19, 3) := by decide +kernel
theorem dX4_lostMinutes_44 : decode cX4_lostMinutes 44 = .ok (.aload_n 0, 1) := by decide +kernel
theorem dX4_lostMinutes_45 : decode cX4_lostMinutes 45 = .ok (.getfield 19, 3) := by decide +kernel
theorem dX4_lostMinutes_48 : decode cX4_lostMinutes 48 = .ok (.iload_n 2, 1) := by decide +kernel
theorem dX4_lostMinutes_49 : decode cX4_lostMinutes 49 = .ok (.iaload, 1) := by decide +kernel
theorem dX4_lostMinutes_50 : decode cX4_lostMinutes 50 = .ok (.aload_n 0, 1) := by decide +kernel
theorem dX4_lostMinutes_51 : decode cX4_lostMinutes 51 = .ok (.getfield 16, 3) := by decide +kernel
theorem dX4_lostMinutes_54 : decode cX4_lostMinutes 54 = .ok (.iload_n 2, 1) := by decide +kernel
theorem dX4_lostMinutes_55 : decode cX4_lostMinutes 55 = .ok (.iaload, 1) := by decide +kernel
theorem dX4_lostMinutes_56 : decode cX4_lostMinutes 56 = .ok (.isub, 1) := by decide +kernel
theorem dX4_lostMinutes_57 : decode cX4_lostMinutes 57 = .ok (.goto 5, 3) := by decide +kernel
theorem dX4_lostMinutes_60 : decode cX4_lostMinutes 60 = .ok (.bipush 100, 2) := by decide +kernel
theorem dX4_lostMinutes_62 : decode cX4_lostMinutes 62 = .ok (.iadd, 1) := by decide +kernel
theorem dX4_lostMinutes_63 : decode cX4_lostMinutes 63 = .ok (.istore_n 1, 1) := by decide +kernel
theorem dX4_lostMinutes_64 : decode cX4_lostMinutes 64 = .ok (.iinc 2 1, 3) := by decide +kernel
theorem dX4_lostMinutes_67 : decode cX4_lostMinutes 67 = .ok (.goto (-63), 3) := by decide +kernel
theorem dX4_lostMinutes_70 : decode cX4_lostMinutes 70 = .ok (.iload_n 1, 1) := by decide +kernel
theorem dX4_lostMinutes_71 : decode cX4_lostMinutes 71 = .ok (.ireturn, 1) := by decide +kernel
theorem dX4_keep_0 : decode cX4_keep 0 = .ok (.aload_n 0, 1) := by decide +kernel
theorem dX4_keep_1 : decode cX4_keep 1 = .ok (.getfield 9, 3) := by decide +kernel
theorem dX4_keep_4 : decode cX4_keep 4 = .ok (.iconst 0, 1) := by decide +kernel
theorem dX4_keep_5 : decode cX4_keep 5 = .ok (.aload_n 0, 1) := by decide +kernel
theorem dX4_keep_6 : decode cX4_keep 6 = .ok (.getfield 13, 3) := by decide +kernel
theorem dX4_keep_9 : decode cX4_keep 9 = .ok (.iconst 0, 1) := by decide +kernel
theorem dX4_keep_10 : decode cX4_keep 10 = .ok (.bipush 100, 2) := by decide +kernel
theorem dX4_keep_12 : decode cX4_keep 12 = .ok (.invokestatic 46, 3) := by decide +kernel
theorem dX4_keep_15 : decode cX4_keep 15 = .ok (.return_, 1) := by decide +kernel
theorem dX4_comeBack_0 : decode cX4_comeBack 0 = .ok (.aload_n 0, 1) := by decide +kernel
theorem dX4_comeBack_1 : decode cX4_comeBack 1 = .ok (.getfield 13, 3) := by decide +kernel
theorem dX4_comeBack_4 : decode cX4_comeBack 4 = .ok (.iconst 0, 1) := by decide +kernel
theorem dX4_comeBack_5 : decode cX4_comeBack 5 = .ok (.aload_n 0, 1) := by decide +kernel
theorem dX4_comeBack_6 : decode cX4_comeBack 6 = .ok (.getfield 9, 3) := by decide +kernel
theorem dX4_comeBack_9 : decode cX4_comeBack 9 = .ok (.iconst 0, 1) := by decide +kernel
theorem dX4_comeBack_10 : decode cX4_comeBack 10 = .ok (.bipush 100, 2) := by decide +kernel
theorem dX4_comeBack_12 : decode cX4_comeBack 12 = .ok (.invokestatic 46, 3) := by decide +kernel
theorem dX4_comeBack_15 : decode cX4_comeBack 15 = .ok (.return_, 1) := by decide +kernel
theorem dX5_init_0 : decode cX5_init 0 = .ok (.aload_n 0, 1) := by decide +kernel
theorem dX5_init_1 : decode cX5_init 1 = .ok (.iload_n 1, 1) := by decide +kernel
theorem dX5_init_2 : decode cX5_init 2 = .ok (.iload_n 2, 1) := by decide +kernel
theorem dX5_init_3 : decode cX5_init 3 = .ok (.iload_n 3, 1) := by decide +kernel
theorem dX5_init_4 : decode cX5_init 4 = .ok (.invokespecial 1, 3) := by decide +kernel
theorem dX5_init_7 : decode cX5_init 7 = .ok (.return_, 1) := by decide +kernel
theorem dX5_pace_0 : decode cX5_pace 0 = .ok (.aload_n 0, 1) := by decide +kernel
theorem dX5_pace_1 : decode cX5_pace 1 = .ok (.invokespecial 7, 3) := by decide +kernel
theorem dX5_pace_4 : decode cX5_pace 4 = .ok (.aload_n 0, 1) := by decide +kernel
theorem dX5_pace_5 : decode cX5_pace 5 = .ok (.getfield 11, 3) := by decide +kernel
theorem dX5_pace_8 : decode cX5_pace 8 = .ok (.iadd, 1) := by decide +kernel
theorem dX5_pace_9 : decode cX5_pace 9 = .ok (.ireturn, 1) := by decide +kernel
theorem dX5_may_0 : decode cX5_may 0 = .ok (.aload_n 0, 1) := by decide +kernel
theorem dX5_may_1 : decode cX5_may 1 = .ok (.iload_n 1, 1) := by decide +kernel
theorem dX5_may_2 : decode cX5_may 2 = .ok (.invokespecial 17, 3) := by decide +kernel
theorem dX5_may_5 : decode cX5_may 5 = .ok (.ifCond .ne 18, 3) := by decide +kernel
theorem dX5_may_8 : decode cX5_may 8 = .ok (.iload_n 1, 1) := by decide +kernel
theorem dX5_may_9 : decode cX5_may 9 = .ok (.aload_n 0, 1) := by decide +kernel
theorem dX5_may_10 : decode cX5_may 10 = .ok (.getfield 11, 3) := by decide +kernel
theorem dX5_may_13 : decode cX5_may 13 = .ok (.if_icmp .ne 14, 3) := by decide +kernel
theorem dX5_may_16 : decode cX5_may 16 = .ok (.aload_n 0, 1) := by decide +kernel
theorem dX5_may_17 : decode cX5_may 17 = .ok (.invokevirtual 21, 3) := by decide +kernel
theorem dX5_may_20 : decode cX5_may 20 = .ok (.ifCond .ne 7, 3) := by decide +kernel
theorem dX5_may_23 : decode cX5_may 23 = .ok (.iconst 1, 1) := by decide +kernel
theorem dX5_may_24 : decode cX5_may 24 = .ok (.goto 4, 3) := by decide +kernel
theorem dX5_may_27 : decode cX5_may 27 = .ok (.iconst 0, 1) := by decide +kernel
theorem dX5_may_28 : decode cX5_may 28 = .ok (.ireturn, 1) := by decide +kernel
theorem dX5_parts_0 : decode cX5_parts 0 = .ok (.iconst 2, 1) := by decide +kernel
theorem dX5_parts_1 : decode cX5_parts 1 = .ok (.aload_n 0, 1) := by decide +kernel
theorem dX5_parts_2 : decode cX5_parts 2 = .ok (.invokespecial 25, 3) := by decide +kernel
theorem dX5_parts_5 : decode cX5_parts 5 = .ok (.imul, 1) := by decide +kernel
theorem dX5_parts_6 : decode cX5_parts 6 = .ok (.ireturn, 1) := by decide +kernel
theorem dX6_init_0 : decode cX6_init 0 = .ok (.aload_n 0, 1) := by decide +kernel
theorem dX6_init_1 : decode cX6_init 1 = .ok (.iload_n 1, 1) := by decide +kernel
theorem dX6_init_2 : decode cX6_init 2 = .ok (.iload_n 2, 1) := by decide +kernel
theorem dX6_init_3 : decode cX6_init 3 = .ok (.iload_n 3, 1) := by decide +kernel
theorem dX6_init_4 : decode cX6_init 4 = .ok (.invokespecial 1, 3) := by decide +kernel
theorem dX6_init_7 : decode cX6_init 7 = .ok (.return_, 1) := by decide +kernel
theorem dX6_pace_0 : decode cX6_pace 0 = .ok (.aload_n 0, 1) := by decide +kernel
theorem dX6_pace_1 : decode cX6_pace 1 = .ok (.invokespecial 7, 3) := by decide +kernel
theorem dX6_pace_4 : decode cX6_pace 4 = .ok (.aload_n 0, 1) := by decide +kernel
theorem dX6_pace_5 : decode cX6_pace 5 = .ok (.getfield 11, 3) := by decide +kernel
theorem dX6_pace_8 : decode cX6_pace 8 = .ok (.bipush 20, 2) := by decide +kernel
theorem dX6_pace_10 : decode cX6_pace 10 = .ok (.idiv, 1) := by decide +kernel
theorem dX6_pace_11 : decode cX6_pace 11 = .ok (.isub, 1) := by decide +kernel
theorem dX6_pace_12 : decode cX6_pace 12 = .ok (.ireturn, 1) := by decide +kernel
theorem dX6_may_0 : decode cX6_may 0 = .ok (.aload_n 0, 1) := by decide +kernel
theorem dX6_may_1 : decode cX6_may 1 = .ok (.iload_n 1, 1) := by decide +kernel
theorem dX6_may_2 : decode cX6_may 2 = .ok (.invokespecial 17, 3) := by decide +kernel
theorem dX6_may_5 : decode cX6_may 5 = .ok (.ifCond .eq 21, 3) := by decide +kernel
theorem dX6_may_8 : decode cX6_may 8 = .ok (.iload_n 1, 1) := by decide +kernel
theorem dX6_may_9 : decode cX6_may 9 = .ok (.iconst 2, 1) := by decide +kernel
theorem dX6_may_10 : decode cX6_may 10 = .ok (.irem, 1) := by decide +kernel
theorem dX6_may_11 : decode cX6_may 11 = .ok (.ifCond .eq 11, 3) := by decide +kernel
theorem dX6_may_14 : decode cX6_may 14 = .ok (.aload_n 0, 1) := by decide +kernel
theorem dX6_may_15 : decode cX6_may 15 = .ok (.getfield 21, 3) := by decide +kernel
theorem dX6_may_18 : decode cX6_may 18 = .ok (.iconst 4, 1) := by decide +kernel
theorem dX6_may_19 : decode cX6_may 19 = .ok (.if_icmp .le 7, 3) := by decide +kernel
theorem dX6_may_22 : decode cX6_may 22 = .ok (.iconst 1, 1) := by decide +kernel
theorem dX6_may_23 : decode cX6_may 23 = .ok (.goto 4, 3) := by decide +kernel
theorem dX6_may_26 : decode cX6_may 26 = .ok (.iconst 0, 1) := by decide +kernel
theorem dX6_may_27 : decode cX6_may 27 = .ok (.ireturn, 1) := by decide +kernel
theorem dX7_init_0 : decode cX7_init 0 = .ok (.aload_n 0, 1) := by decide +kernel
theorem dX7_init_1 : decode cX7_init 1 = .ok (.invokespecial 1, 3) := by decide +kernel
theorem dX7_init_4 : decode cX7_init 4 = .ok (.aload_n 0, 1) := by decide +kernel
theorem dX7_init_5 : decode cX7_init 5 = .ok (.iload_n 1, 1) := by decide +kernel
theorem dX7_init_6 : decode cX7_init 6 = .ok (.putfield 7, 3) := by decide +kernel
theorem dX7_init_9 : decode cX7_init 9 = .ok (.aload_n 0, 1) := by decide +kernel
theorem dX7_init_10 : decode cX7_init 10 = .ok (.iload_n 2, 1) := by decide +kernel
theorem dX7_init_11 : decode cX7_init 11 = .ok (.bipush 100, 2) := by decide +kernel
theorem dX7_init_13 : decode cX7_init 13 = .ok (.idiv, 1) := by decide +kernel
theorem dX7_init_14 : decode cX7_init 14 = .ok (.putfield 13, 3) := by decide +kernel
theorem dX7_init_17 : decode cX7_init 17 = .ok (.aload_n 0, 1) := by decide +kernel
theorem dX7_init_18 : decode cX7_init 18 = .ok (.iload_n 2, 1) := by decide +kernel
theorem dX7_init_19 : decode cX7_init 19 = .ok (.bipush 10, 2) := by decide +kernel
theorem dX7_init_21 : decode cX7_init 21 = .ok (.idiv, 1) := by decide +kernel
theorem dX7_init_22 : decode cX7_init 22 = .ok (.bipush 10, 2) := by decide +kernel
theorem dX7_init_24 : decode cX7_init 24 = .ok (.irem, 1) := by decide +kernel
theorem dX7_init_25 : decode cX7_init 25 = .ok (.putfield 16, 3) := by decide +kernel
theorem dX7_init_28 : decode cX7_init 28 = .ok (.aload_n 0, 1) := by decide +kernel
theorem dX7_init_29 : decode cX7_init 29 = .ok (.iload_n 2, 1) := by decide +kernel
theorem dX7_init_30 : decode cX7_init 30 = .ok (.bipush 10, 2) := by decide +kernel
theorem dX7_init_32 : decode cX7_init 32 = .ok (.irem, 1) := by decide +kernel
theorem dX7_init_33 : decode cX7_init 33 = .ok (.putfield 19, 3) := by decide +kernel
theorem dX7_init_36 : decode cX7_init 36 = .ok (.aload_n 0, 1) := by decide +kernel
theorem dX7_init_37 : decode cX7_init 37 = .ok (.iload_n 3, 1) := by decide +kernel
theorem dX7_init_38 : decode cX7_init 38 = .ok (.putfield 22, 3) := by decide +kernel
theorem dX7_init_41 : decode cX7_init 41 = .ok (.return_, 1) := by decide +kernel
theorem dX7_pace_0 : decode cX7_pace 0 = .ok (.bipush 10, 2) := by decide +kernel
theorem dX7_pace_2 : decode cX7_pace 2 = .ok (.ireturn, 1) := by decide +kernel
theorem dX7_toldPace_0 : decode cX7_toldPace 0 = .ok (.iconst 1, 1) := by decide +kernel
theorem dX7_toldPace_1 : decode cX7_toldPace 1 = .ok (.aload_n 0, 1) := by decide +kernel
theorem dX7_toldPace_2 : decode cX7_toldPace 2 = .ok (.invokevirtual 25, 3) := by decide +kernel
theorem dX7_toldPace_5 : decode cX7_toldPace 5 = .ok (.invokestatic 29, 3) := by decide +kernel
theorem dX7_toldPace_8 : decode cX7_toldPace 8 = .ok (.ireturn, 1) := by decide +kernel
theorem dX7_may_0 : decode cX7_may 0 = .ok (.iload_n 1, 1) := by decide +kernel
theorem dX7_may_1 : decode cX7_may 1 = .ok (.bipush 6, 2) := by decide +kernel
theorem dX7_may_3 : decode cX7_may 3 = .ok (.if_icmp .lt 20, 3) := by decide +kernel
theorem dX7_may_6 : decode cX7_may 6 = .ok (.iload_n 1, 1) := by decide +kernel
theorem dX7_may_7 : decode cX7_may 7 = .ok (.bipush 22, 2) := by decide +kernel
theorem dX7_may_9 : decode cX7_may 9 = .ok (.if_icmp .ge 14, 3) := by decide +kernel
theorem dX7_may_12 : decode cX7_may 12 = .ok (.aload_n 0, 1) := by decide +kernel
theorem dX7_may_13 : decode cX7_may 13 = .ok (.invokevirtual 35, 3) := by decide +kernel
theorem dX7_may_16 : decode cX7_may 16 = .ok (.ifCond .ne 7, 3) := by decide +kernel
theorem dX7_may_19 : decode cX7_may 19 = .ok (.iconst 1, 1) := by decide +kernel
theorem dX7_may_20 : decode cX7_may 20 = .ok (.goto 4, 3) := by decide +kernel
theorem dX7_may_23 : decode cX7_may 23 = .ok (.iconst 0, 1) := by decide +kernel
theorem dX7_may_24 : decode cX7_may 24 = .ok (.ireturn, 1) := by decide +kernel
theorem dX7_parts_0 : decode cX7_parts 0 = .ok (.iconst 4, 1) := by decide +kernel
theorem dX7_parts_1 : decode cX7_parts 1 = .ok (.ireturn, 1) := by decide +kernel
theorem dX7_rowsAt_0 : decode cX7_rowsAt 0 = .ok (.aload_n 0, 1) := by decide +kernel
theorem dX7_rowsAt_1 : decode cX7_rowsAt 1 = .ok (.getfield 19, 3) := by decide +kernel
theorem dX7_rowsAt_4 : decode cX7_rowsAt 4 = .ok (.iload_n 1, 1) := by decide +kernel
theorem dX7_rowsAt_5 : decode cX7_rowsAt 5 = .ok (.if_icmp .ne 7, 3) := by decide +kernel
theorem dX7_rowsAt_8 : decode cX7_rowsAt 8 = .ok (.iconst 1, 1) := by decide +kernel
theorem dX7_rowsAt_9 : decode cX7_rowsAt 9 = .ok (.goto 4, 3) := by decide +kernel
theorem dX7_rowsAt_12 : decode cX7_rowsAt 12 = .ok (.iconst 0, 1) := by decide +kernel
theorem dX7_rowsAt_13 : decode cX7_rowsAt 13 = .ok (.ireturn, 1) := by decide +kernel
theorem dX7_isIll_0 : decode cX7_isIll 0 = .ok (.aload_n 0, 1) := by decide +kernel
theorem dX7_isIll_1 : decode cX7_isIll 1 = .ok (.getfield 39, 3) := by decide +kernel
theorem dX7_isIll_4 : decode cX7_isIll 4 = .ok (.ifCond .eq 7, 3) := by decide +kernel
theorem dX7_isIll_7 : decode cX7_isIll 7 = .ok (.iconst 1, 1) := by decide +kernel
theorem dX7_isIll_8 : decode cX7_isIll 8 = .ok (.goto 4, 3) := by decide +kernel
theorem dX7_isIll_11 : decode cX7_isIll 11 = .ok (.iconst 0, 1) := by decide +kernel
theorem dX7_isIll_12 : decode cX7_isIll 12 = .ok (.ireturn, 1) := by decide +kernel
theorem dX7_keep_0 : decode cX7_keep 0 = .ok (.aload_n 0, 1) := by decide +kernel
theorem dX7_keep_1 : decode cX7_keep 1 = .ok (.aload_n 0, 1) := by decide +kernel
theorem dX7_keep_2 : decode cX7_keep 2 = .ok (.getfield 39, 3) := by decide +kernel
theorem dX7_keep_5 : decode cX7_keep 5 = .ok (.putfield 42, 3) := by decide +kernel
theorem dX7_keep_8 : decode cX7_keep 8 = .ok (.aload_n 0, 1) := by decide +kernel
theorem dX7_keep_9 : decode cX7_keep 9 = .ok (.aload_n 0, 1) := by decide +kernel
theorem dX7_keep_10 : decode cX7_keep 10 = .ok (.getfield 45, 3) := by decide +kernel
theorem dX7_keep_13 : decode cX7_keep 13 = .ok (.putfield 48, 3) := by decide +kernel
theorem dX7_keep_16 : decode cX7_keep 16 = .ok (.return_, 1) := by decide +kernel
theorem dX7_comeBack_0 : decode cX7_comeBack 0 = .ok (.aload_n 0, 1) := by decide +kernel
theorem dX7_comeBack_1 : decode cX7_comeBack 1 = .ok (.aload_n 0, 1) := by decide +kernel
theorem dX7_comeBack_2 : decode cX7_comeBack 2 = .ok (.getfield 42, 3) := by decide +kernel
theorem dX7_comeBack_5 : decode cX7_comeBack 5 = .ok (.putfield 39, 3) := by decide +kernel
theorem dX7_comeBack_8 : decode cX7_comeBack 8 = .ok (.aload_n 0, 1) := by decide +kernel
theorem dX7_comeBack_9 : decode cX7_comeBack 9 = .ok (.aload_n 0, 1) := by decide +kernel
theorem dX7_comeBack_10 : decode cX7_comeBack 10 = .ok (.getfield 48, 3) := by decide +kernel
theorem dX7_comeBack_13 : decode cX7_comeBack 13 = .ok (.putfield 45, 3) := by decide +kernel
theorem dX7_comeBack_16 : decode cX7_comeBack 16 = .ok (.return_, 1) := by decide +kernel
theorem dX8_init_0 : decode cX8_init 0 = .ok (.aload_n 0, 1) := by decide +kernel
theorem dX8_init_1 : decode cX8_init 1 = .ok (.invokespecial 1, 3) := by decide +kernel
theorem dX8_init_4 : decode cX8_init 4 = .ok (.aload_n 0, 1) := by decide +kernel
theorem dX8_init_5 : decode cX8_init 5 = .ok (.iconst (-1), 1) := by decide +kernel
theorem dX8_init_6 : decode cX8_init 6 = .ok (.putfield 9, 3) := by decide +kernel
theorem dX8_init_9 : decode cX8_init 9 = .ok (.aload_n 0, 1) := by decide +kernel
theorem dX8_init_10 : decode cX8_init 10 = .ok (.bipush 40, 2) := by decide +kernel
theorem dX8_init_12 : decode cX8_init 12 = .ok (.newarray .int, 2) := by decide +kernel
theorem dX8_init_14 : decode cX8_init 14 = .ok (.putfield 13, 3) := by decide +kernel
theorem dX8_init_17 : decode cX8_init 17 = .ok (.return_, 1) := by decide +kernel
theorem dX8_isMissing_0 : decode cX8_isMissing 0 = .ok (.aload_n 0, 1) := by decide +kernel
theorem dX8_isMissing_1 : decode cX8_isMissing 1 = .ok (.getfield 9, 3) := by decide +kernel
theorem dX8_isMissing_4 : decode cX8_isMissing 4 = .ok (.iconst (-1), 1) := by decide +kernel
theorem dX8_isMissing_5 : decode cX8_isMissing 5 = .ok (.if_icmp .ne 7, 3) := by decide +kernel
theorem dX8_isMissing_8 : decode cX8_isMissing 8 = .ok (.iconst 1, 1) := by decide +kernel
theorem dX8_isMissing_9 : decode cX8_isMissing 9 = .ok (.goto 4, 3) := by decide +kernel
theorem dX8_isMissing_12 : decode cX8_isMissing 12 = .ok (.iconst 0, 1) := by decide +kernel
theorem dX8_isMissing_13 : decode cX8_isMissing 13 = .ok (.ireturn, 1) := by decide +kernel
theorem dX8_become_0 : decode cX8_become 0 = .ok (.aload_n 0, 1) := by decide +kernel
theorem dX8_become_1 : decode cX8_become 1 = .ok (.iload_n 1, 1) := by decide +kernel
theorem dX8_become_2 : decode cX8_become 2 = .ok (.putfield 9, 3) := by decide +kernel
theorem dX8_become_5 : decode cX8_become 5 = .ok (.aload_n 0, 1) := by decide +kernel
theorem dX8_become_6 : decode cX8_become 6 = .ok (.iload_n 1, 1) := by decide +kernel
theorem dX8_become_7 : decode cX8_become 7 = .ok (.iconst (-1), 1) := by decide +kernel
theorem dX8_become_8 : decode cX8_become 8 = .ok (.if_icmp .ne 7, 3) := by decide +kernel
theorem dX8_become_11 : decode cX8_become 11 = .ok (.iconst 0, 1) := by decide +kernel
theorem dX8_become_12 : decode cX8_become 12 = .ok (.goto 13, 3) := by decide +kernel
theorem dX8_become_15 : decode cX8_become 15 = .ok (.iconst 0, 1) := by decide +kernel
theorem dX8_become_16 : decode cX8_become 16 = .ok (.bipush 40, 2) := by decide +kernel
theorem dX8_become_18 : decode cX8_become 18 = .ok (.iload_n 2, 1) := by decide +kernel
theorem dX8_become_19 : decode cX8_become 19 = .ok (.invokestatic 17, 3) := by decide +kernel
theorem dX8_become_22 : decode cX8_become 22 = .ok (.invokestatic 23, 3) := by decide +kernel
theorem dX8_become_25 : decode cX8_become 25 = .ok (.putfield 26, 3) := by decide +kernel
theorem dX8_become_28 : decode cX8_become 28 = .ok (.aload_n 0, 1) := by decide +kernel
theorem dX8_become_29 : decode cX8_become 29 = .ok (.getfield 13, 3) := by decide +kernel
theorem dX8_become_32 : decode cX8_become 32 = .ok (.iconst 0, 1) := by decide +kernel
theorem dX8_become_33 : decode cX8_become 33 = .ok (.invokestatic 29, 3) := by decide +kernel
theorem dX8_become_36 : decode cX8_become 36 = .ok (.return_, 1) := by decide +kernel
theorem dX8_holds_0 : decode cX8_holds 0 = .ok (.iload_n 1, 1) := by decide +kernel
theorem dX8_holds_1 : decode cX8_holds 1 = .ok (.ifCond .lt 29, 3) := by decide +kernel
theorem dX8_holds_4 : decode cX8_holds 4 = .ok (.iload_n 2, 1) := by decide +kernel
theorem dX8_holds_5 : decode cX8_holds 5 = .ok (.ifCond .lt 25, 3) := by decide +kernel
theorem dX8_holds_8 : decode cX8_holds 8 = .ok (.iload_n 1, 1) := by decide +kernel
theorem dX8_holds_9 : decode cX8_holds 9 = .ok (.aload_n 0, 1) := by decide +kernel
theorem dX8_holds_10 : decode cX8_holds 10 = .ok (.getfield 26, 3) := by decide +kernel
theorem dX8_holds_13 : decode cX8_holds 13 = .ok (.if_icmp .gt 17, 3) := by decide +kernel
theorem dX8_holds_16 : decode cX8_holds 16 = .ok (.iload_n 2, 1) := by decide +kernel
theorem dX8_holds_17 : decode cX8_holds 17 = .ok (.aload_n 0, 1) := by decide +kernel
theorem dX8_holds_18 : decode cX8_holds 18 = .ok (.getfield 26, 3) := by decide +kernel
theorem dX8_holds_21 : decode cX8_holds 21 = .ok (.iload_n 1, 1) := by decide +kernel
theorem dX8_holds_22 : decode cX8_holds 22 = .ok (.isub, 1) := by decide +kernel
theorem dX8_holds_23 : decode cX8_holds 23 = .ok (.if_icmp .gt 7, 3) := by decide +kernel
theorem dX8_holds_26 : decode cX8_holds 26 = .ok (.iconst 1, 1) := by decide +kernel
theorem dX8_holds_27 : decode cX8_holds 27 = .ok (.goto 4, 3) := by decide +kernel
theorem dX8_holds_30 : decode cX8_holds 30 = .ok (.iconst 0, 1) := by decide +kernel
theorem dX8_holds_31 : decode cX8_holds 31 = .ok (.ireturn, 1) := by decide +kernel
theorem dX8_item_0 : decode cX8_item 0 = .ok (.aload_n 0, 1) := by decide +kernel
theorem dX8_item_1 : decode cX8_item 1 = .ok (.iload_n 1, 1) := by decide +kernel
theorem dX8_item_2 : decode cX8_item 2 = .ok (.iconst 1, 1) := by decide +kernel
theorem dX8_item_3 : decode cX8_item 3 = .ok (.invokevirtual 35, 3) := by decide +kernel
theorem dX8_item_6 : decode cX8_item 6 = .ok (.ifCond .eq 12, 3) := by decide +kernel
theorem dX8_item_9 : decode cX8_item 9 = .ok (.aload_n 0, 1) := by decide +kernel
theorem dX8_item_10 : decode cX8_item 10 = .ok (.getfield 13, 3) := by decide +kernel
theorem dX8_item_13 : decode cX8_item 13 = .ok (.iload_n 1, 1) := by decide +kernel
theorem dX8_item_14 : decode cX8_item 14 = .ok (.iaload, 1) := by decide +kernel
theorem dX8_item_15 : decode cX8_item 15 = .ok (.goto 4, 3) := by decide +kernel
theorem dX8_item_18 : decode cX8_item 18 = .ok (.iconst 0, 1) := by decide +kernel
theorem dX8_item_19 : decode cX8_item 19 = .ok (.ireturn, 1) := by decide +kernel
theorem dX8_put_0 : decode cX8_put 0 = .ok (.aload_n 0, 1) := by decide +kernel
theorem dX8_put_1 : decode cX8_put 1 = .ok (.iload_n 1, 1) := by decide +kernel
theorem dX8_put_2 : decode cX8_put 2 = .ok (.iconst 1, 1) := by decide +kernel
theorem dX8_put_3 : decode cX8_put 3 = .ok (.invokevirtual 35, 3) := by decide +kernel
theorem dX8_put_6 : decode cX8_put 6 = .ok (.ifCond .ne 5, 3) := by decide +kernel
theorem dX8_put_9 : decode cX8_put 9 = .ok (.iconst 0, 1) := by decide +kernel
theorem dX8_put_10 : decode cX8_put 10 = .ok (.ireturn, 1) := by decide +kernel
theorem dX8_put_11 : decode cX8_put 11 = .ok (.aload_n 0, 1) := by decide +kernel
theorem dX8_put_12 : decode cX8_put 12 = .ok (.getfield 13, 3) := by decide +kernel
theorem dX8_put_15 : decode cX8_put 15 = .ok (.iload_n 1, 1) := by decide +kernel
theorem dX8_put_16 : decode cX8_put 16 = .ok (.aload_n 0, 1) := by decide +kernel
theorem dX8_put_17 : decode cX8_put 17 = .ok (.getfield 9, 3) := by decide +kernel
theorem dX8_put_20 : decode cX8_put 20 = .ok (.ifCond .ne 8, 3) := by decide +kernel
theorem dX8_put_23 : decode cX8_put 23 = .ok (.iload_n 2, 1) := by decide +kernel
theorem dX8_put_24 : decode cX8_put 24 = .ok (.i2b, 1) := by decide +kernel
theorem dX8_put_25 : decode cX8_put 25 = .ok (.goto 17, 3) := by decide +kernel
theorem dX8_put_28 : decode cX8_put 28 = .ok (.aload_n 0, 1) := by decide +kernel
theorem dX8_put_29 : decode cX8_put 29 = .ok (.getfield 9, 3) := by decide +kernel
theorem dX8_put_32 : decode cX8_put 32 = .ok (.iconst 1, 1) := by decide +kernel
theorem dX8_put_33 : decode cX8_put 33 = .ok (.if_icmp .ne 8, 3) := by decide +kernel
theorem dX8_put_36 : decode cX8_put 36 = .ok (.iload_n 2, 1) := by decide +kernel
theorem dX8_put_37 : decode cX8_put 37 = .ok (.i2s, 1) := by decide +kernel
theorem dX8_put_38 : decode cX8_put 38 = .ok (.goto 4, 3) := by decide +kernel
theorem dX8_put_41 : decode cX8_put 41 = .ok (.iload_n 2, 1) := by decide +kernel
theorem dX8_put_42 : decode cX8_put 42 = .ok (.iastore, 1) := by decide +kernel
theorem dX8_put_43 : decode cX8_put 43 = .ok (.iconst 1, 1) := by decide +kernel
theorem dX8_put_44 : decode cX8_put 44 = .ok (.ireturn, 1) := by decide +kernel
theorem dX9_init_0 : decode cX9_init 0 = .ok (.aload_n 0, 1) := by decide +kernel
theorem dX9_init_1 : decode cX9_init 1 = .ok (.iload_n 1, 1) := by decide +kernel
theorem dX9_init_2 : decode cX9_init 2 = .ok (.iload_n 2, 1) := by decide +kernel
theorem dX9_init_3 : decode cX9_init 3 = .ok (.iload_n 3, 1) := by decide +kernel
theorem dX9_init_4 : decode cX9_init 4 = .ok (.invokespecial 1, 3) := by decide +kernel
theorem dX9_init_7 : decode cX9_init 7 = .ok (.return_, 1) := by decide +kernel
theorem dX9_pace_0 : decode cX9_pace 0 = .ok (.aload_n 0, 1) := by decide +kernel
theorem dX9_pace_1 : decode cX9_pace 1 = .ok (.invokespecial 7, 3) := by decide +kernel
theorem dX9_pace_4 : decode cX9_pace 4 = .ok (.iconst 3, 1) := by decide +kernel
theorem dX9_pace_5 : decode cX9_pace 5 = .ok (.isub, 1) := by decide +kernel
theorem dX9_pace_6 : decode cX9_pace 6 = .ok (.ireturn, 1) := by decide +kernel
theorem dX9_may_0 : decode cX9_may 0 = .ok (.aload_n 0, 1) := by decide +kernel
theorem dX9_may_1 : decode cX9_may 1 = .ok (.iload_n 1, 1) := by decide +kernel
theorem dX9_may_2 : decode cX9_may 2 = .ok (.invokespecial 11, 3) := by decide +kernel
theorem dX9_may_5 : decode cX9_may 5 = .ok (.ifCond .ne 16, 3) := by decide +kernel
theorem dX9_may_8 : decode cX9_may 8 = .ok (.aload_n 0, 1) := by decide +kernel
theorem dX9_may_9 : decode cX9_may 9 = .ok (.invokevirtual 15, 3) := by decide +kernel
theorem dX9_may_12 : decode cX9_may 12 = .ok (.ifCond .ne 13, 3) := by decide +kernel
theorem dX9_may_15 : decode cX9_may 15 = .ok (.iload_n 1, 1) := by decide +kernel
theorem dX9_may_16 : decode cX9_may 16 = .ok (.bipush 22, 2) := by decide +kernel
theorem dX9_may_18 : decode cX9_may 18 = .ok (.if_icmp .lt 7, 3) := by decide +kernel
theorem dX9_may_21 : decode cX9_may 21 = .ok (.iconst 1, 1) := by decide +kernel
theorem dX9_may_22 : decode cX9_may 22 = .ok (.goto 4, 3) := by decide +kernel
theorem dX9_may_25 : decode cX9_may 25 = .ok (.iconst 0, 1) := by decide +kernel
theorem dX9_may_26 : decode cX9_may 26 = .ok (.ireturn, 1) := by decide +kernel
theorem dX9_parts_0 : decode cX9_parts 0 = .ok (.aload_n 0, 1) := by decide +kernel
theorem dX9_parts_1 : decode cX9_parts 1 = .ok (.invokespecial 21, 3) := by decide +kernel
theorem dX9_parts_4 : decode cX9_parts 4 = .ok (.iconst 2, 1) := by decide +kernel
theorem dX9_parts_5 : decode cX9_parts 5 = .ok (.idiv, 1) := by decide +kernel
theorem dX9_parts_6 : decode cX9_parts 6 = .ok (.ireturn, 1) := by decide +kernel
theorem dX9_rowsAt_0 : decode cX9_rowsAt 0 = .ok (.iconst 1, 1) := by decide +kernel
theorem dX9_rowsAt_1 : decode cX9_rowsAt 1 = .ok (.ireturn, 1) := by decide +kernel
theorem dX10_init_0 : decode cX10_init 0 = .ok (.aload_n 0, 1) := by decide +kernel
theorem dX10_init_1 : decode cX10_init 1 = .ok (.invokespecial 3, 3) := by decide +kernel
theorem dX10_init_4 : decode cX10_init 4 = .ok (.aload_n 0, 1) := by decide +kernel
theorem dX10_init_5 : decode cX10_init 5 = .ok (.sipush 160, 3) := by decide +kernel
theorem dX10_init_8 : decode cX10_init 8 = .ok (.newarray .byte, 2) := by decide +kernel
theorem dX10_init_10 : decode cX10_init 10 = .ok (.putfield 11, 3) := by decide +kernel
theorem dX10_init_13 : decode cX10_init 13 = .ok (.aload_n 0, 1) := by decide +kernel
theorem dX10_init_14 : decode cX10_init 14 = .ok (.sipush 960, 3) := by decide +kernel
theorem dX10_init_17 : decode cX10_init 17 = .ok (.newarray .int, 2) := by decide +kernel
theorem dX10_init_19 : decode cX10_init 19 = .ok (.putfield 15, 3) := by decide +kernel
theorem dX10_init_22 : decode cX10_init 22 = .ok (.aload_n 0, 1) := by decide +kernel
theorem dX10_init_23 : decode cX10_init 23 = .ok (.bipush 18, 2) := by decide +kernel
theorem dX10_init_25 : decode cX10_init 25 = .ok (.newarray .int, 2) := by decide +kernel
theorem dX10_init_27 : decode cX10_init 27 = .ok (.putfield 19, 3) := by decide +kernel
theorem dX10_init_30 : decode cX10_init 30 = .ok (.aload_n 0, 1) := by decide +kernel
theorem dX10_init_31 : decode cX10_init 31 = .ok (.bipush 64, 2) := by decide +kernel
theorem dX10_init_33 : decode cX10_init 33 = .ok (.newarray .int, 2) := by decide +kernel
theorem dX10_init_35 : decode cX10_init 35 = .ok (.putfield 22, 3) := by decide +kernel
theorem dX10_init_38 : decode cX10_init 38 = .ok (.return_, 1) := by decide +kernel
theorem dX10_addBytes_0 : decode cX10_addBytes 0 = .ok (.iload_n 1, 1) := by decide +kernel
theorem dX10_addBytes_1 : decode cX10_addBytes 1 = .ok (.sipush 160, 3) := by decide +kernel
theorem dX10_addBytes_4 : decode cX10_addBytes 4 = .ok (.aload_n 0, 1) := by decide +kernel
theorem dX10_addBytes_5 : decode cX10_addBytes 5 = .ok (.getfield 25, 3) := by decide +kernel
theorem dX10_addBytes_8 : decode cX10_addBytes 8 = .ok (.isub, 1) := by decide +kernel
theorem dX10_addBytes_9 : decode cX10_addBytes 9 = .ok (.if_icmp .le 6, 3) := by decide +kernel
theorem dX10_addBytes_12 : decode cX10_addBytes 12 = .ok (.bipush (-4), 2) := by decide +kernel
theorem dX10_addBytes_14 : decode cX10_addBytes 14 = .ok (.ireturn, 1) := by decide +kernel
theorem dX10_addBytes_15 : decode cX10_addBytes 15 = .ok (.iconst 0, 1) := by decide +kernel
theorem dX10_addBytes_16 : decode cX10_addBytes 16 = .ok (.istore 4, 2) := by decide +kernel
theorem dX10_addBytes_18 : decode cX10_addBytes 18 = .ok (.iload 4, 2) := by decide +kernel
theorem dX10_addBytes_20 : decode cX10_addBytes 20 = .ok (.iload_n 1, 1) := by decide +kernel
theorem dX10_addBytes_21 : decode cX10_addBytes 21 = .ok (.if_icmp .ge 37, 3) := by decide +kernel
theorem dX10_addBytes_24 : decode cX10_addBytes 24 = .ok (.aload_n 0, 1) := by decide +kernel
theorem dX10_addBytes_25 : decode cX10_addBytes 25 = .ok (.getfield 11, 3) := by decide +kernel
theorem dX10_addBytes_28 : decode cX10_addBytes 28 = .ok (.aload_n 0, 1) := by decide +kernel
theorem dX10_addBytes_29 : decode cX10_addBytes 29 = .ok (.getfield 25, 3) := by decide +kernel
theorem dX10_addBytes_32 : decode cX10_addBytes 32 = .ok (.lload_n 2, 1) := by decide +kernel
theorem dX10_addBytes_33 : decode cX10_addBytes 33 = .ok (.bipush 8, 2) := by decide +kernel
theorem dX10_addBytes_35 : decode cX10_addBytes 35 = .ok (.iload 4, 2) := by decide +kernel
theorem dX10_addBytes_37 : decode cX10_addBytes 37 = .ok (.imul, 1) := by decide +kernel
theorem dX10_addBytes_38 : decode cX10_addBytes 38 = .ok (.lshr, 1) := by decide +kernel
theorem dX10_addBytes_39 : decode cX10_addBytes 39 = .ok (.l2i, 1) := by decide +kernel
theorem dX10_addBytes_40 : decode cX10_addBytes 40 = .ok (.i2b, 1) := by decide +kernel
theorem dX10_addBytes_41 : decode cX10_addBytes 41 = .ok (.bastore, 1) := by decide +kernel
theorem dX10_addBytes_42 : decode cX10_addBytes 42 = .ok (.aload_n 0, 1) := by decide +kernel
theorem dX10_addBytes_43 : decode cX10_addBytes 43 = .ok (.dup, 1) := by decide +kernel
theorem dX10_addBytes_44 : decode cX10_addBytes 44 = .ok (.getfield 25, 3) := by decide +kernel
theorem dX10_addBytes_47 : decode cX10_addBytes 47 = .ok (.iconst 1, 1) := by decide +kernel
theorem dX10_addBytes_48 : decode cX10_addBytes 48 = .ok (.iadd, 1) := by decide +kernel
theorem dX10_addBytes_49 : decode cX10_addBytes 49 = .ok (.putfield 25, 3) := by decide +kernel
theorem dX10_addBytes_52 : decode cX10_addBytes 52 = .ok (.iinc 4 1, 3) := by decide +kernel
theorem dX10_addBytes_55 : decode cX10_addBytes 55 = .ok (.goto (-37), 3) := by decide +kernel
theorem dX10_addBytes_58 : decode cX10_addBytes 58 = .ok (.aload_n 0, 1) := by decide +kernel
theorem dX10_addBytes_59 : decode cX10_addBytes 59 = .ok (.getfield 25, 3) := by decide +kernel
theorem dX10_addBytes_62 : decode cX10_addBytes 62 = .ok (.ireturn, 1) := by decide +kernel
theorem dX10_addSigns_0 : decode cX10_addSigns 0 = .ok (.iconst 0, 1) := by decide +kernel
theorem dX10_addSigns_1 : decode cX10_addSigns 1 = .ok (.istore_n 2, 1) := by decide +kernel
theorem dX10_addSigns_2 : decode cX10_addSigns 2 = .ok (.iload_n 2, 1) := by decide +kernel
theorem dX10_addSigns_3 : decode cX10_addSigns 3 = .ok (.aload_n 1, 1) := by decide +kernel
theorem dX10_addSigns_4 : decode cX10_addSigns 4 = .ok (.invokevirtual 29, 3) := by decide +kernel
theorem dX10_addSigns_7 : decode cX10_addSigns 7 = .ok (.if_icmp .ge 21, 3) := by decide +kernel
theorem dX10_addSigns_10 : decode cX10_addSigns 10 = .ok (.aload_n 0, 1) := by decide +kernel
theorem dX10_addSigns_11 : decode cX10_addSigns 11 = .ok (.iconst 1, 1) := by decide +kernel
theorem dX10_addSigns_12 : decode cX10_addSigns 12 = .ok (.aload_n 1, 1) := by decide +kernel
theorem dX10_addSigns_13 : decode cX10_addSigns 13 = .ok (.iload_n 2, 1) := by decide +kernel
theorem dX10_addSigns_14 : decode cX10_addSigns 14 = .ok (.invokevirtual 35, 3) := by decide +kernel
theorem dX10_addSigns_17 : decode cX10_addSigns 17 = .ok (.i2l, 1) := by decide +kernel
theorem dX10_addSigns_18 : decode cX10_addSigns 18 = .ok (.invokevirtual 39, 3) := by decide +kernel
theorem dX10_addSigns_21 : decode cX10_addSigns 21 = .ok (.pop, 1) := by decide +kernel
theorem dX10_addSigns_22 : decode cX10_addSigns 22 = .ok (.iinc 2 1, 3) := by decide +kernel
theorem dX10_addSigns_25 : decode cX10_addSigns 25 = .ok (.goto (-23), 3) := by decide +kernel
theorem dX10_addSigns_28 : decode cX10_addSigns 28 = .ok (.return_, 1) := by decide +kernel
theorem dX10_readTape_0 : decode cX10_readTape 0 = .ok (.aload_n 0, 1) := by decide +kernel
theorem dX10_readTape_1 : decode cX10_readTape 1 = .ok (.getfield 43, 3) := by decide +kernel
theorem dX10_readTape_4 : decode cX10_readTape 4 = .ok (.bipush 6, 2) := by decide +kernel
theorem dX10_readTape_6 : decode cX10_readTape 6 = .ok (.if_icmp .lt 6, 3) := by decide +kernel
theorem dX10_readTape_9 : decode cX10_readTape 9 = .ok (.bipush (-4), 2) := by decide +kernel
theorem dX10_readTape_11 : decode cX10_readTape 11 = .ok (.ireturn, 1) := by decide +kernel
theorem dX10_readTape_12 : decode cX10_readTape 12 = .ok (.aload_n 0, 1) := by decide +kernel
theorem dX10_readTape_13 : decode cX10_readTape 13 = .ok (.iconst 0, 1) := by decide +kernel
theorem dX10_readTape_14 : decode cX10_readTape 14 = .ok (.putfield 46, 3) := by decide +kernel
theorem dX10_readTape_17 : decode cX10_readTape 17 = .ok (.aload_n 0, 1) := by decide +kernel
theorem dX10_readTape_18 : decode cX10_readTape 18 = .ok (.iconst 0, 1) := by decide +kernel
theorem dX10_readTape_19 : decode cX10_readTape 19 = .ok (.putfield 48, 3) := by decide +kernel
theorem dX10_readTape_22 : decode cX10_readTape 22 = .ok (.aload_n 0, 1) := by decide +kernel
theorem dX10_readTape_23 : decode cX10_readTape 23 = .ok (.iconst (-1), 1) := by decide +kernel
theorem dX10_readTape_24 : decode cX10_readTape 24 = .ok (.putfield 51, 3) := by decide +kernel
theorem dX10_readTape_27 : decode cX10_readTape 27 = .ok (.aload_n 0, 1) := by decide +kernel
theorem dX10_readTape_28 : decode cX10_readTape 28 = .ok (.invokevirtual 54, 3) := by decide +kernel
theorem dX10_readTape_31 : decode cX10_readTape 31 = .ok (.iconst 0, 1) := by decide +kernel
theorem dX10_readTape_32 : decode cX10_readTape 32 = .ok (.istore_n 1, 1) := by decide +kernel
theorem dX10_readTape_33 : decode cX10_readTape 33 = .ok (.iload_n 1, 1) := by decide +kernel
theorem dX10_readTape_34 : decode cX10_readTape 34 = .ok (.iconst 3, 1) := by decide +kernel
theorem dX10_readTape_35 : decode cX10_readTape 35 = .ok (.if_icmp .ge 53, 3) := by decide +kernel
theorem dX10_readTape_38 : decode cX10_readTape 38 = .ok (.aload_n 0, 1) := by decide +kernel
theorem dX10_readTape_39 : decode cX10_readTape 39 = .ok (.getfield 19, 3) := by decide +kernel
theorem dX10_readTape_42 : decode cX10_readTape 42 = .ok (.aload_n 0, 1) := by decide +kernel
theorem dX10_readTape_43 : decode cX10_readTape 43 = .ok (.getfield 43, 3) := by decide +kernel
theorem dX10_readTape_46 : decode cX10_readTape 46 = .ok (.iconst 3, 1) := by decide +kernel
theorem dX10_readTape_47 : decode cX10_readTape 47 = .ok (.imul, 1) := by decide +kernel
theorem dX10_readTape_48 : decode cX10_readTape 48 = .ok (.iload_n 1, 1) := by decide +kernel
theorem dX10_readTape_49 : decode cX10_readTape 49 = .ok (.iadd, 1) := by decide +kernel
theorem dX10_readTape_50 : decode cX10_readTape 50 = .ok (.aload_n 0, 1) := by decide +kernel
theorem dX10_readTape_51 : decode cX10_readTape 51 = .ok (.getfield 46, 3) := by decide +kernel
theorem dX10_readTape_54 : decode cX10_readTape 54 = .ok (.iastore, 1) := by decide +kernel
theorem dX10_readTape_55 : decode cX10_readTape 55 = .ok (.aload_n 0, 1) := by decide +kernel
theorem dX10_readTape_56 : decode cX10_readTape 56 = .ok (.bipush 6, 2) := by decide +kernel
theorem dX10_readTape_58 : decode cX10_readTape 58 = .ok (.iload_n 1, 1) := by decide +kernel
theorem dX10_readTape_59 : decode cX10_readTape 59 = .ok (.iadd, 1) := by decide +kernel
theorem dX10_readTape_60 : decode cX10_readTape 60 = .ok (.invokevirtual 57, 3) := by decide +kernel
theorem dX10_readTape_63 : decode cX10_readTape 63 = .ok (.aload_n 0, 1) := by decide +kernel
theorem dX10_readTape_64 : decode cX10_readTape 64 = .ok (.iconst 0, 1) := by decide +kernel
theorem dX10_readTape_65 : decode cX10_readTape 65 = .ok (.iconst 0, 1) := by decide +kernel
theorem dX10_readTape_66 : decode cX10_readTape 66 = .ok (.invokevirtual 61, 3) := by decide +kernel
theorem dX10_readTape_69 : decode cX10_readTape 69 = .ok (.aload_n 0, 1) := by decide +kernel
theorem dX10_readTape_70 : decode cX10_readTape 70 = .ok (.bipush 59, 2) := by decide +kernel
theorem dX10_readTape_72 : decode cX10_readTape 72 = .ok (.invokevirtual 57, 3) := by decide +kernel
theorem dX10_readTape_75 : decode cX10_readTape 75 = .ok (.aload_n 0, 1) := by decide +kernel
theorem dX10_readTape_76 : decode cX10_readTape 76 = .ok (.sipush 10059, 3) := by decide +kernel
theorem dX10_readTape_79 : decode cX10_readTape 79 = .ok (.invokevirtual 65, 3) := by decide +kernel
theorem dX10_readTape_82 : decode cX10_readTape 82 = .ok (.iinc 1 1, 3) := by decide +kernel
theorem dX10_readTape_85 : decode cX10_readTape 85 = .ok (.goto (-52), 3) := by decide +kernel
theorem dX10_readTape_88 : decode cX10_readTape 88 = .ok (.aload_n 0, 1) := by decide +kernel
theorem dX10_readTape_89 : decode cX10_readTape 89 = .ok (.getfield 68, 3) := by decide +kernel
theorem dX10_readTape_92 : decode cX10_readTape 92 = .ok (.bipush 13, 2) := by decide +kernel
theorem dX10_readTape_94 : decode cX10_readTape 94 = .ok (.if_icmp .eq 7, 3) := by decide +kernel
theorem dX10_readTape_97 : decode cX10_readTape 97 = .ok (.aload_n 0, 1) := by decide +kernel
theorem dX10_readTape_98 : decode cX10_readTape 98 = .ok (.invokevirtual 71, 3) := by decide +kernel
theorem dX10_readTape_101 : decode cX10_readTape 101 = .ok (.aload_n 0, 1) := by decide +kernel
theorem dX10_readTape_102 : decode cX10_readTape 102 = .ok (.iconst 0, 1) := by decide +kernel
theorem dX10_readTape_103 : decode cX10_readTape 103 = .ok (.putfield 25, 3) := by decide +kernel
theorem dX10_readTape_106 : decode cX10_readTape 106 = .ok (.aload_n 0, 1) := by decide +kernel
theorem dX10_readTape_107 : decode cX10_readTape 107 = .ok (.getfield 51, 3) := by decide +kernel
theorem dX10_readTape_110 : decode cX10_readTape 110 = .ok (.iconst (-1), 1) := by decide +kernel
theorem dX10_readTape_111 : decode cX10_readTape 111 = .ok (.if_icmp .eq 11, 3) := by decide +kernel
theorem dX10_readTape_114 : decode cX10_readTape 114 = .ok (.bipush (-100), 2) := by decide +kernel
theorem dX10_readTape_116 : decode cX10_readTape 116 = .ok (.aload_n 0, 1) := by decide +kernel
theorem dX10_readTape_117 : decode cX10_readTape 117 = .ok (.getfield 51, 3) := by decide +kernel
theorem dX10_readTape_120 : decode cX10_readTape 120 = .ok (.isub, 1) := by decide +kernel
theorem dX10_readTape_121 : decode cX10_readTape 121 = .ok (.ireturn, 1) := by decide +kernel
theorem dX10_readTape_122 : decode cX10_readTape 122 = .ok (.aload_n 0, 1) := by decide +kernel
theorem dX10_readTape_123 : decode cX10_readTape 123 = .ok (.dup, 1) := by decide +kernel
theorem dX10_readTape_124 : decode cX10_readTape 124 = .ok (.getfield 43, 3) := by decide +kernel
theorem dX10_readTape_127 : decode cX10_readTape 127 = .ok (.iconst 1, 1) := by decide +kernel
theorem dX10_readTape_128 : decode cX10_readTape 128 = .ok (.iadd, 1) := by decide +kernel
theorem dX10_readTape_129 : decode cX10_readTape 129 = .ok (.putfield 43, 3) := by decide +kernel
theorem dX10_readTape_132 : decode cX10_readTape 132 = .ok (.aload_n 0, 1) := by decide +kernel
theorem dX10_readTape_133 : decode cX10_readTape 133 = .ok (.getfield 43, 3) := by decide +kernel
theorem dX10_readTape_136 : decode cX10_readTape 136 = .ok (.iconst 1, 1) := by decide +kernel
theorem dX10_readTape_137 : decode cX10_readTape 137 = .ok (.isub, 1) := by decide +kernel
theorem dX10_readTape_138 : decode cX10_readTape 138 = .ok (.ireturn, 1) := by decide +kernel
theorem dX10_read_0 : decode cX10_read 0 = .ok (.iload_n 1, 1) := by decide +kernel
theorem dX10_read_1 : decode cX10_read 1 = .ok (.iconst 5, 1) := by decide +kernel
theorem dX10_read_2 : decode cX10_read 2 = .ok (.if_icmp .ne 29, 3) := by decide +kernel
theorem dX10_read_5 : decode cX10_read 5 = .ok (.aload_n 0, 1) := by decide +kernel
theorem dX10_read_6 : decode cX10_read 6 = .ok (.getfield 68, 3) := by decide +kernel
theorem dX10_read_9 : decode cX10_read 9 = .ok (.bipush 45, 2) := by decide +kernel
theorem dX10_read_11 : decode cX10_read 11 = .ok (.if_icmp .eq 12, 3) := by decide +kernel
theorem dX10_read_14 : decode cX10_read 14 = .ok (.aload_n 0, 1) := by decide +kernel
theorem dX10_read_15 : decode cX10_read 15 = .ok (.getfield 68, 3) := by decide +kernel
theorem dX10_read_18 : decode cX10_read 18 = .ok (.bipush 40, 2) := by decide +kernel
theorem dX10_read_20 : decode cX10_read 20 = .ok (.if_icmp .ne 7, 3) := by decide +kernel
theorem dX10_read_23 : decode cX10_read 23 = .ok (.iconst 1, 1) := by decide +kernel
theorem dX10_read_24 : decode cX10_read 24 = .ok (.goto 26, 3) := by decide +kernel
theorem dX10_read_27 : decode cX10_read 27 = .ok (.iconst 0, 1) := by decide +kernel
theorem dX10_read_28 : decode cX10_read 28 = .ok (.goto 22, 3) := by decide +kernel
theorem dX10_read_31 : decode cX10_read 31 = .ok (.iload_n 1, 1) := by decide +kernel
theorem dX10_read_32 : decode cX10_read 32 = .ok (.iconst 2, 1) := by decide +kernel
theorem dX10_read_33 : decode cX10_read 33 = .ok (.if_icmp .ne 16, 3) := by decide +kernel
theorem dX10_read_36 : decode cX10_read 36 = .ok (.aload_n 0, 1) := by decide +kernel
theorem dX10_read_37 : decode cX10_read 37 = .ok (.getfield 68, 3) := by decide +kernel
theorem dX10_read_40 : decode cX10_read 40 = .ok (.bipush 11, 2) := by decide +kernel
theorem dX10_read_42 : decode cX10_read 42 = .ok (.if_icmp .ne 7, 3) := by decide +kernel
theorem dX10_read_45 : decode cX10_read 45 = .ok (.iconst 1, 1) := by decide +kernel
theorem dX10_read_46 : decode cX10_read 46 = .ok (.goto 4, 3) := by decide +kernel
theorem dX10_read_49 : decode cX10_read 49 = .ok (.iconst 0, 1) := by decide +kernel
theorem dX10_read_50 : decode cX10_read 50 = .ok (.istore_n 3, 1) := by decide +kernel
theorem dX10_read_51 : decode cX10_read 51 = .ok (.iload_n 3, 1) := by decide +kernel
theorem dX10_read_52 : decode cX10_read 52 = .ok (.ifCond .eq 11, 3) := by decide +kernel
theorem dX10_read_55 : decode cX10_read 55 = .ok (.aload_n 0, 1) := by decide +kernel
theorem dX10_read_56 : decode cX10_read 56 = .ok (.iload_n 2, 1) := by decide +kernel
theorem dX10_read_57 : decode cX10_read 57 = .ok (.invokevirtual 74, 3) := by decide +kernel
theorem dX10_read_60 : decode cX10_read 60 = .ok (.goto 21, 3) := by decide +kernel
theorem dX10_read_63 : decode cX10_read 63 = .ok (.iload_n 1, 1) := by decide +kernel
theorem dX10_read_64 : decode cX10_read 64 = .ok (.iconst 5, 1) := by decide +kernel
theorem dX10_read_65 : decode cX10_read 65 = .ok (.if_icmp .ne 10, 3) := by decide +kernel
theorem dX10_read_68 : decode cX10_read 68 = .ok (.aload_n 0, 1) := by decide +kernel
theorem dX10_read_69 : decode cX10_read 69 = .ok (.invokevirtual 77, 3) := by decide +kernel
theorem dX10_read_72 : decode cX10_read 72 = .ok (.goto 9, 3) := by decide +kernel
theorem dX10_read_75 : decode cX10_read 75 = .ok (.aload_n 0, 1) := by decide +kernel
theorem dX10_read_76 : decode cX10_read 76 = .ok (.iload_n 1, 1) := by decide +kernel
theorem dX10_read_77 : decode cX10_read 77 = .ok (.iload_n 2, 1) := by decide +kernel
theorem dX10_read_78 : decode cX10_read 78 = .ok (.invokevirtual 80, 3) := by decide +kernel
theorem dX10_read_81 : decode cX10_read 81 = .ok (.return_, 1) := by decide +kernel
theorem dX10_readOpening_0 : decode cX10_readOpening 0 = .ok (.iload_n 1, 1) := by decide +kernel
theorem dX10_readOpening_1 : decode cX10_readOpening 1 = .ok (.iconst 5, 1) := by decide +kernel
theorem dX10_readOpening_2 : decode cX10_readOpening 2 = .ok (.if_icmp .lt 8, 3) := by decide +kernel
theorem dX10_readOpening_5 : decode cX10_readOpening 5 = .ok (.aload_n 0, 1) := by decide +kernel
theorem dX10_readOpening_6 : decode cX10_readOpening 6 = .ok (.invokevirtual 71, 3) := by decide +kernel
theorem dX10_readOpening_9 : decode cX10_readOpening 9 = .ok (.return_, 1) := by decide +kernel
theorem dX10_readOpening_10 : decode cX10_readOpening 10 = .ok (.aload_n 0, 1) := by decide +kernel
theorem dX10_readOpening_11 : decode cX10_readOpening 11 = .ok (.getfield 68, 3) := by decide +kernel
theorem dX10_readOpening_14 : decode cX10_readOpening 14 = .ok (.istore_n 2, 1) := by decide +kernel
theorem dX10_readOpening_15 : decode cX10_readOpening 15 = .ok (.aload_n 0, 1) := by decide +kernel
theorem dX10_readOpening_16 : decode cX10_readOpening 16 = .ok (.invokevirtual 54, 3) := by decide +kernel
theorem dX10_readOpening_19 : decode cX10_readOpening 19 = .ok (.aload_n 0, 1) := by decide +kernel
theorem dX10_readOpening_20 : decode cX10_readOpening 20 = .ok (.iload_n 2, 1) := by decide +kernel
theorem dX10_readOpening_21 : decode cX10_readOpening 21 = .ok (.bipush 11, 2) := by decide +kernel
theorem dX10_readOpening_23 : decode cX10_readOpening 23 = .ok (.if_icmp .ne 7, 3) := by decide +kernel
theorem dX10_readOpening_26 : decode cX10_readOpening 26 = .ok (.iconst 2, 1) := by decide +kernel
theorem dX10_readOpening_27 : decode cX10_readOpening 27 = .ok (.goto 14, 3) := by decide +kernel
theorem dX10_readOpening_30 : decode cX10_readOpening 30 = .ok (.iload_n 2, 1) := by decide +kernel
theorem dX10_readOpening_31 : decode cX10_readOpening 31 = .ok (.bipush 45, 2) := by decide +kernel
theorem dX10_readOpening_33 : decode cX10_readOpening 33 = .ok (.if_icmp .ne 7, 3) := by decide +kernel
theorem dX10_readOpening_36 : decode cX10_readOpening 36 = .ok (.iconst 5, 1) := by decide +kernel
theorem dX10_readOpening_37 : decode cX10_readOpening 37 = .ok (.goto 4, 3) := by decide +kernel
theorem dX10_readOpening_40 : decode cX10_readOpening 40 = .ok (.iconst 0, 1) := by decide +kernel
theorem dX10_readOpening_41 : decode cX10_readOpening 41 = .ok (.iload_n 1, 1) := by decide +kernel
theorem dX10_readOpening_42 : decode cX10_readOpening 42 = .ok (.iconst 1, 1) := by decide +kernel
theorem dX10_readOpening_43 : decode cX10_readOpening 43 = .ok (.iadd, 1) := by decide +kernel
theorem dX10_readOpening_44 : decode cX10_readOpening 44 = .ok (.invokevirtual 61, 3) := by decide +kernel
theorem dX10_readOpening_47 : decode cX10_readOpening 47 = .ok (.iload_n 2, 1) := by decide +kernel
theorem dX10_readOpening_48 : decode cX10_readOpening 48 = .ok (.bipush 40, 2) := by decide +kernel
theorem dX10_readOpening_50 : decode cX10_readOpening 50 = .ok (.if_icmp .ne 12, 3) := by decide +kernel
theorem dX10_readOpening_53 : decode cX10_readOpening 53 = .ok (.aload_n 0, 1) := by decide +kernel
theorem dX10_readOpening_54 : decode cX10_readOpening 54 = .ok (.bipush 41, 2) := by decide +kernel
theorem dX10_readOpening_56 : decode cX10_readOpening 56 = .ok (.invokevirtual 57, 3) := by decide +kernel
theorem dX10_readOpening_59 : decode cX10_readOpening 59 = .ok (.goto 24, 3) := by decide +kernel
theorem dX10_readOpening_62 : decode cX10_readOpening 62 = .ok (.aload_n 0, 1) := by decide +kernel
theorem dX10_readOpening_63 : decode cX10_readOpening 63 = .ok (.sipush 10000, 3) := by decide +kernel
theorem dX10_readOpening_66 : decode cX10_readOpening 66 = .ok (.iload_n 2, 1) := by decide +kernel
theorem dX10_readOpening_67 : decode cX10_readOpening 67 = .ok (.bipush 11, 2) := by decide +kernel
theorem dX10_readOpening_69 : decode cX10_readOpening 69 = .ok (.if_icmp .ne 8, 3) := by decide +kernel
theorem dX10_readOpening_72 : decode cX10_readOpening 72 = .ok (.bipush 11, 2) := by decide +kernel
theorem dX10_readOpening_74 : decode cX10_readOpening 74 = .ok (.goto 5, 3) := by decide +kernel
theorem dX10_readOpening_77 : decode cX10_readOpening 77 = .ok (.bipush 15, 2) := by decide +kernel
theorem dX10_readOpening_79 : decode cX10_readOpening 79 = .ok (.iadd, 1) := by decide +kernel
theorem dX10_readOpening_80 : decode cX10_readOpening 80 = .ok (.invokevirtual 65, 3) := by decide +kernel
theorem dX10_readOpening_83 : decode cX10_readOpening 83 = .ok (.return_, 1) := by decide +kernel
theorem dX10_readOne_0 : decode cX10_readOne 0 = .ok (.aload_n 0, 1) := by decide +kernel
theorem dX10_readOne_1 : decode cX10_readOne 1 = .ok (.getfield 68, 3) := by decide +kernel
theorem dX10_readOne_4 : decode cX10_readOne 4 = .ok (.bipush 12, 2) := by decide +kernel
theorem dX10_readOne_6 : decode cX10_readOne 6 = .ok (.if_icmp .ne 18, 3) := by decide +kernel
theorem dX10_readOne_9 : decode cX10_readOne 9 = .ok (.aload_n 0, 1) := by decide +kernel
theorem dX10_readOne_10 : decode cX10_readOne 10 = .ok (.aload_n 0, 1) := by decide +kernel
theorem dX10_readOne_11 : decode cX10_readOne 11 = .ok (.getfield 83, 3) := by decide +kernel
theorem dX10_readOne_14 : decode cX10_readOne 14 = .ok (.invokevirtual 65, 3) := by decide +kernel
theorem dX10_readOne_17 : decode cX10_readOne 17 = .ok (.aload_n 0, 1) := by decide +kernel
theorem dX10_readOne_18 : decode cX10_readOne 18 = .ok (.invokevirtual 54, 3) := by decide +kernel
theorem dX10_readOne_21 : decode cX10_readOne 21 = .ok (.goto 42, 3) := by decide +kernel
theorem dX10_readOne_24 : decode cX10_readOne 24 = .ok (.aload_n 0, 1) := by decide +kernel
theorem dX10_readOne_25 : decode cX10_readOne 25 = .ok (.getfield 68, 3) := by decide +kernel
theorem dX10_readOne_28 : decode cX10_readOne 28 = .ok (.ifCond .lt 31, 3) := by decide +kernel
theorem dX10_readOne_31 : decode cX10_readOne 31 = .ok (.aload_n 0, 1) := by decide +kernel
theorem dX10_readOne_32 : decode cX10_readOne 32 = .ok (.getfield 68, 3) := by decide +kernel
theorem dX10_readOne_35 : decode cX10_readOne 35 = .ok (.bipush 6, 2) := by decide +kernel
theorem dX10_readOne_37 : decode cX10_readOne 37 = .ok (.if_icmp .ge 22, 3) := by decide +kernel
theorem dX10_readOne_40 : decode cX10_readOne 40 = .ok (.aload_n 0, 1) := by decide +kernel
theorem dX10_readOne_41 : decode cX10_readOne 41 = .ok (.sipush 10000, 3) := by decide +kernel
theorem dX10_readOne_44 : decode cX10_readOne 44 = .ok (.aload_n 0, 1) := by decide +kernel
theorem dX10_readOne_45 : decode cX10_readOne 45 = .ok (.getfield 68, 3) := by decide +kernel
theorem dX10_readOne_48 : decode cX10_readOne 48 = .ok (.iadd, 1) := by decide +kernel
theorem dX10_readOne_49 : decode cX10_readOne 49 = .ok (.invokevirtual 65, 3) := by decide +kernel
theorem dX10_readOne_52 : decode cX10_readOne 52 = .ok (.aload_n 0, 1) := by decide +kernel
theorem dX10_readOne_53 : decode cX10_readOne 53 = .ok (.invokevirtual 54, 3) := by decide +kernel
theorem dX10_readOne_56 : decode cX10_readOne 56 = .ok (.goto 7, 3) := by decide +kernel
theorem dX10_readOne_59 : decode cX10_readOne 59 = .ok (.aload_n 0, 1) := by decide +kernel
theorem dX10_readOne_60 : decode cX10_readOne 60 = .ok (.invokevirtual 71, 3) := by decide +kernel
theorem dX10_readOne_63 : decode cX10_readOne 63 = .ok (.return_, 1) := by decide +kernel
theorem dX10_readJoined_0 : decode cX10_readJoined 0 = .ok (.aload_n 0, 1) := by decide +kernel
theorem dX10_readJoined_1 : decode cX10_readJoined 1 = .ok (.iload_n 1, 1) := by decide +kernel
theorem dX10_readJoined_2 : decode cX10_readJoined 2 = .ok (.iconst 1, 1) := by decide +kernel
theorem dX10_readJoined_3 : decode cX10_readJoined 3 = .ok (.iadd, 1) := by decide +kernel
theorem dX10_readJoined_4 : decode cX10_readJoined 4 = .ok (.iload_n 2, 1) := by decide +kernel
theorem dX10_readJoined_5 : decode cX10_readJoined 5 = .ok (.invokevirtual 61, 3) := by decide +kernel
theorem dX10_readJoined_8 : decode cX10_readJoined 8 = .ok (.iload_n 1, 1) := by decide +kernel
theorem dX10_readJoined_9 : decode cX10_readJoined 9 = .ok (.iconst 2, 1) := by decide +kernel
theorem dX10_readJoined_10 : decode cX10_readJoined 10 = .ok (.if_icmp .ne 7, 3) := by decide +kernel
theorem dX10_readJoined_13 : decode cX10_readJoined 13 = .ok (.iconst 1, 1) := by decide +kernel
theorem dX10_readJoined_14 : decode cX10_readJoined 14 = .ok (.goto 6, 3) := by decide +kernel
theorem dX10_readJoined_17 : decode cX10_readJoined 17 = .ok (.sipush 160, 3) := by decide +kernel
theorem dX10_readJoined_20 : decode cX10_readJoined 20 = .ok (.istore_n 3, 1) := by decide +kernel
theorem dX10_readJoined_21 : decode cX10_readJoined 21 = .ok (.iconst 0, 1) := by decide +kernel
theorem dX10_readJoined_22 : decode cX10_readJoined 22 = .ok (.istore 4, 2) := by decide +kernel
theorem dX10_readJoined_24 : decode cX10_readJoined 24 = .ok (.iload 4, 2) := by decide +kernel
theorem dX10_readJoined_26 : decode cX10_readJoined 26 = .ok (.iload_n 3, 1) := by decide +kernel
theorem dX10_readJoined_27 : decode cX10_readJoined 27 = .ok (.if_icmp .ge 45, 3) := by decide +kernel
theorem dX10_readJoined_30 : decode cX10_readJoined 30 = .ok (.aload_n 0, 1) := by decide +kernel
theorem dX10_readJoined_31 : decode cX10_readJoined 31 = .ok (.iload_n 1, 1) := by decide +kernel
theorem dX10_readJoined_32 : decode cX10_readJoined 32 = .ok (.invokevirtual 86, 3) := by decide +kernel
theorem dX10_readJoined_35 : decode cX10_readJoined 35 = .ok (.ifCond .eq 37, 3) := by decide +kernel
theorem dX10_readJoined_38 : decode cX10_readJoined 38 = .ok (.aload_n 0, 1) := by decide +kernel
theorem dX10_readJoined_39 : decode cX10_readJoined 39 = .ok (.getfield 68, 3) := by decide +kernel
theorem dX10_readJoined_42 : decode cX10_readJoined 42 = .ok (.istore 5, 2) := by decide +kernel
theorem dX10_readJoined_44 : decode cX10_readJoined 44 = .ok (.aload_n 0, 1) := by decide +kernel
theorem dX10_readJoined_45 : decode cX10_readJoined 45 = .ok (.invokevirtual 54, 3) := by decide +kernel
theorem dX10_readJoined_48 : decode cX10_readJoined 48 = .ok (.aload_n 0, 1) := by decide +kernel
theorem dX10_readJoined_49 : decode cX10_readJoined 49 = .ok (.iload_n 1, 1) := by decide +kernel
theorem dX10_readJoined_50 : decode cX10_readJoined 50 = .ok (.iconst 1, 1) := by decide +kernel
theorem dX10_readJoined_51 : decode cX10_readJoined 51 = .ok (.iadd, 1) := by decide +kernel
theorem dX10_readJoined_52 : decode cX10_readJoined 52 = .ok (.iload_n 2, 1) := by decide +kernel
theorem dX10_readJoined_53 : decode cX10_readJoined 53 = .ok (.invokevirtual 61, 3) := by decide +kernel
theorem dX10_readJoined_56 : decode cX10_readJoined 56 = .ok (.aload_n 0, 1) := by decide +kernel
theorem dX10_readJoined_57 : decode cX10_readJoined 57 = .ok (.sipush 10000, 3) := by decide +kernel
theorem dX10_readJoined_60 : decode cX10_readJoined 60 = .ok (.iload 5, 2) := by decide +kernel
theorem dX10_readJoined_62 : decode cX10_readJoined 62 = .ok (.iadd, 1) := by decide +kernel
theorem dX10_readJoined_63 : decode cX10_readJoined 63 = .ok (.invokevirtual 65, 3) := by decide +kernel
theorem dX10_readJoined_66 : decode cX10_readJoined 66 = .ok (.iinc 4 1, 3) := by decide +kernel
theorem dX10_readJoined_69 : decode cX10_readJoined 69 = .ok (.goto (-45), 3) := by decide +kernel
theorem dX10_readJoined_72 : decode cX10_readJoined 72 = .ok (.return_, 1) := by decide +kernel
theorem dX10_joins_0 : decode cX10_joins 0 = .ok (.iload_n 1, 1) := by decide +kernel
theorem dX10_joins_1 : decode cX10_joins 1 = .ok (.tableswitch 128 0 4 #[35, 50, 65, 89, 113], 35) := by decide +kernel
theorem dX10_joins_36 : decode cX10_joins 36 = .ok (.aload_n 0, 1) := by decide +kernel
theorem dX10_joins_37 : decode cX10_joins 37 = .ok (.getfield 68, 3) := by decide +kernel
theorem dX10_joins_40 : decode cX10_joins 40 = .ok (.bipush 9, 2) := by decide +kernel
theorem dX10_joins_42 : decode cX10_joins 42 = .ok (.if_icmp .ne 7, 3) := by decide +kernel
theorem dX10_joins_45 : decode cX10_joins 45 = .ok (.iconst 1, 1) := by decide +kernel
theorem dX10_joins_46 : decode cX10_joins 46 = .ok (.goto 4, 3) := by decide +kernel
theorem dX10_joins_49 : decode cX10_joins 49 = .ok (.iconst 0, 1) := by decide +kernel
theorem dX10_joins_50 : decode cX10_joins 50 = .ok (.ireturn, 1) := by decide +kernel
theorem dX10_joins_51 : decode cX10_joins 51 = .ok (.aload_n 0, 1) := by decide +kernel
theorem dX10_joins_52 : decode cX10_joins 52 = .ok (.getfield 68, 3) := by decide +kernel
theorem dX10_joins_55 : decode cX10_joins 55 = .ok (.bipush 10, 2) := by decide +kernel
theorem dX10_joins_57 : decode cX10_joins 57 = .ok (.if_icmp .ne 7, 3) := by decide +kernel
theorem dX10_joins_60 : decode cX10_joins 60 = .ok (.iconst 1, 1) := by decide +kernel
theorem dX10_joins_61 : decode cX10_joins 61 = .ok (.goto 4, 3) := by decide +kernel
theorem dX10_joins_64 : decode cX10_joins 64 = .ok (.iconst 0, 1) := by decide +kernel
theorem dX10_joins_65 : decode cX10_joins 65 = .ok (.ireturn, 1) := by decide +kernel
theorem dX10_joins_66 : decode cX10_joins 66 = .ok (.aload_n 0, 1) := by decide +kernel
theorem dX10_joins_67 : decode cX10_joins 67 = .ok (.getfield 68, 3) := by decide +kernel
theorem dX10_joins_70 : decode cX10_joins 70 = .ok (.bipush 60, 2) := by decide +kernel
theorem dX10_joins_72 : decode cX10_joins 72 = .ok (.if_icmp .eq 12, 3) := by decide +kernel
theorem dX10_joins_75 : decode cX10_joins 75 = .ok (.aload_n 0, 1) := by decide +kernel
theorem dX10_joins_76 : decode cX10_joins 76 = .ok (.getfield 68, 3) := by decide +kernel
theorem dX10_joins_79 : decode cX10_joins 79 = .ok (.bipush 61, 2) := by decide +kernel
theorem dX10_joins_81 : decode cX10_joins 81 = .ok (.if_icmp .ne 7, 3) := by decide +kernel
theorem dX10_joins_84 : decode cX10_joins 84 = .ok (.iconst 1, 1) := by decide +kernel
theorem dX10_joins_85 : decode cX10_joins 85 = .ok (.goto 4, 3) := by decide +kernel
theorem dX10_joins_88 : decode cX10_joins 88 = .ok (.iconst 0, 1) := by decide +kernel
theorem dX10_joins_89 : decode cX10_joins 89 = .ok (.ireturn, 1) := by decide +kernel
theorem dX10_joins_90 : decode cX10_joins 90 = .ok (.aload_n 0, 1) := by decide +kernel
theorem dX10_joins_91 : decode cX10_joins 91 = .ok (.getfield 68, 3) := by decide +kernel
theorem dX10_joins_94 : decode cX10_joins 94 = .ok (.bipush 43, 2) := by decide +kernel
theorem dX10_joins_96 : decode cX10_joins 96 = .ok (.if_icmp .eq 12, 3) := by decide +kernel
theorem dX10_joins_99 : decode cX10_joins 99 = .ok (.aload_n 0, 1) := by decide +kernel
theorem dX10_joins_100 : decode cX10_joins 100 = .ok (.getfield 68, 3) := by decide +kernel
theorem dX10_joins_103 : decode cX10_joins 103 = .ok (.bipush 45, 2) := by decide +kernel
theorem dX10_joins_105 : decode cX10_joins 105 = .ok (.if_icmp .ne 7, 3) := by decide +kernel
theorem dX10_joins_108 : decode cX10_joins 108 = .ok (.iconst 1, 1) := by decide +kernel
theorem dX10_joins_109 : decode cX10_joins 109 = .ok (.goto 4, 3) := by decide +kernel
theorem dX10_joins_112 : decode cX10_joins 112 = .ok (.iconst 0, 1) := by decide +kernel
theorem dX10_joins_113 : decode cX10_joins 113 = .ok (.ireturn, 1) := by decide +kernel
theorem dX10_joins_114 : decode cX10_joins 114 = .ok (.aload_n 0, 1) := by decide +kernel
theorem dX10_joins_115 : decode cX10_joins 115 = .ok (.getfield 68, 3) := by decide +kernel
theorem dX10_joins_118 : decode cX10_joins 118 = .ok (.bipush 42, 2) := by decide +kernel
theorem dX10_joins_120 : decode cX10_joins 120 = .ok (.if_icmp .ne 7, 3) := by decide +kernel
theorem dX10_joins_123 : decode cX10_joins 123 = .ok (.iconst 1, 1) := by decide +kernel
theorem dX10_joins_124 : decode cX10_joins 124 = .ok (.goto 4, 3) := by decide +kernel
theorem dX10_joins_127 : decode cX10_joins 127 = .ok (.iconst 0, 1) := by decide +kernel
theorem dX10_joins_128 : decode cX10_joins 128 = .ok (.ireturn, 1) := by decide +kernel
theorem dX10_joins_129 : decode cX10_joins 129 = .ok (.iconst 0, 1) := by decide +kernel
theorem dX10_joins_130 : decode cX10_joins 130 = .ok (.ireturn, 1) := by decide +kernel
theorem dX10_pass_0 : decode cX10_pass 0 = .ok (.aload_n 0, 1) := by decide +kernel
theorem dX10_pass_1 : decode cX10_pass 1 = .ok (.getfield 68, 3) := by decide +kernel
theorem dX10_pass_4 : decode cX10_pass 4 = .ok (.iload_n 1, 1) := by decide +kernel
theorem dX10_pass_5 : decode cX10_pass 5 = .ok (.if_icmp .ne 10, 3) := by decide +kernel
theorem dX10_pass_8 : decode cX10_pass 8 = .ok (.aload_n 0, 1) := by decide +kernel
theorem dX10_pass_9 : decode cX10_pass 9 = .ok (.invokevirtual 54, 3) := by decide +kernel
theorem dX10_pass_12 : decode cX10_pass 12 = .ok (.goto 7, 3) := by decide +kernel
theorem dX10_pass_15 : decode cX10_pass 15 = .ok (.aload_n 0, 1) := by decide +kernel
theorem dX10_pass_16 : decode cX10_pass 16 = .ok (.invokevirtual 71, 3) := by decide +kernel
theorem dX10_pass_19 : decode cX10_pass 19 = .ok (.return_, 1) := by decide +kernel
theorem dX10_refuse_0 : decode cX10_refuse 0 = .ok (.aload_n 0, 1) := by decide +kernel
theorem dX10_refuse_1 : decode cX10_refuse 1 = .ok (.getfield 51, 3) := by decide +kernel
theorem dX10_refuse_4 : decode cX10_refuse 4 = .ok (.iconst (-1), 1) := by decide +kernel
theorem dX10_refuse_5 : decode cX10_refuse 5 = .ok (.if_icmp .ne 11, 3) := by decide +kernel
theorem dX10_refuse_8 : decode cX10_refuse 8 = .ok (.aload_n 0, 1) := by decide +kernel
theorem dX10_refuse_9 : decode cX10_refuse 9 = .ok (.aload_n 0, 1) := by decide +kernel
theorem dX10_refuse_10 : decode cX10_refuse 10 = .ok (.getfield 90, 3) := by decide +kernel
theorem dX10_refuse_13 : decode cX10_refuse 13 = .ok (.putfield 51, 3) := by decide +kernel
theorem dX10_refuse_16 : decode cX10_refuse 16 = .ok (.aload_n 0, 1) := by decide +kernel
theorem dX10_refuse_17 : decode cX10_refuse 17 = .ok (.bipush 14, 2) := by decide +kernel
theorem dX10_refuse_19 : decode cX10_refuse 19 = .ok (.putfield 68, 3) := by decide +kernel
theorem dX10_refuse_22 : decode cX10_refuse 22 = .ok (.return_, 1) := by decide +kernel
theorem dX10_write_0 : decode cX10_write 0 = .ok (.aload_n 0, 1) := by decide +kernel
theorem dX10_write_1 : decode cX10_write 1 = .ok (.getfield 46, 3) := by decide +kernel
theorem dX10_write_4 : decode cX10_write 4 = .ok (.sipush 160, 3) := by decide +kernel
theorem dX10_write_7 : decode cX10_write 7 = .ok (.if_icmp .ge 32, 3) := by decide +kernel
theorem dX10_write_10 : decode cX10_write 10 = .ok (.aload_n 0, 1) := by decide +kernel
theorem dX10_write_11 : decode cX10_write 11 = .ok (.getfield 15, 3) := by decide +kernel
theorem dX10_write_14 : decode cX10_write 14 = .ok (.aload_n 0, 1) := by decide +kernel
theorem dX10_write_15 : decode cX10_write 15 = .ok (.getfield 43, 3) := by decide +kernel
theorem dX10_write_18 : decode cX10_write 18 = .ok (.sipush 160, 3) := by decide +kernel
theorem dX10_write_21 : decode cX10_write 21 = .ok (.imul, 1) := by decide +kernel
theorem dX10_write_22 : decode cX10_write 22 = .ok (.aload_n 0, 1) := by decide +kernel
theorem dX10_write_23 : decode cX10_write 23 = .ok (.getfield 46, 3) := by decide +kernel
theorem dX10_write_26 : decode cX10_write 26 = .ok (.iadd, 1) := by decide +kernel
theorem dX10_write_27 : decode cX10_write 27 = .ok (.iload_n 1, 1) := by decide +kernel
theorem dX10_write_28 : decode cX10_write 28 = .ok (.iastore, 1) := by decide +kernel
theorem dX10_write_29 : decode cX10_write 29 = .ok (.aload_n 0, 1) := by decide +kernel
theorem dX10_write_30 : decode cX10_write 30 = .ok (.dup, 1) := by decide +kernel
theorem dX10_write_31 : decode cX10_write 31 = .ok (.getfield 46, 3) := by decide +kernel
theorem dX10_write_34 : decode cX10_write 34 = .ok (.iconst 1, 1) := by decide +kernel
theorem dX10_write_35 : decode cX10_write 35 = .ok (.iadd, 1) := by decide +kernel
theorem dX10_write_36 : decode cX10_write 36 = .ok (.putfield 46, 3) := by decide +kernel
theorem dX10_write_39 : decode cX10_write 39 = .ok (.return_, 1) := by decide +kernel
theorem dX10_nextToken_0 : decode cX10_nextToken 0 = .ok (.aload_n 0, 1) := by decide +kernel
theorem dX10_nextToken_1 : decode cX10_nextToken 1 = .ok (.getfield 48, 3) := by decide +kernel
theorem dX10_nextToken_4 : decode cX10_nextToken 4 = .ok (.aload_n 0, 1) := by decide +kernel
theorem dX10_nextToken_5 : decode cX10_nextToken 5 = .ok (.getfield 25, 3) := by decide +kernel
theorem dX10_nextToken_8 : decode cX10_nextToken 8 = .ok (.if_icmp .ge 44, 3) := by decide +kernel
theorem dX10_nextToken_11 : decode cX10_nextToken 11 = .ok (.aload_n 0, 1) := by decide +kernel
theorem dX10_nextToken_12 : decode cX10_nextToken 12 = .ok (.getfield 11, 3) := by decide +kernel
theorem dX10_nextToken_15 : decode cX10_nextToken 15 = .ok (.aload_n 0, 1) := by decide +kernel
theorem dX10_nextToken_16 : decode cX10_nextToken 16 = .ok (.getfield 48, 3) := by decide +kernel
theorem dX10_nextToken_19 : decode cX10_nextToken 19 = .ok (.baload, 1) := by decide +kernel
theorem dX10_nextToken_20 : decode cX10_nextToken 20 = .ok (.bipush 32, 2) := by decide +kernel
theorem dX10_nextToken_22 : decode cX10_nextToken 22 = .ok (.if_icmp .eq 17, 3) := by decide +kernel
theorem dX10_nextToken_25 : decode cX10_nextToken 25 = .ok (.aload_n 0, 1) := by decide +kernel
theorem dX10_nextToken_26 : decode cX10_nextToken 26 = .ok (.getfield 11, 3) := by decide +kernel
theorem dX10_nextToken_29 : decode cX10_nextToken 29 = .ok (.aload_n 0, 1) := by decide +kernel
theorem dX10_nextToken_30 : decode cX10_nextToken 30 = .ok (.getfield 48, 3) := by decide +kernel
theorem dX10_nextToken_33 : decode cX10_nextToken 33 = .ok (.baload, 1) := by decide +kernel
theorem dX10_nextToken_34 : decode cX10_nextToken 34 = .ok (.bipush 10, 2) := by decide +kernel
theorem dX10_nextToken_36 : decode cX10_nextToken 36 = .ok (.if_icmp .ne 16, 3) := by decide +kernel
theorem dX10_nextToken_39 : decode cX10_nextToken 39 = .ok (.aload_n 0, 1) := by decide +kernel
theorem dX10_nextToken_40 : decode cX10_nextToken 40 = .ok (.dup, 1) := by decide +kernel
theorem dX10_nextToken_41 : decode cX10_nextToken 41 = .ok (.getfield 48, 3) := by decide +kernel
theorem dX10_nextToken_44 : decode cX10_nextToken 44 = .ok (.iconst 1, 1) := by decide +kernel
theorem dX10_nextToken_45 : decode cX10_nextToken 45 = .ok (.iadd, 1) := by decide +kernel
theorem dX10_nextToken_46 : decode cX10_nextToken 46 = .ok (.putfield 48, 3) := by decide +kernel
theorem dX10_nextToken_49 : decode cX10_nextToken 49 = .ok (.goto (-49), 3) := by decide +kernel
theorem dX10_nextToken_52 : decode cX10_nextToken 52 = .ok (.aload_n 0, 1) := by decide +kernel
theorem dX10_nextToken_53 : decode cX10_nextToken 53 = .ok (.aload_n 0, 1) := by decide +kernel
theorem dX10_nextToken_54 : decode cX10_nextToken 54 = .ok (.getfield 48, 3) := by decide +kernel
theorem dX10_nextToken_57 : decode cX10_nextToken 57 = .ok (.putfield 90, 3) := by decide +kernel
theorem dX10_nextToken_60 : decode cX10_nextToken 60 = .ok (.aload_n 0, 1) := by decide +kernel
theorem dX10_nextToken_61 : decode cX10_nextToken 61 = .ok (.getfield 48, 3) := by decide +kernel
theorem dX10_nextToken_64 : decode cX10_nextToken 64 = .ok (.aload_n 0, 1) := by decide +kernel
theorem dX10_nextToken_65 : decode cX10_nextToken 65 = .ok (.getfield 25, 3) := by decide +kernel
theorem dX10_nextToken_68 : decode cX10_nextToken 68 = .ok (.if_icmp .lt 12, 3) := by decide +kernel
theorem dX10_nextToken_71 : decode cX10_nextToken 71 = .ok (.aload_n 0, 1) := by decide +kernel
theorem dX10_nextToken_72 : decode cX10_nextToken 72 = .ok (.bipush 13, 2) := by decide +kernel
theorem dX10_nextToken_74 : decode cX10_nextToken 74 = .ok (.putfield 68, 3) := by decide +kernel
theorem dX10_nextToken_77 : decode cX10_nextToken 77 = .ok (.goto 91, 3) := by decide +kernel
theorem dX10_nextToken_80 : decode cX10_nextToken 80 = .ok (.aload_n 0, 1) := by decide +kernel
theorem dX10_nextToken_81 : decode cX10_nextToken 81 = .ok (.getfield 11, 3) := by decide +kernel
theorem dX10_nextToken_84 : decode cX10_nextToken 84 = .ok (.aload_n 0, 1) := by decide +kernel
theorem dX10_nextToken_85 : decode cX10_nextToken 85 = .ok (.getfield 48, 3) := by decide +kernel
theorem dX10_nextToken_88 : decode cX10_nextToken 88 = .ok (.baload, 1) := by decide +kernel
theorem dX10_nextToken_89 : decode cX10_nextToken 89 = .ok (.invokestatic 93, 3) := by decide +kernel
theorem dX10_nextToken_92 : decode cX10_nextToken 92 = .ok (.ifCond .eq 10, 3) := by decide +kernel
theorem dX10_nextToken_95 : decode cX10_nextToken 95 = .ok (.aload_n 0, 1) := by decide +kernel
theorem dX10_nextToken_96 : decode cX10_nextToken 96 = .ok (.invokevirtual 96, 3) := by decide +kernel
theorem dX10_nextToken_99 : decode cX10_nextToken 99 = .ok (.goto 69, 3) := by decide +kernel
theorem dX10_nextToken_102 : decode cX10_nextToken 102 = .ok (.aload_n 0, 1) := by decide +kernel
theorem dX10_nextToken_103 : decode cX10_nextToken 103 = .ok (.getfield 11, 3) := by decide +kernel
theorem dX10_nextToken_106 : decode cX10_nextToken 106 = .ok (.aload_n 0, 1) := by decide +kernel
theorem dX10_nextToken_107 : decode cX10_nextToken 107 = .ok (.getfield 48, 3) := by decide +kernel
theorem dX10_nextToken_110 : decode cX10_nextToken 110 = .ok (.baload, 1) := by decide +kernel
theorem dX10_nextToken_111 : decode cX10_nextToken 111 = .ok (.invokestatic 99, 3) := by decide +kernel
theorem dX10_nextToken_114 : decode cX10_nextToken 114 = .ok (.ifCond .eq 10, 3) := by decide +kernel
theorem dX10_nextToken_117 : decode cX10_nextToken 117 = .ok (.aload_n 0, 1) := by decide +kernel
theorem dX10_nextToken_118 : decode cX10_nextToken 118 = .ok (.invokevirtual 102, 3) := by decide +kernel
theorem dX10_nextToken_121 : decode cX10_nextToken 121 = .ok (.goto 47, 3) := by decide +kernel
theorem dX10_nextToken_124 : decode cX10_nextToken 124 = .ok (.aload_n 0, 1) := by decide +kernel
theorem dX10_nextToken_125 : decode cX10_nextToken 125 = .ok (.getfield 11, 3) := by decide +kernel
theorem dX10_nextToken_128 : decode cX10_nextToken 128 = .ok (.aload_n 0, 1) := by decide +kernel
theorem dX10_nextToken_129 : decode cX10_nextToken 129 = .ok (.getfield 48, 3) := by decide +kernel
theorem dX10_nextToken_132 : decode cX10_nextToken 132 = .ok (.baload, 1) := by decide +kernel
theorem dX10_nextToken_133 : decode cX10_nextToken 133 = .ok (.istore_n 1, 1) := by decide +kernel
theorem dX10_nextToken_134 : decode cX10_nextToken 134 = .ok (.aload_n 0, 1) := by decide +kernel
theorem dX10_nextToken_135 : decode cX10_nextToken 135 = .ok (.iload_n 1, 1) := by decide +kernel
theorem dX10_nextToken_136 : decode cX10_nextToken 136 = .ok (.ifCond .le 17, 3) := by decide +kernel
theorem dX10_nextToken_139 : decode cX10_nextToken 139 = .ok (.ldc 105, 2) := by decide +kernel
theorem dX10_nextToken_141 : decode cX10_nextToken 141 = .ok (.iload_n 1, 1) := by decide +kernel
theorem dX10_nextToken_142 : decode cX10_nextToken 142 = .ok (.i2c, 1) := by decide +kernel
theorem dX10_nextToken_143 : decode cX10_nextToken 143 = .ok (.invokevirtual 107, 3) := by decide +kernel
theorem dX10_nextToken_146 : decode cX10_nextToken 146 = .ok (.ifCond .lt 7, 3) := by decide +kernel
theorem dX10_nextToken_149 : decode cX10_nextToken 149 = .ok (.iload_n 1, 1) := by decide +kernel
theorem dX10_nextToken_150 : decode cX10_nextToken 150 = .ok (.goto 5, 3) := by decide +kernel
theorem dX10_nextToken_153 : decode cX10_nextToken 153 = .ok (.bipush 14, 2) := by decide +kernel
theorem dX10_nextToken_155 : decode cX10_nextToken 155 = .ok (.putfield 68, 3) := by decide +kernel
theorem dX10_nextToken_158 : decode cX10_nextToken 158 = .ok (.aload_n 0, 1) := by decide +kernel
theorem dX10_nextToken_159 : decode cX10_nextToken 159 = .ok (.dup, 1) := by decide +kernel
theorem dX10_nextToken_160 : decode cX10_nextToken 160 = .ok (.getfield 48, 3) := by decide +kernel
theorem dX10_nextToken_163 : decode cX10_nextToken 163 = .ok (.iconst 1, 1) := by decide +kernel
theorem dX10_nextToken_164 : decode cX10_nextToken 164 = .ok (.iadd, 1) := by decide +kernel
theorem dX10_nextToken_165 : decode cX10_nextToken 165 = .ok (.putfield 48, 3) := by decide +kernel
theorem dX10_nextToken_168 : decode cX10_nextToken 168 = .ok (.return_, 1) := by decide +kernel
theorem dX10_isLetter_0 : decode cX10_isLetter 0 = .ok (.iload_n 0, 1) := by decide +kernel
theorem dX10_isLetter_1 : decode cX10_isLetter 1 = .ok (.bipush 97, 2) := by decide +kernel
theorem dX10_isLetter_3 : decode cX10_isLetter 3 = .ok (.if_icmp .lt 13, 3) := by decide +kernel
theorem dX10_isLetter_6 : decode cX10_isLetter 6 = .ok (.iload_n 0, 1) := by decide +kernel
theorem dX10_isLetter_7 : decode cX10_isLetter 7 = .ok (.bipush 122, 2) := by decide +kernel
theorem dX10_isLetter_9 : decode cX10_isLetter 9 = .ok (.if_icmp .gt 7, 3) := by decide +kernel
theorem dX10_isLetter_12 : decode cX10_isLetter 12 = .ok (.iconst 1, 1) := by decide +kernel
theorem dX10_isLetter_13 : decode cX10_isLetter 13 = .ok (.goto 4, 3) := by decide +kernel
theorem dX10_isLetter_16 : decode cX10_isLetter 16 = .ok (.iconst 0, 1) := by decide +kernel
theorem dX10_isLetter_17 : decode cX10_isLetter 17 = .ok (.ireturn, 1) := by decide +kernel
theorem dX10_isDigit_0 : decode cX10_isDigit 0 = .ok (.iload_n 0, 1) := by decide +kernel
theorem dX10_isDigit_1 : decode cX10_isDigit 1 = .ok (.bipush 48, 2) := by decide +kernel
theorem dX10_isDigit_3 : decode cX10_isDigit 3 = .ok (.if_icmp .lt 13, 3) := by decide +kernel
theorem dX10_isDigit_6 : decode cX10_isDigit 6 = .ok (.iload_n 0, 1) := by decide +kernel
theorem dX10_isDigit_7 : decode cX10_isDigit 7 = .ok (.bipush 57, 2) := by decide +kernel
theorem dX10_isDigit_9 : decode cX10_isDigit 9 = .ok (.if_icmp .gt 7, 3) := by decide +kernel
theorem dX10_isDigit_12 : decode cX10_isDigit 12 = .ok (.iconst 1, 1) := by decide +kernel
theorem dX10_isDigit_13 : decode cX10_isDigit 13 = .ok (.goto 4, 3) := by decide +kernel
theorem dX10_isDigit_16 : decode cX10_isDigit 16 = .ok (.iconst 0, 1) := by decide +kernel
theorem dX10_isDigit_17 : decode cX10_isDigit 17 = .ok (.ireturn, 1) := by decide +kernel
theorem dX10_takeNumber_0 : decode cX10_takeNumber 0 = .ok (.aload_n 0, 1) := by decide +kernel
theorem dX10_takeNumber_1 : decode cX10_takeNumber 1 = .ok (.iconst 0, 1) := by decide +kernel
theorem dX10_takeNumber_2 : decode cX10_takeNumber 2 = .ok (.putfield 83, 3) := by decide +kernel
theorem dX10_takeNumber_5 : decode cX10_takeNumber 5 = .ok (.aload_n 0, 1) := by decide +kernel
theorem dX10_takeNumber_6 : decode cX10_takeNumber 6 = .ok (.getfield 48, 3) := by decide +kernel
theorem dX10_takeNumber_9 : decode cX10_takeNumber 9 = .ok (.aload_n 0, 1) := by decide +kernel
theorem dX10_takeNumber_10 : decode cX10_takeNumber 10 = .ok (.getfield 25, 3) := by decide +kernel
theorem dX10_takeNumber_13 : decode cX10_takeNumber 13 = .ok (.if_icmp .ge 55, 3) := by decide +kernel
theorem dX10_takeNumber_16 : decode cX10_takeNumber 16 = .ok (.aload_n 0, 1) := by decide +kernel
theorem dX10_takeNumber_17 : decode cX10_takeNumber 17 = .ok (.getfield 11, 3) := by decide +kernel
theorem dX10_takeNumber_20 : decode cX10_takeNumber 20 = .ok (.aload_n 0, 1) := by decide +kernel
theorem dX10_takeNumber_21 : decode cX10_takeNumber 21 = .ok (.getfield 48, 3) := by decide +kernel
theorem dX10_takeNumber_24 : decode cX10_takeNumber 24 = .ok (.baload, 1) := by decide +kernel
theorem dX10_takeNumber_25 : decode cX10_takeNumber 25 = .ok (.invokestatic 99, 3) := by decide +kernel
theorem dX10_takeNumber_28 : decode cX10_takeNumber 28 = .ok (.ifCond .eq 40, 3) := by decide +kernel
theorem dX10_takeNumber_31 : decode cX10_takeNumber 31 = .ok (.aload_n 0, 1) := by decide +kernel
theorem dX10_takeNumber_32 : decode cX10_takeNumber 32 = .ok (.aload_n 0, 1) := by decide +kernel
theorem dX10_takeNumber_33 : decode cX10_takeNumber 33 = .ok (.getfield 83, 3) := by decide +kernel
theorem dX10_takeNumber_36 : decode cX10_takeNumber 36 = .ok (.bipush 10, 2) := by decide +kernel
theorem dX10_takeNumber_38 : decode cX10_takeNumber 38 = .ok (.imul, 1) := by decide +kernel
theorem dX10_takeNumber_39 : decode cX10_takeNumber 39 = .ok (.aload_n 0, 1) := by decide +kernel
theorem dX10_takeNumber_40 : decode cX10_takeNumber 40 = .ok (.getfield 11, 3) := by decide +kernel
theorem dX10_takeNumber_43 : decode cX10_takeNumber 43 = .ok (.aload_n 0, 1) := by decide +kernel
theorem dX10_takeNumber_44 : decode cX10_takeNumber 44 = .ok (.getfield 48, 3) := by decide +kernel
theorem dX10_takeNumber_47 : decode cX10_takeNumber 47 = .ok (.baload, 1) := by decide +kernel
theorem dX10_takeNumber_48 : decode cX10_takeNumber 48 = .ok (.iadd, 1) := by decide +kernel
theorem dX10_takeNumber_49 : decode cX10_takeNumber 49 = .ok (.bipush 48, 2) := by decide +kernel
theorem dX10_takeNumber_51 : decode cX10_takeNumber 51 = .ok (.isub, 1) := by decide +kernel
theorem dX10_takeNumber_52 : decode cX10_takeNumber 52 = .ok (.putfield 83, 3) := by decide +kernel
theorem dX10_takeNumber_55 : decode cX10_takeNumber 55 = .ok (.aload_n 0, 1) := by decide +kernel
theorem dX10_takeNumber_56 : decode cX10_takeNumber 56 = .ok (.dup, 1) := by decide +kernel
theorem dX10_takeNumber_57 : decode cX10_takeNumber 57 = .ok (.getfield 48, 3) := by decide +kernel
theorem dX10_takeNumber_60 : decode cX10_takeNumber 60 = .ok (.iconst 1, 1) := by decide +kernel
theorem dX10_takeNumber_61 : decode cX10_takeNumber 61 = .ok (.iadd, 1) := by decide +kernel
theorem dX10_takeNumber_62 : decode cX10_takeNumber 62 = .ok (.putfield 48, 3) := by decide +kernel
theorem dX10_takeNumber_65 : decode cX10_takeNumber 65 = .ok (.goto (-60), 3) := by decide +kernel
theorem dX10_takeNumber_68 : decode cX10_takeNumber 68 = .ok (.aload_n 0, 1) := by decide +kernel
theorem dX10_takeNumber_69 : decode cX10_takeNumber 69 = .ok (.aload_n 0, 1) := by decide +kernel
theorem dX10_takeNumber_70 : decode cX10_takeNumber 70 = .ok (.getfield 48, 3) := by decide +kernel
theorem dX10_takeNumber_73 : decode cX10_takeNumber 73 = .ok (.aload_n 0, 1) := by decide +kernel
theorem dX10_takeNumber_74 : decode cX10_takeNumber 74 = .ok (.getfield 90, 3) := by decide +kernel
theorem dX10_takeNumber_77 : decode cX10_takeNumber 77 = .ok (.isub, 1) := by decide +kernel
theorem dX10_takeNumber_78 : decode cX10_takeNumber 78 = .ok (.iconst 4, 1) := by decide +kernel
theorem dX10_takeNumber_79 : decode cX10_takeNumber 79 = .ok (.if_icmp .le 8, 3) := by decide +kernel
theorem dX10_takeNumber_82 : decode cX10_takeNumber 82 = .ok (.bipush 14, 2) := by decide +kernel
theorem dX10_takeNumber_84 : decode cX10_takeNumber 84 = .ok (.goto 5, 3) := by decide +kernel
theorem dX10_takeNumber_87 : decode cX10_takeNumber 87 = .ok (.bipush 12, 2) := by decide +kernel
theorem dX10_takeNumber_89 : decode cX10_takeNumber 89 = .ok (.putfield 68, 3) := by decide +kernel
theorem dX10_takeNumber_92 : decode cX10_takeNumber 92 = .ok (.return_, 1) := by decide +kernel
theorem dX10_takeWord_0 : decode cX10_takeWord 0 = .ok (.aload_n 0, 1) := by decide +kernel
theorem dX10_takeWord_1 : decode cX10_takeWord 1 = .ok (.getfield 48, 3) := by decide +kernel
theorem dX10_takeWord_4 : decode cX10_takeWord 4 = .ok (.aload_n 0, 1) := by decide +kernel
theorem dX10_takeWord_5 : decode cX10_takeWord 5 = .ok (.getfield 25, 3) := by decide +kernel
theorem dX10_takeWord_8 : decode cX10_takeWord 8 = .ok (.if_icmp .ge 31, 3) := by decide +kernel
theorem dX10_takeWord_11 : decode cX10_takeWord 11 = .ok (.aload_n 0, 1) := by decide +kernel
theorem dX10_takeWord_12 : decode cX10_takeWord 12 = .ok (.getfield 11, 3) := by decide +kernel
theorem dX10_takeWord_15 : decode cX10_takeWord 15 = .ok (.aload_n 0, 1) := by decide +kernel
theorem dX10_takeWord_16 : decode cX10_takeWord 16 = .ok (.getfield 48, 3) := by decide +kernel
theorem dX10_takeWord_19 : decode cX10_takeWord 19 = .ok (.baload, 1) := by decide +kernel
theorem dX10_takeWord_20 : decode cX10_takeWord 20 = .ok (.invokestatic 93, 3) := by decide +kernel
theorem dX10_takeWord_23 : decode cX10_takeWord 23 = .ok (.ifCond .eq 16, 3) := by decide +kernel
theorem dX10_takeWord_26 : decode cX10_takeWord 26 = .ok (.aload_n 0, 1) := by decide +kernel
theorem dX10_takeWord_27 : decode cX10_takeWord 27 = .ok (.dup, 1) := by decide +kernel
theorem dX10_takeWord_28 : decode cX10_takeWord 28 = .ok (.getfield 48, 3) := by decide +kernel
theorem dX10_takeWord_31 : decode cX10_takeWord 31 = .ok (.iconst 1, 1) := by decide +kernel
theorem dX10_takeWord_32 : decode cX10_takeWord 32 = .ok (.iadd, 1) := by decide +kernel
theorem dX10_takeWord_33 : decode cX10_takeWord 33 = .ok (.putfield 48, 3) := by decide +kernel
theorem dX10_takeWord_36 : decode cX10_takeWord 36 = .ok (.goto (-36), 3) := by decide +kernel
theorem dX10_takeWord_39 : decode cX10_takeWord 39 = .ok (.aload_n 0, 1) := by decide +kernel
theorem dX10_takeWord_40 : decode cX10_takeWord 40 = .ok (.bipush 14, 2) := by decide +kernel
theorem dX10_takeWord_42 : decode cX10_takeWord 42 = .ok (.putfield 68, 3) := by decide +kernel
theorem dX10_takeWord_45 : decode cX10_takeWord 45 = .ok (.iconst 0, 1) := by decide +kernel
theorem dX10_takeWord_46 : decode cX10_takeWord 46 = .ok (.istore_n 1, 1) := by decide +kernel
theorem dX10_takeWord_47 : decode cX10_takeWord 47 = .ok (.iload_n 1, 1) := by decide +kernel
theorem dX10_takeWord_48 : decode cX10_takeWord 48 = .ok (.bipush 12, 2) := by decide +kernel
theorem dX10_takeWord_50 : decode cX10_takeWord 50 = .ok (.if_icmp .ge 22, 3) := by decide +kernel
theorem dX10_takeWord_53 : decode cX10_takeWord 53 = .ok (.aload_n 0, 1) := by decide +kernel
theorem dX10_takeWord_54 : decode cX10_takeWord 54 = .ok (.iload_n 1, 1) := by decide +kernel
theorem dX10_takeWord_55 : decode cX10_takeWord 55 = .ok (.invokevirtual 111, 3) := by decide +kernel
theorem dX10_takeWord_58 : decode cX10_takeWord 58 = .ok (.ifCond .eq 8, 3) := by decide +kernel
theorem dX10_takeWord_61 : decode cX10_takeWord 61 = .ok (.aload_n 0, 1) := by decide +kernel
theorem dX10_takeWord_62 : decode cX10_takeWord 62 = .ok (.iload_n 1, 1) := by decide +kernel
theorem dX10_takeWord_63 : decode cX10_takeWord 63 = .ok (.putfield 68, 3) := by decide +kernel
theorem dX10_takeWord_66 : decode cX10_takeWord 66 = .ok (.iinc 1 1, 3) := by decide +kernel
theorem dX10_takeWord_69 : decode cX10_takeWord 69 = .ok (.goto (-22), 3) := by decide +kernel
theorem dX10_takeWord_72 : decode cX10_takeWord 72 = .ok (.return_, 1) := by decide +kernel
theorem dX10_isWord_0 : decode cX10_isWord 0 = .ok (.aload_n 0, 1) := by decide +kernel
theorem dX10_isWord_1 : decode cX10_isWord 1 = .ok (.getfield 48, 3) := by decide +kernel
theorem dX10_isWord_4 : decode cX10_isWord 4 = .ok (.aload_n 0, 1) := by decide +kernel
theorem dX10_isWord_5 : decode cX10_isWord 5 = .ok (.getfield 90, 3) := by decide +kernel
theorem dX10_isWord_8 : decode cX10_isWord 8 = .ok (.isub, 1) := by decide +kernel
theorem dX10_isWord_9 : decode cX10_isWord 9 = .ok (.iconst 5, 1) := by decide +kernel
theorem dX10_isWord_10 : decode cX10_isWord 10 = .ok (.if_icmp .gt 7, 3) := by decide +kernel
theorem dX10_isWord_13 : decode cX10_isWord 13 = .ok (.iconst 1, 1) := by decide +kernel
theorem dX10_isWord_14 : decode cX10_isWord 14 = .ok (.goto 4, 3) := by decide +kernel
theorem dX10_isWord_17 : decode cX10_isWord 17 = .ok (.iconst 0, 1) := by decide +kernel
theorem dX10_isWord_18 : decode cX10_isWord 18 = .ok (.istore_n 2, 1) := by decide +kernel
theorem dX10_isWord_19 : decode cX10_isWord 19 = .ok (.iconst 0, 1) := by decide +kernel
theorem dX10_isWord_20 : decode cX10_isWord 20 = .ok (.istore_n 3, 1) := by decide +kernel
theorem dX10_isWord_21 : decode cX10_isWord 21 = .ok (.iload_n 3, 1) := by decide +kernel
theorem dX10_isWord_22 : decode cX10_isWord 22 = .ok (.iconst 5, 1) := by decide +kernel
theorem dX10_isWord_23 : decode cX10_isWord 23 = .ok (.if_icmp .ge 65, 3) := by decide +kernel
theorem dX10_isWord_26 : decode cX10_isWord 26 = .ok (.iload_n 2, 1) := by decide +kernel
theorem dX10_isWord_27 : decode cX10_isWord 27 = .ok (.ifCond .eq 61, 3) := by decide +kernel
theorem dX10_isWord_30 : decode cX10_isWord 30 = .ok (.aload_n 0, 1) := by decide +kernel
theorem dX10_isWord_31 : decode cX10_isWord 31 = .ok (.getfield 90, 3) := by decide +kernel
theorem dX10_isWord_34 : decode cX10_isWord 34 = .ok (.iload_n 3, 1) := by decide +kernel
theorem dX10_isWord_35 : decode cX10_isWord 35 = .ok (.iadd, 1) := by decide +kernel
theorem dX10_isWord_36 : decode cX10_isWord 36 = .ok (.aload_n 0, 1) := by decide +kernel
theorem dX10_isWord_37 : decode cX10_isWord 37 = .ok (.getfield 48, 3) := by decide +kernel
theorem dX10_isWord_40 : decode cX10_isWord 40 = .ok (.if_icmp .ge 17, 3) := by decide +kernel
theorem dX10_isWord_43 : decode cX10_isWord 43 = .ok (.aload_n 0, 1) := by decide +kernel
theorem dX10_isWord_44 : decode cX10_isWord 44 = .ok (.getfield 11, 3) := by decide +kernel
theorem dX10_isWord_47 : decode cX10_isWord 47 = .ok (.aload_n 0, 1) := by decide +kernel
theorem dX10_isWord_48 : decode cX10_isWord 48 = .ok (.getfield 90, 3) := by decide +kernel
theorem dX10_isWord_51 : decode cX10_isWord 51 = .ok (.iload_n 3, 1) := by decide +kernel
theorem dX10_isWord_52 : decode cX10_isWord 52 = .ok (.iadd, 1) := by decide +kernel
theorem dX10_isWord_53 : decode cX10_isWord 53 = .ok (.baload, 1) := by decide +kernel
theorem dX10_isWord_54 : decode cX10_isWord 54 = .ok (.goto 5, 3) := by decide +kernel
theorem dX10_isWord_57 : decode cX10_isWord 57 = .ok (.bipush 32, 2) := by decide +kernel
theorem dX10_isWord_59 : decode cX10_isWord 59 = .ok (.istore 4, 2) := by decide +kernel
theorem dX10_isWord_61 : decode cX10_isWord 61 = .ok (.iload 4, 2) := by decide +kernel
theorem dX10_isWord_63 : decode cX10_isWord 63 = .ok (.ldc 114, 2) := by decide +kernel
theorem dX10_isWord_65 : decode cX10_isWord 65 = .ok (.iload_n 1, 1) := by decide +kernel
theorem dX10_isWord_66 : decode cX10_isWord 66 = .ok (.iconst 5, 1) := by decide +kernel
theorem dX10_isWord_67 : decode cX10_isWord 67 = .ok (.imul, 1) := by decide +kernel
theorem dX10_isWord_68 : decode cX10_isWord 68 = .ok (.iload_n 3, 1) := by decide +kernel
theorem dX10_isWord_69 : decode cX10_isWord 69 = .ok (.iadd, 1) := by decide +kernel
theorem dX10_isWord_70 : decode cX10_isWord 70 = .ok (.invokevirtual 35, 3) := by decide +kernel
theorem dX10_isWord_73 : decode cX10_isWord 73 = .ok (.if_icmp .ne 7, 3) := by decide +kernel
theorem dX10_isWord_76 : decode cX10_isWord 76 = .ok (.iconst 1, 1) := by decide +kernel
theorem dX10_isWord_77 : decode cX10_isWord 77 = .ok (.goto 4, 3) := by decide +kernel
theorem dX10_isWord_80 : decode cX10_isWord 80 = .ok (.iconst 0, 1) := by decide +kernel
theorem dX10_isWord_81 : decode cX10_isWord 81 = .ok (.istore_n 2, 1) := by decide +kernel
theorem dX10_isWord_82 : decode cX10_isWord 82 = .ok (.iinc 3 1, 3) := by decide +kernel
theorem dX10_isWord_85 : decode cX10_isWord 85 = .ok (.goto (-64), 3) := by decide +kernel
theorem dX10_isWord_88 : decode cX10_isWord 88 = .ok (.iload_n 2, 1) := by decide +kernel
theorem dX10_isWord_89 : decode cX10_isWord 89 = .ok (.ireturn, 1) := by decide +kernel
theorem dX10_value_0 : decode cX10_value 0 = .ok (.iconst 0, 1) := by decide +kernel
theorem dX10_value_1 : decode cX10_value 1 = .ok (.istore_n 3, 1) := by decide +kernel
theorem dX10_value_2 : decode cX10_value 2 = .ok (.aload_n 0, 1) := by decide +kernel
theorem dX10_value_3 : decode cX10_value 3 = .ok (.getfield 116, 3) := by decide +kernel
theorem dX10_value_6 : decode cX10_value 6 = .ok (.sipush 160, 3) := by decide +kernel
theorem dX10_value_9 : decode cX10_value 9 = .ok (.imul, 1) := by decide +kernel
theorem dX10_value_10 : decode cX10_value 10 = .ok (.istore 4, 2) := by decide +kernel
theorem dX10_value_12 : decode cX10_value 12 = .ok (.iload 4, 2) := by decide +kernel
theorem dX10_value_14 : decode cX10_value 14 = .ok (.aload_n 0, 1) := by decide +kernel
theorem dX10_value_15 : decode cX10_value 15 = .ok (.getfield 19, 3) := by decide +kernel
theorem dX10_value_18 : decode cX10_value 18 = .ok (.aload_n 0, 1) := by decide +kernel
theorem dX10_value_19 : decode cX10_value 19 = .ok (.getfield 116, 3) := by decide +kernel
theorem dX10_value_22 : decode cX10_value 22 = .ok (.iconst 3, 1) := by decide +kernel
theorem dX10_value_23 : decode cX10_value 23 = .ok (.imul, 1) := by decide +kernel
theorem dX10_value_24 : decode cX10_value 24 = .ok (.iload_n 1, 1) := by decide +kernel
theorem dX10_value_25 : decode cX10_value 25 = .ok (.iadd, 1) := by decide +kernel
theorem dX10_value_26 : decode cX10_value 26 = .ok (.iaload, 1) := by decide +kernel
theorem dX10_value_27 : decode cX10_value 27 = .ok (.iadd, 1) := by decide +kernel
theorem dX10_value_28 : decode cX10_value 28 = .ok (.istore 5, 2) := by decide +kernel
theorem dX10_value_30 : decode cX10_value 30 = .ok (.iload 5, 2) := by decide +kernel
theorem dX10_value_32 : decode cX10_value 32 = .ok (.iload 4, 2) := by decide +kernel
theorem dX10_value_34 : decode cX10_value 34 = .ok (.sipush 160, 3) := by decide +kernel
theorem dX10_value_37 : decode cX10_value 37 = .ok (.iadd, 1) := by decide +kernel
theorem dX10_value_38 : decode cX10_value 38 = .ok (.if_icmp .ge 36, 3) := by decide +kernel
theorem dX10_value_41 : decode cX10_value 41 = .ok (.aload_n 0, 1) := by decide +kernel
theorem dX10_value_42 : decode cX10_value 42 = .ok (.getfield 15, 3) := by decide +kernel
theorem dX10_value_45 : decode cX10_value 45 = .ok (.iload 5, 2) := by decide +kernel
theorem dX10_value_47 : decode cX10_value 47 = .ok (.iaload, 1) := by decide +kernel
theorem dX10_value_48 : decode cX10_value 48 = .ok (.sipush 10059, 3) := by decide +kernel
theorem dX10_value_51 : decode cX10_value 51 = .ok (.if_icmp .eq 23, 3) := by decide +kernel
theorem dX10_value_54 : decode cX10_value 54 = .ok (.aload_n 0, 1) := by decide +kernel
theorem dX10_value_55 : decode cX10_value 55 = .ok (.aload_n 0, 1) := by decide +kernel
theorem dX10_value_56 : decode cX10_value 56 = .ok (.getfield 15, 3) := by decide +kernel
theorem dX10_value_59 : decode cX10_value 59 = .ok (.iload 5, 2) := by decide +kernel
theorem dX10_value_61 : decode cX10_value 61 = .ok (.iaload, 1) := by decide +kernel
theorem dX10_value_62 : decode cX10_value 62 = .ok (.iload_n 3, 1) := by decide +kernel
theorem dX10_value_63 : decode cX10_value 63 = .ok (.aload_n 2, 1) := by decide +kernel
theorem dX10_value_64 : decode cX10_value 64 = .ok (.invokevirtual 119, 3) := by decide +kernel
theorem dX10_value_67 : decode cX10_value 67 = .ok (.istore_n 3, 1) := by decide +kernel
theorem dX10_value_68 : decode cX10_value 68 = .ok (.iinc 5 1, 3) := by decide +kernel
theorem dX10_value_71 : decode cX10_value 71 = .ok (.goto (-41), 3) := by decide +kernel
theorem dX10_value_74 : decode cX10_value 74 = .ok (.aload_n 0, 1) := by decide +kernel
theorem dX10_value_75 : decode cX10_value 75 = .ok (.getfield 22, 3) := by decide +kernel
theorem dX10_value_78 : decode cX10_value 78 = .ok (.iconst 0, 1) := by decide +kernel
theorem dX10_value_79 : decode cX10_value 79 = .ok (.iaload, 1) := by decide +kernel
theorem dX10_value_80 : decode cX10_value 80 = .ok (.ireturn, 1) := by decide +kernel
theorem dX10_doStep_0 : decode cX10_doStep 0 = .ok (.iload_n 1, 1) := by decide +kernel
theorem dX10_doStep_1 : decode cX10_doStep 1 = .ok (.sipush 10000, 3) := by decide +kernel
theorem dX10_doStep_4 : decode cX10_doStep 4 = .ok (.isub, 1) := by decide +kernel
theorem dX10_doStep_5 : decode cX10_doStep 5 = .ok (.istore 4, 2) := by decide +kernel
theorem dX10_doStep_7 : decode cX10_doStep 7 = .ok (.iload 4, 2) := by decide +kernel
theorem dX10_doStep_9 : decode cX10_doStep 9 = .ok (.ifCond .lt 10, 3) := by decide +kernel
theorem dX10_doStep_12 : decode cX10_doStep 12 = .ok (.iload 4, 2) := by decide +kernel
theorem dX10_doStep_14 : decode cX10_doStep 14 = .ok (.aload_n 3, 1) := by decide +kernel
theorem dX10_doStep_15 : decode cX10_doStep 15 = .ok (.arraylength, 1) := by decide +kernel
theorem dX10_doStep_16 : decode cX10_doStep 16 = .ok (.if_icmp .ge 34, 3) := by decide +kernel
theorem dX10_doStep_19 : decode cX10_doStep 19 = .ok (.iload_n 2, 1) := by decide +kernel
theorem dX10_doStep_20 : decode cX10_doStep 20 = .ok (.bipush 64, 2) := by decide +kernel
theorem dX10_doStep_22 : decode cX10_doStep 22 = .ok (.if_icmp .ge 26, 3) := by decide +kernel
theorem dX10_doStep_25 : decode cX10_doStep 25 = .ok (.aload_n 0, 1) := by decide +kernel
theorem dX10_doStep_26 : decode cX10_doStep 26 = .ok (.getfield 22, 3) := by decide +kernel
theorem dX10_doStep_29 : decode cX10_doStep 29 = .ok (.iload_n 2, 1) := by decide +kernel
theorem dX10_doStep_30 : decode cX10_doStep 30 = .ok (.iload 4, 2) := by decide +kernel
theorem dX10_doStep_32 : decode cX10_doStep 32 = .ok (.ifCond .ge 7, 3) := by decide +kernel
theorem dX10_doStep_35 : decode cX10_doStep 35 = .ok (.iload_n 1, 1) := by decide +kernel
theorem dX10_doStep_36 : decode cX10_doStep 36 = .ok (.goto 7, 3) := by decide +kernel
theorem dX10_doStep_39 : decode cX10_doStep 39 = .ok (.aload_n 3, 1) := by decide +kernel
theorem dX10_doStep_40 : decode cX10_doStep 40 = .ok (.iload 4, 2) := by decide +kernel
theorem dX10_doStep_42 : decode cX10_doStep 42 = .ok (.iaload, 1) := by decide +kernel
theorem dX10_doStep_43 : decode cX10_doStep 43 = .ok (.iastore, 1) := by decide +kernel
theorem dX10_doStep_44 : decode cX10_doStep 44 = .ok (.iload_n 2, 1) := by decide +kernel
theorem dX10_doStep_45 : decode cX10_doStep 45 = .ok (.iconst 1, 1) := by decide +kernel
theorem dX10_doStep_46 : decode cX10_doStep 46 = .ok (.iadd, 1) := by decide +kernel
theorem dX10_doStep_47 : decode cX10_doStep 47 = .ok (.ireturn, 1) := by decide +kernel
theorem dX10_doStep_48 : decode cX10_doStep 48 = .ok (.iload_n 2, 1) := by decide +kernel
theorem dX10_doStep_49 : decode cX10_doStep 49 = .ok (.ireturn, 1) := by decide +kernel
theorem dX10_doStep_50 : decode cX10_doStep 50 = .ok (.iload 4, 2) := by decide +kernel
theorem dX10_doStep_52 : decode cX10_doStep 52 = .ok (.bipush 11, 2) := by decide +kernel
theorem dX10_doStep_54 : decode cX10_doStep 54 = .ok (.if_icmp .eq 10, 3) := by decide +kernel
theorem dX10_doStep_57 : decode cX10_doStep 57 = .ok (.iload 4, 2) := by decide +kernel
theorem dX10_doStep_59 : decode cX10_doStep 59 = .ok (.bipush 15, 2) := by decide +kernel
theorem dX10_doStep_61 : decode cX10_doStep 61 = .ok (.if_icmp .ne 50, 3) := by decide +kernel
theorem dX10_doStep_64 : decode cX10_doStep 64 = .ok (.iload_n 2, 1) := by decide +kernel
theorem dX10_doStep_65 : decode cX10_doStep 65 = .ok (.ifCond .le 44, 3) := by decide +kernel
theorem dX10_doStep_68 : decode cX10_doStep 68 = .ok (.aload_n 0, 1) := by decide +kernel
theorem dX10_doStep_69 : decode cX10_doStep 69 = .ok (.getfield 22, 3) := by decide +kernel
theorem dX10_doStep_72 : decode cX10_doStep 72 = .ok (.iload_n 2, 1) := by decide +kernel
theorem dX10_doStep_73 : decode cX10_doStep 73 = .ok (.iconst 1, 1) := by decide +kernel
theorem dX10_doStep_74 : decode cX10_doStep 74 = .ok (.isub, 1) := by decide +kernel
theorem dX10_doStep_75 : decode cX10_doStep 75 = .ok (.iaload, 1) := by decide +kernel
theorem dX10_doStep_76 : decode cX10_doStep 76 = .ok (.istore 5, 2) := by decide +kernel
theorem dX10_doStep_78 : decode cX10_doStep 78 = .ok (.aload_n 0, 1) := by decide +kernel
theorem dX10_doStep_79 : decode cX10_doStep 79 = .ok (.getfield 22, 3) := by decide +kernel
theorem dX10_doStep_82 : decode cX10_doStep 82 = .ok (.iload_n 2, 1) := by decide +kernel
theorem dX10_doStep_83 : decode cX10_doStep 83 = .ok (.iconst 1, 1) := by decide +kernel
theorem dX10_doStep_84 : decode cX10_doStep 84 = .ok (.isub, 1) := by decide +kernel
theorem dX10_doStep_85 : decode cX10_doStep 85 = .ok (.iload 4, 2) := by decide +kernel
theorem dX10_doStep_87 : decode cX10_doStep 87 = .ok (.bipush 15, 2) := by decide +kernel
theorem dX10_doStep_89 : decode cX10_doStep 89 = .ok (.if_icmp .ne 9, 3) := by decide +kernel
theorem dX10_doStep_92 : decode cX10_doStep 92 = .ok (.iload 5, 2) := by decide +kernel
theorem dX10_doStep_94 : decode cX10_doStep 94 = .ok (.ineg, 1) := by decide +kernel
theorem dX10_doStep_95 : decode cX10_doStep 95 = .ok (.goto 13, 3) := by decide +kernel
theorem dX10_doStep_98 : decode cX10_doStep 98 = .ok (.iload 5, 2) := by decide +kernel
theorem dX10_doStep_100 : decode cX10_doStep 100 = .ok (.ifCond .ne 7, 3) := by decide +kernel
theorem dX10_doStep_103 : decode cX10_doStep 103 = .ok (.iconst 1, 1) := by decide +kernel
theorem dX10_doStep_104 : decode cX10_doStep 104 = .ok (.goto 4, 3) := by decide +kernel
theorem dX10_doStep_107 : decode cX10_doStep 107 = .ok (.iconst 0, 1) := by decide +kernel
theorem dX10_doStep_108 : decode cX10_doStep 108 = .ok (.iastore, 1) := by decide +kernel
theorem dX10_doStep_109 : decode cX10_doStep 109 = .ok (.iload_n 2, 1) := by decide +kernel
theorem dX10_doStep_110 : decode cX10_doStep 110 = .ok (.ireturn, 1) := by decide +kernel
theorem dX10_doStep_111 : decode cX10_doStep 111 = .ok (.iload_n 2, 1) := by decide +kernel
theorem dX10_doStep_112 : decode cX10_doStep 112 = .ok (.iconst 1, 1) := by decide +kernel
theorem dX10_doStep_113 : decode cX10_doStep 113 = .ok (.if_icmp .le 36, 3) := by decide +kernel
theorem dX10_doStep_116 : decode cX10_doStep 116 = .ok (.aload_n 0, 1) := by decide +kernel
theorem dX10_doStep_117 : decode cX10_doStep 117 = .ok (.getfield 22, 3) := by decide +kernel
theorem dX10_doStep_120 : decode cX10_doStep 120 = .ok (.iload_n 2, 1) := by decide +kernel
theorem dX10_doStep_121 : decode cX10_doStep 121 = .ok (.iconst 2, 1) := by decide +kernel
theorem dX10_doStep_122 : decode cX10_doStep 122 = .ok (.isub, 1) := by decide +kernel
theorem dX10_doStep_123 : decode cX10_doStep 123 = .ok (.iload 4, 2) := by decide +kernel
theorem dX10_doStep_125 : decode cX10_doStep 125 = .ok (.aload_n 0, 1) := by decide +kernel
theorem dX10_doStep_126 : decode cX10_doStep 126 = .ok (.getfield 22, 3) := by decide +kernel
theorem dX10_doStep_129 : decode cX10_doStep 129 = .ok (.iload_n 2, 1) := by decide +kernel
theorem dX10_doStep_130 : decode cX10_doStep 130 = .ok (.iconst 2, 1) := by decide +kernel
theorem dX10_doStep_131 : decode cX10_doStep 131 = .ok (.isub, 1) := by decide +kernel
theorem dX10_doStep_132 : decode cX10_doStep 132 = .ok (.iaload, 1) := by decide +kernel
theorem dX10_doStep_133 : decode cX10_doStep 133 = .ok (.aload_n 0, 1) := by decide +kernel
theorem dX10_doStep_134 : decode cX10_doStep 134 = .ok (.getfield 22, 3) := by decide +kernel
theorem dX10_doStep_137 : decode cX10_doStep 137 = .ok (.iload_n 2, 1) := by decide +kernel
theorem dX10_doStep_138 : decode cX10_doStep 138 = .ok (.iconst 1, 1) := by decide +kernel
theorem dX10_doStep_139 : decode cX10_doStep 139 = .ok (.isub, 1) := by decide +kernel
theorem dX10_doStep_140 : decode cX10_doStep 140 = .ok (.iaload, 1) := by decide +kernel
theorem dX10_doStep_141 : decode cX10_doStep 141 = .ok (.invokestatic 123, 3) := by decide +kernel
theorem dX10_doStep_144 : decode cX10_doStep 144 = .ok (.iastore, 1) := by decide +kernel
theorem dX10_doStep_145 : decode cX10_doStep 145 = .ok (.iload_n 2, 1) := by decide +kernel
theorem dX10_doStep_146 : decode cX10_doStep 146 = .ok (.iconst 1, 1) := by decide +kernel
theorem dX10_doStep_147 : decode cX10_doStep 147 = .ok (.isub, 1) := by decide +kernel
theorem dX10_doStep_148 : decode cX10_doStep 148 = .ok (.ireturn, 1) := by decide +kernel
theorem dX10_doStep_149 : decode cX10_doStep 149 = .ok (.iload_n 2, 1) := by decide +kernel
theorem dX10_doStep_150 : decode cX10_doStep 150 = .ok (.ireturn, 1) := by decide +kernel
theorem dX10_joined_0 : decode cX10_joined 0 = .ok (.iload_n 0, 1) := by decide +kernel
theorem dX10_joined_1 : decode cX10_joined 1 = .ok (.lookupswitch 117 #[(9, 59), (10, 73), (43, 109), (45, 113), (60, 87), (61, 98)], 59) := by decide +kernel
theorem dX10_joined_60 : decode cX10_joined 60 = .ok (.iload_n 1, 1) := by decide +kernel
theorem dX10_joined_61 : decode cX10_joined 61 = .ok (.ifCond .ne 7, 3) := by decide +kernel
theorem dX10_joined_64 : decode cX10_joined 64 = .ok (.iload_n 2, 1) := by decide +kernel
theorem dX10_joined_65 : decode cX10_joined 65 = .ok (.ifCond .eq 7, 3) := by decide +kernel
theorem dX10_joined_68 : decode cX10_joined 68 = .ok (.iconst 1, 1) := by decide +kernel
theorem dX10_joined_69 : decode cX10_joined 69 = .ok (.goto 4, 3) := by decide +kernel
theorem dX10_joined_72 : decode cX10_joined 72 = .ok (.iconst 0, 1) := by decide +kernel
theorem dX10_joined_73 : decode cX10_joined 73 = .ok (.ireturn, 1) := by decide +kernel
theorem dX10_joined_74 : decode cX10_joined 74 = .ok (.iload_n 1, 1) := by decide +kernel
theorem dX10_joined_75 : decode cX10_joined 75 = .ok (.ifCond .eq 11, 3) := by decide +kernel
theorem dX10_joined_78 : decode cX10_joined 78 = .ok (.iload_n 2, 1) := by decide +kernel
theorem dX10_joined_79 : decode cX10_joined 79 = .ok (.ifCond .eq 7, 3) := by decide +kernel
theorem dX10_joined_82 : decode cX10_joined 82 = .ok (.iconst 1, 1) := by decide +kernel
theorem dX10_joined_83 : decode cX10_joined 83 = .ok (.goto 4, 3) := by decide +kernel
theorem dX10_joined_86 : decode cX10_joined 86 = .ok (.iconst 0, 1) := by decide +kernel
theorem dX10_joined_87 : decode cX10_joined 87 = .ok (.ireturn, 1) := by decide +kernel
theorem dX10_joined_88 : decode cX10_joined 88 = .ok (.iload_n 1, 1) := by decide +kernel
theorem dX10_joined_89 : decode cX10_joined 89 = .ok (.iload_n 2, 1) := by decide +kernel
theorem dX10_joined_90 : decode cX10_joined 90 = .ok (.if_icmp .ge 7, 3) := by decide +kernel
theorem dX10_joined_93 : decode cX10_joined 93 = .ok (.iconst 1, 1) := by decide +kernel
theorem dX10_joined_94 : decode cX10_joined 94 = .ok (.goto 4, 3) := by decide +kernel
theorem dX10_joined_97 : decode cX10_joined 97 = .ok (.iconst 0, 1) := by decide +kernel
theorem dX10_joined_98 : decode cX10_joined 98 = .ok (.ireturn, 1) := by decide +kernel
theorem dX10_joined_99 : decode cX10_joined 99 = .ok (.iload_n 1, 1) := by decide +kernel
theorem dX10_joined_100 : decode cX10_joined 100 = .ok (.iload_n 2, 1) := by decide +kernel
theorem dX10_joined_101 : decode cX10_joined 101 = .ok (.if_icmp .ne 7, 3) := by decide +kernel
theorem dX10_joined_104 : decode cX10_joined 104 = .ok (.iconst 1, 1) := by decide +kernel
theorem dX10_joined_105 : decode cX10_joined 105 = .ok (.goto 4, 3) := by decide +kernel
theorem dX10_joined_108 : decode cX10_joined 108 = .ok (.iconst 0, 1) := by decide +kernel
theorem dX10_joined_109 : decode cX10_joined 109 = .ok (.ireturn, 1) := by decide +kernel
theorem dX10_joined_110 : decode cX10_joined 110 = .ok (.iload_n 1, 1) := by decide +kernel
theorem dX10_joined_111 : decode cX10_joined 111 = .ok (.iload_n 2, 1) := by decide +kernel
theorem dX10_joined_112 : decode cX10_joined 112 = .ok (.iadd, 1) := by decide +kernel
theorem dX10_joined_113 : decode cX10_joined 113 = .ok (.ireturn, 1) := by decide +kernel
theorem dX10_joined_114 : decode cX10_joined 114 = .ok (.iload_n 1, 1) := by decide +kernel
theorem dX10_joined_115 : decode cX10_joined 115 = .ok (.iload_n 2, 1) := by decide +kernel
theorem dX10_joined_116 : decode cX10_joined 116 = .ok (.isub, 1) := by decide +kernel
theorem dX10_joined_117 : decode cX10_joined 117 = .ok (.ireturn, 1) := by decide +kernel
theorem dX10_joined_118 : decode cX10_joined 118 = .ok (.iload_n 1, 1) := by decide +kernel
theorem dX10_joined_119 : decode cX10_joined 119 = .ok (.iload_n 2, 1) := by decide +kernel
theorem dX10_joined_120 : decode cX10_joined 120 = .ok (.imul, 1) := by decide +kernel
theorem dX10_joined_121 : decode cX10_joined 121 = .ok (.ireturn, 1) := by decide +kernel
theorem dX11_init_0 : decode cX11_init 0 = .ok (.aload_n 0, 1) := by decide +kernel
theorem dX11_init_1 : decode cX11_init 1 = .ok (.invokespecial 1, 3) := by decide +kernel
theorem dX11_init_4 : decode cX11_init 4 = .ok (.aload_n 0, 1) := by decide +kernel
theorem dX11_init_5 : decode cX11_init 5 = .ok (.bipush 7, 2) := by decide +kernel
theorem dX11_init_7 : decode cX11_init 7 = .ok (.anewarray 9, 3) := by decide +kernel
theorem dX11_init_10 : decode cX11_init 10 = .ok (.putfield 11, 3) := by decide +kernel
theorem dX11_init_13 : decode cX11_init 13 = .ok (.aload_n 0, 1) := by decide +kernel
theorem dX11_init_14 : decode cX11_init 14 = .ok (.bipush 14, 2) := by decide +kernel
theorem dX11_init_16 : decode cX11_init 16 = .ok (.anewarray 15, 3) := by decide +kernel
theorem dX11_init_19 : decode cX11_init 19 = .ok (.putfield 17, 3) := by decide +kernel
theorem dX11_init_22 : decode cX11_init 22 = .ok (.aload_n 0, 1) := by decide +kernel
theorem dX11_init_23 : decode cX11_init 23 = .ok (.new 21, 3) := by decide +kernel
theorem dX11_init_26 : decode cX11_init 26 = .ok (.dup, 1) := by decide +kernel
theorem dX11_init_27 : decode cX11_init 27 = .ok (.invokespecial 23, 3) := by decide +kernel
theorem dX11_init_30 : decode cX11_init 30 = .ok (.putfield 24, 3) := by decide +kernel
theorem dX11_init_33 : decode cX11_init 33 = .ok (.aload_n 0, 1) := by decide +kernel
theorem dX11_init_34 : decode cX11_init 34 = .ok (.bipush 6, 2) := by decide +kernel
theorem dX11_init_36 : decode cX11_init 36 = .ok (.newarray .int, 2) := by decide +kernel
theorem dX11_init_38 : decode cX11_init 38 = .ok (.putfield 28, 3) := by decide +kernel
theorem dX11_init_41 : decode cX11_init 41 = .ok (.aload_n 0, 1) := by decide +kernel
theorem dX11_init_42 : decode cX11_init 42 = .ok (.new 32, 3) := by decide +kernel
theorem dX11_init_45 : decode cX11_init 45 = .ok (.dup, 1) := by decide +kernel
theorem dX11_init_46 : decode cX11_init 46 = .ok (.invokespecial 34, 3) := by decide +kernel
theorem dX11_init_49 : decode cX11_init 49 = .ok (.putfield 35, 3) := by decide +kernel
theorem dX11_init_52 : decode cX11_init 52 = .ok (.aload_n 0, 1) := by decide +kernel
theorem dX11_init_53 : decode cX11_init 53 = .ok (.new 39, 3) := by decide +kernel
theorem dX11_init_56 : decode cX11_init 56 = .ok (.dup, 1) := by decide +kernel
theorem dX11_init_57 : decode cX11_init 57 = .ok (.invokespecial 41, 3) := by decide +kernel
theorem dX11_init_60 : decode cX11_init 60 = .ok (.putfield 42, 3) := by decide +kernel
theorem dX11_init_63 : decode cX11_init 63 = .ok (.aload_n 0, 1) := by decide +kernel
theorem dX11_init_64 : decode cX11_init 64 = .ok (.iconst 4, 1) := by decide +kernel
theorem dX11_init_65 : decode cX11_init 65 = .ok (.anewarray 46, 3) := by decide +kernel
theorem dX11_init_68 : decode cX11_init 68 = .ok (.putfield 48, 3) := by decide +kernel
theorem dX11_init_71 : decode cX11_init 71 = .ok (.aload_n 0, 1) := by decide +kernel
theorem dX11_init_72 : decode cX11_init 72 = .ok (.bipush 14, 2) := by decide +kernel
theorem dX11_init_74 : decode cX11_init 74 = .ok (.newarray .int, 2) := by decide +kernel
theorem dX11_init_76 : decode cX11_init 76 = .ok (.putfield 52, 3) := by decide +kernel
theorem dX11_init_79 : decode cX11_init 79 = .ok (.iconst 0, 1) := by decide +kernel
theorem dX11_init_80 : decode cX11_init 80 = .ok (.istore_n 1, 1) := by decide +kernel
theorem dX11_init_81 : decode cX11_init 81 = .ok (.iload_n 1, 1) := by decide +kernel
theorem dX11_init_82 : decode cX11_init 82 = .ok (.iconst 4, 1) := by decide +kernel
theorem dX11_init_83 : decode cX11_init 83 = .ok (.if_icmp .ge 22, 3) := by decide +kernel
theorem dX11_init_86 : decode cX11_init 86 = .ok (.aload_n 0, 1) := by decide +kernel
theorem dX11_init_87 : decode cX11_init 87 = .ok (.getfield 48, 3) := by decide +kernel
theorem dX11_init_90 : decode cX11_init 90 = .ok (.iload_n 1, 1) := by decide +kernel
theorem dX11_init_91 : decode cX11_init 91 = .ok (.new 46, 3) := by decide +kernel
theorem dX11_init_94 : decode cX11_init 94 = .ok (.dup, 1) := by decide +kernel
theorem dX11_init_95 : decode cX11_init 95 = .ok (.invokespecial 55, 3) := by decide +kernel
theorem dX11_init_98 : decode cX11_init 98 = .ok (.aastore, 1) := by decide +kernel
theorem dX11_init_99 : decode cX11_init 99 = .ok (.iinc 1 1, 3) := by decide +kernel
theorem dX11_init_102 : decode cX11_init 102 = .ok (.goto (-21), 3) := by decide +kernel
theorem dX11_init_105 : decode cX11_init 105 = .ok (.aload_n 0, 1) := by decide +kernel
theorem dX11_init_106 : decode cX11_init 106 = .ok (.getfield 24, 3) := by decide +kernel
theorem dX11_init_109 : decode cX11_init 109 = .ok (.ldc 56, 2) := by decide +kernel
theorem dX11_init_111 : decode cX11_init 111 = .ok (.invokevirtual 58, 3) := by decide +kernel
theorem dX11_init_114 : decode cX11_init 114 = .ok (.aload_n 0, 1) := by decide +kernel
theorem dX11_init_115 : decode cX11_init 115 = .ok (.getfield 24, 3) := by decide +kernel
theorem dX11_init_118 : decode cX11_init 118 = .ok (.invokevirtual 62, 3) := by decide +kernel
theorem dX11_init_121 : decode cX11_init 121 = .ok (.pop, 1) := by decide +kernel
theorem dX11_init_122 : decode cX11_init 122 = .ok (.return_, 1) := by decide +kernel
theorem dX11_crossing_0 : decode cX11_crossing 0 = .ok (.iload_n 1, 1) := by decide +kernel
theorem dX11_crossing_1 : decode cX11_crossing 1 = .ok (.iconst 1, 1) := by decide +kernel
theorem dX11_crossing_2 : decode cX11_crossing 2 = .ok (.bipush 60, 2) := by decide +kernel
theorem dX11_crossing_4 : decode cX11_crossing 4 = .ok (.invokestatic 66, 3) := by decide +kernel
theorem dX11_crossing_7 : decode cX11_crossing 7 = .ok (.ifCond .eq 10, 3) := by decide +kernel
theorem dX11_crossing_10 : decode cX11_crossing 10 = .ok (.iload_n 2, 1) := by decide +kernel
theorem dX11_crossing_11 : decode cX11_crossing 11 = .ok (.invokestatic 70, 3) := by decide +kernel
theorem dX11_crossing_14 : decode cX11_crossing 14 = .ok (.ifCond .ne 6, 3) := by decide +kernel
theorem dX11_crossing_17 : decode cX11_crossing 17 = .ok (.bipush (-2), 2) := by decide +kernel
theorem dX11_crossing_19 : decode cX11_crossing 19 = .ok (.ireturn, 1) := by decide +kernel
theorem dX11_crossing_20 : decode cX11_crossing 20 = .ok (.aload_n 0, 1) := by decide +kernel
theorem dX11_crossing_21 : decode cX11_crossing 21 = .ok (.getfield 74, 3) := by decide +kernel
theorem dX11_crossing_24 : decode cX11_crossing 24 = .ok (.bipush 7, 2) := by decide +kernel
theorem dX11_crossing_26 : decode cX11_crossing 26 = .ok (.if_icmp .lt 6, 3) := by decide +kernel
theorem dX11_crossing_29 : decode cX11_crossing 29 = .ok (.bipush (-4), 2) := by decide +kernel
theorem dX11_crossing_31 : decode cX11_crossing 31 = .ok (.ireturn, 1) := by decide +kernel
theorem dX11_crossing_32 : decode cX11_crossing 32 = .ok (.aload_n 0, 1) := by decide +kernel
theorem dX11_crossing_33 : decode cX11_crossing 33 = .ok (.getfield 11, 3) := by decide +kernel
theorem dX11_crossing_36 : decode cX11_crossing 36 = .ok (.aload_n 0, 1) := by decide +kernel
theorem dX11_crossing_37 : decode cX11_crossing 37 = .ok (.getfield 74, 3) := by decide +kernel
theorem dX11_crossing_40 : decode cX11_crossing 40 = .ok (.new 9, 3) := by decide +kernel
theorem dX11_crossing_43 : decode cX11_crossing 43 = .ok (.dup, 1) := by decide +kernel
theorem dX11_crossing_44 : decode cX11_crossing 44 = .ok (.iload_n 1, 1) := by decide +kernel
theorem dX11_crossing_45 : decode cX11_crossing 45 = .ok (.iload_n 2, 1) := by decide +kernel
theorem dX11_crossing_46 : decode cX11_crossing 46 = .ok (.invokespecial 78, 3) := by decide +kernel
theorem dX11_crossing_49 : decode cX11_crossing 49 = .ok (.aastore, 1) := by decide +kernel
theorem dX11_crossing_50 : decode cX11_crossing 50 = .ok (.aload_n 0, 1) := by decide +kernel
theorem dX11_crossing_51 : decode cX11_crossing 51 = .ok (.dup, 1) := by decide +kernel
theorem dX11_crossing_52 : decode cX11_crossing 52 = .ok (.getfield 74, 3) := by decide +kernel
theorem dX11_crossing_55 : decode cX11_crossing 55 = .ok (.iconst 1, 1) := by decide +kernel
theorem dX11_crossing_56 : decode cX11_crossing 56 = .ok (.iadd, 1) := by decide +kernel
theorem dX11_crossing_57 : decode cX11_crossing 57 = .ok (.putfield 74, 3) := by decide +kernel
theorem dX11_crossing_60 : decode cX11_crossing 60 = .ok (.aload_n 0, 1) := by decide +kernel
theorem dX11_crossing_61 : decode cX11_crossing 61 = .ok (.getfield 74, 3) := by decide +kernel
theorem dX11_crossing_64 : decode cX11_crossing 64 = .ok (.iconst 1, 1) := by decide +kernel
theorem dX11_crossing_65 : decode cX11_crossing 65 = .ok (.isub, 1) := by decide +kernel
theorem dX11_crossing_66 : decode cX11_crossing 66 = .ok (.ireturn, 1) := by decide +kernel
theorem dX11_set_0 : decode cX11_set 0 = .ok (.iload_n 1, 1) := by decide +kernel
theorem dX11_set_1 : decode cX11_set 1 = .ok (.ifCond .eq 8, 3) := by decide +kernel
theorem dX11_set_4 : decode cX11_set 4 = .ok (.iload_n 1, 1) := by decide +kernel
theorem dX11_set_5 : decode cX11_set 5 = .ok (.iconst 1, 1) := by decide +kernel
theorem dX11_set_6 : decode cX11_set 6 = .ok (.if_icmp .ne 10, 3) := by decide +kernel
theorem dX11_set_9 : decode cX11_set 9 = .ok (.aload_n 0, 1) := by decide +kernel
theorem dX11_set_10 : decode cX11_set 10 = .ok (.iload_n 1, 1) := by decide +kernel
theorem dX11_set_11 : decode cX11_set 11 = .ok (.iload_n 2, 1) := by decide +kernel
theorem dX11_set_12 : decode cX11_set 12 = .ok (.invokevirtual 81, 3) := by decide +kernel
theorem dX11_set_15 : decode cX11_set 15 = .ok (.ireturn, 1) := by decide +kernel
theorem dX11_set_16 : decode cX11_set 16 = .ok (.aload_n 0, 1) := by decide +kernel
theorem dX11_set_17 : decode cX11_set 17 = .ok (.iload_n 1, 1) := by decide +kernel
theorem dX11_set_18 : decode cX11_set 18 = .ok (.i2l, 1) := by decide +kernel
theorem dX11_set_19 : decode cX11_set 19 = .ok (.ldc2_w 85, 3) := by decide +kernel
theorem dX11_set_22 : decode cX11_set 22 = .ok (.lsub, 1) := by decide +kernel
theorem dX11_set_23 : decode cX11_set 23 = .ok (.invokevirtual 87, 3) := by decide +kernel
theorem dX11_set_26 : decode cX11_set 26 = .ok (.astore_n 3, 1) := by decide +kernel
theorem dX11_set_27 : decode cX11_set 27 = .ok (.aload_n 3, 1) := by decide +kernel
theorem dX11_set_28 : decode cX11_set 28 = .ok (.ifnull 24, 3) := by decide +kernel
theorem dX11_set_31 : decode cX11_set 31 = .ok (.iload_n 2, 1) := by decide +kernel
theorem dX11_set_32 : decode cX11_set 32 = .ok (.iconst 0, 1) := by decide +kernel
theorem dX11_set_33 : decode cX11_set 33 = .ok (.iconst 1, 1) := by decide +kernel
theorem dX11_set_34 : decode cX11_set 34 = .ok (.invokestatic 66, 3) := by decide +kernel
theorem dX11_set_37 : decode cX11_set 37 = .ok (.ifCond .eq 11, 3) := by decide +kernel
theorem dX11_set_40 : decode cX11_set 40 = .ok (.aload_n 3, 1) := by decide +kernel
theorem dX11_set_41 : decode cX11_set 41 = .ok (.iload_n 2, 1) := by decide +kernel
theorem dX11_set_42 : decode cX11_set 42 = .ok (.invokevirtual 91, 3) := by decide +kernel
theorem dX11_set_45 : decode cX11_set 45 = .ok (.goto 6, 3) := by decide +kernel
theorem dX11_set_48 : decode cX11_set 48 = .ok (.sipush (-1000), 3) := by decide +kernel
theorem dX11_set_51 : decode cX11_set 51 = .ok (.ireturn, 1) := by decide +kernel
theorem dX11_set_52 : decode cX11_set 52 = .ok (.aload_n 0, 1) := by decide +kernel
theorem dX11_set_53 : decode cX11_set 53 = .ok (.iload_n 1, 1) := by decide +kernel
theorem dX11_set_54 : decode cX11_set 54 = .ok (.i2l, 1) := by decide +kernel
theorem dX11_set_55 : decode cX11_set 55 = .ok (.ldc2_w 95, 3) := by decide +kernel
theorem dX11_set_58 : decode cX11_set 58 = .ok (.lsub, 1) := by decide +kernel
theorem dX11_set_59 : decode cX11_set 59 = .ok (.invokevirtual 87, 3) := by decide +kernel
theorem dX11_set_62 : decode cX11_set 62 = .ok (.astore 4, 2) := by decide +kernel
theorem dX11_set_64 : decode cX11_set 64 = .ok (.aload 4, 2) := by decide +kernel
theorem dX11_set_66 : decode cX11_set 66 = .ok (.ifnull 23, 3) := by decide +kernel
theorem dX11_set_69 : decode cX11_set 69 = .ok (.iload_n 2, 1) := by decide +kernel
theorem dX11_set_70 : decode cX11_set 70 = .ok (.iconst 0, 1) := by decide +kernel
theorem dX11_set_71 : decode cX11_set 71 = .ok (.sipush 999, 3) := by decide +kernel
theorem dX11_set_74 : decode cX11_set 74 = .ok (.invokestatic 66, 3) := by decide +kernel
theorem dX11_set_77 : decode cX11_set 77 = .ok (.ifCond .eq 12, 3) := by decide +kernel
theorem dX11_set_80 : decode cX11_set 80 = .ok (.aload 4, 2) := by decide +kernel
theorem dX11_set_82 : decode cX11_set 82 = .ok (.iload_n 2, 1) := by decide +kernel
theorem dX11_set_83 : decode cX11_set 83 = .ok (.invokevirtual 97, 3) := by decide +kernel
theorem dX11_set_86 : decode cX11_set 86 = .ok (.goto 6, 3) := by decide +kernel
theorem dX11_set_89 : decode cX11_set 89 = .ok (.sipush (-1000), 3) := by decide +kernel
theorem dX11_set_92 : decode cX11_set 92 = .ok (.ireturn, 1) := by decide +kernel
theorem dX11_setWater_0 : decode cX11_setWater 0 = .ok (.iload_n 2, 1) := by decide +kernel
theorem dX11_setWater_1 : decode cX11_setWater 1 = .ok (.iconst 0, 1) := by decide +kernel
theorem dX11_setWater_2 : decode cX11_setWater 2 = .ok (.bipush 9, 2) := by decide +kernel
theorem dX11_setWater_4 : decode cX11_setWater 4 = .ok (.invokestatic 66, 3) := by decide +kernel
theorem dX11_setWater_7 : decode cX11_setWater 7 = .ok (.ifCond .ne 7, 3) := by decide +kernel
theorem dX11_setWater_10 : decode cX11_setWater 10 = .ok (.sipush (-1000), 3) := by decide +kernel
theorem dX11_setWater_13 : decode cX11_setWater 13 = .ok (.ireturn, 1) := by decide +kernel
theorem dX11_setWater_14 : decode cX11_setWater 14 = .ok (.iload_n 1, 1) := by decide +kernel
theorem dX11_setWater_15 : decode cX11_setWater 15 = .ok (.ifCond .ne 10, 3) := by decide +kernel
theorem dX11_setWater_18 : decode cX11_setWater 18 = .ok (.aload_n 0, 1) := by decide +kernel
theorem dX11_setWater_19 : decode cX11_setWater 19 = .ok (.getfield 100, 3) := by decide +kernel
theorem dX11_setWater_22 : decode cX11_setWater 22 = .ok (.goto 7, 3) := by decide +kernel
theorem dX11_setWater_25 : decode cX11_setWater 25 = .ok (.aload_n 0, 1) := by decide +kernel
theorem dX11_setWater_26 : decode cX11_setWater 26 = .ok (.getfield 103, 3) := by decide +kernel
theorem dX11_setWater_29 : decode cX11_setWater 29 = .ok (.istore_n 3, 1) := by decide +kernel
theorem dX11_setWater_30 : decode cX11_setWater 30 = .ok (.iload_n 1, 1) := by decide +kernel
theorem dX11_setWater_31 : decode cX11_setWater 31 = .ok (.ifCond .ne 11, 3) := by decide +kernel
theorem dX11_setWater_34 : decode cX11_setWater 34 = .ok (.aload_n 0, 1) := by decide +kernel
theorem dX11_setWater_35 : decode cX11_setWater 35 = .ok (.iload_n 2, 1) := by decide +kernel
theorem dX11_setWater_36 : decode cX11_setWater 36 = .ok (.putfield 100, 3) := by decide +kernel
theorem dX11_setWater_39 : decode cX11_setWater 39 = .ok (.goto 8, 3) := by decide +kernel
theorem dX11_setWater_42 : decode cX11_setWater 42 = .ok (.aload_n 0, 1) := by decide +kernel
theorem dX11_setWater_43 : decode cX11_setWater 43 = .ok (.iload_n 2, 1) := by decide +kernel
theorem dX11_setWater_44 : decode cX11_setWater 44 = .ok (.putfield 103, 3) := by decide +kernel
theorem dX11_setWater_47 : decode cX11_setWater 47 = .ok (.iload_n 3, 1) := by decide +kernel
theorem dX11_setWater_48 : decode cX11_setWater 48 = .ok (.ireturn, 1) := by decide +kernel
theorem dX11_rower_0 : decode cX11_rower 0 = .ok (.iload_n 1, 1) := by decide +kernel
theorem dX11_rower_1 : decode cX11_rower 1 = .ok (.iconst 0, 1) := by decide +kernel
theorem dX11_rower_2 : decode cX11_rower 2 = .ok (.iconst 5, 1) := by decide +kernel
theorem dX11_rower_3 : decode cX11_rower 3 = .ok (.invokestatic 66, 3) := by decide +kernel
theorem dX11_rower_6 : decode cX11_rower 6 = .ok (.ifCond .eq 41, 3) := by decide +kernel
theorem dX11_rower_9 : decode cX11_rower 9 = .ok (.iload_n 2, 1) := by decide +kernel
theorem dX11_rower_10 : decode cX11_rower 10 = .ok (.sipush 1400, 3) := by decide +kernel
theorem dX11_rower_13 : decode cX11_rower 13 = .ok (.sipush 9099, 3) := by decide +kernel
theorem dX11_rower_16 : decode cX11_rower 16 = .ok (.invokestatic 66, 3) := by decide +kernel
theorem dX11_rower_19 : decode cX11_rower 19 = .ok (.ifCond .eq 28, 3) := by decide +kernel
theorem dX11_rower_22 : decode cX11_rower 22 = .ok (.aload_n 0, 1) := by decide +kernel
theorem dX11_rower_23 : decode cX11_rower 23 = .ok (.iload_n 2, 1) := by decide +kernel
theorem dX11_rower_24 : decode cX11_rower 24 = .ok (.bipush 10, 2) := by decide +kernel
theorem dX11_rower_26 : decode cX11_rower 26 = .ok (.irem, 1) := by decide +kernel
theorem dX11_rower_27 : decode cX11_rower 27 = .ok (.i2l, 1) := by decide +kernel
theorem dX11_rower_28 : decode cX11_rower 28 = .ok (.invokevirtual 87, 3) := by decide +kernel
theorem dX11_rower_31 : decode cX11_rower 31 = .ok (.ifnull 16, 3) := by decide +kernel
theorem dX11_rower_34 : decode cX11_rower 34 = .ok (.iload_n 3, 1) := by decide +kernel
theorem dX11_rower_35 : decode cX11_rower 35 = .ok (.iconst (-1), 1) := by decide +kernel
theorem dX11_rower_36 : decode cX11_rower 36 = .ok (.if_icmp .eq 14, 3) := by decide +kernel
theorem dX11_rower_39 : decode cX11_rower 39 = .ok (.aload_n 0, 1) := by decide +kernel
theorem dX11_rower_40 : decode cX11_rower 40 = .ok (.iload_n 3, 1) := by decide +kernel
theorem dX11_rower_41 : decode cX11_rower 41 = .ok (.invokevirtual 106, 3) := by decide +kernel
theorem dX11_rower_44 : decode cX11_rower 44 = .ok (.ifnonnull 6, 3) := by decide +kernel
theorem dX11_rower_47 : decode cX11_rower 47 = .ok (.bipush (-2), 2) := by decide +kernel
theorem dX11_rower_49 : decode cX11_rower 49 = .ok (.ireturn, 1) := by decide +kernel
theorem dX11_rower_50 : decode cX11_rower 50 = .ok (.aload_n 0, 1) := by decide +kernel
theorem dX11_rower_51 : decode cX11_rower 51 = .ok (.getfield 110, 3) := by decide +kernel
theorem dX11_rower_54 : decode cX11_rower 54 = .ok (.bipush 14, 2) := by decide +kernel
theorem dX11_rower_56 : decode cX11_rower 56 = .ok (.if_icmp .lt 6, 3) := by decide +kernel
theorem dX11_rower_59 : decode cX11_rower 59 = .ok (.bipush (-4), 2) := by decide +kernel
theorem dX11_rower_61 : decode cX11_rower 61 = .ok (.ireturn, 1) := by decide +kernel
theorem dX11_rower_62 : decode cX11_rower 62 = .ok (.aload_n 0, 1) := by decide +kernel
theorem dX11_rower_63 : decode cX11_rower 63 = .ok (.getfield 17, 3) := by decide +kernel
theorem dX11_rower_66 : decode cX11_rower 66 = .ok (.aload_n 0, 1) := by decide +kernel
theorem dX11_rower_67 : decode cX11_rower 67 = .ok (.getfield 110, 3) := by decide +kernel
theorem dX11_rower_70 : decode cX11_rower 70 = .ok (.iload_n 1, 1) := by decide +kernel
theorem dX11_rower_71 : decode cX11_rower 71 = .ok (.iload_n 2, 1) := by decide +kernel
theorem dX11_rower_72 : decode cX11_rower 72 = .ok (.iload_n 3, 1) := by decide +kernel
theorem dX11_rower_73 : decode cX11_rower 73 = .ok (.invokestatic 113, 3) := by decide +kernel
theorem dX11_rower_76 : decode cX11_rower 76 = .ok (.aastore, 1) := by decide +kernel
theorem dX11_rower_77 : decode cX11_rower 77 = .ok (.aload_n 0, 1) := by decide +kernel
theorem dX11_rower_78 : decode cX11_rower 78 = .ok (.dup, 1) := by decide +kernel
theorem dX11_rower_79 : decode cX11_rower 79 = .ok (.getfield 110, 3) := by decide +kernel
theorem dX11_rower_82 : decode cX11_rower 82 = .ok (.iconst 1, 1) := by decide +kernel
theorem dX11_rower_83 : decode cX11_rower 83 = .ok (.iadd, 1) := by decide +kernel
theorem dX11_rower_84 : decode cX11_rower 84 = .ok (.putfield 110, 3) := by decide +kernel
theorem dX11_rower_87 : decode cX11_rower 87 = .ok (.aload_n 0, 1) := by decide +kernel
theorem dX11_rower_88 : decode cX11_rower 88 = .ok (.getfield 110, 3) := by decide +kernel
theorem dX11_rower_91 : decode cX11_rower 91 = .ok (.iconst 1, 1) := by decide +kernel
theorem dX11_rower_92 : decode cX11_rower 92 = .ok (.isub, 1) := by decide +kernel
theorem dX11_rower_93 : decode cX11_rower 93 = .ok (.ireturn, 1) := by decide +kernel
theorem dX11_newRower_0 : decode cX11_newRower 0 = .ok (.iload_n 0, 1) := by decide +kernel
theorem dX11_newRower_1 : decode cX11_newRower 1 = .ok (.tableswitch 90 1 5 #[35, 46, 57, 68, 79], 35) := by decide +kernel
theorem dX11_newRower_36 : decode cX11_newRower 36 = .ok (.new 117, 3) := by decide +kernel
theorem dX11_newRower_39 : decode cX11_newRower 39 = .ok (.dup, 1) := by decide +kernel
theorem dX11_newRower_40 : decode cX11_newRower 40 = .ok (.iload_n 0, 1) := by decide +kernel
theorem dX11_newRower_41 : decode cX11_newRower 41 = .ok (.iload_n 1, 1) := by decide +kernel
theorem dX11_newRower_42 : decode cX11_newRower 42 = .ok (.iload_n 2, 1) := by decide +kernel
theorem dX11_newRower_43 : decode cX11_newRower 43 = .ok (.invokespecial 119, 3) := by decide +kernel
theorem dX11_newRower_46 : decode cX11_newRower 46 = .ok (.areturn, 1) := by decide +kernel
theorem dX11_newRower_47 : decode cX11_newRower 47 = .ok (.new 122, 3) := by decide +kernel
theorem dX11_newRower_50 : decode cX11_newRower 50 = .ok (.dup, 1) := by decide +kernel
theorem dX11_newRower_51 : decode cX11_newRower 51 = .ok (.iload_n 0, 1) := by decide +kernel
theorem dX11_newRower_52 : decode cX11_newRower 52 = .ok (.iload_n 1, 1) := by decide +kernel
theorem dX11_newRower_53 : decode cX11_newRower 53 = .ok (.iload_n 2, 1) := by decide +kernel
theorem dX11_newRower_54 : decode cX11_newRower 54 = .ok (.invokespecial 124, 3) := by decide +kernel
theorem dX11_newRower_57 : decode cX11_newRower 57 = .ok (.areturn, 1) := by decide +kernel
theorem dX11_newRower_58 : decode cX11_newRower 58 = .ok (.new 125, 3) := by decide +kernel
theorem dX11_newRower_61 : decode cX11_newRower 61 = .ok (.dup, 1) := by decide +kernel
theorem dX11_newRower_62 : decode cX11_newRower 62 = .ok (.iload_n 0, 1) := by decide +kernel
theorem dX11_newRower_63 : decode cX11_newRower 63 = .ok (.iload_n 1, 1) := by decide +kernel
theorem dX11_newRower_64 : decode cX11_newRower 64 = .ok (.iload_n 2, 1) := by decide +kernel
theorem dX11_newRower_65 : decode cX11_newRower 65 = .ok (.invokespecial 127, 3) := by decide +kernel
theorem dX11_newRower_68 : decode cX11_newRower 68 = .ok (.areturn, 1) := by decide +kernel
theorem dX11_newRower_69 : decode cX11_newRower 69 = .ok (.new 128, 3) := by decide +kernel
theorem dX11_newRower_72 : decode cX11_newRower 72 = .ok (.dup, 1) := by decide +kernel
theorem dX11_newRower_73 : decode cX11_newRower 73 = .ok (.iload_n 0, 1) := by decide +kernel
theorem dX11_newRower_74 : decode cX11_newRower 74 = .ok (.iload_n 1, 1) := by decide +kernel
theorem dX11_newRower_75 : decode cX11_newRower 75 = .ok (.iload_n 2, 1) := by decide +kernel
theorem dX11_newRower_76 : decode cX11_newRower 76 = .ok (.invokespecial 130, 3) := by decide +kernel
theorem dX11_newRower_79 : decode cX11_newRower 79 = .ok (.areturn, 1) := by decide +kernel
theorem dX11_newRower_80 : decode cX11_newRower 80 = .ok (.new 131, 3) := by decide +kernel
theorem dX11_newRower_83 : decode cX11_newRower 83 = .ok (.dup, 1) := by decide +kernel
theorem dX11_newRower_84 : decode cX11_newRower 84 = .ok (.iload_n 0, 1) := by decide +kernel
theorem dX11_newRower_85 : decode cX11_newRower 85 = .ok (.iload_n 1, 1) := by decide +kernel
theorem dX11_newRower_86 : decode cX11_newRower 86 = .ok (.iload_n 2, 1) := by decide +kernel
theorem dX11_newRower_87 : decode cX11_newRower 87 = .ok (.invokespecial 133, 3) := by decide +kernel
theorem dX11_newRower_90 : decode cX11_newRower 90 = .ok (.areturn, 1) := by decide +kernel
theorem dX11_newRower_91 : decode cX11_newRower 91 = .ok (.new 15, 3) := by decide +kernel
theorem dX11_newRower_94 : decode cX11_newRower 94 = .ok (.dup, 1) := by decide +kernel
theorem dX11_newRower_95 : decode cX11_newRower 95 = .ok (.iload_n 0, 1) := by decide +kernel
theorem dX11_newRower_96 : decode cX11_newRower 96 = .ok (.iload_n 1, 1) := by decide +kernel
theorem dX11_newRower_97 : decode cX11_newRower 97 = .ok (.iload_n 2, 1) := by decide +kernel
theorem dX11_newRower_98 : decode cX11_newRower 98 = .ok (.invokespecial 134, 3) := by decide +kernel
theorem dX11_newRower_101 : decode cX11_newRower 101 = .ok (.areturn, 1) := by decide +kernel
theorem dX11_ill_0 : decode cX11_ill 0 = .ok (.aload_n 0, 1) := by decide +kernel
theorem dX11_ill_1 : decode cX11_ill 1 = .ok (.iload_n 1, 1) := by decide +kernel
theorem dX11_ill_2 : decode cX11_ill 2 = .ok (.invokevirtual 106, 3) := by decide +kernel
theorem dX11_ill_5 : decode cX11_ill 5 = .ok (.astore_n 3, 1) := by decide +kernel
theorem dX11_ill_6 : decode cX11_ill 6 = .ok (.aload_n 3, 1) := by decide +kernel
theorem dX11_ill_7 : decode cX11_ill 7 = .ok (.ifnull 12, 3) := by decide +kernel
theorem dX11_ill_10 : decode cX11_ill 10 = .ok (.iload_n 2, 1) := by decide +kernel
theorem dX11_ill_11 : decode cX11_ill 11 = .ok (.iconst 0, 1) := by decide +kernel
theorem dX11_ill_12 : decode cX11_ill 12 = .ok (.iconst 1, 1) := by decide +kernel
theorem dX11_ill_13 : decode cX11_ill 13 = .ok (.invokestatic 66, 3) := by decide +kernel
theorem dX11_ill_16 : decode cX11_ill 16 = .ok (.ifCond .ne 6, 3) := by decide +kernel
theorem dX11_ill_19 : decode cX11_ill 19 = .ok (.bipush (-2), 2) := by decide +kernel
theorem dX11_ill_21 : decode cX11_ill 21 = .ok (.ireturn, 1) := by decide +kernel
theorem dX11_ill_22 : decode cX11_ill 22 = .ok (.aload_n 3, 1) := by decide +kernel
theorem dX11_ill_23 : decode cX11_ill 23 = .ok (.getfield 135, 3) := by decide +kernel
theorem dX11_ill_26 : decode cX11_ill 26 = .ok (.istore 4, 2) := by decide +kernel
theorem dX11_ill_28 : decode cX11_ill 28 = .ok (.aload_n 3, 1) := by decide +kernel
theorem dX11_ill_29 : decode cX11_ill 29 = .ok (.iload_n 2, 1) := by decide +kernel
theorem dX11_ill_30 : decode cX11_ill 30 = .ok (.putfield 135, 3) := by decide +kernel
theorem dX11_ill_33 : decode cX11_ill 33 = .ok (.iload 4, 2) := by decide +kernel
theorem dX11_ill_35 : decode cX11_ill 35 = .ok (.ireturn, 1) := by decide +kernel
theorem dX11_told_0 : decode cX11_told 0 = .ok (.aload_n 0, 1) := by decide +kernel
theorem dX11_told_1 : decode cX11_told 1 = .ok (.iload_n 1, 1) := by decide +kernel
theorem dX11_told_2 : decode cX11_told 2 = .ok (.invokevirtual 106, 3) := by decide +kernel
theorem dX11_told_5 : decode cX11_told 5 = .ok (.astore 4, 2) := by decide +kernel
theorem dX11_told_7 : decode cX11_told 7 = .ok (.aload 4, 2) := by decide +kernel
theorem dX11_told_9 : decode cX11_told 9 = .ok (.ifnull 10, 3) := by decide +kernel
theorem dX11_told_12 : decode cX11_told 12 = .ok (.iload_n 2, 1) := by decide +kernel
theorem dX11_told_13 : decode cX11_told 13 = .ok (.invokestatic 138, 3) := by decide +kernel
theorem dX11_told_16 : decode cX11_told 16 = .ok (.ifCond .ne 6, 3) := by decide +kernel
theorem dX11_told_19 : decode cX11_told 19 = .ok (.ldc 141, 2) := by decide +kernel
theorem dX11_told_21 : decode cX11_told 21 = .ok (.ireturn, 1) := by decide +kernel
theorem dX11_told_22 : decode cX11_told 22 = .ok (.iload_n 3, 1) := by decide +kernel
theorem dX11_told_23 : decode cX11_told 23 = .ok (.tableswitch 145 0 10 #[57, 63, 69, 75, 81, 87, 93, 99, 105, 120, 126], 57) := by decide +kernel
theorem dX11_told_80 : decode cX11_told 80 = .ok (.aload 4, 2) := by decide +kernel
theorem dX11_told_82 : decode cX11_told 82 = .ok (.getfield 142, 3) := by decide +kernel
theorem dX11_told_85 : decode cX11_told 85 = .ok (.ireturn, 1) := by decide +kernel
theorem dX11_told_86 : decode cX11_told 86 = .ok (.aload 4, 2) := by decide +kernel
theorem dX11_told_88 : decode cX11_told 88 = .ok (.getfield 145, 3) := by decide +kernel
theorem dX11_told_91 : decode cX11_told 91 = .ok (.ireturn, 1) := by decide +kernel
theorem dX11_told_92 : decode cX11_told 92 = .ok (.aload 4, 2) := by decide +kernel
theorem dX11_told_94 : decode cX11_told 94 = .ok (.getfield 148, 3) := by decide +kernel
theorem dX11_told_97 : decode cX11_told 97 = .ok (.ireturn, 1) := by decide +kernel
theorem dX11_told_98 : decode cX11_told 98 = .ok (.aload 4, 2) := by decide +kernel
theorem dX11_told_100 : decode cX11_told 100 = .ok (.getfield 151, 3) := by decide +kernel
theorem dX11_told_103 : decode cX11_told 103 = .ok (.ireturn, 1) := by decide +kernel
theorem dX11_told_104 : decode cX11_told 104 = .ok (.aload 4, 2) := by decide +kernel
theorem dX11_told_106 : decode cX11_told 106 = .ok (.getfield 154, 3) := by decide +kernel
theorem dX11_told_109 : decode cX11_told 109 = .ok (.ireturn, 1) := by decide +kernel
theorem dX11_told_110 : decode cX11_told 110 = .ok (.aload 4, 2) := by decide +kernel
theorem dX11_told_112 : decode cX11_told 112 = .ok (.getfield 135, 3) := by decide +kernel
theorem dX11_told_115 : decode cX11_told 115 = .ok (.ireturn, 1) := by decide +kernel
theorem dX11_told_116 : decode cX11_told 116 = .ok (.aload 4, 2) := by decide +kernel
theorem dX11_told_118 : decode cX11_told 118 = .ok (.getfield 157, 3) := by decide +kernel
theorem dX11_told_121 : decode cX11_told 121 = .ok (.ireturn, 1) := by decide +kernel
theorem dX11_told_122 : decode cX11_told 122 = .ok (.aload 4, 2) := by decide +kernel
theorem dX11_told_124 : decode cX11_told 124 = .ok (.invokevirtual 160, 3) := by decide +kernel
theorem dX11_told_127 : decode cX11_told 127 = .ok (.ireturn, 1) := by decide +kernel
theorem dX11_told_128 : decode cX11_told 128 = .ok (.aload 4, 2) := by decide +kernel
theorem dX11_told_130 : decode cX11_told 130 = .ok (.iload_n 2, 1) := by decide +kernel
theorem dX11_told_131 : decode cX11_told 131 = .ok (.invokevirtual 163, 3) := by decide +kernel
theorem dX11_told_134 : decode cX11_told 134 = .ok (.ifCond .eq 7, 3) := by decide +kernel
theorem dX11_told_137 : decode cX11_told 137 = .ok (.iconst 1, 1) := by decide +kernel
theorem dX11_told_138 : decode cX11_told 138 = .ok (.goto 4, 3) := by decide +kernel
theorem dX11_told_141 : decode cX11_told 141 = .ok (.iconst 0, 1) := by decide +kernel
theorem dX11_told_142 : decode cX11_told 142 = .ok (.ireturn, 1) := by decide +kernel
theorem dX11_told_143 : decode cX11_told 143 = .ok (.aload 4, 2) := by decide +kernel
theorem dX11_told_145 : decode cX11_told 145 = .ok (.invokevirtual 166, 3) := by decide +kernel
theorem dX11_told_148 : decode cX11_told 148 = .ok (.ireturn, 1) := by decide +kernel
theorem dX11_told_149 : decode cX11_told 149 = .ok (.aload_n 0, 1) := by decide +kernel
theorem dX11_told_150 : decode cX11_told 150 = .ok (.bipush 8, 2) := by decide +kernel
theorem dX11_told_152 : decode cX11_told 152 = .ok (.iconst 0, 1) := by decide +kernel
theorem dX11_told_153 : decode cX11_told 153 = .ok (.aload 4, 2) := by decide +kernel
theorem dX11_told_155 : decode cX11_told 155 = .ok (.getfield 145, 3) := by decide +kernel
theorem dX11_told_158 : decode cX11_told 158 = .ok (.iload_n 2, 1) := by decide +kernel
theorem dX11_told_159 : decode cX11_told 159 = .ok (.aload 4, 2) := by decide +kernel
theorem dX11_told_161 : decode cX11_told 161 = .ok (.getfield 157, 3) := by decide +kernel
theorem dX11_told_164 : decode cX11_told 164 = .ok (.invokevirtual 169, 3) := by decide +kernel
theorem dX11_told_167 : decode cX11_told 167 = .ok (.ireturn, 1) := by decide +kernel
theorem dX11_told_168 : decode cX11_told 168 = .ok (.ldc 141, 2) := by decide +kernel
theorem dX11_told_170 : decode cX11_told 170 = .ok (.ireturn, 1) := by decide +kernel
theorem dX11_feed_0 : decode cX11_feed 0 = .ok (.iload_n 1, 1) := by decide +kernel
theorem dX11_feed_1 : decode cX11_feed 1 = .ok (.iconst 1, 1) := by decide +kernel
theorem dX11_feed_2 : decode cX11_feed 2 = .ok (.bipush 8, 2) := by decide +kernel
theorem dX11_feed_4 : decode cX11_feed 4 = .ok (.invokestatic 66, 3) := by decide +kernel
theorem dX11_feed_7 : decode cX11_feed 7 = .ok (.ifCond .eq 15, 3) := by decide +kernel
theorem dX11_feed_10 : decode cX11_feed 10 = .ok (.aload_n 0, 1) := by decide +kernel
theorem dX11_feed_11 : decode cX11_feed 11 = .ok (.getfield 24, 3) := by decide +kernel
theorem dX11_feed_14 : decode cX11_feed 14 = .ok (.iload_n 1, 1) := by decide +kernel
theorem dX11_feed_15 : decode cX11_feed 15 = .ok (.lload_n 2, 1) := by decide +kernel
theorem dX11_feed_16 : decode cX11_feed 16 = .ok (.invokevirtual 173, 3) := by decide +kernel
theorem dX11_feed_19 : decode cX11_feed 19 = .ok (.goto 5, 3) := by decide +kernel
theorem dX11_feed_22 : decode cX11_feed 22 = .ok (.bipush (-2), 2) := by decide +kernel
theorem dX11_feed_24 : decode cX11_feed 24 = .ok (.ireturn, 1) := by decide +kernel
theorem dX11_text_0 : decode cX11_text 0 = .ok (.aload_n 0, 1) := by decide +kernel
theorem dX11_text_1 : decode cX11_text 1 = .ok (.getfield 24, 3) := by decide +kernel
theorem dX11_text_4 : decode cX11_text 4 = .ok (.invokevirtual 62, 3) := by decide +kernel
theorem dX11_text_7 : decode cX11_text 7 = .ok (.ireturn, 1) := by decide +kernel
theorem dX11_force_0 : decode cX11_force 0 = .ok (.iload_n 1, 1) := by decide +kernel
theorem dX11_force_1 : decode cX11_force 1 = .ok (.iconst 0, 1) := by decide +kernel
theorem dX11_force_2 : decode cX11_force 2 = .ok (.aload_n 0, 1) := by decide +kernel
theorem dX11_force_3 : decode cX11_force 3 = .ok (.getfield 24, 3) := by decide +kernel
theorem dX11_force_6 : decode cX11_force 6 = .ok (.getfield 177, 3) := by decide +kernel
theorem dX11_force_9 : decode cX11_force 9 = .ok (.iconst 1, 1) := by decide +kernel
theorem dX11_force_10 : decode cX11_force 10 = .ok (.isub, 1) := by decide +kernel
theorem dX11_force_11 : decode cX11_force 11 = .ok (.invokestatic 66, 3) := by decide +kernel
theorem dX11_force_14 : decode cX11_force 14 = .ok (.ifCond .ne 6, 3) := by decide +kernel
theorem dX11_force_17 : decode cX11_force 17 = .ok (.bipush (-2), 2) := by decide +kernel
theorem dX11_force_19 : decode cX11_force 19 = .ok (.ireturn, 1) := by decide +kernel
theorem dX11_force_20 : decode cX11_force 20 = .ok (.aload_n 0, 1) := by decide +kernel
theorem dX11_force_21 : decode cX11_force 21 = .ok (.getfield 24, 3) := by decide +kernel
theorem dX11_force_24 : decode cX11_force 24 = .ok (.getfield 180, 3) := by decide +kernel
theorem dX11_force_27 : decode cX11_force 27 = .ok (.istore_n 2, 1) := by decide +kernel
theorem dX11_force_28 : decode cX11_force 28 = .ok (.aload_n 0, 1) := by decide +kernel
theorem dX11_force_29 : decode cX11_force 29 = .ok (.getfield 24, 3) := by decide +kernel
theorem dX11_force_32 : decode cX11_force 32 = .ok (.iload_n 1, 1) := by decide +kernel
theorem dX11_force_33 : decode cX11_force 33 = .ok (.putfield 180, 3) := by decide +kernel
theorem dX11_force_36 : decode cX11_force 36 = .ok (.iload_n 2, 1) := by decide +kernel
theorem dX11_force_37 : decode cX11_force 37 = .ok (.ireturn, 1) := by decide +kernel
theorem dX11_load_0 : decode cX11_load 0 = .ok (.iload_n 2, 1) := by decide +kernel
theorem dX11_load_1 : decode cX11_load 1 = .ok (.iconst (-1), 1) := by decide +kernel
theorem dX11_load_2 : decode cX11_load 2 = .ok (.if_icmp .eq 7, 3) := by decide +kernel
theorem dX11_load_5 : decode cX11_load 5 = .ok (.iconst 1, 1) := by decide +kernel
theorem dX11_load_6 : decode cX11_load 6 = .ok (.goto 4, 3) := by decide +kernel
theorem dX11_load_9 : decode cX11_load 9 = .ok (.iconst 0, 1) := by decide +kernel
theorem dX11_load_10 : decode cX11_load 10 = .ok (.istore 4, 2) := by decide +kernel
theorem dX11_load_12 : decode cX11_load 12 = .ok (.aload_n 0, 1) := by decide +kernel
theorem dX11_load_13 : decode cX11_load 13 = .ok (.iload_n 2, 1) := by decide +kernel
theorem dX11_load_14 : decode cX11_load 14 = .ok (.invokevirtual 183, 3) := by decide +kernel
theorem dX11_load_17 : decode cX11_load 17 = .ok (.astore 5, 2) := by decide +kernel
theorem dX11_load_19 : decode cX11_load 19 = .ok (.aload_n 0, 1) := by decide +kernel
theorem dX11_load_20 : decode cX11_load 20 = .ok (.iload_n 2, 1) := by decide +kernel
theorem dX11_load_21 : decode cX11_load 21 = .ok (.invokevirtual 186, 3) := by decide +kernel
theorem dX11_load_24 : decode cX11_load 24 = .ok (.astore 6, 2) := by decide +kernel
theorem dX11_load_26 : decode cX11_load 26 = .ok (.iload_n 1, 1) := by decide +kernel
theorem dX11_load_27 : decode cX11_load 27 = .ok (.iconst 0, 1) := by decide +kernel
theorem dX11_load_28 : decode cX11_load 28 = .ok (.sipush 999, 3) := by decide +kernel
theorem dX11_load_31 : decode cX11_load 31 = .ok (.invokestatic 66, 3) := by decide +kernel
theorem dX11_load_34 : decode cX11_load 34 = .ok (.ifCond .eq 25, 3) := by decide +kernel
theorem dX11_load_37 : decode cX11_load 37 = .ok (.iload 4, 2) := by decide +kernel
theorem dX11_load_39 : decode cX11_load 39 = .ok (.ifCond .eq 13, 3) := by decide +kernel
theorem dX11_load_42 : decode cX11_load 42 = .ok (.aload 5, 2) := by decide +kernel
theorem dX11_load_44 : decode cX11_load 44 = .ok (.ifnull 15, 3) := by decide +kernel
theorem dX11_load_47 : decode cX11_load 47 = .ok (.aload 6, 2) := by decide +kernel
theorem dX11_load_49 : decode cX11_load 49 = .ok (.ifnull 10, 3) := by decide +kernel
theorem dX11_load_52 : decode cX11_load 52 = .ok (.iload_n 3, 1) := by decide +kernel
theorem dX11_load_53 : decode cX11_load 53 = .ok (.invokestatic 138, 3) := by decide +kernel
theorem dX11_load_56 : decode cX11_load 56 = .ok (.ifCond .ne 6, 3) := by decide +kernel
theorem dX11_load_59 : decode cX11_load 59 = .ok (.bipush (-2), 2) := by decide +kernel
theorem dX11_load_61 : decode cX11_load 61 = .ok (.ireturn, 1) := by decide +kernel
theorem dX11_load_62 : decode cX11_load 62 = .ok (.aload 5, 2) := by decide +kernel
theorem dX11_load_64 : decode cX11_load 64 = .ok (.ifnull 8, 3) := by decide +kernel
theorem dX11_load_67 : decode cX11_load 67 = .ok (.aload 6, 2) := by decide +kernel
theorem dX11_load_69 : decode cX11_load 69 = .ok (.ifnonnull 7, 3) := by decide +kernel
theorem dX11_load_72 : decode cX11_load 72 = .ok (.iconst 0, 1) := by decide +kernel
theorem dX11_load_73 : decode cX11_load 73 = .ok (.goto 16, 3) := by decide +kernel
theorem dX11_load_76 : decode cX11_load 76 = .ok (.aload 5, 2) := by decide +kernel
theorem dX11_load_78 : decode cX11_load 78 = .ok (.getfield 145, 3) := by decide +kernel
theorem dX11_load_81 : decode cX11_load 81 = .ok (.aload 6, 2) := by decide +kernel
theorem dX11_load_83 : decode cX11_load 83 = .ok (.getfield 145, 3) := by decide +kernel
theorem dX11_load_86 : decode cX11_load 86 = .ok (.invokestatic 189, 3) := by decide +kernel
theorem dX11_load_89 : decode cX11_load 89 = .ok (.istore 7, 2) := by decide +kernel
theorem dX11_load_91 : decode cX11_load 91 = .ok (.aload_n 0, 1) := by decide +kernel
theorem dX11_load_92 : decode cX11_load 92 = .ok (.bipush 6, 2) := by decide +kernel
theorem dX11_load_94 : decode cX11_load 94 = .ok (.iload_n 1, 1) := by decide +kernel
theorem dX11_load_95 : decode cX11_load 95 = .ok (.iload 7, 2) := by decide +kernel
theorem dX11_load_97 : decode cX11_load 97 = .ok (.iload_n 3, 1) := by decide +kernel
theorem dX11_load_98 : decode cX11_load 98 = .ok (.iconst 0, 1) := by decide +kernel
theorem dX11_load_99 : decode cX11_load 99 = .ok (.invokevirtual 169, 3) := by decide +kernel
theorem dX11_load_102 : decode cX11_load 102 = .ok (.istore 8, 2) := by decide +kernel
theorem dX11_load_104 : decode cX11_load 104 = .ok (.iconst 1, 1) := by decide +kernel
theorem dX11_load_105 : decode cX11_load 105 = .ok (.bipush 14, 2) := by decide +kernel
theorem dX11_load_107 : decode cX11_load 107 = .ok (.iload 8, 2) := by decide +kernel
theorem dX11_load_109 : decode cX11_load 109 = .ok (.invokestatic 194, 3) := by decide +kernel
theorem dX11_load_112 : decode cX11_load 112 = .ok (.invokestatic 189, 3) := by decide +kernel
theorem dX11_load_115 : decode cX11_load 115 = .ok (.ireturn, 1) := by decide +kernel
theorem dX11_takes_0 : decode cX11_takes 0 = .ok (.aload_n 0, 1) := by decide +kernel
theorem dX11_takes_1 : decode cX11_takes 1 = .ok (.iload_n 1, 1) := by decide +kernel
theorem dX11_takes_2 : decode cX11_takes 2 = .ok (.i2l, 1) := by decide +kernel
theorem dX11_takes_3 : decode cX11_takes 3 = .ok (.invokevirtual 87, 3) := by decide +kernel
theorem dX11_takes_6 : decode cX11_takes 6 = .ok (.astore_n 3, 1) := by decide +kernel
theorem dX11_takes_7 : decode cX11_takes 7 = .ok (.aload_n 0, 1) := by decide +kernel
theorem dX11_takes_8 : decode cX11_takes 8 = .ok (.iload_n 2, 1) := by decide +kernel
theorem dX11_takes_9 : decode cX11_takes 9 = .ok (.invokevirtual 183, 3) := by decide +kernel
theorem dX11_takes_12 : decode cX11_takes 12 = .ok (.astore 4, 2) := by decide +kernel
theorem dX11_takes_14 : decode cX11_takes 14 = .ok (.aload_n 0, 1) := by decide +kernel
theorem dX11_takes_15 : decode cX11_takes 15 = .ok (.iload_n 2, 1) := by decide +kernel
theorem dX11_takes_16 : decode cX11_takes 16 = .ok (.invokevirtual 186, 3) := by decide +kernel
theorem dX11_takes_19 : decode cX11_takes 19 = .ok (.astore 5, 2) := by decide +kernel
theorem dX11_takes_21 : decode cX11_takes 21 = .ok (.aload_n 3, 1) := by decide +kernel
theorem dX11_takes_22 : decode cX11_takes 22 = .ok (.ifnull 20, 3) := by decide +kernel
theorem dX11_takes_25 : decode cX11_takes 25 = .ok (.aload 4, 2) := by decide +kernel
theorem dX11_takes_27 : decode cX11_takes 27 = .ok (.ifnull 15, 3) := by decide +kernel
theorem dX11_takes_30 : decode cX11_takes 30 = .ok (.aload 5, 2) := by decide +kernel
theorem dX11_takes_32 : decode cX11_takes 32 = .ok (.ifnull 10, 3) := by decide +kernel
theorem dX11_takes_35 : decode cX11_takes 35 = .ok (.aload 4, 2) := by decide +kernel
theorem dX11_takes_37 : decode cX11_takes 37 = .ok (.aload 5, 2) := by decide +kernel
theorem dX11_takes_39 : decode cX11_takes 39 = .ok (.if_acmp .ne 6, 3) := by decide +kernel
theorem dX11_takes_42 : decode cX11_takes 42 = .ok (.bipush (-2), 2) := by decide +kernel
theorem dX11_takes_44 : decode cX11_takes 44 = .ok (.ireturn, 1) := by decide +kernel
theorem dX11_takes_45 : decode cX11_takes 45 = .ok (.aload_n 3, 1) := by decide +kernel
theorem dX11_takes_46 : decode cX11_takes 46 = .ok (.getfield 197, 3) := by decide +kernel
theorem dX11_takes_49 : decode cX11_takes 49 = .ok (.iconst 2, 1) := by decide +kernel
theorem dX11_takes_50 : decode cX11_takes 50 = .ok (.aload_n 0, 1) := by decide +kernel
theorem dX11_takes_51 : decode cX11_takes 51 = .ok (.getfield 103, 3) := by decide +kernel
theorem dX11_takes_54 : decode cX11_takes 54 = .ok (.imul, 1) := by decide +kernel
theorem dX11_takes_55 : decode cX11_takes 55 = .ok (.iadd, 1) := by decide +kernel
theorem dX11_takes_56 : decode cX11_takes 56 = .ok (.istore 6, 2) := by decide +kernel
theorem dX11_takes_58 : decode cX11_takes 58 = .ok (.aload 4, 2) := by decide +kernel
theorem dX11_takes_60 : decode cX11_takes 60 = .ok (.invokevirtual 160, 3) := by decide +kernel
theorem dX11_takes_63 : decode cX11_takes 63 = .ok (.aload 5, 2) := by decide +kernel
theorem dX11_takes_65 : decode cX11_takes 65 = .ok (.invokevirtual 160, 3) := by decide +kernel
theorem dX11_takes_68 : decode cX11_takes 68 = .ok (.iadd, 1) := by decide +kernel
theorem dX11_takes_69 : decode cX11_takes 69 = .ok (.istore 7, 2) := by decide +kernel
theorem dX11_takes_71 : decode cX11_takes 71 = .ok (.iload 7, 2) := by decide +kernel
theorem dX11_takes_73 : decode cX11_takes 73 = .ok (.iconst 1, 1) := by decide +kernel
theorem dX11_takes_74 : decode cX11_takes 74 = .ok (.if_icmp .ge 8, 3) := by decide +kernel
theorem dX11_takes_77 : decode cX11_takes 77 = .ok (.bipush (-2), 2) := by decide +kernel
theorem dX11_takes_79 : decode cX11_takes 79 = .ok (.goto 13, 3) := by decide +kernel
theorem dX11_takes_82 : decode cX11_takes 82 = .ok (.iload 6, 2) := by decide +kernel
theorem dX11_takes_84 : decode cX11_takes 84 = .ok (.iload 7, 2) := by decide +kernel
theorem dX11_takes_86 : decode cX11_takes 86 = .ok (.iadd, 1) := by decide +kernel
theorem dX11_takes_87 : decode cX11_takes 87 = .ok (.iconst 1, 1) := by decide +kernel
theorem dX11_takes_88 : decode cX11_takes 88 = .ok (.isub, 1) := by decide +kernel
theorem dX11_takes_89 : decode cX11_takes 89 = .ok (.iload 7, 2) := by decide +kernel
theorem dX11_takes_91 : decode cX11_takes 91 = .ok (.idiv, 1) := by decide +kernel
theorem dX11_takes_92 : decode cX11_takes 92 = .ok (.ireturn, 1) := by decide +kernel
theorem dX11_byRule_0 : decode cX11_byRule 0 = .ok (.aload_n 0, 1) := by decide +kernel
theorem dX11_byRule_1 : decode cX11_byRule 1 = .ok (.getfield 28, 3) := by decide +kernel
theorem dX11_byRule_4 : decode cX11_byRule 4 = .ok (.iconst 0, 1) := by decide +kernel
theorem dX11_byRule_5 : decode cX11_byRule 5 = .ok (.iload_n 2, 1) := by decide +kernel
theorem dX11_byRule_6 : decode cX11_byRule 6 = .ok (.iastore, 1) := by decide +kernel
theorem dX11_byRule_7 : decode cX11_byRule 7 = .ok (.aload_n 0, 1) := by decide +kernel
theorem dX11_byRule_8 : decode cX11_byRule 8 = .ok (.getfield 28, 3) := by decide +kernel
theorem dX11_byRule_11 : decode cX11_byRule 11 = .ok (.iconst 1, 1) := by decide +kernel
theorem dX11_byRule_12 : decode cX11_byRule 12 = .ok (.aload_n 0, 1) := by decide +kernel
theorem dX11_byRule_13 : decode cX11_byRule 13 = .ok (.getfield 100, 3) := by decide +kernel
theorem dX11_byRule_16 : decode cX11_byRule 16 = .ok (.iastore, 1) := by decide +kernel
theorem dX11_byRule_17 : decode cX11_byRule 17 = .ok (.aload_n 0, 1) := by decide +kernel
theorem dX11_byRule_18 : decode cX11_byRule 18 = .ok (.getfield 28, 3) := by decide +kernel
theorem dX11_byRule_21 : decode cX11_byRule 21 = .ok (.iconst 2, 1) := by decide +kernel
theorem dX11_byRule_22 : decode cX11_byRule 22 = .ok (.aload_n 0, 1) := by decide +kernel
theorem dX11_byRule_23 : decode cX11_byRule 23 = .ok (.getfield 103, 3) := by decide +kernel
theorem dX11_byRule_26 : decode cX11_byRule 26 = .ok (.iastore, 1) := by decide +kernel
theorem dX11_byRule_27 : decode cX11_byRule 27 = .ok (.aload_n 0, 1) := by decide +kernel
theorem dX11_byRule_28 : decode cX11_byRule 28 = .ok (.getfield 28, 3) := by decide +kernel
theorem dX11_byRule_31 : decode cX11_byRule 31 = .ok (.iconst 3, 1) := by decide +kernel
theorem dX11_byRule_32 : decode cX11_byRule 32 = .ok (.iload_n 3, 1) := by decide +kernel
theorem dX11_byRule_33 : decode cX11_byRule 33 = .ok (.iastore, 1) := by decide +kernel
theorem dX11_byRule_34 : decode cX11_byRule 34 = .ok (.aload_n 0, 1) := by decide +kernel
theorem dX11_byRule_35 : decode cX11_byRule 35 = .ok (.getfield 28, 3) := by decide +kernel
theorem dX11_byRule_38 : decode cX11_byRule 38 = .ok (.iconst 4, 1) := by decide +kernel
theorem dX11_byRule_39 : decode cX11_byRule 39 = .ok (.iload 4, 2) := by decide +kernel
theorem dX11_byRule_41 : decode cX11_byRule 41 = .ok (.iastore, 1) := by decide +kernel
theorem dX11_byRule_42 : decode cX11_byRule 42 = .ok (.aload_n 0, 1) := by decide +kernel
theorem dX11_byRule_43 : decode cX11_byRule 43 = .ok (.getfield 28, 3) := by decide +kernel
theorem dX11_byRule_46 : decode cX11_byRule 46 = .ok (.iconst 5, 1) := by decide +kernel
theorem dX11_byRule_47 : decode cX11_byRule 47 = .ok (.iload 5, 2) := by decide +kernel
theorem dX11_byRule_49 : decode cX11_byRule 49 = .ok (.iastore, 1) := by decide +kernel
theorem dX11_byRule_50 : decode cX11_byRule 50 = .ok (.aload_n 0, 1) := by decide +kernel
theorem dX11_byRule_51 : decode cX11_byRule 51 = .ok (.getfield 24, 3) := by decide +kernel
theorem dX11_byRule_54 : decode cX11_byRule 54 = .ok (.iload_n 1, 1) := by decide +kernel
theorem dX11_byRule_55 : decode cX11_byRule 55 = .ok (.bipush 6, 2) := by decide +kernel
theorem dX11_byRule_57 : decode cX11_byRule 57 = .ok (.isub, 1) := by decide +kernel
theorem dX11_byRule_58 : decode cX11_byRule 58 = .ok (.aload_n 0, 1) := by decide +kernel
theorem dX11_byRule_59 : decode cX11_byRule 59 = .ok (.getfield 28, 3) := by decide +kernel
theorem dX11_byRule_62 : decode cX11_byRule 62 = .ok (.invokevirtual 200, 3) := by decide +kernel
theorem dX11_byRule_65 : decode cX11_byRule 65 = .ok (.ireturn, 1) := by decide +kernel
theorem dX11_priceOf_0 : decode cX11_priceOf 0 = .ok (.iconst 0, 1) := by decide +kernel
theorem dX11_priceOf_1 : decode cX11_priceOf 1 = .ok (.bipush 99, 2) := by decide +kernel
theorem dX11_priceOf_3 : decode cX11_priceOf 3 = .ok (.aload_n 0, 1) := by decide +kernel
theorem dX11_priceOf_4 : decode cX11_priceOf 4 = .ok (.bipush 7, 2) := by decide +kernel
theorem dX11_priceOf_6 : decode cX11_priceOf 6 = .ok (.iload_n 1, 1) := by decide +kernel
theorem dX11_priceOf_7 : decode cX11_priceOf 7 = .ok (.iconst 0, 1) := by decide +kernel
theorem dX11_priceOf_8 : decode cX11_priceOf 8 = .ok (.iload_n 2, 1) := by decide +kernel
theorem dX11_priceOf_9 : decode cX11_priceOf 9 = .ok (.iconst 0, 1) := by decide +kernel
theorem dX11_priceOf_10 : decode cX11_priceOf 10 = .ok (.invokevirtual 169, 3) := by decide +kernel
theorem dX11_priceOf_13 : decode cX11_priceOf 13 = .ok (.invokestatic 194, 3) := by decide +kernel
theorem dX11_priceOf_16 : decode cX11_priceOf 16 = .ok (.invokestatic 189, 3) := by decide +kernel
theorem dX11_priceOf_19 : decode cX11_priceOf 19 = .ok (.ireturn, 1) := by decide +kernel
theorem dX11_waits_0 : decode cX11_waits 0 = .ok (.aload_n 0, 1) := by decide +kernel
theorem dX11_waits_1 : decode cX11_waits 1 = .ok (.iload_n 1, 1) := by decide +kernel
theorem dX11_waits_2 : decode cX11_waits 2 = .ok (.invokevirtual 204, 3) := by decide +kernel
theorem dX11_waits_5 : decode cX11_waits 5 = .ok (.astore 5, 2) := by decide +kernel
theorem dX11_waits_7 : decode cX11_waits 7 = .ok (.aload 5, 2) := by decide +kernel
theorem dX11_waits_9 : decode cX11_waits 9 = .ok (.ifnull 33, 3) := by decide +kernel
theorem dX11_waits_12 : decode cX11_waits 12 = .ok (.iload_n 2, 1) := by decide +kernel
theorem dX11_waits_13 : decode cX11_waits 13 = .ok (.iconst 1, 1) := by decide +kernel
theorem dX11_waits_14 : decode cX11_waits 14 = .ok (.bipush 9, 2) := by decide +kernel
theorem dX11_waits_16 : decode cX11_waits 16 = .ok (.invokestatic 66, 3) := by decide +kernel
theorem dX11_waits_19 : decode cX11_waits 19 = .ok (.ifCond .eq 23, 3) := by decide +kernel
theorem dX11_waits_22 : decode cX11_waits 22 = .ok (.iload_n 3, 1) := by decide +kernel
theorem dX11_waits_23 : decode cX11_waits 23 = .ok (.iconst 1, 1) := by decide +kernel
theorem dX11_waits_24 : decode cX11_waits 24 = .ok (.bipush 14, 2) := by decide +kernel
theorem dX11_waits_26 : decode cX11_waits 26 = .ok (.invokestatic 66, 3) := by decide +kernel
theorem dX11_waits_29 : decode cX11_waits 29 = .ok (.ifCond .eq 13, 3) := by decide +kernel
theorem dX11_waits_32 : decode cX11_waits 32 = .ok (.iload 4, 2) := by decide +kernel
theorem dX11_waits_34 : decode cX11_waits 34 = .ok (.iconst 0, 1) := by decide +kernel
theorem dX11_waits_35 : decode cX11_waits 35 = .ok (.iconst 1, 1) := by decide +kernel
theorem dX11_waits_36 : decode cX11_waits 36 = .ok (.invokestatic 66, 3) := by decide +kernel
theorem dX11_waits_39 : decode cX11_waits 39 = .ok (.ifCond .ne 6, 3) := by decide +kernel
theorem dX11_waits_42 : decode cX11_waits 42 = .ok (.bipush (-2), 2) := by decide +kernel
theorem dX11_waits_44 : decode cX11_waits 44 = .ok (.ireturn, 1) := by decide +kernel
theorem dX11_waits_45 : decode cX11_waits 45 = .ok (.aload 5, 2) := by decide +kernel
theorem dX11_waits_47 : decode cX11_waits 47 = .ok (.invokevirtual 208, 3) := by decide +kernel
theorem dX11_waits_50 : decode cX11_waits 50 = .ok (.ifCond .eq 6, 3) := by decide +kernel
theorem dX11_waits_53 : decode cX11_waits 53 = .ok (.bipush (-11), 2) := by decide +kernel
theorem dX11_waits_55 : decode cX11_waits 55 = .ok (.ireturn, 1) := by decide +kernel
theorem dX11_waits_56 : decode cX11_waits 56 = .ok (.aload_n 0, 1) := by decide +kernel
theorem dX11_waits_57 : decode cX11_waits 57 = .ok (.getfield 35, 3) := by decide +kernel
theorem dX11_waits_60 : decode cX11_waits 60 = .ok (.aload 5, 2) := by decide +kernel
theorem dX11_waits_62 : decode cX11_waits 62 = .ok (.invokevirtual 212, 3) := by decide +kernel
theorem dX11_waits_65 : decode cX11_waits 65 = .ok (.ifCond .ne 6, 3) := by decide +kernel
theorem dX11_waits_68 : decode cX11_waits 68 = .ok (.bipush (-2), 2) := by decide +kernel
theorem dX11_waits_70 : decode cX11_waits 70 = .ok (.ireturn, 1) := by decide +kernel
theorem dX11_waits_71 : decode cX11_waits 71 = .ok (.aload_n 0, 1) := by decide +kernel
theorem dX11_waits_72 : decode cX11_waits 72 = .ok (.getfield 35, 3) := by decide +kernel
theorem dX11_waits_75 : decode cX11_waits 75 = .ok (.iload_n 2, 1) := by decide +kernel
theorem dX11_waits_76 : decode cX11_waits 76 = .ok (.iload_n 3, 1) := by decide +kernel
theorem dX11_waits_77 : decode cX11_waits 77 = .ok (.invokevirtual 216, 3) := by decide +kernel
theorem dX11_waits_80 : decode cX11_waits 80 = .ok (.lstore 6, 2) := by decide +kernel
theorem dX11_waits_82 : decode cX11_waits 82 = .ok (.iload 4, 2) := by decide +kernel
theorem dX11_waits_84 : decode cX11_waits 84 = .ok (.ifCond .ne 11, 3) := by decide +kernel
theorem dX11_waits_87 : decode cX11_waits 87 = .ok (.lload 6, 2) := by decide +kernel
theorem dX11_waits_89 : decode cX11_waits 89 = .ok (.invokestatic 220, 3) := by decide +kernel
theorem dX11_waits_92 : decode cX11_waits 92 = .ok (.goto 8, 3) := by decide +kernel
theorem dX11_waits_95 : decode cX11_waits 95 = .ok (.lload 6, 2) := by decide +kernel
theorem dX11_waits_97 : decode cX11_waits 97 = .ok (.invokestatic 224, 3) := by decide +kernel
theorem dX11_waits_100 : decode cX11_waits 100 = .ok (.ireturn, 1) := by decide +kernel
theorem dX11_turn_0 : decode cX11_turn 0 = .ok (.aload_n 0, 1) := by decide +kernel
theorem dX11_turn_1 : decode cX11_turn 1 = .ok (.iload_n 1, 1) := by decide +kernel
theorem dX11_turn_2 : decode cX11_turn 2 = .ok (.i2l, 1) := by decide +kernel
theorem dX11_turn_3 : decode cX11_turn 3 = .ok (.invokevirtual 87, 3) := by decide +kernel
theorem dX11_turn_6 : decode cX11_turn 6 = .ok (.ifnull 19, 3) := by decide +kernel
theorem dX11_turn_9 : decode cX11_turn 9 = .ok (.iload_n 2, 1) := by decide +kernel
theorem dX11_turn_10 : decode cX11_turn 10 = .ok (.invokestatic 138, 3) := by decide +kernel
theorem dX11_turn_13 : decode cX11_turn 13 = .ok (.ifCond .eq 12, 3) := by decide +kernel
theorem dX11_turn_16 : decode cX11_turn 16 = .ok (.aload_n 0, 1) := by decide +kernel
theorem dX11_turn_17 : decode cX11_turn 17 = .ok (.iload_n 1, 1) := by decide +kernel
theorem dX11_turn_18 : decode cX11_turn 18 = .ok (.iload_n 2, 1) := by decide +kernel
theorem dX11_turn_19 : decode cX11_turn 19 = .ok (.invokevirtual 227, 3) := by decide +kernel
theorem dX11_turn_22 : decode cX11_turn 22 = .ok (.goto 5, 3) := by decide +kernel
theorem dX11_turn_25 : decode cX11_turn 25 = .ok (.bipush (-2), 2) := by decide +kernel
theorem dX11_turn_27 : decode cX11_turn 27 = .ok (.ireturn, 1) := by decide +kernel
theorem dX11_rowed_0 : decode cX11_rowed 0 = .ok (.aload_n 0, 1) := by decide +kernel
theorem dX11_rowed_1 : decode cX11_rowed 1 = .ok (.iload_n 1, 1) := by decide +kernel
theorem dX11_rowed_2 : decode cX11_rowed 2 = .ok (.iload_n 2, 1) := by decide +kernel
theorem dX11_rowed_3 : decode cX11_rowed 3 = .ok (.invokevirtual 230, 3) := by decide +kernel
theorem dX11_rowed_6 : decode cX11_rowed 6 = .ok (.istore_n 3, 1) := by decide +kernel
theorem dX11_rowed_7 : decode cX11_rowed 7 = .ok (.aload_n 0, 1) := by decide +kernel
theorem dX11_rowed_8 : decode cX11_rowed 8 = .ok (.iload_n 3, 1) := by decide +kernel
theorem dX11_rowed_9 : decode cX11_rowed 9 = .ok (.invokevirtual 233, 3) := by decide +kernel
theorem dX11_rowed_12 : decode cX11_rowed 12 = .ok (.iload_n 3, 1) := by decide +kernel
theorem dX11_rowed_13 : decode cX11_rowed 13 = .ok (.ireturn, 1) := by decide +kernel
theorem dX11_judge_0 : decode cX11_judge 0 = .ok (.aload_n 0, 1) := by decide +kernel
theorem dX11_judge_1 : decode cX11_judge 1 = .ok (.iload_n 2, 1) := by decide +kernel
theorem dX11_judge_2 : decode cX11_judge 2 = .ok (.invokevirtual 204, 3) := by decide +kernel
theorem dX11_judge_5 : decode cX11_judge 5 = .ok (.astore_n 3, 1) := by decide +kernel
theorem dX11_judge_6 : decode cX11_judge 6 = .ok (.aload_n 0, 1) := by decide +kernel
theorem dX11_judge_7 : decode cX11_judge 7 = .ok (.iload_n 1, 1) := by decide +kernel
theorem dX11_judge_8 : decode cX11_judge 8 = .ok (.i2l, 1) := by decide +kernel
theorem dX11_judge_9 : decode cX11_judge 9 = .ok (.invokevirtual 87, 3) := by decide +kernel
theorem dX11_judge_12 : decode cX11_judge 12 = .ok (.ifnull 7, 3) := by decide +kernel
theorem dX11_judge_15 : decode cX11_judge 15 = .ok (.aload_n 3, 1) := by decide +kernel
theorem dX11_judge_16 : decode cX11_judge 16 = .ok (.ifnonnull 6, 3) := by decide +kernel
theorem dX11_judge_19 : decode cX11_judge 19 = .ok (.bipush (-2), 2) := by decide +kernel
theorem dX11_judge_21 : decode cX11_judge 21 = .ok (.ireturn, 1) := by decide +kernel
theorem dX11_judge_22 : decode cX11_judge 22 = .ok (.aload_n 3, 1) := by decide +kernel
theorem dX11_judge_23 : decode cX11_judge 23 = .ok (.invokevirtual 208, 3) := by decide +kernel
theorem dX11_judge_26 : decode cX11_judge 26 = .ok (.ifCond .eq 6, 3) := by decide +kernel
theorem dX11_judge_29 : decode cX11_judge 29 = .ok (.bipush (-11), 2) := by decide +kernel
theorem dX11_judge_31 : decode cX11_judge 31 = .ok (.ireturn, 1) := by decide +kernel
theorem dX11_judge_32 : decode cX11_judge 32 = .ok (.aload_n 3, 1) := by decide +kernel
theorem dX11_judge_33 : decode cX11_judge 33 = .ok (.getfield 237, 3) := by decide +kernel
theorem dX11_judge_36 : decode cX11_judge 36 = .ok (.iconst 1, 1) := by decide +kernel
theorem dX11_judge_37 : decode cX11_judge 37 = .ok (.bipush 16, 2) := by decide +kernel
theorem dX11_judge_39 : decode cX11_judge 39 = .ok (.invokestatic 66, 3) := by decide +kernel
theorem dX11_judge_42 : decode cX11_judge 42 = .ok (.ifCond .ne 6, 3) := by decide +kernel
theorem dX11_judge_45 : decode cX11_judge 45 = .ok (.bipush (-2), 2) := by decide +kernel
theorem dX11_judge_47 : decode cX11_judge 47 = .ok (.ireturn, 1) := by decide +kernel
theorem dX11_judge_48 : decode cX11_judge 48 = .ok (.iconst 0, 1) := by decide +kernel
theorem dX11_judge_49 : decode cX11_judge 49 = .ok (.istore 4, 2) := by decide +kernel
theorem dX11_judge_51 : decode cX11_judge 51 = .ok (.iload 4, 2) := by decide +kernel
theorem dX11_judge_53 : decode cX11_judge 53 = .ok (.aload_n 0, 1) := by decide +kernel
theorem dX11_judge_54 : decode cX11_judge 54 = .ok (.getfield 110, 3) := by decide +kernel
theorem dX11_judge_57 : decode cX11_judge 57 = .ok (.if_icmp .ge 26, 3) := by decide +kernel
theorem dX11_judge_60 : decode cX11_judge 60 = .ok (.aload_n 0, 1) := by decide +kernel
theorem dX11_judge_61 : decode cX11_judge 61 = .ok (.getfield 52, 3) := by decide +kernel
theorem dX11_judge_64 : decode cX11_judge 64 = .ok (.iload 4, 2) := by decide +kernel
theorem dX11_judge_66 : decode cX11_judge 66 = .ok (.aload_n 0, 1) := by decide +kernel
theorem dX11_judge_67 : decode cX11_judge 67 = .ok (.getfield 17, 3) := by decide +kernel
theorem dX11_judge_70 : decode cX11_judge 70 = .ok (.iload 4, 2) := by decide +kernel
theorem dX11_judge_72 : decode cX11_judge 72 = .ok (.aaload, 1) := by decide +kernel
theorem dX11_judge_73 : decode cX11_judge 73 = .ok (.getfield 157, 3) := by decide +kernel
theorem dX11_judge_76 : decode cX11_judge 76 = .ok (.iastore, 1) := by decide +kernel
theorem dX11_judge_77 : decode cX11_judge 77 = .ok (.iinc 4 1, 3) := by decide +kernel
theorem dX11_judge_80 : decode cX11_judge 80 = .ok (.goto (-29), 3) := by decide +kernel
theorem dX11_judge_83 : decode cX11_judge 83 = .ok (.aload_n 0, 1) := by decide +kernel
theorem dX11_judge_84 : decode cX11_judge 84 = .ok (.iload_n 1, 1) := by decide +kernel
theorem dX11_judge_85 : decode cX11_judge 85 = .ok (.aload_n 3, 1) := by decide +kernel
theorem dX11_judge_86 : decode cX11_judge 86 = .ok (.invokevirtual 240, 3) := by decide +kernel
theorem dX11_judge_89 : decode cX11_judge 89 = .ok (.istore 4, 2) := by decide +kernel
theorem dX11_judge_91 : decode cX11_judge 91 = .ok (.iconst 0, 1) := by decide +kernel
theorem dX11_judge_92 : decode cX11_judge 92 = .ok (.istore 5, 2) := by decide +kernel
theorem dX11_judge_94 : decode cX11_judge 94 = .ok (.iload 5, 2) := by decide +kernel
theorem dX11_judge_96 : decode cX11_judge 96 = .ok (.aload_n 0, 1) := by decide +kernel
theorem dX11_judge_97 : decode cX11_judge 97 = .ok (.getfield 110, 3) := by decide +kernel
theorem dX11_judge_100 : decode cX11_judge 100 = .ok (.if_icmp .ge 26, 3) := by decide +kernel
theorem dX11_judge_103 : decode cX11_judge 103 = .ok (.aload_n 0, 1) := by decide +kernel
theorem dX11_judge_104 : decode cX11_judge 104 = .ok (.getfield 17, 3) := by decide +kernel
theorem dX11_judge_107 : decode cX11_judge 107 = .ok (.iload 5, 2) := by decide +kernel
theorem dX11_judge_109 : decode cX11_judge 109 = .ok (.aaload, 1) := by decide +kernel
theorem dX11_judge_110 : decode cX11_judge 110 = .ok (.aload_n 0, 1) := by decide +kernel
theorem dX11_judge_111 : decode cX11_judge 111 = .ok (.getfield 52, 3) := by decide +kernel
theorem dX11_judge_114 : decode cX11_judge 114 = .ok (.iload 5, 2) := by decide +kernel
theorem dX11_judge_116 : decode cX11_judge 116 = .ok (.iaload, 1) := by decide +kernel
theorem dX11_judge_117 : decode cX11_judge 117 = .ok (.putfield 157, 3) := by decide +kernel
theorem dX11_judge_120 : decode cX11_judge 120 = .ok (.iinc 5 1, 3) := by decide +kernel
theorem dX11_judge_123 : decode cX11_judge 123 = .ok (.goto (-29), 3) := by decide +kernel
theorem dX11_judge_126 : decode cX11_judge 126 = .ok (.iload 4, 2) := by decide +kernel
theorem dX11_judge_128 : decode cX11_judge 128 = .ok (.ireturn, 1) := by decide +kernel
theorem dX11_firstOther_0 : decode cX11_firstOther 0 = .ok (.iconst 0, 1) := by decide +kernel
theorem dX11_firstOther_1 : decode cX11_firstOther 1 = .ok (.istore_n 3, 1) := by decide +kernel
theorem dX11_firstOther_2 : decode cX11_firstOther 2 = .ok (.iload_n 3, 1) := by decide +kernel
theorem dX11_firstOther_3 : decode cX11_firstOther 3 = .ok (.aload_n 2, 1) := by decide +kernel
theorem dX11_firstOther_4 : decode cX11_firstOther 4 = .ok (.getfield 237, 3) := by decide +kernel
theorem dX11_firstOther_7 : decode cX11_firstOther 7 = .ok (.if_icmp .ge 41, 3) := by decide +kernel
theorem dX11_firstOther_10 : decode cX11_firstOther 10 = .ok (.aload_n 0, 1) := by decide +kernel
theorem dX11_firstOther_11 : decode cX11_firstOther 11 = .ok (.iload_n 1, 1) := by decide +kernel
theorem dX11_firstOther_12 : decode cX11_firstOther 12 = .ok (.bipush 6, 2) := by decide +kernel
theorem dX11_firstOther_14 : decode cX11_firstOther 14 = .ok (.iload_n 3, 1) := by decide +kernel
theorem dX11_firstOther_15 : decode cX11_firstOther 15 = .ok (.iadd, 1) := by decide +kernel
theorem dX11_firstOther_16 : decode cX11_firstOther 16 = .ok (.invokevirtual 227, 3) := by decide +kernel
theorem dX11_firstOther_19 : decode cX11_firstOther 19 = .ok (.istore 4, 2) := by decide +kernel
theorem dX11_firstOther_21 : decode cX11_firstOther 21 = .ok (.aload_n 2, 1) := by decide +kernel
theorem dX11_firstOther_22 : decode cX11_firstOther 22 = .ok (.iload_n 3, 1) := by decide +kernel
theorem dX11_firstOther_23 : decode cX11_firstOther 23 = .ok (.invokevirtual 244, 3) := by decide +kernel
theorem dX11_firstOther_26 : decode cX11_firstOther 26 = .ok (.iload 4, 2) := by decide +kernel
theorem dX11_firstOther_28 : decode cX11_firstOther 28 = .ok (.if_icmp .eq 8, 3) := by decide +kernel
theorem dX11_firstOther_31 : decode cX11_firstOther 31 = .ok (.bipush 6, 2) := by decide +kernel
theorem dX11_firstOther_33 : decode cX11_firstOther 33 = .ok (.iload_n 3, 1) := by decide +kernel
theorem dX11_firstOther_34 : decode cX11_firstOther 34 = .ok (.iadd, 1) := by decide +kernel
theorem dX11_firstOther_35 : decode cX11_firstOther 35 = .ok (.ireturn, 1) := by decide +kernel
theorem dX11_firstOther_36 : decode cX11_firstOther 36 = .ok (.aload_n 0, 1) := by decide +kernel
theorem dX11_firstOther_37 : decode cX11_firstOther 37 = .ok (.iload 4, 2) := by decide +kernel
theorem dX11_firstOther_39 : decode cX11_firstOther 39 = .ok (.invokevirtual 233, 3) := by decide +kernel
theorem dX11_firstOther_42 : decode cX11_firstOther 42 = .ok (.iinc 3 1, 3) := by decide +kernel
theorem dX11_firstOther_45 : decode cX11_firstOther 45 = .ok (.goto (-43), 3) := by decide +kernel
theorem dX11_firstOther_48 : decode cX11_firstOther 48 = .ok (.iconst (-1), 1) := by decide +kernel
theorem dX11_firstOther_49 : decode cX11_firstOther 49 = .ok (.ireturn, 1) := by decide +kernel
theorem dX11_dueTwo_0 : decode cX11_dueTwo 0 = .ok (.iconst (-1), 1) := by decide +kernel
theorem dX11_dueTwo_1 : decode cX11_dueTwo 1 = .ok (.istore_n 3, 1) := by decide +kernel
theorem dX11_dueTwo_2 : decode cX11_dueTwo 2 = .ok (.iconst (-1), 1) := by decide +kernel
theorem dX11_dueTwo_3 : decode cX11_dueTwo 3 = .ok (.istore 4, 2) := by decide +kernel
theorem dX11_dueTwo_5 : decode cX11_dueTwo 5 = .ok (.iconst 0, 1) := by decide +kernel
theorem dX11_dueTwo_6 : decode cX11_dueTwo 6 = .ok (.istore 5, 2) := by decide +kernel
theorem dX11_dueTwo_8 : decode cX11_dueTwo 8 = .ok (.iconst 0, 1) := by decide +kernel
theorem dX11_dueTwo_9 : decode cX11_dueTwo 9 = .ok (.istore 6, 2) := by decide +kernel
theorem dX11_dueTwo_11 : decode cX11_dueTwo 11 = .ok (.iconst 0, 1) := by decide +kernel
theorem dX11_dueTwo_12 : decode cX11_dueTwo 12 = .ok (.istore 7, 2) := by decide +kernel
theorem dX11_dueTwo_14 : decode cX11_dueTwo 14 = .ok (.iload 7, 2) := by decide +kernel
theorem dX11_dueTwo_16 : decode cX11_dueTwo 16 = .ok (.aload_n 0, 1) := by decide +kernel
theorem dX11_dueTwo_17 : decode cX11_dueTwo 17 = .ok (.getfield 110, 3) := by decide +kernel
theorem dX11_dueTwo_20 : decode cX11_dueTwo 20 = .ok (.if_icmp .ge 109, 3) := by decide +kernel
theorem dX11_dueTwo_23 : decode cX11_dueTwo 23 = .ok (.aload_n 0, 1) := by decide +kernel
theorem dX11_dueTwo_24 : decode cX11_dueTwo 24 = .ok (.getfield 17, 3) := by decide +kernel
theorem dX11_dueTwo_27 : decode cX11_dueTwo 27 = .ok (.iload 7, 2) := by decide +kernel
theorem dX11_dueTwo_29 : decode cX11_dueTwo 29 = .ok (.aaload, 1) := by decide +kernel
theorem dX11_dueTwo_30 : decode cX11_dueTwo 30 = .ok (.astore 8, 2) := by decide +kernel
theorem dX11_dueTwo_32 : decode cX11_dueTwo 32 = .ok (.aload 8, 2) := by decide +kernel
theorem dX11_dueTwo_34 : decode cX11_dueTwo 34 = .ok (.iload_n 1, 1) := by decide +kernel
theorem dX11_dueTwo_35 : decode cX11_dueTwo 35 = .ok (.invokevirtual 247, 3) := by decide +kernel
theorem dX11_dueTwo_38 : decode cX11_dueTwo 38 = .ok (.ifCond .eq 85, 3) := by decide +kernel
theorem dX11_dueTwo_41 : decode cX11_dueTwo 41 = .ok (.aload 8, 2) := by decide +kernel
theorem dX11_dueTwo_43 : decode cX11_dueTwo 43 = .ok (.iload_n 2, 1) := by decide +kernel
theorem dX11_dueTwo_44 : decode cX11_dueTwo 44 = .ok (.invokevirtual 163, 3) := by decide +kernel
theorem dX11_dueTwo_47 : decode cX11_dueTwo 47 = .ok (.ifCond .ne 6, 3) := by decide +kernel
theorem dX11_dueTwo_50 : decode cX11_dueTwo 50 = .ok (.goto 73, 3) := by decide +kernel
theorem dX11_dueTwo_53 : decode cX11_dueTwo 53 = .ok (.aload_n 0, 1) := by decide +kernel
theorem dX11_dueTwo_54 : decode cX11_dueTwo 54 = .ok (.bipush 8, 2) := by decide +kernel
theorem dX11_dueTwo_56 : decode cX11_dueTwo 56 = .ok (.iconst 0, 1) := by decide +kernel
theorem dX11_dueTwo_57 : decode cX11_dueTwo 57 = .ok (.aload 8, 2) := by decide +kernel
theorem dX11_dueTwo_59 : decode cX11_dueTwo 59 = .ok (.getfield 145, 3) := by decide +kernel
theorem dX11_dueTwo_62 : decode cX11_dueTwo 62 = .ok (.iload_n 2, 1) := by decide +kernel
theorem dX11_dueTwo_63 : decode cX11_dueTwo 63 = .ok (.aload 8, 2) := by decide +kernel
theorem dX11_dueTwo_65 : decode cX11_dueTwo 65 = .ok (.getfield 157, 3) := by decide +kernel
theorem dX11_dueTwo_68 : decode cX11_dueTwo 68 = .ok (.invokevirtual 169, 3) := by decide +kernel
theorem dX11_dueTwo_71 : decode cX11_dueTwo 71 = .ok (.istore 9, 2) := by decide +kernel
theorem dX11_dueTwo_73 : decode cX11_dueTwo 73 = .ok (.iload_n 3, 1) := by decide +kernel
theorem dX11_dueTwo_74 : decode cX11_dueTwo 74 = .ok (.iconst (-1), 1) := by decide +kernel
theorem dX11_dueTwo_75 : decode cX11_dueTwo 75 = .ok (.if_icmp .eq 10, 3) := by decide +kernel
theorem dX11_dueTwo_78 : decode cX11_dueTwo 78 = .ok (.iload 9, 2) := by decide +kernel
theorem dX11_dueTwo_80 : decode cX11_dueTwo 80 = .ok (.iload 5, 2) := by decide +kernel
theorem dX11_dueTwo_82 : decode cX11_dueTwo 82 = .ok (.if_icmp .le 20, 3) := by decide +kernel
theorem dX11_dueTwo_85 : decode cX11_dueTwo 85 = .ok (.iload_n 3, 1) := by decide +kernel
theorem dX11_dueTwo_86 : decode cX11_dueTwo 86 = .ok (.istore 4, 2) := by decide +kernel
theorem dX11_dueTwo_88 : decode cX11_dueTwo 88 = .ok (.iload 5, 2) := by decide +kernel
theorem dX11_dueTwo_90 : decode cX11_dueTwo 90 = .ok (.istore 6, 2) := by decide +kernel
theorem dX11_dueTwo_92 : decode cX11_dueTwo 92 = .ok (.iload 7, 2) := by decide +kernel
theorem dX11_dueTwo_94 : decode cX11_dueTwo 94 = .ok (.istore_n 3, 1) := by decide +kernel
theorem dX11_dueTwo_95 : decode cX11_dueTwo 95 = .ok (.iload 9, 2) := by decide +kernel
theorem dX11_dueTwo_97 : decode cX11_dueTwo 97 = .ok (.istore 5, 2) := by decide +kernel
theorem dX11_dueTwo_99 : decode cX11_dueTwo 99 = .ok (.goto 24, 3) := by decide +kernel
theorem dX11_dueTwo_102 : decode cX11_dueTwo 102 = .ok (.iload 4, 2) := by decide +kernel
theorem dX11_dueTwo_104 : decode cX11_dueTwo 104 = .ok (.iconst (-1), 1) := by decide +kernel
theorem dX11_dueTwo_105 : decode cX11_dueTwo 105 = .ok (.if_icmp .eq 10, 3) := by decide +kernel
theorem dX11_dueTwo_108 : decode cX11_dueTwo 108 = .ok (.iload 9, 2) := by decide +kernel
theorem dX11_dueTwo_110 : decode cX11_dueTwo 110 = .ok (.iload 6, 2) := by decide +kernel
theorem dX11_dueTwo_112 : decode cX11_dueTwo 112 = .ok (.if_icmp .le 11, 3) := by decide +kernel
theorem dX11_dueTwo_115 : decode cX11_dueTwo 115 = .ok (.iload 7, 2) := by decide +kernel
theorem dX11_dueTwo_117 : decode cX11_dueTwo 117 = .ok (.istore 4, 2) := by decide +kernel
theorem dX11_dueTwo_119 : decode cX11_dueTwo 119 = .ok (.iload 9, 2) := by decide +kernel
theorem dX11_dueTwo_121 : decode cX11_dueTwo 121 = .ok (.istore 6, 2) := by decide +kernel
theorem dX11_dueTwo_123 : decode cX11_dueTwo 123 = .ok (.iinc 7 1, 3) := by decide +kernel
theorem dX11_dueTwo_126 : decode cX11_dueTwo 126 = .ok (.goto (-112), 3) := by decide +kernel
theorem dX11_dueTwo_129 : decode cX11_dueTwo 129 = .ok (.iload 4, 2) := by decide +kernel
theorem dX11_dueTwo_131 : decode cX11_dueTwo 131 = .ok (.iconst (-1), 1) := by decide +kernel
theorem dX11_dueTwo_132 : decode cX11_dueTwo 132 = .ok (.if_icmp .ne 7, 3) := by decide +kernel
theorem dX11_dueTwo_135 : decode cX11_dueTwo 135 = .ok (.iconst (-1), 1) := by decide +kernel
theorem dX11_dueTwo_136 : decode cX11_dueTwo 136 = .ok (.goto 19, 3) := by decide +kernel
theorem dX11_dueTwo_139 : decode cX11_dueTwo 139 = .ok (.bipush 20, 2) := by decide +kernel
theorem dX11_dueTwo_141 : decode cX11_dueTwo 141 = .ok (.iload_n 3, 1) := by decide +kernel
theorem dX11_dueTwo_142 : decode cX11_dueTwo 142 = .ok (.iload 4, 2) := by decide +kernel
theorem dX11_dueTwo_144 : decode cX11_dueTwo 144 = .ok (.invokestatic 194, 3) := by decide +kernel
theorem dX11_dueTwo_147 : decode cX11_dueTwo 147 = .ok (.imul, 1) := by decide +kernel
theorem dX11_dueTwo_148 : decode cX11_dueTwo 148 = .ok (.iload_n 3, 1) := by decide +kernel
theorem dX11_dueTwo_149 : decode cX11_dueTwo 149 = .ok (.iload 4, 2) := by decide +kernel
theorem dX11_dueTwo_151 : decode cX11_dueTwo 151 = .ok (.invokestatic 189, 3) := by decide +kernel
theorem dX11_dueTwo_154 : decode cX11_dueTwo 154 = .ok (.iadd, 1) := by decide +kernel
theorem dX11_dueTwo_155 : decode cX11_dueTwo 155 = .ok (.ireturn, 1) := by decide +kernel
theorem dX11_oneMore_0 : decode cX11_oneMore 0 = .ok (.aload_n 0, 1) := by decide +kernel
theorem dX11_oneMore_1 : decode cX11_oneMore 1 = .ok (.iload_n 1, 1) := by decide +kernel
theorem dX11_oneMore_2 : decode cX11_oneMore 2 = .ok (.invokevirtual 183, 3) := by decide +kernel
theorem dX11_oneMore_5 : decode cX11_oneMore 5 = .ok (.astore_n 2, 1) := by decide +kernel
theorem dX11_oneMore_6 : decode cX11_oneMore 6 = .ok (.aload_n 0, 1) := by decide +kernel
theorem dX11_oneMore_7 : decode cX11_oneMore 7 = .ok (.iload_n 1, 1) := by decide +kernel
theorem dX11_oneMore_8 : decode cX11_oneMore 8 = .ok (.invokevirtual 186, 3) := by decide +kernel
theorem dX11_oneMore_11 : decode cX11_oneMore 11 = .ok (.astore_n 3, 1) := by decide +kernel
theorem dX11_oneMore_12 : decode cX11_oneMore 12 = .ok (.aload_n 2, 1) := by decide +kernel
theorem dX11_oneMore_13 : decode cX11_oneMore 13 = .ok (.ifnull 27, 3) := by decide +kernel
theorem dX11_oneMore_16 : decode cX11_oneMore 16 = .ok (.aload_n 3, 1) := by decide +kernel
theorem dX11_oneMore_17 : decode cX11_oneMore 17 = .ok (.ifnull 23, 3) := by decide +kernel
theorem dX11_oneMore_20 : decode cX11_oneMore 20 = .ok (.aload_n 2, 1) := by decide +kernel
theorem dX11_oneMore_21 : decode cX11_oneMore 21 = .ok (.dup, 1) := by decide +kernel
theorem dX11_oneMore_22 : decode cX11_oneMore 22 = .ok (.getfield 157, 3) := by decide +kernel
theorem dX11_oneMore_25 : decode cX11_oneMore 25 = .ok (.iconst 1, 1) := by decide +kernel
theorem dX11_oneMore_26 : decode cX11_oneMore 26 = .ok (.iadd, 1) := by decide +kernel
theorem dX11_oneMore_27 : decode cX11_oneMore 27 = .ok (.putfield 157, 3) := by decide +kernel
theorem dX11_oneMore_30 : decode cX11_oneMore 30 = .ok (.aload_n 3, 1) := by decide +kernel
theorem dX11_oneMore_31 : decode cX11_oneMore 31 = .ok (.dup, 1) := by decide +kernel
theorem dX11_oneMore_32 : decode cX11_oneMore 32 = .ok (.getfield 157, 3) := by decide +kernel
theorem dX11_oneMore_35 : decode cX11_oneMore 35 = .ok (.iconst 1, 1) := by decide +kernel
theorem dX11_oneMore_36 : decode cX11_oneMore 36 = .ok (.iadd, 1) := by decide +kernel
theorem dX11_oneMore_37 : decode cX11_oneMore 37 = .ok (.putfield 157, 3) := by decide +kernel
theorem dX11_oneMore_40 : decode cX11_oneMore 40 = .ok (.return_, 1) := by decide +kernel
theorem dX11_heir_0 : decode cX11_heir 0 = .ok (.aload_n 0, 1) := by decide +kernel
theorem dX11_heir_1 : decode cX11_heir 1 = .ok (.iload_n 1, 1) := by decide +kernel
theorem dX11_heir_2 : decode cX11_heir 2 = .ok (.invokevirtual 106, 3) := by decide +kernel
theorem dX11_heir_5 : decode cX11_heir 5 = .ok (.astore_n 3, 1) := by decide +kernel
theorem dX11_heir_6 : decode cX11_heir 6 = .ok (.aload_n 3, 1) := by decide +kernel
theorem dX11_heir_7 : decode cX11_heir 7 = .ok (.ifnonnull 6, 3) := by decide +kernel
theorem dX11_heir_10 : decode cX11_heir 10 = .ok (.bipush (-2), 2) := by decide +kernel
theorem dX11_heir_12 : decode cX11_heir 12 = .ok (.ireturn, 1) := by decide +kernel
theorem dX11_heir_13 : decode cX11_heir 13 = .ok (.iload_n 2, 1) := by decide +kernel
theorem dX11_heir_14 : decode cX11_heir 14 = .ok (.tableswitch 48 1 3 #[26, 32, 38], 26) := by decide +kernel
theorem dX11_heir_40 : decode cX11_heir 40 = .ok (.aload_n 0, 1) := by decide +kernel
theorem dX11_heir_41 : decode cX11_heir 41 = .ok (.iload_n 1, 1) := by decide +kernel
theorem dX11_heir_42 : decode cX11_heir 42 = .ok (.invokevirtual 250, 3) := by decide +kernel
theorem dX11_heir_45 : decode cX11_heir 45 = .ok (.ireturn, 1) := by decide +kernel
theorem dX11_heir_46 : decode cX11_heir 46 = .ok (.aload_n 0, 1) := by decide +kernel
theorem dX11_heir_47 : decode cX11_heir 47 = .ok (.iload_n 1, 1) := by decide +kernel
theorem dX11_heir_48 : decode cX11_heir 48 = .ok (.invokevirtual 253, 3) := by decide +kernel
theorem dX11_heir_51 : decode cX11_heir 51 = .ok (.ireturn, 1) := by decide +kernel
theorem dX11_heir_52 : decode cX11_heir 52 = .ok (.aload_n 0, 1) := by decide +kernel
theorem dX11_heir_53 : decode cX11_heir 53 = .ok (.iload_n 1, 1) := by decide +kernel
theorem dX11_heir_54 : decode cX11_heir 54 = .ok (.aload_n 3, 1) := by decide +kernel
theorem dX11_heir_55 : decode cX11_heir 55 = .ok (.getfield 151, 3) := by decide +kernel
theorem dX11_heir_58 : decode cX11_heir 58 = .ok (.invokevirtual 256, 3) := by decide +kernel
theorem dX11_heir_61 : decode cX11_heir 61 = .ok (.ireturn, 1) := by decide +kernel
theorem dX11_heir_62 : decode cX11_heir 62 = .ok (.bipush (-2), 2) := by decide +kernel
theorem dX11_heir_64 : decode cX11_heir 64 = .ok (.ireturn, 1) := by decide +kernel
theorem dX11_eldestSon_0 : decode cX11_eldestSon 0 = .ok (.iconst (-1), 1) := by decide +kernel
theorem dX11_eldestSon_1 : decode cX11_eldestSon 1 = .ok (.istore_n 2, 1) := by decide +kernel
theorem dX11_eldestSon_2 : decode cX11_eldestSon 2 = .ok (.iconst 0, 1) := by decide +kernel
theorem dX11_eldestSon_3 : decode cX11_eldestSon 3 = .ok (.istore_n 3, 1) := by decide +kernel
theorem dX11_eldestSon_4 : decode cX11_eldestSon 4 = .ok (.iconst 0, 1) := by decide +kernel
theorem dX11_eldestSon_5 : decode cX11_eldestSon 5 = .ok (.istore 4, 2) := by decide +kernel
theorem dX11_eldestSon_7 : decode cX11_eldestSon 7 = .ok (.iload 4, 2) := by decide +kernel
theorem dX11_eldestSon_9 : decode cX11_eldestSon 9 = .ok (.aload_n 0, 1) := by decide +kernel
theorem dX11_eldestSon_10 : decode cX11_eldestSon 10 = .ok (.getfield 110, 3) := by decide +kernel
theorem dX11_eldestSon_13 : decode cX11_eldestSon 13 = .ok (.if_icmp .ge 58, 3) := by decide +kernel
theorem dX11_eldestSon_16 : decode cX11_eldestSon 16 = .ok (.aload_n 0, 1) := by decide +kernel
theorem dX11_eldestSon_17 : decode cX11_eldestSon 17 = .ok (.getfield 17, 3) := by decide +kernel
theorem dX11_eldestSon_20 : decode cX11_eldestSon 20 = .ok (.iload 4, 2) := by decide +kernel
theorem dX11_eldestSon_22 : decode cX11_eldestSon 22 = .ok (.aaload, 1) := by decide +kernel
theorem dX11_eldestSon_23 : decode cX11_eldestSon 23 = .ok (.astore 5, 2) := by decide +kernel
theorem dX11_eldestSon_25 : decode cX11_eldestSon 25 = .ok (.aload 5, 2) := by decide +kernel
theorem dX11_eldestSon_27 : decode cX11_eldestSon 27 = .ok (.getfield 154, 3) := by decide +kernel
theorem dX11_eldestSon_30 : decode cX11_eldestSon 30 = .ok (.iload_n 1, 1) := by decide +kernel
theorem dX11_eldestSon_31 : decode cX11_eldestSon 31 = .ok (.if_icmp .ne 34, 3) := by decide +kernel
theorem dX11_eldestSon_34 : decode cX11_eldestSon 34 = .ok (.aload 5, 2) := by decide +kernel
theorem dX11_eldestSon_36 : decode cX11_eldestSon 36 = .ok (.instanceof 117, 3) := by decide +kernel
theorem dX11_eldestSon_39 : decode cX11_eldestSon 39 = .ok (.ifCond .eq 26, 3) := by decide +kernel
theorem dX11_eldestSon_42 : decode cX11_eldestSon 42 = .ok (.iload_n 2, 1) := by decide +kernel
theorem dX11_eldestSon_43 : decode cX11_eldestSon 43 = .ok (.iconst (-1), 1) := by decide +kernel
theorem dX11_eldestSon_44 : decode cX11_eldestSon 44 = .ok (.if_icmp .eq 12, 3) := by decide +kernel
theorem dX11_eldestSon_47 : decode cX11_eldestSon 47 = .ok (.aload 5, 2) := by decide +kernel
theorem dX11_eldestSon_49 : decode cX11_eldestSon 49 = .ok (.getfield 145, 3) := by decide +kernel
theorem dX11_eldestSon_52 : decode cX11_eldestSon 52 = .ok (.iload_n 3, 1) := by decide +kernel
theorem dX11_eldestSon_53 : decode cX11_eldestSon 53 = .ok (.if_icmp .le 12, 3) := by decide +kernel
theorem dX11_eldestSon_56 : decode cX11_eldestSon 56 = .ok (.iload 4, 2) := by decide +kernel
theorem dX11_eldestSon_58 : decode cX11_eldestSon 58 = .ok (.istore_n 2, 1) := by decide +kernel
theorem dX11_eldestSon_59 : decode cX11_eldestSon 59 = .ok (.aload 5, 2) := by decide +kernel
theorem dX11_eldestSon_61 : decode cX11_eldestSon 61 = .ok (.getfield 145, 3) := by decide +kernel
theorem dX11_eldestSon_64 : decode cX11_eldestSon 64 = .ok (.istore_n 3, 1) := by decide +kernel
theorem dX11_eldestSon_65 : decode cX11_eldestSon 65 = .ok (.iinc 4 1, 3) := by decide +kernel
theorem dX11_eldestSon_68 : decode cX11_eldestSon 68 = .ok (.goto (-61), 3) := by decide +kernel
theorem dX11_eldestSon_71 : decode cX11_eldestSon 71 = .ok (.iload_n 2, 1) := by decide +kernel
theorem dX11_eldestSon_72 : decode cX11_eldestSon 72 = .ok (.ireturn, 1) := by decide +kernel
theorem dX11_firstOfBlood_0 : decode cX11_firstOfBlood 0 = .ok (.iconst 0, 1) := by decide +kernel
theorem dX11_firstOfBlood_1 : decode cX11_firstOfBlood 1 = .ok (.istore_n 2, 1) := by decide +kernel
theorem dX11_firstOfBlood_2 : decode cX11_firstOfBlood 2 = .ok (.iload_n 2, 1) := by decide +kernel
theorem dX11_firstOfBlood_3 : decode cX11_firstOfBlood 3 = .ok (.aload_n 0, 1) := by decide +kernel
theorem dX11_firstOfBlood_4 : decode cX11_firstOfBlood 4 = .ok (.getfield 110, 3) := by decide +kernel
theorem dX11_firstOfBlood_7 : decode cX11_firstOfBlood 7 = .ok (.if_icmp .ge 69, 3) := by decide +kernel
theorem dX11_firstOfBlood_10 : decode cX11_firstOfBlood 10 = .ok (.aload_n 0, 1) := by decide +kernel
theorem dX11_firstOfBlood_11 : decode cX11_firstOfBlood 11 = .ok (.getfield 17, 3) := by decide +kernel
theorem dX11_firstOfBlood_14 : decode cX11_firstOfBlood 14 = .ok (.iload_n 2, 1) := by decide +kernel
theorem dX11_firstOfBlood_15 : decode cX11_firstOfBlood 15 = .ok (.aaload, 1) := by decide +kernel
theorem dX11_firstOfBlood_16 : decode cX11_firstOfBlood 16 = .ok (.astore_n 3, 1) := by decide +kernel
theorem dX11_firstOfBlood_17 : decode cX11_firstOfBlood 17 = .ok (.aload_n 0, 1) := by decide +kernel
theorem dX11_firstOfBlood_18 : decode cX11_firstOfBlood 18 = .ok (.aload_n 3, 1) := by decide +kernel
theorem dX11_firstOfBlood_19 : decode cX11_firstOfBlood 19 = .ok (.getfield 154, 3) := by decide +kernel
theorem dX11_firstOfBlood_22 : decode cX11_firstOfBlood 22 = .ok (.invokevirtual 106, 3) := by decide +kernel
theorem dX11_firstOfBlood_25 : decode cX11_firstOfBlood 25 = .ok (.astore 4, 2) := by decide +kernel
theorem dX11_firstOfBlood_27 : decode cX11_firstOfBlood 27 = .ok (.aload_n 3, 1) := by decide +kernel
theorem dX11_firstOfBlood_28 : decode cX11_firstOfBlood 28 = .ok (.getfield 154, 3) := by decide +kernel
theorem dX11_firstOfBlood_31 : decode cX11_firstOfBlood 31 = .ok (.iload_n 1, 1) := by decide +kernel
theorem dX11_firstOfBlood_32 : decode cX11_firstOfBlood 32 = .ok (.if_icmp .eq 17, 3) := by decide +kernel
theorem dX11_firstOfBlood_35 : decode cX11_firstOfBlood 35 = .ok (.aload 4, 2) := by decide +kernel
theorem dX11_firstOfBlood_37 : decode cX11_firstOfBlood 37 = .ok (.ifnull 16, 3) := by decide +kernel
theorem dX11_firstOfBlood_40 : decode cX11_firstOfBlood 40 = .ok (.aload 4, 2) := by decide +kernel
theorem dX11_firstOfBlood_42 : decode cX11_firstOfBlood 42 = .ok (.getfield 154, 3) := by decide +kernel
theorem dX11_firstOfBlood_45 : decode cX11_firstOfBlood 45 = .ok (.iload_n 1, 1) := by decide +kernel
theorem dX11_firstOfBlood_46 : decode cX11_firstOfBlood 46 = .ok (.if_icmp .ne 7, 3) := by decide +kernel
theorem dX11_firstOfBlood_49 : decode cX11_firstOfBlood 49 = .ok (.iconst 1, 1) := by decide +kernel
theorem dX11_firstOfBlood_50 : decode cX11_firstOfBlood 50 = .ok (.goto 4, 3) := by decide +kernel
theorem dX11_firstOfBlood_53 : decode cX11_firstOfBlood 53 = .ok (.iconst 0, 1) := by decide +kernel
theorem dX11_firstOfBlood_54 : decode cX11_firstOfBlood 54 = .ok (.istore 5, 2) := by decide +kernel
theorem dX11_firstOfBlood_56 : decode cX11_firstOfBlood 56 = .ok (.iload 5, 2) := by decide +kernel
theorem dX11_firstOfBlood_58 : decode cX11_firstOfBlood 58 = .ok (.ifCond .eq 12, 3) := by decide +kernel
theorem dX11_firstOfBlood_61 : decode cX11_firstOfBlood 61 = .ok (.aload_n 3, 1) := by decide +kernel
theorem dX11_firstOfBlood_62 : decode cX11_firstOfBlood 62 = .ok (.getfield 135, 3) := by decide +kernel
theorem dX11_firstOfBlood_65 : decode cX11_firstOfBlood 65 = .ok (.ifCond .ne 5, 3) := by decide +kernel
theorem dX11_firstOfBlood_68 : decode cX11_firstOfBlood 68 = .ok (.iload_n 2, 1) := by decide +kernel
theorem dX11_firstOfBlood_69 : decode cX11_firstOfBlood 69 = .ok (.ireturn, 1) := by decide +kernel
theorem dX11_firstOfBlood_70 : decode cX11_firstOfBlood 70 = .ok (.iinc 2 1, 3) := by decide +kernel
theorem dX11_firstOfBlood_73 : decode cX11_firstOfBlood 73 = .ok (.goto (-71), 3) := by decide +kernel
theorem dX11_firstOfBlood_76 : decode cX11_firstOfBlood 76 = .ok (.iconst (-1), 1) := by decide +kernel
theorem dX11_firstOfBlood_77 : decode cX11_firstOfBlood 77 = .ok (.ireturn, 1) := by decide +kernel
theorem dX11_mostTurns_0 : decode cX11_mostTurns 0 = .ok (.iconst (-1), 1) := by decide +kernel
theorem dX11_mostTurns_1 : decode cX11_mostTurns 1 = .ok (.istore_n 3, 1) := by decide +kernel
theorem dX11_mostTurns_2 : decode cX11_mostTurns 2 = .ok (.iconst 0, 1) := by decide +kernel
theorem dX11_mostTurns_3 : decode cX11_mostTurns 3 = .ok (.istore 4, 2) := by decide +kernel
theorem dX11_mostTurns_5 : decode cX11_mostTurns 5 = .ok (.iconst 0, 1) := by decide +kernel
theorem dX11_mostTurns_6 : decode cX11_mostTurns 6 = .ok (.istore 5, 2) := by decide +kernel
theorem dX11_mostTurns_8 : decode cX11_mostTurns 8 = .ok (.iconst 0, 1) := by decide +kernel
theorem dX11_mostTurns_9 : decode cX11_mostTurns 9 = .ok (.istore 6, 2) := by decide +kernel
theorem dX11_mostTurns_11 : decode cX11_mostTurns 11 = .ok (.iload 6, 2) := by decide +kernel
theorem dX11_mostTurns_13 : decode cX11_mostTurns 13 = .ok (.aload_n 0, 1) := by decide +kernel
theorem dX11_mostTurns_14 : decode cX11_mostTurns 14 = .ok (.getfield 110, 3) := by decide +kernel
theorem dX11_mostTurns_17 : decode cX11_mostTurns 17 = .ok (.if_icmp .ge 88, 3) := by decide +kernel
theorem dX11_mostTurns_20 : decode cX11_mostTurns 20 = .ok (.aload_n 0, 1) := by decide +kernel
theorem dX11_mostTurns_21 : decode cX11_mostTurns 21 = .ok (.getfield 17, 3) := by decide +kernel
theorem dX11_mostTurns_24 : decode cX11_mostTurns 24 = .ok (.iload 6, 2) := by decide +kernel
theorem dX11_mostTurns_26 : decode cX11_mostTurns 26 = .ok (.aaload, 1) := by decide +kernel
theorem dX11_mostTurns_27 : decode cX11_mostTurns 27 = .ok (.astore 7, 2) := by decide +kernel
theorem dX11_mostTurns_29 : decode cX11_mostTurns 29 = .ok (.iload 6, 2) := by decide +kernel
theorem dX11_mostTurns_31 : decode cX11_mostTurns 31 = .ok (.iload_n 1, 1) := by decide +kernel
theorem dX11_mostTurns_32 : decode cX11_mostTurns 32 = .ok (.if_icmp .eq 67, 3) := by decide +kernel
theorem dX11_mostTurns_35 : decode cX11_mostTurns 35 = .ok (.aload 7, 2) := by decide +kernel
theorem dX11_mostTurns_37 : decode cX11_mostTurns 37 = .ok (.getfield 151, 3) := by decide +kernel
theorem dX11_mostTurns_40 : decode cX11_mostTurns 40 = .ok (.iload_n 2, 1) := by decide +kernel
theorem dX11_mostTurns_41 : decode cX11_mostTurns 41 = .ok (.if_icmp .eq 6, 3) := by decide +kernel
theorem dX11_mostTurns_44 : decode cX11_mostTurns 44 = .ok (.goto 55, 3) := by decide +kernel
theorem dX11_mostTurns_47 : decode cX11_mostTurns 47 = .ok (.iload_n 3, 1) := by decide +kernel
theorem dX11_mostTurns_48 : decode cX11_mostTurns 48 = .ok (.iconst (-1), 1) := by decide +kernel
theorem dX11_mostTurns_49 : decode cX11_mostTurns 49 = .ok (.if_icmp .eq 33, 3) := by decide +kernel
theorem dX11_mostTurns_52 : decode cX11_mostTurns 52 = .ok (.aload 7, 2) := by decide +kernel
theorem dX11_mostTurns_54 : decode cX11_mostTurns 54 = .ok (.getfield 157, 3) := by decide +kernel
theorem dX11_mostTurns_57 : decode cX11_mostTurns 57 = .ok (.iload 4, 2) := by decide +kernel
theorem dX11_mostTurns_59 : decode cX11_mostTurns 59 = .ok (.if_icmp .gt 23, 3) := by decide +kernel
theorem dX11_mostTurns_62 : decode cX11_mostTurns 62 = .ok (.aload 7, 2) := by decide +kernel
theorem dX11_mostTurns_64 : decode cX11_mostTurns 64 = .ok (.getfield 157, 3) := by decide +kernel
theorem dX11_mostTurns_67 : decode cX11_mostTurns 67 = .ok (.iload 4, 2) := by decide +kernel
theorem dX11_mostTurns_69 : decode cX11_mostTurns 69 = .ok (.if_icmp .ne 30, 3) := by decide +kernel
theorem dX11_mostTurns_72 : decode cX11_mostTurns 72 = .ok (.aload 7, 2) := by decide +kernel
theorem dX11_mostTurns_74 : decode cX11_mostTurns 74 = .ok (.getfield 145, 3) := by decide +kernel
theorem dX11_mostTurns_77 : decode cX11_mostTurns 77 = .ok (.iload 5, 2) := by decide +kernel
theorem dX11_mostTurns_79 : decode cX11_mostTurns 79 = .ok (.if_icmp .le 20, 3) := by decide +kernel
theorem dX11_mostTurns_82 : decode cX11_mostTurns 82 = .ok (.iload 6, 2) := by decide +kernel
theorem dX11_mostTurns_84 : decode cX11_mostTurns 84 = .ok (.istore_n 3, 1) := by decide +kernel
theorem dX11_mostTurns_85 : decode cX11_mostTurns 85 = .ok (.aload 7, 2) := by decide +kernel
theorem dX11_mostTurns_87 : decode cX11_mostTurns 87 = .ok (.getfield 157, 3) := by decide +kernel
theorem dX11_mostTurns_90 : decode cX11_mostTurns 90 = .ok (.istore 4, 2) := by decide +kernel
theorem dX11_mostTurns_92 : decode cX11_mostTurns 92 = .ok (.aload 7, 2) := by decide +kernel
theorem dX11_mostTurns_94 : decode cX11_mostTurns 94 = .ok (.getfield 145, 3) := by decide +kernel
theorem dX11_mostTurns_97 : decode cX11_mostTurns 97 = .ok (.istore 5, 2) := by decide +kernel
theorem dX11_mostTurns_99 : decode cX11_mostTurns 99 = .ok (.iinc 6 1, 3) := by decide +kernel
theorem dX11_mostTurns_102 : decode cX11_mostTurns 102 = .ok (.goto (-91), 3) := by decide +kernel
theorem dX11_mostTurns_105 : decode cX11_mostTurns 105 = .ok (.iload_n 3, 1) := by decide +kernel
theorem dX11_mostTurns_106 : decode cX11_mostTurns 106 = .ok (.ireturn, 1) := by decide +kernel
theorem dX11_open_0 : decode cX11_open 0 = .ok (.iload_n 1, 1) := by decide +kernel
theorem dX11_open_1 : decode cX11_open 1 = .ok (.iconst 0, 1) := by decide +kernel
theorem dX11_open_2 : decode cX11_open 2 = .ok (.bipush 42, 2) := by decide +kernel
theorem dX11_open_4 : decode cX11_open 4 = .ok (.invokestatic 66, 3) := by decide +kernel
theorem dX11_open_7 : decode cX11_open 7 = .ok (.ifCond .eq 12, 3) := by decide +kernel
theorem dX11_open_10 : decode cX11_open 10 = .ok (.iload_n 2, 1) := by decide +kernel
theorem dX11_open_11 : decode cX11_open 11 = .ok (.iconst 0, 1) := by decide +kernel
theorem dX11_open_12 : decode cX11_open 12 = .ok (.iconst 2, 1) := by decide +kernel
theorem dX11_open_13 : decode cX11_open 13 = .ok (.invokestatic 66, 3) := by decide +kernel
theorem dX11_open_16 : decode cX11_open 16 = .ok (.ifCond .ne 6, 3) := by decide +kernel
theorem dX11_open_19 : decode cX11_open 19 = .ok (.bipush (-2), 2) := by decide +kernel
theorem dX11_open_21 : decode cX11_open 21 = .ok (.ireturn, 1) := by decide +kernel
theorem dX11_open_22 : decode cX11_open 22 = .ok (.iconst 0, 1) := by decide +kernel
theorem dX11_open_23 : decode cX11_open 23 = .ok (.istore_n 3, 1) := by decide +kernel
theorem dX11_open_24 : decode cX11_open 24 = .ok (.iconst 0, 1) := by decide +kernel
theorem dX11_open_25 : decode cX11_open 25 = .ok (.istore 4, 2) := by decide +kernel
theorem dX11_open_27 : decode cX11_open 27 = .ok (.iconst 0, 1) := by decide +kernel
theorem dX11_open_28 : decode cX11_open 28 = .ok (.istore 5, 2) := by decide +kernel
theorem dX11_open_30 : decode cX11_open 30 = .ok (.iconst 1, 1) := by decide +kernel
theorem dX11_open_31 : decode cX11_open 31 = .ok (.istore 6, 2) := by decide +kernel
theorem dX11_open_33 : decode cX11_open 33 = .ok (.iload 6, 2) := by decide +kernel
theorem dX11_open_35 : decode cX11_open 35 = .ok (.iconst 1, 1) := by decide +kernel
theorem dX11_open_36 : decode cX11_open 36 = .ok (.aload_n 0, 1) := by decide +kernel
theorem dX11_open_37 : decode cX11_open 37 = .ok (.getfield 74, 3) := by decide +kernel
theorem dX11_open_40 : decode cX11_open 40 = .ok (.ishl, 1) := by decide +kernel
theorem dX11_open_41 : decode cX11_open 41 = .ok (.if_icmp .ge 123, 3) := by decide +kernel
theorem dX11_open_44 : decode cX11_open 44 = .ok (.iconst 0, 1) := by decide +kernel
theorem dX11_open_45 : decode cX11_open 45 = .ok (.istore 7, 2) := by decide +kernel
theorem dX11_open_47 : decode cX11_open 47 = .ok (.iconst 0, 1) := by decide +kernel
theorem dX11_open_48 : decode cX11_open 48 = .ok (.istore 8, 2) := by decide +kernel
theorem dX11_open_50 : decode cX11_open 50 = .ok (.iconst 0, 1) := by decide +kernel
theorem dX11_open_51 : decode cX11_open 51 = .ok (.istore 9, 2) := by decide +kernel
theorem dX11_open_53 : decode cX11_open 53 = .ok (.iload 9, 2) := by decide +kernel
theorem dX11_open_55 : decode cX11_open 55 = .ok (.aload_n 0, 1) := by decide +kernel
theorem dX11_open_56 : decode cX11_open 56 = .ok (.getfield 74, 3) := by decide +kernel
theorem dX11_open_59 : decode cX11_open 59 = .ok (.if_icmp .ge 49, 3) := by decide +kernel
theorem dX11_open_62 : decode cX11_open 62 = .ok (.iload 6, 2) := by decide +kernel
theorem dX11_open_64 : decode cX11_open 64 = .ok (.iload 9, 2) := by decide +kernel
theorem dX11_open_66 : decode cX11_open 66 = .ok (.ishr, 1) := by decide +kernel
theorem dX11_open_67 : decode cX11_open 67 = .ok (.iconst 1, 1) := by decide +kernel
theorem dX11_open_68 : decode cX11_open 68 = .ok (.iand, 1) := by decide +kernel
theorem dX11_open_69 : decode cX11_open 69 = .ok (.ifCond .eq 33, 3) := by decide +kernel
theorem dX11_open_72 : decode cX11_open 72 = .ok (.iload 7, 2) := by decide +kernel
theorem dX11_open_74 : decode cX11_open 74 = .ok (.aload_n 0, 1) := by decide +kernel
theorem dX11_open_75 : decode cX11_open 75 = .ok (.getfield 11, 3) := by decide +kernel
theorem dX11_open_78 : decode cX11_open 78 = .ok (.iload 9, 2) := by decide +kernel
theorem dX11_open_80 : decode cX11_open 80 = .ok (.aaload, 1) := by decide +kernel
theorem dX11_open_81 : decode cX11_open 81 = .ok (.getfield 259, 3) := by decide +kernel
theorem dX11_open_84 : decode cX11_open 84 = .ok (.iadd, 1) := by decide +kernel
theorem dX11_open_85 : decode cX11_open 85 = .ok (.istore 7, 2) := by decide +kernel
theorem dX11_open_87 : decode cX11_open 87 = .ok (.iload 8, 2) := by decide +kernel
theorem dX11_open_89 : decode cX11_open 89 = .ok (.aload_n 0, 1) := by decide +kernel
theorem dX11_open_90 : decode cX11_open 90 = .ok (.getfield 11, 3) := by decide +kernel
theorem dX11_open_93 : decode cX11_open 93 = .ok (.iload 9, 2) := by decide +kernel
theorem dX11_open_95 : decode cX11_open 95 = .ok (.aaload, 1) := by decide +kernel
theorem dX11_open_96 : decode cX11_open 96 = .ok (.invokevirtual 262, 3) := by decide +kernel
theorem dX11_open_99 : decode cX11_open 99 = .ok (.iadd, 1) := by decide +kernel
theorem dX11_open_100 : decode cX11_open 100 = .ok (.istore 8, 2) := by decide +kernel
theorem dX11_open_102 : decode cX11_open 102 = .ok (.iinc 9 1, 3) := by decide +kernel
theorem dX11_open_105 : decode cX11_open 105 = .ok (.goto (-52), 3) := by decide +kernel
theorem dX11_open_108 : decode cX11_open 108 = .ok (.iload 7, 2) := by decide +kernel
theorem dX11_open_110 : decode cX11_open 110 = .ok (.iload 4, 2) := by decide +kernel
theorem dX11_open_112 : decode cX11_open 112 = .ok (.if_icmp .gt 17, 3) := by decide +kernel
theorem dX11_open_115 : decode cX11_open 115 = .ok (.iload 7, 2) := by decide +kernel
theorem dX11_open_117 : decode cX11_open 117 = .ok (.iload 4, 2) := by decide +kernel
theorem dX11_open_119 : decode cX11_open 119 = .ok (.if_icmp .ne 14, 3) := by decide +kernel
theorem dX11_open_122 : decode cX11_open 122 = .ok (.iload 8, 2) := by decide +kernel
theorem dX11_open_124 : decode cX11_open 124 = .ok (.iload 5, 2) := by decide +kernel
theorem dX11_open_126 : decode cX11_open 126 = .ok (.if_icmp .ge 7, 3) := by decide +kernel
theorem dX11_open_129 : decode cX11_open 129 = .ok (.iconst 1, 1) := by decide +kernel
theorem dX11_open_130 : decode cX11_open 130 = .ok (.goto 4, 3) := by decide +kernel
theorem dX11_open_133 : decode cX11_open 133 = .ok (.iconst 0, 1) := by decide +kernel
theorem dX11_open_134 : decode cX11_open 134 = .ok (.istore 9, 2) := by decide +kernel
theorem dX11_open_136 : decode cX11_open 136 = .ok (.iload 8, 2) := by decide +kernel
theorem dX11_open_138 : decode cX11_open 138 = .ok (.iload_n 1, 1) := by decide +kernel
theorem dX11_open_139 : decode cX11_open 139 = .ok (.if_icmp .gt 19, 3) := by decide +kernel
theorem dX11_open_142 : decode cX11_open 142 = .ok (.iload 9, 2) := by decide +kernel
theorem dX11_open_144 : decode cX11_open 144 = .ok (.ifCond .eq 14, 3) := by decide +kernel
theorem dX11_open_147 : decode cX11_open 147 = .ok (.iload 6, 2) := by decide +kernel
theorem dX11_open_149 : decode cX11_open 149 = .ok (.istore_n 3, 1) := by decide +kernel
theorem dX11_open_150 : decode cX11_open 150 = .ok (.iload 7, 2) := by decide +kernel
theorem dX11_open_152 : decode cX11_open 152 = .ok (.istore 4, 2) := by decide +kernel
theorem dX11_open_154 : decode cX11_open 154 = .ok (.iload 8, 2) := by decide +kernel
theorem dX11_open_156 : decode cX11_open 156 = .ok (.istore 5, 2) := by decide +kernel
theorem dX11_open_158 : decode cX11_open 158 = .ok (.iinc 6 1, 3) := by decide +kernel
theorem dX11_open_161 : decode cX11_open 161 = .ok (.goto (-128), 3) := by decide +kernel
theorem dX11_open_164 : decode cX11_open 164 = .ok (.iload_n 2, 1) := by decide +kernel
theorem dX11_open_165 : decode cX11_open 165 = .ok (.ifCond .ne 7, 3) := by decide +kernel
theorem dX11_open_168 : decode cX11_open 168 = .ok (.iload_n 3, 1) := by decide +kernel
theorem dX11_open_169 : decode cX11_open 169 = .ok (.goto 15, 3) := by decide +kernel
theorem dX11_open_172 : decode cX11_open 172 = .ok (.iload_n 2, 1) := by decide +kernel
theorem dX11_open_173 : decode cX11_open 173 = .ok (.iconst 1, 1) := by decide +kernel
theorem dX11_open_174 : decode cX11_open 174 = .ok (.if_icmp .ne 8, 3) := by decide +kernel
theorem dX11_open_177 : decode cX11_open 177 = .ok (.iload 4, 2) := by decide +kernel
theorem dX11_open_179 : decode cX11_open 179 = .ok (.goto 5, 3) := by decide +kernel
theorem dX11_open_182 : decode cX11_open 182 = .ok (.iload 5, 2) := by decide +kernel
theorem dX11_open_184 : decode cX11_open 184 = .ok (.ireturn, 1) := by decide +kernel
theorem dX11_path_0 : decode cX11_path 0 = .ok (.iload_n 1, 1) := by decide +kernel
theorem dX11_path_1 : decode cX11_path 1 = .ok (.invokestatic 70, 3) := by decide +kernel
theorem dX11_path_4 : decode cX11_path 4 = .ok (.ifCond .eq 17, 3) := by decide +kernel
theorem dX11_path_7 : decode cX11_path 7 = .ok (.iload_n 2, 1) := by decide +kernel
theorem dX11_path_8 : decode cX11_path 8 = .ok (.iconst 0, 1) := by decide +kernel
theorem dX11_path_9 : decode cX11_path 9 = .ok (.bipush 99, 2) := by decide +kernel
theorem dX11_path_11 : decode cX11_path 11 = .ok (.invokestatic 66, 3) := by decide +kernel
theorem dX11_path_14 : decode cX11_path 14 = .ok (.ifCond .eq 7, 3) := by decide +kernel
theorem dX11_path_17 : decode cX11_path 17 = .ok (.iconst 1, 1) := by decide +kernel
theorem dX11_path_18 : decode cX11_path 18 = .ok (.goto 4, 3) := by decide +kernel
theorem dX11_path_21 : decode cX11_path 21 = .ok (.iconst 0, 1) := by decide +kernel
theorem dX11_path_22 : decode cX11_path 22 = .ok (.istore_n 3, 1) := by decide +kernel
theorem dX11_path_23 : decode cX11_path 23 = .ok (.iload_n 3, 1) := by decide +kernel
theorem dX11_path_24 : decode cX11_path 24 = .ok (.ifCond .eq 15, 3) := by decide +kernel
theorem dX11_path_27 : decode cX11_path 27 = .ok (.aload_n 0, 1) := by decide +kernel
theorem dX11_path_28 : decode cX11_path 28 = .ok (.getfield 42, 3) := by decide +kernel
theorem dX11_path_31 : decode cX11_path 31 = .ok (.iload_n 1, 1) := by decide +kernel
theorem dX11_path_32 : decode cX11_path 32 = .ok (.iload_n 2, 1) := by decide +kernel
theorem dX11_path_33 : decode cX11_path 33 = .ok (.invokevirtual 265, 3) := by decide +kernel
theorem dX11_path_36 : decode cX11_path 36 = .ok (.goto 5, 3) := by decide +kernel
theorem dX11_path_39 : decode cX11_path 39 = .ok (.bipush (-2), 2) := by decide +kernel
theorem dX11_path_41 : decode cX11_path 41 = .ok (.ireturn, 1) := by decide +kernel
theorem dX11_foot_0 : decode cX11_foot 0 = .ok (.iload_n 1, 1) := by decide +kernel
theorem dX11_foot_1 : decode cX11_foot 1 = .ok (.iconst 0, 1) := by decide +kernel
theorem dX11_foot_2 : decode cX11_foot 2 = .ok (.bipush 99, 2) := by decide +kernel
theorem dX11_foot_4 : decode cX11_foot 4 = .ok (.invokestatic 66, 3) := by decide +kernel
theorem dX11_foot_7 : decode cX11_foot 7 = .ok (.ifCond .ne 6, 3) := by decide +kernel
theorem dX11_foot_10 : decode cX11_foot 10 = .ok (.bipush (-2), 2) := by decide +kernel
theorem dX11_foot_12 : decode cX11_foot 12 = .ok (.ireturn, 1) := by decide +kernel
theorem dX11_foot_13 : decode cX11_foot 13 = .ok (.aload_n 0, 1) := by decide +kernel
theorem dX11_foot_14 : decode cX11_foot 14 = .ok (.getfield 42, 3) := by decide +kernel
theorem dX11_foot_17 : decode cX11_foot 17 = .ok (.iload_n 1, 1) := by decide +kernel
theorem dX11_foot_18 : decode cX11_foot 18 = .ok (.aload_n 0, 1) := by decide +kernel
theorem dX11_foot_19 : decode cX11_foot 19 = .ok (.getfield 11, 3) := by decide +kernel
theorem dX11_foot_22 : decode cX11_foot 22 = .ok (.aload_n 0, 1) := by decide +kernel
theorem dX11_foot_23 : decode cX11_foot 23 = .ok (.getfield 74, 3) := by decide +kernel
theorem dX11_foot_26 : decode cX11_foot 26 = .ok (.invokevirtual 268, 3) := by decide +kernel
theorem dX11_foot_29 : decode cX11_foot 29 = .ok (.istore_n 2, 1) := by decide +kernel
theorem dX11_foot_30 : decode cX11_foot 30 = .ok (.iload_n 2, 1) := by decide +kernel
theorem dX11_foot_31 : decode cX11_foot 31 = .ok (.ldc_w 272, 3) := by decide +kernel
theorem dX11_foot_34 : decode cX11_foot 34 = .ok (.if_icmp .ge 7, 3) := by decide +kernel
theorem dX11_foot_37 : decode cX11_foot 37 = .ok (.iload_n 2, 1) := by decide +kernel
theorem dX11_foot_38 : decode cX11_foot 38 = .ok (.goto 4, 3) := by decide +kernel
theorem dX11_foot_41 : decode cX11_foot 41 = .ok (.iconst (-1), 1) := by decide +kernel
theorem dX11_foot_42 : decode cX11_foot 42 = .ok (.ireturn, 1) := by decide +kernel
theorem dX11_lost_0 : decode cX11_lost 0 = .ok (.aload_n 0, 1) := by decide +kernel
theorem dX11_lost_1 : decode cX11_lost 1 = .ok (.iload_n 1, 1) := by decide +kernel
theorem dX11_lost_2 : decode cX11_lost 2 = .ok (.i2l, 1) := by decide +kernel
theorem dX11_lost_3 : decode cX11_lost 3 = .ok (.invokevirtual 87, 3) := by decide +kernel
theorem dX11_lost_6 : decode cX11_lost 6 = .ok (.astore_n 2, 1) := by decide +kernel
theorem dX11_lost_7 : decode cX11_lost 7 = .ok (.aload_n 2, 1) := by decide +kernel
theorem dX11_lost_8 : decode cX11_lost 8 = .ok (.ifnonnull 6, 3) := by decide +kernel
theorem dX11_lost_11 : decode cX11_lost 11 = .ok (.bipush (-2), 2) := by decide +kernel
theorem dX11_lost_13 : decode cX11_lost 13 = .ok (.ireturn, 1) := by decide +kernel
theorem dX11_lost_14 : decode cX11_lost 14 = .ok (.aload_n 2, 1) := by decide +kernel
theorem dX11_lost_15 : decode cX11_lost 15 = .ok (.iconst 0, 1) := by decide +kernel
theorem dX11_lost_16 : decode cX11_lost 16 = .ok (.invokevirtual 91, 3) := by decide +kernel
theorem dX11_lost_19 : decode cX11_lost 19 = .ok (.istore_n 3, 1) := by decide +kernel
theorem dX11_lost_20 : decode cX11_lost 20 = .ok (.iload_n 3, 1) := by decide +kernel
theorem dX11_lost_21 : decode cX11_lost 21 = .ok (.ifCond .ne 5, 3) := by decide +kernel
theorem dX11_lost_24 : decode cX11_lost 24 = .ok (.iconst 0, 1) := by decide +kernel
theorem dX11_lost_25 : decode cX11_lost 25 = .ok (.ireturn, 1) := by decide +kernel
theorem dX11_lost_26 : decode cX11_lost 26 = .ok (.aload_n 0, 1) := by decide +kernel
theorem dX11_lost_27 : decode cX11_lost 27 = .ok (.getfield 42, 3) := by decide +kernel
theorem dX11_lost_30 : decode cX11_lost 30 = .ok (.aload_n 0, 1) := by decide +kernel
theorem dX11_lost_31 : decode cX11_lost 31 = .ok (.getfield 11, 3) := by decide +kernel
theorem dX11_lost_34 : decode cX11_lost 34 = .ok (.aload_n 0, 1) := by decide +kernel
theorem dX11_lost_35 : decode cX11_lost 35 = .ok (.getfield 74, 3) := by decide +kernel
theorem dX11_lost_38 : decode cX11_lost 38 = .ok (.invokevirtual 273, 3) := by decide +kernel
theorem dX11_lost_41 : decode cX11_lost 41 = .ok (.aload_n 2, 1) := by decide +kernel
theorem dX11_lost_42 : decode cX11_lost 42 = .ok (.iload_n 3, 1) := by decide +kernel
theorem dX11_lost_43 : decode cX11_lost 43 = .ok (.invokevirtual 91, 3) := by decide +kernel
theorem dX11_lost_46 : decode cX11_lost 46 = .ok (.pop, 1) := by decide +kernel
theorem dX11_lost_47 : decode cX11_lost 47 = .ok (.aload_n 0, 1) := by decide +kernel
theorem dX11_lost_48 : decode cX11_lost 48 = .ok (.getfield 42, 3) := by decide +kernel
theorem dX11_lost_51 : decode cX11_lost 51 = .ok (.aload_n 0, 1) := by decide +kernel
theorem dX11_lost_52 : decode cX11_lost 52 = .ok (.getfield 11, 3) := by decide +kernel
theorem dX11_lost_55 : decode cX11_lost 55 = .ok (.aload_n 0, 1) := by decide +kernel
theorem dX11_lost_56 : decode cX11_lost 56 = .ok (.getfield 74, 3) := by decide +kernel
theorem dX11_lost_59 : decode cX11_lost 59 = .ok (.invokevirtual 277, 3) := by decide +kernel
theorem dX11_lost_62 : decode cX11_lost 62 = .ok (.aload_n 0, 1) := by decide +kernel
theorem dX11_lost_63 : decode cX11_lost 63 = .ok (.getfield 42, 3) := by decide +kernel
theorem dX11_lost_66 : decode cX11_lost 66 = .ok (.invokevirtual 280, 3) := by decide +kernel
theorem dX11_lost_69 : decode cX11_lost 69 = .ok (.ireturn, 1) := by decide +kernel
theorem dX11_fog_0 : decode cX11_fog 0 = .ok (.iload_n 1, 1) := by decide +kernel
theorem dX11_fog_1 : decode cX11_fog 1 = .ok (.invokestatic 283, 3) := by decide +kernel
theorem dX11_fog_4 : decode cX11_fog 4 = .ok (.ifCond .eq 31, 3) := by decide +kernel
theorem dX11_fog_7 : decode cX11_fog 7 = .ok (.iload_n 2, 1) := by decide +kernel
theorem dX11_fog_8 : decode cX11_fog 8 = .ok (.invokestatic 283, 3) := by decide +kernel
theorem dX11_fog_11 : decode cX11_fog 11 = .ok (.ifCond .eq 24, 3) := by decide +kernel
theorem dX11_fog_14 : decode cX11_fog 14 = .ok (.iload_n 3, 1) := by decide +kernel
theorem dX11_fog_15 : decode cX11_fog 15 = .ok (.bipush 10, 2) := by decide +kernel
theorem dX11_fog_17 : decode cX11_fog 17 = .ok (.bipush 99, 2) := by decide +kernel
theorem dX11_fog_19 : decode cX11_fog 19 = .ok (.invokestatic 66, 3) := by decide +kernel
theorem dX11_fog_22 : decode cX11_fog 22 = .ok (.ifCond .eq 13, 3) := by decide +kernel
theorem dX11_fog_25 : decode cX11_fog 25 = .ok (.iload 4, 2) := by decide +kernel
theorem dX11_fog_27 : decode cX11_fog 27 = .ok (.iconst 0, 1) := by decide +kernel
theorem dX11_fog_28 : decode cX11_fog 28 = .ok (.iconst 2, 1) := by decide +kernel
theorem dX11_fog_29 : decode cX11_fog 29 = .ok (.invokestatic 66, 3) := by decide +kernel
theorem dX11_fog_32 : decode cX11_fog 32 = .ok (.ifCond .ne 6, 3) := by decide +kernel
theorem dX11_fog_35 : decode cX11_fog 35 = .ok (.bipush (-2), 2) := by decide +kernel
theorem dX11_fog_37 : decode cX11_fog 37 = .ok (.ireturn, 1) := by decide +kernel
theorem dX11_fog_38 : decode cX11_fog 38 = .ok (.iconst 1, 1) := by decide +kernel
theorem dX11_fog_39 : decode cX11_fog 39 = .ok (.iload_n 3, 1) := by decide +kernel
theorem dX11_fog_40 : decode cX11_fog 40 = .ok (.bipush 10, 2) := by decide +kernel
theorem dX11_fog_42 : decode cX11_fog 42 = .ok (.idiv, 1) := by decide +kernel
theorem dX11_fog_43 : decode cX11_fog 43 = .ok (.invokestatic 189, 3) := by decide +kernel
theorem dX11_fog_46 : decode cX11_fog 46 = .ok (.istore 5, 2) := by decide +kernel
theorem dX11_fog_48 : decode cX11_fog 48 = .ok (.iload_n 3, 1) := by decide +kernel
theorem dX11_fog_49 : decode cX11_fog 49 = .ok (.bipush 10, 2) := by decide +kernel
theorem dX11_fog_51 : decode cX11_fog 51 = .ok (.irem, 1) := by decide +kernel
theorem dX11_fog_52 : decode cX11_fog 52 = .ok (.istore 6, 2) := by decide +kernel
theorem dX11_fog_54 : decode cX11_fog 54 = .ok (.iload_n 1, 1) := by decide +kernel
theorem dX11_fog_55 : decode cX11_fog 55 = .ok (.bipush 10, 2) := by decide +kernel
theorem dX11_fog_57 : decode cX11_fog 57 = .ok (.idiv, 1) := by decide +kernel
theorem dX11_fog_58 : decode cX11_fog 58 = .ok (.istore 7, 2) := by decide +kernel
theorem dX11_fog_60 : decode cX11_fog 60 = .ok (.iload_n 1, 1) := by decide +kernel
theorem dX11_fog_61 : decode cX11_fog 61 = .ok (.bipush 10, 2) := by decide +kernel
theorem dX11_fog_63 : decode cX11_fog 63 = .ok (.irem, 1) := by decide +kernel
theorem dX11_fog_64 : decode cX11_fog 64 = .ok (.iconst 1, 1) := by decide +kernel
theorem dX11_fog_65 : decode cX11_fog 65 = .ok (.isub, 1) := by decide +kernel
theorem dX11_fog_66 : decode cX11_fog 66 = .ok (.istore 8, 2) := by decide +kernel
theorem dX11_fog_68 : decode cX11_fog 68 = .ok (.iload_n 2, 1) := by decide +kernel
theorem dX11_fog_69 : decode cX11_fog 69 = .ok (.bipush 10, 2) := by decide +kernel
theorem dX11_fog_71 : decode cX11_fog 71 = .ok (.idiv, 1) := by decide +kernel
theorem dX11_fog_72 : decode cX11_fog 72 = .ok (.istore 9, 2) := by decide +kernel
theorem dX11_fog_74 : decode cX11_fog 74 = .ok (.iload_n 2, 1) := by decide +kernel
theorem dX11_fog_75 : decode cX11_fog 75 = .ok (.bipush 10, 2) := by decide +kernel
theorem dX11_fog_77 : decode cX11_fog 77 = .ok (.irem, 1) := by decide +kernel
theorem dX11_fog_78 : decode cX11_fog 78 = .ok (.iconst 1, 1) := by decide +kernel
theorem dX11_fog_79 : decode cX11_fog 79 = .ok (.isub, 1) := by decide +kernel
theorem dX11_fog_80 : decode cX11_fog 80 = .ok (.istore 10, 2) := by decide +kernel
theorem dX11_fog_82 : decode cX11_fog 82 = .ok (.iload 7, 2) := by decide +kernel
theorem dX11_fog_84 : decode cX11_fog 84 = .ok (.iload 9, 2) := by decide +kernel
theorem dX11_fog_86 : decode cX11_fog 86 = .ok (.isub, 1) := by decide +kernel
theorem dX11_fog_87 : decode cX11_fog 87 = .ok (.invokestatic 286, 3) := by decide +kernel
theorem dX11_fog_90 : decode cX11_fog 90 = .ok (.istore 11, 2) := by decide +kernel
theorem dX11_fog_92 : decode cX11_fog 92 = .ok (.iconst 0, 1) := by decide +kernel
theorem dX11_fog_93 : decode cX11_fog 93 = .ok (.istore 12, 2) := by decide +kernel
theorem dX11_fog_95 : decode cX11_fog 95 = .ok (.iload 11, 2) := by decide +kernel
theorem dX11_fog_97 : decode cX11_fog 97 = .ok (.ifCond .ne 7, 3) := by decide +kernel
theorem dX11_fog_100 : decode cX11_fog 100 = .ok (.iconst 1, 1) := by decide +kernel
theorem dX11_fog_101 : decode cX11_fog 101 = .ok (.goto 4, 3) := by decide +kernel
theorem dX11_fog_104 : decode cX11_fog 104 = .ok (.iconst 0, 1) := by decide +kernel
theorem dX11_fog_105 : decode cX11_fog 105 = .ok (.istore 13, 2) := by decide +kernel
theorem dX11_fog_107 : decode cX11_fog 107 = .ok (.iconst 1, 1) := by decide +kernel
theorem dX11_fog_108 : decode cX11_fog 108 = .ok (.istore 14, 2) := by decide +kernel
theorem dX11_fog_110 : decode cX11_fog 110 = .ok (.iload 14, 2) := by decide +kernel
theorem dX11_fog_112 : decode cX11_fog 112 = .ok (.bipush 60, 2) := by decide +kernel
theorem dX11_fog_114 : decode cX11_fog 114 = .ok (.if_icmp .gt 133, 3) := by decide +kernel
theorem dX11_fog_117 : decode cX11_fog 117 = .ok (.iload 7, 2) := by decide +kernel
theorem dX11_fog_119 : decode cX11_fog 119 = .ok (.iload 8, 2) := by decide +kernel
theorem dX11_fog_121 : decode cX11_fog 121 = .ok (.invokestatic 289, 3) := by decide +kernel
theorem dX11_fog_124 : decode cX11_fog 124 = .ok (.istore 8, 2) := by decide +kernel
theorem dX11_fog_126 : decode cX11_fog 126 = .ok (.iload 9, 2) := by decide +kernel
theorem dX11_fog_128 : decode cX11_fog 128 = .ok (.iload 10, 2) := by decide +kernel
theorem dX11_fog_130 : decode cX11_fog 130 = .ok (.invokestatic 289, 3) := by decide +kernel
theorem dX11_fog_133 : decode cX11_fog 133 = .ok (.istore 10, 2) := by decide +kernel
theorem dX11_fog_135 : decode cX11_fog 135 = .ok (.iload 7, 2) := by decide +kernel
theorem dX11_fog_137 : decode cX11_fog 137 = .ok (.iload 8, 2) := by decide +kernel
theorem dX11_fog_139 : decode cX11_fog 139 = .ok (.iadd, 1) := by decide +kernel
theorem dX11_fog_140 : decode cX11_fog 140 = .ok (.iload 9, 2) := by decide +kernel
theorem dX11_fog_142 : decode cX11_fog 142 = .ok (.if_icmp .ne 17, 3) := by decide +kernel
theorem dX11_fog_145 : decode cX11_fog 145 = .ok (.iload 9, 2) := by decide +kernel
theorem dX11_fog_147 : decode cX11_fog 147 = .ok (.iload 10, 2) := by decide +kernel
theorem dX11_fog_149 : decode cX11_fog 149 = .ok (.iadd, 1) := by decide +kernel
theorem dX11_fog_150 : decode cX11_fog 150 = .ok (.iload 7, 2) := by decide +kernel
theorem dX11_fog_152 : decode cX11_fog 152 = .ok (.if_icmp .ne 7, 3) := by decide +kernel
theorem dX11_fog_155 : decode cX11_fog 155 = .ok (.iconst 1, 1) := by decide +kernel
theorem dX11_fog_156 : decode cX11_fog 156 = .ok (.goto 4, 3) := by decide +kernel
theorem dX11_fog_159 : decode cX11_fog 159 = .ok (.iconst 0, 1) := by decide +kernel
theorem dX11_fog_160 : decode cX11_fog 160 = .ok (.istore 15, 2) := by decide +kernel
theorem dX11_fog_162 : decode cX11_fog 162 = .ok (.iload 7, 2) := by decide +kernel
theorem dX11_fog_164 : decode cX11_fog 164 = .ok (.iload 8, 2) := by decide +kernel
theorem dX11_fog_166 : decode cX11_fog 166 = .ok (.iadd, 1) := by decide +kernel
theorem dX11_fog_167 : decode cX11_fog 167 = .ok (.istore 7, 2) := by decide +kernel
theorem dX11_fog_169 : decode cX11_fog 169 = .ok (.iload 9, 2) := by decide +kernel
theorem dX11_fog_171 : decode cX11_fog 171 = .ok (.iload 10, 2) := by decide +kernel
theorem dX11_fog_173 : decode cX11_fog 173 = .ok (.iadd, 1) := by decide +kernel
theorem dX11_fog_174 : decode cX11_fog 174 = .ok (.istore 9, 2) := by decide +kernel
theorem dX11_fog_176 : decode cX11_fog 176 = .ok (.iload 7, 2) := by decide +kernel
theorem dX11_fog_178 : decode cX11_fog 178 = .ok (.iload 9, 2) := by decide +kernel
theorem dX11_fog_180 : decode cX11_fog 180 = .ok (.isub, 1) := by decide +kernel
theorem dX11_fog_181 : decode cX11_fog 181 = .ok (.invokestatic 286, 3) := by decide +kernel
theorem dX11_fog_184 : decode cX11_fog 184 = .ok (.istore 16, 2) := by decide +kernel
theorem dX11_fog_186 : decode cX11_fog 186 = .ok (.iload 13, 2) := by decide +kernel
theorem dX11_fog_188 : decode cX11_fog 188 = .ok (.ifCond .ne 13, 3) := by decide +kernel
theorem dX11_fog_191 : decode cX11_fog 191 = .ok (.iload 15, 2) := by decide +kernel
theorem dX11_fog_193 : decode cX11_fog 193 = .ok (.ifCond .ne 8, 3) := by decide +kernel
theorem dX11_fog_196 : decode cX11_fog 196 = .ok (.iload 16, 2) := by decide +kernel
theorem dX11_fog_198 : decode cX11_fog 198 = .ok (.ifCond .ne 7, 3) := by decide +kernel
theorem dX11_fog_201 : decode cX11_fog 201 = .ok (.iconst 1, 1) := by decide +kernel
theorem dX11_fog_202 : decode cX11_fog 202 = .ok (.goto 4, 3) := by decide +kernel
theorem dX11_fog_205 : decode cX11_fog 205 = .ok (.iconst 0, 1) := by decide +kernel
theorem dX11_fog_206 : decode cX11_fog 206 = .ok (.istore 13, 2) := by decide +kernel
theorem dX11_fog_208 : decode cX11_fog 208 = .ok (.iload 16, 2) := by decide +kernel
theorem dX11_fog_210 : decode cX11_fog 210 = .ok (.iload 11, 2) := by decide +kernel
theorem dX11_fog_212 : decode cX11_fog 212 = .ok (.if_icmp .ge 11, 3) := by decide +kernel
theorem dX11_fog_215 : decode cX11_fog 215 = .ok (.iload 16, 2) := by decide +kernel
theorem dX11_fog_217 : decode cX11_fog 217 = .ok (.istore 11, 2) := by decide +kernel
theorem dX11_fog_219 : decode cX11_fog 219 = .ok (.iload 14, 2) := by decide +kernel
theorem dX11_fog_221 : decode cX11_fog 221 = .ok (.istore 12, 2) := by decide +kernel
theorem dX11_fog_223 : decode cX11_fog 223 = .ok (.iload 14, 2) := by decide +kernel
theorem dX11_fog_225 : decode cX11_fog 225 = .ok (.iload 5, 2) := by decide +kernel
theorem dX11_fog_227 : decode cX11_fog 227 = .ok (.irem, 1) := by decide +kernel
theorem dX11_fog_228 : decode cX11_fog 228 = .ok (.ifCond .ne 13, 3) := by decide +kernel
theorem dX11_fog_231 : decode cX11_fog 231 = .ok (.iload 16, 2) := by decide +kernel
theorem dX11_fog_233 : decode cX11_fog 233 = .ok (.iload 6, 2) := by decide +kernel
theorem dX11_fog_235 : decode cX11_fog 235 = .ok (.if_icmp .gt 6, 3) := by decide +kernel
theorem dX11_fog_238 : decode cX11_fog 238 = .ok (.iconst 0, 1) := by decide +kernel
theorem dX11_fog_239 : decode cX11_fog 239 = .ok (.istore 10, 2) := by decide +kernel
theorem dX11_fog_241 : decode cX11_fog 241 = .ok (.iinc 14 1, 3) := by decide +kernel
theorem dX11_fog_244 : decode cX11_fog 244 = .ok (.goto (-134), 3) := by decide +kernel
theorem dX11_fog_247 : decode cX11_fog 247 = .ok (.iload 4, 2) := by decide +kernel
theorem dX11_fog_249 : decode cX11_fog 249 = .ok (.ifCond .ne 8, 3) := by decide +kernel
theorem dX11_fog_252 : decode cX11_fog 252 = .ok (.iload 11, 2) := by decide +kernel
theorem dX11_fog_254 : decode cX11_fog 254 = .ok (.goto 24, 3) := by decide +kernel
theorem dX11_fog_257 : decode cX11_fog 257 = .ok (.iload 4, 2) := by decide +kernel
theorem dX11_fog_259 : decode cX11_fog 259 = .ok (.iconst 1, 1) := by decide +kernel
theorem dX11_fog_260 : decode cX11_fog 260 = .ok (.if_icmp .ne 8, 3) := by decide +kernel
theorem dX11_fog_263 : decode cX11_fog 263 = .ok (.iload 12, 2) := by decide +kernel
theorem dX11_fog_265 : decode cX11_fog 265 = .ok (.goto 13, 3) := by decide +kernel
theorem dX11_fog_268 : decode cX11_fog 268 = .ok (.iload 13, 2) := by decide +kernel
theorem dX11_fog_270 : decode cX11_fog 270 = .ok (.ifCond .eq 7, 3) := by decide +kernel
theorem dX11_fog_273 : decode cX11_fog 273 = .ok (.iconst 1, 1) := by decide +kernel
theorem dX11_fog_274 : decode cX11_fog 274 = .ok (.goto 4, 3) := by decide +kernel
theorem dX11_fog_277 : decode cX11_fog 277 = .ok (.iconst 0, 1) := by decide +kernel
theorem dX11_fog_278 : decode cX11_fog 278 = .ok (.ireturn, 1) := by decide +kernel
theorem dX11_isABoat_0 : decode cX11_isABoat 0 = .ok (.iload_n 0, 1) := by decide +kernel
theorem dX11_isABoat_1 : decode cX11_isABoat 1 = .ok (.iconst 0, 1) := by decide +kernel
theorem dX11_isABoat_2 : decode cX11_isABoat 2 = .ok (.sipush 639, 3) := by decide +kernel
theorem dX11_isABoat_5 : decode cX11_isABoat 5 = .ok (.invokestatic 66, 3) := by decide +kernel
theorem dX11_isABoat_8 : decode cX11_isABoat 8 = .ok (.ifCond .eq 15, 3) := by decide +kernel
theorem dX11_isABoat_11 : decode cX11_isABoat 11 = .ok (.iload_n 0, 1) := by decide +kernel
theorem dX11_isABoat_12 : decode cX11_isABoat 12 = .ok (.bipush 10, 2) := by decide +kernel
theorem dX11_isABoat_14 : decode cX11_isABoat 14 = .ok (.irem, 1) := by decide +kernel
theorem dX11_isABoat_15 : decode cX11_isABoat 15 = .ok (.iconst 2, 1) := by decide +kernel
theorem dX11_isABoat_16 : decode cX11_isABoat 16 = .ok (.if_icmp .gt 7, 3) := by decide +kernel
theorem dX11_isABoat_19 : decode cX11_isABoat 19 = .ok (.iconst 1, 1) := by decide +kernel
theorem dX11_isABoat_20 : decode cX11_isABoat 20 = .ok (.goto 4, 3) := by decide +kernel
theorem dX11_isABoat_23 : decode cX11_isABoat 23 = .ok (.iconst 0, 1) := by decide +kernel
theorem dX11_isABoat_24 : decode cX11_isABoat 24 = .ok (.ireturn, 1) := by decide +kernel
theorem dX11_turnedAbout_0 : decode cX11_turnedAbout 0 = .ok (.iload_n 0, 1) := by decide +kernel
theorem dX11_turnedAbout_1 : decode cX11_turnedAbout 1 = .ok (.iload_n 1, 1) := by decide +kernel
theorem dX11_turnedAbout_2 : decode cX11_turnedAbout 2 = .ok (.iadd, 1) := by decide +kernel
theorem dX11_turnedAbout_3 : decode cX11_turnedAbout 3 = .ok (.iconst 0, 1) := by decide +kernel
theorem dX11_turnedAbout_4 : decode cX11_turnedAbout 4 = .ok (.bipush 63, 2) := by decide +kernel
theorem dX11_turnedAbout_6 : decode cX11_turnedAbout 6 = .ok (.invokestatic 66, 3) := by decide +kernel
theorem dX11_turnedAbout_9 : decode cX11_turnedAbout 9 = .ok (.ifCond .eq 7, 3) := by decide +kernel
theorem dX11_turnedAbout_12 : decode cX11_turnedAbout 12 = .ok (.iload_n 1, 1) := by decide +kernel
theorem dX11_turnedAbout_13 : decode cX11_turnedAbout 13 = .ok (.goto 5, 3) := by decide +kernel
theorem dX11_turnedAbout_16 : decode cX11_turnedAbout 16 = .ok (.iload_n 1, 1) := by decide +kernel
theorem dX11_turnedAbout_17 : decode cX11_turnedAbout 17 = .ok (.ineg, 1) := by decide +kernel
theorem dX11_turnedAbout_18 : decode cX11_turnedAbout 18 = .ok (.ireturn, 1) := by decide +kernel
theorem dX11_box_0 : decode cX11_box 0 = .ok (.iload_n 1, 1) := by decide +kernel
theorem dX11_box_1 : decode cX11_box 1 = .ok (.ifCond .lt 54, 3) := by decide +kernel
theorem dX11_box_4 : decode cX11_box 4 = .ok (.iload_n 1, 1) := by decide +kernel
theorem dX11_box_5 : decode cX11_box 5 = .ok (.sipush 1000, 3) := by decide +kernel
theorem dX11_box_8 : decode cX11_box 8 = .ok (.idiv, 1) := by decide +kernel
theorem dX11_box_9 : decode cX11_box 9 = .ok (.sipush 198, 3) := by decide +kernel
theorem dX11_box_12 : decode cX11_box 12 = .ok (.if_icmp .gt 43, 3) := by decide +kernel
theorem dX11_box_15 : decode cX11_box 15 = .ok (.iload_n 1, 1) := by decide +kernel
theorem dX11_box_16 : decode cX11_box 16 = .ok (.sipush 1000, 3) := by decide +kernel
theorem dX11_box_19 : decode cX11_box 19 = .ok (.irem, 1) := by decide +kernel
theorem dX11_box_20 : decode cX11_box 20 = .ok (.sipush 198, 3) := by decide +kernel
theorem dX11_box_23 : decode cX11_box 23 = .ok (.if_icmp .gt 32, 3) := by decide +kernel
theorem dX11_box_26 : decode cX11_box 26 = .ok (.iload_n 2, 1) := by decide +kernel
theorem dX11_box_27 : decode cX11_box 27 = .ok (.iconst 0, 1) := by decide +kernel
theorem dX11_box_28 : decode cX11_box 28 = .ok (.bipush 9, 2) := by decide +kernel
theorem dX11_box_30 : decode cX11_box 30 = .ok (.invokestatic 66, 3) := by decide +kernel
theorem dX11_box_33 : decode cX11_box 33 = .ok (.ifCond .eq 22, 3) := by decide +kernel
theorem dX11_box_36 : decode cX11_box 36 = .ok (.iload_n 3, 1) := by decide +kernel
theorem dX11_box_37 : decode cX11_box 37 = .ok (.iconst 0, 1) := by decide +kernel
theorem dX11_box_38 : decode cX11_box 38 = .ok (.ldc_w 292, 3) := by decide +kernel
theorem dX11_box_41 : decode cX11_box 41 = .ok (.invokestatic 66, 3) := by decide +kernel
theorem dX11_box_44 : decode cX11_box 44 = .ok (.ifCond .eq 11, 3) := by decide +kernel
theorem dX11_box_47 : decode cX11_box 47 = .ok (.iload 4, 2) := by decide +kernel
theorem dX11_box_49 : decode cX11_box 49 = .ok (.invokestatic 138, 3) := by decide +kernel
theorem dX11_box_52 : decode cX11_box 52 = .ok (.ifCond .ne 6, 3) := by decide +kernel
theorem dX11_box_55 : decode cX11_box 55 = .ok (.bipush (-2), 2) := by decide +kernel
theorem dX11_box_57 : decode cX11_box 57 = .ok (.ireturn, 1) := by decide +kernel
theorem dX11_box_58 : decode cX11_box 58 = .ok (.aload_n 0, 1) := by decide +kernel
theorem dX11_box_59 : decode cX11_box 59 = .ok (.iconst 1, 1) := by decide +kernel
theorem dX11_box_60 : decode cX11_box 60 = .ok (.iload 4, 2) := by decide +kernel
theorem dX11_box_62 : decode cX11_box 62 = .ok (.invokevirtual 293, 3) := by decide +kernel
theorem dX11_box_65 : decode cX11_box 65 = .ok (.istore 5, 2) := by decide +kernel
theorem dX11_box_67 : decode cX11_box 67 = .ok (.aload_n 0, 1) := by decide +kernel
theorem dX11_box_68 : decode cX11_box 68 = .ok (.iconst 0, 1) := by decide +kernel
theorem dX11_box_69 : decode cX11_box 69 = .ok (.iload 4, 2) := by decide +kernel
theorem dX11_box_71 : decode cX11_box 71 = .ok (.invokevirtual 293, 3) := by decide +kernel
theorem dX11_box_74 : decode cX11_box 74 = .ok (.istore 6, 2) := by decide +kernel
theorem dX11_box_76 : decode cX11_box 76 = .ok (.iload_n 1, 1) := by decide +kernel
theorem dX11_box_77 : decode cX11_box 77 = .ok (.sipush 1000, 3) := by decide +kernel
theorem dX11_box_80 : decode cX11_box 80 = .ok (.idiv, 1) := by decide +kernel
theorem dX11_box_81 : decode cX11_box 81 = .ok (.iload_n 1, 1) := by decide +kernel
theorem dX11_box_82 : decode cX11_box 82 = .ok (.sipush 1000, 3) := by decide +kernel
theorem dX11_box_85 : decode cX11_box 85 = .ok (.irem, 1) := by decide +kernel
theorem dX11_box_86 : decode cX11_box 86 = .ok (.invokestatic 189, 3) := by decide +kernel
theorem dX11_box_89 : decode cX11_box 89 = .ok (.iload_n 2, 1) := by decide +kernel
theorem dX11_box_90 : decode cX11_box 90 = .ok (.isub, 1) := by decide +kernel
theorem dX11_box_91 : decode cX11_box 91 = .ok (.istore 7, 2) := by decide +kernel
theorem dX11_box_93 : decode cX11_box 93 = .ok (.iload_n 1, 1) := by decide +kernel
theorem dX11_box_94 : decode cX11_box 94 = .ok (.sipush 1000, 3) := by decide +kernel
theorem dX11_box_97 : decode cX11_box 97 = .ok (.idiv, 1) := by decide +kernel
theorem dX11_box_98 : decode cX11_box 98 = .ok (.iload_n 1, 1) := by decide +kernel
theorem dX11_box_99 : decode cX11_box 99 = .ok (.sipush 1000, 3) := by decide +kernel
theorem dX11_box_102 : decode cX11_box 102 = .ok (.irem, 1) := by decide +kernel
theorem dX11_box_103 : decode cX11_box 103 = .ok (.invokestatic 194, 3) := by decide +kernel
theorem dX11_box_106 : decode cX11_box 106 = .ok (.iload_n 2, 1) := by decide +kernel
theorem dX11_box_107 : decode cX11_box 107 = .ok (.iadd, 1) := by decide +kernel
theorem dX11_box_108 : decode cX11_box 108 = .ok (.istore 8, 2) := by decide +kernel
theorem dX11_box_110 : decode cX11_box 110 = .ok (.iconst 0, 1) := by decide +kernel
theorem dX11_box_111 : decode cX11_box 111 = .ok (.istore 9, 2) := by decide +kernel
theorem dX11_box_113 : decode cX11_box 113 = .ok (.iconst 0, 1) := by decide +kernel
theorem dX11_box_114 : decode cX11_box 114 = .ok (.istore 10, 2) := by decide +kernel
theorem dX11_box_116 : decode cX11_box 116 = .ok (.iload 10, 2) := by decide +kernel
theorem dX11_box_118 : decode cX11_box 118 = .ok (.bipush 99, 2) := by decide +kernel
theorem dX11_box_120 : decode cX11_box 120 = .ok (.if_icmp .gt 63, 3) := by decide +kernel
theorem dX11_box_123 : decode cX11_box 123 = .ok (.bipush 99, 2) := by decide +kernel
theorem dX11_box_125 : decode cX11_box 125 = .ok (.iload 8, 2) := by decide +kernel
theorem dX11_box_127 : decode cX11_box 127 = .ok (.iload 10, 2) := by decide +kernel
theorem dX11_box_129 : decode cX11_box 129 = .ok (.isub, 1) := by decide +kernel
theorem dX11_box_130 : decode cX11_box 130 = .ok (.invokestatic 194, 3) := by decide +kernel
theorem dX11_box_133 : decode cX11_box 133 = .ok (.istore 11, 2) := by decide +kernel
theorem dX11_box_135 : decode cX11_box 135 = .ok (.iconst 0, 1) := by decide +kernel
theorem dX11_box_136 : decode cX11_box 136 = .ok (.iload 7, 2) := by decide +kernel
theorem dX11_box_138 : decode cX11_box 138 = .ok (.iload 10, 2) := by decide +kernel
theorem dX11_box_140 : decode cX11_box 140 = .ok (.isub, 1) := by decide +kernel
theorem dX11_box_141 : decode cX11_box 141 = .ok (.invokestatic 189, 3) := by decide +kernel
theorem dX11_box_144 : decode cX11_box 144 = .ok (.istore 12, 2) := by decide +kernel
theorem dX11_box_146 : decode cX11_box 146 = .ok (.iload 12, 2) := by decide +kernel
theorem dX11_box_148 : decode cX11_box 148 = .ok (.iload 11, 2) := by decide +kernel
theorem dX11_box_150 : decode cX11_box 150 = .ok (.if_icmp .gt 27, 3) := by decide +kernel
theorem dX11_box_153 : decode cX11_box 153 = .ok (.iload 10, 2) := by decide +kernel
theorem dX11_box_155 : decode cX11_box 155 = .ok (.iload 5, 2) := by decide +kernel
theorem dX11_box_157 : decode cX11_box 157 = .ok (.imul, 1) := by decide +kernel
theorem dX11_box_158 : decode cX11_box 158 = .ok (.iload 12, 2) := by decide +kernel
theorem dX11_box_160 : decode cX11_box 160 = .ok (.iload 6, 2) := by decide +kernel
theorem dX11_box_162 : decode cX11_box 162 = .ok (.imul, 1) := by decide +kernel
theorem dX11_box_163 : decode cX11_box 163 = .ok (.iadd, 1) := by decide +kernel
theorem dX11_box_164 : decode cX11_box 164 = .ok (.iload_n 3, 1) := by decide +kernel
theorem dX11_box_165 : decode cX11_box 165 = .ok (.if_icmp .ne 6, 3) := by decide +kernel
theorem dX11_box_168 : decode cX11_box 168 = .ok (.iinc 9 1, 3) := by decide +kernel
theorem dX11_box_171 : decode cX11_box 171 = .ok (.iinc 12 1, 3) := by decide +kernel
theorem dX11_box_174 : decode cX11_box 174 = .ok (.goto (-28), 3) := by decide +kernel
theorem dX11_box_177 : decode cX11_box 177 = .ok (.iinc 10 1, 3) := by decide +kernel
theorem dX11_box_180 : decode cX11_box 180 = .ok (.goto (-64), 3) := by decide +kernel
theorem dX11_box_183 : decode cX11_box 183 = .ok (.iload 9, 2) := by decide +kernel
theorem dX11_box_185 : decode cX11_box 185 = .ok (.ireturn, 1) := by decide +kernel
theorem dX11_shares_0 : decode cX11_shares 0 = .ok (.aload_n 0, 1) := by decide +kernel
theorem dX11_shares_1 : decode cX11_shares 1 = .ok (.iload_n 3, 1) := by decide +kernel
theorem dX11_shares_2 : decode cX11_shares 2 = .ok (.invokevirtual 106, 3) := by decide +kernel
theorem dX11_shares_5 : decode cX11_shares 5 = .ok (.astore 4, 2) := by decide +kernel
theorem dX11_shares_7 : decode cX11_shares 7 = .ok (.aload 4, 2) := by decide +kernel
theorem dX11_shares_9 : decode cX11_shares 9 = .ok (.ifnonnull 16, 3) := by decide +kernel
theorem dX11_shares_12 : decode cX11_shares 12 = .ok (.iload_n 3, 1) := by decide +kernel
theorem dX11_shares_13 : decode cX11_shares 13 = .ok (.iconst (-1), 1) := by decide +kernel
theorem dX11_shares_14 : decode cX11_shares 14 = .ok (.if_icmp .ne 7, 3) := by decide +kernel
theorem dX11_shares_17 : decode cX11_shares 17 = .ok (.iconst 1, 1) := by decide +kernel
theorem dX11_shares_18 : decode cX11_shares 18 = .ok (.goto 21, 3) := by decide +kernel
theorem dX11_shares_21 : decode cX11_shares 21 = .ok (.iconst 0, 1) := by decide +kernel
theorem dX11_shares_22 : decode cX11_shares 22 = .ok (.goto 17, 3) := by decide +kernel
theorem dX11_shares_25 : decode cX11_shares 25 = .ok (.aload 4, 2) := by decide +kernel
theorem dX11_shares_27 : decode cX11_shares 27 = .ok (.getfield 151, 3) := by decide +kernel
theorem dX11_shares_30 : decode cX11_shares 30 = .ok (.iload_n 1, 1) := by decide +kernel
theorem dX11_shares_31 : decode cX11_shares 31 = .ok (.if_icmp .ne 7, 3) := by decide +kernel
theorem dX11_shares_34 : decode cX11_shares 34 = .ok (.iconst 1, 1) := by decide +kernel
theorem dX11_shares_35 : decode cX11_shares 35 = .ok (.goto 4, 3) := by decide +kernel
theorem dX11_shares_38 : decode cX11_shares 38 = .ok (.iconst 0, 1) := by decide +kernel
theorem dX11_shares_39 : decode cX11_shares 39 = .ok (.istore 5, 2) := by decide +kernel
theorem dX11_shares_41 : decode cX11_shares 41 = .ok (.aload_n 0, 1) := by decide +kernel
theorem dX11_shares_42 : decode cX11_shares 42 = .ok (.iload_n 1, 1) := by decide +kernel
theorem dX11_shares_43 : decode cX11_shares 43 = .ok (.i2l, 1) := by decide +kernel
theorem dX11_shares_44 : decode cX11_shares 44 = .ok (.invokevirtual 87, 3) := by decide +kernel
theorem dX11_shares_47 : decode cX11_shares 47 = .ok (.ifnull 19, 3) := by decide +kernel
theorem dX11_shares_50 : decode cX11_shares 50 = .ok (.iload_n 2, 1) := by decide +kernel
theorem dX11_shares_51 : decode cX11_shares 51 = .ok (.iconst 0, 1) := by decide +kernel
theorem dX11_shares_52 : decode cX11_shares 52 = .ok (.ldc_w 292, 3) := by decide +kernel
theorem dX11_shares_55 : decode cX11_shares 55 = .ok (.invokestatic 66, 3) := by decide +kernel
theorem dX11_shares_58 : decode cX11_shares 58 = .ok (.ifCond .eq 8, 3) := by decide +kernel
theorem dX11_shares_61 : decode cX11_shares 61 = .ok (.iload 5, 2) := by decide +kernel
theorem dX11_shares_63 : decode cX11_shares 63 = .ok (.ifCond .ne 6, 3) := by decide +kernel
theorem dX11_shares_66 : decode cX11_shares 66 = .ok (.bipush (-2), 2) := by decide +kernel
theorem dX11_shares_68 : decode cX11_shares 68 = .ok (.ireturn, 1) := by decide +kernel
theorem dX11_shares_69 : decode cX11_shares 69 = .ok (.iconst 0, 1) := by decide +kernel
theorem dX11_shares_70 : decode cX11_shares 70 = .ok (.istore 6, 2) := by decide +kernel
theorem dX11_shares_72 : decode cX11_shares 72 = .ok (.iconst 0, 1) := by decide +kernel
theorem dX11_shares_73 : decode cX11_shares 73 = .ok (.istore 7, 2) := by decide +kernel
theorem dX11_shares_75 : decode cX11_shares 75 = .ok (.iload 7, 2) := by decide +kernel
theorem dX11_shares_77 : decode cX11_shares 77 = .ok (.aload_n 0, 1) := by decide +kernel
theorem dX11_shares_78 : decode cX11_shares 78 = .ok (.getfield 110, 3) := by decide +kernel
theorem dX11_shares_81 : decode cX11_shares 81 = .ok (.if_icmp .ge 42, 3) := by decide +kernel
theorem dX11_shares_84 : decode cX11_shares 84 = .ok (.iload 6, 2) := by decide +kernel
theorem dX11_shares_86 : decode cX11_shares 86 = .ok (.aload_n 0, 1) := by decide +kernel
theorem dX11_shares_87 : decode cX11_shares 87 = .ok (.getfield 17, 3) := by decide +kernel
theorem dX11_shares_90 : decode cX11_shares 90 = .ok (.iload 7, 2) := by decide +kernel
theorem dX11_shares_92 : decode cX11_shares 92 = .ok (.aaload, 1) := by decide +kernel
theorem dX11_shares_93 : decode cX11_shares 93 = .ok (.getfield 151, 3) := by decide +kernel
theorem dX11_shares_96 : decode cX11_shares 96 = .ok (.iload_n 1, 1) := by decide +kernel
theorem dX11_shares_97 : decode cX11_shares 97 = .ok (.if_icmp .ne 16, 3) := by decide +kernel
theorem dX11_shares_100 : decode cX11_shares 100 = .ok (.aload_n 0, 1) := by decide +kernel
theorem dX11_shares_101 : decode cX11_shares 101 = .ok (.getfield 17, 3) := by decide +kernel
theorem dX11_shares_104 : decode cX11_shares 104 = .ok (.iload 7, 2) := by decide +kernel
theorem dX11_shares_106 : decode cX11_shares 106 = .ok (.aaload, 1) := by decide +kernel
theorem dX11_shares_107 : decode cX11_shares 107 = .ok (.invokevirtual 166, 3) := by decide +kernel
theorem dX11_shares_110 : decode cX11_shares 110 = .ok (.goto 4, 3) := by decide +kernel
theorem dX11_shares_113 : decode cX11_shares 113 = .ok (.iconst 0, 1) := by decide +kernel
theorem dX11_shares_114 : decode cX11_shares 114 = .ok (.iadd, 1) := by decide +kernel
theorem dX11_shares_115 : decode cX11_shares 115 = .ok (.istore 6, 2) := by decide +kernel
theorem dX11_shares_117 : decode cX11_shares 117 = .ok (.iinc 7 1, 3) := by decide +kernel
theorem dX11_shares_120 : decode cX11_shares 120 = .ok (.goto (-45), 3) := by decide +kernel
theorem dX11_shares_123 : decode cX11_shares 123 = .ok (.aload 4, 2) := by decide +kernel
theorem dX11_shares_125 : decode cX11_shares 125 = .ok (.ifnull 12, 3) := by decide +kernel
theorem dX11_shares_128 : decode cX11_shares 128 = .ok (.aload 4, 2) := by decide +kernel
theorem dX11_shares_130 : decode cX11_shares 130 = .ok (.iload_n 2, 1) := by decide +kernel
theorem dX11_shares_131 : decode cX11_shares 131 = .ok (.iload 6, 2) := by decide +kernel
theorem dX11_shares_133 : decode cX11_shares 133 = .ok (.invokestatic 296, 3) := by decide +kernel
theorem dX11_shares_136 : decode cX11_shares 136 = .ok (.ireturn, 1) := by decide +kernel
theorem dX11_shares_137 : decode cX11_shares 137 = .ok (.iload_n 2, 1) := by decide +kernel
theorem dX11_shares_138 : decode cX11_shares 138 = .ok (.istore 7, 2) := by decide +kernel
theorem dX11_shares_140 : decode cX11_shares 140 = .ok (.iconst 0, 1) := by decide +kernel
theorem dX11_shares_141 : decode cX11_shares 141 = .ok (.istore 8, 2) := by decide +kernel
theorem dX11_shares_143 : decode cX11_shares 143 = .ok (.iload 8, 2) := by decide +kernel
theorem dX11_shares_145 : decode cX11_shares 145 = .ok (.aload_n 0, 1) := by decide +kernel
theorem dX11_shares_146 : decode cX11_shares 146 = .ok (.getfield 110, 3) := by decide +kernel
theorem dX11_shares_149 : decode cX11_shares 149 = .ok (.if_icmp .ge 45, 3) := by decide +kernel
theorem dX11_shares_152 : decode cX11_shares 152 = .ok (.iload 7, 2) := by decide +kernel
theorem dX11_shares_154 : decode cX11_shares 154 = .ok (.aload_n 0, 1) := by decide +kernel
theorem dX11_shares_155 : decode cX11_shares 155 = .ok (.getfield 17, 3) := by decide +kernel
theorem dX11_shares_158 : decode cX11_shares 158 = .ok (.iload 8, 2) := by decide +kernel
theorem dX11_shares_160 : decode cX11_shares 160 = .ok (.aaload, 1) := by decide +kernel
theorem dX11_shares_161 : decode cX11_shares 161 = .ok (.getfield 151, 3) := by decide +kernel
theorem dX11_shares_164 : decode cX11_shares 164 = .ok (.iload_n 1, 1) := by decide +kernel
theorem dX11_shares_165 : decode cX11_shares 165 = .ok (.if_icmp .ne 19, 3) := by decide +kernel
theorem dX11_shares_168 : decode cX11_shares 168 = .ok (.aload_n 0, 1) := by decide +kernel
theorem dX11_shares_169 : decode cX11_shares 169 = .ok (.getfield 17, 3) := by decide +kernel
theorem dX11_shares_172 : decode cX11_shares 172 = .ok (.iload 8, 2) := by decide +kernel
theorem dX11_shares_174 : decode cX11_shares 174 = .ok (.aaload, 1) := by decide +kernel
theorem dX11_shares_175 : decode cX11_shares 175 = .ok (.iload_n 2, 1) := by decide +kernel
theorem dX11_shares_176 : decode cX11_shares 176 = .ok (.iload 6, 2) := by decide +kernel
theorem dX11_shares_178 : decode cX11_shares 178 = .ok (.invokestatic 296, 3) := by decide +kernel
theorem dX11_shares_181 : decode cX11_shares 181 = .ok (.goto 4, 3) := by decide +kernel
theorem dX11_shares_184 : decode cX11_shares 184 = .ok (.iconst 0, 1) := by decide +kernel
theorem dX11_shares_185 : decode cX11_shares 185 = .ok (.isub, 1) := by decide +kernel
theorem dX11_shares_186 : decode cX11_shares 186 = .ok (.istore 7, 2) := by decide +kernel
theorem dX11_shares_188 : decode cX11_shares 188 = .ok (.iinc 8 1, 3) := by decide +kernel
theorem dX11_shares_191 : decode cX11_shares 191 = .ok (.goto (-48), 3) := by decide +kernel
theorem dX11_shares_194 : decode cX11_shares 194 = .ok (.iload 7, 2) := by decide +kernel
theorem dX11_shares_196 : decode cX11_shares 196 = .ok (.ireturn, 1) := by decide +kernel
theorem dX11_shareOf_0 : decode cX11_shareOf 0 = .ok (.iload_n 2, 1) := by decide +kernel
theorem dX11_shareOf_1 : decode cX11_shareOf 1 = .ok (.iconst 1, 1) := by decide +kernel
theorem dX11_shareOf_2 : decode cX11_shareOf 2 = .ok (.if_icmp .ge 7, 3) := by decide +kernel
theorem dX11_shareOf_5 : decode cX11_shareOf 5 = .ok (.iconst 0, 1) := by decide +kernel
theorem dX11_shareOf_6 : decode cX11_shareOf 6 = .ok (.goto 11, 3) := by decide +kernel
theorem dX11_shareOf_9 : decode cX11_shareOf 9 = .ok (.iload_n 1, 1) := by decide +kernel
theorem dX11_shareOf_10 : decode cX11_shareOf 10 = .ok (.aload_n 0, 1) := by decide +kernel
theorem dX11_shareOf_11 : decode cX11_shareOf 11 = .ok (.invokevirtual 166, 3) := by decide +kernel
theorem dX11_shareOf_14 : decode cX11_shareOf 14 = .ok (.imul, 1) := by decide +kernel
theorem dX11_shareOf_15 : decode cX11_shareOf 15 = .ok (.iload_n 2, 1) := by decide +kernel
theorem dX11_shareOf_16 : decode cX11_shareOf 16 = .ok (.idiv, 1) := by decide +kernel
theorem dX11_shareOf_17 : decode cX11_shareOf 17 = .ok (.ireturn, 1) := by decide +kernel
theorem dX11_bridge_0 : decode cX11_bridge 0 = .ok (.aload_n 0, 1) := by decide +kernel
theorem dX11_bridge_1 : decode cX11_bridge 1 = .ok (.iload_n 1, 1) := by decide +kernel
theorem dX11_bridge_2 : decode cX11_bridge 2 = .ok (.i2l, 1) := by decide +kernel
theorem dX11_bridge_3 : decode cX11_bridge 3 = .ok (.invokevirtual 87, 3) := by decide +kernel
theorem dX11_bridge_6 : decode cX11_bridge 6 = .ok (.astore_n 3, 1) := by decide +kernel
theorem dX11_bridge_7 : decode cX11_bridge 7 = .ok (.aload_n 3, 1) := by decide +kernel
theorem dX11_bridge_8 : decode cX11_bridge 8 = .ok (.ifnull 28, 3) := by decide +kernel
theorem dX11_bridge_11 : decode cX11_bridge 11 = .ok (.iload_n 2, 1) := by decide +kernel
theorem dX11_bridge_12 : decode cX11_bridge 12 = .ok (.iconst 0, 1) := by decide +kernel
theorem dX11_bridge_13 : decode cX11_bridge 13 = .ok (.bipush 100, 2) := by decide +kernel
theorem dX11_bridge_15 : decode cX11_bridge 15 = .ok (.invokestatic 66, 3) := by decide +kernel
theorem dX11_bridge_18 : decode cX11_bridge 18 = .ok (.ifCond .eq 18, 3) := by decide +kernel
theorem dX11_bridge_21 : decode cX11_bridge 21 = .ok (.aload_n 3, 1) := by decide +kernel
theorem dX11_bridge_22 : decode cX11_bridge 22 = .ok (.getfield 259, 3) := by decide +kernel
theorem dX11_bridge_25 : decode cX11_bridge 25 = .ok (.bipush 100, 2) := by decide +kernel
theorem dX11_bridge_27 : decode cX11_bridge 27 = .ok (.iload_n 2, 1) := by decide +kernel
theorem dX11_bridge_28 : decode cX11_bridge 28 = .ok (.isub, 1) := by decide +kernel
theorem dX11_bridge_29 : decode cX11_bridge 29 = .ok (.imul, 1) := by decide +kernel
theorem dX11_bridge_30 : decode cX11_bridge 30 = .ok (.bipush 100, 2) := by decide +kernel
theorem dX11_bridge_32 : decode cX11_bridge 32 = .ok (.idiv, 1) := by decide +kernel
theorem dX11_bridge_33 : decode cX11_bridge 33 = .ok (.goto 5, 3) := by decide +kernel
theorem dX11_bridge_36 : decode cX11_bridge 36 = .ok (.bipush (-2), 2) := by decide +kernel
theorem dX11_bridge_38 : decode cX11_bridge 38 = .ok (.ireturn, 1) := by decide +kernel
theorem dX11_image_0 : decode cX11_image 0 = .ok (.aload_n 0, 1) := by decide +kernel
theorem dX11_image_1 : decode cX11_image 1 = .ok (.aload_n 0, 1) := by decide +kernel
theorem dX11_image_2 : decode cX11_image 2 = .ok (.getfield 100, 3) := by decide +kernel
theorem dX11_image_5 : decode cX11_image 5 = .ok (.putfield 300, 3) := by decide +kernel
theorem dX11_image_8 : decode cX11_image 8 = .ok (.aload_n 0, 1) := by decide +kernel
theorem dX11_image_9 : decode cX11_image 9 = .ok (.aload_n 0, 1) := by decide +kernel
theorem dX11_image_10 : decode cX11_image 10 = .ok (.getfield 103, 3) := by decide +kernel
theorem dX11_image_13 : decode cX11_image 13 = .ok (.putfield 303, 3) := by decide +kernel
theorem dX11_image_16 : decode cX11_image 16 = .ok (.aload_n 0, 1) := by decide +kernel
theorem dX11_image_17 : decode cX11_image 17 = .ok (.aload_n 0, 1) := by decide +kernel
theorem dX11_image_18 : decode cX11_image 18 = .ok (.getfield 24, 3) := by decide +kernel
theorem dX11_image_21 : decode cX11_image 21 = .ok (.getfield 180, 3) := by decide +kernel
theorem dX11_image_24 : decode cX11_image 24 = .ok (.putfield 306, 3) := by decide +kernel
theorem dX11_image_27 : decode cX11_image 27 = .ok (.aload_n 0, 1) := by decide +kernel
theorem dX11_image_28 : decode cX11_image 28 = .ok (.aload_n 0, 1) := by decide +kernel
theorem dX11_image_29 : decode cX11_image 29 = .ok (.getfield 74, 3) := by decide +kernel
theorem dX11_image_32 : decode cX11_image 32 = .ok (.putfield 309, 3) := by decide +kernel
theorem dX11_image_35 : decode cX11_image 35 = .ok (.aload_n 0, 1) := by decide +kernel
theorem dX11_image_36 : decode cX11_image 36 = .ok (.aload_n 0, 1) := by decide +kernel
theorem dX11_image_37 : decode cX11_image 37 = .ok (.getfield 110, 3) := by decide +kernel
theorem dX11_image_40 : decode cX11_image 40 = .ok (.putfield 312, 3) := by decide +kernel
theorem dX11_image_43 : decode cX11_image 43 = .ok (.iconst 0, 1) := by decide +kernel
theorem dX11_image_44 : decode cX11_image 44 = .ok (.istore_n 1, 1) := by decide +kernel
theorem dX11_image_45 : decode cX11_image 45 = .ok (.iload_n 1, 1) := by decide +kernel
theorem dX11_image_46 : decode cX11_image 46 = .ok (.aload_n 0, 1) := by decide +kernel
theorem dX11_image_47 : decode cX11_image 47 = .ok (.getfield 74, 3) := by decide +kernel
theorem dX11_image_50 : decode cX11_image 50 = .ok (.if_icmp .ge 18, 3) := by decide +kernel
theorem dX11_image_53 : decode cX11_image 53 = .ok (.aload_n 0, 1) := by decide +kernel
theorem dX11_image_54 : decode cX11_image 54 = .ok (.getfield 11, 3) := by decide +kernel
theorem dX11_image_57 : decode cX11_image 57 = .ok (.iload_n 1, 1) := by decide +kernel
theorem dX11_image_58 : decode cX11_image 58 = .ok (.aaload, 1) := by decide +kernel
theorem dX11_image_59 : decode cX11_image 59 = .ok (.invokevirtual 315, 3) := by decide +kernel
theorem dX11_image_62 : decode cX11_image 62 = .ok (.iinc 1 1, 3) := by decide +kernel
theorem dX11_image_65 : decode cX11_image 65 = .ok (.goto (-20), 3) := by decide +kernel
theorem dX11_image_68 : decode cX11_image 68 = .ok (.iconst 0, 1) := by decide +kernel
theorem dX11_image_69 : decode cX11_image 69 = .ok (.istore_n 1, 1) := by decide +kernel
theorem dX11_image_70 : decode cX11_image 70 = .ok (.iload_n 1, 1) := by decide +kernel
theorem dX11_image_71 : decode cX11_image 71 = .ok (.aload_n 0, 1) := by decide +kernel
theorem dX11_image_72 : decode cX11_image 72 = .ok (.getfield 110, 3) := by decide +kernel
theorem dX11_image_75 : decode cX11_image 75 = .ok (.if_icmp .ge 18, 3) := by decide +kernel
theorem dX11_image_78 : decode cX11_image 78 = .ok (.aload_n 0, 1) := by decide +kernel
theorem dX11_image_79 : decode cX11_image 79 = .ok (.getfield 17, 3) := by decide +kernel
theorem dX11_image_82 : decode cX11_image 82 = .ok (.iload_n 1, 1) := by decide +kernel
theorem dX11_image_83 : decode cX11_image 83 = .ok (.aaload, 1) := by decide +kernel
theorem dX11_image_84 : decode cX11_image 84 = .ok (.invokevirtual 318, 3) := by decide +kernel
theorem dX11_image_87 : decode cX11_image 87 = .ok (.iinc 1 1, 3) := by decide +kernel
theorem dX11_image_90 : decode cX11_image 90 = .ok (.goto (-20), 3) := by decide +kernel
theorem dX11_image_93 : decode cX11_image 93 = .ok (.aload_n 0, 1) := by decide +kernel
theorem dX11_image_94 : decode cX11_image 94 = .ok (.getfield 42, 3) := by decide +kernel
theorem dX11_image_97 : decode cX11_image 97 = .ok (.invokevirtual 319, 3) := by decide +kernel
theorem dX11_image_100 : decode cX11_image 100 = .ok (.aload_n 0, 1) := by decide +kernel
theorem dX11_image_101 : decode cX11_image 101 = .ok (.iconst 1, 1) := by decide +kernel
theorem dX11_image_102 : decode cX11_image 102 = .ok (.putfield 320, 3) := by decide +kernel
theorem dX11_image_105 : decode cX11_image 105 = .ok (.aload_n 0, 1) := by decide +kernel
theorem dX11_image_106 : decode cX11_image 106 = .ok (.getfield 110, 3) := by decide +kernel
theorem dX11_image_109 : decode cX11_image 109 = .ok (.ireturn, 1) := by decide +kernel
theorem dX11_back_0 : decode cX11_back 0 = .ok (.aload_n 0, 1) := by decide +kernel
theorem dX11_back_1 : decode cX11_back 1 = .ok (.getfield 320, 3) := by decide +kernel
theorem dX11_back_4 : decode cX11_back 4 = .ok (.ifCond .ne 6, 3) := by decide +kernel
theorem dX11_back_7 : decode cX11_back 7 = .ok (.bipush (-3), 2) := by decide +kernel
theorem dX11_back_9 : decode cX11_back 9 = .ok (.ireturn, 1) := by decide +kernel
theorem dX11_back_10 : decode cX11_back 10 = .ok (.aload_n 0, 1) := by decide +kernel
theorem dX11_back_11 : decode cX11_back 11 = .ok (.aload_n 0, 1) := by decide +kernel
theorem dX11_back_12 : decode cX11_back 12 = .ok (.getfield 300, 3) := by decide +kernel
theorem dX11_back_15 : decode cX11_back 15 = .ok (.putfield 100, 3) := by decide +kernel
theorem dX11_back_18 : decode cX11_back 18 = .ok (.aload_n 0, 1) := by decide +kernel
theorem dX11_back_19 : decode cX11_back 19 = .ok (.aload_n 0, 1) := by decide +kernel
theorem dX11_back_20 : decode cX11_back 20 = .ok (.getfield 303, 3) := by decide +kernel
theorem dX11_back_23 : decode cX11_back 23 = .ok (.putfield 103, 3) := by decide +kernel
theorem dX11_back_26 : decode cX11_back 26 = .ok (.aload_n 0, 1) := by decide +kernel
theorem dX11_back_27 : decode cX11_back 27 = .ok (.getfield 24, 3) := by decide +kernel
theorem dX11_back_30 : decode cX11_back 30 = .ok (.aload_n 0, 1) := by decide +kernel
theorem dX11_back_31 : decode cX11_back 31 = .ok (.getfield 306, 3) := by decide +kernel
theorem dX11_back_34 : decode cX11_back 34 = .ok (.putfield 180, 3) := by decide +kernel
theorem dX11_back_37 : decode cX11_back 37 = .ok (.iconst 0, 1) := by decide +kernel
theorem dX11_back_38 : decode cX11_back 38 = .ok (.istore_n 1, 1) := by decide +kernel
theorem dX11_back_39 : decode cX11_back 39 = .ok (.iload_n 1, 1) := by decide +kernel
theorem dX11_back_40 : decode cX11_back 40 = .ok (.aload_n 0, 1) := by decide +kernel
theorem dX11_back_41 : decode cX11_back 41 = .ok (.getfield 309, 3) := by decide +kernel
theorem dX11_back_44 : decode cX11_back 44 = .ok (.if_icmp .ge 18, 3) := by decide +kernel
theorem dX11_back_47 : decode cX11_back 47 = .ok (.aload_n 0, 1) := by decide +kernel
theorem dX11_back_48 : decode cX11_back 48 = .ok (.getfield 11, 3) := by decide +kernel
theorem dX11_back_51 : decode cX11_back 51 = .ok (.iload_n 1, 1) := by decide +kernel
theorem dX11_back_52 : decode cX11_back 52 = .ok (.aaload, 1) := by decide +kernel
theorem dX11_back_53 : decode cX11_back 53 = .ok (.invokevirtual 324, 3) := by decide +kernel
theorem dX11_back_56 : decode cX11_back 56 = .ok (.iinc 1 1, 3) := by decide +kernel
theorem dX11_back_59 : decode cX11_back 59 = .ok (.goto (-20), 3) := by decide +kernel
theorem dX11_back_62 : decode cX11_back 62 = .ok (.iconst 0, 1) := by decide +kernel
theorem dX11_back_63 : decode cX11_back 63 = .ok (.istore_n 1, 1) := by decide +kernel
theorem dX11_back_64 : decode cX11_back 64 = .ok (.iload_n 1, 1) := by decide +kernel
theorem dX11_back_65 : decode cX11_back 65 = .ok (.aload_n 0, 1) := by decide +kernel
theorem dX11_back_66 : decode cX11_back 66 = .ok (.getfield 312, 3) := by decide +kernel
theorem dX11_back_69 : decode cX11_back 69 = .ok (.if_icmp .ge 18, 3) := by decide +kernel
theorem dX11_back_72 : decode cX11_back 72 = .ok (.aload_n 0, 1) := by decide +kernel
theorem dX11_back_73 : decode cX11_back 73 = .ok (.getfield 17, 3) := by decide +kernel
theorem dX11_back_76 : decode cX11_back 76 = .ok (.iload_n 1, 1) := by decide +kernel
theorem dX11_back_77 : decode cX11_back 77 = .ok (.aaload, 1) := by decide +kernel
theorem dX11_back_78 : decode cX11_back 78 = .ok (.invokevirtual 327, 3) := by decide +kernel
theorem dX11_back_81 : decode cX11_back 81 = .ok (.iinc 1 1, 3) := by decide +kernel
theorem dX11_back_84 : decode cX11_back 84 = .ok (.goto (-20), 3) := by decide +kernel
theorem dX11_back_87 : decode cX11_back 87 = .ok (.aload_n 0, 1) := by decide +kernel
theorem dX11_back_88 : decode cX11_back 88 = .ok (.getfield 42, 3) := by decide +kernel
theorem dX11_back_91 : decode cX11_back 91 = .ok (.invokevirtual 328, 3) := by decide +kernel
theorem dX11_back_94 : decode cX11_back 94 = .ok (.aload_n 0, 1) := by decide +kernel
theorem dX11_back_95 : decode cX11_back 95 = .ok (.getfield 110, 3) := by decide +kernel
theorem dX11_back_98 : decode cX11_back 98 = .ok (.ireturn, 1) := by decide +kernel
theorem dX11_count_0 : decode cX11_count 0 = .ok (.iload_n 1, 1) := by decide +kernel
theorem dX11_count_1 : decode cX11_count 1 = .ok (.tableswitch 96 0 7 #[47, 52, 57, 62, 67, 72, 80, 88], 47) := by decide +kernel
theorem dX11_count_48 : decode cX11_count 48 = .ok (.aload_n 0, 1) := by decide +kernel
theorem dX11_count_49 : decode cX11_count 49 = .ok (.getfield 74, 3) := by decide +kernel
theorem dX11_count_52 : decode cX11_count 52 = .ok (.ireturn, 1) := by decide +kernel
theorem dX11_count_53 : decode cX11_count 53 = .ok (.aload_n 0, 1) := by decide +kernel
theorem dX11_count_54 : decode cX11_count 54 = .ok (.getfield 110, 3) := by decide +kernel
theorem dX11_count_57 : decode cX11_count 57 = .ok (.ireturn, 1) := by decide +kernel
theorem dX11_count_58 : decode cX11_count 58 = .ok (.aload_n 0, 1) := by decide +kernel
theorem dX11_count_59 : decode cX11_count 59 = .ok (.invokevirtual 329, 3) := by decide +kernel
theorem dX11_count_62 : decode cX11_count 62 = .ok (.ireturn, 1) := by decide +kernel
theorem dX11_count_63 : decode cX11_count 63 = .ok (.aload_n 0, 1) := by decide +kernel
theorem dX11_count_64 : decode cX11_count 64 = .ok (.invokevirtual 332, 3) := by decide +kernel
theorem dX11_count_67 : decode cX11_count 67 = .ok (.ireturn, 1) := by decide +kernel
theorem dX11_count_68 : decode cX11_count 68 = .ok (.aload_n 0, 1) := by decide +kernel
theorem dX11_count_69 : decode cX11_count 69 = .ok (.invokevirtual 335, 3) := by decide +kernel
theorem dX11_count_72 : decode cX11_count 72 = .ok (.ireturn, 1) := by decide +kernel
theorem dX11_count_73 : decode cX11_count 73 = .ok (.aload_n 0, 1) := by decide +kernel
theorem dX11_count_74 : decode cX11_count 74 = .ok (.getfield 24, 3) := by decide +kernel
theorem dX11_count_77 : decode cX11_count 77 = .ok (.getfield 177, 3) := by decide +kernel
theorem dX11_count_80 : decode cX11_count 80 = .ok (.ireturn, 1) := by decide +kernel
theorem dX11_count_81 : decode cX11_count 81 = .ok (.aload_n 0, 1) := by decide +kernel
theorem dX11_count_82 : decode cX11_count 82 = .ok (.getfield 24, 3) := by decide +kernel
theorem dX11_count_85 : decode cX11_count 85 = .ok (.getfield 338, 3) := by decide +kernel
theorem dX11_count_88 : decode cX11_count 88 = .ok (.ireturn, 1) := by decide +kernel
theorem dX11_count_89 : decode cX11_count 89 = .ok (.aload_n 0, 1) := by decide +kernel
theorem dX11_count_90 : decode cX11_count 90 = .ok (.getfield 24, 3) := by decide +kernel
theorem dX11_count_93 : decode cX11_count 93 = .ok (.getfield 180, 3) := by decide +kernel
theorem dX11_count_96 : decode cX11_count 96 = .ok (.ireturn, 1) := by decide +kernel
theorem dX11_count_97 : decode cX11_count 97 = .ok (.bipush (-2), 2) := by decide +kernel
theorem dX11_count_99 : decode cX11_count 99 = .ok (.ireturn, 1) := by decide +kernel
theorem dX11_openOnes_0 : decode cX11_openOnes 0 = .ok (.iconst 0, 1) := by decide +kernel
theorem dX11_openOnes_1 : decode cX11_openOnes 1 = .ok (.istore_n 1, 1) := by decide +kernel
theorem dX11_openOnes_2 : decode cX11_openOnes 2 = .ok (.iconst 0, 1) := by decide +kernel
theorem dX11_openOnes_3 : decode cX11_openOnes 3 = .ok (.istore_n 2, 1) := by decide +kernel
theorem dX11_openOnes_4 : decode cX11_openOnes 4 = .ok (.iload_n 2, 1) := by decide +kernel
theorem dX11_openOnes_5 : decode cX11_openOnes 5 = .ok (.aload_n 0, 1) := by decide +kernel
theorem dX11_openOnes_6 : decode cX11_openOnes 6 = .ok (.getfield 74, 3) := by decide +kernel
theorem dX11_openOnes_9 : decode cX11_openOnes 9 = .ok (.if_icmp .ge 21, 3) := by decide +kernel
theorem dX11_openOnes_12 : decode cX11_openOnes 12 = .ok (.iload_n 1, 1) := by decide +kernel
theorem dX11_openOnes_13 : decode cX11_openOnes 13 = .ok (.aload_n 0, 1) := by decide +kernel
theorem dX11_openOnes_14 : decode cX11_openOnes 14 = .ok (.getfield 11, 3) := by decide +kernel
theorem dX11_openOnes_17 : decode cX11_openOnes 17 = .ok (.iload_n 2, 1) := by decide +kernel
theorem dX11_openOnes_18 : decode cX11_openOnes 18 = .ok (.aaload, 1) := by decide +kernel
theorem dX11_openOnes_19 : decode cX11_openOnes 19 = .ok (.getfield 339, 3) := by decide +kernel
theorem dX11_openOnes_22 : decode cX11_openOnes 22 = .ok (.iadd, 1) := by decide +kernel
theorem dX11_openOnes_23 : decode cX11_openOnes 23 = .ok (.istore_n 1, 1) := by decide +kernel
theorem dX11_openOnes_24 : decode cX11_openOnes 24 = .ok (.iinc 2 1, 3) := by decide +kernel
theorem dX11_openOnes_27 : decode cX11_openOnes 27 = .ok (.goto (-23), 3) := by decide +kernel
theorem dX11_openOnes_30 : decode cX11_openOnes 30 = .ok (.iload_n 1, 1) := by decide +kernel
theorem dX11_openOnes_31 : decode cX11_openOnes 31 = .ok (.ireturn, 1) := by decide +kernel
theorem dX11_illOnes_0 : decode cX11_illOnes 0 = .ok (.iconst 0, 1) := by decide +kernel
theorem dX11_illOnes_1 : decode cX11_illOnes 1 = .ok (.istore_n 1, 1) := by decide +kernel
theorem dX11_illOnes_2 : decode cX11_illOnes 2 = .ok (.iconst 0, 1) := by decide +kernel
theorem dX11_illOnes_3 : decode cX11_illOnes 3 = .ok (.istore_n 2, 1) := by decide +kernel
theorem dX11_illOnes_4 : decode cX11_illOnes 4 = .ok (.iload_n 2, 1) := by decide +kernel
theorem dX11_illOnes_5 : decode cX11_illOnes 5 = .ok (.aload_n 0, 1) := by decide +kernel
theorem dX11_illOnes_6 : decode cX11_illOnes 6 = .ok (.getfield 110, 3) := by decide +kernel
theorem dX11_illOnes_9 : decode cX11_illOnes 9 = .ok (.if_icmp .ge 21, 3) := by decide +kernel
theorem dX11_illOnes_12 : decode cX11_illOnes 12 = .ok (.iload_n 1, 1) := by decide +kernel
theorem dX11_illOnes_13 : decode cX11_illOnes 13 = .ok (.aload_n 0, 1) := by decide +kernel
theorem dX11_illOnes_14 : decode cX11_illOnes 14 = .ok (.getfield 17, 3) := by decide +kernel
theorem dX11_illOnes_17 : decode cX11_illOnes 17 = .ok (.iload_n 2, 1) := by decide +kernel
theorem dX11_illOnes_18 : decode cX11_illOnes 18 = .ok (.aaload, 1) := by decide +kernel
theorem dX11_illOnes_19 : decode cX11_illOnes 19 = .ok (.getfield 135, 3) := by decide +kernel
theorem dX11_illOnes_22 : decode cX11_illOnes 22 = .ok (.iadd, 1) := by decide +kernel
theorem dX11_illOnes_23 : decode cX11_illOnes 23 = .ok (.istore_n 1, 1) := by decide +kernel
theorem dX11_illOnes_24 : decode cX11_illOnes 24 = .ok (.iinc 2 1, 3) := by decide +kernel
theorem dX11_illOnes_27 : decode cX11_illOnes 27 = .ok (.goto (-23), 3) := by decide +kernel
theorem dX11_illOnes_30 : decode cX11_illOnes 30 = .ok (.iload_n 1, 1) := by decide +kernel
theorem dX11_illOnes_31 : decode cX11_illOnes 31 = .ok (.ireturn, 1) := by decide +kernel
theorem dX11_turnsInAll_0 : decode cX11_turnsInAll 0 = .ok (.iconst 0, 1) := by decide +kernel
theorem dX11_turnsInAll_1 : decode cX11_turnsInAll 1 = .ok (.istore_n 1, 1) := by decide +kernel
theorem dX11_turnsInAll_2 : decode cX11_turnsInAll 2 = .ok (.iconst 0, 1) := by decide +kernel
theorem dX11_turnsInAll_3 : decode cX11_turnsInAll 3 = .ok (.istore_n 2, 1) := by decide +kernel
theorem dX11_turnsInAll_4 : decode cX11_turnsInAll 4 = .ok (.iload_n 2, 1) := by decide +kernel
theorem dX11_turnsInAll_5 : decode cX11_turnsInAll 5 = .ok (.aload_n 0, 1) := by decide +kernel
theorem dX11_turnsInAll_6 : decode cX11_turnsInAll 6 = .ok (.getfield 110, 3) := by decide +kernel
theorem dX11_turnsInAll_9 : decode cX11_turnsInAll 9 = .ok (.if_icmp .ge 21, 3) := by decide +kernel
theorem dX11_turnsInAll_12 : decode cX11_turnsInAll 12 = .ok (.iload_n 1, 1) := by decide +kernel
theorem dX11_turnsInAll_13 : decode cX11_turnsInAll 13 = .ok (.aload_n 0, 1) := by decide +kernel
theorem dX11_turnsInAll_14 : decode cX11_turnsInAll 14 = .ok (.getfield 17, 3) := by decide +kernel
theorem dX11_turnsInAll_17 : decode cX11_turnsInAll 17 = .ok (.iload_n 2, 1) := by decide +kernel
theorem dX11_turnsInAll_18 : decode cX11_turnsInAll 18 = .ok (.aaload, 1) := by decide +kernel
theorem dX11_turnsInAll_19 : decode cX11_turnsInAll 19 = .ok (.getfield 157, 3) := by decide +kernel
theorem dX11_turnsInAll_22 : decode cX11_turnsInAll 22 = .ok (.iadd, 1) := by decide +kernel
theorem dX11_turnsInAll_23 : decode cX11_turnsInAll 23 = .ok (.istore_n 1, 1) := by decide +kernel
theorem dX11_turnsInAll_24 : decode cX11_turnsInAll 24 = .ok (.iinc 2 1, 3) := by decide +kernel
theorem dX11_turnsInAll_27 : decode cX11_turnsInAll 27 = .ok (.goto (-23), 3) := by decide +kernel
theorem dX11_turnsInAll_30 : decode cX11_turnsInAll 30 = .ok (.iload_n 1, 1) := by decide +kernel
theorem dX11_turnsInAll_31 : decode cX11_turnsInAll 31 = .ok (.ireturn, 1) := by decide +kernel
theorem dX11_sheet_0 : decode cX11_sheet 0 = .ok (.aload_n 0, 1) := by decide +kernel
theorem dX11_sheet_1 : decode cX11_sheet 1 = .ok (.iload_n 1, 1) := by decide +kernel
theorem dX11_sheet_2 : decode cX11_sheet 2 = .ok (.invokevirtual 204, 3) := by decide +kernel
theorem dX11_sheet_5 : decode cX11_sheet 5 = .ok (.astore 4, 2) := by decide +kernel
theorem dX11_sheet_7 : decode cX11_sheet 7 = .ok (.aload 4, 2) := by decide +kernel
theorem dX11_sheet_9 : decode cX11_sheet 9 = .ok (.ifnull 23, 3) := by decide +kernel
theorem dX11_sheet_12 : decode cX11_sheet 12 = .ok (.iload_n 2, 1) := by decide +kernel
theorem dX11_sheet_13 : decode cX11_sheet 13 = .ok (.iconst (-1), 1) := by decide +kernel
theorem dX11_sheet_14 : decode cX11_sheet 14 = .ok (.iconst 2, 1) := by decide +kernel
theorem dX11_sheet_15 : decode cX11_sheet 15 = .ok (.invokestatic 66, 3) := by decide +kernel
theorem dX11_sheet_18 : decode cX11_sheet 18 = .ok (.ifCond .eq 14, 3) := by decide +kernel
theorem dX11_sheet_21 : decode cX11_sheet 21 = .ok (.iload_n 2, 1) := by decide +kernel
theorem dX11_sheet_22 : decode cX11_sheet 22 = .ok (.iconst (-1), 1) := by decide +kernel
theorem dX11_sheet_23 : decode cX11_sheet 23 = .ok (.if_icmp .eq 12, 3) := by decide +kernel
theorem dX11_sheet_26 : decode cX11_sheet 26 = .ok (.iload_n 3, 1) := by decide +kernel
theorem dX11_sheet_27 : decode cX11_sheet 27 = .ok (.bipush 40, 2) := by decide +kernel
theorem dX11_sheet_29 : decode cX11_sheet 29 = .ok (.if_icmp .le 6, 3) := by decide +kernel
theorem dX11_sheet_32 : decode cX11_sheet 32 = .ok (.bipush (-2), 2) := by decide +kernel
theorem dX11_sheet_34 : decode cX11_sheet 34 = .ok (.ireturn, 1) := by decide +kernel
theorem dX11_sheet_35 : decode cX11_sheet 35 = .ok (.iload_n 2, 1) := by decide +kernel
theorem dX11_sheet_36 : decode cX11_sheet 36 = .ok (.iconst (-1), 1) := by decide +kernel
theorem dX11_sheet_37 : decode cX11_sheet 37 = .ok (.if_icmp .eq 10, 3) := by decide +kernel
theorem dX11_sheet_40 : decode cX11_sheet 40 = .ok (.iload_n 3, 1) := by decide +kernel
theorem dX11_sheet_41 : decode cX11_sheet 41 = .ok (.ifCond .ge 6, 3) := by decide +kernel
theorem dX11_sheet_44 : decode cX11_sheet 44 = .ok (.bipush (-14), 2) := by decide +kernel
theorem dX11_sheet_46 : decode cX11_sheet 46 = .ok (.ireturn, 1) := by decide +kernel
theorem dX11_sheet_47 : decode cX11_sheet 47 = .ok (.aload 4, 2) := by decide +kernel
theorem dX11_sheet_49 : decode cX11_sheet 49 = .ok (.iload_n 2, 1) := by decide +kernel
theorem dX11_sheet_50 : decode cX11_sheet 50 = .ok (.iload_n 3, 1) := by decide +kernel
theorem dX11_sheet_51 : decode cX11_sheet 51 = .ok (.invokevirtual 342, 3) := by decide +kernel
theorem dX11_sheet_54 : decode cX11_sheet 54 = .ok (.iconst 1, 1) := by decide +kernel
theorem dX11_sheet_55 : decode cX11_sheet 55 = .ok (.ireturn, 1) := by decide +kernel
theorem dX11_cell_0 : decode cX11_cell 0 = .ok (.aload_n 0, 1) := by decide +kernel
theorem dX11_cell_1 : decode cX11_cell 1 = .ok (.iload_n 1, 1) := by decide +kernel
theorem dX11_cell_2 : decode cX11_cell 2 = .ok (.invokevirtual 204, 3) := by decide +kernel
theorem dX11_cell_5 : decode cX11_cell 5 = .ok (.astore 4, 2) := by decide +kernel
theorem dX11_cell_7 : decode cX11_cell 7 = .ok (.aload 4, 2) := by decide +kernel
theorem dX11_cell_9 : decode cX11_cell 9 = .ok (.ifnonnull 6, 3) := by decide +kernel
theorem dX11_cell_12 : decode cX11_cell 12 = .ok (.bipush (-2), 2) := by decide +kernel
theorem dX11_cell_14 : decode cX11_cell 14 = .ok (.ireturn, 1) := by decide +kernel
theorem dX11_cell_15 : decode cX11_cell 15 = .ok (.aload 4, 2) := by decide +kernel
theorem dX11_cell_17 : decode cX11_cell 17 = .ok (.invokevirtual 208, 3) := by decide +kernel
theorem dX11_cell_20 : decode cX11_cell 20 = .ok (.ifCond .eq 6, 3) := by decide +kernel
theorem dX11_cell_23 : decode cX11_cell 23 = .ok (.bipush (-11), 2) := by decide +kernel
theorem dX11_cell_25 : decode cX11_cell 25 = .ok (.ireturn, 1) := by decide +kernel
theorem dX11_cell_26 : decode cX11_cell 26 = .ok (.aload 4, 2) := by decide +kernel
theorem dX11_cell_28 : decode cX11_cell 28 = .ok (.iload_n 2, 1) := by decide +kernel
theorem dX11_cell_29 : decode cX11_cell 29 = .ok (.iload_n 3, 1) := by decide +kernel
theorem dX11_cell_30 : decode cX11_cell 30 = .ok (.invokevirtual 344, 3) := by decide +kernel
theorem dX11_cell_33 : decode cX11_cell 33 = .ok (.ifCond .eq 7, 3) := by decide +kernel
theorem dX11_cell_36 : decode cX11_cell 36 = .ok (.iconst 1, 1) := by decide +kernel
theorem dX11_cell_37 : decode cX11_cell 37 = .ok (.goto 5, 3) := by decide +kernel
theorem dX11_cell_40 : decode cX11_cell 40 = .ok (.bipush (-12), 2) := by decide +kernel
theorem dX11_cell_42 : decode cX11_cell 42 = .ok (.ireturn, 1) := by decide +kernel
theorem dX11_copy_0 : decode cX11_copy 0 = .ok (.aload_n 0, 1) := by decide +kernel
theorem dX11_copy_1 : decode cX11_copy 1 = .ok (.iload_n 1, 1) := by decide +kernel
theorem dX11_copy_2 : decode cX11_copy 2 = .ok (.invokevirtual 204, 3) := by decide +kernel
theorem dX11_copy_5 : decode cX11_copy 5 = .ok (.astore 6, 2) := by decide +kernel
theorem dX11_copy_7 : decode cX11_copy 7 = .ok (.aload_n 0, 1) := by decide +kernel
theorem dX11_copy_8 : decode cX11_copy 8 = .ok (.iload_n 3, 1) := by decide +kernel
theorem dX11_copy_9 : decode cX11_copy 9 = .ok (.invokevirtual 204, 3) := by decide +kernel
theorem dX11_copy_12 : decode cX11_copy 12 = .ok (.astore 7, 2) := by decide +kernel
theorem dX11_copy_14 : decode cX11_copy 14 = .ok (.aload 6, 2) := by decide +kernel
theorem dX11_copy_16 : decode cX11_copy 16 = .ok (.ifnull 8, 3) := by decide +kernel
theorem dX11_copy_19 : decode cX11_copy 19 = .ok (.aload 7, 2) := by decide +kernel
theorem dX11_copy_21 : decode cX11_copy 21 = .ok (.ifnonnull 6, 3) := by decide +kernel
theorem dX11_copy_24 : decode cX11_copy 24 = .ok (.bipush (-2), 2) := by decide +kernel
theorem dX11_copy_26 : decode cX11_copy 26 = .ok (.ireturn, 1) := by decide +kernel
theorem dX11_copy_27 : decode cX11_copy 27 = .ok (.aload 6, 2) := by decide +kernel
theorem dX11_copy_29 : decode cX11_copy 29 = .ok (.invokevirtual 208, 3) := by decide +kernel
theorem dX11_copy_32 : decode cX11_copy 32 = .ok (.ifCond .ne 11, 3) := by decide +kernel
theorem dX11_copy_35 : decode cX11_copy 35 = .ok (.aload 7, 2) := by decide +kernel
theorem dX11_copy_37 : decode cX11_copy 37 = .ok (.invokevirtual 208, 3) := by decide +kernel
theorem dX11_copy_40 : decode cX11_copy 40 = .ok (.ifCond .eq 6, 3) := by decide +kernel
theorem dX11_copy_43 : decode cX11_copy 43 = .ok (.bipush (-11), 2) := by decide +kernel
theorem dX11_copy_45 : decode cX11_copy 45 = .ok (.ireturn, 1) := by decide +kernel
theorem dX11_copy_46 : decode cX11_copy 46 = .ok (.aload 6, 2) := by decide +kernel
theorem dX11_copy_48 : decode cX11_copy 48 = .ok (.getfield 348, 3) := by decide +kernel
theorem dX11_copy_51 : decode cX11_copy 51 = .ok (.aload 7, 2) := by decide +kernel
theorem dX11_copy_53 : decode cX11_copy 53 = .ok (.getfield 348, 3) := by decide +kernel
theorem dX11_copy_56 : decode cX11_copy 56 = .ok (.if_icmp .eq 6, 3) := by decide +kernel
theorem dX11_copy_59 : decode cX11_copy 59 = .ok (.bipush (-13), 2) := by decide +kernel
theorem dX11_copy_61 : decode cX11_copy 61 = .ok (.ireturn, 1) := by decide +kernel
theorem dX11_copy_62 : decode cX11_copy 62 = .ok (.aload 6, 2) := by decide +kernel
theorem dX11_copy_64 : decode cX11_copy 64 = .ok (.iload_n 2, 1) := by decide +kernel
theorem dX11_copy_65 : decode cX11_copy 65 = .ok (.iload 5, 2) := by decide +kernel
theorem dX11_copy_67 : decode cX11_copy 67 = .ok (.invokevirtual 351, 3) := by decide +kernel
theorem dX11_copy_70 : decode cX11_copy 70 = .ok (.ifCond .eq 15, 3) := by decide +kernel
theorem dX11_copy_73 : decode cX11_copy 73 = .ok (.aload 7, 2) := by decide +kernel
theorem dX11_copy_75 : decode cX11_copy 75 = .ok (.iload 4, 2) := by decide +kernel
theorem dX11_copy_77 : decode cX11_copy 77 = .ok (.iload 5, 2) := by decide +kernel
theorem dX11_copy_79 : decode cX11_copy 79 = .ok (.invokevirtual 351, 3) := by decide +kernel
theorem dX11_copy_82 : decode cX11_copy 82 = .ok (.ifCond .ne 6, 3) := by decide +kernel
theorem dX11_copy_85 : decode cX11_copy 85 = .ok (.bipush (-12), 2) := by decide +kernel
theorem dX11_copy_87 : decode cX11_copy 87 = .ok (.ireturn, 1) := by decide +kernel
theorem dX11_copy_88 : decode cX11_copy 88 = .ok (.aload 6, 2) := by decide +kernel
theorem dX11_copy_90 : decode cX11_copy 90 = .ok (.getfield 354, 3) := by decide +kernel
theorem dX11_copy_93 : decode cX11_copy 93 = .ok (.iload_n 2, 1) := by decide +kernel
theorem dX11_copy_94 : decode cX11_copy 94 = .ok (.aload 7, 2) := by decide +kernel
theorem dX11_copy_96 : decode cX11_copy 96 = .ok (.getfield 354, 3) := by decide +kernel
theorem dX11_copy_99 : decode cX11_copy 99 = .ok (.iload 4, 2) := by decide +kernel
theorem dX11_copy_101 : decode cX11_copy 101 = .ok (.iload 5, 2) := by decide +kernel
theorem dX11_copy_103 : decode cX11_copy 103 = .ok (.invokestatic 357, 3) := by decide +kernel
theorem dX11_copy_106 : decode cX11_copy 106 = .ok (.iload 5, 2) := by decide +kernel
theorem dX11_copy_108 : decode cX11_copy 108 = .ok (.ireturn, 1) := by decide +kernel
theorem dX11_rowers_0 : decode cX11_rowers 0 = .ok (.aload_n 0, 1) := by decide +kernel
theorem dX11_rowers_1 : decode cX11_rowers 1 = .ok (.iload_n 1, 1) := by decide +kernel
theorem dX11_rowers_2 : decode cX11_rowers 2 = .ok (.invokevirtual 204, 3) := by decide +kernel
theorem dX11_rowers_5 : decode cX11_rowers 5 = .ok (.astore 5, 2) := by decide +kernel
theorem dX11_rowers_7 : decode cX11_rowers 7 = .ok (.aload 5, 2) := by decide +kernel
theorem dX11_rowers_9 : decode cX11_rowers 9 = .ok (.ifnull 23, 3) := by decide +kernel
theorem dX11_rowers_12 : decode cX11_rowers 12 = .ok (.iload_n 2, 1) := by decide +kernel
theorem dX11_rowers_13 : decode cX11_rowers 13 = .ok (.iconst 0, 1) := by decide +kernel
theorem dX11_rowers_14 : decode cX11_rowers 14 = .ok (.iconst 2, 1) := by decide +kernel
theorem dX11_rowers_15 : decode cX11_rowers 15 = .ok (.invokestatic 66, 3) := by decide +kernel
theorem dX11_rowers_18 : decode cX11_rowers 18 = .ok (.ifCond .eq 14, 3) := by decide +kernel
theorem dX11_rowers_21 : decode cX11_rowers 21 = .ok (.iload 4, 2) := by decide +kernel
theorem dX11_rowers_23 : decode cX11_rowers 23 = .ok (.iconst 0, 1) := by decide +kernel
theorem dX11_rowers_24 : decode cX11_rowers 24 = .ok (.bipush 12, 2) := by decide +kernel
theorem dX11_rowers_26 : decode cX11_rowers 26 = .ok (.invokestatic 66, 3) := by decide +kernel
theorem dX11_rowers_29 : decode cX11_rowers 29 = .ok (.ifCond .ne 6, 3) := by decide +kernel
theorem dX11_rowers_32 : decode cX11_rowers 32 = .ok (.bipush (-2), 2) := by decide +kernel
theorem dX11_rowers_34 : decode cX11_rowers 34 = .ok (.ireturn, 1) := by decide +kernel
theorem dX11_rowers_35 : decode cX11_rowers 35 = .ok (.aload 5, 2) := by decide +kernel
theorem dX11_rowers_37 : decode cX11_rowers 37 = .ok (.invokevirtual 208, 3) := by decide +kernel
theorem dX11_rowers_40 : decode cX11_rowers 40 = .ok (.ifCond .eq 6, 3) := by decide +kernel
theorem dX11_rowers_43 : decode cX11_rowers 43 = .ok (.bipush (-11), 2) := by decide +kernel
theorem dX11_rowers_45 : decode cX11_rowers 45 = .ok (.ireturn, 1) := by decide +kernel
theorem dX11_rowers_46 : decode cX11_rowers 46 = .ok (.aload 5, 2) := by decide +kernel
theorem dX11_rowers_48 : decode cX11_rowers 48 = .ok (.getfield 348, 3) := by decide +kernel
theorem dX11_rowers_51 : decode cX11_rowers 51 = .ok (.iload_n 2, 1) := by decide +kernel
theorem dX11_rowers_52 : decode cX11_rowers 52 = .ok (.if_icmp .eq 6, 3) := by decide +kernel
theorem dX11_rowers_55 : decode cX11_rowers 55 = .ok (.bipush (-13), 2) := by decide +kernel
theorem dX11_rowers_57 : decode cX11_rowers 57 = .ok (.ireturn, 1) := by decide +kernel
theorem dX11_rowers_58 : decode cX11_rowers 58 = .ok (.iconst 0, 1) := by decide +kernel
theorem dX11_rowers_59 : decode cX11_rowers 59 = .ok (.istore 6, 2) := by decide +kernel
theorem dX11_rowers_61 : decode cX11_rowers 61 = .ok (.iconst 0, 1) := by decide +kernel
theorem dX11_rowers_62 : decode cX11_rowers 62 = .ok (.istore 7, 2) := by decide +kernel
theorem dX11_rowers_64 : decode cX11_rowers 64 = .ok (.iload 7, 2) := by decide +kernel
theorem dX11_rowers_66 : decode cX11_rowers 66 = .ok (.iload 4, 2) := by decide +kernel
theorem dX11_rowers_68 : decode cX11_rowers 68 = .ok (.if_icmp .ge 73, 3) := by decide +kernel
theorem dX11_rowers_71 : decode cX11_rowers 71 = .ok (.iload_n 3, 1) := by decide +kernel
theorem dX11_rowers_72 : decode cX11_rowers 72 = .ok (.iconst 3, 1) := by decide +kernel
theorem dX11_rowers_73 : decode cX11_rowers 73 = .ok (.iload 7, 2) := by decide +kernel
theorem dX11_rowers_75 : decode cX11_rowers 75 = .ok (.imul, 1) := by decide +kernel
theorem dX11_rowers_76 : decode cX11_rowers 76 = .ok (.iadd, 1) := by decide +kernel
theorem dX11_rowers_77 : decode cX11_rowers 77 = .ok (.istore 8, 2) := by decide +kernel
theorem dX11_rowers_79 : decode cX11_rowers 79 = .ok (.aload 5, 2) := by decide +kernel
theorem dX11_rowers_81 : decode cX11_rowers 81 = .ok (.iload 8, 2) := by decide +kernel
theorem dX11_rowers_83 : decode cX11_rowers 83 = .ok (.iconst 3, 1) := by decide +kernel
theorem dX11_rowers_84 : decode cX11_rowers 84 = .ok (.invokevirtual 351, 3) := by decide +kernel
theorem dX11_rowers_87 : decode cX11_rowers 87 = .ok (.ifCond .ne 6, 3) := by decide +kernel
theorem dX11_rowers_90 : decode cX11_rowers 90 = .ok (.bipush (-12), 2) := by decide +kernel
theorem dX11_rowers_92 : decode cX11_rowers 92 = .ok (.ireturn, 1) := by decide +kernel
theorem dX11_rowers_93 : decode cX11_rowers 93 = .ok (.iload 6, 2) := by decide +kernel
theorem dX11_rowers_95 : decode cX11_rowers 95 = .ok (.aload_n 0, 1) := by decide +kernel
theorem dX11_rowers_96 : decode cX11_rowers 96 = .ok (.aload 5, 2) := by decide +kernel
theorem dX11_rowers_98 : decode cX11_rowers 98 = .ok (.iload 8, 2) := by decide +kernel
theorem dX11_rowers_100 : decode cX11_rowers 100 = .ok (.invokevirtual 244, 3) := by decide +kernel
theorem dX11_rowers_103 : decode cX11_rowers 103 = .ok (.aload 5, 2) := by decide +kernel
theorem dX11_rowers_105 : decode cX11_rowers 105 = .ok (.iload 8, 2) := by decide +kernel
theorem dX11_rowers_107 : decode cX11_rowers 107 = .ok (.iconst 1, 1) := by decide +kernel
theorem dX11_rowers_108 : decode cX11_rowers 108 = .ok (.iadd, 1) := by decide +kernel
theorem dX11_rowers_109 : decode cX11_rowers 109 = .ok (.invokevirtual 244, 3) := by decide +kernel
theorem dX11_rowers_112 : decode cX11_rowers 112 = .ok (.aload 5, 2) := by decide +kernel
theorem dX11_rowers_114 : decode cX11_rowers 114 = .ok (.iload 8, 2) := by decide +kernel
theorem dX11_rowers_116 : decode cX11_rowers 116 = .ok (.iconst 2, 1) := by decide +kernel
theorem dX11_rowers_117 : decode cX11_rowers 117 = .ok (.iadd, 1) := by decide +kernel
theorem dX11_rowers_118 : decode cX11_rowers 118 = .ok (.invokevirtual 244, 3) := by decide +kernel
theorem dX11_rowers_121 : decode cX11_rowers 121 = .ok (.invokevirtual 363, 3) := by decide +kernel
theorem dX11_rowers_124 : decode cX11_rowers 124 = .ok (.ifCond .lt 7, 3) := by decide +kernel
theorem dX11_rowers_127 : decode cX11_rowers 127 = .ok (.iconst 1, 1) := by decide +kernel
theorem dX11_rowers_128 : decode cX11_rowers 128 = .ok (.goto 4, 3) := by decide +kernel
theorem dX11_rowers_131 : decode cX11_rowers 131 = .ok (.iconst 0, 1) := by decide +kernel
theorem dX11_rowers_132 : decode cX11_rowers 132 = .ok (.iadd, 1) := by decide +kernel
theorem dX11_rowers_133 : decode cX11_rowers 133 = .ok (.istore 6, 2) := by decide +kernel
theorem dX11_rowers_135 : decode cX11_rowers 135 = .ok (.iinc 7 1, 3) := by decide +kernel
theorem dX11_rowers_138 : decode cX11_rowers 138 = .ok (.goto (-74), 3) := by decide +kernel
theorem dX11_rowers_141 : decode cX11_rowers 141 = .ok (.iload 6, 2) := by decide +kernel
theorem dX11_rowers_143 : decode cX11_rowers 143 = .ok (.ireturn, 1) := by decide +kernel
theorem dX11_taken_0 : decode cX11_taken 0 = .ok (.iload_n 2, 1) := by decide +kernel
theorem dX11_taken_1 : decode cX11_taken 1 = .ok (.iconst 0, 1) := by decide +kernel
theorem dX11_taken_2 : decode cX11_taken 2 = .ok (.iconst 5, 1) := by decide +kernel
theorem dX11_taken_3 : decode cX11_taken 3 = .ok (.invokestatic 66, 3) := by decide +kernel
theorem dX11_taken_6 : decode cX11_taken 6 = .ok (.ifCond .ne 6, 3) := by decide +kernel
theorem dX11_taken_9 : decode cX11_taken 9 = .ok (.bipush (-2), 2) := by decide +kernel
theorem dX11_taken_11 : decode cX11_taken 11 = .ok (.ireturn, 1) := by decide +kernel
theorem dX11_taken_12 : decode cX11_taken 12 = .ok (.aload_n 0, 1) := by decide +kernel
theorem dX11_taken_13 : decode cX11_taken 13 = .ok (.iload_n 1, 1) := by decide +kernel
theorem dX11_taken_14 : decode cX11_taken 14 = .ok (.invokevirtual 106, 3) := by decide +kernel
theorem dX11_taken_17 : decode cX11_taken 17 = .ok (.astore_n 3, 1) := by decide +kernel
theorem dX11_taken_18 : decode cX11_taken 18 = .ok (.aload_n 3, 1) := by decide +kernel
theorem dX11_taken_19 : decode cX11_taken 19 = .ok (.ifnonnull 6, 3) := by decide +kernel
theorem dX11_taken_22 : decode cX11_taken 22 = .ok (.bipush (-11), 2) := by decide +kernel
theorem dX11_taken_24 : decode cX11_taken 24 = .ok (.ireturn, 1) := by decide +kernel
theorem dX11_taken_25 : decode cX11_taken 25 = .ok (.aload_n 3, 1) := by decide +kernel
theorem dX11_taken_26 : decode cX11_taken 26 = .ok (.iload_n 2, 1) := by decide +kernel
theorem dX11_taken_27 : decode cX11_taken 27 = .ok (.invokestatic 367, 3) := by decide +kernel
theorem dX11_taken_30 : decode cX11_taken 30 = .ok (.ifCond .eq 10, 3) := by decide +kernel
theorem dX11_taken_33 : decode cX11_taken 33 = .ok (.aload_n 3, 1) := by decide +kernel
theorem dX11_taken_34 : decode cX11_taken 34 = .ok (.getfield 148, 3) := by decide +kernel
theorem dX11_taken_37 : decode cX11_taken 37 = .ok (.goto 5, 3) := by decide +kernel
theorem dX11_taken_40 : decode cX11_taken 40 = .ok (.bipush (-13), 2) := by decide +kernel
theorem dX11_taken_42 : decode cX11_taken 42 = .ok (.ireturn, 1) := by decide +kernel
theorem dX11_isUnder_0 : decode cX11_isUnder 0 = .ok (.iload_n 1, 1) := by decide +kernel
theorem dX11_isUnder_1 : decode cX11_isUnder 1 = .ok (.tableswitch 66 0 5 #[39, 41, 46, 51, 56, 61], 39) := by decide +kernel
theorem dX11_isUnder_40 : decode cX11_isUnder 40 = .ok (.iconst 1, 1) := by decide +kernel
theorem dX11_isUnder_41 : decode cX11_isUnder 41 = .ok (.ireturn, 1) := by decide +kernel
theorem dX11_isUnder_42 : decode cX11_isUnder 42 = .ok (.aload_n 0, 1) := by decide +kernel
theorem dX11_isUnder_43 : decode cX11_isUnder 43 = .ok (.instanceof 117, 3) := by decide +kernel
theorem dX11_isUnder_46 : decode cX11_isUnder 46 = .ok (.ireturn, 1) := by decide +kernel
theorem dX11_isUnder_47 : decode cX11_isUnder 47 = .ok (.aload_n 0, 1) := by decide +kernel
theorem dX11_isUnder_48 : decode cX11_isUnder 48 = .ok (.instanceof 122, 3) := by decide +kernel
theorem dX11_isUnder_51 : decode cX11_isUnder 51 = .ok (.ireturn, 1) := by decide +kernel
theorem dX11_isUnder_52 : decode cX11_isUnder 52 = .ok (.aload_n 0, 1) := by decide +kernel
theorem dX11_isUnder_53 : decode cX11_isUnder 53 = .ok (.instanceof 125, 3) := by decide +kernel
theorem dX11_isUnder_56 : decode cX11_isUnder 56 = .ok (.ireturn, 1) := by decide +kernel
theorem dX11_isUnder_57 : decode cX11_isUnder 57 = .ok (.aload_n 0, 1) := by decide +kernel
theorem dX11_isUnder_58 : decode cX11_isUnder 58 = .ok (.instanceof 128, 3) := by decide +kernel
theorem dX11_isUnder_61 : decode cX11_isUnder 61 = .ok (.ireturn, 1) := by decide +kernel
theorem dX11_isUnder_62 : decode cX11_isUnder 62 = .ok (.aload_n 0, 1) := by decide +kernel
theorem dX11_isUnder_63 : decode cX11_isUnder 63 = .ok (.instanceof 131, 3) := by decide +kernel
theorem dX11_isUnder_66 : decode cX11_isUnder 66 = .ok (.ireturn, 1) := by decide +kernel
theorem dX11_isUnder_67 : decode cX11_isUnder 67 = .ok (.iconst 0, 1) := by decide +kernel
theorem dX11_isUnder_68 : decode cX11_isUnder 68 = .ok (.ireturn, 1) := by decide +kernel
theorem dX11_within_0 : decode cX11_within 0 = .ok (.iload_n 0, 1) := by decide +kernel
theorem dX11_within_1 : decode cX11_within 1 = .ok (.iload_n 1, 1) := by decide +kernel
theorem dX11_within_2 : decode cX11_within 2 = .ok (.if_icmp .lt 12, 3) := by decide +kernel
theorem dX11_within_5 : decode cX11_within 5 = .ok (.iload_n 0, 1) := by decide +kernel
theorem dX11_within_6 : decode cX11_within 6 = .ok (.iload_n 2, 1) := by decide +kernel
theorem dX11_within_7 : decode cX11_within 7 = .ok (.if_icmp .gt 7, 3) := by decide +kernel
theorem dX11_within_10 : decode cX11_within 10 = .ok (.iconst 1, 1) := by decide +kernel
theorem dX11_within_11 : decode cX11_within 11 = .ok (.goto 4, 3) := by decide +kernel
theorem dX11_within_14 : decode cX11_within 14 = .ok (.iconst 0, 1) := by decide +kernel
theorem dX11_within_15 : decode cX11_within 15 = .ok (.ireturn, 1) := by decide +kernel
theorem dX11_isHour_0 : decode cX11_isHour 0 = .ok (.iload_n 0, 1) := by decide +kernel
theorem dX11_isHour_1 : decode cX11_isHour 1 = .ok (.iconst 0, 1) := by decide +kernel
theorem dX11_isHour_2 : decode cX11_isHour 2 = .ok (.bipush 23, 2) := by decide +kernel
theorem dX11_isHour_4 : decode cX11_isHour 4 = .ok (.invokestatic 66, 3) := by decide +kernel
theorem dX11_isHour_7 : decode cX11_isHour 7 = .ok (.ireturn, 1) := by decide +kernel
theorem dX11_crossingAt_0 : decode cX11_crossingAt 0 = .ok (.lload_n 1, 1) := by decide +kernel
theorem dX11_crossingAt_1 : decode cX11_crossingAt 1 = .ok (.lconst 0, 1) := by decide +kernel
theorem dX11_crossingAt_2 : decode cX11_crossingAt 2 = .ok (.lcmp, 1) := by decide +kernel
theorem dX11_crossingAt_3 : decode cX11_crossingAt 3 = .ok (.ifCond .lt 23, 3) := by decide +kernel
theorem dX11_crossingAt_6 : decode cX11_crossingAt 6 = .ok (.lload_n 1, 1) := by decide +kernel
theorem dX11_crossingAt_7 : decode cX11_crossingAt 7 = .ok (.aload_n 0, 1) := by decide +kernel
theorem dX11_crossingAt_8 : decode cX11_crossingAt 8 = .ok (.getfield 74, 3) := by decide +kernel
theorem dX11_crossingAt_11 : decode cX11_crossingAt 11 = .ok (.i2l, 1) := by decide +kernel
theorem dX11_crossingAt_12 : decode cX11_crossingAt 12 = .ok (.lcmp, 1) := by decide +kernel
theorem dX11_crossingAt_13 : decode cX11_crossingAt 13 = .ok (.ifCond .ge 13, 3) := by decide +kernel
theorem dX11_crossingAt_16 : decode cX11_crossingAt 16 = .ok (.aload_n 0, 1) := by decide +kernel
theorem dX11_crossingAt_17 : decode cX11_crossingAt 17 = .ok (.getfield 11, 3) := by decide +kernel
theorem dX11_crossingAt_20 : decode cX11_crossingAt 20 = .ok (.lload_n 1, 1) := by decide +kernel
theorem dX11_crossingAt_21 : decode cX11_crossingAt 21 = .ok (.l2i, 1) := by decide +kernel
theorem dX11_crossingAt_22 : decode cX11_crossingAt 22 = .ok (.aaload, 1) := by decide +kernel
theorem dX11_crossingAt_23 : decode cX11_crossingAt 23 = .ok (.goto 4, 3) := by decide +kernel
theorem dX11_crossingAt_26 : decode cX11_crossingAt 26 = .ok (.aconst_null, 1) := by decide +kernel
theorem dX11_crossingAt_27 : decode cX11_crossingAt 27 = .ok (.areturn, 1) := by decide +kernel
theorem dX11_rowerAt_0 : decode cX11_rowerAt 0 = .ok (.iload_n 1, 1) := by decide +kernel
theorem dX11_rowerAt_1 : decode cX11_rowerAt 1 = .ok (.ifCond .lt 20, 3) := by decide +kernel
theorem dX11_rowerAt_4 : decode cX11_rowerAt 4 = .ok (.iload_n 1, 1) := by decide +kernel
theorem dX11_rowerAt_5 : decode cX11_rowerAt 5 = .ok (.aload_n 0, 1) := by decide +kernel
theorem dX11_rowerAt_6 : decode cX11_rowerAt 6 = .ok (.getfield 110, 3) := by decide +kernel
theorem dX11_rowerAt_9 : decode cX11_rowerAt 9 = .ok (.if_icmp .ge 12, 3) := by decide +kernel
theorem dX11_rowerAt_12 : decode cX11_rowerAt 12 = .ok (.aload_n 0, 1) := by decide +kernel
theorem dX11_rowerAt_13 : decode cX11_rowerAt 13 = .ok (.getfield 17, 3) := by decide +kernel
theorem dX11_rowerAt_16 : decode cX11_rowerAt 16 = .ok (.iload_n 1, 1) := by decide +kernel
theorem dX11_rowerAt_17 : decode cX11_rowerAt 17 = .ok (.aaload, 1) := by decide +kernel
theorem dX11_rowerAt_18 : decode cX11_rowerAt 18 = .ok (.goto 4, 3) := by decide +kernel
theorem dX11_rowerAt_21 : decode cX11_rowerAt 21 = .ok (.aconst_null, 1) := by decide +kernel
theorem dX11_rowerAt_22 : decode cX11_rowerAt 22 = .ok (.areturn, 1) := by decide +kernel
theorem dX11_oneOf_0 : decode cX11_oneOf 0 = .ok (.iload_n 1, 1) := by decide +kernel
theorem dX11_oneOf_1 : decode cX11_oneOf 1 = .ok (.ifCond .ge 7, 3) := by decide +kernel
theorem dX11_oneOf_4 : decode cX11_oneOf 4 = .ok (.aconst_null, 1) := by decide +kernel
theorem dX11_oneOf_5 : decode cX11_oneOf 5 = .ok (.goto 11, 3) := by decide +kernel
theorem dX11_oneOf_8 : decode cX11_oneOf 8 = .ok (.aload_n 0, 1) := by decide +kernel
theorem dX11_oneOf_9 : decode cX11_oneOf 9 = .ok (.iload_n 1, 1) := by decide +kernel
theorem dX11_oneOf_10 : decode cX11_oneOf 10 = .ok (.bipush 20, 2) := by decide +kernel
theorem dX11_oneOf_12 : decode cX11_oneOf 12 = .ok (.idiv, 1) := by decide +kernel
theorem dX11_oneOf_13 : decode cX11_oneOf 13 = .ok (.invokevirtual 106, 3) := by decide +kernel
theorem dX11_oneOf_16 : decode cX11_oneOf 16 = .ok (.areturn, 1) := by decide +kernel
theorem dX11_otherOf_0 : decode cX11_otherOf 0 = .ok (.iload_n 1, 1) := by decide +kernel
theorem dX11_otherOf_1 : decode cX11_otherOf 1 = .ok (.ifCond .ge 7, 3) := by decide +kernel
theorem dX11_otherOf_4 : decode cX11_otherOf 4 = .ok (.aconst_null, 1) := by decide +kernel
theorem dX11_otherOf_5 : decode cX11_otherOf 5 = .ok (.goto 11, 3) := by decide +kernel
theorem dX11_otherOf_8 : decode cX11_otherOf 8 = .ok (.aload_n 0, 1) := by decide +kernel
theorem dX11_otherOf_9 : decode cX11_otherOf 9 = .ok (.iload_n 1, 1) := by decide +kernel
theorem dX11_otherOf_10 : decode cX11_otherOf 10 = .ok (.bipush 20, 2) := by decide +kernel
theorem dX11_otherOf_12 : decode cX11_otherOf 12 = .ok (.irem, 1) := by decide +kernel
theorem dX11_otherOf_13 : decode cX11_otherOf 13 = .ok (.invokevirtual 106, 3) := by decide +kernel
theorem dX11_otherOf_16 : decode cX11_otherOf 16 = .ok (.areturn, 1) := by decide +kernel
theorem dX11_sheetAt_0 : decode cX11_sheetAt 0 = .ok (.iload_n 1, 1) := by decide +kernel
theorem dX11_sheetAt_1 : decode cX11_sheetAt 1 = .ok (.ifCond .lt 17, 3) := by decide +kernel
theorem dX11_sheetAt_4 : decode cX11_sheetAt 4 = .ok (.iload_n 1, 1) := by decide +kernel
theorem dX11_sheetAt_5 : decode cX11_sheetAt 5 = .ok (.iconst 4, 1) := by decide +kernel
theorem dX11_sheetAt_6 : decode cX11_sheetAt 6 = .ok (.if_icmp .ge 12, 3) := by decide +kernel
theorem dX11_sheetAt_9 : decode cX11_sheetAt 9 = .ok (.aload_n 0, 1) := by decide +kernel
theorem dX11_sheetAt_10 : decode cX11_sheetAt 10 = .ok (.getfield 48, 3) := by decide +kernel
theorem dX11_sheetAt_13 : decode cX11_sheetAt 13 = .ok (.iload_n 1, 1) := by decide +kernel
theorem dX11_sheetAt_14 : decode cX11_sheetAt 14 = .ok (.aaload, 1) := by decide +kernel
theorem dX11_sheetAt_15 : decode cX11_sheetAt 15 = .ok (.goto 4, 3) := by decide +kernel
theorem dX11_sheetAt_18 : decode cX11_sheetAt 18 = .ok (.aconst_null, 1) := by decide +kernel
theorem dX11_sheetAt_19 : decode cX11_sheetAt 19 = .ok (.areturn, 1) := by decide +kernel

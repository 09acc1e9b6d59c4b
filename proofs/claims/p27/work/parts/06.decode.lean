theorem dX0_init_0 : decode prog_2_method_1_code 0 = .ok (.aload_n 0, 1) := by decide +kernel
theorem dX0_init_1 : decode prog_2_method_1_code 1 = .ok (.invokespecial 3, 3) := by decide +kernel
theorem dX0_init_4 : decode prog_2_method_1_code 4 = .ok (.aload_n 0, 1) := by decide +kernel
theorem dX0_init_5 : decode prog_2_method_1_code 5 = .ok (.iload_n 1, 1) := by decide +kernel
theorem dX0_init_6 : decode prog_2_method_1_code 6 = .ok (.putfield 9, 3) := by decide +kernel
theorem dX0_init_9 : decode prog_2_method_1_code 9 = .ok (.aload_n 0, 1) := by decide +kernel
theorem dX0_init_10 : decode prog_2_method_1_code 10 = .ok (.iload_n 2, 1) := by decide +kernel
theorem dX0_init_11 : decode prog_2_method_1_code 11 = .ok (.putfield 15, 3) := by decide +kernel
theorem dX0_init_14 : decode prog_2_method_1_code 14 = .ok (.aload_n 0, 1) := by decide +kernel
theorem dX0_init_15 : decode prog_2_method_1_code 15 = .ok (.iload_n 3, 1) := by decide +kernel
theorem dX0_init_16 : decode prog_2_method_1_code 16 = .ok (.putfield 18, 3) := by decide +kernel
theorem dX0_init_19 : decode prog_2_method_1_code 19 = .ok (.aload_n 0, 1) := by decide +kernel
theorem dX0_init_20 : decode prog_2_method_1_code 20 = .ok (.iload 4, 2) := by decide +kernel
theorem dX0_init_22 : decode prog_2_method_1_code 22 = .ok (.putfield 21, 3) := by decide +kernel
theorem dX0_init_25 : decode prog_2_method_1_code 25 = .ok (.aload_n 0, 1) := by decide +kernel
theorem dX0_init_26 : decode prog_2_method_1_code 26 = .ok (.iload 5, 2) := by decide +kernel
theorem dX0_init_28 : decode prog_2_method_1_code 28 = .ok (.putfield 24, 3) := by decide +kernel
theorem dX0_init_31 : decode prog_2_method_1_code 31 = .ok (.aload_n 0, 1) := by decide +kernel
theorem dX0_init_32 : decode prog_2_method_1_code 32 = .ok (.iload 6, 2) := by decide +kernel
theorem dX0_init_34 : decode prog_2_method_1_code 34 = .ok (.putfield 27, 3) := by decide +kernel
theorem dX0_init_37 : decode prog_2_method_1_code 37 = .ok (.aload_n 0, 1) := by decide +kernel
theorem dX0_init_38 : decode prog_2_method_1_code 38 = .ok (.bipush 9, 2) := by decide +kernel
theorem dX0_init_40 : decode prog_2_method_1_code 40 = .ok (.newarray .int, 2) := by decide +kernel
theorem dX0_init_42 : decode prog_2_method_1_code 42 = .ok (.putfield 30, 3) := by decide +kernel
theorem dX0_init_45 : decode prog_2_method_1_code 45 = .ok (.aload_n 0, 1) := by decide +kernel
theorem dX0_init_46 : decode prog_2_method_1_code 46 = .ok (.bipush 9, 2) := by decide +kernel
theorem dX0_init_48 : decode prog_2_method_1_code 48 = .ok (.newarray .int, 2) := by decide +kernel
theorem dX0_init_50 : decode prog_2_method_1_code 50 = .ok (.putfield 34, 3) := by decide +kernel
theorem dX0_init_53 : decode prog_2_method_1_code 53 = .ok (.aload_n 0, 1) := by decide +kernel
theorem dX0_init_54 : decode prog_2_method_1_code 54 = .ok (.bipush 63, 2) := by decide +kernel
theorem dX0_init_56 : decode prog_2_method_1_code 56 = .ok (.newarray .int, 2) := by decide +kernel
theorem dX0_init_58 : decode prog_2_method_1_code 58 = .ok (.putfield 37, 3) := by decide +kernel
theorem dX0_init_61 : decode prog_2_method_1_code 61 = .ok (.return_, 1) := by decide +kernel
theorem dX0_firstBeat_0 : decode prog_2_method_4_code 0 = .ok (.iconst 0, 1) := by decide +kernel
theorem dX0_firstBeat_1 : decode prog_2_method_4_code 1 = .ok (.istore_n 2, 1) := by decide +kernel
theorem dX0_firstBeat_2 : decode prog_2_method_4_code 2 = .ok (.iconst 0, 1) := by decide +kernel
theorem dX0_firstBeat_3 : decode prog_2_method_4_code 3 = .ok (.istore_n 3, 1) := by decide +kernel
theorem dX0_firstBeat_4 : decode prog_2_method_4_code 4 = .ok (.iload_n 3, 1) := by decide +kernel
theorem dX0_firstBeat_5 : decode prog_2_method_4_code 5 = .ok (.iload_n 1, 1) := by decide +kernel
theorem dX0_firstBeat_6 : decode prog_2_method_4_code 6 = .ok (.if_icmp .ge 24, 3) := by decide +kernel
theorem dX0_firstBeat_9 : decode prog_2_method_4_code 9 = .ok (.iload_n 3, 1) := by decide +kernel
theorem dX0_firstBeat_10 : decode prog_2_method_4_code 10 = .ok (.bipush 9, 2) := by decide +kernel
theorem dX0_firstBeat_12 : decode prog_2_method_4_code 12 = .ok (.if_icmp .ge 18, 3) := by decide +kernel
theorem dX0_firstBeat_15 : decode prog_2_method_4_code 15 = .ok (.iload_n 2, 1) := by decide +kernel
theorem dX0_firstBeat_16 : decode prog_2_method_4_code 16 = .ok (.aload_n 0, 1) := by decide +kernel
theorem dX0_firstBeat_17 : decode prog_2_method_4_code 17 = .ok (.getfield 30, 3) := by decide +kernel
theorem dX0_firstBeat_20 : decode prog_2_method_4_code 20 = .ok (.iload_n 3, 1) := by decide +kernel
theorem dX0_firstBeat_21 : decode prog_2_method_4_code 21 = .ok (.iaload, 1) := by decide +kernel
theorem dX0_firstBeat_22 : decode prog_2_method_4_code 22 = .ok (.iadd, 1) := by decide +kernel
theorem dX0_firstBeat_23 : decode prog_2_method_4_code 23 = .ok (.istore_n 2, 1) := by decide +kernel
theorem dX0_firstBeat_24 : decode prog_2_method_4_code 24 = .ok (.iinc 3 1, 3) := by decide +kernel
theorem dX0_firstBeat_27 : decode prog_2_method_4_code 27 = .ok (.goto (-23), 3) := by decide +kernel
theorem dX0_firstBeat_30 : decode prog_2_method_4_code 30 = .ok (.iload_n 2, 1) := by decide +kernel
theorem dX0_firstBeat_31 : decode prog_2_method_4_code 31 = .ok (.ireturn, 1) := by decide +kernel
theorem dX0_layOut_0 : decode prog_2_method_3_code 0 = .ok (.iconst 0, 1) := by decide +kernel
theorem dX0_layOut_1 : decode prog_2_method_3_code 1 = .ok (.istore 4, 2) := by decide +kernel
theorem dX0_layOut_3 : decode prog_2_method_3_code 3 = .ok (.iconst 0, 1) := by decide +kernel
theorem dX0_layOut_4 : decode prog_2_method_3_code 4 = .ok (.istore 5, 2) := by decide +kernel
theorem dX0_layOut_6 : decode prog_2_method_3_code 6 = .ok (.iconst 0, 1) := by decide +kernel
theorem dX0_layOut_7 : decode prog_2_method_3_code 7 = .ok (.istore 6, 2) := by decide +kernel
theorem dX0_layOut_9 : decode prog_2_method_3_code 9 = .ok (.iload 6, 2) := by decide +kernel
theorem dX0_layOut_11 : decode prog_2_method_3_code 11 = .ok (.aload_n 0, 1) := by decide +kernel
theorem dX0_layOut_12 : decode prog_2_method_3_code 12 = .ok (.getfield 40, 3) := by decide +kernel
theorem dX0_layOut_15 : decode prog_2_method_3_code 15 = .ok (.if_icmp .ge 81, 3) := by decide +kernel
theorem dX0_layOut_18 : decode prog_2_method_3_code 18 = .ok (.iload 6, 2) := by decide +kernel
theorem dX0_layOut_20 : decode prog_2_method_3_code 20 = .ok (.bipush 9, 2) := by decide +kernel
theorem dX0_layOut_22 : decode prog_2_method_3_code 22 = .ok (.if_icmp .ge 74, 3) := by decide +kernel
theorem dX0_layOut_25 : decode prog_2_method_3_code 25 = .ok (.iload 6, 2) := by decide +kernel
theorem dX0_layOut_27 : decode prog_2_method_3_code 27 = .ok (.iload_n 2, 1) := by decide +kernel
theorem dX0_layOut_28 : decode prog_2_method_3_code 28 = .ok (.if_icmp .ne 7, 3) := by decide +kernel
theorem dX0_layOut_31 : decode prog_2_method_3_code 31 = .ok (.iload_n 3, 1) := by decide +kernel
theorem dX0_layOut_32 : decode prog_2_method_3_code 32 = .ok (.goto 10, 3) := by decide +kernel
theorem dX0_layOut_35 : decode prog_2_method_3_code 35 = .ok (.aload_n 0, 1) := by decide +kernel
theorem dX0_layOut_36 : decode prog_2_method_3_code 36 = .ok (.getfield 34, 3) := by decide +kernel
theorem dX0_layOut_39 : decode prog_2_method_3_code 39 = .ok (.iload 6, 2) := by decide +kernel
theorem dX0_layOut_41 : decode prog_2_method_3_code 41 = .ok (.iaload, 1) := by decide +kernel
theorem dX0_layOut_42 : decode prog_2_method_3_code 42 = .ok (.istore 7, 2) := by decide +kernel
theorem dX0_layOut_44 : decode prog_2_method_3_code 44 = .ok (.iconst 0, 1) := by decide +kernel
theorem dX0_layOut_45 : decode prog_2_method_3_code 45 = .ok (.istore 8, 2) := by decide +kernel
theorem dX0_layOut_47 : decode prog_2_method_3_code 47 = .ok (.iload 8, 2) := by decide +kernel
theorem dX0_layOut_49 : decode prog_2_method_3_code 49 = .ok (.aload_n 0, 1) := by decide +kernel
theorem dX0_layOut_50 : decode prog_2_method_3_code 50 = .ok (.getfield 30, 3) := by decide +kernel
theorem dX0_layOut_53 : decode prog_2_method_3_code 53 = .ok (.iload 6, 2) := by decide +kernel
theorem dX0_layOut_55 : decode prog_2_method_3_code 55 = .ok (.iaload, 1) := by decide +kernel
theorem dX0_layOut_56 : decode prog_2_method_3_code 56 = .ok (.if_icmp .ge 34, 3) := by decide +kernel
theorem dX0_layOut_59 : decode prog_2_method_3_code 59 = .ok (.iload 5, 2) := by decide +kernel
theorem dX0_layOut_61 : decode prog_2_method_3_code 61 = .ok (.aload_n 1, 1) := by decide +kernel
theorem dX0_layOut_62 : decode prog_2_method_3_code 62 = .ok (.arraylength, 1) := by decide +kernel
theorem dX0_layOut_63 : decode prog_2_method_3_code 63 = .ok (.if_icmp .ge 27, 3) := by decide +kernel
theorem dX0_layOut_66 : decode prog_2_method_3_code 66 = .ok (.aload_n 1, 1) := by decide +kernel
theorem dX0_layOut_67 : decode prog_2_method_3_code 67 = .ok (.iload 5, 2) := by decide +kernel
theorem dX0_layOut_69 : decode prog_2_method_3_code 69 = .ok (.iload 4, 2) := by decide +kernel
theorem dX0_layOut_71 : decode prog_2_method_3_code 71 = .ok (.iconst 4, 1) := by decide +kernel
theorem dX0_layOut_72 : decode prog_2_method_3_code 72 = .ok (.idiv, 1) := by decide +kernel
theorem dX0_layOut_73 : decode prog_2_method_3_code 73 = .ok (.iastore, 1) := by decide +kernel
theorem dX0_layOut_74 : decode prog_2_method_3_code 74 = .ok (.iload 4, 2) := by decide +kernel
theorem dX0_layOut_76 : decode prog_2_method_3_code 76 = .ok (.iload 7, 2) := by decide +kernel
theorem dX0_layOut_78 : decode prog_2_method_3_code 78 = .ok (.iadd, 1) := by decide +kernel
theorem dX0_layOut_79 : decode prog_2_method_3_code 79 = .ok (.istore 4, 2) := by decide +kernel
theorem dX0_layOut_81 : decode prog_2_method_3_code 81 = .ok (.iinc 5 1, 3) := by decide +kernel
theorem dX0_layOut_84 : decode prog_2_method_3_code 84 = .ok (.iinc 8 1, 3) := by decide +kernel
theorem dX0_layOut_87 : decode prog_2_method_3_code 87 = .ok (.goto (-40), 3) := by decide +kernel
theorem dX0_layOut_90 : decode prog_2_method_3_code 90 = .ok (.iinc 6 1, 3) := by decide +kernel
theorem dX0_layOut_93 : decode prog_2_method_3_code 93 = .ok (.goto (-84), 3) := by decide +kernel
theorem dX0_layOut_96 : decode prog_2_method_3_code 96 = .ok (.iload 4, 2) := by decide +kernel
theorem dX0_layOut_98 : decode prog_2_method_3_code 98 = .ok (.ireturn, 1) := by decide +kernel
theorem dX4_roundedUp_0 : decode prog_1_method_19_code 0 = .ok (.iload_n 1, 1) := by decide +kernel
theorem dX4_roundedUp_1 : decode prog_1_method_19_code 1 = .ok (.iconst 1, 1) := by decide +kernel
theorem dX4_roundedUp_2 : decode prog_1_method_19_code 2 = .ok (.if_icmp .ge 7, 3) := by decide +kernel
theorem dX4_roundedUp_5 : decode prog_1_method_19_code 5 = .ok (.iconst 0, 1) := by decide +kernel
theorem dX4_roundedUp_6 : decode prog_1_method_19_code 6 = .ok (.goto 10, 3) := by decide +kernel
theorem dX4_roundedUp_9 : decode prog_1_method_19_code 9 = .ok (.iload_n 0, 1) := by decide +kernel
theorem dX4_roundedUp_10 : decode prog_1_method_19_code 10 = .ok (.iload_n 1, 1) := by decide +kernel
theorem dX4_roundedUp_11 : decode prog_1_method_19_code 11 = .ok (.iadd, 1) := by decide +kernel
theorem dX4_roundedUp_12 : decode prog_1_method_19_code 12 = .ok (.iconst 1, 1) := by decide +kernel
theorem dX4_roundedUp_13 : decode prog_1_method_19_code 13 = .ok (.isub, 1) := by decide +kernel
theorem dX4_roundedUp_14 : decode prog_1_method_19_code 14 = .ok (.iload_n 1, 1) := by decide +kernel
theorem dX4_roundedUp_15 : decode prog_1_method_19_code 15 = .ok (.idiv, 1) := by decide +kernel
theorem dX4_roundedUp_16 : decode prog_1_method_19_code 16 = .ok (.ireturn, 1) := by decide +kernel
theorem dX0_setBar_0 : decode prog_2_method_2_code 0 = .ok (.iload_n 1, 1) := by decide +kernel
theorem dX0_setBar_1 : decode prog_2_method_2_code 1 = .ok (.ifCond .lt 17, 3) := by decide +kernel
theorem dX0_setBar_4 : decode prog_2_method_2_code 4 = .ok (.iload_n 1, 1) := by decide +kernel
theorem dX0_setBar_5 : decode prog_2_method_2_code 5 = .ok (.aload_n 0, 1) := by decide +kernel
theorem dX0_setBar_6 : decode prog_2_method_2_code 6 = .ok (.getfield 40, 3) := by decide +kernel
theorem dX0_setBar_9 : decode prog_2_method_2_code 9 = .ok (.if_icmp .ge 9, 3) := by decide +kernel
theorem dX0_setBar_12 : decode prog_2_method_2_code 12 = .ok (.iload_n 1, 1) := by decide +kernel
theorem dX0_setBar_13 : decode prog_2_method_2_code 13 = .ok (.bipush 9, 2) := by decide +kernel
theorem dX0_setBar_15 : decode prog_2_method_2_code 15 = .ok (.if_icmp .lt 4, 3) := by decide +kernel
theorem dX0_setBar_18 : decode prog_2_method_2_code 18 = .ok (.return_, 1) := by decide +kernel
theorem dX0_setBar_19 : decode prog_2_method_2_code 19 = .ok (.aload_n 0, 1) := by decide +kernel
theorem dX0_setBar_20 : decode prog_2_method_2_code 20 = .ok (.getfield 30, 3) := by decide +kernel
theorem dX0_setBar_23 : decode prog_2_method_2_code 23 = .ok (.iload_n 1, 1) := by decide +kernel
theorem dX0_setBar_24 : decode prog_2_method_2_code 24 = .ok (.iload_n 2, 1) := by decide +kernel
theorem dX0_setBar_25 : decode prog_2_method_2_code 25 = .ok (.iastore, 1) := by decide +kernel
theorem dX0_setBar_26 : decode prog_2_method_2_code 26 = .ok (.aload_n 0, 1) := by decide +kernel
theorem dX0_setBar_27 : decode prog_2_method_2_code 27 = .ok (.getfield 34, 3) := by decide +kernel
theorem dX0_setBar_30 : decode prog_2_method_2_code 30 = .ok (.iload_n 1, 1) := by decide +kernel
theorem dX0_setBar_31 : decode prog_2_method_2_code 31 = .ok (.iload_n 3, 1) := by decide +kernel
theorem dX0_setBar_32 : decode prog_2_method_2_code 32 = .ok (.iastore, 1) := by decide +kernel
theorem dX0_setBar_33 : decode prog_2_method_2_code 33 = .ok (.aload_n 0, 1) := by decide +kernel
theorem dX0_setBar_34 : decode prog_2_method_2_code 34 = .ok (.dup, 1) := by decide +kernel
theorem dX0_setBar_35 : decode prog_2_method_2_code 35 = .ok (.getfield 43, 3) := by decide +kernel
theorem dX0_setBar_38 : decode prog_2_method_2_code 38 = .ok (.iconst 1, 1) := by decide +kernel
theorem dX0_setBar_39 : decode prog_2_method_2_code 39 = .ok (.iadd, 1) := by decide +kernel
theorem dX0_setBar_40 : decode prog_2_method_2_code 40 = .ok (.putfield 43, 3) := by decide +kernel
theorem dX0_setBar_43 : decode prog_2_method_2_code 43 = .ok (.aload_n 0, 1) := by decide +kernel
theorem dX0_setBar_44 : decode prog_2_method_2_code 44 = .ok (.aload_n 0, 1) := by decide +kernel
theorem dX0_setBar_45 : decode prog_2_method_2_code 45 = .ok (.aload_n 0, 1) := by decide +kernel
theorem dX0_setBar_46 : decode prog_2_method_2_code 46 = .ok (.getfield 40, 3) := by decide +kernel
theorem dX0_setBar_49 : decode prog_2_method_2_code 49 = .ok (.invokevirtual 46, 3) := by decide +kernel
theorem dX0_setBar_52 : decode prog_2_method_2_code 52 = .ok (.putfield 50, 3) := by decide +kernel
theorem dX0_setBar_55 : decode prog_2_method_2_code 55 = .ok (.aload_n 0, 1) := by decide +kernel
theorem dX0_setBar_56 : decode prog_2_method_2_code 56 = .ok (.aload_n 0, 1) := by decide +kernel
theorem dX0_setBar_57 : decode prog_2_method_2_code 57 = .ok (.aload_n 0, 1) := by decide +kernel
theorem dX0_setBar_58 : decode prog_2_method_2_code 58 = .ok (.getfield 37, 3) := by decide +kernel
theorem dX0_setBar_61 : decode prog_2_method_2_code 61 = .ok (.iconst (-1), 1) := by decide +kernel
theorem dX0_setBar_62 : decode prog_2_method_2_code 62 = .ok (.iconst 0, 1) := by decide +kernel
theorem dX0_setBar_63 : decode prog_2_method_2_code 63 = .ok (.invokevirtual 53, 3) := by decide +kernel
theorem dX0_setBar_66 : decode prog_2_method_2_code 66 = .ok (.iconst 4, 1) := by decide +kernel
theorem dX0_setBar_67 : decode prog_2_method_2_code 67 = .ok (.invokestatic 57, 3) := by decide +kernel
theorem dX0_setBar_70 : decode prog_2_method_2_code 70 = .ok (.putfield 61, 3) := by decide +kernel
theorem dX0_setBar_73 : decode prog_2_method_2_code 73 = .ok (.return_, 1) := by decide +kernel
theorem dX0_beatFrame_0 : decode prog_2_method_5_code 0 = .ok (.iload_n 1, 1) := by decide +kernel
theorem dX0_beatFrame_1 : decode prog_2_method_5_code 1 = .ok (.ifCond .lt 20, 3) := by decide +kernel
theorem dX0_beatFrame_4 : decode prog_2_method_5_code 4 = .ok (.iload_n 1, 1) := by decide +kernel
theorem dX0_beatFrame_5 : decode prog_2_method_5_code 5 = .ok (.aload_n 0, 1) := by decide +kernel
theorem dX0_beatFrame_6 : decode prog_2_method_5_code 6 = .ok (.getfield 50, 3) := by decide +kernel
theorem dX0_beatFrame_9 : decode prog_2_method_5_code 9 = .ok (.if_icmp .ge 12, 3) := by decide +kernel
theorem dX0_beatFrame_12 : decode prog_2_method_5_code 12 = .ok (.iload_n 1, 1) := by decide +kernel
theorem dX0_beatFrame_13 : decode prog_2_method_5_code 13 = .ok (.aload_n 0, 1) := by decide +kernel
theorem dX0_beatFrame_14 : decode prog_2_method_5_code 14 = .ok (.getfield 37, 3) := by decide +kernel
theorem dX0_beatFrame_17 : decode prog_2_method_5_code 17 = .ok (.arraylength, 1) := by decide +kernel
theorem dX0_beatFrame_18 : decode prog_2_method_5_code 18 = .ok (.if_icmp .lt 10, 3) := by decide +kernel
theorem dX0_beatFrame_21 : decode prog_2_method_5_code 21 = .ok (.aload_n 0, 1) := by decide +kernel
theorem dX0_beatFrame_22 : decode prog_2_method_5_code 22 = .ok (.getfield 15, 3) := by decide +kernel
theorem dX0_beatFrame_25 : decode prog_2_method_5_code 25 = .ok (.goto 14, 3) := by decide +kernel
theorem dX0_beatFrame_28 : decode prog_2_method_5_code 28 = .ok (.aload_n 0, 1) := by decide +kernel
theorem dX0_beatFrame_29 : decode prog_2_method_5_code 29 = .ok (.getfield 15, 3) := by decide +kernel
theorem dX0_beatFrame_32 : decode prog_2_method_5_code 32 = .ok (.aload_n 0, 1) := by decide +kernel
theorem dX0_beatFrame_33 : decode prog_2_method_5_code 33 = .ok (.getfield 37, 3) := by decide +kernel
theorem dX0_beatFrame_36 : decode prog_2_method_5_code 36 = .ok (.iload_n 1, 1) := by decide +kernel
theorem dX0_beatFrame_37 : decode prog_2_method_5_code 37 = .ok (.iaload, 1) := by decide +kernel
theorem dX0_beatFrame_38 : decode prog_2_method_5_code 38 = .ok (.iadd, 1) := by decide +kernel
theorem dX0_beatFrame_39 : decode prog_2_method_5_code 39 = .ok (.ireturn, 1) := by decide +kernel
theorem dX0_end_0 : decode prog_2_method_6_code 0 = .ok (.aload_n 0, 1) := by decide +kernel
theorem dX0_end_1 : decode prog_2_method_6_code 1 = .ok (.getfield 15, 3) := by decide +kernel
theorem dX0_end_4 : decode prog_2_method_6_code 4 = .ok (.aload_n 0, 1) := by decide +kernel
theorem dX0_end_5 : decode prog_2_method_6_code 5 = .ok (.getfield 61, 3) := by decide +kernel
theorem dX0_end_8 : decode prog_2_method_6_code 8 = .ok (.iadd, 1) := by decide +kernel
theorem dX0_end_9 : decode prog_2_method_6_code 9 = .ok (.ireturn, 1) := by decide +kernel
theorem dX0_mostNotes_0 : decode prog_2_method_7_code 0 = .ok (.iconst 1, 1) := by decide +kernel
theorem dX0_mostNotes_1 : decode prog_2_method_7_code 1 = .ok (.istore_n 1, 1) := by decide +kernel
theorem dX0_mostNotes_2 : decode prog_2_method_7_code 2 = .ok (.iconst 0, 1) := by decide +kernel
theorem dX0_mostNotes_3 : decode prog_2_method_7_code 3 = .ok (.istore_n 2, 1) := by decide +kernel
theorem dX0_mostNotes_4 : decode prog_2_method_7_code 4 = .ok (.iload_n 2, 1) := by decide +kernel
theorem dX0_mostNotes_5 : decode prog_2_method_7_code 5 = .ok (.aload_n 0, 1) := by decide +kernel
theorem dX0_mostNotes_6 : decode prog_2_method_7_code 6 = .ok (.getfield 40, 3) := by decide +kernel
theorem dX0_mostNotes_9 : decode prog_2_method_7_code 9 = .ok (.if_icmp .ge 14, 3) := by decide +kernel
theorem dX0_mostNotes_12 : decode prog_2_method_7_code 12 = .ok (.iload_n 1, 1) := by decide +kernel
theorem dX0_mostNotes_13 : decode prog_2_method_7_code 13 = .ok (.bipush 10, 2) := by decide +kernel
theorem dX0_mostNotes_15 : decode prog_2_method_7_code 15 = .ok (.imul, 1) := by decide +kernel
theorem dX0_mostNotes_16 : decode prog_2_method_7_code 16 = .ok (.istore_n 1, 1) := by decide +kernel
theorem dX0_mostNotes_17 : decode prog_2_method_7_code 17 = .ok (.iinc 2 1, 3) := by decide +kernel
theorem dX0_mostNotes_20 : decode prog_2_method_7_code 20 = .ok (.goto (-16), 3) := by decide +kernel
theorem dX0_mostNotes_23 : decode prog_2_method_7_code 23 = .ok (.iload_n 1, 1) := by decide +kernel
theorem dX0_mostNotes_24 : decode prog_2_method_7_code 24 = .ok (.iconst 1, 1) := by decide +kernel
theorem dX0_mostNotes_25 : decode prog_2_method_7_code 25 = .ok (.isub, 1) := by decide +kernel
theorem dX0_mostNotes_26 : decode prog_2_method_7_code 26 = .ok (.ireturn, 1) := by decide +kernel
theorem dX0_isTouched_0 : decode prog_2_method_8_code 0 = .ok (.iload_n 2, 1) := by decide +kernel
theorem dX0_isTouched_1 : decode prog_2_method_8_code 1 = .ok (.ifCond .le 25, 3) := by decide +kernel
theorem dX0_isTouched_4 : decode prog_2_method_8_code 4 = .ok (.aload_n 0, 1) := by decide +kernel
theorem dX0_isTouched_5 : decode prog_2_method_8_code 5 = .ok (.getfield 15, 3) := by decide +kernel
theorem dX0_isTouched_8 : decode prog_2_method_8_code 8 = .ok (.iload_n 1, 1) := by decide +kernel
theorem dX0_isTouched_9 : decode prog_2_method_8_code 9 = .ok (.if_icmp .ge 15, 3) := by decide +kernel
theorem dX0_isTouched_12 : decode prog_2_method_8_code 12 = .ok (.iload_n 1, 1) := by decide +kernel
theorem dX0_isTouched_13 : decode prog_2_method_8_code 13 = .ok (.aload_n 0, 1) := by decide +kernel
theorem dX0_isTouched_14 : decode prog_2_method_8_code 14 = .ok (.invokevirtual 64, 3) := by decide +kernel
theorem dX0_isTouched_17 : decode prog_2_method_8_code 17 = .ok (.if_icmp .ge 7, 3) := by decide +kernel
theorem dX0_isTouched_20 : decode prog_2_method_8_code 20 = .ok (.iconst 1, 1) := by decide +kernel
theorem dX0_isTouched_21 : decode prog_2_method_8_code 21 = .ok (.goto 4, 3) := by decide +kernel
theorem dX0_isTouched_24 : decode prog_2_method_8_code 24 = .ok (.iconst 0, 1) := by decide +kernel
theorem dX0_isTouched_25 : decode prog_2_method_8_code 25 = .ok (.ireturn, 1) := by decide +kernel
theorem dX0_isTouched_26 : decode prog_2_method_8_code 26 = .ok (.aload_n 0, 1) := by decide +kernel
theorem dX0_isTouched_27 : decode prog_2_method_8_code 27 = .ok (.getfield 40, 3) := by decide +kernel
theorem dX0_isTouched_30 : decode prog_2_method_8_code 30 = .ok (.ifCond .le 25, 3) := by decide +kernel
theorem dX0_isTouched_33 : decode prog_2_method_8_code 33 = .ok (.aload_n 0, 1) := by decide +kernel
theorem dX0_isTouched_34 : decode prog_2_method_8_code 34 = .ok (.getfield 15, 3) := by decide +kernel
theorem dX0_isTouched_37 : decode prog_2_method_8_code 37 = .ok (.iload_n 1, 1) := by decide +kernel
theorem dX0_isTouched_38 : decode prog_2_method_8_code 38 = .ok (.iload_n 2, 1) := by decide +kernel
theorem dX0_isTouched_39 : decode prog_2_method_8_code 39 = .ok (.isub, 1) := by decide +kernel
theorem dX0_isTouched_40 : decode prog_2_method_8_code 40 = .ok (.if_icmp .ge 15, 3) := by decide +kernel
theorem dX0_isTouched_43 : decode prog_2_method_8_code 43 = .ok (.iload_n 1, 1) := by decide +kernel
theorem dX0_isTouched_44 : decode prog_2_method_8_code 44 = .ok (.aload_n 0, 1) := by decide +kernel
theorem dX0_isTouched_45 : decode prog_2_method_8_code 45 = .ok (.invokevirtual 64, 3) := by decide +kernel
theorem dX0_isTouched_48 : decode prog_2_method_8_code 48 = .ok (.if_icmp .ge 7, 3) := by decide +kernel
theorem dX0_isTouched_51 : decode prog_2_method_8_code 51 = .ok (.iconst 1, 1) := by decide +kernel
theorem dX0_isTouched_52 : decode prog_2_method_8_code 52 = .ok (.goto 4, 3) := by decide +kernel
theorem dX0_isTouched_55 : decode prog_2_method_8_code 55 = .ok (.iconst 0, 1) := by decide +kernel
theorem dX0_isTouched_56 : decode prog_2_method_8_code 56 = .ok (.ireturn, 1) := by decide +kernel
theorem dX0_nearestBeat_0 : decode prog_2_method_9_code 0 = .ok (.iconst (-1), 1) := by decide +kernel
theorem dX0_nearestBeat_1 : decode prog_2_method_9_code 1 = .ok (.istore_n 2, 1) := by decide +kernel
theorem dX0_nearestBeat_2 : decode prog_2_method_9_code 2 = .ok (.iconst (-1), 1) := by decide +kernel
theorem dX0_nearestBeat_3 : decode prog_2_method_9_code 3 = .ok (.istore_n 3, 1) := by decide +kernel
theorem dX0_nearestBeat_4 : decode prog_2_method_9_code 4 = .ok (.iconst 0, 1) := by decide +kernel
theorem dX0_nearestBeat_5 : decode prog_2_method_9_code 5 = .ok (.istore 4, 2) := by decide +kernel
theorem dX0_nearestBeat_7 : decode prog_2_method_9_code 7 = .ok (.iload 4, 2) := by decide +kernel
theorem dX0_nearestBeat_9 : decode prog_2_method_9_code 9 = .ok (.aload_n 0, 1) := by decide +kernel
theorem dX0_nearestBeat_10 : decode prog_2_method_9_code 10 = .ok (.getfield 50, 3) := by decide +kernel
theorem dX0_nearestBeat_13 : decode prog_2_method_9_code 13 = .ok (.if_icmp .ge 55, 3) := by decide +kernel
theorem dX0_nearestBeat_16 : decode prog_2_method_9_code 16 = .ok (.iload 4, 2) := by decide +kernel
theorem dX0_nearestBeat_18 : decode prog_2_method_9_code 18 = .ok (.aload_n 0, 1) := by decide +kernel
theorem dX0_nearestBeat_19 : decode prog_2_method_9_code 19 = .ok (.getfield 37, 3) := by decide +kernel
theorem dX0_nearestBeat_22 : decode prog_2_method_9_code 22 = .ok (.arraylength, 1) := by decide +kernel
theorem dX0_nearestBeat_23 : decode prog_2_method_9_code 23 = .ok (.if_icmp .ge 45, 3) := by decide +kernel
theorem dX0_nearestBeat_26 : decode prog_2_method_9_code 26 = .ok (.aload_n 0, 1) := by decide +kernel
theorem dX0_nearestBeat_27 : decode prog_2_method_9_code 27 = .ok (.getfield 15, 3) := by decide +kernel
theorem dX0_nearestBeat_30 : decode prog_2_method_9_code 30 = .ok (.aload_n 0, 1) := by decide +kernel
theorem dX0_nearestBeat_31 : decode prog_2_method_9_code 31 = .ok (.getfield 37, 3) := by decide +kernel
theorem dX0_nearestBeat_34 : decode prog_2_method_9_code 34 = .ok (.iload 4, 2) := by decide +kernel
theorem dX0_nearestBeat_36 : decode prog_2_method_9_code 36 = .ok (.iaload, 1) := by decide +kernel
theorem dX0_nearestBeat_37 : decode prog_2_method_9_code 37 = .ok (.iadd, 1) := by decide +kernel
theorem dX0_nearestBeat_38 : decode prog_2_method_9_code 38 = .ok (.iload_n 1, 1) := by decide +kernel
theorem dX0_nearestBeat_39 : decode prog_2_method_9_code 39 = .ok (.isub, 1) := by decide +kernel
theorem dX0_nearestBeat_40 : decode prog_2_method_9_code 40 = .ok (.invokestatic 68, 3) := by decide +kernel
theorem dX0_nearestBeat_43 : decode prog_2_method_9_code 43 = .ok (.istore 5, 2) := by decide +kernel
theorem dX0_nearestBeat_45 : decode prog_2_method_9_code 45 = .ok (.iload_n 3, 1) := by decide +kernel
theorem dX0_nearestBeat_46 : decode prog_2_method_9_code 46 = .ok (.iconst (-1), 1) := by decide +kernel
theorem dX0_nearestBeat_47 : decode prog_2_method_9_code 47 = .ok (.if_icmp .eq 9, 3) := by decide +kernel
theorem dX0_nearestBeat_50 : decode prog_2_method_9_code 50 = .ok (.iload 5, 2) := by decide +kernel
theorem dX0_nearestBeat_52 : decode prog_2_method_9_code 52 = .ok (.iload_n 3, 1) := by decide +kernel
theorem dX0_nearestBeat_53 : decode prog_2_method_9_code 53 = .ok (.if_icmp .ge 9, 3) := by decide +kernel
theorem dX0_nearestBeat_56 : decode prog_2_method_9_code 56 = .ok (.iload 4, 2) := by decide +kernel
theorem dX0_nearestBeat_58 : decode prog_2_method_9_code 58 = .ok (.istore_n 2, 1) := by decide +kernel
theorem dX0_nearestBeat_59 : decode prog_2_method_9_code 59 = .ok (.iload 5, 2) := by decide +kernel
theorem dX0_nearestBeat_61 : decode prog_2_method_9_code 61 = .ok (.istore_n 3, 1) := by decide +kernel
theorem dX0_nearestBeat_62 : decode prog_2_method_9_code 62 = .ok (.iinc 4 1, 3) := by decide +kernel
theorem dX0_nearestBeat_65 : decode prog_2_method_9_code 65 = .ok (.goto (-58), 3) := by decide +kernel
theorem dX0_nearestBeat_68 : decode prog_2_method_9_code 68 = .ok (.iload_n 2, 1) := by decide +kernel
theorem dX0_nearestBeat_69 : decode prog_2_method_9_code 69 = .ok (.ireturn, 1) := by decide +kernel
theorem dX0_missOf_0 : decode prog_2_method_10_code 0 = .ok (.aload_n 0, 1) := by decide +kernel
theorem dX0_missOf_1 : decode prog_2_method_10_code 1 = .ok (.iload_n 1, 1) := by decide +kernel
theorem dX0_missOf_2 : decode prog_2_method_10_code 2 = .ok (.invokevirtual 73, 3) := by decide +kernel
theorem dX0_missOf_5 : decode prog_2_method_10_code 5 = .ok (.istore_n 2, 1) := by decide +kernel
theorem dX0_missOf_6 : decode prog_2_method_10_code 6 = .ok (.iload_n 2, 1) := by decide +kernel
theorem dX0_missOf_7 : decode prog_2_method_10_code 7 = .ok (.iconst (-1), 1) := by decide +kernel
theorem dX0_missOf_8 : decode prog_2_method_10_code 8 = .ok (.if_icmp .ne 7, 3) := by decide +kernel
theorem dX0_missOf_11 : decode prog_2_method_10_code 11 = .ok (.iconst (-1), 1) := by decide +kernel
theorem dX0_missOf_12 : decode prog_2_method_10_code 12 = .ok (.goto 13, 3) := by decide +kernel
theorem dX0_missOf_15 : decode prog_2_method_10_code 15 = .ok (.aload_n 0, 1) := by decide +kernel
theorem dX0_missOf_16 : decode prog_2_method_10_code 16 = .ok (.iload_n 2, 1) := by decide +kernel
theorem dX0_missOf_17 : decode prog_2_method_10_code 17 = .ok (.invokevirtual 76, 3) := by decide +kernel
theorem dX0_missOf_20 : decode prog_2_method_10_code 20 = .ok (.iload_n 1, 1) := by decide +kernel
theorem dX0_missOf_21 : decode prog_2_method_10_code 21 = .ok (.isub, 1) := by decide +kernel
theorem dX0_missOf_22 : decode prog_2_method_10_code 22 = .ok (.invokestatic 68, 3) := by decide +kernel
theorem dX0_missOf_25 : decode prog_2_method_10_code 25 = .ok (.ireturn, 1) := by decide +kernel
theorem dX0_reaches_0 : decode prog_2_method_11_code 0 = .ok (.iconst 0, 1) := by decide +kernel
theorem dX0_reaches_1 : decode prog_2_method_11_code 1 = .ok (.istore 5, 2) := by decide +kernel
theorem dX0_reaches_3 : decode prog_2_method_11_code 3 = .ok (.iload 5, 2) := by decide +kernel
theorem dX0_reaches_5 : decode prog_2_method_11_code 5 = .ok (.aload_n 0, 1) := by decide +kernel
theorem dX0_reaches_6 : decode prog_2_method_11_code 6 = .ok (.getfield 50, 3) := by decide +kernel
theorem dX0_reaches_9 : decode prog_2_method_11_code 9 = .ok (.if_icmp .ge 35, 3) := by decide +kernel
theorem dX0_reaches_12 : decode prog_2_method_11_code 12 = .ok (.iload 5, 2) := by decide +kernel
theorem dX0_reaches_14 : decode prog_2_method_11_code 14 = .ok (.aload 4, 2) := by decide +kernel
theorem dX0_reaches_16 : decode prog_2_method_11_code 16 = .ok (.arraylength, 1) := by decide +kernel
theorem dX0_reaches_17 : decode prog_2_method_11_code 17 = .ok (.if_icmp .ge 27, 3) := by decide +kernel
theorem dX0_reaches_20 : decode prog_2_method_11_code 20 = .ok (.iload_n 3, 1) := by decide +kernel
theorem dX0_reaches_21 : decode prog_2_method_11_code 21 = .ok (.aload 4, 2) := by decide +kernel
theorem dX0_reaches_23 : decode prog_2_method_11_code 23 = .ok (.iload 5, 2) := by decide +kernel
theorem dX0_reaches_25 : decode prog_2_method_11_code 25 = .ok (.iaload, 1) := by decide +kernel
theorem dX0_reaches_26 : decode prog_2_method_11_code 26 = .ok (.iadd, 1) := by decide +kernel
theorem dX0_reaches_27 : decode prog_2_method_11_code 27 = .ok (.iload_n 1, 1) := by decide +kernel
theorem dX0_reaches_28 : decode prog_2_method_11_code 28 = .ok (.isub, 1) := by decide +kernel
theorem dX0_reaches_29 : decode prog_2_method_11_code 29 = .ok (.invokestatic 68, 3) := by decide +kernel
theorem dX0_reaches_32 : decode prog_2_method_11_code 32 = .ok (.iload_n 2, 1) := by decide +kernel
theorem dX0_reaches_33 : decode prog_2_method_11_code 33 = .ok (.if_icmp .gt 5, 3) := by decide +kernel
theorem dX0_reaches_36 : decode prog_2_method_11_code 36 = .ok (.iconst 1, 1) := by decide +kernel
theorem dX0_reaches_37 : decode prog_2_method_11_code 37 = .ok (.ireturn, 1) := by decide +kernel
theorem dX0_reaches_38 : decode prog_2_method_11_code 38 = .ok (.iinc 5 1, 3) := by decide +kernel
theorem dX0_reaches_41 : decode prog_2_method_11_code 41 = .ok (.goto (-38), 3) := by decide +kernel
theorem dX0_reaches_44 : decode prog_2_method_11_code 44 = .ok (.iconst 0, 1) := by decide +kernel
theorem dX0_reaches_45 : decode prog_2_method_11_code 45 = .ok (.ireturn, 1) := by decide +kernel
theorem dX1_init_0 : decode prog_3_method_1_code 0 = .ok (.aload_n 0, 1) := by decide +kernel
theorem dX1_init_1 : decode prog_3_method_1_code 1 = .ok (.invokespecial 1, 3) := by decide +kernel
theorem dX1_init_4 : decode prog_3_method_1_code 4 = .ok (.aload_n 0, 1) := by decide +kernel
theorem dX1_init_5 : decode prog_3_method_1_code 5 = .ok (.iload_n 1, 1) := by decide +kernel
theorem dX1_init_6 : decode prog_3_method_1_code 6 = .ok (.putfield 7, 3) := by decide +kernel
theorem dX1_init_9 : decode prog_3_method_1_code 9 = .ok (.aload_n 0, 1) := by decide +kernel
theorem dX1_init_10 : decode prog_3_method_1_code 10 = .ok (.iload_n 2, 1) := by decide +kernel
theorem dX1_init_11 : decode prog_3_method_1_code 11 = .ok (.putfield 13, 3) := by decide +kernel
theorem dX1_init_14 : decode prog_3_method_1_code 14 = .ok (.return_, 1) := by decide +kernel
theorem dX4_isTakenOut_0 : decode prog_1_method_7_code 0 = .ok (.iload_n 2, 1) := by decide +kernel
theorem dX4_isTakenOut_1 : decode prog_1_method_7_code 1 = .ok (.ifCond .ge 19, 3) := by decide +kernel
theorem dX4_isTakenOut_4 : decode prog_1_method_7_code 4 = .ok (.iload_n 0, 1) := by decide +kernel
theorem dX4_isTakenOut_5 : decode prog_1_method_7_code 5 = .ok (.iload_n 1, 1) := by decide +kernel
theorem dX4_isTakenOut_6 : decode prog_1_method_7_code 6 = .ok (.if_icmp .lt 14, 3) := by decide +kernel
theorem dX4_isTakenOut_9 : decode prog_1_method_7_code 9 = .ok (.iload_n 0, 1) := by decide +kernel
theorem dX4_isTakenOut_10 : decode prog_1_method_7_code 10 = .ok (.iload_n 1, 1) := by decide +kernel
theorem dX4_isTakenOut_11 : decode prog_1_method_7_code 11 = .ok (.iload_n 2, 1) := by decide +kernel
theorem dX4_isTakenOut_12 : decode prog_1_method_7_code 12 = .ok (.isub, 1) := by decide +kernel
theorem dX4_isTakenOut_13 : decode prog_1_method_7_code 13 = .ok (.if_icmp .ge 7, 3) := by decide +kernel
theorem dX4_isTakenOut_16 : decode prog_1_method_7_code 16 = .ok (.iconst 1, 1) := by decide +kernel
theorem dX4_isTakenOut_17 : decode prog_1_method_7_code 17 = .ok (.goto 4, 3) := by decide +kernel
theorem dX4_isTakenOut_20 : decode prog_1_method_7_code 20 = .ok (.iconst 0, 1) := by decide +kernel
theorem dX4_isTakenOut_21 : decode prog_1_method_7_code 21 = .ok (.ireturn, 1) := by decide +kernel
theorem dX4_movedFrame_0 : decode prog_1_method_8_code 0 = .ok (.iload_n 0, 1) := by decide +kernel
theorem dX4_movedFrame_1 : decode prog_1_method_8_code 1 = .ok (.iload_n 1, 1) := by decide +kernel
theorem dX4_movedFrame_2 : decode prog_1_method_8_code 2 = .ok (.if_icmp .ge 5, 3) := by decide +kernel
theorem dX4_movedFrame_5 : decode prog_1_method_8_code 5 = .ok (.iload_n 0, 1) := by decide +kernel
theorem dX4_movedFrame_6 : decode prog_1_method_8_code 6 = .ok (.ireturn, 1) := by decide +kernel
theorem dX4_movedFrame_7 : decode prog_1_method_8_code 7 = .ok (.iload_n 0, 1) := by decide +kernel
theorem dX4_movedFrame_8 : decode prog_1_method_8_code 8 = .ok (.iload_n 1, 1) := by decide +kernel
theorem dX4_movedFrame_9 : decode prog_1_method_8_code 9 = .ok (.iload_n 2, 1) := by decide +kernel
theorem dX4_movedFrame_10 : decode prog_1_method_8_code 10 = .ok (.invokestatic 115, 3) := by decide +kernel
theorem dX4_movedFrame_13 : decode prog_1_method_8_code 13 = .ok (.ifCond .eq 7, 3) := by decide +kernel
theorem dX4_movedFrame_16 : decode prog_1_method_8_code 16 = .ok (.iload_n 1, 1) := by decide +kernel
theorem dX4_movedFrame_17 : decode prog_1_method_8_code 17 = .ok (.goto 6, 3) := by decide +kernel
theorem dX4_movedFrame_20 : decode prog_1_method_8_code 20 = .ok (.iload_n 0, 1) := by decide +kernel
theorem dX4_movedFrame_21 : decode prog_1_method_8_code 21 = .ok (.iload_n 2, 1) := by decide +kernel
theorem dX4_movedFrame_22 : decode prog_1_method_8_code 22 = .ok (.iadd, 1) := by decide +kernel
theorem dX4_movedFrame_23 : decode prog_1_method_8_code 23 = .ok (.ireturn, 1) := by decide +kernel
theorem dX1_cut_0 : decode prog_3_method_2_code 0 = .ok (.aload_n 0, 1) := by decide +kernel
theorem dX1_cut_1 : decode prog_3_method_2_code 1 = .ok (.getfield 16, 3) := by decide +kernel
theorem dX1_cut_4 : decode prog_3_method_2_code 4 = .ok (.ifCond .eq 4, 3) := by decide +kernel
theorem dX1_cut_7 : decode prog_3_method_2_code 7 = .ok (.return_, 1) := by decide +kernel
theorem dX1_cut_8 : decode prog_3_method_2_code 8 = .ok (.aload_n 0, 1) := by decide +kernel
theorem dX1_cut_9 : decode prog_3_method_2_code 9 = .ok (.getfield 7, 3) := by decide +kernel
theorem dX1_cut_12 : decode prog_3_method_2_code 12 = .ok (.iload_n 1, 1) := by decide +kernel
theorem dX1_cut_13 : decode prog_3_method_2_code 13 = .ok (.iload_n 2, 1) := by decide +kernel
theorem dX1_cut_14 : decode prog_3_method_2_code 14 = .ok (.invokestatic 20, 3) := by decide +kernel
theorem dX1_cut_17 : decode prog_3_method_2_code 17 = .ok (.ifCond .eq 11, 3) := by decide +kernel
theorem dX1_cut_20 : decode prog_3_method_2_code 20 = .ok (.aload_n 0, 1) := by decide +kernel
theorem dX1_cut_21 : decode prog_3_method_2_code 21 = .ok (.iconst 1, 1) := by decide +kernel
theorem dX1_cut_22 : decode prog_3_method_2_code 22 = .ok (.putfield 16, 3) := by decide +kernel
theorem dX1_cut_25 : decode prog_3_method_2_code 25 = .ok (.goto 16, 3) := by decide +kernel
theorem dX1_cut_28 : decode prog_3_method_2_code 28 = .ok (.aload_n 0, 1) := by decide +kernel
theorem dX1_cut_29 : decode prog_3_method_2_code 29 = .ok (.aload_n 0, 1) := by decide +kernel
theorem dX1_cut_30 : decode prog_3_method_2_code 30 = .ok (.getfield 7, 3) := by decide +kernel
theorem dX1_cut_33 : decode prog_3_method_2_code 33 = .ok (.iload_n 1, 1) := by decide +kernel
theorem dX1_cut_34 : decode prog_3_method_2_code 34 = .ok (.iload_n 2, 1) := by decide +kernel
theorem dX1_cut_35 : decode prog_3_method_2_code 35 = .ok (.invokestatic 26, 3) := by decide +kernel
theorem dX1_cut_38 : decode prog_3_method_2_code 38 = .ok (.putfield 7, 3) := by decide +kernel
theorem dX1_cut_41 : decode prog_3_method_2_code 41 = .ok (.return_, 1) := by decide +kernel
theorem dJxa1e45_init_da8c8_0 : decode prog_23_method_1_code 0 = .ok (.aload_n 0, 1) := by decide +kernel
theorem dJxa1e45_init_da8c8_1 : decode prog_23_method_1_code 1 = .ok (.invokespecial 1, 3) := by decide +kernel
theorem dJxa1e45_init_da8c8_4 : decode prog_23_method_1_code 4 = .ok (.return_, 1) := by decide +kernel
theorem dJxc12de_init_da8c8_0 : decode prog_24_method_1_code 0 = .ok (.aload_n 0, 1) := by decide +kernel
theorem dJxc12de_init_da8c8_1 : decode prog_24_method_1_code 1 = .ok (.invokespecial 1, 3) := by decide +kernel
theorem dJxc12de_init_da8c8_4 : decode prog_24_method_1_code 4 = .ok (.aload_n 0, 1) := by decide +kernel
theorem dJxc12de_init_da8c8_5 : decode prog_24_method_1_code 5 = .ok (.iconst 0, 1) := by decide +kernel
theorem dJxc12de_init_da8c8_6 : decode prog_24_method_1_code 6 = .ok (.putfield 7, 3) := by decide +kernel
theorem dJxc12de_init_da8c8_9 : decode prog_24_method_1_code 9 = .ok (.return_, 1) := by decide +kernel
theorem dJx4a65c_init_da8c8_0 : decode prog_25_method_2_code 0 = .ok (.aload_n 0, 1) := by decide +kernel
theorem dJx4a65c_init_da8c8_1 : decode prog_25_method_2_code 1 = .ok (.invokespecial 1, 3) := by decide +kernel
theorem dJx4a65c_init_da8c8_4 : decode prog_25_method_2_code 4 = .ok (.aload_n 0, 1) := by decide +kernel
theorem dJx4a65c_init_da8c8_5 : decode prog_25_method_2_code 5 = .ok (.getstatic 39, 3) := by decide +kernel
theorem dJx4a65c_init_da8c8_8 : decode prog_25_method_2_code 8 = .ok (.putfield 9, 3) := by decide +kernel
theorem dJx4a65c_init_da8c8_11 : decode prog_25_method_2_code 11 = .ok (.return_, 1) := by decide +kernel
theorem dX2_init_0 : decode prog_4_method_1_code 0 = .ok (.aload_n 0, 1) := by decide +kernel
theorem dX2_init_1 : decode prog_4_method_1_code 1 = .ok (.invokespecial 3, 3) := by decide +kernel
theorem dX2_init_4 : decode prog_4_method_1_code 4 = .ok (.aload_n 0, 1) := by decide +kernel
theorem dX2_init_5 : decode prog_4_method_1_code 5 = .ok (.new 9, 3) := by decide +kernel
theorem dX2_init_8 : decode prog_4_method_1_code 8 = .ok (.dup, 1) := by decide +kernel
theorem dX2_init_9 : decode prog_4_method_1_code 9 = .ok (.invokespecial 11, 3) := by decide +kernel
theorem dX2_init_12 : decode prog_4_method_1_code 12 = .ok (.putfield 12, 3) := by decide +kernel
theorem dX2_init_15 : decode prog_4_method_1_code 15 = .ok (.aload_n 0, 1) := by decide +kernel
theorem dX2_init_16 : decode prog_4_method_1_code 16 = .ok (.sipush 360, 3) := by decide +kernel
theorem dX2_init_19 : decode prog_4_method_1_code 19 = .ok (.newarray .int, 2) := by decide +kernel
theorem dX2_init_21 : decode prog_4_method_1_code 21 = .ok (.putfield 18, 3) := by decide +kernel
theorem dX2_init_24 : decode prog_4_method_1_code 24 = .ok (.return_, 1) := by decide +kernel
theorem dJx4a65c_clear_da8c8_0 : decode prog_25_method_40_code 0 = .ok (.aload_n 0, 1) := by decide +kernel
theorem dJx4a65c_clear_da8c8_1 : decode prog_25_method_40_code 1 = .ok (.dup, 1) := by decide +kernel
theorem dJx4a65c_clear_da8c8_2 : decode prog_25_method_40_code 2 = .ok (.getfield 63, 3) := by decide +kernel
theorem dJx4a65c_clear_da8c8_5 : decode prog_25_method_40_code 5 = .ok (.iconst 1, 1) := by decide +kernel
theorem dJx4a65c_clear_da8c8_6 : decode prog_25_method_40_code 6 = .ok (.iadd, 1) := by decide +kernel
theorem dJx4a65c_clear_da8c8_7 : decode prog_25_method_40_code 7 = .ok (.putfield 63, 3) := by decide +kernel
theorem dJx4a65c_clear_da8c8_10 : decode prog_25_method_40_code 10 = .ok (.aload_n 0, 1) := by decide +kernel
theorem dJx4a65c_clear_da8c8_11 : decode prog_25_method_40_code 11 = .ok (.getfield 9, 3) := by decide +kernel
theorem dJx4a65c_clear_da8c8_14 : decode prog_25_method_40_code 14 = .ok (.astore_n 1, 1) := by decide +kernel
theorem dJx4a65c_clear_da8c8_15 : decode prog_25_method_40_code 15 = .ok (.aload_n 0, 1) := by decide +kernel
theorem dJx4a65c_clear_da8c8_16 : decode prog_25_method_40_code 16 = .ok (.getfield 48, 3) := by decide +kernel
theorem dJx4a65c_clear_da8c8_19 : decode prog_25_method_40_code 19 = .ok (.istore_n 2, 1) := by decide +kernel
theorem dJx4a65c_clear_da8c8_20 : decode prog_25_method_40_code 20 = .ok (.aload_n 0, 1) := by decide +kernel
theorem dJx4a65c_clear_da8c8_21 : decode prog_25_method_40_code 21 = .ok (.iconst 0, 1) := by decide +kernel
theorem dJx4a65c_clear_da8c8_22 : decode prog_25_method_40_code 22 = .ok (.dup_x1, 1) := by decide +kernel
theorem dJx4a65c_clear_da8c8_23 : decode prog_25_method_40_code 23 = .ok (.putfield 48, 3) := by decide +kernel
theorem dJx4a65c_clear_da8c8_26 : decode prog_25_method_40_code 26 = .ok (.istore_n 3, 1) := by decide +kernel
theorem dJx4a65c_clear_da8c8_27 : decode prog_25_method_40_code 27 = .ok (.iload_n 3, 1) := by decide +kernel
theorem dJx4a65c_clear_da8c8_28 : decode prog_25_method_40_code 28 = .ok (.iload_n 2, 1) := by decide +kernel
theorem dJx4a65c_clear_da8c8_29 : decode prog_25_method_40_code 29 = .ok (.if_icmp .ge 13, 3) := by decide +kernel
theorem dJx4a65c_clear_da8c8_32 : decode prog_25_method_40_code 32 = .ok (.aload_n 1, 1) := by decide +kernel
theorem dJx4a65c_clear_da8c8_33 : decode prog_25_method_40_code 33 = .ok (.iload_n 3, 1) := by decide +kernel
theorem dJx4a65c_clear_da8c8_34 : decode prog_25_method_40_code 34 = .ok (.aconst_null, 1) := by decide +kernel
theorem dJx4a65c_clear_da8c8_35 : decode prog_25_method_40_code 35 = .ok (.aastore, 1) := by decide +kernel
theorem dJx4a65c_clear_da8c8_36 : decode prog_25_method_40_code 36 = .ok (.iinc 3 1, 3) := by decide +kernel
theorem dJx4a65c_clear_da8c8_39 : decode prog_25_method_40_code 39 = .ok (.goto (-12), 3) := by decide +kernel
theorem dJx4a65c_clear_da8c8_42 : decode prog_25_method_40_code 42 = .ok (.return_, 1) := by decide +kernel
theorem dJx4a65c_size_8abf5_0 : decode prog_25_method_8_code 0 = .ok (.aload_n 0, 1) := by decide +kernel
theorem dJx4a65c_size_8abf5_1 : decode prog_25_method_8_code 1 = .ok (.getfield 48, 3) := by decide +kernel
theorem dJx4a65c_size_8abf5_4 : decode prog_25_method_8_code 4 = .ok (.ireturn, 1) := by decide +kernel
theorem dJ3_checkIndex_8e157_0 : decode prog_33_method_11_code 0 = .ok (.iload_n 0, 1) := by decide +kernel
theorem dJ3_checkIndex_8e157_1 : decode prog_33_method_11_code 1 = .ok (.ifCond .lt 8, 3) := by decide +kernel
theorem dJ3_checkIndex_8e157_4 : decode prog_33_method_11_code 4 = .ok (.iload_n 0, 1) := by decide +kernel
theorem dJ3_checkIndex_8e157_5 : decode prog_33_method_11_code 5 = .ok (.iload_n 1, 1) := by decide +kernel
theorem dJ3_checkIndex_8e157_6 : decode prog_33_method_11_code 6 = .ok (.if_icmp .lt 10, 3) := by decide +kernel
theorem dJ3_checkIndex_8e157_9 : decode prog_33_method_11_code 9 = .ok (.aload_n 2, 1) := by decide +kernel
theorem dJ3_checkIndex_8e157_10 : decode prog_33_method_11_code 10 = .ok (.iload_n 0, 1) := by decide +kernel
theorem dJ3_checkIndex_8e157_11 : decode prog_33_method_11_code 11 = .ok (.iload_n 1, 1) := by decide +kernel
theorem dJ3_checkIndex_8e157_12 : decode prog_33_method_11_code 12 = .ok (.invokestatic 95, 3) := by decide +kernel
theorem dJ3_checkIndex_8e157_15 : decode prog_33_method_11_code 15 = .ok (.athrow, 1) := by decide +kernel
theorem dJ3_checkIndex_8e157_16 : decode prog_33_method_11_code 16 = .ok (.iload_n 0, 1) := by decide +kernel
theorem dJ3_checkIndex_8e157_17 : decode prog_33_method_11_code 17 = .ok (.ireturn, 1) := by decide +kernel
theorem dJ15_checkIndex_7cf53_0 : decode prog_29_method_17_code 0 = .ok (.iload_n 0, 1) := by decide +kernel
theorem dJ15_checkIndex_7cf53_1 : decode prog_29_method_17_code 1 = .ok (.iload_n 1, 1) := by decide +kernel
theorem dJ15_checkIndex_7cf53_2 : decode prog_29_method_17_code 2 = .ok (.aconst_null, 1) := by decide +kernel
theorem dJ15_checkIndex_7cf53_3 : decode prog_29_method_17_code 3 = .ok (.invokestatic 105, 3) := by decide +kernel
theorem dJ15_checkIndex_7cf53_6 : decode prog_29_method_17_code 6 = .ok (.ireturn, 1) := by decide +kernel
theorem dJx4a65c_elementData_915e3_0 : decode prog_25_method_18_code 0 = .ok (.aload_n 0, 1) := by decide +kernel
theorem dJx4a65c_elementData_915e3_1 : decode prog_25_method_18_code 1 = .ok (.getfield 9, 3) := by decide +kernel
theorem dJx4a65c_elementData_915e3_4 : decode prog_25_method_18_code 4 = .ok (.iload_n 1, 1) := by decide +kernel
theorem dJx4a65c_elementData_915e3_5 : decode prog_25_method_18_code 5 = .ok (.aaload, 1) := by decide +kernel
theorem dJx4a65c_elementData_915e3_6 : decode prog_25_method_18_code 6 = .ok (.areturn, 1) := by decide +kernel
theorem dJx4a65c_get_915e3_0 : decode prog_25_method_20_code 0 = .ok (.iload_n 1, 1) := by decide +kernel
theorem dJx4a65c_get_915e3_1 : decode prog_25_method_20_code 1 = .ok (.aload_n 0, 1) := by decide +kernel
theorem dJx4a65c_get_915e3_2 : decode prog_25_method_20_code 2 = .ok (.getfield 48, 3) := by decide +kernel
theorem dJx4a65c_get_915e3_5 : decode prog_25_method_20_code 5 = .ok (.invokestatic 118, 3) := by decide +kernel
theorem dJx4a65c_get_915e3_8 : decode prog_25_method_20_code 8 = .ok (.pop, 1) := by decide +kernel
theorem dJx4a65c_get_915e3_9 : decode prog_25_method_20_code 9 = .ok (.aload_n 0, 1) := by decide +kernel
theorem dJx4a65c_get_915e3_10 : decode prog_25_method_20_code 10 = .ok (.iload_n 1, 1) := by decide +kernel
theorem dJx4a65c_get_915e3_11 : decode prog_25_method_20_code 11 = .ok (.invokevirtual 123, 3) := by decide +kernel
theorem dJx4a65c_get_915e3_14 : decode prog_25_method_20_code 14 = .ok (.areturn, 1) := by decide +kernel
theorem dX3_isValid_0 : decode prog_5_method_2_code 0 = .ok (.aload_n 0, 1) := by decide +kernel
theorem dX3_isValid_1 : decode prog_5_method_2_code 1 = .ok (.getfield 24, 3) := by decide +kernel
theorem dX3_isValid_4 : decode prog_5_method_2_code 4 = .ok (.aload_n 0, 1) := by decide +kernel
theorem dX3_isValid_5 : decode prog_5_method_2_code 5 = .ok (.getfield 15, 3) := by decide +kernel
theorem dX3_isValid_8 : decode prog_5_method_2_code 8 = .ok (.getfield 19, 3) := by decide +kernel
theorem dX3_isValid_11 : decode prog_5_method_2_code 11 = .ok (.if_icmp .ne 7, 3) := by decide +kernel
theorem dX3_isValid_14 : decode prog_5_method_2_code 14 = .ok (.iconst 1, 1) := by decide +kernel
theorem dX3_isValid_15 : decode prog_5_method_2_code 15 = .ok (.goto 4, 3) := by decide +kernel
theorem dX3_isValid_18 : decode prog_5_method_2_code 18 = .ok (.iconst 0, 1) := by decide +kernel
theorem dX3_isValid_19 : decode prog_5_method_2_code 19 = .ok (.ireturn, 1) := by decide +kernel
theorem dJ8_hugeLength_7cf53_0 : decode prog_32_method_28_code 0 = .ok (.iload_n 0, 1) := by decide +kernel
theorem dJ8_hugeLength_7cf53_1 : decode prog_32_method_28_code 1 = .ok (.iload_n 1, 1) := by decide +kernel
theorem dJ8_hugeLength_7cf53_2 : decode prog_32_method_28_code 2 = .ok (.iadd, 1) := by decide +kernel
theorem dJ8_hugeLength_7cf53_3 : decode prog_32_method_28_code 3 = .ok (.istore_n 2, 1) := by decide +kernel
theorem dJ8_hugeLength_7cf53_4 : decode prog_32_method_28_code 4 = .ok (.iload_n 2, 1) := by decide +kernel
theorem dJ8_hugeLength_7cf53_5 : decode prog_32_method_28_code 5 = .ok (.ifCond .ge 44, 3) := by decide +kernel
theorem dJ8_hugeLength_7cf53_8 : decode prog_32_method_28_code 8 = .ok (.new 204, 3) := by decide +kernel
theorem dJ8_hugeLength_7cf53_11 : decode prog_32_method_28_code 11 = .ok (.dup, 1) := by decide +kernel
theorem dJ8_hugeLength_7cf53_12 : decode prog_32_method_28_code 12 = .ok (.new 89, 3) := by decide +kernel
theorem dJ8_hugeLength_7cf53_15 : decode prog_32_method_28_code 15 = .ok (.dup, 1) := by decide +kernel
theorem dJ8_hugeLength_7cf53_16 : decode prog_32_method_28_code 16 = .ok (.invokespecial 91, 3) := by decide +kernel
theorem dJ8_hugeLength_7cf53_19 : decode prog_32_method_28_code 19 = .ok (.ldc 206, 2) := by decide +kernel
theorem dJ8_hugeLength_7cf53_21 : decode prog_32_method_28_code 21 = .ok (.invokevirtual 94, 3) := by decide +kernel
theorem dJ8_hugeLength_7cf53_24 : decode prog_32_method_28_code 24 = .ok (.iload_n 0, 1) := by decide +kernel
theorem dJ8_hugeLength_7cf53_25 : decode prog_32_method_28_code 25 = .ok (.invokevirtual 98, 3) := by decide +kernel
theorem dJ8_hugeLength_7cf53_28 : decode prog_32_method_28_code 28 = .ok (.ldc 208, 2) := by decide +kernel
theorem dJ8_hugeLength_7cf53_30 : decode prog_32_method_28_code 30 = .ok (.invokevirtual 94, 3) := by decide +kernel
theorem dJ8_hugeLength_7cf53_33 : decode prog_32_method_28_code 33 = .ok (.iload_n 1, 1) := by decide +kernel
theorem dJ8_hugeLength_7cf53_34 : decode prog_32_method_28_code 34 = .ok (.invokevirtual 98, 3) := by decide +kernel
theorem dJ8_hugeLength_7cf53_37 : decode prog_32_method_28_code 37 = .ok (.ldc 210, 2) := by decide +kernel
theorem dJ8_hugeLength_7cf53_39 : decode prog_32_method_28_code 39 = .ok (.invokevirtual 94, 3) := by decide +kernel
theorem dJ8_hugeLength_7cf53_42 : decode prog_32_method_28_code 42 = .ok (.invokevirtual 101, 3) := by decide +kernel
theorem dJ8_hugeLength_7cf53_45 : decode prog_32_method_28_code 45 = .ok (.invokespecial 212, 3) := by decide +kernel
theorem dJ8_hugeLength_7cf53_48 : decode prog_32_method_28_code 48 = .ok (.athrow, 1) := by decide +kernel
theorem dJ8_hugeLength_7cf53_49 : decode prog_32_method_28_code 49 = .ok (.iload_n 2, 1) := by decide +kernel
theorem dJ8_hugeLength_7cf53_50 : decode prog_32_method_28_code 50 = .ok (.ldc 200, 2) := by decide +kernel
theorem dJ8_hugeLength_7cf53_52 : decode prog_32_method_28_code 52 = .ok (.if_icmp .gt 6, 3) := by decide +kernel
theorem dJ8_hugeLength_7cf53_55 : decode prog_32_method_28_code 55 = .ok (.ldc 200, 2) := by decide +kernel
theorem dJ8_hugeLength_7cf53_57 : decode prog_32_method_28_code 57 = .ok (.ireturn, 1) := by decide +kernel
theorem dJ8_hugeLength_7cf53_58 : decode prog_32_method_28_code 58 = .ok (.iload_n 2, 1) := by decide +kernel
theorem dJ8_hugeLength_7cf53_59 : decode prog_32_method_28_code 59 = .ok (.ireturn, 1) := by decide +kernel
theorem dJ8_newLength_cabcc_0 : decode prog_32_method_27_code 0 = .ok (.iload_n 0, 1) := by decide +kernel
theorem dJ8_newLength_cabcc_1 : decode prog_32_method_27_code 1 = .ok (.iload_n 1, 1) := by decide +kernel
theorem dJ8_newLength_cabcc_2 : decode prog_32_method_27_code 2 = .ok (.iload_n 2, 1) := by decide +kernel
theorem dJ8_newLength_cabcc_3 : decode prog_32_method_27_code 3 = .ok (.invokestatic 194, 3) := by decide +kernel
theorem dJ8_newLength_cabcc_6 : decode prog_32_method_27_code 6 = .ok (.iadd, 1) := by decide +kernel
theorem dJ8_newLength_cabcc_7 : decode prog_32_method_27_code 7 = .ok (.istore_n 3, 1) := by decide +kernel
theorem dJ8_newLength_cabcc_8 : decode prog_32_method_27_code 8 = .ok (.iconst 0, 1) := by decide +kernel
theorem dJ8_newLength_cabcc_9 : decode prog_32_method_27_code 9 = .ok (.iload_n 3, 1) := by decide +kernel
theorem dJ8_newLength_cabcc_10 : decode prog_32_method_27_code 10 = .ok (.if_icmp .ge 11, 3) := by decide +kernel
theorem dJ8_newLength_cabcc_13 : decode prog_32_method_27_code 13 = .ok (.iload_n 3, 1) := by decide +kernel
theorem dJ8_newLength_cabcc_14 : decode prog_32_method_27_code 14 = .ok (.ldc 200, 2) := by decide +kernel
theorem dJ8_newLength_cabcc_16 : decode prog_32_method_27_code 16 = .ok (.if_icmp .gt 5, 3) := by decide +kernel
theorem dJ8_newLength_cabcc_19 : decode prog_32_method_27_code 19 = .ok (.iload_n 3, 1) := by decide +kernel
theorem dJ8_newLength_cabcc_20 : decode prog_32_method_27_code 20 = .ok (.ireturn, 1) := by decide +kernel
theorem dJ8_newLength_cabcc_21 : decode prog_32_method_27_code 21 = .ok (.iload_n 0, 1) := by decide +kernel
theorem dJ8_newLength_cabcc_22 : decode prog_32_method_27_code 22 = .ok (.iload_n 1, 1) := by decide +kernel
theorem dJ8_newLength_cabcc_23 : decode prog_32_method_27_code 23 = .ok (.invokestatic 201, 3) := by decide +kernel
theorem dJ8_newLength_cabcc_26 : decode prog_32_method_27_code 26 = .ok (.ireturn, 1) := by decide +kernel
theorem dJ7_copyOf_6403c_0 : decode prog_26_method_120_code 0 = .ok (.aload_n 2, 1) := by decide +kernel
theorem dJ7_copyOf_6403c_1 : decode prog_26_method_120_code 1 = .ok (.ldc 110, 2) := by decide +kernel
theorem dJ7_copyOf_6403c_3 : decode prog_26_method_120_code 3 = .ok (.if_acmp .ne 10, 3) := by decide +kernel
theorem dJ7_copyOf_6403c_6 : decode prog_26_method_120_code 6 = .ok (.iload_n 1, 1) := by decide +kernel
theorem dJ7_copyOf_6403c_7 : decode prog_26_method_120_code 7 = .ok (.anewarray 2, 3) := by decide +kernel
theorem dJ7_copyOf_6403c_10 : decode prog_26_method_120_code 10 = .ok (.goto 14, 3) := by decide +kernel
theorem dJ7_copyOf_6403c_13 : decode prog_26_method_120_code 13 = .ok (.aload_n 2, 1) := by decide +kernel
theorem dJ7_copyOf_6403c_14 : decode prog_26_method_120_code 14 = .ok (.invokevirtual 90, 3) := by decide +kernel
theorem dJ7_copyOf_6403c_17 : decode prog_26_method_120_code 17 = .ok (.iload_n 1, 1) := by decide +kernel
theorem dJ7_copyOf_6403c_18 : decode prog_26_method_120_code 18 = .ok (.invokestatic 95, 3) := by decide +kernel
theorem dJ7_copyOf_6403c_21 : decode prog_26_method_120_code 21 = .ok (.checkcast 110, 3) := by decide +kernel
theorem dJ7_copyOf_6403c_24 : decode prog_26_method_120_code 24 = .ok (.astore_n 3, 1) := by decide +kernel
theorem dJ7_copyOf_6403c_25 : decode prog_26_method_120_code 25 = .ok (.aload_n 0, 1) := by decide +kernel
theorem dJ7_copyOf_6403c_26 : decode prog_26_method_120_code 26 = .ok (.iconst 0, 1) := by decide +kernel
theorem dJ7_copyOf_6403c_27 : decode prog_26_method_120_code 27 = .ok (.aload_n 3, 1) := by decide +kernel
theorem dJ7_copyOf_6403c_28 : decode prog_26_method_120_code 28 = .ok (.iconst 0, 1) := by decide +kernel
theorem dJ7_copyOf_6403c_29 : decode prog_26_method_120_code 29 = .ok (.aload_n 0, 1) := by decide +kernel
theorem dJ7_copyOf_6403c_30 : decode prog_26_method_120_code 30 = .ok (.arraylength, 1) := by decide +kernel
theorem dJ7_copyOf_6403c_31 : decode prog_26_method_120_code 31 = .ok (.iload_n 1, 1) := by decide +kernel
theorem dJ7_copyOf_6403c_32 : decode prog_26_method_120_code 32 = .ok (.invokestatic 304, 3) := by decide +kernel
theorem dJ7_copyOf_6403c_35 : decode prog_26_method_120_code 35 = .ok (.invokestatic 150, 3) := by decide +kernel
theorem dJ7_copyOf_6403c_38 : decode prog_26_method_120_code 38 = .ok (.aload_n 3, 1) := by decide +kernel
theorem dJ7_copyOf_6403c_39 : decode prog_26_method_120_code 39 = .ok (.areturn, 1) := by decide +kernel
theorem dJ7_copyOf_1904c_0 : decode prog_26_method_119_code 0 = .ok (.aload_n 0, 1) := by decide +kernel
theorem dJ7_copyOf_1904c_1 : decode prog_26_method_119_code 1 = .ok (.iload_n 1, 1) := by decide +kernel
theorem dJ7_copyOf_1904c_2 : decode prog_26_method_119_code 2 = .ok (.aload_n 0, 1) := by decide +kernel
theorem dJ7_copyOf_1904c_3 : decode prog_26_method_119_code 3 = .ok (.invokevirtual 86, 3) := by decide +kernel
theorem dJ7_copyOf_1904c_6 : decode prog_26_method_119_code 6 = .ok (.invokestatic 300, 3) := by decide +kernel
theorem dJ7_copyOf_1904c_9 : decode prog_26_method_119_code 9 = .ok (.areturn, 1) := by decide +kernel
theorem dJx4a65c_grow_92f84_0 : decode prog_25_method_6_code 0 = .ok (.aload_n 0, 1) := by decide +kernel
theorem dJx4a65c_grow_92f84_1 : decode prog_25_method_6_code 1 = .ok (.getfield 9, 3) := by decide +kernel
theorem dJx4a65c_grow_92f84_4 : decode prog_25_method_6_code 4 = .ok (.arraylength, 1) := by decide +kernel
theorem dJx4a65c_grow_92f84_5 : decode prog_25_method_6_code 5 = .ok (.istore_n 2, 1) := by decide +kernel
theorem dJx4a65c_grow_92f84_6 : decode prog_25_method_6_code 6 = .ok (.iload_n 2, 1) := by decide +kernel
theorem dJx4a65c_grow_92f84_7 : decode prog_25_method_6_code 7 = .ok (.ifCond .gt 13, 3) := by decide +kernel
theorem dJx4a65c_grow_92f84_10 : decode prog_25_method_6_code 10 = .ok (.aload_n 0, 1) := by decide +kernel
theorem dJx4a65c_grow_92f84_11 : decode prog_25_method_6_code 11 = .ok (.getfield 9, 3) := by decide +kernel
theorem dJx4a65c_grow_92f84_14 : decode prog_25_method_6_code 14 = .ok (.getstatic 39, 3) := by decide +kernel
theorem dJx4a65c_grow_92f84_17 : decode prog_25_method_6_code 17 = .ok (.if_acmp .eq 28, 3) := by decide +kernel
theorem dJx4a65c_grow_92f84_20 : decode prog_25_method_6_code 20 = .ok (.iload_n 2, 1) := by decide +kernel
theorem dJx4a65c_grow_92f84_21 : decode prog_25_method_6_code 21 = .ok (.iload_n 1, 1) := by decide +kernel
theorem dJx4a65c_grow_92f84_22 : decode prog_25_method_6_code 22 = .ok (.iload_n 2, 1) := by decide +kernel
theorem dJx4a65c_grow_92f84_23 : decode prog_25_method_6_code 23 = .ok (.isub, 1) := by decide +kernel
theorem dJx4a65c_grow_92f84_24 : decode prog_25_method_6_code 24 = .ok (.iload_n 2, 1) := by decide +kernel
theorem dJx4a65c_grow_92f84_25 : decode prog_25_method_6_code 25 = .ok (.iconst 1, 1) := by decide +kernel
theorem dJx4a65c_grow_92f84_26 : decode prog_25_method_6_code 26 = .ok (.ishr, 1) := by decide +kernel
theorem dJx4a65c_grow_92f84_27 : decode prog_25_method_6_code 27 = .ok (.invokestatic 73, 3) := by decide +kernel
theorem dJx4a65c_grow_92f84_30 : decode prog_25_method_6_code 30 = .ok (.istore_n 3, 1) := by decide +kernel
theorem dJx4a65c_grow_92f84_31 : decode prog_25_method_6_code 31 = .ok (.aload_n 0, 1) := by decide +kernel
theorem dJx4a65c_grow_92f84_32 : decode prog_25_method_6_code 32 = .ok (.aload_n 0, 1) := by decide +kernel
theorem dJx4a65c_grow_92f84_33 : decode prog_25_method_6_code 33 = .ok (.getfield 9, 3) := by decide +kernel
theorem dJx4a65c_grow_92f84_36 : decode prog_25_method_6_code 36 = .ok (.iload_n 3, 1) := by decide +kernel
theorem dJx4a65c_grow_92f84_37 : decode prog_25_method_6_code 37 = .ok (.invokestatic 66, 3) := by decide +kernel
theorem dJx4a65c_grow_92f84_40 : decode prog_25_method_6_code 40 = .ok (.dup_x1, 1) := by decide +kernel
theorem dJx4a65c_grow_92f84_41 : decode prog_25_method_6_code 41 = .ok (.putfield 9, 3) := by decide +kernel
theorem dJx4a65c_grow_92f84_44 : decode prog_25_method_6_code 44 = .ok (.areturn, 1) := by decide +kernel
theorem dJx4a65c_grow_92f84_45 : decode prog_25_method_6_code 45 = .ok (.aload_n 0, 1) := by decide +kernel
theorem dJx4a65c_grow_92f84_46 : decode prog_25_method_6_code 46 = .ok (.bipush 10, 2) := by decide +kernel
theorem dJx4a65c_grow_92f84_48 : decode prog_25_method_6_code 48 = .ok (.iload_n 1, 1) := by decide +kernel
theorem dJx4a65c_grow_92f84_49 : decode prog_25_method_6_code 49 = .ok (.invokestatic 79, 3) := by decide +kernel
theorem dJx4a65c_grow_92f84_52 : decode prog_25_method_6_code 52 = .ok (.anewarray 7, 3) := by decide +kernel
theorem dJx4a65c_grow_92f84_55 : decode prog_25_method_6_code 55 = .ok (.dup_x1, 1) := by decide +kernel
theorem dJx4a65c_grow_92f84_56 : decode prog_25_method_6_code 56 = .ok (.putfield 9, 3) := by decide +kernel
theorem dJx4a65c_grow_92f84_59 : decode prog_25_method_6_code 59 = .ok (.areturn, 1) := by decide +kernel
theorem dJx4a65c_grow_d5877_0 : decode prog_25_method_7_code 0 = .ok (.aload_n 0, 1) := by decide +kernel
theorem dJx4a65c_grow_d5877_1 : decode prog_25_method_7_code 1 = .ok (.aload_n 0, 1) := by decide +kernel
theorem dJx4a65c_grow_d5877_2 : decode prog_25_method_7_code 2 = .ok (.getfield 48, 3) := by decide +kernel
theorem dJx4a65c_grow_d5877_5 : decode prog_25_method_7_code 5 = .ok (.iconst 1, 1) := by decide +kernel
theorem dJx4a65c_grow_d5877_6 : decode prog_25_method_7_code 6 = .ok (.iadd, 1) := by decide +kernel
theorem dJx4a65c_grow_d5877_7 : decode prog_25_method_7_code 7 = .ok (.invokevirtual 69, 3) := by decide +kernel
theorem dJx4a65c_grow_d5877_10 : decode prog_25_method_7_code 10 = .ok (.areturn, 1) := by decide +kernel
theorem dJx4a65c_add_72be8_0 : decode prog_25_method_24_code 0 = .ok (.iload_n 3, 1) := by decide +kernel
theorem dJx4a65c_add_72be8_1 : decode prog_25_method_24_code 1 = .ok (.aload_n 2, 1) := by decide +kernel
theorem dJx4a65c_add_72be8_2 : decode prog_25_method_24_code 2 = .ok (.arraylength, 1) := by decide +kernel
theorem dJx4a65c_add_72be8_3 : decode prog_25_method_24_code 3 = .ok (.if_icmp .ne 8, 3) := by decide +kernel
theorem dJx4a65c_add_72be8_6 : decode prog_25_method_24_code 6 = .ok (.aload_n 0, 1) := by decide +kernel
theorem dJx4a65c_add_72be8_7 : decode prog_25_method_24_code 7 = .ok (.invokevirtual 129, 3) := by decide +kernel
theorem dJx4a65c_add_72be8_10 : decode prog_25_method_24_code 10 = .ok (.astore_n 2, 1) := by decide +kernel
theorem dJx4a65c_add_72be8_11 : decode prog_25_method_24_code 11 = .ok (.aload_n 2, 1) := by decide +kernel
theorem dJx4a65c_add_72be8_12 : decode prog_25_method_24_code 12 = .ok (.iload_n 3, 1) := by decide +kernel
theorem dJx4a65c_add_72be8_13 : decode prog_25_method_24_code 13 = .ok (.aload_n 1, 1) := by decide +kernel
theorem dJx4a65c_add_72be8_14 : decode prog_25_method_24_code 14 = .ok (.aastore, 1) := by decide +kernel
theorem dJx4a65c_add_72be8_15 : decode prog_25_method_24_code 15 = .ok (.aload_n 0, 1) := by decide +kernel
theorem dJx4a65c_add_72be8_16 : decode prog_25_method_24_code 16 = .ok (.iload_n 3, 1) := by decide +kernel
theorem dJx4a65c_add_72be8_17 : decode prog_25_method_24_code 17 = .ok (.iconst 1, 1) := by decide +kernel
theorem dJx4a65c_add_72be8_18 : decode prog_25_method_24_code 18 = .ok (.iadd, 1) := by decide +kernel
theorem dJx4a65c_add_72be8_19 : decode prog_25_method_24_code 19 = .ok (.putfield 48, 3) := by decide +kernel
theorem dJx4a65c_add_72be8_22 : decode prog_25_method_24_code 22 = .ok (.return_, 1) := by decide +kernel
theorem dJx4a65c_add_9ea2d_0 : decode prog_25_method_25_code 0 = .ok (.aload_n 0, 1) := by decide +kernel
theorem dJx4a65c_add_9ea2d_1 : decode prog_25_method_25_code 1 = .ok (.dup, 1) := by decide +kernel
theorem dJx4a65c_add_9ea2d_2 : decode prog_25_method_25_code 2 = .ok (.getfield 63, 3) := by decide +kernel
theorem dJx4a65c_add_9ea2d_5 : decode prog_25_method_25_code 5 = .ok (.iconst 1, 1) := by decide +kernel
theorem dJx4a65c_add_9ea2d_6 : decode prog_25_method_25_code 6 = .ok (.iadd, 1) := by decide +kernel
theorem dJx4a65c_add_9ea2d_7 : decode prog_25_method_25_code 7 = .ok (.putfield 63, 3) := by decide +kernel
theorem dJx4a65c_add_9ea2d_10 : decode prog_25_method_25_code 10 = .ok (.aload_n 0, 1) := by decide +kernel
theorem dJx4a65c_add_9ea2d_11 : decode prog_25_method_25_code 11 = .ok (.aload_n 1, 1) := by decide +kernel
theorem dJx4a65c_add_9ea2d_12 : decode prog_25_method_25_code 12 = .ok (.aload_n 0, 1) := by decide +kernel
theorem dJx4a65c_add_9ea2d_13 : decode prog_25_method_25_code 13 = .ok (.getfield 9, 3) := by decide +kernel
theorem dJx4a65c_add_9ea2d_16 : decode prog_25_method_25_code 16 = .ok (.aload_n 0, 1) := by decide +kernel
theorem dJx4a65c_add_9ea2d_17 : decode prog_25_method_25_code 17 = .ok (.getfield 48, 3) := by decide +kernel
theorem dJx4a65c_add_9ea2d_20 : decode prog_25_method_25_code 20 = .ok (.invokevirtual 131, 3) := by decide +kernel
theorem dJx4a65c_add_9ea2d_23 : decode prog_25_method_25_code 23 = .ok (.iconst 1, 1) := by decide +kernel
theorem dJx4a65c_add_9ea2d_24 : decode prog_25_method_25_code 24 = .ok (.ireturn, 1) := by decide +kernel
theorem dX3_noteOf_0 : decode prog_5_method_3_code 0 = .ok (.aload_n 0, 1) := by decide +kernel
theorem dX3_noteOf_1 : decode prog_5_method_3_code 1 = .ok (.getfield 25, 3) := by decide +kernel
theorem dX3_noteOf_4 : decode prog_5_method_3_code 4 = .ok (.istore_n 2, 1) := by decide +kernel
theorem dX3_noteOf_5 : decode prog_5_method_3_code 5 = .ok (.iconst 0, 1) := by decide +kernel
theorem dX3_noteOf_6 : decode prog_5_method_3_code 6 = .ok (.istore_n 3, 1) := by decide +kernel
theorem dX3_noteOf_7 : decode prog_5_method_3_code 7 = .ok (.iload_n 3, 1) := by decide +kernel
theorem dX3_noteOf_8 : decode prog_5_method_3_code 8 = .ok (.iload_n 1, 1) := by decide +kernel
theorem dX3_noteOf_9 : decode prog_5_method_3_code 9 = .ok (.if_icmp .ge 14, 3) := by decide +kernel
theorem dX3_noteOf_12 : decode prog_5_method_3_code 12 = .ok (.iload_n 2, 1) := by decide +kernel
theorem dX3_noteOf_13 : decode prog_5_method_3_code 13 = .ok (.bipush 10, 2) := by decide +kernel
theorem dX3_noteOf_15 : decode prog_5_method_3_code 15 = .ok (.idiv, 1) := by decide +kernel
theorem dX3_noteOf_16 : decode prog_5_method_3_code 16 = .ok (.istore_n 2, 1) := by decide +kernel
theorem dX3_noteOf_17 : decode prog_5_method_3_code 17 = .ok (.iinc 3 1, 3) := by decide +kernel
theorem dX3_noteOf_20 : decode prog_5_method_3_code 20 = .ok (.goto (-13), 3) := by decide +kernel
theorem dX3_noteOf_23 : decode prog_5_method_3_code 23 = .ok (.iload_n 2, 1) := by decide +kernel
theorem dX3_noteOf_24 : decode prog_5_method_3_code 24 = .ok (.bipush 10, 2) := by decide +kernel
theorem dX3_noteOf_26 : decode prog_5_method_3_code 26 = .ok (.irem, 1) := by decide +kernel
theorem dX3_noteOf_27 : decode prog_5_method_3_code 27 = .ok (.ireturn, 1) := by decide +kernel
theorem dX2_slotOf_0 : decode prog_4_method_9_code 0 = .ok (.iload_n 0, 1) := by decide +kernel
theorem dX2_slotOf_1 : decode prog_4_method_9_code 1 = .ok (.ifCond .lt 23, 3) := by decide +kernel
theorem dX2_slotOf_4 : decode prog_4_method_9_code 4 = .ok (.iload_n 0, 1) := by decide +kernel
theorem dX2_slotOf_5 : decode prog_4_method_9_code 5 = .ok (.bipush 9, 2) := by decide +kernel
theorem dX2_slotOf_7 : decode prog_4_method_9_code 7 = .ok (.if_icmp .ge 17, 3) := by decide +kernel
theorem dX2_slotOf_10 : decode prog_4_method_9_code 10 = .ok (.iload_n 1, 1) := by decide +kernel
theorem dX2_slotOf_11 : decode prog_4_method_9_code 11 = .ok (.ifCond .lt 13, 3) := by decide +kernel
theorem dX2_slotOf_14 : decode prog_4_method_9_code 14 = .ok (.iload_n 1, 1) := by decide +kernel
theorem dX2_slotOf_15 : decode prog_4_method_9_code 15 = .ok (.bipush 40, 2) := by decide +kernel
theorem dX2_slotOf_17 : decode prog_4_method_9_code 17 = .ok (.if_icmp .ge 7, 3) := by decide +kernel
theorem dX2_slotOf_20 : decode prog_4_method_9_code 20 = .ok (.iconst 1, 1) := by decide +kernel
theorem dX2_slotOf_21 : decode prog_4_method_9_code 21 = .ok (.goto 4, 3) := by decide +kernel
theorem dX2_slotOf_24 : decode prog_4_method_9_code 24 = .ok (.iconst 0, 1) := by decide +kernel
theorem dX2_slotOf_25 : decode prog_4_method_9_code 25 = .ok (.istore_n 2, 1) := by decide +kernel
theorem dX2_slotOf_26 : decode prog_4_method_9_code 26 = .ok (.iload_n 2, 1) := by decide +kernel
theorem dX2_slotOf_27 : decode prog_4_method_9_code 27 = .ok (.ifCond .eq 12, 3) := by decide +kernel
theorem dX2_slotOf_30 : decode prog_4_method_9_code 30 = .ok (.iload_n 0, 1) := by decide +kernel
theorem dX2_slotOf_31 : decode prog_4_method_9_code 31 = .ok (.bipush 40, 2) := by decide +kernel
theorem dX2_slotOf_33 : decode prog_4_method_9_code 33 = .ok (.imul, 1) := by decide +kernel
theorem dX2_slotOf_34 : decode prog_4_method_9_code 34 = .ok (.iload_n 1, 1) := by decide +kernel
theorem dX2_slotOf_35 : decode prog_4_method_9_code 35 = .ok (.iadd, 1) := by decide +kernel
theorem dX2_slotOf_36 : decode prog_4_method_9_code 36 = .ok (.goto 4, 3) := by decide +kernel
theorem dX2_slotOf_39 : decode prog_4_method_9_code 39 = .ok (.iconst (-1), 1) := by decide +kernel
theorem dX2_slotOf_40 : decode prog_4_method_9_code 40 = .ok (.ireturn, 1) := by decide +kernel
theorem dX2_worthFrom_0 : decode prog_4_method_8_code 0 = .ok (.iload_n 1, 1) := by decide +kernel
theorem dX2_worthFrom_1 : decode prog_4_method_8_code 1 = .ok (.iload_n 2, 1) := by decide +kernel
theorem dX2_worthFrom_2 : decode prog_4_method_8_code 2 = .ok (.invokestatic 72, 3) := by decide +kernel
theorem dX2_worthFrom_5 : decode prog_4_method_8_code 5 = .ok (.istore_n 3, 1) := by decide +kernel
theorem dX2_worthFrom_6 : decode prog_4_method_8_code 6 = .ok (.iload_n 3, 1) := by decide +kernel
theorem dX2_worthFrom_7 : decode prog_4_method_8_code 7 = .ok (.iconst (-1), 1) := by decide +kernel
theorem dX2_worthFrom_8 : decode prog_4_method_8_code 8 = .ok (.if_icmp .ne 7, 3) := by decide +kernel
theorem dX2_worthFrom_11 : decode prog_4_method_8_code 11 = .ok (.iconst 0, 1) := by decide +kernel
theorem dX2_worthFrom_12 : decode prog_4_method_8_code 12 = .ok (.goto 9, 3) := by decide +kernel
theorem dX2_worthFrom_15 : decode prog_4_method_8_code 15 = .ok (.aload_n 0, 1) := by decide +kernel
theorem dX2_worthFrom_16 : decode prog_4_method_8_code 16 = .ok (.getfield 18, 3) := by decide +kernel
theorem dX2_worthFrom_19 : decode prog_4_method_8_code 19 = .ok (.iload_n 3, 1) := by decide +kernel
theorem dX2_worthFrom_20 : decode prog_4_method_8_code 20 = .ok (.iaload, 1) := by decide +kernel
theorem dX2_worthFrom_21 : decode prog_4_method_8_code 21 = .ok (.ireturn, 1) := by decide +kernel
theorem dX2_costOfSplice_0 : decode prog_4_method_7_code 0 = .ok (.iload_n 1, 1) := by decide +kernel
theorem dX2_costOfSplice_1 : decode prog_4_method_7_code 1 = .ok (.iload_n 2, 1) := by decide +kernel
theorem dX2_costOfSplice_2 : decode prog_4_method_7_code 2 = .ok (.if_icmp .eq 11, 3) := by decide +kernel
theorem dX2_costOfSplice_5 : decode prog_4_method_7_code 5 = .ok (.iload_n 1, 1) := by decide +kernel
theorem dX2_costOfSplice_6 : decode prog_4_method_7_code 6 = .ok (.ifCond .lt 7, 3) := by decide +kernel
theorem dX2_costOfSplice_9 : decode prog_4_method_7_code 9 = .ok (.iload_n 2, 1) := by decide +kernel
theorem dX2_costOfSplice_10 : decode prog_4_method_7_code 10 = .ok (.ifCond .ge 5, 3) := by decide +kernel
theorem dX2_costOfSplice_13 : decode prog_4_method_7_code 13 = .ok (.iconst 0, 1) := by decide +kernel
theorem dX2_costOfSplice_14 : decode prog_4_method_7_code 14 = .ok (.ireturn, 1) := by decide +kernel
theorem dX2_costOfSplice_15 : decode prog_4_method_7_code 15 = .ok (.iload_n 1, 1) := by decide +kernel
theorem dX2_costOfSplice_16 : decode prog_4_method_7_code 16 = .ok (.aload_n 0, 1) := by decide +kernel
theorem dX2_costOfSplice_17 : decode prog_4_method_7_code 17 = .ok (.getfield 12, 3) := by decide +kernel
theorem dX2_costOfSplice_20 : decode prog_4_method_7_code 20 = .ok (.invokevirtual 32, 3) := by decide +kernel
theorem dX2_costOfSplice_23 : decode prog_4_method_7_code 23 = .ok (.if_icmp .ge 14, 3) := by decide +kernel
theorem dX2_costOfSplice_26 : decode prog_4_method_7_code 26 = .ok (.iload_n 2, 1) := by decide +kernel
theorem dX2_costOfSplice_27 : decode prog_4_method_7_code 27 = .ok (.aload_n 0, 1) := by decide +kernel
theorem dX2_costOfSplice_28 : decode prog_4_method_7_code 28 = .ok (.getfield 12, 3) := by decide +kernel
theorem dX2_costOfSplice_31 : decode prog_4_method_7_code 31 = .ok (.invokevirtual 32, 3) := by decide +kernel
theorem dX2_costOfSplice_34 : decode prog_4_method_7_code 34 = .ok (.if_icmp .lt 5, 3) := by decide +kernel
theorem dX2_costOfSplice_37 : decode prog_4_method_7_code 37 = .ok (.iconst 0, 1) := by decide +kernel
theorem dX2_costOfSplice_38 : decode prog_4_method_7_code 38 = .ok (.ireturn, 1) := by decide +kernel
theorem dX2_costOfSplice_39 : decode prog_4_method_7_code 39 = .ok (.iconst 4, 1) := by decide +kernel
theorem dX2_costOfSplice_40 : decode prog_4_method_7_code 40 = .ok (.iconst 2, 1) := by decide +kernel
theorem dX2_costOfSplice_41 : decode prog_4_method_7_code 41 = .ok (.aload_n 0, 1) := by decide +kernel
theorem dX2_costOfSplice_42 : decode prog_4_method_7_code 42 = .ok (.getfield 12, 3) := by decide +kernel
theorem dX2_costOfSplice_45 : decode prog_4_method_7_code 45 = .ok (.iload_n 1, 1) := by decide +kernel
theorem dX2_costOfSplice_46 : decode prog_4_method_7_code 46 = .ok (.invokevirtual 36, 3) := by decide +kernel
theorem dX2_costOfSplice_49 : decode prog_4_method_7_code 49 = .ok (.checkcast 40, 3) := by decide +kernel
theorem dX2_costOfSplice_52 : decode prog_4_method_7_code 52 = .ok (.getfield 78, 3) := by decide +kernel
theorem dX2_costOfSplice_55 : decode prog_4_method_7_code 55 = .ok (.aload_n 0, 1) := by decide +kernel
theorem dX2_costOfSplice_56 : decode prog_4_method_7_code 56 = .ok (.getfield 12, 3) := by decide +kernel
theorem dX2_costOfSplice_59 : decode prog_4_method_7_code 59 = .ok (.iload_n 2, 1) := by decide +kernel
theorem dX2_costOfSplice_60 : decode prog_4_method_7_code 60 = .ok (.invokevirtual 36, 3) := by decide +kernel
theorem dX2_costOfSplice_63 : decode prog_4_method_7_code 63 = .ok (.checkcast 40, 3) := by decide +kernel
theorem dX2_costOfSplice_66 : decode prog_4_method_7_code 66 = .ok (.getfield 78, 3) := by decide +kernel
theorem dX2_costOfSplice_69 : decode prog_4_method_7_code 69 = .ok (.isub, 1) := by decide +kernel
theorem dX2_costOfSplice_70 : decode prog_4_method_7_code 70 = .ok (.invokestatic 81, 3) := by decide +kernel
theorem dX2_costOfSplice_73 : decode prog_4_method_7_code 73 = .ok (.imul, 1) := by decide +kernel
theorem dX2_costOfSplice_74 : decode prog_4_method_7_code 74 = .ok (.iadd, 1) := by decide +kernel
theorem dX2_costOfSplice_75 : decode prog_4_method_7_code 75 = .ok (.ireturn, 1) := by decide +kernel
theorem dX2_bestPlace_0 : decode prog_4_method_6_code 0 = .ok (.iconst (-1), 1) := by decide +kernel
theorem dX2_bestPlace_1 : decode prog_4_method_6_code 1 = .ok (.istore_n 3, 1) := by decide +kernel
theorem dX2_bestPlace_2 : decode prog_4_method_6_code 2 = .ok (.iconst 0, 1) := by decide +kernel
theorem dX2_bestPlace_3 : decode prog_4_method_6_code 3 = .ok (.istore 4, 2) := by decide +kernel
theorem dX2_bestPlace_5 : decode prog_4_method_6_code 5 = .ok (.iconst 0, 1) := by decide +kernel
theorem dX2_bestPlace_6 : decode prog_4_method_6_code 6 = .ok (.istore 5, 2) := by decide +kernel
theorem dX2_bestPlace_8 : decode prog_4_method_6_code 8 = .ok (.iload 5, 2) := by decide +kernel
theorem dX2_bestPlace_10 : decode prog_4_method_6_code 10 = .ok (.aload_n 0, 1) := by decide +kernel
theorem dX2_bestPlace_11 : decode prog_4_method_6_code 11 = .ok (.getfield 12, 3) := by decide +kernel
theorem dX2_bestPlace_14 : decode prog_4_method_6_code 14 = .ok (.invokevirtual 32, 3) := by decide +kernel
theorem dX2_bestPlace_17 : decode prog_4_method_6_code 17 = .ok (.if_icmp .ge 53, 3) := by decide +kernel
theorem dX2_bestPlace_20 : decode prog_4_method_6_code 20 = .ok (.iload_n 1, 1) := by decide +kernel
theorem dX2_bestPlace_21 : decode prog_4_method_6_code 21 = .ok (.aload_n 0, 1) := by decide +kernel
theorem dX2_bestPlace_22 : decode prog_4_method_6_code 22 = .ok (.getfield 28, 3) := by decide +kernel
theorem dX2_bestPlace_25 : decode prog_4_method_6_code 25 = .ok (.if_icmp .ge 45, 3) := by decide +kernel
theorem dX2_bestPlace_28 : decode prog_4_method_6_code 28 = .ok (.aload_n 0, 1) := by decide +kernel
theorem dX2_bestPlace_29 : decode prog_4_method_6_code 29 = .ok (.iload_n 1, 1) := by decide +kernel
theorem dX2_bestPlace_30 : decode prog_4_method_6_code 30 = .ok (.iload 5, 2) := by decide +kernel
theorem dX2_bestPlace_32 : decode prog_4_method_6_code 32 = .ok (.invokevirtual 66, 3) := by decide +kernel
theorem dX2_bestPlace_35 : decode prog_4_method_6_code 35 = .ok (.aload_n 0, 1) := by decide +kernel
theorem dX2_bestPlace_36 : decode prog_4_method_6_code 36 = .ok (.iload_n 2, 1) := by decide +kernel
theorem dX2_bestPlace_37 : decode prog_4_method_6_code 37 = .ok (.iload 5, 2) := by decide +kernel
theorem dX2_bestPlace_39 : decode prog_4_method_6_code 39 = .ok (.invokevirtual 69, 3) := by decide +kernel
theorem dX2_bestPlace_42 : decode prog_4_method_6_code 42 = .ok (.isub, 1) := by decide +kernel
theorem dX2_bestPlace_43 : decode prog_4_method_6_code 43 = .ok (.istore 6, 2) := by decide +kernel
theorem dX2_bestPlace_45 : decode prog_4_method_6_code 45 = .ok (.iload_n 3, 1) := by decide +kernel
theorem dX2_bestPlace_46 : decode prog_4_method_6_code 46 = .ok (.iconst (-1), 1) := by decide +kernel
theorem dX2_bestPlace_47 : decode prog_4_method_6_code 47 = .ok (.if_icmp .eq 10, 3) := by decide +kernel
theorem dX2_bestPlace_50 : decode prog_4_method_6_code 50 = .ok (.iload 6, 2) := by decide +kernel
theorem dX2_bestPlace_52 : decode prog_4_method_6_code 52 = .ok (.iload 4, 2) := by decide +kernel
theorem dX2_bestPlace_54 : decode prog_4_method_6_code 54 = .ok (.if_icmp .le 10, 3) := by decide +kernel
theorem dX2_bestPlace_57 : decode prog_4_method_6_code 57 = .ok (.iload 5, 2) := by decide +kernel
theorem dX2_bestPlace_59 : decode prog_4_method_6_code 59 = .ok (.istore_n 3, 1) := by decide +kernel
theorem dX2_bestPlace_60 : decode prog_4_method_6_code 60 = .ok (.iload 6, 2) := by decide +kernel
theorem dX2_bestPlace_62 : decode prog_4_method_6_code 62 = .ok (.istore 4, 2) := by decide +kernel
theorem dX2_bestPlace_64 : decode prog_4_method_6_code 64 = .ok (.iinc 5 1, 3) := by decide +kernel
theorem dX2_bestPlace_67 : decode prog_4_method_6_code 67 = .ok (.goto (-59), 3) := by decide +kernel
theorem dX2_bestPlace_70 : decode prog_4_method_6_code 70 = .ok (.iload_n 3, 1) := by decide +kernel
theorem dX2_bestPlace_71 : decode prog_4_method_6_code 71 = .ok (.ireturn, 1) := by decide +kernel
theorem dX2_fillBar_0 : decode prog_4_method_3_code 0 = .ok (.iconst 0, 1) := by decide +kernel
theorem dX2_fillBar_1 : decode prog_4_method_3_code 1 = .ok (.istore_n 2, 1) := by decide +kernel
theorem dX2_fillBar_2 : decode prog_4_method_3_code 2 = .ok (.iload_n 2, 1) := by decide +kernel
theorem dX2_fillBar_3 : decode prog_4_method_3_code 3 = .ok (.aload_n 0, 1) := by decide +kernel
theorem dX2_fillBar_4 : decode prog_4_method_3_code 4 = .ok (.getfield 12, 3) := by decide +kernel
theorem dX2_fillBar_7 : decode prog_4_method_3_code 7 = .ok (.invokevirtual 32, 3) := by decide +kernel
theorem dX2_fillBar_10 : decode prog_4_method_3_code 10 = .ok (.if_icmp .ge 82, 3) := by decide +kernel
theorem dX2_fillBar_13 : decode prog_4_method_3_code 13 = .ok (.aload_n 0, 1) := by decide +kernel
theorem dX2_fillBar_14 : decode prog_4_method_3_code 14 = .ok (.getfield 12, 3) := by decide +kernel
theorem dX2_fillBar_17 : decode prog_4_method_3_code 17 = .ok (.iload_n 2, 1) := by decide +kernel
theorem dX2_fillBar_18 : decode prog_4_method_3_code 18 = .ok (.invokevirtual 36, 3) := by decide +kernel
theorem dX2_fillBar_21 : decode prog_4_method_3_code 21 = .ok (.checkcast 40, 3) := by decide +kernel
theorem dX2_fillBar_24 : decode prog_4_method_3_code 24 = .ok (.iload_n 1, 1) := by decide +kernel
theorem dX2_fillBar_25 : decode prog_4_method_3_code 25 = .ok (.invokevirtual 58, 3) := by decide +kernel
theorem dX2_fillBar_28 : decode prog_4_method_3_code 28 = .ok (.istore_n 3, 1) := by decide +kernel
theorem dX2_fillBar_29 : decode prog_4_method_3_code 29 = .ok (.aload_n 0, 1) := by decide +kernel
theorem dX2_fillBar_30 : decode prog_4_method_3_code 30 = .ok (.iload_n 1, 1) := by decide +kernel
theorem dX2_fillBar_31 : decode prog_4_method_3_code 31 = .ok (.iconst 1, 1) := by decide +kernel
theorem dX2_fillBar_32 : decode prog_4_method_3_code 32 = .ok (.iadd, 1) := by decide +kernel
theorem dX2_fillBar_33 : decode prog_4_method_3_code 33 = .ok (.iload_n 2, 1) := by decide +kernel
theorem dX2_fillBar_34 : decode prog_4_method_3_code 34 = .ok (.invokevirtual 62, 3) := by decide +kernel
theorem dX2_fillBar_37 : decode prog_4_method_3_code 37 = .ok (.istore 4, 2) := by decide +kernel
theorem dX2_fillBar_39 : decode prog_4_method_3_code 39 = .ok (.iload 4, 2) := by decide +kernel
theorem dX2_fillBar_41 : decode prog_4_method_3_code 41 = .ok (.iconst (-1), 1) := by decide +kernel
theorem dX2_fillBar_42 : decode prog_4_method_3_code 42 = .ok (.if_icmp .eq 23, 3) := by decide +kernel
theorem dX2_fillBar_45 : decode prog_4_method_3_code 45 = .ok (.iload_n 3, 1) := by decide +kernel
theorem dX2_fillBar_46 : decode prog_4_method_3_code 46 = .ok (.aload_n 0, 1) := by decide +kernel
theorem dX2_fillBar_47 : decode prog_4_method_3_code 47 = .ok (.iload_n 1, 1) := by decide +kernel
theorem dX2_fillBar_48 : decode prog_4_method_3_code 48 = .ok (.iconst 1, 1) := by decide +kernel
theorem dX2_fillBar_49 : decode prog_4_method_3_code 49 = .ok (.iadd, 1) := by decide +kernel
theorem dX2_fillBar_50 : decode prog_4_method_3_code 50 = .ok (.iload 4, 2) := by decide +kernel
theorem dX2_fillBar_52 : decode prog_4_method_3_code 52 = .ok (.invokevirtual 66, 3) := by decide +kernel
theorem dX2_fillBar_55 : decode prog_4_method_3_code 55 = .ok (.aload_n 0, 1) := by decide +kernel
theorem dX2_fillBar_56 : decode prog_4_method_3_code 56 = .ok (.iload_n 2, 1) := by decide +kernel
theorem dX2_fillBar_57 : decode prog_4_method_3_code 57 = .ok (.iload 4, 2) := by decide +kernel
theorem dX2_fillBar_59 : decode prog_4_method_3_code 59 = .ok (.invokevirtual 69, 3) := by decide +kernel
theorem dX2_fillBar_62 : decode prog_4_method_3_code 62 = .ok (.isub, 1) := by decide +kernel
theorem dX2_fillBar_63 : decode prog_4_method_3_code 63 = .ok (.iadd, 1) := by decide +kernel
theorem dX2_fillBar_64 : decode prog_4_method_3_code 64 = .ok (.istore_n 3, 1) := by decide +kernel
theorem dX2_fillBar_65 : decode prog_4_method_3_code 65 = .ok (.iload_n 1, 1) := by decide +kernel
theorem dX2_fillBar_66 : decode prog_4_method_3_code 66 = .ok (.iload_n 2, 1) := by decide +kernel
theorem dX2_fillBar_67 : decode prog_4_method_3_code 67 = .ok (.invokestatic 72, 3) := by decide +kernel
theorem dX2_fillBar_70 : decode prog_4_method_3_code 70 = .ok (.istore 5, 2) := by decide +kernel
theorem dX2_fillBar_72 : decode prog_4_method_3_code 72 = .ok (.iload 5, 2) := by decide +kernel
theorem dX2_fillBar_74 : decode prog_4_method_3_code 74 = .ok (.iconst (-1), 1) := by decide +kernel
theorem dX2_fillBar_75 : decode prog_4_method_3_code 75 = .ok (.if_icmp .eq 11, 3) := by decide +kernel
theorem dX2_fillBar_78 : decode prog_4_method_3_code 78 = .ok (.aload_n 0, 1) := by decide +kernel
theorem dX2_fillBar_79 : decode prog_4_method_3_code 79 = .ok (.getfield 18, 3) := by decide +kernel
theorem dX2_fillBar_82 : decode prog_4_method_3_code 82 = .ok (.iload 5, 2) := by decide +kernel
theorem dX2_fillBar_84 : decode prog_4_method_3_code 84 = .ok (.iload_n 3, 1) := by decide +kernel
theorem dX2_fillBar_85 : decode prog_4_method_3_code 85 = .ok (.iastore, 1) := by decide +kernel
theorem dX2_fillBar_86 : decode prog_4_method_3_code 86 = .ok (.iinc 2 1, 3) := by decide +kernel
theorem dX2_fillBar_89 : decode prog_4_method_3_code 89 = .ok (.goto (-87), 3) := by decide +kernel
theorem dX2_fillBar_92 : decode prog_4_method_3_code 92 = .ok (.return_, 1) := by decide +kernel
theorem dX2_fill_0 : decode prog_4_method_2_code 0 = .ok (.aload_n 0, 1) := by decide +kernel
theorem dX2_fill_1 : decode prog_4_method_2_code 1 = .ok (.aload_n 1, 1) := by decide +kernel
theorem dX2_fill_2 : decode prog_4_method_2_code 2 = .ok (.getfield 22, 3) := by decide +kernel
theorem dX2_fill_5 : decode prog_4_method_2_code 5 = .ok (.putfield 28, 3) := by decide +kernel
theorem dX2_fill_8 : decode prog_4_method_2_code 8 = .ok (.aload_n 0, 1) := by decide +kernel
theorem dX2_fill_9 : decode prog_4_method_2_code 9 = .ok (.getfield 12, 3) := by decide +kernel
theorem dX2_fill_12 : decode prog_4_method_2_code 12 = .ok (.invokevirtual 29, 3) := by decide +kernel
theorem dX2_fill_15 : decode prog_4_method_2_code 15 = .ok (.iconst 0, 1) := by decide +kernel
theorem dX2_fill_16 : decode prog_4_method_2_code 16 = .ok (.istore_n 3, 1) := by decide +kernel
theorem dX2_fill_17 : decode prog_4_method_2_code 17 = .ok (.iload_n 3, 1) := by decide +kernel
theorem dX2_fill_18 : decode prog_4_method_2_code 18 = .ok (.aload_n 2, 1) := by decide +kernel
theorem dX2_fill_19 : decode prog_4_method_2_code 19 = .ok (.invokevirtual 32, 3) := by decide +kernel
theorem dX2_fill_22 : decode prog_4_method_2_code 22 = .ok (.if_icmp .ge 52, 3) := by decide +kernel
theorem dX2_fill_25 : decode prog_4_method_2_code 25 = .ok (.iload_n 3, 1) := by decide +kernel
theorem dX2_fill_26 : decode prog_4_method_2_code 26 = .ok (.bipush 40, 2) := by decide +kernel
theorem dX2_fill_28 : decode prog_4_method_2_code 28 = .ok (.if_icmp .ge 46, 3) := by decide +kernel
theorem dX2_fill_31 : decode prog_4_method_2_code 31 = .ok (.aload_n 2, 1) := by decide +kernel
theorem dX2_fill_32 : decode prog_4_method_2_code 32 = .ok (.iload_n 3, 1) := by decide +kernel
theorem dX2_fill_33 : decode prog_4_method_2_code 33 = .ok (.invokevirtual 36, 3) := by decide +kernel
theorem dX2_fill_36 : decode prog_4_method_2_code 36 = .ok (.checkcast 40, 3) := by decide +kernel
theorem dX2_fill_39 : decode prog_4_method_2_code 39 = .ok (.astore 4, 2) := by decide +kernel
theorem dX2_fill_41 : decode prog_4_method_2_code 41 = .ok (.aload 4, 2) := by decide +kernel
theorem dX2_fill_43 : decode prog_4_method_2_code 43 = .ok (.getfield 42, 3) := by decide +kernel
theorem dX2_fill_46 : decode prog_4_method_2_code 46 = .ok (.aload_n 1, 1) := by decide +kernel
theorem dX2_fill_47 : decode prog_4_method_2_code 47 = .ok (.if_acmp .ne 21, 3) := by decide +kernel
theorem dX2_fill_50 : decode prog_4_method_2_code 50 = .ok (.aload 4, 2) := by decide +kernel
theorem dX2_fill_52 : decode prog_4_method_2_code 52 = .ok (.invokevirtual 46, 3) := by decide +kernel
theorem dX2_fill_55 : decode prog_4_method_2_code 55 = .ok (.ifCond .eq 13, 3) := by decide +kernel
theorem dX2_fill_58 : decode prog_4_method_2_code 58 = .ok (.aload_n 0, 1) := by decide +kernel
theorem dX2_fill_59 : decode prog_4_method_2_code 59 = .ok (.getfield 12, 3) := by decide +kernel
theorem dX2_fill_62 : decode prog_4_method_2_code 62 = .ok (.aload 4, 2) := by decide +kernel
theorem dX2_fill_64 : decode prog_4_method_2_code 64 = .ok (.invokevirtual 50, 3) := by decide +kernel
theorem dX2_fill_67 : decode prog_4_method_2_code 67 = .ok (.pop, 1) := by decide +kernel
theorem dX2_fill_68 : decode prog_4_method_2_code 68 = .ok (.iinc 3 1, 3) := by decide +kernel
theorem dX2_fill_71 : decode prog_4_method_2_code 71 = .ok (.goto (-54), 3) := by decide +kernel
theorem dX2_fill_74 : decode prog_4_method_2_code 74 = .ok (.aload_n 0, 1) := by decide +kernel
theorem dX2_fill_75 : decode prog_4_method_2_code 75 = .ok (.getfield 28, 3) := by decide +kernel
theorem dX2_fill_78 : decode prog_4_method_2_code 78 = .ok (.iconst 1, 1) := by decide +kernel
theorem dX2_fill_79 : decode prog_4_method_2_code 79 = .ok (.isub, 1) := by decide +kernel
theorem dX2_fill_80 : decode prog_4_method_2_code 80 = .ok (.istore_n 3, 1) := by decide +kernel
theorem dX2_fill_81 : decode prog_4_method_2_code 81 = .ok (.iload_n 3, 1) := by decide +kernel
theorem dX2_fill_82 : decode prog_4_method_2_code 82 = .ok (.ifCond .lt 14, 3) := by decide +kernel
theorem dX2_fill_85 : decode prog_4_method_2_code 85 = .ok (.aload_n 0, 1) := by decide +kernel
theorem dX2_fill_86 : decode prog_4_method_2_code 86 = .ok (.iload_n 3, 1) := by decide +kernel
theorem dX2_fill_87 : decode prog_4_method_2_code 87 = .ok (.invokevirtual 54, 3) := by decide +kernel
theorem dX2_fill_90 : decode prog_4_method_2_code 90 = .ok (.iinc 3 (-1), 3) := by decide +kernel
theorem dX2_fill_93 : decode prog_4_method_2_code 93 = .ok (.goto (-12), 3) := by decide +kernel
theorem dX2_fill_96 : decode prog_4_method_2_code 96 = .ok (.return_, 1) := by decide +kernel
theorem dX2_bestWorth_0 : decode prog_4_method_4_code 0 = .ok (.aload_n 0, 1) := by decide +kernel
theorem dX2_bestWorth_1 : decode prog_4_method_4_code 1 = .ok (.iconst 0, 1) := by decide +kernel
theorem dX2_bestWorth_2 : decode prog_4_method_4_code 2 = .ok (.iconst (-1), 1) := by decide +kernel
theorem dX2_bestWorth_3 : decode prog_4_method_4_code 3 = .ok (.invokevirtual 62, 3) := by decide +kernel
theorem dX2_bestWorth_6 : decode prog_4_method_4_code 6 = .ok (.istore_n 1, 1) := by decide +kernel
theorem dX2_bestWorth_7 : decode prog_4_method_4_code 7 = .ok (.iload_n 1, 1) := by decide +kernel
theorem dX2_bestWorth_8 : decode prog_4_method_4_code 8 = .ok (.iconst (-1), 1) := by decide +kernel
theorem dX2_bestWorth_9 : decode prog_4_method_4_code 9 = .ok (.if_icmp .ne 7, 3) := by decide +kernel
theorem dX2_bestWorth_12 : decode prog_4_method_4_code 12 = .ok (.iconst (-1), 1) := by decide +kernel
theorem dX2_bestWorth_13 : decode prog_4_method_4_code 13 = .ok (.goto 9, 3) := by decide +kernel
theorem dX2_bestWorth_16 : decode prog_4_method_4_code 16 = .ok (.aload_n 0, 1) := by decide +kernel
theorem dX2_bestWorth_17 : decode prog_4_method_4_code 17 = .ok (.iconst 0, 1) := by decide +kernel
theorem dX2_bestWorth_18 : decode prog_4_method_4_code 18 = .ok (.iload_n 1, 1) := by decide +kernel
theorem dX2_bestWorth_19 : decode prog_4_method_4_code 19 = .ok (.invokevirtual 66, 3) := by decide +kernel
theorem dX2_bestWorth_22 : decode prog_4_method_4_code 22 = .ok (.ireturn, 1) := by decide +kernel
theorem dX2_takeOf_0 : decode prog_4_method_5_code 0 = .ok (.iconst (-1), 1) := by decide +kernel
theorem dX2_takeOf_1 : decode prog_4_method_5_code 1 = .ok (.istore_n 2, 1) := by decide +kernel
theorem dX2_takeOf_2 : decode prog_4_method_5_code 2 = .ok (.iconst 0, 1) := by decide +kernel
theorem dX2_takeOf_3 : decode prog_4_method_5_code 3 = .ok (.istore_n 3, 1) := by decide +kernel
theorem dX2_takeOf_4 : decode prog_4_method_5_code 4 = .ok (.iload_n 3, 1) := by decide +kernel
theorem dX2_takeOf_5 : decode prog_4_method_5_code 5 = .ok (.iload_n 1, 1) := by decide +kernel
theorem dX2_takeOf_6 : decode prog_4_method_5_code 6 = .ok (.if_icmp .gt 24, 3) := by decide +kernel
theorem dX2_takeOf_9 : decode prog_4_method_5_code 9 = .ok (.iload_n 3, 1) := by decide +kernel
theorem dX2_takeOf_10 : decode prog_4_method_5_code 10 = .ok (.aload_n 0, 1) := by decide +kernel
theorem dX2_takeOf_11 : decode prog_4_method_5_code 11 = .ok (.getfield 28, 3) := by decide +kernel
theorem dX2_takeOf_14 : decode prog_4_method_5_code 14 = .ok (.if_icmp .ge 16, 3) := by decide +kernel
theorem dX2_takeOf_17 : decode prog_4_method_5_code 17 = .ok (.aload_n 0, 1) := by decide +kernel
theorem dX2_takeOf_18 : decode prog_4_method_5_code 18 = .ok (.iload_n 3, 1) := by decide +kernel
theorem dX2_takeOf_19 : decode prog_4_method_5_code 19 = .ok (.iload_n 2, 1) := by decide +kernel
theorem dX2_takeOf_20 : decode prog_4_method_5_code 20 = .ok (.invokevirtual 62, 3) := by decide +kernel
theorem dX2_takeOf_23 : decode prog_4_method_5_code 23 = .ok (.istore_n 2, 1) := by decide +kernel
theorem dX2_takeOf_24 : decode prog_4_method_5_code 24 = .ok (.iinc 3 1, 3) := by decide +kernel
theorem dX2_takeOf_27 : decode prog_4_method_5_code 27 = .ok (.goto (-23), 3) := by decide +kernel
theorem dX2_takeOf_30 : decode prog_4_method_5_code 30 = .ok (.iload_n 2, 1) := by decide +kernel
theorem dX2_takeOf_31 : decode prog_4_method_5_code 31 = .ok (.ifCond .lt 14, 3) := by decide +kernel
theorem dX2_takeOf_34 : decode prog_4_method_5_code 34 = .ok (.iload_n 2, 1) := by decide +kernel
theorem dX2_takeOf_35 : decode prog_4_method_5_code 35 = .ok (.aload_n 0, 1) := by decide +kernel
theorem dX2_takeOf_36 : decode prog_4_method_5_code 36 = .ok (.getfield 12, 3) := by decide +kernel
theorem dX2_takeOf_39 : decode prog_4_method_5_code 39 = .ok (.invokevirtual 32, 3) := by decide +kernel
theorem dX2_takeOf_42 : decode prog_4_method_5_code 42 = .ok (.if_icmp .lt 7, 3) := by decide +kernel
theorem dX2_takeOf_45 : decode prog_4_method_5_code 45 = .ok (.iconst (-1), 1) := by decide +kernel
theorem dX2_takeOf_46 : decode prog_4_method_5_code 46 = .ok (.goto 17, 3) := by decide +kernel
theorem dX2_takeOf_49 : decode prog_4_method_5_code 49 = .ok (.aload_n 0, 1) := by decide +kernel
theorem dX2_takeOf_50 : decode prog_4_method_5_code 50 = .ok (.getfield 12, 3) := by decide +kernel
theorem dX2_takeOf_53 : decode prog_4_method_5_code 53 = .ok (.iload_n 2, 1) := by decide +kernel
theorem dX2_takeOf_54 : decode prog_4_method_5_code 54 = .ok (.invokevirtual 36, 3) := by decide +kernel
theorem dX2_takeOf_57 : decode prog_4_method_5_code 57 = .ok (.checkcast 40, 3) := by decide +kernel
theorem dX2_takeOf_60 : decode prog_4_method_5_code 60 = .ok (.getfield 75, 3) := by decide +kernel
theorem dX2_takeOf_63 : decode prog_4_method_5_code 63 = .ok (.ireturn, 1) := by decide +kernel
theorem dX3_init_0 : decode prog_5_method_1_code 0 = .ok (.aload_n 0, 1) := by decide +kernel
theorem dX3_init_1 : decode prog_5_method_1_code 1 = .ok (.invokespecial 3, 3) := by decide +kernel
theorem dX3_init_4 : decode prog_5_method_1_code 4 = .ok (.aload_n 0, 1) := by decide +kernel
theorem dX3_init_5 : decode prog_5_method_1_code 5 = .ok (.iload_n 1, 1) := by decide +kernel
theorem dX3_init_6 : decode prog_5_method_1_code 6 = .ok (.putfield 9, 3) := by decide +kernel
theorem dX3_init_9 : decode prog_5_method_1_code 9 = .ok (.aload_n 0, 1) := by decide +kernel
theorem dX3_init_10 : decode prog_5_method_1_code 10 = .ok (.aload_n 2, 1) := by decide +kernel
theorem dX3_init_11 : decode prog_5_method_1_code 11 = .ok (.putfield 15, 3) := by decide +kernel
theorem dX3_init_14 : decode prog_5_method_1_code 14 = .ok (.aload_n 0, 1) := by decide +kernel
theorem dX3_init_15 : decode prog_5_method_1_code 15 = .ok (.aload_n 2, 1) := by decide +kernel
theorem dX3_init_16 : decode prog_5_method_1_code 16 = .ok (.getfield 19, 3) := by decide +kernel
theorem dX3_init_19 : decode prog_5_method_1_code 19 = .ok (.putfield 24, 3) := by decide +kernel
theorem dX3_init_22 : decode prog_5_method_1_code 22 = .ok (.aload_n 0, 1) := by decide +kernel
theorem dX3_init_23 : decode prog_5_method_1_code 23 = .ok (.iload_n 3, 1) := by decide +kernel
theorem dX3_init_24 : decode prog_5_method_1_code 24 = .ok (.putfield 25, 3) := by decide +kernel
theorem dX3_init_27 : decode prog_5_method_1_code 27 = .ok (.aload_n 0, 1) := by decide +kernel
theorem dX3_init_28 : decode prog_5_method_1_code 28 = .ok (.iload 4, 2) := by decide +kernel
theorem dX3_init_30 : decode prog_5_method_1_code 30 = .ok (.putfield 28, 3) := by decide +kernel
theorem dX3_init_33 : decode prog_5_method_1_code 33 = .ok (.return_, 1) := by decide +kernel
theorem dX3_sumOfNotes_0 : decode prog_5_method_4_code 0 = .ok (.iconst 0, 1) := by decide +kernel
theorem dX3_sumOfNotes_1 : decode prog_5_method_4_code 1 = .ok (.istore_n 1, 1) := by decide +kernel
theorem dX3_sumOfNotes_2 : decode prog_5_method_4_code 2 = .ok (.iconst 0, 1) := by decide +kernel
theorem dX3_sumOfNotes_3 : decode prog_5_method_4_code 3 = .ok (.istore_n 2, 1) := by decide +kernel
theorem dX3_sumOfNotes_4 : decode prog_5_method_4_code 4 = .ok (.iload_n 2, 1) := by decide +kernel
theorem dX3_sumOfNotes_5 : decode prog_5_method_4_code 5 = .ok (.bipush 9, 2) := by decide +kernel
theorem dX3_sumOfNotes_7 : decode prog_5_method_4_code 7 = .ok (.if_icmp .ge 17, 3) := by decide +kernel
theorem dX3_sumOfNotes_10 : decode prog_5_method_4_code 10 = .ok (.iload_n 1, 1) := by decide +kernel
theorem dX3_sumOfNotes_11 : decode prog_5_method_4_code 11 = .ok (.aload_n 0, 1) := by decide +kernel
theorem dX3_sumOfNotes_12 : decode prog_5_method_4_code 12 = .ok (.iload_n 2, 1) := by decide +kernel
theorem dX3_sumOfNotes_13 : decode prog_5_method_4_code 13 = .ok (.invokevirtual 31, 3) := by decide +kernel
theorem dX3_sumOfNotes_16 : decode prog_5_method_4_code 16 = .ok (.iadd, 1) := by decide +kernel
theorem dX3_sumOfNotes_17 : decode prog_5_method_4_code 17 = .ok (.istore_n 1, 1) := by decide +kernel
theorem dX3_sumOfNotes_18 : decode prog_5_method_4_code 18 = .ok (.iinc 2 1, 3) := by decide +kernel
theorem dX3_sumOfNotes_21 : decode prog_5_method_4_code 21 = .ok (.goto (-17), 3) := by decide +kernel
theorem dX3_sumOfNotes_24 : decode prog_5_method_4_code 24 = .ok (.iload_n 1, 1) := by decide +kernel
theorem dX3_sumOfNotes_25 : decode prog_5_method_4_code 25 = .ok (.ireturn, 1) := by decide +kernel
theorem dJx4a65c_isEmpty_aae02_0 : decode prog_25_method_9_code 0 = .ok (.aload_n 0, 1) := by decide +kernel
theorem dJx4a65c_isEmpty_aae02_1 : decode prog_25_method_9_code 1 = .ok (.getfield 48, 3) := by decide +kernel
theorem dJx4a65c_isEmpty_aae02_4 : decode prog_25_method_9_code 4 = .ok (.ifCond .ne 7, 3) := by decide +kernel
theorem dJx4a65c_isEmpty_aae02_7 : decode prog_25_method_9_code 7 = .ok (.iconst 1, 1) := by decide +kernel
theorem dJx4a65c_isEmpty_aae02_8 : decode prog_25_method_9_code 8 = .ok (.goto 4, 3) := by decide +kernel
theorem dJx4a65c_isEmpty_aae02_11 : decode prog_25_method_9_code 11 = .ok (.iconst 0, 1) := by decide +kernel
theorem dJx4a65c_isEmpty_aae02_12 : decode prog_25_method_9_code 12 = .ok (.ireturn, 1) := by decide +kernel
theorem dX4_init_0 : decode prog_1_method_1_code 0 = .ok (.aload_n 0, 1) := by decide +kernel
theorem dX4_init_1 : decode prog_1_method_1_code 1 = .ok (.invokespecial 3, 3) := by decide +kernel
theorem dX4_init_4 : decode prog_1_method_1_code 4 = .ok (.aload_n 0, 1) := by decide +kernel
theorem dX4_init_5 : decode prog_1_method_1_code 5 = .ok (.new 9, 3) := by decide +kernel
theorem dX4_init_8 : decode prog_1_method_1_code 8 = .ok (.dup, 1) := by decide +kernel
theorem dX4_init_9 : decode prog_1_method_1_code 9 = .ok (.invokespecial 11, 3) := by decide +kernel
theorem dX4_init_12 : decode prog_1_method_1_code 12 = .ok (.putfield 12, 3) := by decide +kernel
theorem dX4_init_15 : decode prog_1_method_1_code 15 = .ok (.aload_n 0, 1) := by decide +kernel
theorem dX4_init_16 : decode prog_1_method_1_code 16 = .ok (.iconst 4, 1) := by decide +kernel
theorem dX4_init_17 : decode prog_1_method_1_code 17 = .ok (.newarray .int, 2) := by decide +kernel
theorem dX4_init_19 : decode prog_1_method_1_code 19 = .ok (.putfield 16, 3) := by decide +kernel
theorem dX4_init_22 : decode prog_1_method_1_code 22 = .ok (.aload_n 0, 1) := by decide +kernel
theorem dX4_init_23 : decode prog_1_method_1_code 23 = .ok (.new 9, 3) := by decide +kernel
theorem dX4_init_26 : decode prog_1_method_1_code 26 = .ok (.dup, 1) := by decide +kernel
theorem dX4_init_27 : decode prog_1_method_1_code 27 = .ok (.invokespecial 11, 3) := by decide +kernel
theorem dX4_init_30 : decode prog_1_method_1_code 30 = .ok (.putfield 20, 3) := by decide +kernel
theorem dX4_init_33 : decode prog_1_method_1_code 33 = .ok (.aload_n 0, 1) := by decide +kernel
theorem dX4_init_34 : decode prog_1_method_1_code 34 = .ok (.new 9, 3) := by decide +kernel
theorem dX4_init_37 : decode prog_1_method_1_code 37 = .ok (.dup, 1) := by decide +kernel
theorem dX4_init_38 : decode prog_1_method_1_code 38 = .ok (.invokespecial 11, 3) := by decide +kernel
theorem dX4_init_41 : decode prog_1_method_1_code 41 = .ok (.putfield 23, 3) := by decide +kernel
theorem dX4_init_44 : decode prog_1_method_1_code 44 = .ok (.aload_n 0, 1) := by decide +kernel
theorem dX4_init_45 : decode prog_1_method_1_code 45 = .ok (.sipush 2400, 3) := by decide +kernel
theorem dX4_init_48 : decode prog_1_method_1_code 48 = .ok (.putfield 26, 3) := by decide +kernel
theorem dX4_init_51 : decode prog_1_method_1_code 51 = .ok (.aload_n 0, 1) := by decide +kernel
theorem dX4_init_52 : decode prog_1_method_1_code 52 = .ok (.new 30, 3) := by decide +kernel
theorem dX4_init_55 : decode prog_1_method_1_code 55 = .ok (.dup, 1) := by decide +kernel
theorem dX4_init_56 : decode prog_1_method_1_code 56 = .ok (.invokespecial 32, 3) := by decide +kernel
theorem dX4_init_59 : decode prog_1_method_1_code 59 = .ok (.putfield 33, 3) := by decide +kernel
theorem dX4_init_62 : decode prog_1_method_1_code 62 = .ok (.aload_n 0, 1) := by decide +kernel
theorem dX4_init_63 : decode prog_1_method_1_code 63 = .ok (.bipush 63, 2) := by decide +kernel
theorem dX4_init_65 : decode prog_1_method_1_code 65 = .ok (.newarray .int, 2) := by decide +kernel
theorem dX4_init_67 : decode prog_1_method_1_code 67 = .ok (.putfield 37, 3) := by decide +kernel
theorem dX4_init_70 : decode prog_1_method_1_code 70 = .ok (.aload_n 0, 1) := by decide +kernel
theorem dX4_init_71 : decode prog_1_method_1_code 71 = .ok (.bipush 12, 2) := by decide +kernel
theorem dX4_init_73 : decode prog_1_method_1_code 73 = .ok (.newarray .boolean, 2) := by decide +kernel
theorem dX4_init_75 : decode prog_1_method_1_code 75 = .ok (.putfield 40, 3) := by decide +kernel
theorem dX4_init_78 : decode prog_1_method_1_code 78 = .ok (.return_, 1) := by decide +kernel
theorem dX4_hit_0 : decode prog_1_method_2_code 0 = .ok (.iload_n 1, 1) := by decide +kernel
theorem dX4_hit_1 : decode prog_1_method_2_code 1 = .ok (.ifCond .lt 21, 3) := by decide +kernel
theorem dX4_hit_4 : decode prog_1_method_2_code 4 = .ok (.iload_n 1, 1) := by decide +kernel
theorem dX4_hit_5 : decode prog_1_method_2_code 5 = .ok (.aload_n 0, 1) := by decide +kernel
theorem dX4_hit_6 : decode prog_1_method_2_code 6 = .ok (.getfield 26, 3) := by decide +kernel
theorem dX4_hit_9 : decode prog_1_method_2_code 9 = .ok (.if_icmp .ge 13, 3) := by decide +kernel
theorem dX4_hit_12 : decode prog_1_method_2_code 12 = .ok (.iload_n 2, 1) := by decide +kernel
theorem dX4_hit_13 : decode prog_1_method_2_code 13 = .ok (.ifCond .lt 9, 3) := by decide +kernel
theorem dX4_hit_16 : decode prog_1_method_2_code 16 = .ok (.iload_n 2, 1) := by decide +kernel
theorem dX4_hit_17 : decode prog_1_method_2_code 17 = .ok (.bipush 9, 2) := by decide +kernel
theorem dX4_hit_19 : decode prog_1_method_2_code 19 = .ok (.if_icmp .le 13, 3) := by decide +kernel
theorem dX4_hit_22 : decode prog_1_method_2_code 22 = .ok (.new 44, 3) := by decide +kernel
theorem dX4_hit_25 : decode prog_1_method_2_code 25 = .ok (.dup, 1) := by decide +kernel
theorem dX4_hit_26 : decode prog_1_method_2_code 26 = .ok (.ldc 46, 2) := by decide +kernel
theorem dX4_hit_28 : decode prog_1_method_2_code 28 = .ok (.invokespecial 48, 3) := by decide +kernel
theorem dX4_hit_31 : decode prog_1_method_2_code 31 = .ok (.athrow, 1) := by decide +kernel
theorem dX4_hit_32 : decode prog_1_method_2_code 32 = .ok (.aload_n 0, 1) := by decide +kernel
theorem dX4_hit_33 : decode prog_1_method_2_code 33 = .ok (.getfield 12, 3) := by decide +kernel
theorem dX4_hit_36 : decode prog_1_method_2_code 36 = .ok (.invokevirtual 51, 3) := by decide +kernel
theorem dX4_hit_39 : decode prog_1_method_2_code 39 = .ok (.bipush 12, 2) := by decide +kernel
theorem dX4_hit_41 : decode prog_1_method_2_code 41 = .ok (.if_icmp .lt 13, 3) := by decide +kernel
theorem dX4_hit_44 : decode prog_1_method_2_code 44 = .ok (.new 55, 3) := by decide +kernel
theorem dX4_hit_47 : decode prog_1_method_2_code 47 = .ok (.dup, 1) := by decide +kernel
theorem dX4_hit_48 : decode prog_1_method_2_code 48 = .ok (.ldc 57, 2) := by decide +kernel
theorem dX4_hit_50 : decode prog_1_method_2_code 50 = .ok (.invokespecial 59, 3) := by decide +kernel
theorem dX4_hit_53 : decode prog_1_method_2_code 53 = .ok (.athrow, 1) := by decide +kernel
theorem dX4_hit_54 : decode prog_1_method_2_code 54 = .ok (.aload_n 0, 1) := by decide +kernel
theorem dX4_hit_55 : decode prog_1_method_2_code 55 = .ok (.getfield 12, 3) := by decide +kernel
theorem dX4_hit_58 : decode prog_1_method_2_code 58 = .ok (.new 60, 3) := by decide +kernel
theorem dX4_hit_61 : decode prog_1_method_2_code 61 = .ok (.dup, 1) := by decide +kernel
theorem dX4_hit_62 : decode prog_1_method_2_code 62 = .ok (.iload_n 1, 1) := by decide +kernel
theorem dX4_hit_63 : decode prog_1_method_2_code 63 = .ok (.iload_n 2, 1) := by decide +kernel
theorem dX4_hit_64 : decode prog_1_method_2_code 64 = .ok (.invokespecial 62, 3) := by decide +kernel
theorem dX4_hit_67 : decode prog_1_method_2_code 67 = .ok (.invokevirtual 65, 3) := by decide +kernel
theorem dX4_hit_70 : decode prog_1_method_2_code 70 = .ok (.pop, 1) := by decide +kernel
theorem dX4_hit_71 : decode prog_1_method_2_code 71 = .ok (.aload_n 0, 1) := by decide +kernel
theorem dX4_hit_72 : decode prog_1_method_2_code 72 = .ok (.getfield 12, 3) := by decide +kernel
theorem dX4_hit_75 : decode prog_1_method_2_code 75 = .ok (.invokevirtual 51, 3) := by decide +kernel
theorem dX4_hit_78 : decode prog_1_method_2_code 78 = .ok (.iconst 1, 1) := by decide +kernel
theorem dX4_hit_79 : decode prog_1_method_2_code 79 = .ok (.isub, 1) := by decide +kernel
theorem dX4_hit_80 : decode prog_1_method_2_code 80 = .ok (.ireturn, 1) := by decide +kernel
theorem dX4_theme_0 : decode prog_1_method_3_code 0 = .ok (.iload_n 1, 1) := by decide +kernel
theorem dX4_theme_1 : decode prog_1_method_3_code 1 = .ok (.ifCond .lt 11, 3) := by decide +kernel
theorem dX4_theme_4 : decode prog_1_method_3_code 4 = .ok (.iload_n 1, 1) := by decide +kernel
theorem dX4_theme_5 : decode prog_1_method_3_code 5 = .ok (.aload_n 0, 1) := by decide +kernel
theorem dX4_theme_6 : decode prog_1_method_3_code 6 = .ok (.getfield 26, 3) := by decide +kernel
theorem dX4_theme_9 : decode prog_1_method_3_code 9 = .ok (.if_icmp .le 13, 3) := by decide +kernel
theorem dX4_theme_12 : decode prog_1_method_3_code 12 = .ok (.new 44, 3) := by decide +kernel
theorem dX4_theme_15 : decode prog_1_method_3_code 15 = .ok (.dup, 1) := by decide +kernel
theorem dX4_theme_16 : decode prog_1_method_3_code 16 = .ok (.ldc 69, 2) := by decide +kernel
theorem dX4_theme_18 : decode prog_1_method_3_code 18 = .ok (.invokespecial 48, 3) := by decide +kernel
theorem dX4_theme_21 : decode prog_1_method_3_code 21 = .ok (.athrow, 1) := by decide +kernel
theorem dX4_theme_22 : decode prog_1_method_3_code 22 = .ok (.aload_n 0, 1) := by decide +kernel
theorem dX4_theme_23 : decode prog_1_method_3_code 23 = .ok (.getfield 71, 3) := by decide +kernel
theorem dX4_theme_26 : decode prog_1_method_3_code 26 = .ok (.iconst 4, 1) := by decide +kernel
theorem dX4_theme_27 : decode prog_1_method_3_code 27 = .ok (.if_icmp .lt 13, 3) := by decide +kernel
theorem dX4_theme_30 : decode prog_1_method_3_code 30 = .ok (.new 55, 3) := by decide +kernel
theorem dX4_theme_33 : decode prog_1_method_3_code 33 = .ok (.dup, 1) := by decide +kernel
theorem dX4_theme_34 : decode prog_1_method_3_code 34 = .ok (.ldc 74, 2) := by decide +kernel
theorem dX4_theme_36 : decode prog_1_method_3_code 36 = .ok (.invokespecial 59, 3) := by decide +kernel
theorem dX4_theme_39 : decode prog_1_method_3_code 39 = .ok (.athrow, 1) := by decide +kernel
theorem dX4_theme_40 : decode prog_1_method_3_code 40 = .ok (.aload_n 0, 1) := by decide +kernel
theorem dX4_theme_41 : decode prog_1_method_3_code 41 = .ok (.getfield 16, 3) := by decide +kernel
theorem dX4_theme_44 : decode prog_1_method_3_code 44 = .ok (.aload_n 0, 1) := by decide +kernel
theorem dX4_theme_45 : decode prog_1_method_3_code 45 = .ok (.getfield 71, 3) := by decide +kernel
theorem dX4_theme_48 : decode prog_1_method_3_code 48 = .ok (.iload_n 1, 1) := by decide +kernel
theorem dX4_theme_49 : decode prog_1_method_3_code 49 = .ok (.iastore, 1) := by decide +kernel
theorem dX4_theme_50 : decode prog_1_method_3_code 50 = .ok (.aload_n 0, 1) := by decide +kernel
theorem dX4_theme_51 : decode prog_1_method_3_code 51 = .ok (.dup, 1) := by decide +kernel
theorem dX4_theme_52 : decode prog_1_method_3_code 52 = .ok (.getfield 71, 3) := by decide +kernel
theorem dX4_theme_55 : decode prog_1_method_3_code 55 = .ok (.iconst 1, 1) := by decide +kernel
theorem dX4_theme_56 : decode prog_1_method_3_code 56 = .ok (.iadd, 1) := by decide +kernel
theorem dX4_theme_57 : decode prog_1_method_3_code 57 = .ok (.putfield 71, 3) := by decide +kernel
theorem dX4_theme_60 : decode prog_1_method_3_code 60 = .ok (.aload_n 0, 1) := by decide +kernel
theorem dX4_theme_61 : decode prog_1_method_3_code 61 = .ok (.getfield 71, 3) := by decide +kernel
theorem dX4_theme_64 : decode prog_1_method_3_code 64 = .ok (.iconst 1, 1) := by decide +kernel
theorem dX4_theme_65 : decode prog_1_method_3_code 65 = .ok (.isub, 1) := by decide +kernel
theorem dX4_theme_66 : decode prog_1_method_3_code 66 = .ok (.ireturn, 1) := by decide +kernel
theorem dX4_refuseBadCut_0 : decode prog_1_method_6_code 0 = .ok (.iload_n 1, 1) := by decide +kernel
theorem dX4_refuseBadCut_1 : decode prog_1_method_6_code 1 = .ok (.ifCond .lt 29, 3) := by decide +kernel
theorem dX4_refuseBadCut_4 : decode prog_1_method_6_code 4 = .ok (.iload_n 1, 1) := by decide +kernel
theorem dX4_refuseBadCut_5 : decode prog_1_method_6_code 5 = .ok (.aload_n 0, 1) := by decide +kernel
theorem dX4_refuseBadCut_6 : decode prog_1_method_6_code 6 = .ok (.getfield 26, 3) := by decide +kernel
theorem dX4_refuseBadCut_9 : decode prog_1_method_6_code 9 = .ok (.if_icmp .gt 21, 3) := by decide +kernel
theorem dX4_refuseBadCut_12 : decode prog_1_method_6_code 12 = .ok (.iload_n 2, 1) := by decide +kernel
theorem dX4_refuseBadCut_13 : decode prog_1_method_6_code 13 = .ok (.ifCond .eq 17, 3) := by decide +kernel
theorem dX4_refuseBadCut_16 : decode prog_1_method_6_code 16 = .ok (.iload_n 2, 1) := by decide +kernel
theorem dX4_refuseBadCut_17 : decode prog_1_method_6_code 17 = .ok (.sipush (-999), 3) := by decide +kernel
theorem dX4_refuseBadCut_20 : decode prog_1_method_6_code 20 = .ok (.if_icmp .lt 10, 3) := by decide +kernel
theorem dX4_refuseBadCut_23 : decode prog_1_method_6_code 23 = .ok (.iload_n 2, 1) := by decide +kernel
theorem dX4_refuseBadCut_24 : decode prog_1_method_6_code 24 = .ok (.sipush 999, 3) := by decide +kernel
theorem dX4_refuseBadCut_27 : decode prog_1_method_6_code 27 = .ok (.if_icmp .le 13, 3) := by decide +kernel
theorem dX4_refuseBadCut_30 : decode prog_1_method_6_code 30 = .ok (.new 44, 3) := by decide +kernel
theorem dX4_refuseBadCut_33 : decode prog_1_method_6_code 33 = .ok (.dup, 1) := by decide +kernel
theorem dX4_refuseBadCut_34 : decode prog_1_method_6_code 34 = .ok (.ldc 111, 2) := by decide +kernel
theorem dX4_refuseBadCut_36 : decode prog_1_method_6_code 36 = .ok (.invokespecial 48, 3) := by decide +kernel
theorem dX4_refuseBadCut_39 : decode prog_1_method_6_code 39 = .ok (.athrow, 1) := by decide +kernel
theorem dX4_refuseBadCut_40 : decode prog_1_method_6_code 40 = .ok (.iload_n 2, 1) := by decide +kernel
theorem dX4_refuseBadCut_41 : decode prog_1_method_6_code 41 = .ok (.ifCond .ge 34, 3) := by decide +kernel
theorem dX4_refuseBadCut_44 : decode prog_1_method_6_code 44 = .ok (.iload_n 1, 1) := by decide +kernel
theorem dX4_refuseBadCut_45 : decode prog_1_method_6_code 45 = .ok (.iload_n 2, 1) := by decide +kernel
theorem dX4_refuseBadCut_46 : decode prog_1_method_6_code 46 = .ok (.isub, 1) := by decide +kernel
theorem dX4_refuseBadCut_47 : decode prog_1_method_6_code 47 = .ok (.aload_n 0, 1) := by decide +kernel
theorem dX4_refuseBadCut_48 : decode prog_1_method_6_code 48 = .ok (.getfield 26, 3) := by decide +kernel
theorem dX4_refuseBadCut_51 : decode prog_1_method_6_code 51 = .ok (.if_icmp .gt 14, 3) := by decide +kernel
theorem dX4_refuseBadCut_54 : decode prog_1_method_6_code 54 = .ok (.aload_n 0, 1) := by decide +kernel
theorem dX4_refuseBadCut_55 : decode prog_1_method_6_code 55 = .ok (.getfield 26, 3) := by decide +kernel
theorem dX4_refuseBadCut_58 : decode prog_1_method_6_code 58 = .ok (.iload_n 2, 1) := by decide +kernel
theorem dX4_refuseBadCut_59 : decode prog_1_method_6_code 59 = .ok (.iadd, 1) := by decide +kernel
theorem dX4_refuseBadCut_60 : decode prog_1_method_6_code 60 = .ok (.bipush 24, 2) := by decide +kernel
theorem dX4_refuseBadCut_62 : decode prog_1_method_6_code 62 = .ok (.if_icmp .ge 13, 3) := by decide +kernel
theorem dX4_refuseBadCut_65 : decode prog_1_method_6_code 65 = .ok (.new 44, 3) := by decide +kernel
theorem dX4_refuseBadCut_68 : decode prog_1_method_6_code 68 = .ok (.dup, 1) := by decide +kernel
theorem dX4_refuseBadCut_69 : decode prog_1_method_6_code 69 = .ok (.ldc 113, 2) := by decide +kernel
theorem dX4_refuseBadCut_71 : decode prog_1_method_6_code 71 = .ok (.invokespecial 48, 3) := by decide +kernel
theorem dX4_refuseBadCut_74 : decode prog_1_method_6_code 74 = .ok (.athrow, 1) := by decide +kernel
theorem dX4_refuseBadCut_75 : decode prog_1_method_6_code 75 = .ok (.return_, 1) := by decide +kernel
theorem dX4_cutCues_0 : decode prog_1_method_5_code 0 = .ok (.iconst 0, 1) := by decide +kernel
theorem dX4_cutCues_1 : decode prog_1_method_5_code 1 = .ok (.istore_n 3, 1) := by decide +kernel
theorem dX4_cutCues_2 : decode prog_1_method_5_code 2 = .ok (.iconst 0, 1) := by decide +kernel
theorem dX4_cutCues_3 : decode prog_1_method_5_code 3 = .ok (.istore 4, 2) := by decide +kernel
theorem dX4_cutCues_5 : decode prog_1_method_5_code 5 = .ok (.iload 4, 2) := by decide +kernel
theorem dX4_cutCues_7 : decode prog_1_method_5_code 7 = .ok (.aload_n 0, 1) := by decide +kernel
theorem dX4_cutCues_8 : decode prog_1_method_5_code 8 = .ok (.getfield 20, 3) := by decide +kernel
theorem dX4_cutCues_11 : decode prog_1_method_5_code 11 = .ok (.invokevirtual 51, 3) := by decide +kernel
theorem dX4_cutCues_14 : decode prog_1_method_5_code 14 = .ok (.if_icmp .ge 62, 3) := by decide +kernel
theorem dX4_cutCues_17 : decode prog_1_method_5_code 17 = .ok (.aload_n 0, 1) := by decide +kernel
theorem dX4_cutCues_18 : decode prog_1_method_5_code 18 = .ok (.getfield 20, 3) := by decide +kernel
theorem dX4_cutCues_21 : decode prog_1_method_5_code 21 = .ok (.iload 4, 2) := by decide +kernel
theorem dX4_cutCues_23 : decode prog_1_method_5_code 23 = .ok (.invokevirtual 88, 3) := by decide +kernel
theorem dX4_cutCues_26 : decode prog_1_method_5_code 26 = .ok (.checkcast 99, 3) := by decide +kernel
theorem dX4_cutCues_29 : decode prog_1_method_5_code 29 = .ok (.astore 5, 2) := by decide +kernel
theorem dX4_cutCues_31 : decode prog_1_method_5_code 31 = .ok (.aload 5, 2) := by decide +kernel
theorem dX4_cutCues_33 : decode prog_1_method_5_code 33 = .ok (.iload_n 1, 1) := by decide +kernel
theorem dX4_cutCues_34 : decode prog_1_method_5_code 34 = .ok (.iload_n 2, 1) := by decide +kernel
theorem dX4_cutCues_35 : decode prog_1_method_5_code 35 = .ok (.invokevirtual 101, 3) := by decide +kernel
theorem dX4_cutCues_38 : decode prog_1_method_5_code 38 = .ok (.ifCond .eq 17, 3) := by decide +kernel
theorem dX4_cutCues_41 : decode prog_1_method_5_code 41 = .ok (.aload 5, 2) := by decide +kernel
theorem dX4_cutCues_43 : decode prog_1_method_5_code 43 = .ok (.dup, 1) := by decide +kernel
theorem dX4_cutCues_44 : decode prog_1_method_5_code 44 = .ok (.getfield 105, 3) := by decide +kernel
theorem dX4_cutCues_47 : decode prog_1_method_5_code 47 = .ok (.iconst 1, 1) := by decide +kernel
theorem dX4_cutCues_48 : decode prog_1_method_5_code 48 = .ok (.iadd, 1) := by decide +kernel
theorem dX4_cutCues_49 : decode prog_1_method_5_code 49 = .ok (.putfield 105, 3) := by decide +kernel
theorem dX4_cutCues_52 : decode prog_1_method_5_code 52 = .ok (.iinc 3 1, 3) := by decide +kernel
theorem dX4_cutCues_55 : decode prog_1_method_5_code 55 = .ok (.aload 5, 2) := by decide +kernel
theorem dX4_cutCues_57 : decode prog_1_method_5_code 57 = .ok (.aload 5, 2) := by decide +kernel
theorem dX4_cutCues_59 : decode prog_1_method_5_code 59 = .ok (.getfield 108, 3) := by decide +kernel
theorem dX4_cutCues_62 : decode prog_1_method_5_code 62 = .ok (.iload_n 1, 1) := by decide +kernel
theorem dX4_cutCues_63 : decode prog_1_method_5_code 63 = .ok (.iload_n 2, 1) := by decide +kernel
theorem dX4_cutCues_64 : decode prog_1_method_5_code 64 = .ok (.invokestatic 95, 3) := by decide +kernel
theorem dX4_cutCues_67 : decode prog_1_method_5_code 67 = .ok (.putfield 108, 3) := by decide +kernel
theorem dX4_cutCues_70 : decode prog_1_method_5_code 70 = .ok (.iinc 4 1, 3) := by decide +kernel
theorem dX4_cutCues_73 : decode prog_1_method_5_code 73 = .ok (.goto (-68), 3) := by decide +kernel
theorem dX4_cutCues_76 : decode prog_1_method_5_code 76 = .ok (.iload_n 3, 1) := by decide +kernel
theorem dX4_cutCues_77 : decode prog_1_method_5_code 77 = .ok (.ireturn, 1) := by decide +kernel
theorem dX4_change_0 : decode prog_1_method_4_code 0 = .ok (.aload_n 0, 1) := by decide +kernel
theorem dX4_change_1 : decode prog_1_method_4_code 1 = .ok (.iload_n 1, 1) := by decide +kernel
theorem dX4_change_2 : decode prog_1_method_4_code 2 = .ok (.iload_n 2, 1) := by decide +kernel
theorem dX4_change_3 : decode prog_1_method_4_code 3 = .ok (.invokevirtual 76, 3) := by decide +kernel
theorem dX4_change_6 : decode prog_1_method_4_code 6 = .ok (.aload_n 0, 1) := by decide +kernel
theorem dX4_change_7 : decode prog_1_method_4_code 7 = .ok (.getfield 79, 3) := by decide +kernel
theorem dX4_change_10 : decode prog_1_method_4_code 10 = .ok (.bipush 20, 2) := by decide +kernel
theorem dX4_change_12 : decode prog_1_method_4_code 12 = .ok (.if_icmp .lt 13, 3) := by decide +kernel
theorem dX4_change_15 : decode prog_1_method_4_code 15 = .ok (.new 55, 3) := by decide +kernel
theorem dX4_change_18 : decode prog_1_method_4_code 18 = .ok (.dup, 1) := by decide +kernel
theorem dX4_change_19 : decode prog_1_method_4_code 19 = .ok (.ldc 82, 2) := by decide +kernel
theorem dX4_change_21 : decode prog_1_method_4_code 21 = .ok (.invokespecial 59, 3) := by decide +kernel
theorem dX4_change_24 : decode prog_1_method_4_code 24 = .ok (.athrow, 1) := by decide +kernel
theorem dX4_change_25 : decode prog_1_method_4_code 25 = .ok (.aload_n 0, 1) := by decide +kernel
theorem dX4_change_26 : decode prog_1_method_4_code 26 = .ok (.iload_n 1, 1) := by decide +kernel
theorem dX4_change_27 : decode prog_1_method_4_code 27 = .ok (.iload_n 2, 1) := by decide +kernel
theorem dX4_change_28 : decode prog_1_method_4_code 28 = .ok (.invokevirtual 84, 3) := by decide +kernel
theorem dX4_change_31 : decode prog_1_method_4_code 31 = .ok (.istore_n 3, 1) := by decide +kernel
theorem dX4_change_32 : decode prog_1_method_4_code 32 = .ok (.iconst 0, 1) := by decide +kernel
theorem dX4_change_33 : decode prog_1_method_4_code 33 = .ok (.istore 4, 2) := by decide +kernel
theorem dX4_change_35 : decode prog_1_method_4_code 35 = .ok (.iload 4, 2) := by decide +kernel
theorem dX4_change_37 : decode prog_1_method_4_code 37 = .ok (.aload_n 0, 1) := by decide +kernel
theorem dX4_change_38 : decode prog_1_method_4_code 38 = .ok (.getfield 12, 3) := by decide +kernel
theorem dX4_change_41 : decode prog_1_method_4_code 41 = .ok (.invokevirtual 51, 3) := by decide +kernel
theorem dX4_change_44 : decode prog_1_method_4_code 44 = .ok (.if_icmp .ge 26, 3) := by decide +kernel
theorem dX4_change_47 : decode prog_1_method_4_code 47 = .ok (.aload_n 0, 1) := by decide +kernel
theorem dX4_change_48 : decode prog_1_method_4_code 48 = .ok (.getfield 12, 3) := by decide +kernel
theorem dX4_change_51 : decode prog_1_method_4_code 51 = .ok (.iload 4, 2) := by decide +kernel
theorem dX4_change_53 : decode prog_1_method_4_code 53 = .ok (.invokevirtual 88, 3) := by decide +kernel
theorem dX4_change_56 : decode prog_1_method_4_code 56 = .ok (.checkcast 60, 3) := by decide +kernel
theorem dX4_change_59 : decode prog_1_method_4_code 59 = .ok (.iload_n 1, 1) := by decide +kernel
theorem dX4_change_60 : decode prog_1_method_4_code 60 = .ok (.iload_n 2, 1) := by decide +kernel
theorem dX4_change_61 : decode prog_1_method_4_code 61 = .ok (.invokevirtual 92, 3) := by decide +kernel
theorem dX4_change_64 : decode prog_1_method_4_code 64 = .ok (.iinc 4 1, 3) := by decide +kernel
theorem dX4_change_67 : decode prog_1_method_4_code 67 = .ok (.goto (-32), 3) := by decide +kernel
theorem dX4_change_70 : decode prog_1_method_4_code 70 = .ok (.iconst 0, 1) := by decide +kernel
theorem dX4_change_71 : decode prog_1_method_4_code 71 = .ok (.istore 4, 2) := by decide +kernel
theorem dX4_change_73 : decode prog_1_method_4_code 73 = .ok (.iload 4, 2) := by decide +kernel
theorem dX4_change_75 : decode prog_1_method_4_code 75 = .ok (.aload_n 0, 1) := by decide +kernel
theorem dX4_change_76 : decode prog_1_method_4_code 76 = .ok (.getfield 71, 3) := by decide +kernel
theorem dX4_change_79 : decode prog_1_method_4_code 79 = .ok (.if_icmp .ge 28, 3) := by decide +kernel
theorem dX4_change_82 : decode prog_1_method_4_code 82 = .ok (.aload_n 0, 1) := by decide +kernel
theorem dX4_change_83 : decode prog_1_method_4_code 83 = .ok (.getfield 16, 3) := by decide +kernel
theorem dX4_change_86 : decode prog_1_method_4_code 86 = .ok (.iload 4, 2) := by decide +kernel
theorem dX4_change_88 : decode prog_1_method_4_code 88 = .ok (.aload_n 0, 1) := by decide +kernel
theorem dX4_change_89 : decode prog_1_method_4_code 89 = .ok (.getfield 16, 3) := by decide +kernel
theorem dX4_change_92 : decode prog_1_method_4_code 92 = .ok (.iload 4, 2) := by decide +kernel
theorem dX4_change_94 : decode prog_1_method_4_code 94 = .ok (.iaload, 1) := by decide +kernel
theorem dX4_change_95 : decode prog_1_method_4_code 95 = .ok (.iload_n 1, 1) := by decide +kernel
theorem dX4_change_96 : decode prog_1_method_4_code 96 = .ok (.iload_n 2, 1) := by decide +kernel
theorem dX4_change_97 : decode prog_1_method_4_code 97 = .ok (.invokestatic 95, 3) := by decide +kernel
theorem dX4_change_100 : decode prog_1_method_4_code 100 = .ok (.iastore, 1) := by decide +kernel
theorem dX4_change_101 : decode prog_1_method_4_code 101 = .ok (.iinc 4 1, 3) := by decide +kernel
theorem dX4_change_104 : decode prog_1_method_4_code 104 = .ok (.goto (-31), 3) := by decide +kernel
theorem dX4_change_107 : decode prog_1_method_4_code 107 = .ok (.aload_n 0, 1) := by decide +kernel
theorem dX4_change_108 : decode prog_1_method_4_code 108 = .ok (.dup, 1) := by decide +kernel
theorem dX4_change_109 : decode prog_1_method_4_code 109 = .ok (.getfield 26, 3) := by decide +kernel
theorem dX4_change_112 : decode prog_1_method_4_code 112 = .ok (.iload_n 2, 1) := by decide +kernel
theorem dX4_change_113 : decode prog_1_method_4_code 113 = .ok (.iadd, 1) := by decide +kernel
theorem dX4_change_114 : decode prog_1_method_4_code 114 = .ok (.putfield 26, 3) := by decide +kernel
theorem dX4_change_117 : decode prog_1_method_4_code 117 = .ok (.aload_n 0, 1) := by decide +kernel
theorem dX4_change_118 : decode prog_1_method_4_code 118 = .ok (.dup, 1) := by decide +kernel
theorem dX4_change_119 : decode prog_1_method_4_code 119 = .ok (.getfield 79, 3) := by decide +kernel
theorem dX4_change_122 : decode prog_1_method_4_code 122 = .ok (.iconst 1, 1) := by decide +kernel
theorem dX4_change_123 : decode prog_1_method_4_code 123 = .ok (.iadd, 1) := by decide +kernel
theorem dX4_change_124 : decode prog_1_method_4_code 124 = .ok (.putfield 79, 3) := by decide +kernel
theorem dX4_change_127 : decode prog_1_method_4_code 127 = .ok (.iload_n 3, 1) := by decide +kernel
theorem dX4_change_128 : decode prog_1_method_4_code 128 = .ok (.ireturn, 1) := by decide +kernel
theorem dX4_cue_0 : decode prog_1_method_9_code 0 = .ok (.iload_n 2, 1) := by decide +kernel
theorem dX4_cue_1 : decode prog_1_method_9_code 1 = .ok (.iconst (-1), 1) := by decide +kernel
theorem dX4_cue_2 : decode prog_1_method_9_code 2 = .ok (.if_icmp .lt 11, 3) := by decide +kernel
theorem dX4_cue_5 : decode prog_1_method_9_code 5 = .ok (.iload_n 2, 1) := by decide +kernel
theorem dX4_cue_6 : decode prog_1_method_9_code 6 = .ok (.aload_n 0, 1) := by decide +kernel
theorem dX4_cue_7 : decode prog_1_method_9_code 7 = .ok (.getfield 71, 3) := by decide +kernel
theorem dX4_cue_10 : decode prog_1_method_9_code 10 = .ok (.if_icmp .lt 13, 3) := by decide +kernel
theorem dX4_cue_13 : decode prog_1_method_9_code 13 = .ok (.new 119, 3) := by decide +kernel
theorem dX4_cue_16 : decode prog_1_method_9_code 16 = .ok (.dup, 1) := by decide +kernel
theorem dX4_cue_17 : decode prog_1_method_9_code 17 = .ok (.ldc 121, 2) := by decide +kernel
theorem dX4_cue_19 : decode prog_1_method_9_code 19 = .ok (.invokespecial 123, 3) := by decide +kernel
theorem dX4_cue_22 : decode prog_1_method_9_code 22 = .ok (.athrow, 1) := by decide +kernel
theorem dX4_cue_23 : decode prog_1_method_9_code 23 = .ok (.iload_n 1, 1) := by decide +kernel
theorem dX4_cue_24 : decode prog_1_method_9_code 24 = .ok (.ifCond .lt 22, 3) := by decide +kernel
theorem dX4_cue_27 : decode prog_1_method_9_code 27 = .ok (.iload_n 1, 1) := by decide +kernel
theorem dX4_cue_28 : decode prog_1_method_9_code 28 = .ok (.aload_n 0, 1) := by decide +kernel
theorem dX4_cue_29 : decode prog_1_method_9_code 29 = .ok (.getfield 26, 3) := by decide +kernel
theorem dX4_cue_32 : decode prog_1_method_9_code 32 = .ok (.if_icmp .gt 14, 3) := by decide +kernel
theorem dX4_cue_35 : decode prog_1_method_9_code 35 = .ok (.iload_n 3, 1) := by decide +kernel
theorem dX4_cue_36 : decode prog_1_method_9_code 36 = .ok (.iconst 1, 1) := by decide +kernel
theorem dX4_cue_37 : decode prog_1_method_9_code 37 = .ok (.if_icmp .lt 9, 3) := by decide +kernel
theorem dX4_cue_40 : decode prog_1_method_9_code 40 = .ok (.iload_n 3, 1) := by decide +kernel
theorem dX4_cue_41 : decode prog_1_method_9_code 41 = .ok (.bipush 40, 2) := by decide +kernel
theorem dX4_cue_43 : decode prog_1_method_9_code 43 = .ok (.if_icmp .le 13, 3) := by decide +kernel
theorem dX4_cue_46 : decode prog_1_method_9_code 46 = .ok (.new 44, 3) := by decide +kernel
theorem dX4_cue_49 : decode prog_1_method_9_code 49 = .ok (.dup, 1) := by decide +kernel
theorem dX4_cue_50 : decode prog_1_method_9_code 50 = .ok (.ldc 124, 2) := by decide +kernel
theorem dX4_cue_52 : decode prog_1_method_9_code 52 = .ok (.invokespecial 48, 3) := by decide +kernel
theorem dX4_cue_55 : decode prog_1_method_9_code 55 = .ok (.athrow, 1) := by decide +kernel
theorem dX4_cue_56 : decode prog_1_method_9_code 56 = .ok (.iload 4, 2) := by decide +kernel
theorem dX4_cue_58 : decode prog_1_method_9_code 58 = .ok (.ifCond .lt 20, 3) := by decide +kernel
theorem dX4_cue_61 : decode prog_1_method_9_code 61 = .ok (.iload 4, 2) := by decide +kernel
theorem dX4_cue_63 : decode prog_1_method_9_code 63 = .ok (.iconst 4, 1) := by decide +kernel
theorem dX4_cue_64 : decode prog_1_method_9_code 64 = .ok (.if_icmp .ge 14, 3) := by decide +kernel
theorem dX4_cue_67 : decode prog_1_method_9_code 67 = .ok (.iload 5, 2) := by decide +kernel
theorem dX4_cue_69 : decode prog_1_method_9_code 69 = .ok (.ifCond .lt 9, 3) := by decide +kernel
theorem dX4_cue_72 : decode prog_1_method_9_code 72 = .ok (.iload 5, 2) := by decide +kernel
theorem dX4_cue_74 : decode prog_1_method_9_code 74 = .ok (.iconst 2, 1) := by decide +kernel
theorem dX4_cue_75 : decode prog_1_method_9_code 75 = .ok (.if_icmp .le 13, 3) := by decide +kernel
theorem dX4_cue_78 : decode prog_1_method_9_code 78 = .ok (.new 44, 3) := by decide +kernel
theorem dX4_cue_81 : decode prog_1_method_9_code 81 = .ok (.dup, 1) := by decide +kernel
theorem dX4_cue_82 : decode prog_1_method_9_code 82 = .ok (.ldc 126, 2) := by decide +kernel
theorem dX4_cue_84 : decode prog_1_method_9_code 84 = .ok (.invokespecial 48, 3) := by decide +kernel
theorem dX4_cue_87 : decode prog_1_method_9_code 87 = .ok (.athrow, 1) := by decide +kernel
theorem dX4_cue_88 : decode prog_1_method_9_code 88 = .ok (.aload_n 0, 1) := by decide +kernel
theorem dX4_cue_89 : decode prog_1_method_9_code 89 = .ok (.getfield 20, 3) := by decide +kernel
theorem dX4_cue_92 : decode prog_1_method_9_code 92 = .ok (.invokevirtual 51, 3) := by decide +kernel
theorem dX4_cue_95 : decode prog_1_method_9_code 95 = .ok (.bipush 8, 2) := by decide +kernel
theorem dX4_cue_97 : decode prog_1_method_9_code 97 = .ok (.if_icmp .lt 13, 3) := by decide +kernel
theorem dX4_cue_100 : decode prog_1_method_9_code 100 = .ok (.new 55, 3) := by decide +kernel
theorem dX4_cue_103 : decode prog_1_method_9_code 103 = .ok (.dup, 1) := by decide +kernel
theorem dX4_cue_104 : decode prog_1_method_9_code 104 = .ok (.ldc 128, 2) := by decide +kernel
theorem dX4_cue_106 : decode prog_1_method_9_code 106 = .ok (.invokespecial 59, 3) := by decide +kernel
theorem dX4_cue_109 : decode prog_1_method_9_code 109 = .ok (.athrow, 1) := by decide +kernel
theorem dX4_cue_110 : decode prog_1_method_9_code 110 = .ok (.new 99, 3) := by decide +kernel
theorem dX4_cue_113 : decode prog_1_method_9_code 113 = .ok (.dup, 1) := by decide +kernel
theorem dX4_cue_114 : decode prog_1_method_9_code 114 = .ok (.aload_n 0, 1) := by decide +kernel
theorem dX4_cue_115 : decode prog_1_method_9_code 115 = .ok (.getfield 20, 3) := by decide +kernel
theorem dX4_cue_118 : decode prog_1_method_9_code 118 = .ok (.invokevirtual 51, 3) := by decide +kernel
theorem dX4_cue_121 : decode prog_1_method_9_code 121 = .ok (.iload_n 1, 1) := by decide +kernel
theorem dX4_cue_122 : decode prog_1_method_9_code 122 = .ok (.iload_n 2, 1) := by decide +kernel
theorem dX4_cue_123 : decode prog_1_method_9_code 123 = .ok (.iload_n 3, 1) := by decide +kernel
theorem dX4_cue_124 : decode prog_1_method_9_code 124 = .ok (.iload 4, 2) := by decide +kernel
theorem dX4_cue_126 : decode prog_1_method_9_code 126 = .ok (.iload 5, 2) := by decide +kernel
theorem dX4_cue_128 : decode prog_1_method_9_code 128 = .ok (.invokespecial 130, 3) := by decide +kernel
theorem dX4_cue_131 : decode prog_1_method_9_code 131 = .ok (.astore 6, 2) := by decide +kernel
theorem dX4_cue_133 : decode prog_1_method_9_code 133 = .ok (.aload_n 0, 1) := by decide +kernel
theorem dX4_cue_134 : decode prog_1_method_9_code 134 = .ok (.getfield 20, 3) := by decide +kernel
theorem dX4_cue_137 : decode prog_1_method_9_code 137 = .ok (.aload 6, 2) := by decide +kernel
theorem dX4_cue_139 : decode prog_1_method_9_code 139 = .ok (.invokevirtual 65, 3) := by decide +kernel
theorem dX4_cue_142 : decode prog_1_method_9_code 142 = .ok (.pop, 1) := by decide +kernel
theorem dX4_cue_143 : decode prog_1_method_9_code 143 = .ok (.aload 6, 2) := by decide +kernel
theorem dX4_cue_145 : decode prog_1_method_9_code 145 = .ok (.getfield 133, 3) := by decide +kernel
theorem dX4_cue_148 : decode prog_1_method_9_code 148 = .ok (.ireturn, 1) := by decide +kernel
theorem dX4_cueNumbered_0 : decode prog_1_method_13_code 0 = .ok (.iload_n 1, 1) := by decide +kernel
theorem dX4_cueNumbered_1 : decode prog_1_method_13_code 1 = .ok (.ifCond .lt 14, 3) := by decide +kernel
theorem dX4_cueNumbered_4 : decode prog_1_method_13_code 4 = .ok (.iload_n 1, 1) := by decide +kernel
theorem dX4_cueNumbered_5 : decode prog_1_method_13_code 5 = .ok (.aload_n 0, 1) := by decide +kernel
theorem dX4_cueNumbered_6 : decode prog_1_method_13_code 6 = .ok (.getfield 20, 3) := by decide +kernel
theorem dX4_cueNumbered_9 : decode prog_1_method_13_code 9 = .ok (.invokevirtual 51, 3) := by decide +kernel
theorem dX4_cueNumbered_12 : decode prog_1_method_13_code 12 = .ok (.if_icmp .lt 13, 3) := by decide +kernel
theorem dX4_cueNumbered_15 : decode prog_1_method_13_code 15 = .ok (.new 119, 3) := by decide +kernel
theorem dX4_cueNumbered_18 : decode prog_1_method_13_code 18 = .ok (.dup, 1) := by decide +kernel
theorem dX4_cueNumbered_19 : decode prog_1_method_13_code 19 = .ok (.ldc 164, 2) := by decide +kernel
theorem dX4_cueNumbered_21 : decode prog_1_method_13_code 21 = .ok (.invokespecial 123, 3) := by decide +kernel
theorem dX4_cueNumbered_24 : decode prog_1_method_13_code 24 = .ok (.athrow, 1) := by decide +kernel
theorem dX4_cueNumbered_25 : decode prog_1_method_13_code 25 = .ok (.aload_n 0, 1) := by decide +kernel
theorem dX4_cueNumbered_26 : decode prog_1_method_13_code 26 = .ok (.getfield 20, 3) := by decide +kernel
theorem dX4_cueNumbered_29 : decode prog_1_method_13_code 29 = .ok (.iload_n 1, 1) := by decide +kernel
theorem dX4_cueNumbered_30 : decode prog_1_method_13_code 30 = .ok (.invokevirtual 88, 3) := by decide +kernel
theorem dX4_cueNumbered_33 : decode prog_1_method_13_code 33 = .ok (.checkcast 99, 3) := by decide +kernel
theorem dX4_cueNumbered_36 : decode prog_1_method_13_code 36 = .ok (.areturn, 1) := by decide +kernel
theorem dX4_refuseBadBar_0 : decode prog_1_method_15_code 0 = .ok (.iload_n 0, 1) := by decide +kernel
theorem dX4_refuseBadBar_1 : decode prog_1_method_15_code 1 = .ok (.iconst 2, 1) := by decide +kernel
theorem dX4_refuseBadBar_2 : decode prog_1_method_15_code 2 = .ok (.if_icmp .lt 22, 3) := by decide +kernel
theorem dX4_refuseBadBar_5 : decode prog_1_method_15_code 5 = .ok (.iload_n 0, 1) := by decide +kernel
theorem dX4_refuseBadBar_6 : decode prog_1_method_15_code 6 = .ok (.bipush 7, 2) := by decide +kernel
theorem dX4_refuseBadBar_8 : decode prog_1_method_15_code 8 = .ok (.if_icmp .gt 16, 3) := by decide +kernel
theorem dX4_refuseBadBar_11 : decode prog_1_method_15_code 11 = .ok (.iload_n 1, 1) := by decide +kernel
theorem dX4_refuseBadBar_12 : decode prog_1_method_15_code 12 = .ok (.bipush 24, 2) := by decide +kernel
theorem dX4_refuseBadBar_14 : decode prog_1_method_15_code 14 = .ok (.if_icmp .lt 10, 3) := by decide +kernel
theorem dX4_refuseBadBar_17 : decode prog_1_method_15_code 17 = .ok (.iload_n 1, 1) := by decide +kernel
theorem dX4_refuseBadBar_18 : decode prog_1_method_15_code 18 = .ok (.sipush 160, 3) := by decide +kernel
theorem dX4_refuseBadBar_21 : decode prog_1_method_15_code 21 = .ok (.if_icmp .le 13, 3) := by decide +kernel
theorem dX4_refuseBadBar_24 : decode prog_1_method_15_code 24 = .ok (.new 44, 3) := by decide +kernel
theorem dX4_refuseBadBar_27 : decode prog_1_method_15_code 27 = .ok (.dup, 1) := by decide +kernel
theorem dX4_refuseBadBar_28 : decode prog_1_method_15_code 28 = .ok (.ldc 168, 2) := by decide +kernel
theorem dX4_refuseBadBar_30 : decode prog_1_method_15_code 30 = .ok (.invokespecial 48, 3) := by decide +kernel
theorem dX4_refuseBadBar_33 : decode prog_1_method_15_code 33 = .ok (.athrow, 1) := by decide +kernel
theorem dX4_refuseBadBar_34 : decode prog_1_method_15_code 34 = .ok (.return_, 1) := by decide +kernel
theorem dX4_bar_0 : decode prog_1_method_10_code 0 = .ok (.aload_n 0, 1) := by decide +kernel
theorem dX4_bar_1 : decode prog_1_method_10_code 1 = .ok (.iload_n 1, 1) := by decide +kernel
theorem dX4_bar_2 : decode prog_1_method_10_code 2 = .ok (.invokevirtual 136, 3) := by decide +kernel
theorem dX4_bar_5 : decode prog_1_method_10_code 5 = .ok (.astore 4, 2) := by decide +kernel
theorem dX4_bar_7 : decode prog_1_method_10_code 7 = .ok (.iload_n 2, 1) := by decide +kernel
theorem dX4_bar_8 : decode prog_1_method_10_code 8 = .ok (.iload_n 3, 1) := by decide +kernel
theorem dX4_bar_9 : decode prog_1_method_10_code 9 = .ok (.invokestatic 140, 3) := by decide +kernel
theorem dX4_bar_12 : decode prog_1_method_10_code 12 = .ok (.aload 4, 2) := by decide +kernel
theorem dX4_bar_14 : decode prog_1_method_10_code 14 = .ok (.getfield 143, 3) := by decide +kernel
theorem dX4_bar_17 : decode prog_1_method_10_code 17 = .ok (.bipush 9, 2) := by decide +kernel
theorem dX4_bar_19 : decode prog_1_method_10_code 19 = .ok (.if_icmp .lt 13, 3) := by decide +kernel
theorem dX4_bar_22 : decode prog_1_method_10_code 22 = .ok (.new 55, 3) := by decide +kernel
theorem dX4_bar_25 : decode prog_1_method_10_code 25 = .ok (.dup, 1) := by decide +kernel
theorem dX4_bar_26 : decode prog_1_method_10_code 26 = .ok (.ldc 146, 2) := by decide +kernel
theorem dX4_bar_28 : decode prog_1_method_10_code 28 = .ok (.invokespecial 59, 3) := by decide +kernel
theorem dX4_bar_31 : decode prog_1_method_10_code 31 = .ok (.athrow, 1) := by decide +kernel
theorem dX4_bar_32 : decode prog_1_method_10_code 32 = .ok (.aload 4, 2) := by decide +kernel
theorem dX4_bar_34 : decode prog_1_method_10_code 34 = .ok (.dup, 1) := by decide +kernel
theorem dX4_bar_35 : decode prog_1_method_10_code 35 = .ok (.getfield 143, 3) := by decide +kernel
theorem dX4_bar_38 : decode prog_1_method_10_code 38 = .ok (.iconst 1, 1) := by decide +kernel
theorem dX4_bar_39 : decode prog_1_method_10_code 39 = .ok (.iadd, 1) := by decide +kernel
theorem dX4_bar_40 : decode prog_1_method_10_code 40 = .ok (.putfield 143, 3) := by decide +kernel
theorem dX4_bar_43 : decode prog_1_method_10_code 43 = .ok (.aload 4, 2) := by decide +kernel
theorem dX4_bar_45 : decode prog_1_method_10_code 45 = .ok (.aload 4, 2) := by decide +kernel
theorem dX4_bar_47 : decode prog_1_method_10_code 47 = .ok (.getfield 143, 3) := by decide +kernel
theorem dX4_bar_50 : decode prog_1_method_10_code 50 = .ok (.iconst 1, 1) := by decide +kernel
theorem dX4_bar_51 : decode prog_1_method_10_code 51 = .ok (.isub, 1) := by decide +kernel
theorem dX4_bar_52 : decode prog_1_method_10_code 52 = .ok (.iload_n 2, 1) := by decide +kernel
theorem dX4_bar_53 : decode prog_1_method_10_code 53 = .ok (.iload_n 3, 1) := by decide +kernel
theorem dX4_bar_54 : decode prog_1_method_10_code 54 = .ok (.invokevirtual 148, 3) := by decide +kernel
theorem dX4_bar_57 : decode prog_1_method_10_code 57 = .ok (.aload 4, 2) := by decide +kernel
theorem dX4_bar_59 : decode prog_1_method_10_code 59 = .ok (.getfield 143, 3) := by decide +kernel
theorem dX4_bar_62 : decode prog_1_method_10_code 62 = .ok (.iconst 1, 1) := by decide +kernel
theorem dX4_bar_63 : decode prog_1_method_10_code 63 = .ok (.isub, 1) := by decide +kernel
theorem dX4_bar_64 : decode prog_1_method_10_code 64 = .ok (.ireturn, 1) := by decide +kernel
theorem dX4_refuseNoBar_0 : decode prog_1_method_14_code 0 = .ok (.iload_n 1, 1) := by decide +kernel
theorem dX4_refuseNoBar_1 : decode prog_1_method_14_code 1 = .ok (.ifCond .lt 11, 3) := by decide +kernel
theorem dX4_refuseNoBar_4 : decode prog_1_method_14_code 4 = .ok (.iload_n 1, 1) := by decide +kernel
theorem dX4_refuseNoBar_5 : decode prog_1_method_14_code 5 = .ok (.aload_n 0, 1) := by decide +kernel
theorem dX4_refuseNoBar_6 : decode prog_1_method_14_code 6 = .ok (.getfield 143, 3) := by decide +kernel
theorem dX4_refuseNoBar_9 : decode prog_1_method_14_code 9 = .ok (.if_icmp .lt 13, 3) := by decide +kernel
theorem dX4_refuseNoBar_12 : decode prog_1_method_14_code 12 = .ok (.new 119, 3) := by decide +kernel
theorem dX4_refuseNoBar_15 : decode prog_1_method_14_code 15 = .ok (.dup, 1) := by decide +kernel
theorem dX4_refuseNoBar_16 : decode prog_1_method_14_code 16 = .ok (.ldc 166, 2) := by decide +kernel
theorem dX4_refuseNoBar_18 : decode prog_1_method_14_code 18 = .ok (.invokespecial 123, 3) := by decide +kernel
theorem dX4_refuseNoBar_21 : decode prog_1_method_14_code 21 = .ok (.athrow, 1) := by decide +kernel
theorem dX4_refuseNoBar_22 : decode prog_1_method_14_code 22 = .ok (.return_, 1) := by decide +kernel
theorem dX4_retime_0 : decode prog_1_method_11_code 0 = .ok (.aload_n 0, 1) := by decide +kernel
theorem dX4_retime_1 : decode prog_1_method_11_code 1 = .ok (.iload_n 1, 1) := by decide +kernel
theorem dX4_retime_2 : decode prog_1_method_11_code 2 = .ok (.invokevirtual 136, 3) := by decide +kernel
theorem dX4_retime_5 : decode prog_1_method_11_code 5 = .ok (.astore 5, 2) := by decide +kernel
theorem dX4_retime_7 : decode prog_1_method_11_code 7 = .ok (.aload 5, 2) := by decide +kernel
theorem dX4_retime_9 : decode prog_1_method_11_code 9 = .ok (.iload_n 2, 1) := by decide +kernel
theorem dX4_retime_10 : decode prog_1_method_11_code 10 = .ok (.invokestatic 152, 3) := by decide +kernel
theorem dX4_retime_13 : decode prog_1_method_11_code 13 = .ok (.iload_n 3, 1) := by decide +kernel
theorem dX4_retime_14 : decode prog_1_method_11_code 14 = .ok (.iload 4, 2) := by decide +kernel
theorem dX4_retime_16 : decode prog_1_method_11_code 16 = .ok (.invokestatic 140, 3) := by decide +kernel
theorem dX4_retime_19 : decode prog_1_method_11_code 19 = .ok (.aload 5, 2) := by decide +kernel
theorem dX4_retime_21 : decode prog_1_method_11_code 21 = .ok (.iload_n 2, 1) := by decide +kernel
theorem dX4_retime_22 : decode prog_1_method_11_code 22 = .ok (.iload_n 3, 1) := by decide +kernel
theorem dX4_retime_23 : decode prog_1_method_11_code 23 = .ok (.iload 4, 2) := by decide +kernel
theorem dX4_retime_25 : decode prog_1_method_11_code 25 = .ok (.invokevirtual 148, 3) := by decide +kernel
theorem dX4_retime_28 : decode prog_1_method_11_code 28 = .ok (.aload 5, 2) := by decide +kernel
theorem dX4_retime_30 : decode prog_1_method_11_code 30 = .ok (.invokevirtual 156, 3) := by decide +kernel
theorem dX4_retime_33 : decode prog_1_method_11_code 33 = .ok (.ireturn, 1) := by decide +kernel
theorem dX4_isMetBut_0 : decode prog_1_method_32_code 0 = .ok (.iconst 0, 1) := by decide +kernel
theorem dX4_isMetBut_1 : decode prog_1_method_32_code 1 = .ok (.istore_n 3, 1) := by decide +kernel
theorem dX4_isMetBut_2 : decode prog_1_method_32_code 2 = .ok (.iload_n 3, 1) := by decide +kernel
theorem dX4_isMetBut_3 : decode prog_1_method_32_code 3 = .ok (.aload_n 0, 1) := by decide +kernel
theorem dX4_isMetBut_4 : decode prog_1_method_32_code 4 = .ok (.getfield 20, 3) := by decide +kernel
theorem dX4_isMetBut_7 : decode prog_1_method_32_code 7 = .ok (.invokevirtual 51, 3) := by decide +kernel
theorem dX4_isMetBut_10 : decode prog_1_method_32_code 10 = .ok (.if_icmp .ge 62, 3) := by decide +kernel
theorem dX4_isMetBut_13 : decode prog_1_method_32_code 13 = .ok (.aload_n 1, 1) := by decide +kernel
theorem dX4_isMetBut_14 : decode prog_1_method_32_code 14 = .ok (.getfield 221, 3) := by decide +kernel
theorem dX4_isMetBut_17 : decode prog_1_method_32_code 17 = .ok (.ifCond .ne 55, 3) := by decide +kernel
theorem dX4_isMetBut_20 : decode prog_1_method_32_code 20 = .ok (.aload_n 0, 1) := by decide +kernel
theorem dX4_isMetBut_21 : decode prog_1_method_32_code 21 = .ok (.getfield 20, 3) := by decide +kernel
theorem dX4_isMetBut_24 : decode prog_1_method_32_code 24 = .ok (.iload_n 3, 1) := by decide +kernel
theorem dX4_isMetBut_25 : decode prog_1_method_32_code 25 = .ok (.invokevirtual 88, 3) := by decide +kernel
theorem dX4_isMetBut_28 : decode prog_1_method_32_code 28 = .ok (.checkcast 99, 3) := by decide +kernel
theorem dX4_isMetBut_31 : decode prog_1_method_32_code 31 = .ok (.astore 4, 2) := by decide +kernel
theorem dX4_isMetBut_33 : decode prog_1_method_32_code 33 = .ok (.iload_n 3, 1) := by decide +kernel
theorem dX4_isMetBut_34 : decode prog_1_method_32_code 34 = .ok (.iload_n 2, 1) := by decide +kernel
theorem dX4_isMetBut_35 : decode prog_1_method_32_code 35 = .ok (.if_icmp .eq 31, 3) := by decide +kernel
theorem dX4_isMetBut_38 : decode prog_1_method_32_code 38 = .ok (.aload 4, 2) := by decide +kernel
theorem dX4_isMetBut_40 : decode prog_1_method_32_code 40 = .ok (.aload_n 1, 1) := by decide +kernel
theorem dX4_isMetBut_41 : decode prog_1_method_32_code 41 = .ok (.getfield 215, 3) := by decide +kernel
theorem dX4_isMetBut_44 : decode prog_1_method_32_code 44 = .ok (.aload_n 1, 1) := by decide +kernel
theorem dX4_isMetBut_45 : decode prog_1_method_32_code 45 = .ok (.getfield 218, 3) := by decide +kernel
theorem dX4_isMetBut_48 : decode prog_1_method_32_code 48 = .ok (.aload 4, 2) := by decide +kernel
theorem dX4_isMetBut_50 : decode prog_1_method_32_code 50 = .ok (.getfield 108, 3) := by decide +kernel
theorem dX4_isMetBut_53 : decode prog_1_method_32_code 53 = .ok (.aload 4, 2) := by decide +kernel
theorem dX4_isMetBut_55 : decode prog_1_method_32_code 55 = .ok (.getfield 338, 3) := by decide +kernel
theorem dX4_isMetBut_58 : decode prog_1_method_32_code 58 = .ok (.invokevirtual 341, 3) := by decide +kernel
theorem dX4_isMetBut_61 : decode prog_1_method_32_code 61 = .ok (.ifCond .eq 5, 3) := by decide +kernel
theorem dX4_isMetBut_64 : decode prog_1_method_32_code 64 = .ok (.iconst 1, 1) := by decide +kernel
theorem dX4_isMetBut_65 : decode prog_1_method_32_code 65 = .ok (.ireturn, 1) := by decide +kernel
theorem dX4_isMetBut_66 : decode prog_1_method_32_code 66 = .ok (.iinc 3 1, 3) := by decide +kernel
theorem dX4_isMetBut_69 : decode prog_1_method_32_code 69 = .ok (.goto (-67), 3) := by decide +kernel
theorem dX4_isMetBut_72 : decode prog_1_method_32_code 72 = .ok (.iconst 0, 1) := by decide +kernel
theorem dX4_isMetBut_73 : decode prog_1_method_32_code 73 = .ok (.ireturn, 1) := by decide +kernel
theorem dX4_isMet_0 : decode prog_1_method_31_code 0 = .ok (.aload_n 0, 1) := by decide +kernel
theorem dX4_isMet_1 : decode prog_1_method_31_code 1 = .ok (.aload_n 1, 1) := by decide +kernel
theorem dX4_isMet_2 : decode prog_1_method_31_code 2 = .ok (.iconst (-1), 1) := by decide +kernel
theorem dX4_isMet_3 : decode prog_1_method_31_code 3 = .ok (.invokevirtual 334, 3) := by decide +kernel
theorem dX4_isMet_6 : decode prog_1_method_31_code 6 = .ok (.ireturn, 1) := by decide +kernel
theorem dX4_countMet_0 : decode prog_1_method_33_code 0 = .ok (.iconst 0, 1) := by decide +kernel
theorem dX4_countMet_1 : decode prog_1_method_33_code 1 = .ok (.istore_n 1, 1) := by decide +kernel
theorem dX4_countMet_2 : decode prog_1_method_33_code 2 = .ok (.iconst 0, 1) := by decide +kernel
theorem dX4_countMet_3 : decode prog_1_method_33_code 3 = .ok (.istore_n 2, 1) := by decide +kernel
theorem dX4_countMet_4 : decode prog_1_method_33_code 4 = .ok (.iload_n 2, 1) := by decide +kernel
theorem dX4_countMet_5 : decode prog_1_method_33_code 5 = .ok (.aload_n 0, 1) := by decide +kernel
theorem dX4_countMet_6 : decode prog_1_method_33_code 6 = .ok (.getfield 12, 3) := by decide +kernel
theorem dX4_countMet_9 : decode prog_1_method_33_code 9 = .ok (.invokevirtual 51, 3) := by decide +kernel
theorem dX4_countMet_12 : decode prog_1_method_33_code 12 = .ok (.if_icmp .ge 30, 3) := by decide +kernel
theorem dX4_countMet_15 : decode prog_1_method_33_code 15 = .ok (.aload_n 0, 1) := by decide +kernel
theorem dX4_countMet_16 : decode prog_1_method_33_code 16 = .ok (.aload_n 0, 1) := by decide +kernel
theorem dX4_countMet_17 : decode prog_1_method_33_code 17 = .ok (.getfield 12, 3) := by decide +kernel
theorem dX4_countMet_20 : decode prog_1_method_33_code 20 = .ok (.iload_n 2, 1) := by decide +kernel
theorem dX4_countMet_21 : decode prog_1_method_33_code 21 = .ok (.invokevirtual 88, 3) := by decide +kernel
theorem dX4_countMet_24 : decode prog_1_method_33_code 24 = .ok (.checkcast 60, 3) := by decide +kernel
theorem dX4_countMet_27 : decode prog_1_method_33_code 27 = .ok (.invokevirtual 229, 3) := by decide +kernel
theorem dX4_countMet_30 : decode prog_1_method_33_code 30 = .ok (.ifCond .eq 6, 3) := by decide +kernel
theorem dX4_countMet_33 : decode prog_1_method_33_code 33 = .ok (.iinc 1 1, 3) := by decide +kernel
theorem dX4_countMet_36 : decode prog_1_method_33_code 36 = .ok (.iinc 2 1, 3) := by decide +kernel
theorem dX4_countMet_39 : decode prog_1_method_33_code 39 = .ok (.goto (-35), 3) := by decide +kernel
theorem dX4_countMet_42 : decode prog_1_method_33_code 42 = .ok (.iload_n 1, 1) := by decide +kernel
theorem dX4_countMet_43 : decode prog_1_method_33_code 43 = .ok (.ireturn, 1) := by decide +kernel
theorem dX4_shift_0 : decode prog_1_method_12_code 0 = .ok (.aload_n 0, 1) := by decide +kernel
theorem dX4_shift_1 : decode prog_1_method_12_code 1 = .ok (.iload_n 1, 1) := by decide +kernel
theorem dX4_shift_2 : decode prog_1_method_12_code 2 = .ok (.invokevirtual 136, 3) := by decide +kernel
theorem dX4_shift_5 : decode prog_1_method_12_code 5 = .ok (.astore_n 3, 1) := by decide +kernel
theorem dX4_shift_6 : decode prog_1_method_12_code 6 = .ok (.iload_n 2, 1) := by decide +kernel
theorem dX4_shift_7 : decode prog_1_method_12_code 7 = .ok (.ifCond .lt 11, 3) := by decide +kernel
theorem dX4_shift_10 : decode prog_1_method_12_code 10 = .ok (.iload_n 2, 1) := by decide +kernel
theorem dX4_shift_11 : decode prog_1_method_12_code 11 = .ok (.aload_n 0, 1) := by decide +kernel
theorem dX4_shift_12 : decode prog_1_method_12_code 12 = .ok (.getfield 26, 3) := by decide +kernel
theorem dX4_shift_15 : decode prog_1_method_12_code 15 = .ok (.if_icmp .le 13, 3) := by decide +kernel
theorem dX4_shift_18 : decode prog_1_method_12_code 18 = .ok (.new 44, 3) := by decide +kernel
theorem dX4_shift_21 : decode prog_1_method_12_code 21 = .ok (.dup, 1) := by decide +kernel
theorem dX4_shift_22 : decode prog_1_method_12_code 22 = .ok (.ldc 159, 2) := by decide +kernel
theorem dX4_shift_24 : decode prog_1_method_12_code 24 = .ok (.invokespecial 48, 3) := by decide +kernel
theorem dX4_shift_27 : decode prog_1_method_12_code 27 = .ok (.athrow, 1) := by decide +kernel
theorem dX4_shift_28 : decode prog_1_method_12_code 28 = .ok (.aload_n 3, 1) := by decide +kernel
theorem dX4_shift_29 : decode prog_1_method_12_code 29 = .ok (.iload_n 2, 1) := by decide +kernel
theorem dX4_shift_30 : decode prog_1_method_12_code 30 = .ok (.putfield 108, 3) := by decide +kernel
theorem dX4_shift_33 : decode prog_1_method_12_code 33 = .ok (.aload_n 0, 1) := by decide +kernel
theorem dX4_shift_34 : decode prog_1_method_12_code 34 = .ok (.invokevirtual 161, 3) := by decide +kernel
theorem dX4_shift_37 : decode prog_1_method_12_code 37 = .ok (.ireturn, 1) := by decide +kernel
theorem dX4_open_0 : decode prog_1_method_16_code 0 = .ok (.iload_n 1, 1) := by decide +kernel
theorem dX4_open_1 : decode prog_1_method_16_code 1 = .ok (.iconst 1, 1) := by decide +kernel
theorem dX4_open_2 : decode prog_1_method_16_code 2 = .ok (.if_icmp .lt 9, 3) := by decide +kernel
theorem dX4_open_5 : decode prog_1_method_16_code 5 = .ok (.iload_n 1, 1) := by decide +kernel
theorem dX4_open_6 : decode prog_1_method_16_code 6 = .ok (.bipush 60, 2) := by decide +kernel
theorem dX4_open_8 : decode prog_1_method_16_code 8 = .ok (.if_icmp .le 13, 3) := by decide +kernel
theorem dX4_open_11 : decode prog_1_method_16_code 11 = .ok (.new 44, 3) := by decide +kernel
theorem dX4_open_14 : decode prog_1_method_16_code 14 = .ok (.dup, 1) := by decide +kernel
theorem dX4_open_15 : decode prog_1_method_16_code 15 = .ok (.ldc 170, 2) := by decide +kernel
theorem dX4_open_17 : decode prog_1_method_16_code 17 = .ok (.invokespecial 48, 3) := by decide +kernel
theorem dX4_open_20 : decode prog_1_method_16_code 20 = .ok (.athrow, 1) := by decide +kernel
theorem dX4_open_21 : decode prog_1_method_16_code 21 = .ok (.aload_n 0, 1) := by decide +kernel
theorem dX4_open_22 : decode prog_1_method_16_code 22 = .ok (.getfield 172, 3) := by decide +kernel
theorem dX4_open_25 : decode prog_1_method_16_code 25 = .ok (.ifCond .le 13, 3) := by decide +kernel
theorem dX4_open_28 : decode prog_1_method_16_code 28 = .ok (.new 55, 3) := by decide +kernel
theorem dX4_open_31 : decode prog_1_method_16_code 31 = .ok (.dup, 1) := by decide +kernel
theorem dX4_open_32 : decode prog_1_method_16_code 32 = .ok (.ldc 175, 2) := by decide +kernel
theorem dX4_open_34 : decode prog_1_method_16_code 34 = .ok (.invokespecial 59, 3) := by decide +kernel
theorem dX4_open_37 : decode prog_1_method_16_code 37 = .ok (.athrow, 1) := by decide +kernel
theorem dX4_open_38 : decode prog_1_method_16_code 38 = .ok (.aload_n 0, 1) := by decide +kernel
theorem dX4_open_39 : decode prog_1_method_16_code 39 = .ok (.iload_n 1, 1) := by decide +kernel
theorem dX4_open_40 : decode prog_1_method_16_code 40 = .ok (.putfield 172, 3) := by decide +kernel
theorem dX4_open_43 : decode prog_1_method_16_code 43 = .ok (.aload_n 0, 1) := by decide +kernel
theorem dX4_open_44 : decode prog_1_method_16_code 44 = .ok (.getfield 23, 3) := by decide +kernel
theorem dX4_open_47 : decode prog_1_method_16_code 47 = .ok (.invokevirtual 51, 3) := by decide +kernel
theorem dX4_open_50 : decode prog_1_method_16_code 50 = .ok (.ireturn, 1) := by decide +kernel
theorem dX4_take_0 : decode prog_1_method_17_code 0 = .ok (.aload_n 0, 1) := by decide +kernel
theorem dX4_take_1 : decode prog_1_method_17_code 1 = .ok (.iload_n 1, 1) := by decide +kernel
theorem dX4_take_2 : decode prog_1_method_17_code 2 = .ok (.invokevirtual 136, 3) := by decide +kernel
theorem dX4_take_5 : decode prog_1_method_17_code 5 = .ok (.astore 4, 2) := by decide +kernel
theorem dX4_take_7 : decode prog_1_method_17_code 7 = .ok (.iload_n 2, 1) := by decide +kernel
theorem dX4_take_8 : decode prog_1_method_17_code 8 = .ok (.ifCond .lt 23, 3) := by decide +kernel
theorem dX4_take_11 : decode prog_1_method_17_code 11 = .ok (.iload_n 2, 1) := by decide +kernel
theorem dX4_take_12 : decode prog_1_method_17_code 12 = .ok (.aload 4, 2) := by decide +kernel
theorem dX4_take_14 : decode prog_1_method_17_code 14 = .ok (.invokevirtual 177, 3) := by decide +kernel
theorem dX4_take_17 : decode prog_1_method_17_code 17 = .ok (.if_icmp .gt 14, 3) := by decide +kernel
theorem dX4_take_20 : decode prog_1_method_17_code 20 = .ok (.iload_n 3, 1) := by decide +kernel
theorem dX4_take_21 : decode prog_1_method_17_code 21 = .ok (.bipush (-2), 2) := by decide +kernel
theorem dX4_take_23 : decode prog_1_method_17_code 23 = .ok (.if_icmp .lt 8, 3) := by decide +kernel
theorem dX4_take_26 : decode prog_1_method_17_code 26 = .ok (.iload_n 3, 1) := by decide +kernel
theorem dX4_take_27 : decode prog_1_method_17_code 27 = .ok (.iconst 2, 1) := by decide +kernel
theorem dX4_take_28 : decode prog_1_method_17_code 28 = .ok (.if_icmp .le 13, 3) := by decide +kernel
theorem dX4_take_31 : decode prog_1_method_17_code 31 = .ok (.new 44, 3) := by decide +kernel
theorem dX4_take_34 : decode prog_1_method_17_code 34 = .ok (.dup, 1) := by decide +kernel
theorem dX4_take_35 : decode prog_1_method_17_code 35 = .ok (.ldc 180, 2) := by decide +kernel
theorem dX4_take_37 : decode prog_1_method_17_code 37 = .ok (.invokespecial 48, 3) := by decide +kernel
theorem dX4_take_40 : decode prog_1_method_17_code 40 = .ok (.athrow, 1) := by decide +kernel
theorem dX4_take_41 : decode prog_1_method_17_code 41 = .ok (.aload_n 0, 1) := by decide +kernel
theorem dX4_take_42 : decode prog_1_method_17_code 42 = .ok (.getfield 172, 3) := by decide +kernel
theorem dX4_take_45 : decode prog_1_method_17_code 45 = .ok (.ifCond .eq 23, 3) := by decide +kernel
theorem dX4_take_48 : decode prog_1_method_17_code 48 = .ok (.aload 4, 2) := by decide +kernel
theorem dX4_take_50 : decode prog_1_method_17_code 50 = .ok (.getfield 143, 3) := by decide +kernel
theorem dX4_take_53 : decode prog_1_method_17_code 53 = .ok (.ifCond .eq 15, 3) := by decide +kernel
theorem dX4_take_56 : decode prog_1_method_17_code 56 = .ok (.aload 4, 2) := by decide +kernel
theorem dX4_take_58 : decode prog_1_method_17_code 58 = .ok (.getfield 182, 3) := by decide +kernel
theorem dX4_take_61 : decode prog_1_method_17_code 61 = .ok (.aload_n 0, 1) := by decide +kernel
theorem dX4_take_62 : decode prog_1_method_17_code 62 = .ok (.getfield 172, 3) := by decide +kernel
theorem dX4_take_65 : decode prog_1_method_17_code 65 = .ok (.if_icmp .le 13, 3) := by decide +kernel
theorem dX4_take_68 : decode prog_1_method_17_code 68 = .ok (.new 55, 3) := by decide +kernel
theorem dX4_take_71 : decode prog_1_method_17_code 71 = .ok (.dup, 1) := by decide +kernel
theorem dX4_take_72 : decode prog_1_method_17_code 72 = .ok (.ldc 185, 2) := by decide +kernel
theorem dX4_take_74 : decode prog_1_method_17_code 74 = .ok (.invokespecial 59, 3) := by decide +kernel
theorem dX4_take_77 : decode prog_1_method_17_code 77 = .ok (.athrow, 1) := by decide +kernel
theorem dX4_take_78 : decode prog_1_method_17_code 78 = .ok (.iconst 3, 1) := by decide +kernel
theorem dX4_take_79 : decode prog_1_method_17_code 79 = .ok (.aload 4, 2) := by decide +kernel
theorem dX4_take_81 : decode prog_1_method_17_code 81 = .ok (.getfield 187, 3) := by decide +kernel
theorem dX4_take_84 : decode prog_1_method_17_code 84 = .ok (.sipush 1440, 3) := by decide +kernel
theorem dX4_take_87 : decode prog_1_method_17_code 87 = .ok (.invokestatic 190, 3) := by decide +kernel
theorem dX4_take_90 : decode prog_1_method_17_code 90 = .ok (.iadd, 1) := by decide +kernel
theorem dX4_take_91 : decode prog_1_method_17_code 91 = .ok (.istore 5, 2) := by decide +kernel
theorem dX4_take_93 : decode prog_1_method_17_code 93 = .ok (.aload_n 0, 1) := by decide +kernel
theorem dX4_take_94 : decode prog_1_method_17_code 94 = .ok (.getfield 193, 3) := by decide +kernel
theorem dX4_take_97 : decode prog_1_method_17_code 97 = .ok (.iload 5, 2) := by decide +kernel
theorem dX4_take_99 : decode prog_1_method_17_code 99 = .ok (.iadd, 1) := by decide +kernel
theorem dX4_take_100 : decode prog_1_method_17_code 100 = .ok (.bipush 120, 2) := by decide +kernel
theorem dX4_take_102 : decode prog_1_method_17_code 102 = .ok (.if_icmp .gt 15, 3) := by decide +kernel
theorem dX4_take_105 : decode prog_1_method_17_code 105 = .ok (.aload_n 0, 1) := by decide +kernel
theorem dX4_take_106 : decode prog_1_method_17_code 106 = .ok (.getfield 23, 3) := by decide +kernel
theorem dX4_take_109 : decode prog_1_method_17_code 109 = .ok (.invokevirtual 51, 3) := by decide +kernel
theorem dX4_take_112 : decode prog_1_method_17_code 112 = .ok (.bipush 40, 2) := by decide +kernel
theorem dX4_take_114 : decode prog_1_method_17_code 114 = .ok (.if_icmp .lt 13, 3) := by decide +kernel
theorem dX4_take_117 : decode prog_1_method_17_code 117 = .ok (.new 55, 3) := by decide +kernel
theorem dX4_take_120 : decode prog_1_method_17_code 120 = .ok (.dup, 1) := by decide +kernel
theorem dX4_take_121 : decode prog_1_method_17_code 121 = .ok (.ldc 196, 2) := by decide +kernel
theorem dX4_take_123 : decode prog_1_method_17_code 123 = .ok (.invokespecial 59, 3) := by decide +kernel
theorem dX4_take_126 : decode prog_1_method_17_code 126 = .ok (.athrow, 1) := by decide +kernel
theorem dX4_take_127 : decode prog_1_method_17_code 127 = .ok (.aload_n 0, 1) := by decide +kernel
theorem dX4_take_128 : decode prog_1_method_17_code 128 = .ok (.dup, 1) := by decide +kernel
theorem dX4_take_129 : decode prog_1_method_17_code 129 = .ok (.getfield 193, 3) := by decide +kernel
theorem dX4_take_132 : decode prog_1_method_17_code 132 = .ok (.iload 5, 2) := by decide +kernel
theorem dX4_take_134 : decode prog_1_method_17_code 134 = .ok (.iadd, 1) := by decide +kernel
theorem dX4_take_135 : decode prog_1_method_17_code 135 = .ok (.putfield 193, 3) := by decide +kernel
theorem dX4_take_138 : decode prog_1_method_17_code 138 = .ok (.aload_n 0, 1) := by decide +kernel
theorem dX4_take_139 : decode prog_1_method_17_code 139 = .ok (.getfield 23, 3) := by decide +kernel
theorem dX4_take_142 : decode prog_1_method_17_code 142 = .ok (.new 198, 3) := by decide +kernel
theorem dX4_take_145 : decode prog_1_method_17_code 145 = .ok (.dup, 1) := by decide +kernel
theorem dX4_take_146 : decode prog_1_method_17_code 146 = .ok (.aload_n 0, 1) := by decide +kernel
theorem dX4_take_147 : decode prog_1_method_17_code 147 = .ok (.getfield 23, 3) := by decide +kernel
theorem dX4_take_150 : decode prog_1_method_17_code 150 = .ok (.invokevirtual 51, 3) := by decide +kernel
theorem dX4_take_153 : decode prog_1_method_17_code 153 = .ok (.aload 4, 2) := by decide +kernel
theorem dX4_take_155 : decode prog_1_method_17_code 155 = .ok (.iload_n 2, 1) := by decide +kernel
theorem dX4_take_156 : decode prog_1_method_17_code 156 = .ok (.iload_n 3, 1) := by decide +kernel
theorem dX4_take_157 : decode prog_1_method_17_code 157 = .ok (.invokespecial 200, 3) := by decide +kernel
theorem dX4_take_160 : decode prog_1_method_17_code 160 = .ok (.invokevirtual 65, 3) := by decide +kernel
theorem dX4_take_163 : decode prog_1_method_17_code 163 = .ok (.pop, 1) := by decide +kernel
theorem dX4_take_164 : decode prog_1_method_17_code 164 = .ok (.aload_n 0, 1) := by decide +kernel
theorem dX4_take_165 : decode prog_1_method_17_code 165 = .ok (.getfield 23, 3) := by decide +kernel
theorem dX4_take_168 : decode prog_1_method_17_code 168 = .ok (.invokevirtual 51, 3) := by decide +kernel
theorem dX4_take_171 : decode prog_1_method_17_code 171 = .ok (.iconst 1, 1) := by decide +kernel
theorem dX4_take_172 : decode prog_1_method_17_code 172 = .ok (.isub, 1) := by decide +kernel
theorem dX4_take_173 : decode prog_1_method_17_code 173 = .ok (.ireturn, 1) := by decide +kernel
theorem dX4_close_0 : decode prog_1_method_18_code 0 = .ok (.aload_n 0, 1) := by decide +kernel
theorem dX4_close_1 : decode prog_1_method_18_code 1 = .ok (.getfield 172, 3) := by decide +kernel
theorem dX4_close_4 : decode prog_1_method_18_code 4 = .ok (.ifCond .ne 13, 3) := by decide +kernel
theorem dX4_close_7 : decode prog_1_method_18_code 7 = .ok (.new 55, 3) := by decide +kernel
theorem dX4_close_10 : decode prog_1_method_18_code 10 = .ok (.dup, 1) := by decide +kernel
theorem dX4_close_11 : decode prog_1_method_18_code 11 = .ok (.ldc 203, 2) := by decide +kernel
theorem dX4_close_13 : decode prog_1_method_18_code 13 = .ok (.invokespecial 59, 3) := by decide +kernel
theorem dX4_close_16 : decode prog_1_method_18_code 16 = .ok (.athrow, 1) := by decide +kernel
theorem dX4_close_17 : decode prog_1_method_18_code 17 = .ok (.aload_n 0, 1) := by decide +kernel
theorem dX4_close_18 : decode prog_1_method_18_code 18 = .ok (.getfield 193, 3) := by decide +kernel
theorem dX4_close_21 : decode prog_1_method_18_code 21 = .ok (.bipush 15, 2) := by decide +kernel
theorem dX4_close_23 : decode prog_1_method_18_code 23 = .ok (.invokestatic 190, 3) := by decide +kernel
theorem dX4_close_26 : decode prog_1_method_18_code 26 = .ok (.istore_n 1, 1) := by decide +kernel
theorem dX4_close_27 : decode prog_1_method_18_code 27 = .ok (.iload_n 1, 1) := by decide +kernel
theorem dX4_close_28 : decode prog_1_method_18_code 28 = .ok (.iconst 4, 1) := by decide +kernel
theorem dX4_close_29 : decode prog_1_method_18_code 29 = .ok (.invokestatic 205, 3) := by decide +kernel
theorem dX4_close_32 : decode prog_1_method_18_code 32 = .ok (.istore_n 2, 1) := by decide +kernel
theorem dX4_close_33 : decode prog_1_method_18_code 33 = .ok (.aload_n 0, 1) := by decide +kernel
theorem dX4_close_34 : decode prog_1_method_18_code 34 = .ok (.getfield 172, 3) := by decide +kernel
theorem dX4_close_37 : decode prog_1_method_18_code 37 = .ok (.iload_n 2, 1) := by decide +kernel
theorem dX4_close_38 : decode prog_1_method_18_code 38 = .ok (.iconst 4, 1) := by decide +kernel
theorem dX4_close_39 : decode prog_1_method_18_code 39 = .ok (.imul, 1) := by decide +kernel
theorem dX4_close_40 : decode prog_1_method_18_code 40 = .ok (.iload_n 1, 1) := by decide +kernel
theorem dX4_close_41 : decode prog_1_method_18_code 41 = .ok (.iload_n 2, 1) := by decide +kernel
theorem dX4_close_42 : decode prog_1_method_18_code 42 = .ok (.isub, 1) := by decide +kernel
theorem dX4_close_43 : decode prog_1_method_18_code 43 = .ok (.bipush 6, 2) := by decide +kernel
theorem dX4_close_45 : decode prog_1_method_18_code 45 = .ok (.imul, 1) := by decide +kernel
theorem dX4_close_46 : decode prog_1_method_18_code 46 = .ok (.iadd, 1) := by decide +kernel
theorem dX4_close_47 : decode prog_1_method_18_code 47 = .ok (.imul, 1) := by decide +kernel
theorem dX4_close_48 : decode prog_1_method_18_code 48 = .ok (.istore_n 3, 1) := by decide +kernel
theorem dX4_close_49 : decode prog_1_method_18_code 49 = .ok (.aload_n 0, 1) := by decide +kernel
theorem dX4_close_50 : decode prog_1_method_18_code 50 = .ok (.dup, 1) := by decide +kernel
theorem dX4_close_51 : decode prog_1_method_18_code 51 = .ok (.getfield 210, 3) := by decide +kernel
theorem dX4_close_54 : decode prog_1_method_18_code 54 = .ok (.iload_n 3, 1) := by decide +kernel
theorem dX4_close_55 : decode prog_1_method_18_code 55 = .ok (.iadd, 1) := by decide +kernel
theorem dX4_close_56 : decode prog_1_method_18_code 56 = .ok (.putfield 210, 3) := by decide +kernel
theorem dX4_close_59 : decode prog_1_method_18_code 59 = .ok (.aload_n 0, 1) := by decide +kernel
theorem dX4_close_60 : decode prog_1_method_18_code 60 = .ok (.iconst 0, 1) := by decide +kernel
theorem dX4_close_61 : decode prog_1_method_18_code 61 = .ok (.putfield 172, 3) := by decide +kernel
theorem dX4_close_64 : decode prog_1_method_18_code 64 = .ok (.aload_n 0, 1) := by decide +kernel
theorem dX4_close_65 : decode prog_1_method_18_code 65 = .ok (.iconst 0, 1) := by decide +kernel
theorem dX4_close_66 : decode prog_1_method_18_code 66 = .ok (.putfield 193, 3) := by decide +kernel
theorem dX4_close_69 : decode prog_1_method_18_code 69 = .ok (.iload_n 3, 1) := by decide +kernel
theorem dX4_close_70 : decode prog_1_method_18_code 70 = .ok (.ireturn, 1) := by decide +kernel
theorem dX4_nearestCue_0 : decode prog_1_method_28_code 0 = .ok (.iconst (-1), 1) := by decide +kernel
theorem dX4_nearestCue_1 : decode prog_1_method_28_code 1 = .ok (.istore_n 2, 1) := by decide +kernel
theorem dX4_nearestCue_2 : decode prog_1_method_28_code 2 = .ok (.iconst (-1), 1) := by decide +kernel
theorem dX4_nearestCue_3 : decode prog_1_method_28_code 3 = .ok (.istore_n 3, 1) := by decide +kernel
theorem dX4_nearestCue_4 : decode prog_1_method_28_code 4 = .ok (.iconst 0, 1) := by decide +kernel
theorem dX4_nearestCue_5 : decode prog_1_method_28_code 5 = .ok (.istore 4, 2) := by decide +kernel
theorem dX4_nearestCue_7 : decode prog_1_method_28_code 7 = .ok (.iload 4, 2) := by decide +kernel
theorem dX4_nearestCue_9 : decode prog_1_method_28_code 9 = .ok (.aload_n 0, 1) := by decide +kernel
theorem dX4_nearestCue_10 : decode prog_1_method_28_code 10 = .ok (.getfield 20, 3) := by decide +kernel
theorem dX4_nearestCue_13 : decode prog_1_method_28_code 13 = .ok (.invokevirtual 51, 3) := by decide +kernel
theorem dX4_nearestCue_16 : decode prog_1_method_28_code 16 = .ok (.if_icmp .ge 60, 3) := by decide +kernel
theorem dX4_nearestCue_19 : decode prog_1_method_28_code 19 = .ok (.aload_n 1, 1) := by decide +kernel
theorem dX4_nearestCue_20 : decode prog_1_method_28_code 20 = .ok (.getfield 221, 3) := by decide +kernel
theorem dX4_nearestCue_23 : decode prog_1_method_28_code 23 = .ok (.ifCond .ne 53, 3) := by decide +kernel
theorem dX4_nearestCue_26 : decode prog_1_method_28_code 26 = .ok (.aload_n 0, 1) := by decide +kernel
theorem dX4_nearestCue_27 : decode prog_1_method_28_code 27 = .ok (.getfield 20, 3) := by decide +kernel
theorem dX4_nearestCue_30 : decode prog_1_method_28_code 30 = .ok (.iload 4, 2) := by decide +kernel
theorem dX4_nearestCue_32 : decode prog_1_method_28_code 32 = .ok (.invokevirtual 88, 3) := by decide +kernel
theorem dX4_nearestCue_35 : decode prog_1_method_28_code 35 = .ok (.checkcast 99, 3) := by decide +kernel
theorem dX4_nearestCue_38 : decode prog_1_method_28_code 38 = .ok (.aload_n 1, 1) := by decide +kernel
theorem dX4_nearestCue_39 : decode prog_1_method_28_code 39 = .ok (.getfield 215, 3) := by decide +kernel
theorem dX4_nearestCue_42 : decode prog_1_method_28_code 42 = .ok (.invokevirtual 330, 3) := by decide +kernel
theorem dX4_nearestCue_45 : decode prog_1_method_28_code 45 = .ok (.istore 5, 2) := by decide +kernel
theorem dX4_nearestCue_47 : decode prog_1_method_28_code 47 = .ok (.iload 5, 2) := by decide +kernel
theorem dX4_nearestCue_49 : decode prog_1_method_28_code 49 = .ok (.iconst (-1), 1) := by decide +kernel
theorem dX4_nearestCue_50 : decode prog_1_method_28_code 50 = .ok (.if_icmp .eq 20, 3) := by decide +kernel
theorem dX4_nearestCue_53 : decode prog_1_method_28_code 53 = .ok (.iload_n 3, 1) := by decide +kernel
theorem dX4_nearestCue_54 : decode prog_1_method_28_code 54 = .ok (.iconst (-1), 1) := by decide +kernel
theorem dX4_nearestCue_55 : decode prog_1_method_28_code 55 = .ok (.if_icmp .eq 9, 3) := by decide +kernel
theorem dX4_nearestCue_58 : decode prog_1_method_28_code 58 = .ok (.iload 5, 2) := by decide +kernel
theorem dX4_nearestCue_60 : decode prog_1_method_28_code 60 = .ok (.iload_n 3, 1) := by decide +kernel
theorem dX4_nearestCue_61 : decode prog_1_method_28_code 61 = .ok (.if_icmp .ge 9, 3) := by decide +kernel
theorem dX4_nearestCue_64 : decode prog_1_method_28_code 64 = .ok (.iload 4, 2) := by decide +kernel
theorem dX4_nearestCue_66 : decode prog_1_method_28_code 66 = .ok (.istore_n 2, 1) := by decide +kernel
theorem dX4_nearestCue_67 : decode prog_1_method_28_code 67 = .ok (.iload 5, 2) := by decide +kernel
theorem dX4_nearestCue_69 : decode prog_1_method_28_code 69 = .ok (.istore_n 3, 1) := by decide +kernel
theorem dX4_nearestCue_70 : decode prog_1_method_28_code 70 = .ok (.iinc 4 1, 3) := by decide +kernel
theorem dX4_nearestCue_73 : decode prog_1_method_28_code 73 = .ok (.goto (-66), 3) := by decide +kernel
theorem dX4_nearestCue_76 : decode prog_1_method_28_code 76 = .ok (.iload_n 2, 1) := by decide +kernel
theorem dX4_nearestCue_77 : decode prog_1_method_28_code 77 = .ok (.ireturn, 1) := by decide +kernel
theorem dX4_missOf_0 : decode prog_1_method_29_code 0 = .ok (.aload_n 0, 1) := by decide +kernel
theorem dX4_missOf_1 : decode prog_1_method_29_code 1 = .ok (.aload_n 1, 1) := by decide +kernel
theorem dX4_missOf_2 : decode prog_1_method_29_code 2 = .ok (.invokevirtual 233, 3) := by decide +kernel
theorem dX4_missOf_5 : decode prog_1_method_29_code 5 = .ok (.istore_n 2, 1) := by decide +kernel
theorem dX4_missOf_6 : decode prog_1_method_29_code 6 = .ok (.iload_n 2, 1) := by decide +kernel
theorem dX4_missOf_7 : decode prog_1_method_29_code 7 = .ok (.iconst (-1), 1) := by decide +kernel
theorem dX4_missOf_8 : decode prog_1_method_29_code 8 = .ok (.if_icmp .ne 7, 3) := by decide +kernel
theorem dX4_missOf_11 : decode prog_1_method_29_code 11 = .ok (.iconst (-1), 1) := by decide +kernel
theorem dX4_missOf_12 : decode prog_1_method_29_code 12 = .ok (.goto 21, 3) := by decide +kernel
theorem dX4_missOf_15 : decode prog_1_method_29_code 15 = .ok (.aload_n 0, 1) := by decide +kernel
theorem dX4_missOf_16 : decode prog_1_method_29_code 16 = .ok (.getfield 20, 3) := by decide +kernel
theorem dX4_missOf_19 : decode prog_1_method_29_code 19 = .ok (.iload_n 2, 1) := by decide +kernel
theorem dX4_missOf_20 : decode prog_1_method_29_code 20 = .ok (.invokevirtual 88, 3) := by decide +kernel
theorem dX4_missOf_23 : decode prog_1_method_29_code 23 = .ok (.checkcast 99, 3) := by decide +kernel
theorem dX4_missOf_26 : decode prog_1_method_29_code 26 = .ok (.aload_n 1, 1) := by decide +kernel
theorem dX4_missOf_27 : decode prog_1_method_29_code 27 = .ok (.getfield 215, 3) := by decide +kernel
theorem dX4_missOf_30 : decode prog_1_method_29_code 30 = .ok (.invokevirtual 330, 3) := by decide +kernel
theorem dX4_missOf_33 : decode prog_1_method_29_code 33 = .ok (.ireturn, 1) := by decide +kernel
theorem dX4_nearestBeat_0 : decode prog_1_method_30_code 0 = .ok (.aload_n 0, 1) := by decide +kernel
theorem dX4_nearestBeat_1 : decode prog_1_method_30_code 1 = .ok (.aload_n 1, 1) := by decide +kernel
theorem dX4_nearestBeat_2 : decode prog_1_method_30_code 2 = .ok (.invokevirtual 233, 3) := by decide +kernel
theorem dX4_nearestBeat_5 : decode prog_1_method_30_code 5 = .ok (.istore_n 2, 1) := by decide +kernel
theorem dX4_nearestBeat_6 : decode prog_1_method_30_code 6 = .ok (.iload_n 2, 1) := by decide +kernel
theorem dX4_nearestBeat_7 : decode prog_1_method_30_code 7 = .ok (.iconst (-1), 1) := by decide +kernel
theorem dX4_nearestBeat_8 : decode prog_1_method_30_code 8 = .ok (.if_icmp .ne 7, 3) := by decide +kernel
theorem dX4_nearestBeat_11 : decode prog_1_method_30_code 11 = .ok (.iconst (-1), 1) := by decide +kernel
theorem dX4_nearestBeat_12 : decode prog_1_method_30_code 12 = .ok (.goto 21, 3) := by decide +kernel
theorem dX4_nearestBeat_15 : decode prog_1_method_30_code 15 = .ok (.aload_n 0, 1) := by decide +kernel
theorem dX4_nearestBeat_16 : decode prog_1_method_30_code 16 = .ok (.getfield 20, 3) := by decide +kernel
theorem dX4_nearestBeat_19 : decode prog_1_method_30_code 19 = .ok (.iload_n 2, 1) := by decide +kernel
theorem dX4_nearestBeat_20 : decode prog_1_method_30_code 20 = .ok (.invokevirtual 88, 3) := by decide +kernel
theorem dX4_nearestBeat_23 : decode prog_1_method_30_code 23 = .ok (.checkcast 99, 3) := by decide +kernel
theorem dX4_nearestBeat_26 : decode prog_1_method_30_code 26 = .ok (.aload_n 1, 1) := by decide +kernel
theorem dX4_nearestBeat_27 : decode prog_1_method_30_code 27 = .ok (.getfield 215, 3) := by decide +kernel
theorem dX4_nearestBeat_30 : decode prog_1_method_30_code 30 = .ok (.invokevirtual 332, 3) := by decide +kernel
theorem dX4_nearestBeat_33 : decode prog_1_method_30_code 33 = .ok (.ireturn, 1) := by decide +kernel
theorem dX4_ofHit_0 : decode prog_1_method_20_code 0 = .ok (.iload_n 1, 1) := by decide +kernel
theorem dX4_ofHit_1 : decode prog_1_method_20_code 1 = .ok (.ifCond .lt 14, 3) := by decide +kernel
theorem dX4_ofHit_4 : decode prog_1_method_20_code 4 = .ok (.iload_n 1, 1) := by decide +kernel
theorem dX4_ofHit_5 : decode prog_1_method_20_code 5 = .ok (.aload_n 0, 1) := by decide +kernel
theorem dX4_ofHit_6 : decode prog_1_method_20_code 6 = .ok (.getfield 12, 3) := by decide +kernel
theorem dX4_ofHit_9 : decode prog_1_method_20_code 9 = .ok (.invokevirtual 51, 3) := by decide +kernel
theorem dX4_ofHit_12 : decode prog_1_method_20_code 12 = .ok (.if_icmp .lt 13, 3) := by decide +kernel
theorem dX4_ofHit_15 : decode prog_1_method_20_code 15 = .ok (.new 119, 3) := by decide +kernel
theorem dX4_ofHit_18 : decode prog_1_method_20_code 18 = .ok (.dup, 1) := by decide +kernel
theorem dX4_ofHit_19 : decode prog_1_method_20_code 19 = .ok (.ldc 213, 2) := by decide +kernel
theorem dX4_ofHit_21 : decode prog_1_method_20_code 21 = .ok (.invokespecial 123, 3) := by decide +kernel
theorem dX4_ofHit_24 : decode prog_1_method_20_code 24 = .ok (.athrow, 1) := by decide +kernel
theorem dX4_ofHit_25 : decode prog_1_method_20_code 25 = .ok (.aload_n 0, 1) := by decide +kernel
theorem dX4_ofHit_26 : decode prog_1_method_20_code 26 = .ok (.getfield 12, 3) := by decide +kernel
theorem dX4_ofHit_29 : decode prog_1_method_20_code 29 = .ok (.iload_n 1, 1) := by decide +kernel
theorem dX4_ofHit_30 : decode prog_1_method_20_code 30 = .ok (.invokevirtual 88, 3) := by decide +kernel
theorem dX4_ofHit_33 : decode prog_1_method_20_code 33 = .ok (.checkcast 60, 3) := by decide +kernel
theorem dX4_ofHit_36 : decode prog_1_method_20_code 36 = .ok (.astore_n 3, 1) := by decide +kernel
theorem dX4_ofHit_37 : decode prog_1_method_20_code 37 = .ok (.iload_n 2, 1) := by decide +kernel
theorem dX4_ofHit_38 : decode prog_1_method_20_code 38 = .ok (.tableswitch 97 0 6 #[42, 47, 52, 65, 71, 85, 91], 42) := by decide +kernel
theorem dX4_ofHit_80 : decode prog_1_method_20_code 80 = .ok (.aload_n 3, 1) := by decide +kernel
theorem dX4_ofHit_81 : decode prog_1_method_20_code 81 = .ok (.getfield 215, 3) := by decide +kernel
theorem dX4_ofHit_84 : decode prog_1_method_20_code 84 = .ok (.ireturn, 1) := by decide +kernel
theorem dX4_ofHit_85 : decode prog_1_method_20_code 85 = .ok (.aload_n 3, 1) := by decide +kernel
theorem dX4_ofHit_86 : decode prog_1_method_20_code 86 = .ok (.getfield 218, 3) := by decide +kernel
theorem dX4_ofHit_89 : decode prog_1_method_20_code 89 = .ok (.ireturn, 1) := by decide +kernel
theorem dX4_ofHit_90 : decode prog_1_method_20_code 90 = .ok (.aload_n 3, 1) := by decide +kernel
theorem dX4_ofHit_91 : decode prog_1_method_20_code 91 = .ok (.getfield 221, 3) := by decide +kernel
theorem dX4_ofHit_94 : decode prog_1_method_20_code 94 = .ok (.ifCond .eq 7, 3) := by decide +kernel
theorem dX4_ofHit_97 : decode prog_1_method_20_code 97 = .ok (.iconst 1, 1) := by decide +kernel
theorem dX4_ofHit_98 : decode prog_1_method_20_code 98 = .ok (.goto 4, 3) := by decide +kernel
theorem dX4_ofHit_101 : decode prog_1_method_20_code 101 = .ok (.iconst 0, 1) := by decide +kernel
theorem dX4_ofHit_102 : decode prog_1_method_20_code 102 = .ok (.ireturn, 1) := by decide +kernel
theorem dX4_ofHit_103 : decode prog_1_method_20_code 103 = .ok (.aload_n 0, 1) := by decide +kernel
theorem dX4_ofHit_104 : decode prog_1_method_20_code 104 = .ok (.aload_n 3, 1) := by decide +kernel
theorem dX4_ofHit_105 : decode prog_1_method_20_code 105 = .ok (.invokevirtual 225, 3) := by decide +kernel
theorem dX4_ofHit_108 : decode prog_1_method_20_code 108 = .ok (.ireturn, 1) := by decide +kernel
theorem dX4_ofHit_109 : decode prog_1_method_20_code 109 = .ok (.aload_n 0, 1) := by decide +kernel
theorem dX4_ofHit_110 : decode prog_1_method_20_code 110 = .ok (.aload_n 3, 1) := by decide +kernel
theorem dX4_ofHit_111 : decode prog_1_method_20_code 111 = .ok (.invokevirtual 229, 3) := by decide +kernel
theorem dX4_ofHit_114 : decode prog_1_method_20_code 114 = .ok (.ifCond .eq 7, 3) := by decide +kernel
theorem dX4_ofHit_117 : decode prog_1_method_20_code 117 = .ok (.iconst 1, 1) := by decide +kernel
theorem dX4_ofHit_118 : decode prog_1_method_20_code 118 = .ok (.goto 4, 3) := by decide +kernel
theorem dX4_ofHit_121 : decode prog_1_method_20_code 121 = .ok (.iconst 0, 1) := by decide +kernel
theorem dX4_ofHit_122 : decode prog_1_method_20_code 122 = .ok (.ireturn, 1) := by decide +kernel
theorem dX4_ofHit_123 : decode prog_1_method_20_code 123 = .ok (.aload_n 0, 1) := by decide +kernel
theorem dX4_ofHit_124 : decode prog_1_method_20_code 124 = .ok (.aload_n 3, 1) := by decide +kernel
theorem dX4_ofHit_125 : decode prog_1_method_20_code 125 = .ok (.invokevirtual 233, 3) := by decide +kernel
theorem dX4_ofHit_128 : decode prog_1_method_20_code 128 = .ok (.ireturn, 1) := by decide +kernel
theorem dX4_ofHit_129 : decode prog_1_method_20_code 129 = .ok (.aload_n 0, 1) := by decide +kernel
theorem dX4_ofHit_130 : decode prog_1_method_20_code 130 = .ok (.aload_n 3, 1) := by decide +kernel
theorem dX4_ofHit_131 : decode prog_1_method_20_code 131 = .ok (.invokevirtual 236, 3) := by decide +kernel
theorem dX4_ofHit_134 : decode prog_1_method_20_code 134 = .ok (.ireturn, 1) := by decide +kernel
theorem dX4_ofHit_135 : decode prog_1_method_20_code 135 = .ok (.new 44, 3) := by decide +kernel
theorem dX4_ofHit_138 : decode prog_1_method_20_code 138 = .ok (.dup, 1) := by decide +kernel
theorem dX4_ofHit_139 : decode prog_1_method_20_code 139 = .ok (.ldc 239, 2) := by decide +kernel
theorem dX4_ofHit_141 : decode prog_1_method_20_code 141 = .ok (.invokespecial 48, 3) := by decide +kernel
theorem dX4_ofHit_144 : decode prog_1_method_20_code 144 = .ok (.athrow, 1) := by decide +kernel
theorem dX4_runsOver_0 : decode prog_1_method_35_code 0 = .ok (.aload_n 1, 1) := by decide +kernel
theorem dX4_runsOver_1 : decode prog_1_method_35_code 1 = .ok (.invokevirtual 156, 3) := by decide +kernel
theorem dX4_runsOver_4 : decode prog_1_method_35_code 4 = .ok (.aload_n 0, 1) := by decide +kernel
theorem dX4_runsOver_5 : decode prog_1_method_35_code 5 = .ok (.getfield 26, 3) := by decide +kernel
theorem dX4_runsOver_8 : decode prog_1_method_35_code 8 = .ok (.if_icmp .le 7, 3) := by decide +kernel
theorem dX4_runsOver_11 : decode prog_1_method_35_code 11 = .ok (.iconst 1, 1) := by decide +kernel
theorem dX4_runsOver_12 : decode prog_1_method_35_code 12 = .ok (.goto 4, 3) := by decide +kernel
theorem dX4_runsOver_15 : decode prog_1_method_35_code 15 = .ok (.iconst 0, 1) := by decide +kernel
theorem dX4_runsOver_16 : decode prog_1_method_35_code 16 = .ok (.ireturn, 1) := by decide +kernel
theorem dX4_spoils_0 : decode prog_1_method_37_code 0 = .ok (.aload_n 1, 1) := by decide +kernel
theorem dX4_spoils_1 : decode prog_1_method_37_code 1 = .ok (.getfield 241, 3) := by decide +kernel
theorem dX4_spoils_4 : decode prog_1_method_37_code 4 = .ok (.ifCond .lt 34, 3) := by decide +kernel
theorem dX4_spoils_7 : decode prog_1_method_37_code 7 = .ok (.aload_n 1, 1) := by decide +kernel
theorem dX4_spoils_8 : decode prog_1_method_37_code 8 = .ok (.getfield 241, 3) := by decide +kernel
theorem dX4_spoils_11 : decode prog_1_method_37_code 11 = .ok (.aload_n 0, 1) := by decide +kernel
theorem dX4_spoils_12 : decode prog_1_method_37_code 12 = .ok (.getfield 71, 3) := by decide +kernel
theorem dX4_spoils_15 : decode prog_1_method_37_code 15 = .ok (.if_icmp .ge 23, 3) := by decide +kernel
theorem dX4_spoils_18 : decode prog_1_method_37_code 18 = .ok (.aload_n 1, 1) := by decide +kernel
theorem dX4_spoils_19 : decode prog_1_method_37_code 19 = .ok (.getfield 108, 3) := by decide +kernel
theorem dX4_spoils_22 : decode prog_1_method_37_code 22 = .ok (.aload_n 0, 1) := by decide +kernel
theorem dX4_spoils_23 : decode prog_1_method_37_code 23 = .ok (.getfield 16, 3) := by decide +kernel
theorem dX4_spoils_26 : decode prog_1_method_37_code 26 = .ok (.aload_n 1, 1) := by decide +kernel
theorem dX4_spoils_27 : decode prog_1_method_37_code 27 = .ok (.getfield 241, 3) := by decide +kernel
theorem dX4_spoils_30 : decode prog_1_method_37_code 30 = .ok (.iaload, 1) := by decide +kernel
theorem dX4_spoils_31 : decode prog_1_method_37_code 31 = .ok (.if_icmp .ge 7, 3) := by decide +kernel
theorem dX4_spoils_34 : decode prog_1_method_37_code 34 = .ok (.iconst 1, 1) := by decide +kernel
theorem dX4_spoils_35 : decode prog_1_method_37_code 35 = .ok (.goto 4, 3) := by decide +kernel
theorem dX4_spoils_38 : decode prog_1_method_37_code 38 = .ok (.iconst 0, 1) := by decide +kernel
theorem dX4_spoils_39 : decode prog_1_method_37_code 39 = .ok (.ireturn, 1) := by decide +kernel
theorem dX4_countValid_0 : decode prog_1_method_41_code 0 = .ok (.iconst 0, 1) := by decide +kernel
theorem dX4_countValid_1 : decode prog_1_method_41_code 1 = .ok (.istore_n 2, 1) := by decide +kernel
theorem dX4_countValid_2 : decode prog_1_method_41_code 2 = .ok (.iconst 0, 1) := by decide +kernel
theorem dX4_countValid_3 : decode prog_1_method_41_code 3 = .ok (.istore_n 3, 1) := by decide +kernel
theorem dX4_countValid_4 : decode prog_1_method_41_code 4 = .ok (.iload_n 3, 1) := by decide +kernel
theorem dX4_countValid_5 : decode prog_1_method_41_code 5 = .ok (.aload_n 0, 1) := by decide +kernel
theorem dX4_countValid_6 : decode prog_1_method_41_code 6 = .ok (.getfield 23, 3) := by decide +kernel
theorem dX4_countValid_9 : decode prog_1_method_41_code 9 = .ok (.invokevirtual 51, 3) := by decide +kernel
theorem dX4_countValid_12 : decode prog_1_method_41_code 12 = .ok (.if_icmp .ge 42, 3) := by decide +kernel
theorem dX4_countValid_15 : decode prog_1_method_41_code 15 = .ok (.aload_n 0, 1) := by decide +kernel
theorem dX4_countValid_16 : decode prog_1_method_41_code 16 = .ok (.getfield 23, 3) := by decide +kernel
theorem dX4_countValid_19 : decode prog_1_method_41_code 19 = .ok (.iload_n 3, 1) := by decide +kernel
theorem dX4_countValid_20 : decode prog_1_method_41_code 20 = .ok (.invokevirtual 88, 3) := by decide +kernel
theorem dX4_countValid_23 : decode prog_1_method_41_code 23 = .ok (.checkcast 198, 3) := by decide +kernel
theorem dX4_countValid_26 : decode prog_1_method_41_code 26 = .ok (.astore 4, 2) := by decide +kernel
theorem dX4_countValid_28 : decode prog_1_method_41_code 28 = .ok (.aload 4, 2) := by decide +kernel
theorem dX4_countValid_30 : decode prog_1_method_41_code 30 = .ok (.getfield 288, 3) := by decide +kernel
theorem dX4_countValid_33 : decode prog_1_method_41_code 33 = .ok (.aload_n 1, 1) := by decide +kernel
theorem dX4_countValid_34 : decode prog_1_method_41_code 34 = .ok (.if_acmp .ne 14, 3) := by decide +kernel
theorem dX4_countValid_37 : decode prog_1_method_41_code 37 = .ok (.aload 4, 2) := by decide +kernel
theorem dX4_countValid_39 : decode prog_1_method_41_code 39 = .ok (.invokevirtual 296, 3) := by decide +kernel
theorem dX4_countValid_42 : decode prog_1_method_41_code 42 = .ok (.ifCond .eq 6, 3) := by decide +kernel
theorem dX4_countValid_45 : decode prog_1_method_41_code 45 = .ok (.iinc 2 1, 3) := by decide +kernel
theorem dX4_countValid_48 : decode prog_1_method_41_code 48 = .ok (.iinc 3 1, 3) := by decide +kernel
theorem dX4_countValid_51 : decode prog_1_method_41_code 51 = .ok (.goto (-47), 3) := by decide +kernel
theorem dX4_countValid_54 : decode prog_1_method_41_code 54 = .ok (.iload_n 2, 1) := by decide +kernel
theorem dX4_countValid_55 : decode prog_1_method_41_code 55 = .ok (.ireturn, 1) := by decide +kernel
theorem dX4_secondsOf_0 : decode prog_1_method_43_code 0 = .ok (.aload_n 0, 1) := by decide +kernel
theorem dX4_secondsOf_1 : decode prog_1_method_43_code 1 = .ok (.aload_n 1, 1) := by decide +kernel
theorem dX4_secondsOf_2 : decode prog_1_method_43_code 2 = .ok (.invokevirtual 253, 3) := by decide +kernel
theorem dX4_secondsOf_5 : decode prog_1_method_43_code 5 = .ok (.ifCond .ne 15, 3) := by decide +kernel
theorem dX4_secondsOf_8 : decode prog_1_method_43_code 8 = .ok (.aload_n 0, 1) := by decide +kernel
theorem dX4_secondsOf_9 : decode prog_1_method_43_code 9 = .ok (.aload_n 1, 1) := by decide +kernel
theorem dX4_secondsOf_10 : decode prog_1_method_43_code 10 = .ok (.invokevirtual 260, 3) := by decide +kernel
theorem dX4_secondsOf_13 : decode prog_1_method_43_code 13 = .ok (.ifCond .le 7, 3) := by decide +kernel
theorem dX4_secondsOf_16 : decode prog_1_method_43_code 16 = .ok (.iconst 1, 1) := by decide +kernel
theorem dX4_secondsOf_17 : decode prog_1_method_43_code 17 = .ok (.goto 4, 3) := by decide +kernel
theorem dX4_secondsOf_20 : decode prog_1_method_43_code 20 = .ok (.iconst 0, 1) := by decide +kernel
theorem dX4_secondsOf_21 : decode prog_1_method_43_code 21 = .ok (.istore_n 2, 1) := by decide +kernel
theorem dX4_secondsOf_22 : decode prog_1_method_43_code 22 = .ok (.iload_n 2, 1) := by decide +kernel
theorem dX4_secondsOf_23 : decode prog_1_method_43_code 23 = .ok (.ifCond .eq 13, 3) := by decide +kernel
theorem dX4_secondsOf_26 : decode prog_1_method_43_code 26 = .ok (.aload_n 1, 1) := by decide +kernel
theorem dX4_secondsOf_27 : decode prog_1_method_43_code 27 = .ok (.getfield 187, 3) := by decide +kernel
theorem dX4_secondsOf_30 : decode prog_1_method_43_code 30 = .ok (.bipush 24, 2) := by decide +kernel
theorem dX4_secondsOf_32 : decode prog_1_method_43_code 32 = .ok (.idiv, 1) := by decide +kernel
theorem dX4_secondsOf_33 : decode prog_1_method_43_code 33 = .ok (.goto 4, 3) := by decide +kernel
theorem dX4_secondsOf_36 : decode prog_1_method_43_code 36 = .ok (.iconst 0, 1) := by decide +kernel
theorem dX4_secondsOf_37 : decode prog_1_method_43_code 37 = .ok (.ireturn, 1) := by decide +kernel
theorem dX4_ofCue_0 : decode prog_1_method_21_code 0 = .ok (.aload_n 0, 1) := by decide +kernel
theorem dX4_ofCue_1 : decode prog_1_method_21_code 1 = .ok (.iload_n 1, 1) := by decide +kernel
theorem dX4_ofCue_2 : decode prog_1_method_21_code 2 = .ok (.invokevirtual 136, 3) := by decide +kernel
theorem dX4_ofCue_5 : decode prog_1_method_21_code 5 = .ok (.astore_n 3, 1) := by decide +kernel
theorem dX4_ofCue_6 : decode prog_1_method_21_code 6 = .ok (.iload_n 2, 1) := by decide +kernel
theorem dX4_ofCue_7 : decode prog_1_method_21_code 7 = .ok (.tableswitch 150 0 12 #[65, 70, 75, 80, 85, 90, 95, 100, 105, 110, 124, 138, 144], 65) := by decide +kernel
theorem dX4_ofCue_72 : decode prog_1_method_21_code 72 = .ok (.aload_n 3, 1) := by decide +kernel
theorem dX4_ofCue_73 : decode prog_1_method_21_code 73 = .ok (.getfield 108, 3) := by decide +kernel
theorem dX4_ofCue_76 : decode prog_1_method_21_code 76 = .ok (.ireturn, 1) := by decide +kernel
theorem dX4_ofCue_77 : decode prog_1_method_21_code 77 = .ok (.aload_n 3, 1) := by decide +kernel
theorem dX4_ofCue_78 : decode prog_1_method_21_code 78 = .ok (.getfield 241, 3) := by decide +kernel
theorem dX4_ofCue_81 : decode prog_1_method_21_code 81 = .ok (.ireturn, 1) := by decide +kernel
theorem dX4_ofCue_82 : decode prog_1_method_21_code 82 = .ok (.aload_n 3, 1) := by decide +kernel
theorem dX4_ofCue_83 : decode prog_1_method_21_code 83 = .ok (.getfield 182, 3) := by decide +kernel
theorem dX4_ofCue_86 : decode prog_1_method_21_code 86 = .ok (.ireturn, 1) := by decide +kernel
theorem dX4_ofCue_87 : decode prog_1_method_21_code 87 = .ok (.aload_n 3, 1) := by decide +kernel
theorem dX4_ofCue_88 : decode prog_1_method_21_code 88 = .ok (.getfield 244, 3) := by decide +kernel
theorem dX4_ofCue_91 : decode prog_1_method_21_code 91 = .ok (.ireturn, 1) := by decide +kernel
theorem dX4_ofCue_92 : decode prog_1_method_21_code 92 = .ok (.aload_n 3, 1) := by decide +kernel
theorem dX4_ofCue_93 : decode prog_1_method_21_code 93 = .ok (.getfield 247, 3) := by decide +kernel
theorem dX4_ofCue_96 : decode prog_1_method_21_code 96 = .ok (.ireturn, 1) := by decide +kernel
theorem dX4_ofCue_97 : decode prog_1_method_21_code 97 = .ok (.aload_n 3, 1) := by decide +kernel
theorem dX4_ofCue_98 : decode prog_1_method_21_code 98 = .ok (.getfield 105, 3) := by decide +kernel
theorem dX4_ofCue_101 : decode prog_1_method_21_code 101 = .ok (.ireturn, 1) := by decide +kernel
theorem dX4_ofCue_102 : decode prog_1_method_21_code 102 = .ok (.aload_n 3, 1) := by decide +kernel
theorem dX4_ofCue_103 : decode prog_1_method_21_code 103 = .ok (.getfield 143, 3) := by decide +kernel
theorem dX4_ofCue_106 : decode prog_1_method_21_code 106 = .ok (.ireturn, 1) := by decide +kernel
theorem dX4_ofCue_107 : decode prog_1_method_21_code 107 = .ok (.aload_n 3, 1) := by decide +kernel
theorem dX4_ofCue_108 : decode prog_1_method_21_code 108 = .ok (.getfield 250, 3) := by decide +kernel
theorem dX4_ofCue_111 : decode prog_1_method_21_code 111 = .ok (.ireturn, 1) := by decide +kernel
theorem dX4_ofCue_112 : decode prog_1_method_21_code 112 = .ok (.aload_n 3, 1) := by decide +kernel
theorem dX4_ofCue_113 : decode prog_1_method_21_code 113 = .ok (.invokevirtual 156, 3) := by decide +kernel
theorem dX4_ofCue_116 : decode prog_1_method_21_code 116 = .ok (.ireturn, 1) := by decide +kernel
theorem dX4_ofCue_117 : decode prog_1_method_21_code 117 = .ok (.aload_n 0, 1) := by decide +kernel
theorem dX4_ofCue_118 : decode prog_1_method_21_code 118 = .ok (.aload_n 3, 1) := by decide +kernel
theorem dX4_ofCue_119 : decode prog_1_method_21_code 119 = .ok (.invokevirtual 253, 3) := by decide +kernel
theorem dX4_ofCue_122 : decode prog_1_method_21_code 122 = .ok (.ifCond .eq 7, 3) := by decide +kernel
theorem dX4_ofCue_125 : decode prog_1_method_21_code 125 = .ok (.iconst 1, 1) := by decide +kernel
theorem dX4_ofCue_126 : decode prog_1_method_21_code 126 = .ok (.goto 4, 3) := by decide +kernel
theorem dX4_ofCue_129 : decode prog_1_method_21_code 129 = .ok (.iconst 0, 1) := by decide +kernel
theorem dX4_ofCue_130 : decode prog_1_method_21_code 130 = .ok (.ireturn, 1) := by decide +kernel
theorem dX4_ofCue_131 : decode prog_1_method_21_code 131 = .ok (.aload_n 0, 1) := by decide +kernel
theorem dX4_ofCue_132 : decode prog_1_method_21_code 132 = .ok (.aload_n 3, 1) := by decide +kernel
theorem dX4_ofCue_133 : decode prog_1_method_21_code 133 = .ok (.invokevirtual 257, 3) := by decide +kernel
theorem dX4_ofCue_136 : decode prog_1_method_21_code 136 = .ok (.ifCond .eq 7, 3) := by decide +kernel
theorem dX4_ofCue_139 : decode prog_1_method_21_code 139 = .ok (.iconst 1, 1) := by decide +kernel
theorem dX4_ofCue_140 : decode prog_1_method_21_code 140 = .ok (.goto 4, 3) := by decide +kernel
theorem dX4_ofCue_143 : decode prog_1_method_21_code 143 = .ok (.iconst 0, 1) := by decide +kernel
theorem dX4_ofCue_144 : decode prog_1_method_21_code 144 = .ok (.ireturn, 1) := by decide +kernel
theorem dX4_ofCue_145 : decode prog_1_method_21_code 145 = .ok (.aload_n 0, 1) := by decide +kernel
theorem dX4_ofCue_146 : decode prog_1_method_21_code 146 = .ok (.aload_n 3, 1) := by decide +kernel
theorem dX4_ofCue_147 : decode prog_1_method_21_code 147 = .ok (.invokevirtual 260, 3) := by decide +kernel
theorem dX4_ofCue_150 : decode prog_1_method_21_code 150 = .ok (.ireturn, 1) := by decide +kernel
theorem dX4_ofCue_151 : decode prog_1_method_21_code 151 = .ok (.aload_n 0, 1) := by decide +kernel
theorem dX4_ofCue_152 : decode prog_1_method_21_code 152 = .ok (.aload_n 3, 1) := by decide +kernel
theorem dX4_ofCue_153 : decode prog_1_method_21_code 153 = .ok (.invokevirtual 264, 3) := by decide +kernel
theorem dX4_ofCue_156 : decode prog_1_method_21_code 156 = .ok (.ireturn, 1) := by decide +kernel
theorem dX4_ofCue_157 : decode prog_1_method_21_code 157 = .ok (.new 44, 3) := by decide +kernel
theorem dX4_ofCue_160 : decode prog_1_method_21_code 160 = .ok (.dup, 1) := by decide +kernel
theorem dX4_ofCue_161 : decode prog_1_method_21_code 161 = .ok (.ldc_w 267, 3) := by decide +kernel
theorem dX4_ofCue_164 : decode prog_1_method_21_code 164 = .ok (.invokespecial 48, 3) := by decide +kernel
theorem dX4_ofCue_167 : decode prog_1_method_21_code 167 = .ok (.athrow, 1) := by decide +kernel
theorem dX4_ofBar_0 : decode prog_1_method_22_code 0 = .ok (.aload_n 0, 1) := by decide +kernel
theorem dX4_ofBar_1 : decode prog_1_method_22_code 1 = .ok (.iload_n 1, 1) := by decide +kernel
theorem dX4_ofBar_2 : decode prog_1_method_22_code 2 = .ok (.invokevirtual 136, 3) := by decide +kernel
theorem dX4_ofBar_5 : decode prog_1_method_22_code 5 = .ok (.astore 4, 2) := by decide +kernel
theorem dX4_ofBar_7 : decode prog_1_method_22_code 7 = .ok (.aload 4, 2) := by decide +kernel
theorem dX4_ofBar_9 : decode prog_1_method_22_code 9 = .ok (.iload_n 2, 1) := by decide +kernel
theorem dX4_ofBar_10 : decode prog_1_method_22_code 10 = .ok (.invokestatic 152, 3) := by decide +kernel
theorem dX4_ofBar_13 : decode prog_1_method_22_code 13 = .ok (.iload_n 3, 1) := by decide +kernel
theorem dX4_ofBar_14 : decode prog_1_method_22_code 14 = .ok (.tableswitch 65 0 3 #[30, 38, 46, 53], 30) := by decide +kernel
theorem dX4_ofBar_44 : decode prog_1_method_22_code 44 = .ok (.aload 4, 2) := by decide +kernel
theorem dX4_ofBar_46 : decode prog_1_method_22_code 46 = .ok (.getfield 269, 3) := by decide +kernel
theorem dX4_ofBar_49 : decode prog_1_method_22_code 49 = .ok (.iload_n 2, 1) := by decide +kernel
theorem dX4_ofBar_50 : decode prog_1_method_22_code 50 = .ok (.iaload, 1) := by decide +kernel
theorem dX4_ofBar_51 : decode prog_1_method_22_code 51 = .ok (.ireturn, 1) := by decide +kernel
theorem dX4_ofBar_52 : decode prog_1_method_22_code 52 = .ok (.aload 4, 2) := by decide +kernel
theorem dX4_ofBar_54 : decode prog_1_method_22_code 54 = .ok (.getfield 272, 3) := by decide +kernel
theorem dX4_ofBar_57 : decode prog_1_method_22_code 57 = .ok (.iload_n 2, 1) := by decide +kernel
theorem dX4_ofBar_58 : decode prog_1_method_22_code 58 = .ok (.iaload, 1) := by decide +kernel
theorem dX4_ofBar_59 : decode prog_1_method_22_code 59 = .ok (.ireturn, 1) := by decide +kernel
theorem dX4_ofBar_60 : decode prog_1_method_22_code 60 = .ok (.aload 4, 2) := by decide +kernel
theorem dX4_ofBar_62 : decode prog_1_method_22_code 62 = .ok (.iload_n 2, 1) := by decide +kernel
theorem dX4_ofBar_63 : decode prog_1_method_22_code 63 = .ok (.invokevirtual 275, 3) := by decide +kernel
theorem dX4_ofBar_66 : decode prog_1_method_22_code 66 = .ok (.ireturn, 1) := by decide +kernel
theorem dX4_ofBar_67 : decode prog_1_method_22_code 67 = .ok (.aload 4, 2) := by decide +kernel
theorem dX4_ofBar_69 : decode prog_1_method_22_code 69 = .ok (.aload 4, 2) := by decide +kernel
theorem dX4_ofBar_71 : decode prog_1_method_22_code 71 = .ok (.iload_n 2, 1) := by decide +kernel
theorem dX4_ofBar_72 : decode prog_1_method_22_code 72 = .ok (.invokevirtual 275, 3) := by decide +kernel
theorem dX4_ofBar_75 : decode prog_1_method_22_code 75 = .ok (.invokevirtual 279, 3) := by decide +kernel
theorem dX4_ofBar_78 : decode prog_1_method_22_code 78 = .ok (.ireturn, 1) := by decide +kernel
theorem dX4_ofBar_79 : decode prog_1_method_22_code 79 = .ok (.new 44, 3) := by decide +kernel
theorem dX4_ofBar_82 : decode prog_1_method_22_code 82 = .ok (.dup, 1) := by decide +kernel
theorem dX4_ofBar_83 : decode prog_1_method_22_code 83 = .ok (.ldc_w 282, 3) := by decide +kernel
theorem dX4_ofBar_86 : decode prog_1_method_22_code 86 = .ok (.invokespecial 48, 3) := by decide +kernel
theorem dX4_ofBar_89 : decode prog_1_method_22_code 89 = .ok (.athrow, 1) := by decide +kernel
theorem dX4_beat_0 : decode prog_1_method_23_code 0 = .ok (.aload_n 0, 1) := by decide +kernel
theorem dX4_beat_1 : decode prog_1_method_23_code 1 = .ok (.iload_n 1, 1) := by decide +kernel
theorem dX4_beat_2 : decode prog_1_method_23_code 2 = .ok (.invokevirtual 136, 3) := by decide +kernel
theorem dX4_beat_5 : decode prog_1_method_23_code 5 = .ok (.astore_n 3, 1) := by decide +kernel
theorem dX4_beat_6 : decode prog_1_method_23_code 6 = .ok (.iload_n 2, 1) := by decide +kernel
theorem dX4_beat_7 : decode prog_1_method_23_code 7 = .ok (.ifCond .lt 11, 3) := by decide +kernel
theorem dX4_beat_10 : decode prog_1_method_23_code 10 = .ok (.iload_n 2, 1) := by decide +kernel
theorem dX4_beat_11 : decode prog_1_method_23_code 11 = .ok (.aload_n 3, 1) := by decide +kernel
theorem dX4_beat_12 : decode prog_1_method_23_code 12 = .ok (.getfield 250, 3) := by decide +kernel
theorem dX4_beat_15 : decode prog_1_method_23_code 15 = .ok (.if_icmp .lt 14, 3) := by decide +kernel
theorem dX4_beat_18 : decode prog_1_method_23_code 18 = .ok (.new 119, 3) := by decide +kernel
theorem dX4_beat_21 : decode prog_1_method_23_code 21 = .ok (.dup, 1) := by decide +kernel
theorem dX4_beat_22 : decode prog_1_method_23_code 22 = .ok (.ldc_w 284, 3) := by decide +kernel
theorem dX4_beat_25 : decode prog_1_method_23_code 25 = .ok (.invokespecial 123, 3) := by decide +kernel
theorem dX4_beat_28 : decode prog_1_method_23_code 28 = .ok (.athrow, 1) := by decide +kernel
theorem dX4_beat_29 : decode prog_1_method_23_code 29 = .ok (.aload_n 3, 1) := by decide +kernel
theorem dX4_beat_30 : decode prog_1_method_23_code 30 = .ok (.iload_n 2, 1) := by decide +kernel
theorem dX4_beat_31 : decode prog_1_method_23_code 31 = .ok (.invokevirtual 279, 3) := by decide +kernel
theorem dX4_beat_34 : decode prog_1_method_23_code 34 = .ok (.ireturn, 1) := by decide +kernel
theorem dX4_ofTake_0 : decode prog_1_method_24_code 0 = .ok (.iload_n 1, 1) := by decide +kernel
theorem dX4_ofTake_1 : decode prog_1_method_24_code 1 = .ok (.ifCond .lt 14, 3) := by decide +kernel
theorem dX4_ofTake_4 : decode prog_1_method_24_code 4 = .ok (.iload_n 1, 1) := by decide +kernel
theorem dX4_ofTake_5 : decode prog_1_method_24_code 5 = .ok (.aload_n 0, 1) := by decide +kernel
theorem dX4_ofTake_6 : decode prog_1_method_24_code 6 = .ok (.getfield 23, 3) := by decide +kernel
theorem dX4_ofTake_9 : decode prog_1_method_24_code 9 = .ok (.invokevirtual 51, 3) := by decide +kernel
theorem dX4_ofTake_12 : decode prog_1_method_24_code 12 = .ok (.if_icmp .lt 14, 3) := by decide +kernel
theorem dX4_ofTake_15 : decode prog_1_method_24_code 15 = .ok (.new 119, 3) := by decide +kernel
theorem dX4_ofTake_18 : decode prog_1_method_24_code 18 = .ok (.dup, 1) := by decide +kernel
theorem dX4_ofTake_19 : decode prog_1_method_24_code 19 = .ok (.ldc_w 286, 3) := by decide +kernel
theorem dX4_ofTake_22 : decode prog_1_method_24_code 22 = .ok (.invokespecial 123, 3) := by decide +kernel
theorem dX4_ofTake_25 : decode prog_1_method_24_code 25 = .ok (.athrow, 1) := by decide +kernel
theorem dX4_ofTake_26 : decode prog_1_method_24_code 26 = .ok (.aload_n 0, 1) := by decide +kernel
theorem dX4_ofTake_27 : decode prog_1_method_24_code 27 = .ok (.getfield 23, 3) := by decide +kernel
theorem dX4_ofTake_30 : decode prog_1_method_24_code 30 = .ok (.iload_n 1, 1) := by decide +kernel
theorem dX4_ofTake_31 : decode prog_1_method_24_code 31 = .ok (.invokevirtual 88, 3) := by decide +kernel
theorem dX4_ofTake_34 : decode prog_1_method_24_code 34 = .ok (.checkcast 198, 3) := by decide +kernel
theorem dX4_ofTake_37 : decode prog_1_method_24_code 37 = .ok (.astore_n 3, 1) := by decide +kernel
theorem dX4_ofTake_38 : decode prog_1_method_24_code 38 = .ok (.iload_n 2, 1) := by decide +kernel
theorem dX4_ofTake_39 : decode prog_1_method_24_code 39 = .ok (.tableswitch 69 0 4 #[33, 41, 46, 51, 64], 33) := by decide +kernel
theorem dX4_ofTake_72 : decode prog_1_method_24_code 72 = .ok (.aload_n 3, 1) := by decide +kernel
theorem dX4_ofTake_73 : decode prog_1_method_24_code 73 = .ok (.getfield 288, 3) := by decide +kernel
theorem dX4_ofTake_76 : decode prog_1_method_24_code 76 = .ok (.getfield 133, 3) := by decide +kernel
theorem dX4_ofTake_79 : decode prog_1_method_24_code 79 = .ok (.ireturn, 1) := by decide +kernel
theorem dX4_ofTake_80 : decode prog_1_method_24_code 80 = .ok (.aload_n 3, 1) := by decide +kernel
theorem dX4_ofTake_81 : decode prog_1_method_24_code 81 = .ok (.getfield 292, 3) := by decide +kernel
theorem dX4_ofTake_84 : decode prog_1_method_24_code 84 = .ok (.ireturn, 1) := by decide +kernel
theorem dX4_ofTake_85 : decode prog_1_method_24_code 85 = .ok (.aload_n 3, 1) := by decide +kernel
theorem dX4_ofTake_86 : decode prog_1_method_24_code 86 = .ok (.getfield 293, 3) := by decide +kernel
theorem dX4_ofTake_89 : decode prog_1_method_24_code 89 = .ok (.ireturn, 1) := by decide +kernel
theorem dX4_ofTake_90 : decode prog_1_method_24_code 90 = .ok (.aload_n 3, 1) := by decide +kernel
theorem dX4_ofTake_91 : decode prog_1_method_24_code 91 = .ok (.invokevirtual 296, 3) := by decide +kernel
theorem dX4_ofTake_94 : decode prog_1_method_24_code 94 = .ok (.ifCond .eq 7, 3) := by decide +kernel
theorem dX4_ofTake_97 : decode prog_1_method_24_code 97 = .ok (.iconst 1, 1) := by decide +kernel
theorem dX4_ofTake_98 : decode prog_1_method_24_code 98 = .ok (.goto 4, 3) := by decide +kernel
theorem dX4_ofTake_101 : decode prog_1_method_24_code 101 = .ok (.iconst 0, 1) := by decide +kernel
theorem dX4_ofTake_102 : decode prog_1_method_24_code 102 = .ok (.ireturn, 1) := by decide +kernel
theorem dX4_ofTake_103 : decode prog_1_method_24_code 103 = .ok (.aload_n 3, 1) := by decide +kernel
theorem dX4_ofTake_104 : decode prog_1_method_24_code 104 = .ok (.invokevirtual 300, 3) := by decide +kernel
theorem dX4_ofTake_107 : decode prog_1_method_24_code 107 = .ok (.ireturn, 1) := by decide +kernel
theorem dX4_ofTake_108 : decode prog_1_method_24_code 108 = .ok (.new 44, 3) := by decide +kernel
theorem dX4_ofTake_111 : decode prog_1_method_24_code 111 = .ok (.dup, 1) := by decide +kernel
theorem dX4_ofTake_112 : decode prog_1_method_24_code 112 = .ok (.ldc_w 303, 3) := by decide +kernel
theorem dX4_ofTake_115 : decode prog_1_method_24_code 115 = .ok (.invokespecial 48, 3) := by decide +kernel
theorem dX4_ofTake_118 : decode prog_1_method_24_code 118 = .ok (.athrow, 1) := by decide +kernel
theorem dX4_payOf_0 : decode prog_1_method_44_code 0 = .ok (.aload_n 1, 1) := by decide +kernel
theorem dX4_payOf_1 : decode prog_1_method_44_code 1 = .ok (.getfield 247, 3) := by decide +kernel
theorem dX4_payOf_4 : decode prog_1_method_44_code 4 = .ok (.ifCond .ne 7, 3) := by decide +kernel
theorem dX4_payOf_7 : decode prog_1_method_44_code 7 = .ok (.iconst 1, 1) := by decide +kernel
theorem dX4_payOf_8 : decode prog_1_method_44_code 8 = .ok (.goto 16, 3) := by decide +kernel
theorem dX4_payOf_11 : decode prog_1_method_44_code 11 = .ok (.aload_n 1, 1) := by decide +kernel
theorem dX4_payOf_12 : decode prog_1_method_44_code 12 = .ok (.getfield 247, 3) := by decide +kernel
theorem dX4_payOf_15 : decode prog_1_method_44_code 15 = .ok (.iconst 1, 1) := by decide +kernel
theorem dX4_payOf_16 : decode prog_1_method_44_code 16 = .ok (.if_icmp .ne 7, 3) := by decide +kernel
theorem dX4_payOf_19 : decode prog_1_method_44_code 19 = .ok (.iconst 3, 1) := by decide +kernel
theorem dX4_payOf_20 : decode prog_1_method_44_code 20 = .ok (.goto 4, 3) := by decide +kernel
theorem dX4_payOf_23 : decode prog_1_method_44_code 23 = .ok (.iconst 5, 1) := by decide +kernel
theorem dX4_payOf_24 : decode prog_1_method_44_code 24 = .ok (.istore_n 2, 1) := by decide +kernel
theorem dX4_payOf_25 : decode prog_1_method_44_code 25 = .ok (.aload_n 0, 1) := by decide +kernel
theorem dX4_payOf_26 : decode prog_1_method_44_code 26 = .ok (.aload_n 1, 1) := by decide +kernel
theorem dX4_payOf_27 : decode prog_1_method_44_code 27 = .ok (.invokevirtual 264, 3) := by decide +kernel
theorem dX4_payOf_30 : decode prog_1_method_44_code 30 = .ok (.iload_n 2, 1) := by decide +kernel
theorem dX4_payOf_31 : decode prog_1_method_44_code 31 = .ok (.imul, 1) := by decide +kernel
theorem dX4_payOf_32 : decode prog_1_method_44_code 32 = .ok (.ireturn, 1) := by decide +kernel
theorem dX4_sheet_0 : decode prog_1_method_25_code 0 = .ok (.iload_n 1, 1) := by decide +kernel
theorem dX4_sheet_1 : decode prog_1_method_25_code 1 = .ok (.ifCond .lt 8, 3) := by decide +kernel
theorem dX4_sheet_4 : decode prog_1_method_25_code 4 = .ok (.iload_n 1, 1) := by decide +kernel
theorem dX4_sheet_5 : decode prog_1_method_25_code 5 = .ok (.iconst 4, 1) := by decide +kernel
theorem dX4_sheet_6 : decode prog_1_method_25_code 6 = .ok (.if_icmp .lt 14, 3) := by decide +kernel
theorem dX4_sheet_9 : decode prog_1_method_25_code 9 = .ok (.new 119, 3) := by decide +kernel
theorem dX4_sheet_12 : decode prog_1_method_25_code 12 = .ok (.dup, 1) := by decide +kernel
theorem dX4_sheet_13 : decode prog_1_method_25_code 13 = .ok (.ldc_w 305, 3) := by decide +kernel
theorem dX4_sheet_16 : decode prog_1_method_25_code 16 = .ok (.invokespecial 123, 3) := by decide +kernel
theorem dX4_sheet_19 : decode prog_1_method_25_code 19 = .ok (.athrow, 1) := by decide +kernel
theorem dX4_sheet_20 : decode prog_1_method_25_code 20 = .ok (.iconst 0, 1) := by decide +kernel
theorem dX4_sheet_21 : decode prog_1_method_25_code 21 = .ok (.istore_n 2, 1) := by decide +kernel
theorem dX4_sheet_22 : decode prog_1_method_25_code 22 = .ok (.iconst 0, 1) := by decide +kernel
theorem dX4_sheet_23 : decode prog_1_method_25_code 23 = .ok (.istore_n 3, 1) := by decide +kernel
theorem dX4_sheet_24 : decode prog_1_method_25_code 24 = .ok (.iload_n 3, 1) := by decide +kernel
theorem dX4_sheet_25 : decode prog_1_method_25_code 25 = .ok (.aload_n 0, 1) := by decide +kernel
theorem dX4_sheet_26 : decode prog_1_method_25_code 26 = .ok (.getfield 20, 3) := by decide +kernel
theorem dX4_sheet_29 : decode prog_1_method_25_code 29 = .ok (.invokevirtual 51, 3) := by decide +kernel
theorem dX4_sheet_32 : decode prog_1_method_25_code 32 = .ok (.if_icmp .ge 40, 3) := by decide +kernel
theorem dX4_sheet_35 : decode prog_1_method_25_code 35 = .ok (.aload_n 0, 1) := by decide +kernel
theorem dX4_sheet_36 : decode prog_1_method_25_code 36 = .ok (.getfield 20, 3) := by decide +kernel
theorem dX4_sheet_39 : decode prog_1_method_25_code 39 = .ok (.iload_n 3, 1) := by decide +kernel
theorem dX4_sheet_40 : decode prog_1_method_25_code 40 = .ok (.invokevirtual 88, 3) := by decide +kernel
theorem dX4_sheet_43 : decode prog_1_method_25_code 43 = .ok (.checkcast 99, 3) := by decide +kernel
theorem dX4_sheet_46 : decode prog_1_method_25_code 46 = .ok (.astore 4, 2) := by decide +kernel
theorem dX4_sheet_48 : decode prog_1_method_25_code 48 = .ok (.aload 4, 2) := by decide +kernel
theorem dX4_sheet_50 : decode prog_1_method_25_code 50 = .ok (.getfield 244, 3) := by decide +kernel
theorem dX4_sheet_53 : decode prog_1_method_25_code 53 = .ok (.iload_n 1, 1) := by decide +kernel
theorem dX4_sheet_54 : decode prog_1_method_25_code 54 = .ok (.if_icmp .ne 12, 3) := by decide +kernel
theorem dX4_sheet_57 : decode prog_1_method_25_code 57 = .ok (.iload_n 2, 1) := by decide +kernel
theorem dX4_sheet_58 : decode prog_1_method_25_code 58 = .ok (.aload_n 0, 1) := by decide +kernel
theorem dX4_sheet_59 : decode prog_1_method_25_code 59 = .ok (.aload 4, 2) := by decide +kernel
theorem dX4_sheet_61 : decode prog_1_method_25_code 61 = .ok (.invokevirtual 307, 3) := by decide +kernel
theorem dX4_sheet_64 : decode prog_1_method_25_code 64 = .ok (.iadd, 1) := by decide +kernel
theorem dX4_sheet_65 : decode prog_1_method_25_code 65 = .ok (.istore_n 2, 1) := by decide +kernel
theorem dX4_sheet_66 : decode prog_1_method_25_code 66 = .ok (.iinc 3 1, 3) := by decide +kernel
theorem dX4_sheet_69 : decode prog_1_method_25_code 69 = .ok (.goto (-45), 3) := by decide +kernel
theorem dX4_sheet_72 : decode prog_1_method_25_code 72 = .ok (.iload_n 2, 1) := by decide +kernel
theorem dX4_sheet_73 : decode prog_1_method_25_code 73 = .ok (.ireturn, 1) := by decide +kernel
theorem dX4_countGone_0 : decode prog_1_method_34_code 0 = .ok (.iconst 0, 1) := by decide +kernel
theorem dX4_countGone_1 : decode prog_1_method_34_code 1 = .ok (.istore_n 1, 1) := by decide +kernel
theorem dX4_countGone_2 : decode prog_1_method_34_code 2 = .ok (.iconst 0, 1) := by decide +kernel
theorem dX4_countGone_3 : decode prog_1_method_34_code 3 = .ok (.istore_n 2, 1) := by decide +kernel
theorem dX4_countGone_4 : decode prog_1_method_34_code 4 = .ok (.iload_n 2, 1) := by decide +kernel
theorem dX4_countGone_5 : decode prog_1_method_34_code 5 = .ok (.aload_n 0, 1) := by decide +kernel
theorem dX4_countGone_6 : decode prog_1_method_34_code 6 = .ok (.getfield 12, 3) := by decide +kernel
theorem dX4_countGone_9 : decode prog_1_method_34_code 9 = .ok (.invokevirtual 51, 3) := by decide +kernel
theorem dX4_countGone_12 : decode prog_1_method_34_code 12 = .ok (.if_icmp .ge 29, 3) := by decide +kernel
theorem dX4_countGone_15 : decode prog_1_method_34_code 15 = .ok (.aload_n 0, 1) := by decide +kernel
theorem dX4_countGone_16 : decode prog_1_method_34_code 16 = .ok (.getfield 12, 3) := by decide +kernel
theorem dX4_countGone_19 : decode prog_1_method_34_code 19 = .ok (.iload_n 2, 1) := by decide +kernel
theorem dX4_countGone_20 : decode prog_1_method_34_code 20 = .ok (.invokevirtual 88, 3) := by decide +kernel
theorem dX4_countGone_23 : decode prog_1_method_34_code 23 = .ok (.checkcast 60, 3) := by decide +kernel
theorem dX4_countGone_26 : decode prog_1_method_34_code 26 = .ok (.getfield 221, 3) := by decide +kernel
theorem dX4_countGone_29 : decode prog_1_method_34_code 29 = .ok (.ifCond .eq 6, 3) := by decide +kernel
theorem dX4_countGone_32 : decode prog_1_method_34_code 32 = .ok (.iinc 1 1, 3) := by decide +kernel
theorem dX4_countGone_35 : decode prog_1_method_34_code 35 = .ok (.iinc 2 1, 3) := by decide +kernel
theorem dX4_countGone_38 : decode prog_1_method_34_code 38 = .ok (.goto (-34), 3) := by decide +kernel
theorem dX4_countGone_41 : decode prog_1_method_34_code 41 = .ok (.iload_n 1, 1) := by decide +kernel
theorem dX4_countGone_42 : decode prog_1_method_34_code 42 = .ok (.ireturn, 1) := by decide +kernel
theorem dX4_countRunningOver_0 : decode prog_1_method_36_code 0 = .ok (.iconst 0, 1) := by decide +kernel
theorem dX4_countRunningOver_1 : decode prog_1_method_36_code 1 = .ok (.istore_n 1, 1) := by decide +kernel
theorem dX4_countRunningOver_2 : decode prog_1_method_36_code 2 = .ok (.iconst 0, 1) := by decide +kernel
theorem dX4_countRunningOver_3 : decode prog_1_method_36_code 3 = .ok (.istore_n 2, 1) := by decide +kernel
theorem dX4_countRunningOver_4 : decode prog_1_method_36_code 4 = .ok (.iload_n 2, 1) := by decide +kernel
theorem dX4_countRunningOver_5 : decode prog_1_method_36_code 5 = .ok (.aload_n 0, 1) := by decide +kernel
theorem dX4_countRunningOver_6 : decode prog_1_method_36_code 6 = .ok (.getfield 20, 3) := by decide +kernel
theorem dX4_countRunningOver_9 : decode prog_1_method_36_code 9 = .ok (.invokevirtual 51, 3) := by decide +kernel
theorem dX4_countRunningOver_12 : decode prog_1_method_36_code 12 = .ok (.if_icmp .ge 30, 3) := by decide +kernel
theorem dX4_countRunningOver_15 : decode prog_1_method_36_code 15 = .ok (.aload_n 0, 1) := by decide +kernel
theorem dX4_countRunningOver_16 : decode prog_1_method_36_code 16 = .ok (.aload_n 0, 1) := by decide +kernel
theorem dX4_countRunningOver_17 : decode prog_1_method_36_code 17 = .ok (.getfield 20, 3) := by decide +kernel
theorem dX4_countRunningOver_20 : decode prog_1_method_36_code 20 = .ok (.iload_n 2, 1) := by decide +kernel
theorem dX4_countRunningOver_21 : decode prog_1_method_36_code 21 = .ok (.invokevirtual 88, 3) := by decide +kernel
theorem dX4_countRunningOver_24 : decode prog_1_method_36_code 24 = .ok (.checkcast 99, 3) := by decide +kernel
theorem dX4_countRunningOver_27 : decode prog_1_method_36_code 27 = .ok (.invokevirtual 253, 3) := by decide +kernel
theorem dX4_countRunningOver_30 : decode prog_1_method_36_code 30 = .ok (.ifCond .eq 6, 3) := by decide +kernel
theorem dX4_countRunningOver_33 : decode prog_1_method_36_code 33 = .ok (.iinc 1 1, 3) := by decide +kernel
theorem dX4_countRunningOver_36 : decode prog_1_method_36_code 36 = .ok (.iinc 2 1, 3) := by decide +kernel
theorem dX4_countRunningOver_39 : decode prog_1_method_36_code 39 = .ok (.goto (-35), 3) := by decide +kernel
theorem dX4_countRunningOver_42 : decode prog_1_method_36_code 42 = .ok (.iload_n 1, 1) := by decide +kernel
theorem dX4_countRunningOver_43 : decode prog_1_method_36_code 43 = .ok (.ireturn, 1) := by decide +kernel
theorem dX4_countSpoiling_0 : decode prog_1_method_38_code 0 = .ok (.iconst 0, 1) := by decide +kernel
theorem dX4_countSpoiling_1 : decode prog_1_method_38_code 1 = .ok (.istore_n 1, 1) := by decide +kernel
theorem dX4_countSpoiling_2 : decode prog_1_method_38_code 2 = .ok (.iconst 0, 1) := by decide +kernel
theorem dX4_countSpoiling_3 : decode prog_1_method_38_code 3 = .ok (.istore_n 2, 1) := by decide +kernel
theorem dX4_countSpoiling_4 : decode prog_1_method_38_code 4 = .ok (.iload_n 2, 1) := by decide +kernel
theorem dX4_countSpoiling_5 : decode prog_1_method_38_code 5 = .ok (.aload_n 0, 1) := by decide +kernel
theorem dX4_countSpoiling_6 : decode prog_1_method_38_code 6 = .ok (.getfield 20, 3) := by decide +kernel
theorem dX4_countSpoiling_9 : decode prog_1_method_38_code 9 = .ok (.invokevirtual 51, 3) := by decide +kernel
theorem dX4_countSpoiling_12 : decode prog_1_method_38_code 12 = .ok (.if_icmp .ge 30, 3) := by decide +kernel
theorem dX4_countSpoiling_15 : decode prog_1_method_38_code 15 = .ok (.aload_n 0, 1) := by decide +kernel
theorem dX4_countSpoiling_16 : decode prog_1_method_38_code 16 = .ok (.aload_n 0, 1) := by decide +kernel
theorem dX4_countSpoiling_17 : decode prog_1_method_38_code 17 = .ok (.getfield 20, 3) := by decide +kernel
theorem dX4_countSpoiling_20 : decode prog_1_method_38_code 20 = .ok (.iload_n 2, 1) := by decide +kernel
theorem dX4_countSpoiling_21 : decode prog_1_method_38_code 21 = .ok (.invokevirtual 88, 3) := by decide +kernel
theorem dX4_countSpoiling_24 : decode prog_1_method_38_code 24 = .ok (.checkcast 99, 3) := by decide +kernel
theorem dX4_countSpoiling_27 : decode prog_1_method_38_code 27 = .ok (.invokevirtual 257, 3) := by decide +kernel
theorem dX4_countSpoiling_30 : decode prog_1_method_38_code 30 = .ok (.ifCond .eq 6, 3) := by decide +kernel
theorem dX4_countSpoiling_33 : decode prog_1_method_38_code 33 = .ok (.iinc 1 1, 3) := by decide +kernel
theorem dX4_countSpoiling_36 : decode prog_1_method_38_code 36 = .ok (.iinc 2 1, 3) := by decide +kernel
theorem dX4_countSpoiling_39 : decode prog_1_method_38_code 39 = .ok (.goto (-35), 3) := by decide +kernel
theorem dX4_countSpoiling_42 : decode prog_1_method_38_code 42 = .ok (.iload_n 1, 1) := by decide +kernel
theorem dX4_countSpoiling_43 : decode prog_1_method_38_code 43 = .ok (.ireturn, 1) := by decide +kernel
theorem dX4_clash_0 : decode prog_1_method_40_code 0 = .ok (.aload_n 0, 1) := by decide +kernel
theorem dX4_clash_1 : decode prog_1_method_40_code 1 = .ok (.getfield 143, 3) := by decide +kernel
theorem dX4_clash_4 : decode prog_1_method_40_code 4 = .ok (.ifCond .le 36, 3) := by decide +kernel
theorem dX4_clash_7 : decode prog_1_method_40_code 7 = .ok (.aload_n 1, 1) := by decide +kernel
theorem dX4_clash_8 : decode prog_1_method_40_code 8 = .ok (.getfield 143, 3) := by decide +kernel
theorem dX4_clash_11 : decode prog_1_method_40_code 11 = .ok (.ifCond .le 29, 3) := by decide +kernel
theorem dX4_clash_14 : decode prog_1_method_40_code 14 = .ok (.aload_n 0, 1) := by decide +kernel
theorem dX4_clash_15 : decode prog_1_method_40_code 15 = .ok (.getfield 108, 3) := by decide +kernel
theorem dX4_clash_18 : decode prog_1_method_40_code 18 = .ok (.aload_n 1, 1) := by decide +kernel
theorem dX4_clash_19 : decode prog_1_method_40_code 19 = .ok (.invokevirtual 156, 3) := by decide +kernel
theorem dX4_clash_22 : decode prog_1_method_40_code 22 = .ok (.if_icmp .ge 18, 3) := by decide +kernel
theorem dX4_clash_25 : decode prog_1_method_40_code 25 = .ok (.aload_n 1, 1) := by decide +kernel
theorem dX4_clash_26 : decode prog_1_method_40_code 26 = .ok (.getfield 108, 3) := by decide +kernel
theorem dX4_clash_29 : decode prog_1_method_40_code 29 = .ok (.aload_n 0, 1) := by decide +kernel
theorem dX4_clash_30 : decode prog_1_method_40_code 30 = .ok (.invokevirtual 156, 3) := by decide +kernel
theorem dX4_clash_33 : decode prog_1_method_40_code 33 = .ok (.if_icmp .ge 7, 3) := by decide +kernel
theorem dX4_clash_36 : decode prog_1_method_40_code 36 = .ok (.iconst 1, 1) := by decide +kernel
theorem dX4_clash_37 : decode prog_1_method_40_code 37 = .ok (.goto 4, 3) := by decide +kernel
theorem dX4_clash_40 : decode prog_1_method_40_code 40 = .ok (.iconst 0, 1) := by decide +kernel
theorem dX4_clash_41 : decode prog_1_method_40_code 41 = .ok (.ireturn, 1) := by decide +kernel
theorem dX4_countClashes_0 : decode prog_1_method_39_code 0 = .ok (.iconst 0, 1) := by decide +kernel
theorem dX4_countClashes_1 : decode prog_1_method_39_code 1 = .ok (.istore_n 1, 1) := by decide +kernel
theorem dX4_countClashes_2 : decode prog_1_method_39_code 2 = .ok (.iconst 0, 1) := by decide +kernel
theorem dX4_countClashes_3 : decode prog_1_method_39_code 3 = .ok (.istore_n 2, 1) := by decide +kernel
theorem dX4_countClashes_4 : decode prog_1_method_39_code 4 = .ok (.iload_n 2, 1) := by decide +kernel
theorem dX4_countClashes_5 : decode prog_1_method_39_code 5 = .ok (.aload_n 0, 1) := by decide +kernel
theorem dX4_countClashes_6 : decode prog_1_method_39_code 6 = .ok (.getfield 20, 3) := by decide +kernel
theorem dX4_countClashes_9 : decode prog_1_method_39_code 9 = .ok (.invokevirtual 51, 3) := by decide +kernel
theorem dX4_countClashes_12 : decode prog_1_method_39_code 12 = .ok (.if_icmp .ge 61, 3) := by decide +kernel
theorem dX4_countClashes_15 : decode prog_1_method_39_code 15 = .ok (.iload_n 2, 1) := by decide +kernel
theorem dX4_countClashes_16 : decode prog_1_method_39_code 16 = .ok (.iconst 1, 1) := by decide +kernel
theorem dX4_countClashes_17 : decode prog_1_method_39_code 17 = .ok (.iadd, 1) := by decide +kernel
theorem dX4_countClashes_18 : decode prog_1_method_39_code 18 = .ok (.istore_n 3, 1) := by decide +kernel
theorem dX4_countClashes_19 : decode prog_1_method_39_code 19 = .ok (.iload_n 3, 1) := by decide +kernel
theorem dX4_countClashes_20 : decode prog_1_method_39_code 20 = .ok (.aload_n 0, 1) := by decide +kernel
theorem dX4_countClashes_21 : decode prog_1_method_39_code 21 = .ok (.getfield 20, 3) := by decide +kernel
theorem dX4_countClashes_24 : decode prog_1_method_39_code 24 = .ok (.invokevirtual 51, 3) := by decide +kernel
theorem dX4_countClashes_27 : decode prog_1_method_39_code 27 = .ok (.if_icmp .ge 40, 3) := by decide +kernel
theorem dX4_countClashes_30 : decode prog_1_method_39_code 30 = .ok (.aload_n 0, 1) := by decide +kernel
theorem dX4_countClashes_31 : decode prog_1_method_39_code 31 = .ok (.getfield 20, 3) := by decide +kernel
theorem dX4_countClashes_34 : decode prog_1_method_39_code 34 = .ok (.iload_n 2, 1) := by decide +kernel
theorem dX4_countClashes_35 : decode prog_1_method_39_code 35 = .ok (.invokevirtual 88, 3) := by decide +kernel
theorem dX4_countClashes_38 : decode prog_1_method_39_code 38 = .ok (.checkcast 99, 3) := by decide +kernel
theorem dX4_countClashes_41 : decode prog_1_method_39_code 41 = .ok (.aload_n 0, 1) := by decide +kernel
theorem dX4_countClashes_42 : decode prog_1_method_39_code 42 = .ok (.getfield 20, 3) := by decide +kernel
theorem dX4_countClashes_45 : decode prog_1_method_39_code 45 = .ok (.iload_n 3, 1) := by decide +kernel
theorem dX4_countClashes_46 : decode prog_1_method_39_code 46 = .ok (.invokevirtual 88, 3) := by decide +kernel
theorem dX4_countClashes_49 : decode prog_1_method_39_code 49 = .ok (.checkcast 99, 3) := by decide +kernel
theorem dX4_countClashes_52 : decode prog_1_method_39_code 52 = .ok (.invokestatic 345, 3) := by decide +kernel
theorem dX4_countClashes_55 : decode prog_1_method_39_code 55 = .ok (.ifCond .eq 6, 3) := by decide +kernel
theorem dX4_countClashes_58 : decode prog_1_method_39_code 58 = .ok (.iinc 1 1, 3) := by decide +kernel
theorem dX4_countClashes_61 : decode prog_1_method_39_code 61 = .ok (.iinc 3 1, 3) := by decide +kernel
theorem dX4_countClashes_64 : decode prog_1_method_39_code 64 = .ok (.goto (-45), 3) := by decide +kernel
theorem dX4_countClashes_67 : decode prog_1_method_39_code 67 = .ok (.iinc 2 1, 3) := by decide +kernel
theorem dX4_countClashes_70 : decode prog_1_method_39_code 70 = .ok (.goto (-66), 3) := by decide +kernel
theorem dX4_countClashes_73 : decode prog_1_method_39_code 73 = .ok (.iload_n 1, 1) := by decide +kernel
theorem dX4_countClashes_74 : decode prog_1_method_39_code 74 = .ok (.ireturn, 1) := by decide +kernel
theorem dX4_countAllValid_0 : decode prog_1_method_42_code 0 = .ok (.iconst 0, 1) := by decide +kernel
theorem dX4_countAllValid_1 : decode prog_1_method_42_code 1 = .ok (.istore_n 1, 1) := by decide +kernel
theorem dX4_countAllValid_2 : decode prog_1_method_42_code 2 = .ok (.iconst 0, 1) := by decide +kernel
theorem dX4_countAllValid_3 : decode prog_1_method_42_code 3 = .ok (.istore_n 2, 1) := by decide +kernel
theorem dX4_countAllValid_4 : decode prog_1_method_42_code 4 = .ok (.iload_n 2, 1) := by decide +kernel
theorem dX4_countAllValid_5 : decode prog_1_method_42_code 5 = .ok (.aload_n 0, 1) := by decide +kernel
theorem dX4_countAllValid_6 : decode prog_1_method_42_code 6 = .ok (.getfield 23, 3) := by decide +kernel
theorem dX4_countAllValid_9 : decode prog_1_method_42_code 9 = .ok (.invokevirtual 51, 3) := by decide +kernel
theorem dX4_countAllValid_12 : decode prog_1_method_42_code 12 = .ok (.if_icmp .ge 29, 3) := by decide +kernel
theorem dX4_countAllValid_15 : decode prog_1_method_42_code 15 = .ok (.aload_n 0, 1) := by decide +kernel
theorem dX4_countAllValid_16 : decode prog_1_method_42_code 16 = .ok (.getfield 23, 3) := by decide +kernel
theorem dX4_countAllValid_19 : decode prog_1_method_42_code 19 = .ok (.iload_n 2, 1) := by decide +kernel
theorem dX4_countAllValid_20 : decode prog_1_method_42_code 20 = .ok (.invokevirtual 88, 3) := by decide +kernel
theorem dX4_countAllValid_23 : decode prog_1_method_42_code 23 = .ok (.checkcast 198, 3) := by decide +kernel
theorem dX4_countAllValid_26 : decode prog_1_method_42_code 26 = .ok (.invokevirtual 296, 3) := by decide +kernel
theorem dX4_countAllValid_29 : decode prog_1_method_42_code 29 = .ok (.ifCond .eq 6, 3) := by decide +kernel
theorem dX4_countAllValid_32 : decode prog_1_method_42_code 32 = .ok (.iinc 1 1, 3) := by decide +kernel
theorem dX4_countAllValid_35 : decode prog_1_method_42_code 35 = .ok (.iinc 2 1, 3) := by decide +kernel
theorem dX4_countAllValid_38 : decode prog_1_method_42_code 38 = .ok (.goto (-34), 3) := by decide +kernel
theorem dX4_countAllValid_41 : decode prog_1_method_42_code 41 = .ok (.iload_n 1, 1) := by decide +kernel
theorem dX4_countAllValid_42 : decode prog_1_method_42_code 42 = .ok (.ireturn, 1) := by decide +kernel
theorem dX4_payToAll_0 : decode prog_1_method_45_code 0 = .ok (.iconst 0, 1) := by decide +kernel
theorem dX4_payToAll_1 : decode prog_1_method_45_code 1 = .ok (.istore_n 1, 1) := by decide +kernel
theorem dX4_payToAll_2 : decode prog_1_method_45_code 2 = .ok (.iconst 0, 1) := by decide +kernel
theorem dX4_payToAll_3 : decode prog_1_method_45_code 3 = .ok (.istore_n 2, 1) := by decide +kernel
theorem dX4_payToAll_4 : decode prog_1_method_45_code 4 = .ok (.iload_n 2, 1) := by decide +kernel
theorem dX4_payToAll_5 : decode prog_1_method_45_code 5 = .ok (.aload_n 0, 1) := by decide +kernel
theorem dX4_payToAll_6 : decode prog_1_method_45_code 6 = .ok (.getfield 20, 3) := by decide +kernel
theorem dX4_payToAll_9 : decode prog_1_method_45_code 9 = .ok (.invokevirtual 51, 3) := by decide +kernel
theorem dX4_payToAll_12 : decode prog_1_method_45_code 12 = .ok (.if_icmp .ge 27, 3) := by decide +kernel
theorem dX4_payToAll_15 : decode prog_1_method_45_code 15 = .ok (.iload_n 1, 1) := by decide +kernel
theorem dX4_payToAll_16 : decode prog_1_method_45_code 16 = .ok (.aload_n 0, 1) := by decide +kernel
theorem dX4_payToAll_17 : decode prog_1_method_45_code 17 = .ok (.aload_n 0, 1) := by decide +kernel
theorem dX4_payToAll_18 : decode prog_1_method_45_code 18 = .ok (.getfield 20, 3) := by decide +kernel
theorem dX4_payToAll_21 : decode prog_1_method_45_code 21 = .ok (.iload_n 2, 1) := by decide +kernel
theorem dX4_payToAll_22 : decode prog_1_method_45_code 22 = .ok (.invokevirtual 88, 3) := by decide +kernel
theorem dX4_payToAll_25 : decode prog_1_method_45_code 25 = .ok (.checkcast 99, 3) := by decide +kernel
theorem dX4_payToAll_28 : decode prog_1_method_45_code 28 = .ok (.invokevirtual 307, 3) := by decide +kernel
theorem dX4_payToAll_31 : decode prog_1_method_45_code 31 = .ok (.iadd, 1) := by decide +kernel
theorem dX4_payToAll_32 : decode prog_1_method_45_code 32 = .ok (.istore_n 1, 1) := by decide +kernel
theorem dX4_payToAll_33 : decode prog_1_method_45_code 33 = .ok (.iinc 2 1, 3) := by decide +kernel
theorem dX4_payToAll_36 : decode prog_1_method_45_code 36 = .ok (.goto (-32), 3) := by decide +kernel
theorem dX4_payToAll_39 : decode prog_1_method_45_code 39 = .ok (.iload_n 1, 1) := by decide +kernel
theorem dX4_payToAll_40 : decode prog_1_method_45_code 40 = .ok (.ireturn, 1) := by decide +kernel
theorem dX4_many_0 : decode prog_1_method_26_code 0 = .ok (.iload_n 1, 1) := by decide +kernel
theorem dX4_many_1 : decode prog_1_method_26_code 1 = .ok (.tableswitch 168 0 15 #[79, 84, 89, 97, 102, 107, 112, 120, 125, 130, 135, 143, 148, 153, 158, 163], 79) := by decide +kernel
theorem dX4_many_80 : decode prog_1_method_26_code 80 = .ok (.aload_n 0, 1) := by decide +kernel
theorem dX4_many_81 : decode prog_1_method_26_code 81 = .ok (.getfield 26, 3) := by decide +kernel
theorem dX4_many_84 : decode prog_1_method_26_code 84 = .ok (.ireturn, 1) := by decide +kernel
theorem dX4_many_85 : decode prog_1_method_26_code 85 = .ok (.aload_n 0, 1) := by decide +kernel
theorem dX4_many_86 : decode prog_1_method_26_code 86 = .ok (.getfield 79, 3) := by decide +kernel
theorem dX4_many_89 : decode prog_1_method_26_code 89 = .ok (.ireturn, 1) := by decide +kernel
theorem dX4_many_90 : decode prog_1_method_26_code 90 = .ok (.aload_n 0, 1) := by decide +kernel
theorem dX4_many_91 : decode prog_1_method_26_code 91 = .ok (.getfield 12, 3) := by decide +kernel
theorem dX4_many_94 : decode prog_1_method_26_code 94 = .ok (.invokevirtual 51, 3) := by decide +kernel
theorem dX4_many_97 : decode prog_1_method_26_code 97 = .ok (.ireturn, 1) := by decide +kernel
theorem dX4_many_98 : decode prog_1_method_26_code 98 = .ok (.aload_n 0, 1) := by decide +kernel
theorem dX4_many_99 : decode prog_1_method_26_code 99 = .ok (.invokevirtual 310, 3) := by decide +kernel
theorem dX4_many_102 : decode prog_1_method_26_code 102 = .ok (.ireturn, 1) := by decide +kernel
theorem dX4_many_103 : decode prog_1_method_26_code 103 = .ok (.aload_n 0, 1) := by decide +kernel
theorem dX4_many_104 : decode prog_1_method_26_code 104 = .ok (.invokevirtual 161, 3) := by decide +kernel
theorem dX4_many_107 : decode prog_1_method_26_code 107 = .ok (.ireturn, 1) := by decide +kernel
theorem dX4_many_108 : decode prog_1_method_26_code 108 = .ok (.aload_n 0, 1) := by decide +kernel
theorem dX4_many_109 : decode prog_1_method_26_code 109 = .ok (.getfield 71, 3) := by decide +kernel
theorem dX4_many_112 : decode prog_1_method_26_code 112 = .ok (.ireturn, 1) := by decide +kernel
theorem dX4_many_113 : decode prog_1_method_26_code 113 = .ok (.aload_n 0, 1) := by decide +kernel
theorem dX4_many_114 : decode prog_1_method_26_code 114 = .ok (.getfield 20, 3) := by decide +kernel
theorem dX4_many_117 : decode prog_1_method_26_code 117 = .ok (.invokevirtual 51, 3) := by decide +kernel
theorem dX4_many_120 : decode prog_1_method_26_code 120 = .ok (.ireturn, 1) := by decide +kernel
theorem dX4_many_121 : decode prog_1_method_26_code 121 = .ok (.aload_n 0, 1) := by decide +kernel
theorem dX4_many_122 : decode prog_1_method_26_code 122 = .ok (.invokevirtual 313, 3) := by decide +kernel
theorem dX4_many_125 : decode prog_1_method_26_code 125 = .ok (.ireturn, 1) := by decide +kernel
theorem dX4_many_126 : decode prog_1_method_26_code 126 = .ok (.aload_n 0, 1) := by decide +kernel
theorem dX4_many_127 : decode prog_1_method_26_code 127 = .ok (.invokevirtual 316, 3) := by decide +kernel
theorem dX4_many_130 : decode prog_1_method_26_code 130 = .ok (.ireturn, 1) := by decide +kernel
theorem dX4_many_131 : decode prog_1_method_26_code 131 = .ok (.aload_n 0, 1) := by decide +kernel
theorem dX4_many_132 : decode prog_1_method_26_code 132 = .ok (.invokevirtual 319, 3) := by decide +kernel
theorem dX4_many_135 : decode prog_1_method_26_code 135 = .ok (.ireturn, 1) := by decide +kernel
theorem dX4_many_136 : decode prog_1_method_26_code 136 = .ok (.aload_n 0, 1) := by decide +kernel
theorem dX4_many_137 : decode prog_1_method_26_code 137 = .ok (.getfield 23, 3) := by decide +kernel
theorem dX4_many_140 : decode prog_1_method_26_code 140 = .ok (.invokevirtual 51, 3) := by decide +kernel
theorem dX4_many_143 : decode prog_1_method_26_code 143 = .ok (.ireturn, 1) := by decide +kernel
theorem dX4_many_144 : decode prog_1_method_26_code 144 = .ok (.aload_n 0, 1) := by decide +kernel
theorem dX4_many_145 : decode prog_1_method_26_code 145 = .ok (.invokevirtual 322, 3) := by decide +kernel
theorem dX4_many_148 : decode prog_1_method_26_code 148 = .ok (.ireturn, 1) := by decide +kernel
theorem dX4_many_149 : decode prog_1_method_26_code 149 = .ok (.aload_n 0, 1) := by decide +kernel
theorem dX4_many_150 : decode prog_1_method_26_code 150 = .ok (.getfield 172, 3) := by decide +kernel
theorem dX4_many_153 : decode prog_1_method_26_code 153 = .ok (.ireturn, 1) := by decide +kernel
theorem dX4_many_154 : decode prog_1_method_26_code 154 = .ok (.aload_n 0, 1) := by decide +kernel
theorem dX4_many_155 : decode prog_1_method_26_code 155 = .ok (.getfield 193, 3) := by decide +kernel
theorem dX4_many_158 : decode prog_1_method_26_code 158 = .ok (.ireturn, 1) := by decide +kernel
theorem dX4_many_159 : decode prog_1_method_26_code 159 = .ok (.aload_n 0, 1) := by decide +kernel
theorem dX4_many_160 : decode prog_1_method_26_code 160 = .ok (.getfield 210, 3) := by decide +kernel
theorem dX4_many_163 : decode prog_1_method_26_code 163 = .ok (.ireturn, 1) := by decide +kernel
theorem dX4_many_164 : decode prog_1_method_26_code 164 = .ok (.aload_n 0, 1) := by decide +kernel
theorem dX4_many_165 : decode prog_1_method_26_code 165 = .ok (.invokevirtual 325, 3) := by decide +kernel
theorem dX4_many_168 : decode prog_1_method_26_code 168 = .ok (.ireturn, 1) := by decide +kernel
theorem dX4_many_169 : decode prog_1_method_26_code 169 = .ok (.new 44, 3) := by decide +kernel
theorem dX4_many_172 : decode prog_1_method_26_code 172 = .ok (.dup, 1) := by decide +kernel
theorem dX4_many_173 : decode prog_1_method_26_code 173 = .ok (.ldc_w 328, 3) := by decide +kernel
theorem dX4_many_176 : decode prog_1_method_26_code 176 = .ok (.invokespecial 48, 3) := by decide +kernel
theorem dX4_many_179 : decode prog_1_method_26_code 179 = .ok (.athrow, 1) := by decide +kernel
theorem dX4_meanNote_0 : decode prog_1_method_27_code 0 = .ok (.iconst 0, 1) := by decide +kernel
theorem dX4_meanNote_1 : decode prog_1_method_27_code 1 = .ok (.istore_n 1, 1) := by decide +kernel
theorem dX4_meanNote_2 : decode prog_1_method_27_code 2 = .ok (.iconst 0, 1) := by decide +kernel
theorem dX4_meanNote_3 : decode prog_1_method_27_code 3 = .ok (.istore_n 2, 1) := by decide +kernel
theorem dX4_meanNote_4 : decode prog_1_method_27_code 4 = .ok (.iconst 0, 1) := by decide +kernel
theorem dX4_meanNote_5 : decode prog_1_method_27_code 5 = .ok (.istore_n 3, 1) := by decide +kernel
theorem dX4_meanNote_6 : decode prog_1_method_27_code 6 = .ok (.iload_n 3, 1) := by decide +kernel
theorem dX4_meanNote_7 : decode prog_1_method_27_code 7 = .ok (.aload_n 0, 1) := by decide +kernel
theorem dX4_meanNote_8 : decode prog_1_method_27_code 8 = .ok (.getfield 23, 3) := by decide +kernel
theorem dX4_meanNote_11 : decode prog_1_method_27_code 11 = .ok (.invokevirtual 51, 3) := by decide +kernel
theorem dX4_meanNote_14 : decode prog_1_method_27_code 14 = .ok (.if_icmp .ge 49, 3) := by decide +kernel
theorem dX4_meanNote_17 : decode prog_1_method_27_code 17 = .ok (.aload_n 0, 1) := by decide +kernel
theorem dX4_meanNote_18 : decode prog_1_method_27_code 18 = .ok (.getfield 23, 3) := by decide +kernel
theorem dX4_meanNote_21 : decode prog_1_method_27_code 21 = .ok (.iload_n 3, 1) := by decide +kernel
theorem dX4_meanNote_22 : decode prog_1_method_27_code 22 = .ok (.invokevirtual 88, 3) := by decide +kernel
theorem dX4_meanNote_25 : decode prog_1_method_27_code 25 = .ok (.checkcast 198, 3) := by decide +kernel
theorem dX4_meanNote_28 : decode prog_1_method_27_code 28 = .ok (.astore 4, 2) := by decide +kernel
theorem dX4_meanNote_30 : decode prog_1_method_27_code 30 = .ok (.aload 4, 2) := by decide +kernel
theorem dX4_meanNote_32 : decode prog_1_method_27_code 32 = .ok (.invokevirtual 296, 3) := by decide +kernel
theorem dX4_meanNote_35 : decode prog_1_method_27_code 35 = .ok (.ifCond .eq 22, 3) := by decide +kernel
theorem dX4_meanNote_38 : decode prog_1_method_27_code 38 = .ok (.iload_n 1, 1) := by decide +kernel
theorem dX4_meanNote_39 : decode prog_1_method_27_code 39 = .ok (.aload 4, 2) := by decide +kernel
theorem dX4_meanNote_41 : decode prog_1_method_27_code 41 = .ok (.invokevirtual 300, 3) := by decide +kernel
theorem dX4_meanNote_44 : decode prog_1_method_27_code 44 = .ok (.iadd, 1) := by decide +kernel
theorem dX4_meanNote_45 : decode prog_1_method_27_code 45 = .ok (.istore_n 1, 1) := by decide +kernel
theorem dX4_meanNote_46 : decode prog_1_method_27_code 46 = .ok (.iload_n 2, 1) := by decide +kernel
theorem dX4_meanNote_47 : decode prog_1_method_27_code 47 = .ok (.aload 4, 2) := by decide +kernel
theorem dX4_meanNote_49 : decode prog_1_method_27_code 49 = .ok (.getfield 288, 3) := by decide +kernel
theorem dX4_meanNote_52 : decode prog_1_method_27_code 52 = .ok (.getfield 143, 3) := by decide +kernel
theorem dX4_meanNote_55 : decode prog_1_method_27_code 55 = .ok (.iadd, 1) := by decide +kernel
theorem dX4_meanNote_56 : decode prog_1_method_27_code 56 = .ok (.istore_n 2, 1) := by decide +kernel
theorem dX4_meanNote_57 : decode prog_1_method_27_code 57 = .ok (.iinc 3 1, 3) := by decide +kernel
theorem dX4_meanNote_60 : decode prog_1_method_27_code 60 = .ok (.goto (-54), 3) := by decide +kernel
theorem dX4_meanNote_63 : decode prog_1_method_27_code 63 = .ok (.iload_n 2, 1) := by decide +kernel
theorem dX4_meanNote_64 : decode prog_1_method_27_code 64 = .ok (.ifCond .ne 7, 3) := by decide +kernel
theorem dX4_meanNote_67 : decode prog_1_method_27_code 67 = .ok (.dconst 0, 1) := by decide +kernel
theorem dX4_meanNote_68 : decode prog_1_method_27_code 68 = .ok (.goto 8, 3) := by decide +kernel
theorem dX4_meanNote_71 : decode prog_1_method_27_code 71 = .ok (.iload_n 1, 1) := by decide +kernel
theorem dX4_meanNote_72 : decode prog_1_method_27_code 72 = .ok (.i2d, 1) := by decide +kernel
theorem dX4_meanNote_73 : decode prog_1_method_27_code 73 = .ok (.iload_n 2, 1) := by decide +kernel
theorem dX4_meanNote_74 : decode prog_1_method_27_code 74 = .ok (.i2d, 1) := by decide +kernel
theorem dX4_meanNote_75 : decode prog_1_method_27_code 75 = .ok (.ddiv, 1) := by decide +kernel
theorem dX4_meanNote_76 : decode prog_1_method_27_code 76 = .ok (.dreturn, 1) := by decide +kernel
theorem dX4_join_0 : decode prog_1_method_46_code 0 = .ok (.aload_n 0, 1) := by decide +kernel
theorem dX4_join_1 : decode prog_1_method_46_code 1 = .ok (.getfield 33, 3) := by decide +kernel
theorem dX4_join_4 : decode prog_1_method_46_code 4 = .ok (.aload_n 0, 1) := by decide +kernel
theorem dX4_join_5 : decode prog_1_method_46_code 5 = .ok (.iload_n 1, 1) := by decide +kernel
theorem dX4_join_6 : decode prog_1_method_46_code 6 = .ok (.invokevirtual 136, 3) := by decide +kernel
theorem dX4_join_9 : decode prog_1_method_46_code 9 = .ok (.aload_n 0, 1) := by decide +kernel
theorem dX4_join_10 : decode prog_1_method_46_code 10 = .ok (.getfield 23, 3) := by decide +kernel
theorem dX4_join_13 : decode prog_1_method_46_code 13 = .ok (.invokevirtual 349, 3) := by decide +kernel
theorem dX4_join_16 : decode prog_1_method_46_code 16 = .ok (.aload_n 0, 1) := by decide +kernel
theorem dX4_join_17 : decode prog_1_method_46_code 17 = .ok (.getfield 33, 3) := by decide +kernel
theorem dX4_join_20 : decode prog_1_method_46_code 20 = .ok (.invokevirtual 353, 3) := by decide +kernel
theorem dX4_join_23 : decode prog_1_method_46_code 23 = .ok (.ireturn, 1) := by decide +kernel
theorem dX4_markMetByOthers_0 : decode prog_1_method_54_code 0 = .ok (.iconst 0, 1) := by decide +kernel
theorem dX4_markMetByOthers_1 : decode prog_1_method_54_code 1 = .ok (.istore_n 2, 1) := by decide +kernel
theorem dX4_markMetByOthers_2 : decode prog_1_method_54_code 2 = .ok (.iload_n 2, 1) := by decide +kernel
theorem dX4_markMetByOthers_3 : decode prog_1_method_54_code 3 = .ok (.aload_n 0, 1) := by decide +kernel
theorem dX4_markMetByOthers_4 : decode prog_1_method_54_code 4 = .ok (.getfield 12, 3) := by decide +kernel
theorem dX4_markMetByOthers_7 : decode prog_1_method_54_code 7 = .ok (.invokevirtual 51, 3) := by decide +kernel
theorem dX4_markMetByOthers_10 : decode prog_1_method_54_code 10 = .ok (.if_icmp .ge 40, 3) := by decide +kernel
theorem dX4_markMetByOthers_13 : decode prog_1_method_54_code 13 = .ok (.iload_n 2, 1) := by decide +kernel
theorem dX4_markMetByOthers_14 : decode prog_1_method_54_code 14 = .ok (.aload_n 0, 1) := by decide +kernel
theorem dX4_markMetByOthers_15 : decode prog_1_method_54_code 15 = .ok (.getfield 40, 3) := by decide +kernel
theorem dX4_markMetByOthers_18 : decode prog_1_method_54_code 18 = .ok (.arraylength, 1) := by decide +kernel
theorem dX4_markMetByOthers_19 : decode prog_1_method_54_code 19 = .ok (.if_icmp .ge 31, 3) := by decide +kernel
theorem dX4_markMetByOthers_22 : decode prog_1_method_54_code 22 = .ok (.aload_n 0, 1) := by decide +kernel
theorem dX4_markMetByOthers_23 : decode prog_1_method_54_code 23 = .ok (.getfield 40, 3) := by decide +kernel
theorem dX4_markMetByOthers_26 : decode prog_1_method_54_code 26 = .ok (.iload_n 2, 1) := by decide +kernel
theorem dX4_markMetByOthers_27 : decode prog_1_method_54_code 27 = .ok (.aload_n 0, 1) := by decide +kernel
theorem dX4_markMetByOthers_28 : decode prog_1_method_54_code 28 = .ok (.aload_n 0, 1) := by decide +kernel
theorem dX4_markMetByOthers_29 : decode prog_1_method_54_code 29 = .ok (.getfield 12, 3) := by decide +kernel
theorem dX4_markMetByOthers_32 : decode prog_1_method_54_code 32 = .ok (.iload_n 2, 1) := by decide +kernel
theorem dX4_markMetByOthers_33 : decode prog_1_method_54_code 33 = .ok (.invokevirtual 88, 3) := by decide +kernel
theorem dX4_markMetByOthers_36 : decode prog_1_method_54_code 36 = .ok (.checkcast 60, 3) := by decide +kernel
theorem dX4_markMetByOthers_39 : decode prog_1_method_54_code 39 = .ok (.iload_n 1, 1) := by decide +kernel
theorem dX4_markMetByOthers_40 : decode prog_1_method_54_code 40 = .ok (.invokevirtual 334, 3) := by decide +kernel
theorem dX4_markMetByOthers_43 : decode prog_1_method_54_code 43 = .ok (.bastore, 1) := by decide +kernel
theorem dX4_markMetByOthers_44 : decode prog_1_method_54_code 44 = .ok (.iinc 2 1, 3) := by decide +kernel
theorem dX4_markMetByOthers_47 : decode prog_1_method_54_code 47 = .ok (.goto (-45), 3) := by decide +kernel
theorem dX4_markMetByOthers_50 : decode prog_1_method_54_code 50 = .ok (.return_, 1) := by decide +kernel
theorem dX4_countMetWith_0 : decode prog_1_method_55_code 0 = .ok (.iconst 0, 1) := by decide +kernel
theorem dX4_countMetWith_1 : decode prog_1_method_55_code 1 = .ok (.istore 4, 2) := by decide +kernel
theorem dX4_countMetWith_3 : decode prog_1_method_55_code 3 = .ok (.iconst 0, 1) := by decide +kernel
theorem dX4_countMetWith_4 : decode prog_1_method_55_code 4 = .ok (.istore 5, 2) := by decide +kernel
theorem dX4_countMetWith_6 : decode prog_1_method_55_code 6 = .ok (.iload 5, 2) := by decide +kernel
theorem dX4_countMetWith_8 : decode prog_1_method_55_code 8 = .ok (.aload_n 0, 1) := by decide +kernel
theorem dX4_countMetWith_9 : decode prog_1_method_55_code 9 = .ok (.getfield 12, 3) := by decide +kernel
theorem dX4_countMetWith_12 : decode prog_1_method_55_code 12 = .ok (.invokevirtual 51, 3) := by decide +kernel
theorem dX4_countMetWith_15 : decode prog_1_method_55_code 15 = .ok (.if_icmp .ge 73, 3) := by decide +kernel
theorem dX4_countMetWith_18 : decode prog_1_method_55_code 18 = .ok (.iload 5, 2) := by decide +kernel
theorem dX4_countMetWith_20 : decode prog_1_method_55_code 20 = .ok (.aload_n 0, 1) := by decide +kernel
theorem dX4_countMetWith_21 : decode prog_1_method_55_code 21 = .ok (.getfield 40, 3) := by decide +kernel
theorem dX4_countMetWith_24 : decode prog_1_method_55_code 24 = .ok (.arraylength, 1) := by decide +kernel
theorem dX4_countMetWith_25 : decode prog_1_method_55_code 25 = .ok (.if_icmp .ge 63, 3) := by decide +kernel
theorem dX4_countMetWith_28 : decode prog_1_method_55_code 28 = .ok (.aload_n 0, 1) := by decide +kernel
theorem dX4_countMetWith_29 : decode prog_1_method_55_code 29 = .ok (.getfield 12, 3) := by decide +kernel
theorem dX4_countMetWith_32 : decode prog_1_method_55_code 32 = .ok (.iload 5, 2) := by decide +kernel
theorem dX4_countMetWith_34 : decode prog_1_method_55_code 34 = .ok (.invokevirtual 88, 3) := by decide +kernel
theorem dX4_countMetWith_37 : decode prog_1_method_55_code 37 = .ok (.checkcast 60, 3) := by decide +kernel
theorem dX4_countMetWith_40 : decode prog_1_method_55_code 40 = .ok (.astore 6, 2) := by decide +kernel
theorem dX4_countMetWith_42 : decode prog_1_method_55_code 42 = .ok (.aload_n 0, 1) := by decide +kernel
theorem dX4_countMetWith_43 : decode prog_1_method_55_code 43 = .ok (.getfield 40, 3) := by decide +kernel
theorem dX4_countMetWith_46 : decode prog_1_method_55_code 46 = .ok (.iload 5, 2) := by decide +kernel
theorem dX4_countMetWith_48 : decode prog_1_method_55_code 48 = .ok (.baload, 1) := by decide +kernel
theorem dX4_countMetWith_49 : decode prog_1_method_55_code 49 = .ok (.ifCond .ne 30, 3) := by decide +kernel
theorem dX4_countMetWith_52 : decode prog_1_method_55_code 52 = .ok (.aload 6, 2) := by decide +kernel
theorem dX4_countMetWith_54 : decode prog_1_method_55_code 54 = .ok (.getfield 221, 3) := by decide +kernel
theorem dX4_countMetWith_57 : decode prog_1_method_55_code 57 = .ok (.ifCond .ne 25, 3) := by decide +kernel
theorem dX4_countMetWith_60 : decode prog_1_method_55_code 60 = .ok (.aload_n 1, 1) := by decide +kernel
theorem dX4_countMetWith_61 : decode prog_1_method_55_code 61 = .ok (.aload 6, 2) := by decide +kernel
theorem dX4_countMetWith_63 : decode prog_1_method_55_code 63 = .ok (.getfield 215, 3) := by decide +kernel
theorem dX4_countMetWith_66 : decode prog_1_method_55_code 66 = .ok (.aload 6, 2) := by decide +kernel
theorem dX4_countMetWith_68 : decode prog_1_method_55_code 68 = .ok (.getfield 218, 3) := by decide +kernel
theorem dX4_countMetWith_71 : decode prog_1_method_55_code 71 = .ok (.iload_n 2, 1) := by decide +kernel
theorem dX4_countMetWith_72 : decode prog_1_method_55_code 72 = .ok (.aload_n 3, 1) := by decide +kernel
theorem dX4_countMetWith_73 : decode prog_1_method_55_code 73 = .ok (.invokevirtual 341, 3) := by decide +kernel
theorem dX4_countMetWith_76 : decode prog_1_method_55_code 76 = .ok (.ifCond .eq 6, 3) := by decide +kernel
theorem dX4_countMetWith_79 : decode prog_1_method_55_code 79 = .ok (.iinc 4 1, 3) := by decide +kernel
theorem dX4_countMetWith_82 : decode prog_1_method_55_code 82 = .ok (.iinc 5 1, 3) := by decide +kernel
theorem dX4_countMetWith_85 : decode prog_1_method_55_code 85 = .ok (.goto (-79), 3) := by decide +kernel
theorem dX4_countMetWith_88 : decode prog_1_method_55_code 88 = .ok (.iload 4, 2) := by decide +kernel
theorem dX4_countMetWith_90 : decode prog_1_method_55_code 90 = .ok (.ireturn, 1) := by decide +kernel
theorem dX4_bestStart_0 : decode prog_1_method_48_code 0 = .ok (.aload_n 0, 1) := by decide +kernel
theorem dX4_bestStart_1 : decode prog_1_method_48_code 1 = .ok (.iload_n 1, 1) := by decide +kernel
theorem dX4_bestStart_2 : decode prog_1_method_48_code 2 = .ok (.invokevirtual 136, 3) := by decide +kernel
theorem dX4_bestStart_5 : decode prog_1_method_48_code 5 = .ok (.astore_n 2, 1) := by decide +kernel
theorem dX4_bestStart_6 : decode prog_1_method_48_code 6 = .ok (.aload_n 0, 1) := by decide +kernel
theorem dX4_bestStart_7 : decode prog_1_method_48_code 7 = .ok (.iload_n 1, 1) := by decide +kernel
theorem dX4_bestStart_8 : decode prog_1_method_48_code 8 = .ok (.invokevirtual 359, 3) := by decide +kernel
theorem dX4_bestStart_11 : decode prog_1_method_48_code 11 = .ok (.aload_n 2, 1) := by decide +kernel
theorem dX4_bestStart_12 : decode prog_1_method_48_code 12 = .ok (.getfield 108, 3) := by decide +kernel
theorem dX4_bestStart_15 : decode prog_1_method_48_code 15 = .ok (.istore_n 3, 1) := by decide +kernel
theorem dX4_bestStart_16 : decode prog_1_method_48_code 16 = .ok (.aload_n 0, 1) := by decide +kernel
theorem dX4_bestStart_17 : decode prog_1_method_48_code 17 = .ok (.aload_n 2, 1) := by decide +kernel
theorem dX4_bestStart_18 : decode prog_1_method_48_code 18 = .ok (.iload_n 3, 1) := by decide +kernel
theorem dX4_bestStart_19 : decode prog_1_method_48_code 19 = .ok (.aload_n 2, 1) := by decide +kernel
theorem dX4_bestStart_20 : decode prog_1_method_48_code 20 = .ok (.getfield 338, 3) := by decide +kernel
theorem dX4_bestStart_23 : decode prog_1_method_48_code 23 = .ok (.invokevirtual 363, 3) := by decide +kernel
theorem dX4_bestStart_26 : decode prog_1_method_48_code 26 = .ok (.istore 4, 2) := by decide +kernel
theorem dX4_bestStart_28 : decode prog_1_method_48_code 28 = .ok (.iconst 1, 1) := by decide +kernel
theorem dX4_bestStart_29 : decode prog_1_method_48_code 29 = .ok (.istore 5, 2) := by decide +kernel
theorem dX4_bestStart_31 : decode prog_1_method_48_code 31 = .ok (.iload 5, 2) := by decide +kernel
theorem dX4_bestStart_33 : decode prog_1_method_48_code 33 = .ok (.bipush 24, 2) := by decide +kernel
theorem dX4_bestStart_35 : decode prog_1_method_48_code 35 = .ok (.if_icmp .gt 81, 3) := by decide +kernel
theorem dX4_bestStart_38 : decode prog_1_method_48_code 38 = .ok (.iconst (-1), 1) := by decide +kernel
theorem dX4_bestStart_39 : decode prog_1_method_48_code 39 = .ok (.istore 6, 2) := by decide +kernel
theorem dX4_bestStart_41 : decode prog_1_method_48_code 41 = .ok (.iload 6, 2) := by decide +kernel
theorem dX4_bestStart_43 : decode prog_1_method_48_code 43 = .ok (.iconst 1, 1) := by decide +kernel
theorem dX4_bestStart_44 : decode prog_1_method_48_code 44 = .ok (.if_icmp .gt 66, 3) := by decide +kernel
theorem dX4_bestStart_47 : decode prog_1_method_48_code 47 = .ok (.aload_n 2, 1) := by decide +kernel
theorem dX4_bestStart_48 : decode prog_1_method_48_code 48 = .ok (.getfield 108, 3) := by decide +kernel
theorem dX4_bestStart_51 : decode prog_1_method_48_code 51 = .ok (.iload 6, 2) := by decide +kernel
theorem dX4_bestStart_53 : decode prog_1_method_48_code 53 = .ok (.iload 5, 2) := by decide +kernel
theorem dX4_bestStart_55 : decode prog_1_method_48_code 55 = .ok (.imul, 1) := by decide +kernel
theorem dX4_bestStart_56 : decode prog_1_method_48_code 56 = .ok (.iadd, 1) := by decide +kernel
theorem dX4_bestStart_57 : decode prog_1_method_48_code 57 = .ok (.istore 7, 2) := by decide +kernel
theorem dX4_bestStart_59 : decode prog_1_method_48_code 59 = .ok (.iload 7, 2) := by decide +kernel
theorem dX4_bestStart_61 : decode prog_1_method_48_code 61 = .ok (.ifCond .lt 12, 3) := by decide +kernel
theorem dX4_bestStart_64 : decode prog_1_method_48_code 64 = .ok (.iload 7, 2) := by decide +kernel
theorem dX4_bestStart_66 : decode prog_1_method_48_code 66 = .ok (.aload_n 0, 1) := by decide +kernel
theorem dX4_bestStart_67 : decode prog_1_method_48_code 67 = .ok (.getfield 26, 3) := by decide +kernel
theorem dX4_bestStart_70 : decode prog_1_method_48_code 70 = .ok (.if_icmp .le 7, 3) := by decide +kernel
theorem dX4_bestStart_73 : decode prog_1_method_48_code 73 = .ok (.iconst 0, 1) := by decide +kernel
theorem dX4_bestStart_74 : decode prog_1_method_48_code 74 = .ok (.goto 14, 3) := by decide +kernel
theorem dX4_bestStart_77 : decode prog_1_method_48_code 77 = .ok (.aload_n 0, 1) := by decide +kernel
theorem dX4_bestStart_78 : decode prog_1_method_48_code 78 = .ok (.aload_n 2, 1) := by decide +kernel
theorem dX4_bestStart_79 : decode prog_1_method_48_code 79 = .ok (.iload 7, 2) := by decide +kernel
theorem dX4_bestStart_81 : decode prog_1_method_48_code 81 = .ok (.aload_n 2, 1) := by decide +kernel
theorem dX4_bestStart_82 : decode prog_1_method_48_code 82 = .ok (.getfield 338, 3) := by decide +kernel
theorem dX4_bestStart_85 : decode prog_1_method_48_code 85 = .ok (.invokevirtual 363, 3) := by decide +kernel
theorem dX4_bestStart_88 : decode prog_1_method_48_code 88 = .ok (.istore 8, 2) := by decide +kernel
theorem dX4_bestStart_90 : decode prog_1_method_48_code 90 = .ok (.iload 8, 2) := by decide +kernel
theorem dX4_bestStart_92 : decode prog_1_method_48_code 92 = .ok (.iload 4, 2) := by decide +kernel
theorem dX4_bestStart_94 : decode prog_1_method_48_code 94 = .ok (.if_icmp .le 10, 3) := by decide +kernel
theorem dX4_bestStart_97 : decode prog_1_method_48_code 97 = .ok (.iload 7, 2) := by decide +kernel
theorem dX4_bestStart_99 : decode prog_1_method_48_code 99 = .ok (.istore_n 3, 1) := by decide +kernel
theorem dX4_bestStart_100 : decode prog_1_method_48_code 100 = .ok (.iload 8, 2) := by decide +kernel
theorem dX4_bestStart_102 : decode prog_1_method_48_code 102 = .ok (.istore 4, 2) := by decide +kernel
theorem dX4_bestStart_104 : decode prog_1_method_48_code 104 = .ok (.iinc 6 2, 3) := by decide +kernel
theorem dX4_bestStart_107 : decode prog_1_method_48_code 107 = .ok (.goto (-66), 3) := by decide +kernel
theorem dX4_bestStart_110 : decode prog_1_method_48_code 110 = .ok (.iinc 5 1, 3) := by decide +kernel
theorem dX4_bestStart_113 : decode prog_1_method_48_code 113 = .ok (.goto (-82), 3) := by decide +kernel
theorem dX4_bestStart_116 : decode prog_1_method_48_code 116 = .ok (.iload_n 3, 1) := by decide +kernel
theorem dX4_bestStart_117 : decode prog_1_method_48_code 117 = .ok (.ireturn, 1) := by decide +kernel
theorem dX4_countMetWithClick_0 : decode prog_1_method_56_code 0 = .ok (.aload_n 1, 1) := by decide +kernel
theorem dX4_countMetWithClick_1 : decode prog_1_method_56_code 1 = .ok (.aload_n 0, 1) := by decide +kernel
theorem dX4_countMetWithClick_2 : decode prog_1_method_56_code 2 = .ok (.getfield 37, 3) := by decide +kernel
theorem dX4_countMetWithClick_5 : decode prog_1_method_56_code 5 = .ok (.iload_n 2, 1) := by decide +kernel
theorem dX4_countMetWithClick_6 : decode prog_1_method_56_code 6 = .ok (.iload_n 3, 1) := by decide +kernel
theorem dX4_countMetWithClick_7 : decode prog_1_method_56_code 7 = .ok (.invokevirtual 414, 3) := by decide +kernel
theorem dX4_countMetWithClick_10 : decode prog_1_method_56_code 10 = .ok (.pop, 1) := by decide +kernel
theorem dX4_countMetWithClick_11 : decode prog_1_method_56_code 11 = .ok (.aload_n 0, 1) := by decide +kernel
theorem dX4_countMetWithClick_12 : decode prog_1_method_56_code 12 = .ok (.aload_n 1, 1) := by decide +kernel
theorem dX4_countMetWithClick_13 : decode prog_1_method_56_code 13 = .ok (.aload_n 1, 1) := by decide +kernel
theorem dX4_countMetWithClick_14 : decode prog_1_method_56_code 14 = .ok (.getfield 108, 3) := by decide +kernel
theorem dX4_countMetWithClick_17 : decode prog_1_method_56_code 17 = .ok (.aload_n 0, 1) := by decide +kernel
theorem dX4_countMetWithClick_18 : decode prog_1_method_56_code 18 = .ok (.getfield 37, 3) := by decide +kernel
theorem dX4_countMetWithClick_21 : decode prog_1_method_56_code 21 = .ok (.invokevirtual 363, 3) := by decide +kernel
theorem dX4_countMetWithClick_24 : decode prog_1_method_56_code 24 = .ok (.ireturn, 1) := by decide +kernel
theorem dX4_bestClick_0 : decode prog_1_method_49_code 0 = .ok (.aload_n 0, 1) := by decide +kernel
theorem dX4_bestClick_1 : decode prog_1_method_49_code 1 = .ok (.iload_n 1, 1) := by decide +kernel
theorem dX4_bestClick_2 : decode prog_1_method_49_code 2 = .ok (.invokevirtual 136, 3) := by decide +kernel
theorem dX4_bestClick_5 : decode prog_1_method_49_code 5 = .ok (.astore_n 3, 1) := by decide +kernel
theorem dX4_bestClick_6 : decode prog_1_method_49_code 6 = .ok (.aload_n 3, 1) := by decide +kernel
theorem dX4_bestClick_7 : decode prog_1_method_49_code 7 = .ok (.iload_n 2, 1) := by decide +kernel
theorem dX4_bestClick_8 : decode prog_1_method_49_code 8 = .ok (.invokestatic 152, 3) := by decide +kernel
theorem dX4_bestClick_11 : decode prog_1_method_49_code 11 = .ok (.aload_n 0, 1) := by decide +kernel
theorem dX4_bestClick_12 : decode prog_1_method_49_code 12 = .ok (.iload_n 1, 1) := by decide +kernel
theorem dX4_bestClick_13 : decode prog_1_method_49_code 13 = .ok (.invokevirtual 359, 3) := by decide +kernel
theorem dX4_bestClick_16 : decode prog_1_method_49_code 16 = .ok (.aload_n 3, 1) := by decide +kernel
theorem dX4_bestClick_17 : decode prog_1_method_49_code 17 = .ok (.getfield 272, 3) := by decide +kernel
theorem dX4_bestClick_20 : decode prog_1_method_49_code 20 = .ok (.iload_n 2, 1) := by decide +kernel
theorem dX4_bestClick_21 : decode prog_1_method_49_code 21 = .ok (.iaload, 1) := by decide +kernel
theorem dX4_bestClick_22 : decode prog_1_method_49_code 22 = .ok (.istore 4, 2) := by decide +kernel
theorem dX4_bestClick_24 : decode prog_1_method_49_code 24 = .ok (.iload 4, 2) := by decide +kernel
theorem dX4_bestClick_26 : decode prog_1_method_49_code 26 = .ok (.istore 5, 2) := by decide +kernel
theorem dX4_bestClick_28 : decode prog_1_method_49_code 28 = .ok (.aload_n 0, 1) := by decide +kernel
theorem dX4_bestClick_29 : decode prog_1_method_49_code 29 = .ok (.aload_n 3, 1) := by decide +kernel
theorem dX4_bestClick_30 : decode prog_1_method_49_code 30 = .ok (.aload_n 3, 1) := by decide +kernel
theorem dX4_bestClick_31 : decode prog_1_method_49_code 31 = .ok (.getfield 108, 3) := by decide +kernel
theorem dX4_bestClick_34 : decode prog_1_method_49_code 34 = .ok (.aload_n 3, 1) := by decide +kernel
theorem dX4_bestClick_35 : decode prog_1_method_49_code 35 = .ok (.getfield 338, 3) := by decide +kernel
theorem dX4_bestClick_38 : decode prog_1_method_49_code 38 = .ok (.invokevirtual 363, 3) := by decide +kernel
theorem dX4_bestClick_41 : decode prog_1_method_49_code 41 = .ok (.istore 6, 2) := by decide +kernel
theorem dX4_bestClick_43 : decode prog_1_method_49_code 43 = .ok (.iconst 1, 1) := by decide +kernel
theorem dX4_bestClick_44 : decode prog_1_method_49_code 44 = .ok (.istore 7, 2) := by decide +kernel
theorem dX4_bestClick_46 : decode prog_1_method_49_code 46 = .ok (.iload 7, 2) := by decide +kernel
theorem dX4_bestClick_48 : decode prog_1_method_49_code 48 = .ok (.sipush 136, 3) := by decide +kernel
theorem dX4_bestClick_51 : decode prog_1_method_49_code 51 = .ok (.if_icmp .gt 78, 3) := by decide +kernel
theorem dX4_bestClick_54 : decode prog_1_method_49_code 54 = .ok (.iconst (-1), 1) := by decide +kernel
theorem dX4_bestClick_55 : decode prog_1_method_49_code 55 = .ok (.istore 8, 2) := by decide +kernel
theorem dX4_bestClick_57 : decode prog_1_method_49_code 57 = .ok (.iload 8, 2) := by decide +kernel
theorem dX4_bestClick_59 : decode prog_1_method_49_code 59 = .ok (.iconst 1, 1) := by decide +kernel
theorem dX4_bestClick_60 : decode prog_1_method_49_code 60 = .ok (.if_icmp .gt 63, 3) := by decide +kernel
theorem dX4_bestClick_63 : decode prog_1_method_49_code 63 = .ok (.iload 4, 2) := by decide +kernel
theorem dX4_bestClick_65 : decode prog_1_method_49_code 65 = .ok (.iload 8, 2) := by decide +kernel
theorem dX4_bestClick_67 : decode prog_1_method_49_code 67 = .ok (.iload 7, 2) := by decide +kernel
theorem dX4_bestClick_69 : decode prog_1_method_49_code 69 = .ok (.imul, 1) := by decide +kernel
theorem dX4_bestClick_70 : decode prog_1_method_49_code 70 = .ok (.iadd, 1) := by decide +kernel
theorem dX4_bestClick_71 : decode prog_1_method_49_code 71 = .ok (.istore 9, 2) := by decide +kernel
theorem dX4_bestClick_73 : decode prog_1_method_49_code 73 = .ok (.iload 9, 2) := by decide +kernel
theorem dX4_bestClick_75 : decode prog_1_method_49_code 75 = .ok (.bipush 24, 2) := by decide +kernel
theorem dX4_bestClick_77 : decode prog_1_method_49_code 77 = .ok (.if_icmp .lt 11, 3) := by decide +kernel
theorem dX4_bestClick_80 : decode prog_1_method_49_code 80 = .ok (.iload 9, 2) := by decide +kernel
theorem dX4_bestClick_82 : decode prog_1_method_49_code 82 = .ok (.sipush 160, 3) := by decide +kernel
theorem dX4_bestClick_85 : decode prog_1_method_49_code 85 = .ok (.if_icmp .le 7, 3) := by decide +kernel
theorem dX4_bestClick_88 : decode prog_1_method_49_code 88 = .ok (.iconst 0, 1) := by decide +kernel
theorem dX4_bestClick_89 : decode prog_1_method_49_code 89 = .ok (.goto 11, 3) := by decide +kernel
theorem dX4_bestClick_92 : decode prog_1_method_49_code 92 = .ok (.aload_n 0, 1) := by decide +kernel
theorem dX4_bestClick_93 : decode prog_1_method_49_code 93 = .ok (.aload_n 3, 1) := by decide +kernel
theorem dX4_bestClick_94 : decode prog_1_method_49_code 94 = .ok (.iload_n 2, 1) := by decide +kernel
theorem dX4_bestClick_95 : decode prog_1_method_49_code 95 = .ok (.iload 9, 2) := by decide +kernel
theorem dX4_bestClick_97 : decode prog_1_method_49_code 97 = .ok (.invokevirtual 367, 3) := by decide +kernel
theorem dX4_bestClick_100 : decode prog_1_method_49_code 100 = .ok (.istore 10, 2) := by decide +kernel
theorem dX4_bestClick_102 : decode prog_1_method_49_code 102 = .ok (.iload 10, 2) := by decide +kernel
theorem dX4_bestClick_104 : decode prog_1_method_49_code 104 = .ok (.iload 6, 2) := by decide +kernel
theorem dX4_bestClick_106 : decode prog_1_method_49_code 106 = .ok (.if_icmp .le 11, 3) := by decide +kernel
theorem dX4_bestClick_109 : decode prog_1_method_49_code 109 = .ok (.iload 9, 2) := by decide +kernel
theorem dX4_bestClick_111 : decode prog_1_method_49_code 111 = .ok (.istore 5, 2) := by decide +kernel
theorem dX4_bestClick_113 : decode prog_1_method_49_code 113 = .ok (.iload 10, 2) := by decide +kernel
theorem dX4_bestClick_115 : decode prog_1_method_49_code 115 = .ok (.istore 6, 2) := by decide +kernel
theorem dX4_bestClick_117 : decode prog_1_method_49_code 117 = .ok (.iinc 8 2, 3) := by decide +kernel
theorem dX4_bestClick_120 : decode prog_1_method_49_code 120 = .ok (.goto (-63), 3) := by decide +kernel
theorem dX4_bestClick_123 : decode prog_1_method_49_code 123 = .ok (.iinc 7 1, 3) := by decide +kernel
theorem dX4_bestClick_126 : decode prog_1_method_49_code 126 = .ok (.goto (-80), 3) := by decide +kernel
theorem dX4_bestClick_129 : decode prog_1_method_49_code 129 = .ok (.iload 5, 2) := by decide +kernel
theorem dX4_bestClick_131 : decode prog_1_method_49_code 131 = .ok (.ireturn, 1) := by decide +kernel
theorem dX4_wouldBeMet_0 : decode prog_1_method_57_code 0 = .ok (.aload_n 1, 1) := by decide +kernel
theorem dX4_wouldBeMet_1 : decode prog_1_method_57_code 1 = .ok (.getfield 215, 3) := by decide +kernel
theorem dX4_wouldBeMet_4 : decode prog_1_method_57_code 4 = .ok (.iload_n 2, 1) := by decide +kernel
theorem dX4_wouldBeMet_5 : decode prog_1_method_57_code 5 = .ok (.iload_n 3, 1) := by decide +kernel
theorem dX4_wouldBeMet_6 : decode prog_1_method_57_code 6 = .ok (.invokestatic 95, 3) := by decide +kernel
theorem dX4_wouldBeMet_9 : decode prog_1_method_57_code 9 = .ok (.istore 4, 2) := by decide +kernel
theorem dX4_wouldBeMet_11 : decode prog_1_method_57_code 11 = .ok (.iconst 0, 1) := by decide +kernel
theorem dX4_wouldBeMet_12 : decode prog_1_method_57_code 12 = .ok (.istore 5, 2) := by decide +kernel
theorem dX4_wouldBeMet_14 : decode prog_1_method_57_code 14 = .ok (.iload 5, 2) := by decide +kernel
theorem dX4_wouldBeMet_16 : decode prog_1_method_57_code 16 = .ok (.aload_n 0, 1) := by decide +kernel
theorem dX4_wouldBeMet_17 : decode prog_1_method_57_code 17 = .ok (.getfield 20, 3) := by decide +kernel
theorem dX4_wouldBeMet_20 : decode prog_1_method_57_code 20 = .ok (.invokevirtual 51, 3) := by decide +kernel
theorem dX4_wouldBeMet_23 : decode prog_1_method_57_code 23 = .ok (.if_icmp .ge 54, 3) := by decide +kernel
theorem dX4_wouldBeMet_26 : decode prog_1_method_57_code 26 = .ok (.aload_n 0, 1) := by decide +kernel
theorem dX4_wouldBeMet_27 : decode prog_1_method_57_code 27 = .ok (.getfield 20, 3) := by decide +kernel
theorem dX4_wouldBeMet_30 : decode prog_1_method_57_code 30 = .ok (.iload 5, 2) := by decide +kernel
theorem dX4_wouldBeMet_32 : decode prog_1_method_57_code 32 = .ok (.invokevirtual 88, 3) := by decide +kernel
theorem dX4_wouldBeMet_35 : decode prog_1_method_57_code 35 = .ok (.checkcast 99, 3) := by decide +kernel
theorem dX4_wouldBeMet_38 : decode prog_1_method_57_code 38 = .ok (.astore 6, 2) := by decide +kernel
theorem dX4_wouldBeMet_40 : decode prog_1_method_57_code 40 = .ok (.aload 6, 2) := by decide +kernel
theorem dX4_wouldBeMet_42 : decode prog_1_method_57_code 42 = .ok (.iload 4, 2) := by decide +kernel
theorem dX4_wouldBeMet_44 : decode prog_1_method_57_code 44 = .ok (.aload_n 1, 1) := by decide +kernel
theorem dX4_wouldBeMet_45 : decode prog_1_method_57_code 45 = .ok (.getfield 218, 3) := by decide +kernel
theorem dX4_wouldBeMet_48 : decode prog_1_method_57_code 48 = .ok (.aload 6, 2) := by decide +kernel
theorem dX4_wouldBeMet_50 : decode prog_1_method_57_code 50 = .ok (.getfield 108, 3) := by decide +kernel
theorem dX4_wouldBeMet_53 : decode prog_1_method_57_code 53 = .ok (.iload_n 2, 1) := by decide +kernel
theorem dX4_wouldBeMet_54 : decode prog_1_method_57_code 54 = .ok (.iload_n 3, 1) := by decide +kernel
theorem dX4_wouldBeMet_55 : decode prog_1_method_57_code 55 = .ok (.invokestatic 95, 3) := by decide +kernel
theorem dX4_wouldBeMet_58 : decode prog_1_method_57_code 58 = .ok (.aload 6, 2) := by decide +kernel
theorem dX4_wouldBeMet_60 : decode prog_1_method_57_code 60 = .ok (.getfield 338, 3) := by decide +kernel
theorem dX4_wouldBeMet_63 : decode prog_1_method_57_code 63 = .ok (.invokevirtual 341, 3) := by decide +kernel
theorem dX4_wouldBeMet_66 : decode prog_1_method_57_code 66 = .ok (.ifCond .eq 5, 3) := by decide +kernel
theorem dX4_wouldBeMet_69 : decode prog_1_method_57_code 69 = .ok (.iconst 1, 1) := by decide +kernel
theorem dX4_wouldBeMet_70 : decode prog_1_method_57_code 70 = .ok (.ireturn, 1) := by decide +kernel
theorem dX4_wouldBeMet_71 : decode prog_1_method_57_code 71 = .ok (.iinc 5 1, 3) := by decide +kernel
theorem dX4_wouldBeMet_74 : decode prog_1_method_57_code 74 = .ok (.goto (-60), 3) := by decide +kernel
theorem dX4_wouldBeMet_77 : decode prog_1_method_57_code 77 = .ok (.iconst 0, 1) := by decide +kernel
theorem dX4_wouldBeMet_78 : decode prog_1_method_57_code 78 = .ok (.ireturn, 1) := by decide +kernel
theorem dX4_wouldMeet_0 : decode prog_1_method_50_code 0 = .ok (.aload_n 0, 1) := by decide +kernel
theorem dX4_wouldMeet_1 : decode prog_1_method_50_code 1 = .ok (.iload_n 1, 1) := by decide +kernel
theorem dX4_wouldMeet_2 : decode prog_1_method_50_code 2 = .ok (.iload_n 2, 1) := by decide +kernel
theorem dX4_wouldMeet_3 : decode prog_1_method_50_code 3 = .ok (.invokevirtual 76, 3) := by decide +kernel
theorem dX4_wouldMeet_6 : decode prog_1_method_50_code 6 = .ok (.iconst 0, 1) := by decide +kernel
theorem dX4_wouldMeet_7 : decode prog_1_method_50_code 7 = .ok (.istore_n 3, 1) := by decide +kernel
theorem dX4_wouldMeet_8 : decode prog_1_method_50_code 8 = .ok (.iconst 0, 1) := by decide +kernel
theorem dX4_wouldMeet_9 : decode prog_1_method_50_code 9 = .ok (.istore 4, 2) := by decide +kernel
theorem dX4_wouldMeet_11 : decode prog_1_method_50_code 11 = .ok (.iload 4, 2) := by decide +kernel
theorem dX4_wouldMeet_13 : decode prog_1_method_50_code 13 = .ok (.aload_n 0, 1) := by decide +kernel
theorem dX4_wouldMeet_14 : decode prog_1_method_50_code 14 = .ok (.getfield 12, 3) := by decide +kernel
theorem dX4_wouldMeet_17 : decode prog_1_method_50_code 17 = .ok (.invokevirtual 51, 3) := by decide +kernel
theorem dX4_wouldMeet_20 : decode prog_1_method_50_code 20 = .ok (.if_icmp .ge 58, 3) := by decide +kernel
theorem dX4_wouldMeet_23 : decode prog_1_method_50_code 23 = .ok (.aload_n 0, 1) := by decide +kernel
theorem dX4_wouldMeet_24 : decode prog_1_method_50_code 24 = .ok (.getfield 12, 3) := by decide +kernel
theorem dX4_wouldMeet_27 : decode prog_1_method_50_code 27 = .ok (.iload 4, 2) := by decide +kernel
theorem dX4_wouldMeet_29 : decode prog_1_method_50_code 29 = .ok (.invokevirtual 88, 3) := by decide +kernel
theorem dX4_wouldMeet_32 : decode prog_1_method_50_code 32 = .ok (.checkcast 60, 3) := by decide +kernel
theorem dX4_wouldMeet_35 : decode prog_1_method_50_code 35 = .ok (.astore 5, 2) := by decide +kernel
theorem dX4_wouldMeet_37 : decode prog_1_method_50_code 37 = .ok (.aload 5, 2) := by decide +kernel
theorem dX4_wouldMeet_39 : decode prog_1_method_50_code 39 = .ok (.getfield 221, 3) := by decide +kernel
theorem dX4_wouldMeet_42 : decode prog_1_method_50_code 42 = .ok (.ifCond .ne 30, 3) := by decide +kernel
theorem dX4_wouldMeet_45 : decode prog_1_method_50_code 45 = .ok (.aload 5, 2) := by decide +kernel
theorem dX4_wouldMeet_47 : decode prog_1_method_50_code 47 = .ok (.getfield 215, 3) := by decide +kernel
theorem dX4_wouldMeet_50 : decode prog_1_method_50_code 50 = .ok (.iload_n 1, 1) := by decide +kernel
theorem dX4_wouldMeet_51 : decode prog_1_method_50_code 51 = .ok (.iload_n 2, 1) := by decide +kernel
theorem dX4_wouldMeet_52 : decode prog_1_method_50_code 52 = .ok (.invokestatic 115, 3) := by decide +kernel
theorem dX4_wouldMeet_55 : decode prog_1_method_50_code 55 = .ok (.ifCond .ne 17, 3) := by decide +kernel
theorem dX4_wouldMeet_58 : decode prog_1_method_50_code 58 = .ok (.aload_n 0, 1) := by decide +kernel
theorem dX4_wouldMeet_59 : decode prog_1_method_50_code 59 = .ok (.aload 5, 2) := by decide +kernel
theorem dX4_wouldMeet_61 : decode prog_1_method_50_code 61 = .ok (.iload_n 1, 1) := by decide +kernel
theorem dX4_wouldMeet_62 : decode prog_1_method_50_code 62 = .ok (.iload_n 2, 1) := by decide +kernel
theorem dX4_wouldMeet_63 : decode prog_1_method_50_code 63 = .ok (.invokevirtual 371, 3) := by decide +kernel
theorem dX4_wouldMeet_66 : decode prog_1_method_50_code 66 = .ok (.ifCond .eq 6, 3) := by decide +kernel
theorem dX4_wouldMeet_69 : decode prog_1_method_50_code 69 = .ok (.iinc 3 1, 3) := by decide +kernel
theorem dX4_wouldMeet_72 : decode prog_1_method_50_code 72 = .ok (.iinc 4 1, 3) := by decide +kernel
theorem dX4_wouldMeet_75 : decode prog_1_method_50_code 75 = .ok (.goto (-64), 3) := by decide +kernel
theorem dX4_wouldMeet_78 : decode prog_1_method_50_code 78 = .ok (.iload_n 3, 1) := by decide +kernel
theorem dX4_wouldMeet_79 : decode prog_1_method_50_code 79 = .ok (.ireturn, 1) := by decide +kernel
theorem dX4_mixed_0 : decode prog_1_method_53_code 0 = .ok (.lload_n 0, 1) := by decide +kernel
theorem dX4_mixed_1 : decode prog_1_method_53_code 1 = .ok (.ldc2_w 412, 3) := by decide +kernel
theorem dX4_mixed_4 : decode prog_1_method_53_code 4 = .ok (.lmul, 1) := by decide +kernel
theorem dX4_mixed_5 : decode prog_1_method_53_code 5 = .ok (.lload_n 2, 1) := by decide +kernel
theorem dX4_mixed_6 : decode prog_1_method_53_code 6 = .ok (.ladd, 1) := by decide +kernel
theorem dX4_mixed_7 : decode prog_1_method_53_code 7 = .ok (.lreturn, 1) := by decide +kernel
theorem dX4_mixedCue_0 : decode prog_1_method_52_code 0 = .ok (.lload_n 1, 1) := by decide +kernel
theorem dX4_mixedCue_1 : decode prog_1_method_52_code 1 = .ok (.lstore 4, 2) := by decide +kernel
theorem dX4_mixedCue_3 : decode prog_1_method_52_code 3 = .ok (.iconst 0, 1) := by decide +kernel
theorem dX4_mixedCue_4 : decode prog_1_method_52_code 4 = .ok (.istore 6, 2) := by decide +kernel
theorem dX4_mixedCue_6 : decode prog_1_method_52_code 6 = .ok (.iload 6, 2) := by decide +kernel
theorem dX4_mixedCue_8 : decode prog_1_method_52_code 8 = .ok (.bipush 12, 2) := by decide +kernel
theorem dX4_mixedCue_10 : decode prog_1_method_52_code 10 = .ok (.if_icmp .gt 24, 3) := by decide +kernel
theorem dX4_mixedCue_13 : decode prog_1_method_52_code 13 = .ok (.lload 4, 2) := by decide +kernel
theorem dX4_mixedCue_15 : decode prog_1_method_52_code 15 = .ok (.aload_n 0, 1) := by decide +kernel
theorem dX4_mixedCue_16 : decode prog_1_method_52_code 16 = .ok (.iload_n 3, 1) := by decide +kernel
theorem dX4_mixedCue_17 : decode prog_1_method_52_code 17 = .ok (.iload 6, 2) := by decide +kernel
theorem dX4_mixedCue_19 : decode prog_1_method_52_code 19 = .ok (.invokevirtual 406, 3) := by decide +kernel
theorem dX4_mixedCue_22 : decode prog_1_method_52_code 22 = .ok (.i2l, 1) := by decide +kernel
theorem dX4_mixedCue_23 : decode prog_1_method_52_code 23 = .ok (.invokestatic 380, 3) := by decide +kernel
theorem dX4_mixedCue_26 : decode prog_1_method_52_code 26 = .ok (.lstore 4, 2) := by decide +kernel
theorem dX4_mixedCue_28 : decode prog_1_method_52_code 28 = .ok (.iinc 6 1, 3) := by decide +kernel
theorem dX4_mixedCue_31 : decode prog_1_method_52_code 31 = .ok (.goto (-25), 3) := by decide +kernel
theorem dX4_mixedCue_34 : decode prog_1_method_52_code 34 = .ok (.aload_n 0, 1) := by decide +kernel
theorem dX4_mixedCue_35 : decode prog_1_method_52_code 35 = .ok (.iload_n 3, 1) := by decide +kernel
theorem dX4_mixedCue_36 : decode prog_1_method_52_code 36 = .ok (.invokevirtual 136, 3) := by decide +kernel
theorem dX4_mixedCue_39 : decode prog_1_method_52_code 39 = .ok (.astore 6, 2) := by decide +kernel
theorem dX4_mixedCue_41 : decode prog_1_method_52_code 41 = .ok (.aload_n 0, 1) := by decide +kernel
theorem dX4_mixedCue_42 : decode prog_1_method_52_code 42 = .ok (.getfield 33, 3) := by decide +kernel
theorem dX4_mixedCue_45 : decode prog_1_method_52_code 45 = .ok (.aload 6, 2) := by decide +kernel
theorem dX4_mixedCue_47 : decode prog_1_method_52_code 47 = .ok (.aload_n 0, 1) := by decide +kernel
theorem dX4_mixedCue_48 : decode prog_1_method_52_code 48 = .ok (.getfield 23, 3) := by decide +kernel
theorem dX4_mixedCue_51 : decode prog_1_method_52_code 51 = .ok (.invokevirtual 349, 3) := by decide +kernel
theorem dX4_mixedCue_54 : decode prog_1_method_52_code 54 = .ok (.iconst 0, 1) := by decide +kernel
theorem dX4_mixedCue_55 : decode prog_1_method_52_code 55 = .ok (.istore 7, 2) := by decide +kernel
theorem dX4_mixedCue_57 : decode prog_1_method_52_code 57 = .ok (.iload 7, 2) := by decide +kernel
theorem dX4_mixedCue_59 : decode prog_1_method_52_code 59 = .ok (.aload 6, 2) := by decide +kernel
theorem dX4_mixedCue_61 : decode prog_1_method_52_code 61 = .ok (.getfield 143, 3) := by decide +kernel
theorem dX4_mixedCue_64 : decode prog_1_method_52_code 64 = .ok (.if_icmp .ge 58, 3) := by decide +kernel
theorem dX4_mixedCue_67 : decode prog_1_method_52_code 67 = .ok (.iconst 0, 1) := by decide +kernel
theorem dX4_mixedCue_68 : decode prog_1_method_52_code 68 = .ok (.istore 8, 2) := by decide +kernel
theorem dX4_mixedCue_70 : decode prog_1_method_52_code 70 = .ok (.iload 8, 2) := by decide +kernel
theorem dX4_mixedCue_72 : decode prog_1_method_52_code 72 = .ok (.iconst 3, 1) := by decide +kernel
theorem dX4_mixedCue_73 : decode prog_1_method_52_code 73 = .ok (.if_icmp .gt 26, 3) := by decide +kernel
theorem dX4_mixedCue_76 : decode prog_1_method_52_code 76 = .ok (.lload 4, 2) := by decide +kernel
theorem dX4_mixedCue_78 : decode prog_1_method_52_code 78 = .ok (.aload_n 0, 1) := by decide +kernel
theorem dX4_mixedCue_79 : decode prog_1_method_52_code 79 = .ok (.iload_n 3, 1) := by decide +kernel
theorem dX4_mixedCue_80 : decode prog_1_method_52_code 80 = .ok (.iload 7, 2) := by decide +kernel
theorem dX4_mixedCue_82 : decode prog_1_method_52_code 82 = .ok (.iload 8, 2) := by decide +kernel
theorem dX4_mixedCue_84 : decode prog_1_method_52_code 84 = .ok (.invokevirtual 409, 3) := by decide +kernel
theorem dX4_mixedCue_87 : decode prog_1_method_52_code 87 = .ok (.i2l, 1) := by decide +kernel
theorem dX4_mixedCue_88 : decode prog_1_method_52_code 88 = .ok (.invokestatic 380, 3) := by decide +kernel
theorem dX4_mixedCue_91 : decode prog_1_method_52_code 91 = .ok (.lstore 4, 2) := by decide +kernel
theorem dX4_mixedCue_93 : decode prog_1_method_52_code 93 = .ok (.iinc 8 1, 3) := by decide +kernel
theorem dX4_mixedCue_96 : decode prog_1_method_52_code 96 = .ok (.goto (-26), 3) := by decide +kernel
theorem dX4_mixedCue_99 : decode prog_1_method_52_code 99 = .ok (.lload 4, 2) := by decide +kernel
theorem dX4_mixedCue_101 : decode prog_1_method_52_code 101 = .ok (.aload_n 0, 1) := by decide +kernel
theorem dX4_mixedCue_102 : decode prog_1_method_52_code 102 = .ok (.getfield 33, 3) := by decide +kernel
theorem dX4_mixedCue_105 : decode prog_1_method_52_code 105 = .ok (.iload 7, 2) := by decide +kernel
theorem dX4_mixedCue_107 : decode prog_1_method_52_code 107 = .ok (.invokevirtual 356, 3) := by decide +kernel
theorem dX4_mixedCue_110 : decode prog_1_method_52_code 110 = .ok (.i2l, 1) := by decide +kernel
theorem dX4_mixedCue_111 : decode prog_1_method_52_code 111 = .ok (.invokestatic 380, 3) := by decide +kernel
theorem dX4_mixedCue_114 : decode prog_1_method_52_code 114 = .ok (.lstore 4, 2) := by decide +kernel
theorem dX4_mixedCue_116 : decode prog_1_method_52_code 116 = .ok (.iinc 7 1, 3) := by decide +kernel
theorem dX4_mixedCue_119 : decode prog_1_method_52_code 119 = .ok (.goto (-62), 3) := by decide +kernel
theorem dX4_mixedCue_122 : decode prog_1_method_52_code 122 = .ok (.lload 4, 2) := by decide +kernel
theorem dX4_mixedCue_124 : decode prog_1_method_52_code 124 = .ok (.aload_n 0, 1) := by decide +kernel
theorem dX4_mixedCue_125 : decode prog_1_method_52_code 125 = .ok (.getfield 33, 3) := by decide +kernel
theorem dX4_mixedCue_128 : decode prog_1_method_52_code 128 = .ok (.invokevirtual 353, 3) := by decide +kernel
theorem dX4_mixedCue_131 : decode prog_1_method_52_code 131 = .ok (.i2l, 1) := by decide +kernel
theorem dX4_mixedCue_132 : decode prog_1_method_52_code 132 = .ok (.invokestatic 380, 3) := by decide +kernel
theorem dX4_mixedCue_135 : decode prog_1_method_52_code 135 = .ok (.lreturn, 1) := by decide +kernel
theorem dX4_digest_0 : decode prog_1_method_51_code 0 = .ok (.ldc2_w 375, 3) := by decide +kernel
theorem dX4_digest_3 : decode prog_1_method_51_code 3 = .ok (.lstore_n 1, 1) := by decide +kernel
theorem dX4_digest_4 : decode prog_1_method_51_code 4 = .ok (.iconst 0, 1) := by decide +kernel
theorem dX4_digest_5 : decode prog_1_method_51_code 5 = .ok (.istore_n 3, 1) := by decide +kernel
theorem dX4_digest_6 : decode prog_1_method_51_code 6 = .ok (.iload_n 3, 1) := by decide +kernel
theorem dX4_digest_7 : decode prog_1_method_51_code 7 = .ok (.bipush 15, 2) := by decide +kernel
theorem dX4_digest_9 : decode prog_1_method_51_code 9 = .ok (.if_icmp .gt 20, 3) := by decide +kernel
theorem dX4_digest_12 : decode prog_1_method_51_code 12 = .ok (.lload_n 1, 1) := by decide +kernel
theorem dX4_digest_13 : decode prog_1_method_51_code 13 = .ok (.aload_n 0, 1) := by decide +kernel
theorem dX4_digest_14 : decode prog_1_method_51_code 14 = .ok (.iload_n 3, 1) := by decide +kernel
theorem dX4_digest_15 : decode prog_1_method_51_code 15 = .ok (.invokevirtual 377, 3) := by decide +kernel
theorem dX4_digest_18 : decode prog_1_method_51_code 18 = .ok (.i2l, 1) := by decide +kernel
theorem dX4_digest_19 : decode prog_1_method_51_code 19 = .ok (.invokestatic 380, 3) := by decide +kernel
theorem dX4_digest_22 : decode prog_1_method_51_code 22 = .ok (.lstore_n 1, 1) := by decide +kernel
theorem dX4_digest_23 : decode prog_1_method_51_code 23 = .ok (.iinc 3 1, 3) := by decide +kernel
theorem dX4_digest_26 : decode prog_1_method_51_code 26 = .ok (.goto (-20), 3) := by decide +kernel
theorem dX4_digest_29 : decode prog_1_method_51_code 29 = .ok (.iconst 0, 1) := by decide +kernel
theorem dX4_digest_30 : decode prog_1_method_51_code 30 = .ok (.istore_n 3, 1) := by decide +kernel
theorem dX4_digest_31 : decode prog_1_method_51_code 31 = .ok (.iload_n 3, 1) := by decide +kernel
theorem dX4_digest_32 : decode prog_1_method_51_code 32 = .ok (.aload_n 0, 1) := by decide +kernel
theorem dX4_digest_33 : decode prog_1_method_51_code 33 = .ok (.getfield 12, 3) := by decide +kernel
theorem dX4_digest_36 : decode prog_1_method_51_code 36 = .ok (.invokevirtual 51, 3) := by decide +kernel
theorem dX4_digest_39 : decode prog_1_method_51_code 39 = .ok (.if_icmp .ge 38, 3) := by decide +kernel
theorem dX4_digest_42 : decode prog_1_method_51_code 42 = .ok (.iconst 0, 1) := by decide +kernel
theorem dX4_digest_43 : decode prog_1_method_51_code 43 = .ok (.istore 4, 2) := by decide +kernel
theorem dX4_digest_45 : decode prog_1_method_51_code 45 = .ok (.iload 4, 2) := by decide +kernel
theorem dX4_digest_47 : decode prog_1_method_51_code 47 = .ok (.bipush 6, 2) := by decide +kernel
theorem dX4_digest_49 : decode prog_1_method_51_code 49 = .ok (.if_icmp .gt 22, 3) := by decide +kernel
theorem dX4_digest_52 : decode prog_1_method_51_code 52 = .ok (.lload_n 1, 1) := by decide +kernel
theorem dX4_digest_53 : decode prog_1_method_51_code 53 = .ok (.aload_n 0, 1) := by decide +kernel
theorem dX4_digest_54 : decode prog_1_method_51_code 54 = .ok (.iload_n 3, 1) := by decide +kernel
theorem dX4_digest_55 : decode prog_1_method_51_code 55 = .ok (.iload 4, 2) := by decide +kernel
theorem dX4_digest_57 : decode prog_1_method_51_code 57 = .ok (.invokevirtual 384, 3) := by decide +kernel
theorem dX4_digest_60 : decode prog_1_method_51_code 60 = .ok (.i2l, 1) := by decide +kernel
theorem dX4_digest_61 : decode prog_1_method_51_code 61 = .ok (.invokestatic 380, 3) := by decide +kernel
theorem dX4_digest_64 : decode prog_1_method_51_code 64 = .ok (.lstore_n 1, 1) := by decide +kernel
theorem dX4_digest_65 : decode prog_1_method_51_code 65 = .ok (.iinc 4 1, 3) := by decide +kernel
theorem dX4_digest_68 : decode prog_1_method_51_code 68 = .ok (.goto (-23), 3) := by decide +kernel
theorem dX4_digest_71 : decode prog_1_method_51_code 71 = .ok (.iinc 3 1, 3) := by decide +kernel
theorem dX4_digest_74 : decode prog_1_method_51_code 74 = .ok (.goto (-43), 3) := by decide +kernel
theorem dX4_digest_77 : decode prog_1_method_51_code 77 = .ok (.iconst 0, 1) := by decide +kernel
theorem dX4_digest_78 : decode prog_1_method_51_code 78 = .ok (.istore_n 3, 1) := by decide +kernel
theorem dX4_digest_79 : decode prog_1_method_51_code 79 = .ok (.iload_n 3, 1) := by decide +kernel
theorem dX4_digest_80 : decode prog_1_method_51_code 80 = .ok (.aload_n 0, 1) := by decide +kernel
theorem dX4_digest_81 : decode prog_1_method_51_code 81 = .ok (.getfield 20, 3) := by decide +kernel
theorem dX4_digest_84 : decode prog_1_method_51_code 84 = .ok (.invokevirtual 51, 3) := by decide +kernel
theorem dX4_digest_87 : decode prog_1_method_51_code 87 = .ok (.if_icmp .ge 16, 3) := by decide +kernel
theorem dX4_digest_90 : decode prog_1_method_51_code 90 = .ok (.aload_n 0, 1) := by decide +kernel
theorem dX4_digest_91 : decode prog_1_method_51_code 91 = .ok (.lload_n 1, 1) := by decide +kernel
theorem dX4_digest_92 : decode prog_1_method_51_code 92 = .ok (.iload_n 3, 1) := by decide +kernel
theorem dX4_digest_93 : decode prog_1_method_51_code 93 = .ok (.invokevirtual 387, 3) := by decide +kernel
theorem dX4_digest_96 : decode prog_1_method_51_code 96 = .ok (.lstore_n 1, 1) := by decide +kernel
theorem dX4_digest_97 : decode prog_1_method_51_code 97 = .ok (.iinc 3 1, 3) := by decide +kernel
theorem dX4_digest_100 : decode prog_1_method_51_code 100 = .ok (.goto (-21), 3) := by decide +kernel
theorem dX4_digest_103 : decode prog_1_method_51_code 103 = .ok (.iconst 0, 1) := by decide +kernel
theorem dX4_digest_104 : decode prog_1_method_51_code 104 = .ok (.istore_n 3, 1) := by decide +kernel
theorem dX4_digest_105 : decode prog_1_method_51_code 105 = .ok (.iload_n 3, 1) := by decide +kernel
theorem dX4_digest_106 : decode prog_1_method_51_code 106 = .ok (.aload_n 0, 1) := by decide +kernel
theorem dX4_digest_107 : decode prog_1_method_51_code 107 = .ok (.getfield 23, 3) := by decide +kernel
theorem dX4_digest_110 : decode prog_1_method_51_code 110 = .ok (.invokevirtual 51, 3) := by decide +kernel
theorem dX4_digest_113 : decode prog_1_method_51_code 113 = .ok (.if_icmp .ge 37, 3) := by decide +kernel
theorem dX4_digest_116 : decode prog_1_method_51_code 116 = .ok (.iconst 0, 1) := by decide +kernel
theorem dX4_digest_117 : decode prog_1_method_51_code 117 = .ok (.istore 4, 2) := by decide +kernel
theorem dX4_digest_119 : decode prog_1_method_51_code 119 = .ok (.iload 4, 2) := by decide +kernel
theorem dX4_digest_121 : decode prog_1_method_51_code 121 = .ok (.iconst 4, 1) := by decide +kernel
theorem dX4_digest_122 : decode prog_1_method_51_code 122 = .ok (.if_icmp .gt 22, 3) := by decide +kernel
theorem dX4_digest_125 : decode prog_1_method_51_code 125 = .ok (.lload_n 1, 1) := by decide +kernel
theorem dX4_digest_126 : decode prog_1_method_51_code 126 = .ok (.aload_n 0, 1) := by decide +kernel
theorem dX4_digest_127 : decode prog_1_method_51_code 127 = .ok (.iload_n 3, 1) := by decide +kernel
theorem dX4_digest_128 : decode prog_1_method_51_code 128 = .ok (.iload 4, 2) := by decide +kernel
theorem dX4_digest_130 : decode prog_1_method_51_code 130 = .ok (.invokevirtual 391, 3) := by decide +kernel
theorem dX4_digest_133 : decode prog_1_method_51_code 133 = .ok (.i2l, 1) := by decide +kernel
theorem dX4_digest_134 : decode prog_1_method_51_code 134 = .ok (.invokestatic 380, 3) := by decide +kernel
theorem dX4_digest_137 : decode prog_1_method_51_code 137 = .ok (.lstore_n 1, 1) := by decide +kernel
theorem dX4_digest_138 : decode prog_1_method_51_code 138 = .ok (.iinc 4 1, 3) := by decide +kernel
theorem dX4_digest_141 : decode prog_1_method_51_code 141 = .ok (.goto (-22), 3) := by decide +kernel
theorem dX4_digest_144 : decode prog_1_method_51_code 144 = .ok (.iinc 3 1, 3) := by decide +kernel
theorem dX4_digest_147 : decode prog_1_method_51_code 147 = .ok (.goto (-42), 3) := by decide +kernel
theorem dX4_digest_150 : decode prog_1_method_51_code 150 = .ok (.iconst 0, 1) := by decide +kernel
theorem dX4_digest_151 : decode prog_1_method_51_code 151 = .ok (.istore_n 3, 1) := by decide +kernel
theorem dX4_digest_152 : decode prog_1_method_51_code 152 = .ok (.iload_n 3, 1) := by decide +kernel
theorem dX4_digest_153 : decode prog_1_method_51_code 153 = .ok (.iconst 4, 1) := by decide +kernel
theorem dX4_digest_154 : decode prog_1_method_51_code 154 = .ok (.if_icmp .ge 20, 3) := by decide +kernel
theorem dX4_digest_157 : decode prog_1_method_51_code 157 = .ok (.lload_n 1, 1) := by decide +kernel
theorem dX4_digest_158 : decode prog_1_method_51_code 158 = .ok (.aload_n 0, 1) := by decide +kernel
theorem dX4_digest_159 : decode prog_1_method_51_code 159 = .ok (.iload_n 3, 1) := by decide +kernel
theorem dX4_digest_160 : decode prog_1_method_51_code 160 = .ok (.invokevirtual 394, 3) := by decide +kernel
theorem dX4_digest_163 : decode prog_1_method_51_code 163 = .ok (.i2l, 1) := by decide +kernel
theorem dX4_digest_164 : decode prog_1_method_51_code 164 = .ok (.invokestatic 380, 3) := by decide +kernel
theorem dX4_digest_167 : decode prog_1_method_51_code 167 = .ok (.lstore_n 1, 1) := by decide +kernel
theorem dX4_digest_168 : decode prog_1_method_51_code 168 = .ok (.iinc 3 1, 3) := by decide +kernel
theorem dX4_digest_171 : decode prog_1_method_51_code 171 = .ok (.goto (-19), 3) := by decide +kernel
theorem dX4_digest_174 : decode prog_1_method_51_code 174 = .ok (.lload_n 1, 1) := by decide +kernel
theorem dX4_digest_175 : decode prog_1_method_51_code 175 = .ok (.aload_n 0, 1) := by decide +kernel
theorem dX4_digest_176 : decode prog_1_method_51_code 176 = .ok (.aload_n 0, 1) := by decide +kernel
theorem dX4_digest_177 : decode prog_1_method_51_code 177 = .ok (.getfield 26, 3) := by decide +kernel
theorem dX4_digest_180 : decode prog_1_method_51_code 180 = .ok (.iconst 2, 1) := by decide +kernel
theorem dX4_digest_181 : decode prog_1_method_51_code 181 = .ok (.idiv, 1) := by decide +kernel
theorem dX4_digest_182 : decode prog_1_method_51_code 182 = .ok (.bipush 24, 2) := by decide +kernel
theorem dX4_digest_184 : decode prog_1_method_51_code 184 = .ok (.invokevirtual 397, 3) := by decide +kernel
theorem dX4_digest_187 : decode prog_1_method_51_code 187 = .ok (.i2l, 1) := by decide +kernel
theorem dX4_digest_188 : decode prog_1_method_51_code 188 = .ok (.invokestatic 380, 3) := by decide +kernel
theorem dX4_digest_191 : decode prog_1_method_51_code 191 = .ok (.lstore_n 1, 1) := by decide +kernel
theorem dX4_digest_192 : decode prog_1_method_51_code 192 = .ok (.aload_n 0, 1) := by decide +kernel
theorem dX4_digest_193 : decode prog_1_method_51_code 193 = .ok (.getfield 20, 3) := by decide +kernel
theorem dX4_digest_196 : decode prog_1_method_51_code 196 = .ok (.invokevirtual 400, 3) := by decide +kernel
theorem dX4_digest_199 : decode prog_1_method_51_code 199 = .ok (.ifCond .eq 7, 3) := by decide +kernel
theorem dX4_digest_202 : decode prog_1_method_51_code 202 = .ok (.lload_n 1, 1) := by decide +kernel
theorem dX4_digest_203 : decode prog_1_method_51_code 203 = .ok (.goto 13, 3) := by decide +kernel
theorem dX4_digest_206 : decode prog_1_method_51_code 206 = .ok (.lload_n 1, 1) := by decide +kernel
theorem dX4_digest_207 : decode prog_1_method_51_code 207 = .ok (.aload_n 0, 1) := by decide +kernel
theorem dX4_digest_208 : decode prog_1_method_51_code 208 = .ok (.iconst 0, 1) := by decide +kernel
theorem dX4_digest_209 : decode prog_1_method_51_code 209 = .ok (.invokevirtual 403, 3) := by decide +kernel
theorem dX4_digest_212 : decode prog_1_method_51_code 212 = .ok (.i2l, 1) := by decide +kernel
theorem dX4_digest_213 : decode prog_1_method_51_code 213 = .ok (.invokestatic 380, 3) := by decide +kernel
theorem dX4_digest_216 : decode prog_1_method_51_code 216 = .ok (.lreturn, 1) := by decide +kernel
theorem dL_below_0 : decode method_2_code 0 = .ok (.iload_n 0, 1) := by decide +kernel
theorem dL_below_1 : decode method_2_code 1 = .ok (.ldc 7, 2) := by decide +kernel
theorem dL_below_3 : decode method_2_code 3 = .ok (.iand, 1) := by decide +kernel
theorem dL_below_4 : decode method_2_code 4 = .ok (.iload_n 1, 1) := by decide +kernel
theorem dL_below_5 : decode method_2_code 5 = .ok (.irem, 1) := by decide +kernel
theorem dL_below_6 : decode method_2_code 6 = .ok (.ireturn, 1) := by decide +kernel
theorem dL_cell_0 : decode method_3_code 0 = .ok (.iload_n 1, 1) := by decide +kernel
theorem dL_cell_1 : decode method_3_code 1 = .ok (.aload_n 0, 1) := by decide +kernel
theorem dL_cell_2 : decode method_3_code 2 = .ok (.arraylength, 1) := by decide +kernel
theorem dL_cell_3 : decode method_3_code 3 = .ok (.if_icmp .ge 9, 3) := by decide +kernel
theorem dL_cell_6 : decode method_3_code 6 = .ok (.aload_n 0, 1) := by decide +kernel
theorem dL_cell_7 : decode method_3_code 7 = .ok (.iload_n 1, 1) := by decide +kernel
theorem dL_cell_8 : decode method_3_code 8 = .ok (.iaload, 1) := by decide +kernel
theorem dL_cell_9 : decode method_3_code 9 = .ok (.goto 9, 3) := by decide +kernel
theorem dL_cell_12 : decode method_3_code 12 = .ok (.ldc 8, 2) := by decide +kernel
theorem dL_cell_14 : decode method_3_code 14 = .ok (.iload_n 1, 1) := by decide +kernel
theorem dL_cell_15 : decode method_3_code 15 = .ok (.iconst 3, 1) := by decide +kernel
theorem dL_cell_16 : decode method_3_code 16 = .ok (.iadd, 1) := by decide +kernel
theorem dL_cell_17 : decode method_3_code 17 = .ok (.imul, 1) := by decide +kernel
theorem dL_cell_18 : decode method_3_code 18 = .ok (.ireturn, 1) := by decide +kernel
theorem dL_isBack_0 : decode method_5_code 0 = .ok (.iconst 4, 1) := by decide +kernel
theorem dL_isBack_1 : decode method_5_code 1 = .ok (.newarray .int, 2) := by decide +kernel
theorem dL_isBack_3 : decode method_5_code 3 = .ok (.astore_n 3, 1) := by decide +kernel
theorem dL_isBack_4 : decode method_5_code 4 = .ok (.iconst 4, 1) := by decide +kernel
theorem dL_isBack_5 : decode method_5_code 5 = .ok (.newarray .int, 2) := by decide +kernel
theorem dL_isBack_7 : decode method_5_code 7 = .ok (.astore 4, 2) := by decide +kernel
theorem dL_isBack_9 : decode method_5_code 9 = .ok (.bipush 8, 2) := by decide +kernel
theorem dL_isBack_11 : decode method_5_code 11 = .ok (.newarray .int, 2) := by decide +kernel
theorem dL_isBack_13 : decode method_5_code 13 = .ok (.astore 5, 2) := by decide +kernel
theorem dL_isBack_15 : decode method_5_code 15 = .ok (.iconst 0, 1) := by decide +kernel
theorem dL_isBack_16 : decode method_5_code 16 = .ok (.istore 6, 2) := by decide +kernel
theorem dL_isBack_18 : decode method_5_code 18 = .ok (.iconst 0, 1) := by decide +kernel
theorem dL_isBack_19 : decode method_5_code 19 = .ok (.istore 7, 2) := by decide +kernel
theorem dL_isBack_21 : decode method_5_code 21 = .ok (.iload 7, 2) := by decide +kernel
theorem dL_isBack_23 : decode method_5_code 23 = .ok (.iconst 4, 1) := by decide +kernel
theorem dL_isBack_24 : decode method_5_code 24 = .ok (.if_icmp .ge 62, 3) := by decide +kernel
theorem dL_isBack_27 : decode method_5_code 27 = .ok (.aload_n 3, 1) := by decide +kernel
theorem dL_isBack_28 : decode method_5_code 28 = .ok (.iload 7, 2) := by decide +kernel
theorem dL_isBack_30 : decode method_5_code 30 = .ok (.aload_n 0, 1) := by decide +kernel
theorem dL_isBack_31 : decode method_5_code 31 = .ok (.iload 7, 2) := by decide +kernel
theorem dL_isBack_33 : decode method_5_code 33 = .ok (.iconst 0, 1) := by decide +kernel
theorem dL_isBack_34 : decode method_5_code 34 = .ok (.invokevirtual 37, 3) := by decide +kernel
theorem dL_isBack_37 : decode method_5_code 37 = .ok (.iastore, 1) := by decide +kernel
theorem dL_isBack_38 : decode method_5_code 38 = .ok (.aload 4, 2) := by decide +kernel
theorem dL_isBack_40 : decode method_5_code 40 = .ok (.iload 7, 2) := by decide +kernel
theorem dL_isBack_42 : decode method_5_code 42 = .ok (.aload_n 0, 1) := by decide +kernel
theorem dL_isBack_43 : decode method_5_code 43 = .ok (.iload 7, 2) := by decide +kernel
theorem dL_isBack_45 : decode method_5_code 45 = .ok (.iconst 5, 1) := by decide +kernel
theorem dL_isBack_46 : decode method_5_code 46 = .ok (.invokevirtual 37, 3) := by decide +kernel
theorem dL_isBack_49 : decode method_5_code 49 = .ok (.iastore, 1) := by decide +kernel
theorem dL_isBack_50 : decode method_5_code 50 = .ok (.iload 6, 2) := by decide +kernel
theorem dL_isBack_52 : decode method_5_code 52 = .ok (.iload_n 1, 1) := by decide +kernel
theorem dL_isBack_53 : decode method_5_code 53 = .ok (.aload_n 3, 1) := by decide +kernel
theorem dL_isBack_54 : decode method_5_code 54 = .ok (.iload 7, 2) := by decide +kernel
theorem dL_isBack_56 : decode method_5_code 56 = .ok (.iaload, 1) := by decide +kernel
theorem dL_isBack_57 : decode method_5_code 57 = .ok (.if_icmp .le 19, 3) := by decide +kernel
theorem dL_isBack_60 : decode method_5_code 60 = .ok (.iload_n 1, 1) := by decide +kernel
theorem dL_isBack_61 : decode method_5_code 61 = .ok (.aload_n 0, 1) := by decide +kernel
theorem dL_isBack_62 : decode method_5_code 62 = .ok (.iload 7, 2) := by decide +kernel
theorem dL_isBack_64 : decode method_5_code 64 = .ok (.bipush 8, 2) := by decide +kernel
theorem dL_isBack_66 : decode method_5_code 66 = .ok (.invokevirtual 37, 3) := by decide +kernel
theorem dL_isBack_69 : decode method_5_code 69 = .ok (.if_icmp .ge 7, 3) := by decide +kernel
theorem dL_isBack_72 : decode method_5_code 72 = .ok (.iconst 1, 1) := by decide +kernel
theorem dL_isBack_73 : decode method_5_code 73 = .ok (.goto 4, 3) := by decide +kernel
theorem dL_isBack_76 : decode method_5_code 76 = .ok (.iconst 0, 1) := by decide +kernel
theorem dL_isBack_77 : decode method_5_code 77 = .ok (.iadd, 1) := by decide +kernel
theorem dL_isBack_78 : decode method_5_code 78 = .ok (.istore 6, 2) := by decide +kernel
theorem dL_isBack_80 : decode method_5_code 80 = .ok (.iinc 7 1, 3) := by decide +kernel
theorem dL_isBack_83 : decode method_5_code 83 = .ok (.goto (-62), 3) := by decide +kernel
theorem dL_isBack_86 : decode method_5_code 86 = .ok (.iconst 0, 1) := by decide +kernel
theorem dL_isBack_87 : decode method_5_code 87 = .ok (.istore 7, 2) := by decide +kernel
theorem dL_isBack_89 : decode method_5_code 89 = .ok (.iload 7, 2) := by decide +kernel
theorem dL_isBack_91 : decode method_5_code 91 = .ok (.bipush 8, 2) := by decide +kernel
theorem dL_isBack_93 : decode method_5_code 93 = .ok (.if_icmp .ge 21, 3) := by decide +kernel
theorem dL_isBack_96 : decode method_5_code 96 = .ok (.aload 5, 2) := by decide +kernel
theorem dL_isBack_98 : decode method_5_code 98 = .ok (.iload 7, 2) := by decide +kernel
theorem dL_isBack_100 : decode method_5_code 100 = .ok (.aload_n 0, 1) := by decide +kernel
theorem dL_isBack_101 : decode method_5_code 101 = .ok (.iload 7, 2) := by decide +kernel
theorem dL_isBack_103 : decode method_5_code 103 = .ok (.iconst 0, 1) := by decide +kernel
theorem dL_isBack_104 : decode method_5_code 104 = .ok (.invokevirtual 101, 3) := by decide +kernel
theorem dL_isBack_107 : decode method_5_code 107 = .ok (.iastore, 1) := by decide +kernel
theorem dL_isBack_108 : decode method_5_code 108 = .ok (.iinc 7 1, 3) := by decide +kernel
theorem dL_isBack_111 : decode method_5_code 111 = .ok (.goto (-22), 3) := by decide +kernel
theorem dL_isBack_114 : decode method_5_code 114 = .ok (.aload_n 0, 1) := by decide +kernel
theorem dL_isBack_115 : decode method_5_code 115 = .ok (.iconst 0, 1) := by decide +kernel
theorem dL_isBack_116 : decode method_5_code 116 = .ok (.invokevirtual 40, 3) := by decide +kernel
theorem dL_isBack_119 : decode method_5_code 119 = .ok (.istore 7, 2) := by decide +kernel
theorem dL_isBack_121 : decode method_5_code 121 = .ok (.aload_n 0, 1) := by decide +kernel
theorem dL_isBack_122 : decode method_5_code 122 = .ok (.iconst 3, 1) := by decide +kernel
theorem dL_isBack_123 : decode method_5_code 123 = .ok (.invokevirtual 40, 3) := by decide +kernel
theorem dL_isBack_126 : decode method_5_code 126 = .ok (.istore 8, 2) := by decide +kernel
theorem dL_isBack_128 : decode method_5_code 128 = .ok (.aload_n 0, 1) := by decide +kernel
theorem dL_isBack_129 : decode method_5_code 129 = .ok (.iconst 4, 1) := by decide +kernel
theorem dL_isBack_130 : decode method_5_code 130 = .ok (.invokevirtual 40, 3) := by decide +kernel
theorem dL_isBack_133 : decode method_5_code 133 = .ok (.istore 9, 2) := by decide +kernel
theorem dL_isBack_135 : decode method_5_code 135 = .ok (.aload_n 0, 1) := by decide +kernel
theorem dL_isBack_136 : decode method_5_code 136 = .ok (.bipush 8, 2) := by decide +kernel
theorem dL_isBack_138 : decode method_5_code 138 = .ok (.invokevirtual 40, 3) := by decide +kernel
theorem dL_isBack_141 : decode method_5_code 141 = .ok (.istore 10, 2) := by decide +kernel
theorem dL_isBack_143 : decode method_5_code 143 = .ok (.aload_n 0, 1) := by decide +kernel
theorem dL_isBack_144 : decode method_5_code 144 = .ok (.iload_n 1, 1) := by decide +kernel
theorem dL_isBack_145 : decode method_5_code 145 = .ok (.iload_n 2, 1) := by decide +kernel
theorem dL_isBack_146 : decode method_5_code 146 = .ok (.invokevirtual 98, 3) := by decide +kernel
theorem dL_isBack_149 : decode method_5_code 149 = .ok (.istore 11, 2) := by decide +kernel
theorem dL_isBack_151 : decode method_5_code 151 = .ok (.aload_n 0, 1) := by decide +kernel
theorem dL_isBack_152 : decode method_5_code 152 = .ok (.iload_n 1, 1) := by decide +kernel
theorem dL_isBack_153 : decode method_5_code 153 = .ok (.iload_n 2, 1) := by decide +kernel
theorem dL_isBack_154 : decode method_5_code 154 = .ok (.invokevirtual 104, 3) := by decide +kernel
theorem dL_isBack_157 : decode method_5_code 157 = .ok (.iload 6, 2) := by decide +kernel
theorem dL_isBack_159 : decode method_5_code 159 = .ok (.if_icmp .ne 37, 3) := by decide +kernel
theorem dL_isBack_162 : decode method_5_code 162 = .ok (.aload_n 0, 1) := by decide +kernel
theorem dL_isBack_163 : decode method_5_code 163 = .ok (.iconst 4, 1) := by decide +kernel
theorem dL_isBack_164 : decode method_5_code 164 = .ok (.invokevirtual 40, 3) := by decide +kernel
theorem dL_isBack_167 : decode method_5_code 167 = .ok (.iload 11, 2) := by decide +kernel
theorem dL_isBack_169 : decode method_5_code 169 = .ok (.if_icmp .ne 27, 3) := by decide +kernel
theorem dL_isBack_172 : decode method_5_code 172 = .ok (.aload_n 0, 1) := by decide +kernel
theorem dL_isBack_173 : decode method_5_code 173 = .ok (.iconst 0, 1) := by decide +kernel
theorem dL_isBack_174 : decode method_5_code 174 = .ok (.invokevirtual 40, 3) := by decide +kernel
theorem dL_isBack_177 : decode method_5_code 177 = .ok (.iload 7, 2) := by decide +kernel
theorem dL_isBack_179 : decode method_5_code 179 = .ok (.iload_n 2, 1) := by decide +kernel
theorem dL_isBack_180 : decode method_5_code 180 = .ok (.iadd, 1) := by decide +kernel
theorem dL_isBack_181 : decode method_5_code 181 = .ok (.if_icmp .ne 15, 3) := by decide +kernel
theorem dL_isBack_184 : decode method_5_code 184 = .ok (.aload_n 0, 1) := by decide +kernel
theorem dL_isBack_185 : decode method_5_code 185 = .ok (.iload_n 1, 1) := by decide +kernel
theorem dL_isBack_186 : decode method_5_code 186 = .ok (.iload_n 2, 1) := by decide +kernel
theorem dL_isBack_187 : decode method_5_code 187 = .ok (.ineg, 1) := by decide +kernel
theorem dL_isBack_188 : decode method_5_code 188 = .ok (.invokevirtual 98, 3) := by decide +kernel
theorem dL_isBack_191 : decode method_5_code 191 = .ok (.iload 9, 2) := by decide +kernel
theorem dL_isBack_193 : decode method_5_code 193 = .ok (.if_icmp .eq 5, 3) := by decide +kernel
theorem dL_isBack_196 : decode method_5_code 196 = .ok (.iconst 0, 1) := by decide +kernel
theorem dL_isBack_197 : decode method_5_code 197 = .ok (.ireturn, 1) := by decide +kernel
theorem dL_isBack_198 : decode method_5_code 198 = .ok (.aload_n 0, 1) := by decide +kernel
theorem dL_isBack_199 : decode method_5_code 199 = .ok (.iload_n 1, 1) := by decide +kernel
theorem dL_isBack_200 : decode method_5_code 200 = .ok (.iload_n 2, 1) := by decide +kernel
theorem dL_isBack_201 : decode method_5_code 201 = .ok (.ineg, 1) := by decide +kernel
theorem dL_isBack_202 : decode method_5_code 202 = .ok (.invokevirtual 104, 3) := by decide +kernel
theorem dL_isBack_205 : decode method_5_code 205 = .ok (.iload 6, 2) := by decide +kernel
theorem dL_isBack_207 : decode method_5_code 207 = .ok (.if_icmp .ne 44, 3) := by decide +kernel
theorem dL_isBack_210 : decode method_5_code 210 = .ok (.aload_n 0, 1) := by decide +kernel
theorem dL_isBack_211 : decode method_5_code 211 = .ok (.iconst 0, 1) := by decide +kernel
theorem dL_isBack_212 : decode method_5_code 212 = .ok (.invokevirtual 40, 3) := by decide +kernel
theorem dL_isBack_215 : decode method_5_code 215 = .ok (.iload 7, 2) := by decide +kernel
theorem dL_isBack_217 : decode method_5_code 217 = .ok (.if_icmp .ne 34, 3) := by decide +kernel
theorem dL_isBack_220 : decode method_5_code 220 = .ok (.aload_n 0, 1) := by decide +kernel
theorem dL_isBack_221 : decode method_5_code 221 = .ok (.iconst 3, 1) := by decide +kernel
theorem dL_isBack_222 : decode method_5_code 222 = .ok (.invokevirtual 40, 3) := by decide +kernel
theorem dL_isBack_225 : decode method_5_code 225 = .ok (.iload 8, 2) := by decide +kernel
theorem dL_isBack_227 : decode method_5_code 227 = .ok (.if_icmp .ne 24, 3) := by decide +kernel
theorem dL_isBack_230 : decode method_5_code 230 = .ok (.aload_n 0, 1) := by decide +kernel
theorem dL_isBack_231 : decode method_5_code 231 = .ok (.iconst 4, 1) := by decide +kernel
theorem dL_isBack_232 : decode method_5_code 232 = .ok (.invokevirtual 40, 3) := by decide +kernel
theorem dL_isBack_235 : decode method_5_code 235 = .ok (.iload 9, 2) := by decide +kernel
theorem dL_isBack_237 : decode method_5_code 237 = .ok (.if_icmp .ne 14, 3) := by decide +kernel
theorem dL_isBack_240 : decode method_5_code 240 = .ok (.aload_n 0, 1) := by decide +kernel
theorem dL_isBack_241 : decode method_5_code 241 = .ok (.bipush 8, 2) := by decide +kernel
theorem dL_isBack_243 : decode method_5_code 243 = .ok (.invokevirtual 40, 3) := by decide +kernel
theorem dL_isBack_246 : decode method_5_code 246 = .ok (.iload 10, 2) := by decide +kernel
theorem dL_isBack_248 : decode method_5_code 248 = .ok (.if_icmp .eq 5, 3) := by decide +kernel
theorem dL_isBack_251 : decode method_5_code 251 = .ok (.iconst 0, 1) := by decide +kernel
theorem dL_isBack_252 : decode method_5_code 252 = .ok (.ireturn, 1) := by decide +kernel
theorem dL_isBack_253 : decode method_5_code 253 = .ok (.iconst 0, 1) := by decide +kernel
theorem dL_isBack_254 : decode method_5_code 254 = .ok (.istore 12, 2) := by decide +kernel
theorem dL_isBack_256 : decode method_5_code 256 = .ok (.iload 12, 2) := by decide +kernel
theorem dL_isBack_258 : decode method_5_code 258 = .ok (.iconst 4, 1) := by decide +kernel
theorem dL_isBack_259 : decode method_5_code 259 = .ok (.if_icmp .ge 43, 3) := by decide +kernel
theorem dL_isBack_262 : decode method_5_code 262 = .ok (.aload_n 0, 1) := by decide +kernel
theorem dL_isBack_263 : decode method_5_code 263 = .ok (.iload 12, 2) := by decide +kernel
theorem dL_isBack_265 : decode method_5_code 265 = .ok (.iconst 0, 1) := by decide +kernel
theorem dL_isBack_266 : decode method_5_code 266 = .ok (.invokevirtual 37, 3) := by decide +kernel
theorem dL_isBack_269 : decode method_5_code 269 = .ok (.aload_n 3, 1) := by decide +kernel
theorem dL_isBack_270 : decode method_5_code 270 = .ok (.iload 12, 2) := by decide +kernel
theorem dL_isBack_272 : decode method_5_code 272 = .ok (.iaload, 1) := by decide +kernel
theorem dL_isBack_273 : decode method_5_code 273 = .ok (.if_icmp .ne 21, 3) := by decide +kernel
theorem dL_isBack_276 : decode method_5_code 276 = .ok (.aload_n 0, 1) := by decide +kernel
theorem dL_isBack_277 : decode method_5_code 277 = .ok (.iload 12, 2) := by decide +kernel
theorem dL_isBack_279 : decode method_5_code 279 = .ok (.iconst 5, 1) := by decide +kernel
theorem dL_isBack_280 : decode method_5_code 280 = .ok (.invokevirtual 37, 3) := by decide +kernel
theorem dL_isBack_283 : decode method_5_code 283 = .ok (.aload 4, 2) := by decide +kernel
theorem dL_isBack_285 : decode method_5_code 285 = .ok (.iload 12, 2) := by decide +kernel
theorem dL_isBack_287 : decode method_5_code 287 = .ok (.iaload, 1) := by decide +kernel
theorem dL_isBack_288 : decode method_5_code 288 = .ok (.isub, 1) := by decide +kernel
theorem dL_isBack_289 : decode method_5_code 289 = .ok (.iconst 2, 1) := by decide +kernel
theorem dL_isBack_290 : decode method_5_code 290 = .ok (.irem, 1) := by decide +kernel
theorem dL_isBack_291 : decode method_5_code 291 = .ok (.ifCond .eq 5, 3) := by decide +kernel
theorem dL_isBack_294 : decode method_5_code 294 = .ok (.iconst 0, 1) := by decide +kernel
theorem dL_isBack_295 : decode method_5_code 295 = .ok (.ireturn, 1) := by decide +kernel
theorem dL_isBack_296 : decode method_5_code 296 = .ok (.iinc 12 1, 3) := by decide +kernel
theorem dL_isBack_299 : decode method_5_code 299 = .ok (.goto (-43), 3) := by decide +kernel
theorem dL_isBack_302 : decode method_5_code 302 = .ok (.iconst 0, 1) := by decide +kernel
theorem dL_isBack_303 : decode method_5_code 303 = .ok (.istore 12, 2) := by decide +kernel
theorem dL_isBack_305 : decode method_5_code 305 = .ok (.iload 12, 2) := by decide +kernel
theorem dL_isBack_307 : decode method_5_code 307 = .ok (.bipush 8, 2) := by decide +kernel
theorem dL_isBack_309 : decode method_5_code 309 = .ok (.if_icmp .ge 26, 3) := by decide +kernel
theorem dL_isBack_312 : decode method_5_code 312 = .ok (.aload_n 0, 1) := by decide +kernel
theorem dL_isBack_313 : decode method_5_code 313 = .ok (.iload 12, 2) := by decide +kernel
theorem dL_isBack_315 : decode method_5_code 315 = .ok (.iconst 0, 1) := by decide +kernel
theorem dL_isBack_316 : decode method_5_code 316 = .ok (.invokevirtual 101, 3) := by decide +kernel
theorem dL_isBack_319 : decode method_5_code 319 = .ok (.aload 5, 2) := by decide +kernel
theorem dL_isBack_321 : decode method_5_code 321 = .ok (.iload 12, 2) := by decide +kernel
theorem dL_isBack_323 : decode method_5_code 323 = .ok (.iaload, 1) := by decide +kernel
theorem dL_isBack_324 : decode method_5_code 324 = .ok (.if_icmp .eq 5, 3) := by decide +kernel
theorem dL_isBack_327 : decode method_5_code 327 = .ok (.iconst 0, 1) := by decide +kernel
theorem dL_isBack_328 : decode method_5_code 328 = .ok (.ireturn, 1) := by decide +kernel
theorem dL_isBack_329 : decode method_5_code 329 = .ok (.iinc 12 1, 3) := by decide +kernel
theorem dL_isBack_332 : decode method_5_code 332 = .ok (.goto (-27), 3) := by decide +kernel
theorem dL_isBack_335 : decode method_5_code 335 = .ok (.iconst 1, 1) := by decide +kernel
theorem dL_isBack_336 : decode method_5_code 336 = .ok (.ireturn, 1) := by decide +kernel
theorem dL_areWell_0 : decode method_6_code 0 = .ok (.iconst 0, 1) := by decide +kernel
theorem dL_areWell_1 : decode method_6_code 1 = .ok (.istore_n 1, 1) := by decide +kernel
theorem dL_areWell_2 : decode method_6_code 2 = .ok (.iconst 0, 1) := by decide +kernel
theorem dL_areWell_3 : decode method_6_code 3 = .ok (.istore_n 2, 1) := by decide +kernel
theorem dL_areWell_4 : decode method_6_code 4 = .ok (.iconst 0, 1) := by decide +kernel
theorem dL_areWell_5 : decode method_6_code 5 = .ok (.istore_n 3, 1) := by decide +kernel
theorem dL_areWell_6 : decode method_6_code 6 = .ok (.iload_n 3, 1) := by decide +kernel
theorem dL_areWell_7 : decode method_6_code 7 = .ok (.iconst 4, 1) := by decide +kernel
theorem dL_areWell_8 : decode method_6_code 8 = .ok (.if_icmp .ge 182, 3) := by decide +kernel
theorem dL_areWell_11 : decode method_6_code 11 = .ok (.aload_n 0, 1) := by decide +kernel
theorem dL_areWell_12 : decode method_6_code 12 = .ok (.iload_n 3, 1) := by decide +kernel
theorem dL_areWell_13 : decode method_6_code 13 = .ok (.bipush 7, 2) := by decide +kernel
theorem dL_areWell_15 : decode method_6_code 15 = .ok (.invokevirtual 37, 3) := by decide +kernel
theorem dL_areWell_18 : decode method_6_code 18 = .ok (.istore 4, 2) := by decide +kernel
theorem dL_areWell_20 : decode method_6_code 20 = .ok (.aload_n 0, 1) := by decide +kernel
theorem dL_areWell_21 : decode method_6_code 21 = .ok (.iload_n 3, 1) := by decide +kernel
theorem dL_areWell_22 : decode method_6_code 22 = .ok (.iconst 0, 1) := by decide +kernel
theorem dL_areWell_23 : decode method_6_code 23 = .ok (.invokevirtual 37, 3) := by decide +kernel
theorem dL_areWell_26 : decode method_6_code 26 = .ok (.iconst 1, 1) := by decide +kernel
theorem dL_areWell_27 : decode method_6_code 27 = .ok (.isub, 1) := by decide +kernel
theorem dL_areWell_28 : decode method_6_code 28 = .ok (.istore 5, 2) := by decide +kernel
theorem dL_areWell_30 : decode method_6_code 30 = .ok (.iconst 0, 1) := by decide +kernel
theorem dL_areWell_31 : decode method_6_code 31 = .ok (.istore 6, 2) := by decide +kernel
theorem dL_areWell_33 : decode method_6_code 33 = .ok (.iload 6, 2) := by decide +kernel
theorem dL_areWell_35 : decode method_6_code 35 = .ok (.iload 4, 2) := by decide +kernel
theorem dL_areWell_37 : decode method_6_code 37 = .ok (.if_icmp .ge 31, 3) := by decide +kernel
theorem dL_areWell_40 : decode method_6_code 40 = .ok (.aload_n 0, 1) := by decide +kernel
theorem dL_areWell_41 : decode method_6_code 41 = .ok (.iload_n 3, 1) := by decide +kernel
theorem dL_areWell_42 : decode method_6_code 42 = .ok (.iload 6, 2) := by decide +kernel
theorem dL_areWell_44 : decode method_6_code 44 = .ok (.invokevirtual 107, 3) := by decide +kernel
theorem dL_areWell_47 : decode method_6_code 47 = .ok (.istore 7, 2) := by decide +kernel
theorem dL_areWell_49 : decode method_6_code 49 = .ok (.iload 7, 2) := by decide +kernel
theorem dL_areWell_51 : decode method_6_code 51 = .ok (.iload 5, 2) := by decide +kernel
theorem dL_areWell_53 : decode method_6_code 53 = .ok (.if_icmp .gt 5, 3) := by decide +kernel
theorem dL_areWell_56 : decode method_6_code 56 = .ok (.iconst 0, 1) := by decide +kernel
theorem dL_areWell_57 : decode method_6_code 57 = .ok (.ireturn, 1) := by decide +kernel
theorem dL_areWell_58 : decode method_6_code 58 = .ok (.iload 7, 2) := by decide +kernel
theorem dL_areWell_60 : decode method_6_code 60 = .ok (.istore 5, 2) := by decide +kernel
theorem dL_areWell_62 : decode method_6_code 62 = .ok (.iinc 6 1, 3) := by decide +kernel
theorem dL_areWell_65 : decode method_6_code 65 = .ok (.goto (-32), 3) := by decide +kernel
theorem dL_areWell_68 : decode method_6_code 68 = .ok (.aload_n 0, 1) := by decide +kernel
theorem dL_areWell_69 : decode method_6_code 69 = .ok (.iload_n 3, 1) := by decide +kernel
theorem dL_areWell_70 : decode method_6_code 70 = .ok (.bipush 8, 2) := by decide +kernel
theorem dL_areWell_72 : decode method_6_code 72 = .ok (.invokevirtual 37, 3) := by decide +kernel
theorem dL_areWell_75 : decode method_6_code 75 = .ok (.aload_n 0, 1) := by decide +kernel
theorem dL_areWell_76 : decode method_6_code 76 = .ok (.iconst 0, 1) := by decide +kernel
theorem dL_areWell_77 : decode method_6_code 77 = .ok (.invokevirtual 40, 3) := by decide +kernel
theorem dL_areWell_80 : decode method_6_code 80 = .ok (.if_icmp .le 7, 3) := by decide +kernel
theorem dL_areWell_83 : decode method_6_code 83 = .ok (.iconst 1, 1) := by decide +kernel
theorem dL_areWell_84 : decode method_6_code 84 = .ok (.goto 4, 3) := by decide +kernel
theorem dL_areWell_87 : decode method_6_code 87 = .ok (.iconst 0, 1) := by decide +kernel
theorem dL_areWell_88 : decode method_6_code 88 = .ok (.istore 6, 2) := by decide +kernel
theorem dL_areWell_90 : decode method_6_code 90 = .ok (.iload 5, 2) := by decide +kernel
theorem dL_areWell_92 : decode method_6_code 92 = .ok (.aload_n 0, 1) := by decide +kernel
theorem dL_areWell_93 : decode method_6_code 93 = .ok (.iload_n 3, 1) := by decide +kernel
theorem dL_areWell_94 : decode method_6_code 94 = .ok (.bipush 8, 2) := by decide +kernel
theorem dL_areWell_96 : decode method_6_code 96 = .ok (.invokevirtual 37, 3) := by decide +kernel
theorem dL_areWell_99 : decode method_6_code 99 = .ok (.if_icmp .ge 49, 3) := by decide +kernel
theorem dL_areWell_102 : decode method_6_code 102 = .ok (.aload_n 0, 1) := by decide +kernel
theorem dL_areWell_103 : decode method_6_code 103 = .ok (.iload_n 3, 1) := by decide +kernel
theorem dL_areWell_104 : decode method_6_code 104 = .ok (.bipush 9, 2) := by decide +kernel
theorem dL_areWell_106 : decode method_6_code 106 = .ok (.invokevirtual 37, 3) := by decide +kernel
theorem dL_areWell_109 : decode method_6_code 109 = .ok (.iconst 1, 1) := by decide +kernel
theorem dL_areWell_110 : decode method_6_code 110 = .ok (.if_icmp .ne 7, 3) := by decide +kernel
theorem dL_areWell_113 : decode method_6_code 113 = .ok (.iconst 1, 1) := by decide +kernel
theorem dL_areWell_114 : decode method_6_code 114 = .ok (.goto 4, 3) := by decide +kernel
theorem dL_areWell_117 : decode method_6_code 117 = .ok (.iconst 0, 1) := by decide +kernel
theorem dL_areWell_118 : decode method_6_code 118 = .ok (.iload 6, 2) := by decide +kernel
theorem dL_areWell_120 : decode method_6_code 120 = .ok (.if_icmp .ne 28, 3) := by decide +kernel
theorem dL_areWell_123 : decode method_6_code 123 = .ok (.aload_n 0, 1) := by decide +kernel
theorem dL_areWell_124 : decode method_6_code 124 = .ok (.iload_n 3, 1) := by decide +kernel
theorem dL_areWell_125 : decode method_6_code 125 = .ok (.bipush 12, 2) := by decide +kernel
theorem dL_areWell_127 : decode method_6_code 127 = .ok (.invokevirtual 37, 3) := by decide +kernel
theorem dL_areWell_130 : decode method_6_code 130 = .ok (.ifCond .le 20, 3) := by decide +kernel
theorem dL_areWell_133 : decode method_6_code 133 = .ok (.iload 6, 2) := by decide +kernel
theorem dL_areWell_135 : decode method_6_code 135 = .ok (.ifCond .ne 13, 3) := by decide +kernel
theorem dL_areWell_138 : decode method_6_code 138 = .ok (.aload_n 0, 1) := by decide +kernel
theorem dL_areWell_139 : decode method_6_code 139 = .ok (.iload_n 3, 1) := by decide +kernel
theorem dL_areWell_140 : decode method_6_code 140 = .ok (.bipush 11, 2) := by decide +kernel
theorem dL_areWell_142 : decode method_6_code 142 = .ok (.invokevirtual 37, 3) := by decide +kernel
theorem dL_areWell_145 : decode method_6_code 145 = .ok (.ifCond .ne 5, 3) := by decide +kernel
theorem dL_areWell_148 : decode method_6_code 148 = .ok (.iconst 0, 1) := by decide +kernel
theorem dL_areWell_149 : decode method_6_code 149 = .ok (.ireturn, 1) := by decide +kernel
theorem dL_areWell_150 : decode method_6_code 150 = .ok (.iload_n 1, 1) := by decide +kernel
theorem dL_areWell_151 : decode method_6_code 151 = .ok (.aload_n 0, 1) := by decide +kernel
theorem dL_areWell_152 : decode method_6_code 152 = .ok (.iload_n 3, 1) := by decide +kernel
theorem dL_areWell_153 : decode method_6_code 153 = .ok (.bipush 12, 2) := by decide +kernel
theorem dL_areWell_155 : decode method_6_code 155 = .ok (.invokevirtual 37, 3) := by decide +kernel
theorem dL_areWell_158 : decode method_6_code 158 = .ok (.iconst 1, 1) := by decide +kernel
theorem dL_areWell_159 : decode method_6_code 159 = .ok (.iconst 2, 1) := by decide +kernel
theorem dL_areWell_160 : decode method_6_code 160 = .ok (.aload_n 0, 1) := by decide +kernel
theorem dL_areWell_161 : decode method_6_code 161 = .ok (.iload_n 3, 1) := by decide +kernel
theorem dL_areWell_162 : decode method_6_code 162 = .ok (.iconst 4, 1) := by decide +kernel
theorem dL_areWell_163 : decode method_6_code 163 = .ok (.invokevirtual 37, 3) := by decide +kernel
theorem dL_areWell_166 : decode method_6_code 166 = .ok (.imul, 1) := by decide +kernel
theorem dL_areWell_167 : decode method_6_code 167 = .ok (.iadd, 1) := by decide +kernel
theorem dL_areWell_168 : decode method_6_code 168 = .ok (.imul, 1) := by decide +kernel
theorem dL_areWell_169 : decode method_6_code 169 = .ok (.iadd, 1) := by decide +kernel
theorem dL_areWell_170 : decode method_6_code 170 = .ok (.istore_n 1, 1) := by decide +kernel
theorem dL_areWell_171 : decode method_6_code 171 = .ok (.iload_n 2, 1) := by decide +kernel
theorem dL_areWell_172 : decode method_6_code 172 = .ok (.iload 6, 2) := by decide +kernel
theorem dL_areWell_174 : decode method_6_code 174 = .ok (.ifCond .eq 7, 3) := by decide +kernel
theorem dL_areWell_177 : decode method_6_code 177 = .ok (.iconst 1, 1) := by decide +kernel
theorem dL_areWell_178 : decode method_6_code 178 = .ok (.goto 4, 3) := by decide +kernel
theorem dL_areWell_181 : decode method_6_code 181 = .ok (.iconst 0, 1) := by decide +kernel
theorem dL_areWell_182 : decode method_6_code 182 = .ok (.iadd, 1) := by decide +kernel
theorem dL_areWell_183 : decode method_6_code 183 = .ok (.istore_n 2, 1) := by decide +kernel
theorem dL_areWell_184 : decode method_6_code 184 = .ok (.iinc 3 1, 3) := by decide +kernel
theorem dL_areWell_187 : decode method_6_code 187 = .ok (.goto (-181), 3) := by decide +kernel
theorem dL_areWell_190 : decode method_6_code 190 = .ok (.iconst 0, 1) := by decide +kernel
theorem dL_areWell_191 : decode method_6_code 191 = .ok (.istore_n 3, 1) := by decide +kernel
theorem dL_areWell_192 : decode method_6_code 192 = .ok (.iconst 0, 1) := by decide +kernel
theorem dL_areWell_193 : decode method_6_code 193 = .ok (.istore 4, 2) := by decide +kernel
theorem dL_areWell_195 : decode method_6_code 195 = .ok (.iload 4, 2) := by decide +kernel
theorem dL_areWell_197 : decode method_6_code 197 = .ok (.bipush 8, 2) := by decide +kernel
theorem dL_areWell_199 : decode method_6_code 199 = .ok (.if_icmp .ge 94, 3) := by decide +kernel
theorem dL_areWell_202 : decode method_6_code 202 = .ok (.aload_n 0, 1) := by decide +kernel
theorem dL_areWell_203 : decode method_6_code 203 = .ok (.iload 4, 2) := by decide +kernel
theorem dL_areWell_205 : decode method_6_code 205 = .ok (.iconst 4, 1) := by decide +kernel
theorem dL_areWell_206 : decode method_6_code 206 = .ok (.invokevirtual 101, 3) := by decide +kernel
theorem dL_areWell_209 : decode method_6_code 209 = .ok (.ifCond .ne 6, 3) := by decide +kernel
theorem dL_areWell_212 : decode method_6_code 212 = .ok (.goto 75, 3) := by decide +kernel
theorem dL_areWell_215 : decode method_6_code 215 = .ok (.iinc 3 1, 3) := by decide +kernel
theorem dL_areWell_218 : decode method_6_code 218 = .ok (.aload_n 0, 1) := by decide +kernel
theorem dL_areWell_219 : decode method_6_code 219 = .ok (.aload_n 0, 1) := by decide +kernel
theorem dL_areWell_220 : decode method_6_code 220 = .ok (.iload 4, 2) := by decide +kernel
theorem dL_areWell_222 : decode method_6_code 222 = .ok (.iconst 5, 1) := by decide +kernel
theorem dL_areWell_223 : decode method_6_code 223 = .ok (.invokevirtual 101, 3) := by decide +kernel
theorem dL_areWell_226 : decode method_6_code 226 = .ok (.aload_n 0, 1) := by decide +kernel
theorem dL_areWell_227 : decode method_6_code 227 = .ok (.iload 4, 2) := by decide +kernel
theorem dL_areWell_229 : decode method_6_code 229 = .ok (.bipush 6, 2) := by decide +kernel
theorem dL_areWell_231 : decode method_6_code 231 = .ok (.invokevirtual 101, 3) := by decide +kernel
theorem dL_areWell_234 : decode method_6_code 234 = .ok (.invokevirtual 107, 3) := by decide +kernel
theorem dL_areWell_237 : decode method_6_code 237 = .ok (.aload_n 0, 1) := by decide +kernel
theorem dL_areWell_238 : decode method_6_code 238 = .ok (.iload 4, 2) := by decide +kernel
theorem dL_areWell_240 : decode method_6_code 240 = .ok (.iconst 0, 1) := by decide +kernel
theorem dL_areWell_241 : decode method_6_code 241 = .ok (.invokevirtual 101, 3) := by decide +kernel
theorem dL_areWell_244 : decode method_6_code 244 = .ok (.isub, 1) := by decide +kernel
theorem dL_areWell_245 : decode method_6_code 245 = .ok (.invokestatic 57, 3) := by decide +kernel
theorem dL_areWell_248 : decode method_6_code 248 = .ok (.istore 5, 2) := by decide +kernel
theorem dL_areWell_250 : decode method_6_code 250 = .ok (.aload_n 0, 1) := by decide +kernel
theorem dL_areWell_251 : decode method_6_code 251 = .ok (.iload 4, 2) := by decide +kernel
theorem dL_areWell_253 : decode method_6_code 253 = .ok (.iconst 2, 1) := by decide +kernel
theorem dL_areWell_254 : decode method_6_code 254 = .ok (.invokevirtual 101, 3) := by decide +kernel
theorem dL_areWell_257 : decode method_6_code 257 = .ok (.iconst 1, 1) := by decide +kernel
theorem dL_areWell_258 : decode method_6_code 258 = .ok (.if_icmp .eq 27, 3) := by decide +kernel
theorem dL_areWell_261 : decode method_6_code 261 = .ok (.iload 5, 2) := by decide +kernel
theorem dL_areWell_263 : decode method_6_code 263 = .ok (.aload_n 0, 1) := by decide +kernel
theorem dL_areWell_264 : decode method_6_code 264 = .ok (.iload 4, 2) := by decide +kernel
theorem dL_areWell_266 : decode method_6_code 266 = .ok (.iconst 3, 1) := by decide +kernel
theorem dL_areWell_267 : decode method_6_code 267 = .ok (.invokevirtual 101, 3) := by decide +kernel
theorem dL_areWell_270 : decode method_6_code 270 = .ok (.if_icmp .ne 15, 3) := by decide +kernel
theorem dL_areWell_273 : decode method_6_code 273 = .ok (.iload 5, 2) := by decide +kernel
theorem dL_areWell_275 : decode method_6_code 275 = .ok (.aload_n 0, 1) := by decide +kernel
theorem dL_areWell_276 : decode method_6_code 276 = .ok (.iload 4, 2) := by decide +kernel
theorem dL_areWell_278 : decode method_6_code 278 = .ok (.iconst 1, 1) := by decide +kernel
theorem dL_areWell_279 : decode method_6_code 279 = .ok (.invokevirtual 101, 3) := by decide +kernel
theorem dL_areWell_282 : decode method_6_code 282 = .ok (.if_icmp .le 5, 3) := by decide +kernel
theorem dL_areWell_285 : decode method_6_code 285 = .ok (.iconst 0, 1) := by decide +kernel
theorem dL_areWell_286 : decode method_6_code 286 = .ok (.ireturn, 1) := by decide +kernel
theorem dL_areWell_287 : decode method_6_code 287 = .ok (.iinc 4 1, 3) := by decide +kernel
theorem dL_areWell_290 : decode method_6_code 290 = .ok (.goto (-95), 3) := by decide +kernel
theorem dL_areWell_293 : decode method_6_code 293 = .ok (.aload_n 0, 1) := by decide +kernel
theorem dL_areWell_294 : decode method_6_code 294 = .ok (.iconst 4, 1) := by decide +kernel
theorem dL_areWell_295 : decode method_6_code 295 = .ok (.invokevirtual 40, 3) := by decide +kernel
theorem dL_areWell_298 : decode method_6_code 298 = .ok (.iload_n 3, 1) := by decide +kernel
theorem dL_areWell_299 : decode method_6_code 299 = .ok (.if_icmp .ne 65, 3) := by decide +kernel
theorem dL_areWell_302 : decode method_6_code 302 = .ok (.aload_n 0, 1) := by decide +kernel
theorem dL_areWell_303 : decode method_6_code 303 = .ok (.bipush 7, 2) := by decide +kernel
theorem dL_areWell_305 : decode method_6_code 305 = .ok (.invokevirtual 40, 3) := by decide +kernel
theorem dL_areWell_308 : decode method_6_code 308 = .ok (.iload_n 2, 1) := by decide +kernel
theorem dL_areWell_309 : decode method_6_code 309 = .ok (.if_icmp .ne 55, 3) := by decide +kernel
theorem dL_areWell_312 : decode method_6_code 312 = .ok (.aload_n 0, 1) := by decide +kernel
theorem dL_areWell_313 : decode method_6_code 313 = .ok (.bipush 15, 2) := by decide +kernel
theorem dL_areWell_315 : decode method_6_code 315 = .ok (.invokevirtual 40, 3) := by decide +kernel
theorem dL_areWell_318 : decode method_6_code 318 = .ok (.iload_n 1, 1) := by decide +kernel
theorem dL_areWell_319 : decode method_6_code 319 = .ok (.if_icmp .ne 45, 3) := by decide +kernel
theorem dL_areWell_322 : decode method_6_code 322 = .ok (.aload_n 0, 1) := by decide +kernel
theorem dL_areWell_323 : decode method_6_code 323 = .ok (.bipush 13, 2) := by decide +kernel
theorem dL_areWell_325 : decode method_6_code 325 = .ok (.invokevirtual 40, 3) := by decide +kernel
theorem dL_areWell_328 : decode method_6_code 328 = .ok (.bipush 120, 2) := by decide +kernel
theorem dL_areWell_330 : decode method_6_code 330 = .ok (.if_icmp .gt 34, 3) := by decide +kernel
theorem dL_areWell_333 : decode method_6_code 333 = .ok (.aload_n 0, 1) := by decide +kernel
theorem dL_areWell_334 : decode method_6_code 334 = .ok (.iconst 0, 1) := by decide +kernel
theorem dL_areWell_335 : decode method_6_code 335 = .ok (.invokevirtual 110, 3) := by decide +kernel
theorem dL_areWell_338 : decode method_6_code 338 = .ok (.aload_n 0, 1) := by decide +kernel
theorem dL_areWell_339 : decode method_6_code 339 = .ok (.iconst 1, 1) := by decide +kernel
theorem dL_areWell_340 : decode method_6_code 340 = .ok (.invokevirtual 110, 3) := by decide +kernel
theorem dL_areWell_343 : decode method_6_code 343 = .ok (.iadd, 1) := by decide +kernel
theorem dL_areWell_344 : decode method_6_code 344 = .ok (.aload_n 0, 1) := by decide +kernel
theorem dL_areWell_345 : decode method_6_code 345 = .ok (.iconst 2, 1) := by decide +kernel
theorem dL_areWell_346 : decode method_6_code 346 = .ok (.invokevirtual 110, 3) := by decide +kernel
theorem dL_areWell_349 : decode method_6_code 349 = .ok (.iadd, 1) := by decide +kernel
theorem dL_areWell_350 : decode method_6_code 350 = .ok (.aload_n 0, 1) := by decide +kernel
theorem dL_areWell_351 : decode method_6_code 351 = .ok (.iconst 3, 1) := by decide +kernel
theorem dL_areWell_352 : decode method_6_code 352 = .ok (.invokevirtual 110, 3) := by decide +kernel
theorem dL_areWell_355 : decode method_6_code 355 = .ok (.iadd, 1) := by decide +kernel
theorem dL_areWell_356 : decode method_6_code 356 = .ok (.iload_n 1, 1) := by decide +kernel
theorem dL_areWell_357 : decode method_6_code 357 = .ok (.if_icmp .ne 7, 3) := by decide +kernel
theorem dL_areWell_360 : decode method_6_code 360 = .ok (.iconst 1, 1) := by decide +kernel
theorem dL_areWell_361 : decode method_6_code 361 = .ok (.goto 4, 3) := by decide +kernel
theorem dL_areWell_364 : decode method_6_code 364 = .ok (.iconst 0, 1) := by decide +kernel
theorem dL_areWell_365 : decode method_6_code 365 = .ok (.ireturn, 1) := by decide +kernel
theorem dL_law_0 : decode code 0 = .ok (.new 9, 3) := by decide +kernel
theorem dL_law_3 : decode code 3 = .ok (.dup, 1) := by decide +kernel
theorem dL_law_4 : decode code 4 = .ok (.invokespecial 11, 3) := by decide +kernel
theorem dL_law_7 : decode code 7 = .ok (.astore_n 1, 1) := by decide +kernel
theorem dL_law_8 : decode code 8 = .ok (.iconst 0, 1) := by decide +kernel
theorem dL_law_9 : decode code 9 = .ok (.istore_n 2, 1) := by decide +kernel
theorem dL_law_10 : decode code 10 = .ok (.iload_n 2, 1) := by decide +kernel
theorem dL_law_11 : decode code 11 = .ok (.iconst 2, 1) := by decide +kernel
theorem dL_law_12 : decode code 12 = .ok (.if_icmp .ge 33, 3) := by decide +kernel
theorem dL_law_15 : decode code 15 = .ok (.aload_n 1, 1) := by decide +kernel
theorem dL_law_16 : decode code 16 = .ok (.aload_n 0, 1) := by decide +kernel
theorem dL_law_17 : decode code 17 = .ok (.iload_n 2, 1) := by decide +kernel
theorem dL_law_18 : decode code 18 = .ok (.invokestatic 12, 3) := by decide +kernel
theorem dL_law_21 : decode code 21 = .ok (.bipush 9, 2) := by decide +kernel
theorem dL_law_23 : decode code 23 = .ok (.imul, 1) := by decide +kernel
theorem dL_law_24 : decode code 24 = .ok (.sipush 2401, 3) := by decide +kernel
theorem dL_law_27 : decode code 27 = .ok (.invokestatic 18, 3) := by decide +kernel
theorem dL_law_30 : decode code 30 = .ok (.invokevirtual 22, 3) := by decide +kernel
theorem dL_law_33 : decode code 33 = .ok (.iload_n 2, 1) := by decide +kernel
theorem dL_law_34 : decode code 34 = .ok (.if_icmp .eq 5, 3) := by decide +kernel
theorem dL_law_37 : decode code 37 = .ok (.iconst 0, 1) := by decide +kernel
theorem dL_law_38 : decode code 38 = .ok (.ireturn, 1) := by decide +kernel
theorem dL_law_39 : decode code 39 = .ok (.iinc 2 1, 3) := by decide +kernel
theorem dL_law_42 : decode code 42 = .ok (.goto (-32), 3) := by decide +kernel
theorem dL_law_45 : decode code 45 = .ok (.iconst 0, 1) := by decide +kernel
theorem dL_law_46 : decode code 46 = .ok (.istore_n 2, 1) := by decide +kernel
theorem dL_law_47 : decode code 47 = .ok (.iload_n 2, 1) := by decide +kernel
theorem dL_law_48 : decode code 48 = .ok (.bipush 8, 2) := by decide +kernel
theorem dL_law_50 : decode code 50 = .ok (.if_icmp .ge 45, 3) := by decide +kernel
theorem dL_law_53 : decode code 53 = .ok (.aload_n 1, 1) := by decide +kernel
theorem dL_law_54 : decode code 54 = .ok (.aload_n 0, 1) := by decide +kernel
theorem dL_law_55 : decode code 55 = .ok (.iload_n 2, 1) := by decide +kernel
theorem dL_law_56 : decode code 56 = .ok (.invokestatic 12, 3) := by decide +kernel
theorem dL_law_59 : decode code 59 = .ok (.bipush 7, 2) := by decide +kernel
theorem dL_law_61 : decode code 61 = .ok (.imul, 1) := by decide +kernel
theorem dL_law_62 : decode code 62 = .ok (.sipush 2400, 3) := by decide +kernel
theorem dL_law_65 : decode code 65 = .ok (.invokestatic 18, 3) := by decide +kernel
theorem dL_law_68 : decode code 68 = .ok (.aload_n 0, 1) := by decide +kernel
theorem dL_law_69 : decode code 69 = .ok (.iload_n 2, 1) := by decide +kernel
theorem dL_law_70 : decode code 70 = .ok (.invokestatic 12, 3) := by decide +kernel
theorem dL_law_73 : decode code 73 = .ok (.iconst 3, 1) := by decide +kernel
theorem dL_law_74 : decode code 74 = .ok (.ishr, 1) := by decide +kernel
theorem dL_law_75 : decode code 75 = .ok (.bipush 10, 2) := by decide +kernel
theorem dL_law_77 : decode code 77 = .ok (.invokestatic 18, 3) := by decide +kernel
theorem dL_law_80 : decode code 80 = .ok (.invokevirtual 26, 3) := by decide +kernel
theorem dL_law_83 : decode code 83 = .ok (.iload_n 2, 1) := by decide +kernel
theorem dL_law_84 : decode code 84 = .ok (.if_icmp .eq 5, 3) := by decide +kernel
theorem dL_law_87 : decode code 87 = .ok (.iconst 0, 1) := by decide +kernel
theorem dL_law_88 : decode code 88 = .ok (.ireturn, 1) := by decide +kernel
theorem dL_law_89 : decode code 89 = .ok (.iinc 2 1, 3) := by decide +kernel
theorem dL_law_92 : decode code 92 = .ok (.goto (-45), 3) := by decide +kernel
theorem dL_law_95 : decode code 95 = .ok (.iconst 0, 1) := by decide +kernel
theorem dL_law_96 : decode code 96 = .ok (.istore_n 2, 1) := by decide +kernel
theorem dL_law_97 : decode code 97 = .ok (.iload_n 2, 1) := by decide +kernel
theorem dL_law_98 : decode code 98 = .ok (.iconst 4, 1) := by decide +kernel
theorem dL_law_99 : decode code 99 = .ok (.if_icmp .ge 95, 3) := by decide +kernel
theorem dL_law_102 : decode code 102 = .ok (.aload_n 0, 1) := by decide +kernel
theorem dL_law_103 : decode code 103 = .ok (.iload_n 2, 1) := by decide +kernel
theorem dL_law_104 : decode code 104 = .ok (.iconst 4, 1) := by decide +kernel
theorem dL_law_105 : decode code 105 = .ok (.iadd, 1) := by decide +kernel
theorem dL_law_106 : decode code 106 = .ok (.invokestatic 12, 3) := by decide +kernel
theorem dL_law_109 : decode code 109 = .ok (.istore_n 3, 1) := by decide +kernel
theorem dL_law_110 : decode code 110 = .ok (.aload_n 1, 1) := by decide +kernel
theorem dL_law_111 : decode code 111 = .ok (.iload_n 3, 1) := by decide +kernel
theorem dL_law_112 : decode code 112 = .ok (.iconst 5, 1) := by decide +kernel
theorem dL_law_113 : decode code 113 = .ok (.imul, 1) := by decide +kernel
theorem dL_law_114 : decode code 114 = .ok (.sipush 2300, 3) := by decide +kernel
theorem dL_law_117 : decode code 117 = .ok (.invokestatic 18, 3) := by decide +kernel
theorem dL_law_120 : decode code 120 = .ok (.iload_n 3, 1) := by decide +kernel
theorem dL_law_121 : decode code 121 = .ok (.iconst 3, 1) := by decide +kernel
theorem dL_law_122 : decode code 122 = .ok (.invokestatic 18, 3) := by decide +kernel
theorem dL_law_125 : decode code 125 = .ok (.iconst 1, 1) := by decide +kernel
theorem dL_law_126 : decode code 126 = .ok (.isub, 1) := by decide +kernel
theorem dL_law_127 : decode code 127 = .ok (.iconst 1, 1) := by decide +kernel
theorem dL_law_128 : decode code 128 = .ok (.iload_n 3, 1) := by decide +kernel
theorem dL_law_129 : decode code 129 = .ok (.iconst 3, 1) := by decide +kernel
theorem dL_law_130 : decode code 130 = .ok (.ishr, 1) := by decide +kernel
theorem dL_law_131 : decode code 131 = .ok (.bipush 20, 2) := by decide +kernel
theorem dL_law_133 : decode code 133 = .ok (.invokestatic 18, 3) := by decide +kernel
theorem dL_law_136 : decode code 136 = .ok (.iadd, 1) := by decide +kernel
theorem dL_law_137 : decode code 137 = .ok (.iload_n 3, 1) := by decide +kernel
theorem dL_law_138 : decode code 138 = .ok (.iconst 2, 1) := by decide +kernel
theorem dL_law_139 : decode code 139 = .ok (.ishr, 1) := by decide +kernel
theorem dL_law_140 : decode code 140 = .ok (.iconst 4, 1) := by decide +kernel
theorem dL_law_141 : decode code 141 = .ok (.invokestatic 18, 3) := by decide +kernel
theorem dL_law_144 : decode code 144 = .ok (.iload_n 3, 1) := by decide +kernel
theorem dL_law_145 : decode code 145 = .ok (.iconst 4, 1) := by decide +kernel
theorem dL_law_146 : decode code 146 = .ok (.ishr, 1) := by decide +kernel
theorem dL_law_147 : decode code 147 = .ok (.iconst 3, 1) := by decide +kernel
theorem dL_law_148 : decode code 148 = .ok (.invokestatic 18, 3) := by decide +kernel
theorem dL_law_151 : decode code 151 = .ok (.invokevirtual 29, 3) := by decide +kernel
theorem dL_law_154 : decode code 154 = .ok (.iload_n 2, 1) := by decide +kernel
theorem dL_law_155 : decode code 155 = .ok (.if_icmp .ne 31, 3) := by decide +kernel
theorem dL_law_158 : decode code 158 = .ok (.aload_n 1, 1) := by decide +kernel
theorem dL_law_159 : decode code 159 = .ok (.iload_n 2, 1) := by decide +kernel
theorem dL_law_160 : decode code 160 = .ok (.iconst 2, 1) := by decide +kernel
theorem dL_law_161 : decode code 161 = .ok (.iload_n 3, 1) := by decide +kernel
theorem dL_law_162 : decode code 162 = .ok (.bipush 6, 2) := by decide +kernel
theorem dL_law_164 : decode code 164 = .ok (.invokestatic 18, 3) := by decide +kernel
theorem dL_law_167 : decode code 167 = .ok (.iadd, 1) := by decide +kernel
theorem dL_law_168 : decode code 168 = .ok (.bipush 24, 2) := by decide +kernel
theorem dL_law_170 : decode code 170 = .ok (.iload_n 3, 1) := by decide +kernel
theorem dL_law_171 : decode code 171 = .ok (.iconst 1, 1) := by decide +kernel
theorem dL_law_172 : decode code 172 = .ok (.ishr, 1) := by decide +kernel
theorem dL_law_173 : decode code 173 = .ok (.sipush 137, 3) := by decide +kernel
theorem dL_law_176 : decode code 176 = .ok (.invokestatic 18, 3) := by decide +kernel
theorem dL_law_179 : decode code 179 = .ok (.iadd, 1) := by decide +kernel
theorem dL_law_180 : decode code 180 = .ok (.invokevirtual 33, 3) := by decide +kernel
theorem dL_law_183 : decode code 183 = .ok (.ifCond .eq 5, 3) := by decide +kernel
theorem dL_law_186 : decode code 186 = .ok (.iconst 0, 1) := by decide +kernel
theorem dL_law_187 : decode code 187 = .ok (.ireturn, 1) := by decide +kernel
theorem dL_law_188 : decode code 188 = .ok (.iinc 2 1, 3) := by decide +kernel
theorem dL_law_191 : decode code 191 = .ok (.goto (-94), 3) := by decide +kernel
theorem dL_law_194 : decode code 194 = .ok (.bipush 40, 2) := by decide +kernel
theorem dL_law_196 : decode code 196 = .ok (.newarray .int, 2) := by decide +kernel
theorem dL_law_198 : decode code 198 = .ok (.astore_n 2, 1) := by decide +kernel
theorem dL_law_199 : decode code 199 = .ok (.bipush 40, 2) := by decide +kernel
theorem dL_law_201 : decode code 201 = .ok (.newarray .int, 2) := by decide +kernel
theorem dL_law_203 : decode code 203 = .ok (.astore_n 3, 1) := by decide +kernel
theorem dL_law_204 : decode code 204 = .ok (.iconst 0, 1) := by decide +kernel
theorem dL_law_205 : decode code 205 = .ok (.istore 4, 2) := by decide +kernel
theorem dL_law_207 : decode code 207 = .ok (.iconst 0, 1) := by decide +kernel
theorem dL_law_208 : decode code 208 = .ok (.istore 5, 2) := by decide +kernel
theorem dL_law_210 : decode code 210 = .ok (.iload 5, 2) := by decide +kernel
theorem dL_law_212 : decode code 212 = .ok (.bipush 44, 2) := by decide +kernel
theorem dL_law_214 : decode code 214 = .ok (.if_icmp .ge 731, 3) := by decide +kernel
theorem dL_law_217 : decode code 217 = .ok (.aload_n 0, 1) := by decide +kernel
theorem dL_law_218 : decode code 218 = .ok (.iload 5, 2) := by decide +kernel
theorem dL_law_220 : decode code 220 = .ok (.bipush 16, 2) := by decide +kernel
theorem dL_law_222 : decode code 222 = .ok (.irem, 1) := by decide +kernel
theorem dL_law_223 : decode code 223 = .ok (.invokestatic 12, 3) := by decide +kernel
theorem dL_law_226 : decode code 226 = .ok (.bipush 31, 2) := by decide +kernel
theorem dL_law_228 : decode code 228 = .ok (.iload 5, 2) := by decide +kernel
theorem dL_law_230 : decode code 230 = .ok (.imul, 1) := by decide +kernel
theorem dL_law_231 : decode code 231 = .ok (.iadd, 1) := by decide +kernel
theorem dL_law_232 : decode code 232 = .ok (.istore 6, 2) := by decide +kernel
theorem dL_law_234 : decode code 234 = .ok (.aload_n 0, 1) := by decide +kernel
theorem dL_law_235 : decode code 235 = .ok (.bipush 7, 2) := by decide +kernel
theorem dL_law_237 : decode code 237 = .ok (.iload 5, 2) := by decide +kernel
theorem dL_law_239 : decode code 239 = .ok (.imul, 1) := by decide +kernel
theorem dL_law_240 : decode code 240 = .ok (.iconst 3, 1) := by decide +kernel
theorem dL_law_241 : decode code 241 = .ok (.iadd, 1) := by decide +kernel
theorem dL_law_242 : decode code 242 = .ok (.bipush 16, 2) := by decide +kernel
theorem dL_law_244 : decode code 244 = .ok (.irem, 1) := by decide +kernel
theorem dL_law_245 : decode code 245 = .ok (.invokestatic 12, 3) := by decide +kernel
theorem dL_law_248 : decode code 248 = .ok (.iconst 5, 1) := by decide +kernel
theorem dL_law_249 : decode code 249 = .ok (.iload 5, 2) := by decide +kernel
theorem dL_law_251 : decode code 251 = .ok (.imul, 1) := by decide +kernel
theorem dL_law_252 : decode code 252 = .ok (.iadd, 1) := by decide +kernel
theorem dL_law_253 : decode code 253 = .ok (.istore 7, 2) := by decide +kernel
theorem dL_law_255 : decode code 255 = .ok (.iload 7, 2) := by decide +kernel
theorem dL_law_257 : decode code 257 = .ok (.iconst 4, 1) := by decide +kernel
theorem dL_law_258 : decode code 258 = .ok (.invokestatic 18, 3) := by decide +kernel
theorem dL_law_261 : decode code 261 = .ok (.istore 8, 2) := by decide +kernel
theorem dL_law_263 : decode code 263 = .ok (.aload_n 1, 1) := by decide +kernel
theorem dL_law_264 : decode code 264 = .ok (.iload 8, 2) := by decide +kernel
theorem dL_law_266 : decode code 266 = .ok (.bipush 6, 2) := by decide +kernel
theorem dL_law_268 : decode code 268 = .ok (.invokevirtual 37, 3) := by decide +kernel
theorem dL_law_271 : decode code 271 = .ok (.istore 9, 2) := by decide +kernel
theorem dL_law_273 : decode code 273 = .ok (.aload_n 1, 1) := by decide +kernel
theorem dL_law_274 : decode code 274 = .ok (.iload 8, 2) := by decide +kernel
theorem dL_law_276 : decode code 276 = .ok (.iconst 5, 1) := by decide +kernel
theorem dL_law_277 : decode code 277 = .ok (.invokevirtual 37, 3) := by decide +kernel
theorem dL_law_280 : decode code 280 = .ok (.istore 10, 2) := by decide +kernel
theorem dL_law_282 : decode code 282 = .ok (.aload_n 1, 1) := by decide +kernel
theorem dL_law_283 : decode code 283 = .ok (.bipush 10, 2) := by decide +kernel
theorem dL_law_285 : decode code 285 = .ok (.invokevirtual 40, 3) := by decide +kernel
theorem dL_law_288 : decode code 288 = .ok (.istore 11, 2) := by decide +kernel
theorem dL_law_290 : decode code 290 = .ok (.iload 6, 2) := by decide +kernel
theorem dL_law_292 : decode code 292 = .ok (.bipush 16, 2) := by decide +kernel
theorem dL_law_294 : decode code 294 = .ok (.invokestatic 18, 3) := by decide +kernel
theorem dL_law_297 : decode code 297 = .ok (.tableswitch 472 0 8 #[51, 51, 118, 182, 224, 224, 268, 337, 382], 51) := by decide +kernel
theorem dL_law_348 : decode code 348 = .ok (.iload 9, 2) := by decide +kernel
theorem dL_law_350 : decode code 350 = .ok (.bipush 9, 2) := by decide +kernel
theorem dL_law_352 : decode code 352 = .ok (.if_icmp .ge 578, 3) := by decide +kernel
theorem dL_law_355 : decode code 355 = .ok (.aload_n 1, 1) := by decide +kernel
theorem dL_law_356 : decode code 356 = .ok (.iload 8, 2) := by decide +kernel
theorem dL_law_358 : decode code 358 = .ok (.iconst 2, 1) := by decide +kernel
theorem dL_law_359 : decode code 359 = .ok (.iload 7, 2) := by decide +kernel
theorem dL_law_361 : decode code 361 = .ok (.bipush 6, 2) := by decide +kernel
theorem dL_law_363 : decode code 363 = .ok (.invokestatic 18, 3) := by decide +kernel
theorem dL_law_366 : decode code 366 = .ok (.iadd, 1) := by decide +kernel
theorem dL_law_367 : decode code 367 = .ok (.bipush 24, 2) := by decide +kernel
theorem dL_law_369 : decode code 369 = .ok (.iload 6, 2) := by decide +kernel
theorem dL_law_371 : decode code 371 = .ok (.iconst 1, 1) := by decide +kernel
theorem dL_law_372 : decode code 372 = .ok (.ishr, 1) := by decide +kernel
theorem dL_law_373 : decode code 373 = .ok (.sipush 137, 3) := by decide +kernel
theorem dL_law_376 : decode code 376 = .ok (.invokestatic 18, 3) := by decide +kernel
theorem dL_law_379 : decode code 379 = .ok (.iadd, 1) := by decide +kernel
theorem dL_law_380 : decode code 380 = .ok (.invokevirtual 33, 3) := by decide +kernel
theorem dL_law_383 : decode code 383 = .ok (.iload 9, 2) := by decide +kernel
theorem dL_law_385 : decode code 385 = .ok (.if_icmp .ne 28, 3) := by decide +kernel
theorem dL_law_388 : decode code 388 = .ok (.aload_n 1, 1) := by decide +kernel
theorem dL_law_389 : decode code 389 = .ok (.iload 8, 2) := by decide +kernel
theorem dL_law_391 : decode code 391 = .ok (.iconst 5, 1) := by decide +kernel
theorem dL_law_392 : decode code 392 = .ok (.invokevirtual 37, 3) := by decide +kernel
theorem dL_law_395 : decode code 395 = .ok (.iload 10, 2) := by decide +kernel
theorem dL_law_397 : decode code 397 = .ok (.iconst 1, 1) := by decide +kernel
theorem dL_law_398 : decode code 398 = .ok (.iadd, 1) := by decide +kernel
theorem dL_law_399 : decode code 399 = .ok (.if_icmp .ne 14, 3) := by decide +kernel
theorem dL_law_402 : decode code 402 = .ok (.aload_n 1, 1) := by decide +kernel
theorem dL_law_403 : decode code 403 = .ok (.iload 8, 2) := by decide +kernel
theorem dL_law_405 : decode code 405 = .ok (.bipush 11, 2) := by decide +kernel
theorem dL_law_407 : decode code 407 = .ok (.invokevirtual 37, 3) := by decide +kernel
theorem dL_law_410 : decode code 410 = .ok (.ifCond .eq 520, 3) := by decide +kernel
theorem dL_law_413 : decode code 413 = .ok (.iconst 0, 1) := by decide +kernel
theorem dL_law_414 : decode code 414 = .ok (.ireturn, 1) := by decide +kernel
theorem dL_law_415 : decode code 415 = .ok (.aload_n 1, 1) := by decide +kernel
theorem dL_law_416 : decode code 416 = .ok (.iload 8, 2) := by decide +kernel
theorem dL_law_418 : decode code 418 = .ok (.iload 7, 2) := by decide +kernel
theorem dL_law_420 : decode code 420 = .ok (.iconst 3, 1) := by decide +kernel
theorem dL_law_421 : decode code 421 = .ok (.ishr, 1) := by decide +kernel
theorem dL_law_422 : decode code 422 = .ok (.iload 9, 2) := by decide +kernel
theorem dL_law_424 : decode code 424 = .ok (.invokestatic 18, 3) := by decide +kernel
theorem dL_law_427 : decode code 427 = .ok (.iconst 2, 1) := by decide +kernel
theorem dL_law_428 : decode code 428 = .ok (.iload 7, 2) := by decide +kernel
theorem dL_law_430 : decode code 430 = .ok (.bipush 6, 2) := by decide +kernel
theorem dL_law_432 : decode code 432 = .ok (.invokestatic 18, 3) := by decide +kernel
theorem dL_law_435 : decode code 435 = .ok (.iadd, 1) := by decide +kernel
theorem dL_law_436 : decode code 436 = .ok (.bipush 24, 2) := by decide +kernel
theorem dL_law_438 : decode code 438 = .ok (.iload 6, 2) := by decide +kernel
theorem dL_law_440 : decode code 440 = .ok (.iconst 1, 1) := by decide +kernel
theorem dL_law_441 : decode code 441 = .ok (.ishr, 1) := by decide +kernel
theorem dL_law_442 : decode code 442 = .ok (.sipush 137, 3) := by decide +kernel
theorem dL_law_445 : decode code 445 = .ok (.invokestatic 18, 3) := by decide +kernel
theorem dL_law_448 : decode code 448 = .ok (.iadd, 1) := by decide +kernel
theorem dL_law_449 : decode code 449 = .ok (.invokevirtual 43, 3) := by decide +kernel
theorem dL_law_452 : decode code 452 = .ok (.aload_n 1, 1) := by decide +kernel
theorem dL_law_453 : decode code 453 = .ok (.iload 8, 2) := by decide +kernel
theorem dL_law_455 : decode code 455 = .ok (.bipush 8, 2) := by decide +kernel
theorem dL_law_457 : decode code 457 = .ok (.invokevirtual 37, 3) := by decide +kernel
theorem dL_law_460 : decode code 460 = .ok (.if_icmp .ne 17, 3) := by decide +kernel
theorem dL_law_463 : decode code 463 = .ok (.aload_n 1, 1) := by decide +kernel
theorem dL_law_464 : decode code 464 = .ok (.iload 8, 2) := by decide +kernel
theorem dL_law_466 : decode code 466 = .ok (.iconst 5, 1) := by decide +kernel
theorem dL_law_467 : decode code 467 = .ok (.invokevirtual 37, 3) := by decide +kernel
theorem dL_law_470 : decode code 470 = .ok (.iload 10, 2) := by decide +kernel
theorem dL_law_472 : decode code 472 = .ok (.iconst 1, 1) := by decide +kernel
theorem dL_law_473 : decode code 473 = .ok (.iadd, 1) := by decide +kernel
theorem dL_law_474 : decode code 474 = .ok (.if_icmp .eq 456, 3) := by decide +kernel
theorem dL_law_477 : decode code 477 = .ok (.iconst 0, 1) := by decide +kernel
theorem dL_law_478 : decode code 478 = .ok (.ireturn, 1) := by decide +kernel
theorem dL_law_479 : decode code 479 = .ok (.aload_n 1, 1) := by decide +kernel
theorem dL_law_480 : decode code 480 = .ok (.iload 8, 2) := by decide +kernel
theorem dL_law_482 : decode code 482 = .ok (.iload 6, 2) := by decide +kernel
theorem dL_law_484 : decode code 484 = .ok (.iconst 3, 1) := by decide +kernel
theorem dL_law_485 : decode code 485 = .ok (.imul, 1) := by decide +kernel
theorem dL_law_486 : decode code 486 = .ok (.aload_n 1, 1) := by decide +kernel
theorem dL_law_487 : decode code 487 = .ok (.iconst 0, 1) := by decide +kernel
theorem dL_law_488 : decode code 488 = .ok (.invokevirtual 40, 3) := by decide +kernel
theorem dL_law_491 : decode code 491 = .ok (.iconst 1, 1) := by decide +kernel
theorem dL_law_492 : decode code 492 = .ok (.iadd, 1) := by decide +kernel
theorem dL_law_493 : decode code 493 = .ok (.invokestatic 18, 3) := by decide +kernel
theorem dL_law_496 : decode code 496 = .ok (.invokevirtual 47, 3) := by decide +kernel
theorem dL_law_499 : decode code 499 = .ok (.aload_n 1, 1) := by decide +kernel
theorem dL_law_500 : decode code 500 = .ok (.iconst 4, 1) := by decide +kernel
theorem dL_law_501 : decode code 501 = .ok (.invokevirtual 40, 3) := by decide +kernel
theorem dL_law_504 : decode code 504 = .ok (.if_icmp .ne 15, 3) := by decide +kernel
theorem dL_law_507 : decode code 507 = .ok (.aload_n 1, 1) := by decide +kernel
theorem dL_law_508 : decode code 508 = .ok (.iload 8, 2) := by decide +kernel
theorem dL_law_510 : decode code 510 = .ok (.iconst 5, 1) := by decide +kernel
theorem dL_law_511 : decode code 511 = .ok (.invokevirtual 37, 3) := by decide +kernel
theorem dL_law_514 : decode code 514 = .ok (.iload 10, 2) := by decide +kernel
theorem dL_law_516 : decode code 516 = .ok (.if_icmp .eq 414, 3) := by decide +kernel
theorem dL_law_519 : decode code 519 = .ok (.iconst 0, 1) := by decide +kernel
theorem dL_law_520 : decode code 520 = .ok (.ireturn, 1) := by decide +kernel
theorem dL_law_521 : decode code 521 = .ok (.aload_n 1, 1) := by decide +kernel
theorem dL_law_522 : decode code 522 = .ok (.iconst 1, 1) := by decide +kernel
theorem dL_law_523 : decode code 523 = .ok (.invokevirtual 40, 3) := by decide +kernel
theorem dL_law_526 : decode code 526 = .ok (.bipush 19, 2) := by decide +kernel
theorem dL_law_528 : decode code 528 = .ok (.if_icmp .ge 402, 3) := by decide +kernel
theorem dL_law_531 : decode code 531 = .ok (.aload_n 1, 1) := by decide +kernel
theorem dL_law_532 : decode code 532 = .ok (.iload 6, 2) := by decide +kernel
theorem dL_law_534 : decode code 534 = .ok (.iconst 3, 1) := by decide +kernel
theorem dL_law_535 : decode code 535 = .ok (.imul, 1) := by decide +kernel
theorem dL_law_536 : decode code 536 = .ok (.aload_n 1, 1) := by decide +kernel
theorem dL_law_537 : decode code 537 = .ok (.iconst 0, 1) := by decide +kernel
theorem dL_law_538 : decode code 538 = .ok (.invokevirtual 40, 3) := by decide +kernel
theorem dL_law_541 : decode code 541 = .ok (.iconst 1, 1) := by decide +kernel
theorem dL_law_542 : decode code 542 = .ok (.iadd, 1) := by decide +kernel
theorem dL_law_543 : decode code 543 = .ok (.invokestatic 18, 3) := by decide +kernel
theorem dL_law_546 : decode code 546 = .ok (.iconst 1, 1) := by decide +kernel
theorem dL_law_547 : decode code 547 = .ok (.iload 7, 2) := by decide +kernel
theorem dL_law_549 : decode code 549 = .ok (.iconst 2, 1) := by decide +kernel
theorem dL_law_550 : decode code 550 = .ok (.ishr, 1) := by decide +kernel
theorem dL_law_551 : decode code 551 = .ok (.bipush 80, 2) := by decide +kernel
theorem dL_law_553 : decode code 553 = .ok (.invokestatic 18, 3) := by decide +kernel
theorem dL_law_556 : decode code 556 = .ok (.iadd, 1) := by decide +kernel
theorem dL_law_557 : decode code 557 = .ok (.invokestatic 50, 3) := by decide +kernel
theorem dL_law_560 : decode code 560 = .ok (.ifCond .ne 370, 3) := by decide +kernel
theorem dL_law_563 : decode code 563 = .ok (.iconst 0, 1) := by decide +kernel
theorem dL_law_564 : decode code 564 = .ok (.ireturn, 1) := by decide +kernel
theorem dL_law_565 : decode code 565 = .ok (.aload_n 1, 1) := by decide +kernel
theorem dL_law_566 : decode code 566 = .ok (.iload 8, 2) := by decide +kernel
theorem dL_law_568 : decode code 568 = .ok (.invokevirtual 54, 3) := by decide +kernel
theorem dL_law_571 : decode code 571 = .ok (.istore 12, 2) := by decide +kernel
theorem dL_law_573 : decode code 573 = .ok (.aload_n 1, 1) := by decide +kernel
theorem dL_law_574 : decode code 574 = .ok (.iconst 4, 1) := by decide +kernel
theorem dL_law_575 : decode code 575 = .ok (.invokevirtual 40, 3) := by decide +kernel
theorem dL_law_578 : decode code 578 = .ok (.istore 13, 2) := by decide +kernel
theorem dL_law_580 : decode code 580 = .ok (.aload_n 1, 1) := by decide +kernel
theorem dL_law_581 : decode code 581 = .ok (.iload 8, 2) := by decide +kernel
theorem dL_law_583 : decode code 583 = .ok (.iconst 0, 1) := by decide +kernel
theorem dL_law_584 : decode code 584 = .ok (.invokevirtual 37, 3) := by decide +kernel
theorem dL_law_587 : decode code 587 = .ok (.istore 14, 2) := by decide +kernel
theorem dL_law_589 : decode code 589 = .ok (.iload 12, 2) := by decide +kernel
theorem dL_law_591 : decode code 591 = .ok (.iload 14, 2) := by decide +kernel
theorem dL_law_593 : decode code 593 = .ok (.isub, 1) := by decide +kernel
theorem dL_law_594 : decode code 594 = .ok (.invokestatic 57, 3) := by decide +kernel
theorem dL_law_597 : decode code 597 = .ok (.bipush 24, 2) := by decide +kernel
theorem dL_law_599 : decode code 599 = .ok (.if_icmp .gt 33, 3) := by decide +kernel
theorem dL_law_602 : decode code 602 = .ok (.aload_n 1, 1) := by decide +kernel
theorem dL_law_603 : decode code 603 = .ok (.iload 8, 2) := by decide +kernel
theorem dL_law_605 : decode code 605 = .ok (.iload 12, 2) := by decide +kernel
theorem dL_law_607 : decode code 607 = .ok (.invokevirtual 47, 3) := by decide +kernel
theorem dL_law_610 : decode code 610 = .ok (.iload 13, 2) := by decide +kernel
theorem dL_law_612 : decode code 612 = .ok (.if_icmp .lt 20, 3) := by decide +kernel
theorem dL_law_615 : decode code 615 = .ok (.iload 12, 2) := by decide +kernel
theorem dL_law_617 : decode code 617 = .ok (.iload 14, 2) := by decide +kernel
theorem dL_law_619 : decode code 619 = .ok (.if_icmp .eq 311, 3) := by decide +kernel
theorem dL_law_622 : decode code 622 = .ok (.aload_n 1, 1) := by decide +kernel
theorem dL_law_623 : decode code 623 = .ok (.iconst 4, 1) := by decide +kernel
theorem dL_law_624 : decode code 624 = .ok (.invokevirtual 40, 3) := by decide +kernel
theorem dL_law_627 : decode code 627 = .ok (.iload 13, 2) := by decide +kernel
theorem dL_law_629 : decode code 629 = .ok (.if_icmp .ne 301, 3) := by decide +kernel
theorem dL_law_632 : decode code 632 = .ok (.iconst 0, 1) := by decide +kernel
theorem dL_law_633 : decode code 633 = .ok (.ireturn, 1) := by decide +kernel
theorem dL_law_634 : decode code 634 = .ok (.aload_n 1, 1) := by decide +kernel
theorem dL_law_635 : decode code 635 = .ok (.bipush 12, 2) := by decide +kernel
theorem dL_law_637 : decode code 637 = .ok (.invokevirtual 40, 3) := by decide +kernel
theorem dL_law_640 : decode code 640 = .ok (.ifCond .ne 26, 3) := by decide +kernel
theorem dL_law_643 : decode code 643 = .ok (.aload_n 1, 1) := by decide +kernel
theorem dL_law_644 : decode code 644 = .ok (.iconst 5, 1) := by decide +kernel
theorem dL_law_645 : decode code 645 = .ok (.iload 7, 2) := by decide +kernel
theorem dL_law_647 : decode code 647 = .ok (.iconst 3, 1) := by decide +kernel
theorem dL_law_648 : decode code 648 = .ok (.ishr, 1) := by decide +kernel
theorem dL_law_649 : decode code 649 = .ok (.bipush 56, 2) := by decide +kernel
theorem dL_law_651 : decode code 651 = .ok (.invokestatic 18, 3) := by decide +kernel
theorem dL_law_654 : decode code 654 = .ok (.iadd, 1) := by decide +kernel
theorem dL_law_655 : decode code 655 = .ok (.invokevirtual 62, 3) := by decide +kernel
theorem dL_law_658 : decode code 658 = .ok (.iload 11, 2) := by decide +kernel
theorem dL_law_660 : decode code 660 = .ok (.if_icmp .eq 270, 3) := by decide +kernel
theorem dL_law_663 : decode code 663 = .ok (.goto 14, 3) := by decide +kernel
theorem dL_law_666 : decode code 666 = .ok (.aload_n 1, 1) := by decide +kernel
theorem dL_law_667 : decode code 667 = .ok (.bipush 13, 2) := by decide +kernel
theorem dL_law_669 : decode code 669 = .ok (.invokevirtual 40, 3) := by decide +kernel
theorem dL_law_672 : decode code 672 = .ok (.bipush 120, 2) := by decide +kernel
theorem dL_law_674 : decode code 674 = .ok (.if_icmp .le 256, 3) := by decide +kernel
theorem dL_law_677 : decode code 677 = .ok (.iconst 0, 1) := by decide +kernel
theorem dL_law_678 : decode code 678 = .ok (.ireturn, 1) := by decide +kernel
theorem dL_law_679 : decode code 679 = .ok (.aload_n 1, 1) := by decide +kernel
theorem dL_law_680 : decode code 680 = .ok (.bipush 12, 2) := by decide +kernel
theorem dL_law_682 : decode code 682 = .ok (.invokevirtual 40, 3) := by decide +kernel
theorem dL_law_685 : decode code 685 = .ok (.ifCond .eq 245, 3) := by decide +kernel
theorem dL_law_688 : decode code 688 = .ok (.iload 7, 2) := by decide +kernel
theorem dL_law_690 : decode code 690 = .ok (.iconst 4, 1) := by decide +kernel
theorem dL_law_691 : decode code 691 = .ok (.ishr, 1) := by decide +kernel
theorem dL_law_692 : decode code 692 = .ok (.iconst 2, 1) := by decide +kernel
theorem dL_law_693 : decode code 693 = .ok (.invokestatic 18, 3) := by decide +kernel
theorem dL_law_696 : decode code 696 = .ok (.ifCond .ne 6, 3) := by decide +kernel
theorem dL_law_699 : decode code 699 = .ok (.goto 231, 3) := by decide +kernel
theorem dL_law_702 : decode code 702 = .ok (.aload_n 1, 1) := by decide +kernel
theorem dL_law_703 : decode code 703 = .ok (.bipush 13, 2) := by decide +kernel
theorem dL_law_705 : decode code 705 = .ok (.invokevirtual 40, 3) := by decide +kernel
theorem dL_law_708 : decode code 708 = .ok (.bipush 14, 2) := by decide +kernel
theorem dL_law_710 : decode code 710 = .ok (.iadd, 1) := by decide +kernel
theorem dL_law_711 : decode code 711 = .ok (.bipush 15, 2) := by decide +kernel
theorem dL_law_713 : decode code 713 = .ok (.idiv, 1) := by decide +kernel
theorem dL_law_714 : decode code 714 = .ok (.istore 15, 2) := by decide +kernel
theorem dL_law_716 : decode code 716 = .ok (.aload_n 1, 1) := by decide +kernel
theorem dL_law_717 : decode code 717 = .ok (.bipush 12, 2) := by decide +kernel
theorem dL_law_719 : decode code 719 = .ok (.invokevirtual 40, 3) := by decide +kernel
theorem dL_law_722 : decode code 722 = .ok (.iconst 4, 1) := by decide +kernel
theorem dL_law_723 : decode code 723 = .ok (.iload 15, 2) := by decide +kernel
theorem dL_law_725 : decode code 725 = .ok (.imul, 1) := by decide +kernel
theorem dL_law_726 : decode code 726 = .ok (.iconst 2, 1) := by decide +kernel
theorem dL_law_727 : decode code 727 = .ok (.iconst 0, 1) := by decide +kernel
theorem dL_law_728 : decode code 728 = .ok (.iload 15, 2) := by decide +kernel
theorem dL_law_730 : decode code 730 = .ok (.iconst 4, 1) := by decide +kernel
theorem dL_law_731 : decode code 731 = .ok (.isub, 1) := by decide +kernel
theorem dL_law_732 : decode code 732 = .ok (.invokestatic 65, 3) := by decide +kernel
theorem dL_law_735 : decode code 735 = .ok (.imul, 1) := by decide +kernel
theorem dL_law_736 : decode code 736 = .ok (.iadd, 1) := by decide +kernel
theorem dL_law_737 : decode code 737 = .ok (.imul, 1) := by decide +kernel
theorem dL_law_738 : decode code 738 = .ok (.istore 16, 2) := by decide +kernel
theorem dL_law_740 : decode code 740 = .ok (.iload 4, 2) := by decide +kernel
theorem dL_law_742 : decode code 742 = .ok (.iload 16, 2) := by decide +kernel
theorem dL_law_744 : decode code 744 = .ok (.iadd, 1) := by decide +kernel
theorem dL_law_745 : decode code 745 = .ok (.istore 4, 2) := by decide +kernel
theorem dL_law_747 : decode code 747 = .ok (.aload_n 1, 1) := by decide +kernel
theorem dL_law_748 : decode code 748 = .ok (.invokevirtual 68, 3) := by decide +kernel
theorem dL_law_751 : decode code 751 = .ok (.iload 16, 2) := by decide +kernel
theorem dL_law_753 : decode code 753 = .ok (.if_icmp .ne 14, 3) := by decide +kernel
theorem dL_law_756 : decode code 756 = .ok (.aload_n 1, 1) := by decide +kernel
theorem dL_law_757 : decode code 757 = .ok (.bipush 14, 2) := by decide +kernel
theorem dL_law_759 : decode code 759 = .ok (.invokevirtual 40, 3) := by decide +kernel
theorem dL_law_762 : decode code 762 = .ok (.iload 4, 2) := by decide +kernel
theorem dL_law_764 : decode code 764 = .ok (.if_icmp .eq 166, 3) := by decide +kernel
theorem dL_law_767 : decode code 767 = .ok (.iconst 0, 1) := by decide +kernel
theorem dL_law_768 : decode code 768 = .ok (.ireturn, 1) := by decide +kernel
theorem dL_law_769 : decode code 769 = .ok (.aload_n 1, 1) := by decide +kernel
theorem dL_law_770 : decode code 770 = .ok (.bipush 12, 2) := by decide +kernel
theorem dL_law_772 : decode code 772 = .ok (.invokevirtual 40, 3) := by decide +kernel
theorem dL_law_775 : decode code 775 = .ok (.aload_n 1, 1) := by decide +kernel
theorem dL_law_776 : decode code 776 = .ok (.iload 8, 2) := by decide +kernel
theorem dL_law_778 : decode code 778 = .ok (.iconst 2, 1) := by decide +kernel
theorem dL_law_779 : decode code 779 = .ok (.invokevirtual 37, 3) := by decide +kernel
theorem dL_law_782 : decode code 782 = .ok (.if_icmp .lt 148, 3) := by decide +kernel
theorem dL_law_785 : decode code 785 = .ok (.aload_n 1, 1) := by decide +kernel
theorem dL_law_786 : decode code 786 = .ok (.bipush 13, 2) := by decide +kernel
theorem dL_law_788 : decode code 788 = .ok (.invokevirtual 40, 3) := by decide +kernel
theorem dL_law_791 : decode code 791 = .ok (.bipush 110, 2) := by decide +kernel
theorem dL_law_793 : decode code 793 = .ok (.if_icmp .gt 137, 3) := by decide +kernel
theorem dL_law_796 : decode code 796 = .ok (.iload 11, 2) := by decide +kernel
theorem dL_law_798 : decode code 798 = .ok (.bipush 40, 2) := by decide +kernel
theorem dL_law_800 : decode code 800 = .ok (.if_icmp .ne 6, 3) := by decide +kernel
theorem dL_law_803 : decode code 803 = .ok (.goto 127, 3) := by decide +kernel
theorem dL_law_806 : decode code 806 = .ok (.iconst 0, 1) := by decide +kernel
theorem dL_law_807 : decode code 807 = .ok (.istore 17, 2) := by decide +kernel
theorem dL_law_809 : decode code 809 = .ok (.iconst 0, 1) := by decide +kernel
theorem dL_law_810 : decode code 810 = .ok (.istore 18, 2) := by decide +kernel
theorem dL_law_812 : decode code 812 = .ok (.iload 18, 2) := by decide +kernel
theorem dL_law_814 : decode code 814 = .ok (.iload 9, 2) := by decide +kernel
theorem dL_law_816 : decode code 816 = .ok (.if_icmp .ge 31, 3) := by decide +kernel
theorem dL_law_819 : decode code 819 = .ok (.bipush 10, 2) := by decide +kernel
theorem dL_law_821 : decode code 821 = .ok (.iload 17, 2) := by decide +kernel
theorem dL_law_823 : decode code 823 = .ok (.imul, 1) := by decide +kernel
theorem dL_law_824 : decode code 824 = .ok (.iload 6, 2) := by decide +kernel
theorem dL_law_826 : decode code 826 = .ok (.iconst 2, 1) := by decide +kernel
theorem dL_law_827 : decode code 827 = .ok (.ishr, 1) := by decide +kernel
theorem dL_law_828 : decode code 828 = .ok (.iconst 3, 1) := by decide +kernel
theorem dL_law_829 : decode code 829 = .ok (.iload 18, 2) := by decide +kernel
theorem dL_law_831 : decode code 831 = .ok (.imul, 1) := by decide +kernel
theorem dL_law_832 : decode code 832 = .ok (.iadd, 1) := by decide +kernel
theorem dL_law_833 : decode code 833 = .ok (.bipush 10, 2) := by decide +kernel
theorem dL_law_835 : decode code 835 = .ok (.invokestatic 18, 3) := by decide +kernel
theorem dL_law_838 : decode code 838 = .ok (.iadd, 1) := by decide +kernel
theorem dL_law_839 : decode code 839 = .ok (.istore 17, 2) := by decide +kernel
theorem dL_law_841 : decode code 841 = .ok (.iinc 18 1, 3) := by decide +kernel
theorem dL_law_844 : decode code 844 = .ok (.goto (-32), 3) := by decide +kernel
theorem dL_law_847 : decode code 847 = .ok (.aload_n 1, 1) := by decide +kernel
theorem dL_law_848 : decode code 848 = .ok (.bipush 13, 2) := by decide +kernel
theorem dL_law_850 : decode code 850 = .ok (.invokevirtual 40, 3) := by decide +kernel
theorem dL_law_853 : decode code 853 = .ok (.istore 18, 2) := by decide +kernel
theorem dL_law_855 : decode code 855 = .ok (.aload_n 1, 1) := by decide +kernel
theorem dL_law_856 : decode code 856 = .ok (.iload 8, 2) := by decide +kernel
theorem dL_law_858 : decode code 858 = .ok (.iload 17, 2) := by decide +kernel
theorem dL_law_860 : decode code 860 = .ok (.iload 7, 2) := by decide +kernel
theorem dL_law_862 : decode code 862 = .ok (.iconst 2, 1) := by decide +kernel
theorem dL_law_863 : decode code 863 = .ok (.ishr, 1) := by decide +kernel
theorem dL_law_864 : decode code 864 = .ok (.iconst 5, 1) := by decide +kernel
theorem dL_law_865 : decode code 865 = .ok (.invokestatic 18, 3) := by decide +kernel
theorem dL_law_868 : decode code 868 = .ok (.iconst 2, 1) := by decide +kernel
theorem dL_law_869 : decode code 869 = .ok (.isub, 1) := by decide +kernel
theorem dL_law_870 : decode code 870 = .ok (.invokevirtual 72, 3) := by decide +kernel
theorem dL_law_873 : decode code 873 = .ok (.iload 11, 2) := by decide +kernel
theorem dL_law_875 : decode code 875 = .ok (.if_icmp .ne 41, 3) := by decide +kernel
theorem dL_law_878 : decode code 878 = .ok (.aload_n 1, 1) := by decide +kernel
theorem dL_law_879 : decode code 879 = .ok (.bipush 13, 2) := by decide +kernel
theorem dL_law_881 : decode code 881 = .ok (.invokevirtual 40, 3) := by decide +kernel
theorem dL_law_884 : decode code 884 = .ok (.iload 18, 2) := by decide +kernel
theorem dL_law_886 : decode code 886 = .ok (.iconst 3, 1) := by decide +kernel
theorem dL_law_887 : decode code 887 = .ok (.iadd, 1) := by decide +kernel
theorem dL_law_888 : decode code 888 = .ok (.aload_n 1, 1) := by decide +kernel
theorem dL_law_889 : decode code 889 = .ok (.iload 8, 2) := by decide +kernel
theorem dL_law_891 : decode code 891 = .ok (.bipush 8, 2) := by decide +kernel
theorem dL_law_893 : decode code 893 = .ok (.invokevirtual 37, 3) := by decide +kernel
theorem dL_law_896 : decode code 896 = .ok (.aload_n 1, 1) := by decide +kernel
theorem dL_law_897 : decode code 897 = .ok (.iload 8, 2) := by decide +kernel
theorem dL_law_899 : decode code 899 = .ok (.iconst 0, 1) := by decide +kernel
theorem dL_law_900 : decode code 900 = .ok (.invokevirtual 37, 3) := by decide +kernel
theorem dL_law_903 : decode code 903 = .ok (.isub, 1) := by decide +kernel
theorem dL_law_904 : decode code 904 = .ok (.sipush 1439, 3) := by decide +kernel
theorem dL_law_907 : decode code 907 = .ok (.iadd, 1) := by decide +kernel
theorem dL_law_908 : decode code 908 = .ok (.sipush 1440, 3) := by decide +kernel
theorem dL_law_911 : decode code 911 = .ok (.idiv, 1) := by decide +kernel
theorem dL_law_912 : decode code 912 = .ok (.iadd, 1) := by decide +kernel
theorem dL_law_913 : decode code 913 = .ok (.if_icmp .eq 5, 3) := by decide +kernel
theorem dL_law_916 : decode code 916 = .ok (.iconst 0, 1) := by decide +kernel
theorem dL_law_917 : decode code 917 = .ok (.ireturn, 1) := by decide +kernel
theorem dL_law_918 : decode code 918 = .ok (.aload_n 2, 1) := by decide +kernel
theorem dL_law_919 : decode code 919 = .ok (.iload 11, 2) := by decide +kernel
theorem dL_law_921 : decode code 921 = .ok (.iload 10, 2) := by decide +kernel
theorem dL_law_923 : decode code 923 = .ok (.iastore, 1) := by decide +kernel
theorem dL_law_924 : decode code 924 = .ok (.aload_n 3, 1) := by decide +kernel
theorem dL_law_925 : decode code 925 = .ok (.iload 11, 2) := by decide +kernel
theorem dL_law_927 : decode code 927 = .ok (.iload 8, 2) := by decide +kernel
theorem dL_law_929 : decode code 929 = .ok (.iastore, 1) := by decide +kernel
theorem dL_law_930 : decode code 930 = .ok (.aload_n 1, 1) := by decide +kernel
theorem dL_law_931 : decode code 931 = .ok (.invokestatic 75, 3) := by decide +kernel
theorem dL_law_934 : decode code 934 = .ok (.ifCond .ne 5, 3) := by decide +kernel
theorem dL_law_937 : decode code 937 = .ok (.iconst 0, 1) := by decide +kernel
theorem dL_law_938 : decode code 938 = .ok (.ireturn, 1) := by decide +kernel
theorem dL_law_939 : decode code 939 = .ok (.iinc 5 1, 3) := by decide +kernel
theorem dL_law_942 : decode code 942 = .ok (.goto (-732), 3) := by decide +kernel
theorem dL_law_945 : decode code 945 = .ok (.iconst 0, 1) := by decide +kernel
theorem dL_law_946 : decode code 946 = .ok (.istore 5, 2) := by decide +kernel
theorem dL_law_948 : decode code 948 = .ok (.iconst 0, 1) := by decide +kernel
theorem dL_law_949 : decode code 949 = .ok (.istore 6, 2) := by decide +kernel
theorem dL_law_951 : decode code 951 = .ok (.iload 6, 2) := by decide +kernel
theorem dL_law_953 : decode code 953 = .ok (.aload_n 1, 1) := by decide +kernel
theorem dL_law_954 : decode code 954 = .ok (.bipush 10, 2) := by decide +kernel
theorem dL_law_956 : decode code 956 = .ok (.invokevirtual 40, 3) := by decide +kernel
theorem dL_law_959 : decode code 959 = .ok (.if_icmp .ge 121, 3) := by decide +kernel
theorem dL_law_962 : decode code 962 = .ok (.aload_n 1, 1) := by decide +kernel
theorem dL_law_963 : decode code 963 = .ok (.aload_n 3, 1) := by decide +kernel
theorem dL_law_964 : decode code 964 = .ok (.iload 6, 2) := by decide +kernel
theorem dL_law_966 : decode code 966 = .ok (.iaload, 1) := by decide +kernel
theorem dL_law_967 : decode code 967 = .ok (.iconst 5, 1) := by decide +kernel
theorem dL_law_968 : decode code 968 = .ok (.invokevirtual 37, 3) := by decide +kernel
theorem dL_law_971 : decode code 971 = .ok (.aload_n 2, 1) := by decide +kernel
theorem dL_law_972 : decode code 972 = .ok (.iload 6, 2) := by decide +kernel
theorem dL_law_974 : decode code 974 = .ok (.iaload, 1) := by decide +kernel
theorem dL_law_975 : decode code 975 = .ok (.if_icmp .ne 7, 3) := by decide +kernel
theorem dL_law_978 : decode code 978 = .ok (.iconst 1, 1) := by decide +kernel
theorem dL_law_979 : decode code 979 = .ok (.goto 4, 3) := by decide +kernel
theorem dL_law_982 : decode code 982 = .ok (.iconst 0, 1) := by decide +kernel
theorem dL_law_983 : decode code 983 = .ok (.istore 7, 2) := by decide +kernel
theorem dL_law_985 : decode code 985 = .ok (.iload 5, 2) := by decide +kernel
theorem dL_law_987 : decode code 987 = .ok (.iload 7, 2) := by decide +kernel
theorem dL_law_989 : decode code 989 = .ok (.ifCond .eq 7, 3) := by decide +kernel
theorem dL_law_992 : decode code 992 = .ok (.iconst 1, 1) := by decide +kernel
theorem dL_law_993 : decode code 993 = .ok (.goto 4, 3) := by decide +kernel
theorem dL_law_996 : decode code 996 = .ok (.iconst 0, 1) := by decide +kernel
theorem dL_law_997 : decode code 997 = .ok (.iadd, 1) := by decide +kernel
theorem dL_law_998 : decode code 998 = .ok (.istore 5, 2) := by decide +kernel
theorem dL_law_1000 : decode code 1000 = .ok (.aload_n 1, 1) := by decide +kernel
theorem dL_law_1001 : decode code 1001 = .ok (.iload 6, 2) := by decide +kernel
theorem dL_law_1003 : decode code 1003 = .ok (.iconst 3, 1) := by decide +kernel
theorem dL_law_1004 : decode code 1004 = .ok (.invokevirtual 79, 3) := by decide +kernel
theorem dL_law_1007 : decode code 1007 = .ok (.iconst 1, 1) := by decide +kernel
theorem dL_law_1008 : decode code 1008 = .ok (.if_icmp .ne 7, 3) := by decide +kernel
theorem dL_law_1011 : decode code 1011 = .ok (.iconst 1, 1) := by decide +kernel
theorem dL_law_1012 : decode code 1012 = .ok (.goto 4, 3) := by decide +kernel
theorem dL_law_1015 : decode code 1015 = .ok (.iconst 0, 1) := by decide +kernel
theorem dL_law_1016 : decode code 1016 = .ok (.iload 7, 2) := by decide +kernel
theorem dL_law_1018 : decode code 1018 = .ok (.if_icmp .ne 54, 3) := by decide +kernel
theorem dL_law_1021 : decode code 1021 = .ok (.aload_n 1, 1) := by decide +kernel
theorem dL_law_1022 : decode code 1022 = .ok (.iload 6, 2) := by decide +kernel
theorem dL_law_1024 : decode code 1024 = .ok (.iconst 0, 1) := by decide +kernel
theorem dL_law_1025 : decode code 1025 = .ok (.invokevirtual 79, 3) := by decide +kernel
theorem dL_law_1028 : decode code 1028 = .ok (.aload_n 3, 1) := by decide +kernel
theorem dL_law_1029 : decode code 1029 = .ok (.iload 6, 2) := by decide +kernel
theorem dL_law_1031 : decode code 1031 = .ok (.iaload, 1) := by decide +kernel
theorem dL_law_1032 : decode code 1032 = .ok (.if_icmp .ne 40, 3) := by decide +kernel
theorem dL_law_1035 : decode code 1035 = .ok (.aload_n 1, 1) := by decide +kernel
theorem dL_law_1036 : decode code 1036 = .ok (.iload 6, 2) := by decide +kernel
theorem dL_law_1038 : decode code 1038 = .ok (.iconst 1, 1) := by decide +kernel
theorem dL_law_1039 : decode code 1039 = .ok (.invokevirtual 79, 3) := by decide +kernel
theorem dL_law_1042 : decode code 1042 = .ok (.aload_n 2, 1) := by decide +kernel
theorem dL_law_1043 : decode code 1043 = .ok (.iload 6, 2) := by decide +kernel
theorem dL_law_1045 : decode code 1045 = .ok (.iaload, 1) := by decide +kernel
theorem dL_law_1046 : decode code 1046 = .ok (.if_icmp .ne 26, 3) := by decide +kernel
theorem dL_law_1049 : decode code 1049 = .ok (.iload 7, 2) := by decide +kernel
theorem dL_law_1051 : decode code 1051 = .ok (.ifCond .eq 23, 3) := by decide +kernel
theorem dL_law_1054 : decode code 1054 = .ok (.aload_n 1, 1) := by decide +kernel
theorem dL_law_1055 : decode code 1055 = .ok (.iload 6, 2) := by decide +kernel
theorem dL_law_1057 : decode code 1057 = .ok (.iconst 4, 1) := by decide +kernel
theorem dL_law_1058 : decode code 1058 = .ok (.invokevirtual 79, 3) := by decide +kernel
theorem dL_law_1061 : decode code 1061 = .ok (.aload_n 1, 1) := by decide +kernel
theorem dL_law_1062 : decode code 1062 = .ok (.aload_n 3, 1) := by decide +kernel
theorem dL_law_1063 : decode code 1063 = .ok (.iload 6, 2) := by decide +kernel
theorem dL_law_1065 : decode code 1065 = .ok (.iaload, 1) := by decide +kernel
theorem dL_law_1066 : decode code 1066 = .ok (.invokevirtual 82, 3) := by decide +kernel
theorem dL_law_1069 : decode code 1069 = .ok (.if_icmp .le 5, 3) := by decide +kernel
theorem dL_law_1072 : decode code 1072 = .ok (.iconst 0, 1) := by decide +kernel
theorem dL_law_1073 : decode code 1073 = .ok (.ireturn, 1) := by decide +kernel
theorem dL_law_1074 : decode code 1074 = .ok (.iinc 6 1, 3) := by decide +kernel
theorem dL_law_1077 : decode code 1077 = .ok (.goto (-126), 3) := by decide +kernel
theorem dL_law_1080 : decode code 1080 = .ok (.aload_n 1, 1) := by decide +kernel
theorem dL_law_1081 : decode code 1081 = .ok (.invokevirtual 85, 3) := by decide +kernel
theorem dL_law_1084 : decode code 1084 = .ok (.lstore 6, 2) := by decide +kernel
theorem dL_law_1086 : decode code 1086 = .ok (.aload_n 1, 1) := by decide +kernel
theorem dL_law_1087 : decode code 1087 = .ok (.bipush 11, 2) := by decide +kernel
theorem dL_law_1089 : decode code 1089 = .ok (.invokevirtual 40, 3) := by decide +kernel
theorem dL_law_1092 : decode code 1092 = .ok (.iload 5, 2) := by decide +kernel
theorem dL_law_1094 : decode code 1094 = .ok (.if_icmp .ne 39, 3) := by decide +kernel
theorem dL_law_1097 : decode code 1097 = .ok (.aload_n 1, 1) := by decide +kernel
theorem dL_law_1098 : decode code 1098 = .ok (.invokevirtual 89, 3) := by decide +kernel
theorem dL_law_1101 : decode code 1101 = .ok (.ldc2_w 93, 3) := by decide +kernel
theorem dL_law_1104 : decode code 1104 = .ok (.dcmp .l, 1) := by decide +kernel
theorem dL_law_1105 : decode code 1105 = .ok (.ifCond .gt 28, 3) := by decide +kernel
theorem dL_law_1108 : decode code 1108 = .ok (.aload_n 1, 1) := by decide +kernel
theorem dL_law_1109 : decode code 1109 = .ok (.iconst 0, 1) := by decide +kernel
theorem dL_law_1110 : decode code 1110 = .ok (.iconst 0, 1) := by decide +kernel
theorem dL_law_1111 : decode code 1111 = .ok (.invokevirtual 95, 3) := by decide +kernel
theorem dL_law_1114 : decode code 1114 = .ok (.bipush 24, 2) := by decide +kernel
theorem dL_law_1116 : decode code 1116 = .ok (.if_icmp .lt 17, 3) := by decide +kernel
theorem dL_law_1119 : decode code 1119 = .ok (.aload_n 1, 1) := by decide +kernel
theorem dL_law_1120 : decode code 1120 = .ok (.iconst 0, 1) := by decide +kernel
theorem dL_law_1121 : decode code 1121 = .ok (.iconst 1, 1) := by decide +kernel
theorem dL_law_1122 : decode code 1122 = .ok (.invokevirtual 98, 3) := by decide +kernel
theorem dL_law_1125 : decode code 1125 = .ok (.aload_n 1, 1) := by decide +kernel
theorem dL_law_1126 : decode code 1126 = .ok (.iconst 4, 1) := by decide +kernel
theorem dL_law_1127 : decode code 1127 = .ok (.invokevirtual 40, 3) := by decide +kernel
theorem dL_law_1130 : decode code 1130 = .ok (.if_icmp .eq 5, 3) := by decide +kernel
theorem dL_law_1133 : decode code 1133 = .ok (.iconst 0, 1) := by decide +kernel
theorem dL_law_1134 : decode code 1134 = .ok (.ireturn, 1) := by decide +kernel
theorem dL_law_1135 : decode code 1135 = .ok (.aload_n 1, 1) := by decide +kernel
theorem dL_law_1136 : decode code 1136 = .ok (.invokevirtual 85, 3) := by decide +kernel
theorem dL_law_1139 : decode code 1139 = .ok (.lload 6, 2) := by decide +kernel
theorem dL_law_1141 : decode code 1141 = .ok (.lcmp, 1) := by decide +kernel
theorem dL_law_1142 : decode code 1142 = .ok (.ifCond .ne 7, 3) := by decide +kernel
theorem dL_law_1145 : decode code 1145 = .ok (.iconst 1, 1) := by decide +kernel
theorem dL_law_1146 : decode code 1146 = .ok (.goto 4, 3) := by decide +kernel
theorem dL_law_1149 : decode code 1149 = .ok (.iconst 0, 1) := by decide +kernel
theorem dL_law_1150 : decode code 1150 = .ok (.ireturn, 1) := by decide +kernel

theorem dJxa1e45_init_da8c8_0 : decode prog_29_method_1_code 0 = .ok (.aload_n 0, 1) := by decide +kernel
theorem dJxa1e45_init_da8c8_1 : decode prog_29_method_1_code 1 = .ok (.invokespecial 1, 3) := by decide +kernel
theorem dJxa1e45_init_da8c8_4 : decode prog_29_method_1_code 4 = .ok (.return_, 1) := by decide +kernel
theorem dJxc12de_init_da8c8_0 : decode prog_30_method_1_code 0 = .ok (.aload_n 0, 1) := by decide +kernel
theorem dJxc12de_init_da8c8_1 : decode prog_30_method_1_code 1 = .ok (.invokespecial 1, 3) := by decide +kernel
theorem dJxc12de_init_da8c8_4 : decode prog_30_method_1_code 4 = .ok (.aload_n 0, 1) := by decide +kernel
theorem dJxc12de_init_da8c8_5 : decode prog_30_method_1_code 5 = .ok (.iconst 0, 1) := by decide +kernel
theorem dJxc12de_init_da8c8_6 : decode prog_30_method_1_code 6 = .ok (.putfield 7, 3) := by decide +kernel
theorem dJxc12de_init_da8c8_9 : decode prog_30_method_1_code 9 = .ok (.return_, 1) := by decide +kernel
theorem dJx4a65c_init_da8c8_0 : decode prog_31_method_2_code 0 = .ok (.aload_n 0, 1) := by decide +kernel
theorem dJx4a65c_init_da8c8_1 : decode prog_31_method_2_code 1 = .ok (.invokespecial 1, 3) := by decide +kernel
theorem dJx4a65c_init_da8c8_4 : decode prog_31_method_2_code 4 = .ok (.aload_n 0, 1) := by decide +kernel
theorem dJx4a65c_init_da8c8_5 : decode prog_31_method_2_code 5 = .ok (.getstatic 39, 3) := by decide +kernel
theorem dJx4a65c_init_da8c8_8 : decode prog_31_method_2_code 8 = .ok (.putfield 9, 3) := by decide +kernel
theorem dJx4a65c_init_da8c8_11 : decode prog_31_method_2_code 11 = .ok (.return_, 1) := by decide +kernel
theorem dX2_init_0 : decode prog_4_method_1_code 0 = .ok (.aload_n 0, 1) := by decide +kernel
theorem dX2_init_1 : decode prog_4_method_1_code 1 = .ok (.invokespecial 3, 3) := by decide +kernel
theorem dX2_init_4 : decode prog_4_method_1_code 4 = .ok (.aload_n 0, 1) := by decide +kernel
theorem dX2_init_5 : decode prog_4_method_1_code 5 = .ok (.new 9, 3) := by decide +kernel
theorem dX2_init_8 : decode prog_4_method_1_code 8 = .ok (.dup, 1) := by decide +kernel
theorem dX2_init_9 : decode prog_4_method_1_code 9 = .ok (.invokespecial 11, 3) := by decide +kernel
theorem dX2_init_12 : decode prog_4_method_1_code 12 = .ok (.putfield 12, 3) := by decide +kernel
theorem dX2_init_15 : decode prog_4_method_1_code 15 = .ok (.aload_n 0, 1) := by decide +kernel
theorem dX2_init_16 : decode prog_4_method_1_code 16 = .ok (.sipush 360, 3) := by decide +kernel
theorem dX2_init_19 : decode prog_4_method_1_code 19 = .ok (.newarray .int, 2) := by decide +kernel
theorem dX2_init_21 : decode prog_4_method_1_code 21 = .ok (.putfield 18, 3) := by decide +kernel
theorem dX2_init_24 : decode prog_4_method_1_code 24 = .ok (.return_, 1) := by decide +kernel
theorem dX4_init_0 : decode prog_1_method_1_code 0 = .ok (.aload_n 0, 1) := by decide +kernel
theorem dX4_init_1 : decode prog_1_method_1_code 1 = .ok (.invokespecial 3, 3) := by decide +kernel
theorem dX4_init_4 : decode prog_1_method_1_code 4 = .ok (.aload_n 0, 1) := by decide +kernel
theorem dX4_init_5 : decode prog_1_method_1_code 5 = .ok (.new 9, 3) := by decide +kernel
theorem dX4_init_8 : decode prog_1_method_1_code 8 = .ok (.dup, 1) := by decide +kernel
theorem dX4_init_9 : decode prog_1_method_1_code 9 = .ok (.invokespecial 11, 3) := by decide +kernel
theorem dX4_init_12 : decode prog_1_method_1_code 12 = .ok (.putfield 12, 3) := by decide +kernel
theorem dX4_init_15 : decode prog_1_method_1_code 15 = .ok (.aload_n 0, 1) := by decide +kernel
theorem dX4_init_16 : decode prog_1_method_1_code 16 = .ok (.iconst 4, 1) := by decide +kernel
theorem dX4_init_17 : decode prog_1_method_1_code 17 = .ok (.newarray .int, 2) := by decide +kernel
theorem dX4_init_19 : decode prog_1_method_1_code 19 = .ok (.putfield 16, 3) := by decide +kernel
theorem dX4_init_22 : decode prog_1_method_1_code 22 = .ok (.aload_n 0, 1) := by decide +kernel
theorem dX4_init_23 : decode prog_1_method_1_code 23 = .ok (.new 9, 3) := by decide +kernel
theorem dX4_init_26 : decode prog_1_method_1_code 26 = .ok (.dup, 1) := by decide +kernel
theorem dX4_init_27 : decode prog_1_method_1_code 27 = .ok (.invokespecial 11, 3) := by decide +kernel
theorem dX4_init_30 : decode prog_1_method_1_code 30 = .ok (.putfield 20, 3) := by decide +kernel
theorem dX4_init_33 : decode prog_1_method_1_code 33 = .ok (.aload_n 0, 1) := by decide +kernel
theorem dX4_init_34 : decode prog_1_method_1_code 34 = .ok (.new 9, 3) := by decide +kernel
theorem dX4_init_37 : decode prog_1_method_1_code 37 = .ok (.dup, 1) := by decide +kernel
theorem dX4_init_38 : decode prog_1_method_1_code 38 = .ok (.invokespecial 11, 3) := by decide +kernel
theorem dX4_init_41 : decode prog_1_method_1_code 41 = .ok (.putfield 23, 3) := by decide +kernel
theorem dX4_init_44 : decode prog_1_method_1_code 44 = .ok (.aload_n 0, 1) := by decide +kernel
theorem dX4_init_45 : decode prog_1_method_1_code 45 = .ok (.sipush 2400, 3) := by decide +kernel
theorem dX4_init_48 : decode prog_1_method_1_code 48 = .ok (.putfield 26, 3) := by decide +kernel
theorem dX4_init_51 : decode prog_1_method_1_code 51 = .ok (.aload_n 0, 1) := by decide +kernel
theorem dX4_init_52 : decode prog_1_method_1_code 52 = .ok (.new 30, 3) := by decide +kernel
theorem dX4_init_55 : decode prog_1_method_1_code 55 = .ok (.dup, 1) := by decide +kernel
theorem dX4_init_56 : decode prog_1_method_1_code 56 = .ok (.invokespecial 32, 3) := by decide +kernel
theorem dX4_init_59 : decode prog_1_method_1_code 59 = .ok (.putfield 33, 3) := by decide +kernel
theorem dX4_init_62 : decode prog_1_method_1_code 62 = .ok (.aload_n 0, 1) := by decide +kernel
theorem dX4_init_63 : decode prog_1_method_1_code 63 = .ok (.bipush 63, 2) := by decide +kernel
theorem dX4_init_65 : decode prog_1_method_1_code 65 = .ok (.newarray .int, 2) := by decide +kernel
theorem dX4_init_67 : decode prog_1_method_1_code 67 = .ok (.putfield 37, 3) := by decide +kernel
theorem dX4_init_70 : decode prog_1_method_1_code 70 = .ok (.aload_n 0, 1) := by decide +kernel
theorem dX4_init_71 : decode prog_1_method_1_code 71 = .ok (.bipush 12, 2) := by decide +kernel
theorem dX4_init_73 : decode prog_1_method_1_code 73 = .ok (.newarray .boolean, 2) := by decide +kernel
theorem dX4_init_75 : decode prog_1_method_1_code 75 = .ok (.putfield 40, 3) := by decide +kernel
theorem dX4_init_78 : decode prog_1_method_1_code 78 = .ok (.return_, 1) := by decide +kernel
theorem dX8_init_0 : decode prog_7_method_3_code 0 = .ok (.aload_n 0, 1) := by decide +kernel
theorem dX8_init_1 : decode prog_7_method_3_code 1 = .ok (.invokespecial 1, 3) := by decide +kernel
theorem dX8_init_4 : decode prog_7_method_3_code 4 = .ok (.aload_n 0, 1) := by decide +kernel
theorem dX8_init_5 : decode prog_7_method_3_code 5 = .ok (.sipush 2400, 3) := by decide +kernel
theorem dX8_init_8 : decode prog_7_method_3_code 8 = .ok (.putfield 9, 3) := by decide +kernel
theorem dX8_init_11 : decode prog_7_method_3_code 11 = .ok (.aload_n 0, 1) := by decide +kernel
theorem dX8_init_12 : decode prog_7_method_3_code 12 = .ok (.new 13, 3) := by decide +kernel
theorem dX8_init_15 : decode prog_7_method_3_code 15 = .ok (.dup, 1) := by decide +kernel
theorem dX8_init_16 : decode prog_7_method_3_code 16 = .ok (.invokespecial 15, 3) := by decide +kernel
theorem dX8_init_19 : decode prog_7_method_3_code 19 = .ok (.putfield 16, 3) := by decide +kernel
theorem dX8_init_22 : decode prog_7_method_3_code 22 = .ok (.aload_n 0, 1) := by decide +kernel
theorem dX8_init_23 : decode prog_7_method_3_code 23 = .ok (.new 13, 3) := by decide +kernel
theorem dX8_init_26 : decode prog_7_method_3_code 26 = .ok (.dup, 1) := by decide +kernel
theorem dX8_init_27 : decode prog_7_method_3_code 27 = .ok (.invokespecial 15, 3) := by decide +kernel
theorem dX8_init_30 : decode prog_7_method_3_code 30 = .ok (.putfield 20, 3) := by decide +kernel
theorem dX8_init_33 : decode prog_7_method_3_code 33 = .ok (.aload_n 0, 1) := by decide +kernel
theorem dX8_init_34 : decode prog_7_method_3_code 34 = .ok (.new 13, 3) := by decide +kernel
theorem dX8_init_37 : decode prog_7_method_3_code 37 = .ok (.dup, 1) := by decide +kernel
theorem dX8_init_38 : decode prog_7_method_3_code 38 = .ok (.invokespecial 15, 3) := by decide +kernel
theorem dX8_init_41 : decode prog_7_method_3_code 41 = .ok (.putfield 23, 3) := by decide +kernel
theorem dX8_init_44 : decode prog_7_method_3_code 44 = .ok (.aload_n 0, 1) := by decide +kernel
theorem dX8_init_45 : decode prog_7_method_3_code 45 = .ok (.new 13, 3) := by decide +kernel
theorem dX8_init_48 : decode prog_7_method_3_code 48 = .ok (.dup, 1) := by decide +kernel
theorem dX8_init_49 : decode prog_7_method_3_code 49 = .ok (.invokespecial 15, 3) := by decide +kernel
theorem dX8_init_52 : decode prog_7_method_3_code 52 = .ok (.putfield 26, 3) := by decide +kernel
theorem dX8_init_55 : decode prog_7_method_3_code 55 = .ok (.return_, 1) := by decide +kernel
theorem dJx4a65c_size_8abf5_0 : decode prog_31_method_8_code 0 = .ok (.aload_n 0, 1) := by decide +kernel
theorem dJx4a65c_size_8abf5_1 : decode prog_31_method_8_code 1 = .ok (.getfield 48, 3) := by decide +kernel
theorem dJx4a65c_size_8abf5_4 : decode prog_31_method_8_code 4 = .ok (.ireturn, 1) := by decide +kernel
theorem dX1_init_0 : decode prog_3_method_1_code 0 = .ok (.aload_n 0, 1) := by decide +kernel
theorem dX1_init_1 : decode prog_3_method_1_code 1 = .ok (.invokespecial 1, 3) := by decide +kernel
theorem dX1_init_4 : decode prog_3_method_1_code 4 = .ok (.aload_n 0, 1) := by decide +kernel
theorem dX1_init_5 : decode prog_3_method_1_code 5 = .ok (.iload_n 1, 1) := by decide +kernel
theorem dX1_init_6 : decode prog_3_method_1_code 6 = .ok (.putfield 7, 3) := by decide +kernel
theorem dX1_init_9 : decode prog_3_method_1_code 9 = .ok (.aload_n 0, 1) := by decide +kernel
theorem dX1_init_10 : decode prog_3_method_1_code 10 = .ok (.iload_n 2, 1) := by decide +kernel
theorem dX1_init_11 : decode prog_3_method_1_code 11 = .ok (.putfield 13, 3) := by decide +kernel
theorem dX1_init_14 : decode prog_3_method_1_code 14 = .ok (.return_, 1) := by decide +kernel
theorem dJx4a65c_grow_92f84_0 : decode prog_31_method_6_code 0 = .ok (.aload_n 0, 1) := by decide +kernel
theorem dJx4a65c_grow_92f84_1 : decode prog_31_method_6_code 1 = .ok (.getfield 9, 3) := by decide +kernel
theorem dJx4a65c_grow_92f84_4 : decode prog_31_method_6_code 4 = .ok (.arraylength, 1) := by decide +kernel
theorem dJx4a65c_grow_92f84_5 : decode prog_31_method_6_code 5 = .ok (.istore_n 2, 1) := by decide +kernel
theorem dJx4a65c_grow_92f84_6 : decode prog_31_method_6_code 6 = .ok (.iload_n 2, 1) := by decide +kernel
theorem dJx4a65c_grow_92f84_7 : decode prog_31_method_6_code 7 = .ok (.ifCond .gt 13, 3) := by decide +kernel
theorem dJx4a65c_grow_92f84_10 : decode prog_31_method_6_code 10 = .ok (.aload_n 0, 1) := by decide +kernel
theorem dJx4a65c_grow_92f84_11 : decode prog_31_method_6_code 11 = .ok (.getfield 9, 3) := by decide +kernel
theorem dJx4a65c_grow_92f84_14 : decode prog_31_method_6_code 14 = .ok (.getstatic 39, 3) := by decide +kernel
theorem dJx4a65c_grow_92f84_17 : decode prog_31_method_6_code 17 = .ok (.if_acmp .eq 28, 3) := by decide +kernel
theorem dJx4a65c_grow_92f84_20 : decode prog_31_method_6_code 20 = .ok (.iload_n 2, 1) := by decide +kernel
theorem dJx4a65c_grow_92f84_21 : decode prog_31_method_6_code 21 = .ok (.iload_n 1, 1) := by decide +kernel
theorem dJx4a65c_grow_92f84_22 : decode prog_31_method_6_code 22 = .ok (.iload_n 2, 1) := by decide +kernel
theorem dJx4a65c_grow_92f84_23 : decode prog_31_method_6_code 23 = .ok (.isub, 1) := by decide +kernel
theorem dJx4a65c_grow_92f84_24 : decode prog_31_method_6_code 24 = .ok (.iload_n 2, 1) := by decide +kernel
theorem dJx4a65c_grow_92f84_25 : decode prog_31_method_6_code 25 = .ok (.iconst 1, 1) := by decide +kernel
theorem dJx4a65c_grow_92f84_26 : decode prog_31_method_6_code 26 = .ok (.ishr, 1) := by decide +kernel
theorem dJx4a65c_grow_92f84_45 : decode prog_31_method_6_code 45 = .ok (.aload_n 0, 1) := by decide +kernel
theorem dJx4a65c_grow_92f84_46 : decode prog_31_method_6_code 46 = .ok (.bipush 10, 2) := by decide +kernel
theorem dJx4a65c_grow_92f84_48 : decode prog_31_method_6_code 48 = .ok (.iload_n 1, 1) := by decide +kernel
theorem dJx4a65c_grow_92f84_49 : decode prog_31_method_6_code 49 = .ok (.invokestatic 79, 3) := by decide +kernel
theorem dJx4a65c_grow_92f84_52 : decode prog_31_method_6_code 52 = .ok (.anewarray 7, 3) := by decide +kernel
theorem dJx4a65c_grow_92f84_55 : decode prog_31_method_6_code 55 = .ok (.dup_x1, 1) := by decide +kernel
theorem dJx4a65c_grow_92f84_56 : decode prog_31_method_6_code 56 = .ok (.putfield 9, 3) := by decide +kernel
theorem dJx4a65c_grow_92f84_59 : decode prog_31_method_6_code 59 = .ok (.areturn, 1) := by decide +kernel
theorem dJx4a65c_grow_d5877_0 : decode prog_31_method_7_code 0 = .ok (.aload_n 0, 1) := by decide +kernel
theorem dJx4a65c_grow_d5877_1 : decode prog_31_method_7_code 1 = .ok (.aload_n 0, 1) := by decide +kernel
theorem dJx4a65c_grow_d5877_2 : decode prog_31_method_7_code 2 = .ok (.getfield 48, 3) := by decide +kernel
theorem dJx4a65c_grow_d5877_5 : decode prog_31_method_7_code 5 = .ok (.iconst 1, 1) := by decide +kernel
theorem dJx4a65c_grow_d5877_6 : decode prog_31_method_7_code 6 = .ok (.iadd, 1) := by decide +kernel
theorem dJx4a65c_grow_d5877_7 : decode prog_31_method_7_code 7 = .ok (.invokevirtual 69, 3) := by decide +kernel
theorem dJx4a65c_grow_d5877_10 : decode prog_31_method_7_code 10 = .ok (.areturn, 1) := by decide +kernel
theorem dJx4a65c_add_72be8_0 : decode prog_31_method_24_code 0 = .ok (.iload_n 3, 1) := by decide +kernel
theorem dJx4a65c_add_72be8_1 : decode prog_31_method_24_code 1 = .ok (.aload_n 2, 1) := by decide +kernel
theorem dJx4a65c_add_72be8_2 : decode prog_31_method_24_code 2 = .ok (.arraylength, 1) := by decide +kernel
theorem dJx4a65c_add_72be8_3 : decode prog_31_method_24_code 3 = .ok (.if_icmp .ne 8, 3) := by decide +kernel
theorem dJx4a65c_add_72be8_6 : decode prog_31_method_24_code 6 = .ok (.aload_n 0, 1) := by decide +kernel
theorem dJx4a65c_add_72be8_7 : decode prog_31_method_24_code 7 = .ok (.invokevirtual 129, 3) := by decide +kernel
theorem dJx4a65c_add_72be8_10 : decode prog_31_method_24_code 10 = .ok (.astore_n 2, 1) := by decide +kernel
theorem dJx4a65c_add_72be8_11 : decode prog_31_method_24_code 11 = .ok (.aload_n 2, 1) := by decide +kernel
theorem dJx4a65c_add_72be8_12 : decode prog_31_method_24_code 12 = .ok (.iload_n 3, 1) := by decide +kernel
theorem dJx4a65c_add_72be8_13 : decode prog_31_method_24_code 13 = .ok (.aload_n 1, 1) := by decide +kernel
theorem dJx4a65c_add_72be8_14 : decode prog_31_method_24_code 14 = .ok (.aastore, 1) := by decide +kernel
theorem dJx4a65c_add_72be8_15 : decode prog_31_method_24_code 15 = .ok (.aload_n 0, 1) := by decide +kernel
theorem dJx4a65c_add_72be8_16 : decode prog_31_method_24_code 16 = .ok (.iload_n 3, 1) := by decide +kernel
theorem dJx4a65c_add_72be8_17 : decode prog_31_method_24_code 17 = .ok (.iconst 1, 1) := by decide +kernel
theorem dJx4a65c_add_72be8_18 : decode prog_31_method_24_code 18 = .ok (.iadd, 1) := by decide +kernel
theorem dJx4a65c_add_72be8_19 : decode prog_31_method_24_code 19 = .ok (.putfield 48, 3) := by decide +kernel
theorem dJx4a65c_add_72be8_22 : decode prog_31_method_24_code 22 = .ok (.return_, 1) := by decide +kernel
theorem dJx4a65c_add_9ea2d_0 : decode prog_31_method_25_code 0 = .ok (.aload_n 0, 1) := by decide +kernel
theorem dJx4a65c_add_9ea2d_1 : decode prog_31_method_25_code 1 = .ok (.dup, 1) := by decide +kernel
theorem dJx4a65c_add_9ea2d_2 : decode prog_31_method_25_code 2 = .ok (.getfield 63, 3) := by decide +kernel
theorem dJx4a65c_add_9ea2d_5 : decode prog_31_method_25_code 5 = .ok (.iconst 1, 1) := by decide +kernel
theorem dJx4a65c_add_9ea2d_6 : decode prog_31_method_25_code 6 = .ok (.iadd, 1) := by decide +kernel
theorem dJx4a65c_add_9ea2d_7 : decode prog_31_method_25_code 7 = .ok (.putfield 63, 3) := by decide +kernel
theorem dJx4a65c_add_9ea2d_10 : decode prog_31_method_25_code 10 = .ok (.aload_n 0, 1) := by decide +kernel
theorem dJx4a65c_add_9ea2d_11 : decode prog_31_method_25_code 11 = .ok (.aload_n 1, 1) := by decide +kernel
theorem dJx4a65c_add_9ea2d_12 : decode prog_31_method_25_code 12 = .ok (.aload_n 0, 1) := by decide +kernel
theorem dJx4a65c_add_9ea2d_13 : decode prog_31_method_25_code 13 = .ok (.getfield 9, 3) := by decide +kernel
theorem dJx4a65c_add_9ea2d_16 : decode prog_31_method_25_code 16 = .ok (.aload_n 0, 1) := by decide +kernel
theorem dJx4a65c_add_9ea2d_17 : decode prog_31_method_25_code 17 = .ok (.getfield 48, 3) := by decide +kernel
theorem dJx4a65c_add_9ea2d_20 : decode prog_31_method_25_code 20 = .ok (.invokevirtual 131, 3) := by decide +kernel
theorem dJx4a65c_add_9ea2d_23 : decode prog_31_method_25_code 23 = .ok (.iconst 1, 1) := by decide +kernel
theorem dJx4a65c_add_9ea2d_24 : decode prog_31_method_25_code 24 = .ok (.ireturn, 1) := by decide +kernel
theorem dX4_hit_0 : decode prog_1_method_2_code 0 = .ok (.iload_n 1, 1) := by decide +kernel
theorem dX4_hit_1 : decode prog_1_method_2_code 1 = .ok (.ifCond .lt 21, 3) := by decide +kernel
theorem dX4_hit_4 : decode prog_1_method_2_code 4 = .ok (.iload_n 1, 1) := by decide +kernel
theorem dX4_hit_5 : decode prog_1_method_2_code 5 = .ok (.aload_n 0, 1) := by decide +kernel
theorem dX4_hit_6 : decode prog_1_method_2_code 6 = .ok (.getfield 26, 3) := by decide +kernel
theorem dX4_hit_9 : decode prog_1_method_2_code 9 = .ok (.if_icmp .ge 13, 3) := by decide +kernel
theorem dX4_hit_12 : decode prog_1_method_2_code 12 = .ok (.iload_n 2, 1) := by decide +kernel
theorem dX4_hit_13 : decode prog_1_method_2_code 13 = .ok (.ifCond .lt 9, 3) := by decide +kernel
theorem dX4_hit_16 : decode prog_1_method_2_code 16 = .ok (.iload_n 2, 1) := by decide +kernel
theorem dX4_hit_17 : decode prog_1_method_2_code 17 = .ok (.bipush 9, 2) := by decide +kernel
theorem dX4_hit_19 : decode prog_1_method_2_code 19 = .ok (.if_icmp .le 13, 3) := by decide +kernel
theorem dX4_hit_22 : decode prog_1_method_2_code 22 = .ok (.new 44, 3) := by decide +kernel
theorem dX4_hit_25 : decode prog_1_method_2_code 25 = .ok (.dup, 1) := by decide +kernel
theorem dX4_hit_26 : decode prog_1_method_2_code 26 = .ok (.ldc 46, 2) := by decide +kernel
theorem dX4_hit_28 : decode prog_1_method_2_code 28 = .ok (.invokespecial 48, 3) := by decide +kernel
theorem dX4_hit_31 : decode prog_1_method_2_code 31 = .ok (.athrow, 1) := by decide +kernel
theorem dX4_hit_32 : decode prog_1_method_2_code 32 = .ok (.aload_n 0, 1) := by decide +kernel
theorem dX4_hit_33 : decode prog_1_method_2_code 33 = .ok (.getfield 12, 3) := by decide +kernel
theorem dX4_hit_36 : decode prog_1_method_2_code 36 = .ok (.invokevirtual 51, 3) := by decide +kernel
theorem dX4_hit_39 : decode prog_1_method_2_code 39 = .ok (.bipush 12, 2) := by decide +kernel
theorem dX4_hit_41 : decode prog_1_method_2_code 41 = .ok (.if_icmp .lt 13, 3) := by decide +kernel
theorem dX4_hit_44 : decode prog_1_method_2_code 44 = .ok (.new 55, 3) := by decide +kernel
theorem dX4_hit_47 : decode prog_1_method_2_code 47 = .ok (.dup, 1) := by decide +kernel
theorem dX4_hit_48 : decode prog_1_method_2_code 48 = .ok (.ldc 57, 2) := by decide +kernel
theorem dX4_hit_50 : decode prog_1_method_2_code 50 = .ok (.invokespecial 59, 3) := by decide +kernel
theorem dX4_hit_53 : decode prog_1_method_2_code 53 = .ok (.athrow, 1) := by decide +kernel
theorem dX4_hit_54 : decode prog_1_method_2_code 54 = .ok (.aload_n 0, 1) := by decide +kernel
theorem dX4_hit_55 : decode prog_1_method_2_code 55 = .ok (.getfield 12, 3) := by decide +kernel
theorem dX4_hit_58 : decode prog_1_method_2_code 58 = .ok (.new 60, 3) := by decide +kernel
theorem dX4_hit_61 : decode prog_1_method_2_code 61 = .ok (.dup, 1) := by decide +kernel
theorem dX4_hit_62 : decode prog_1_method_2_code 62 = .ok (.iload_n 1, 1) := by decide +kernel
theorem dX4_hit_63 : decode prog_1_method_2_code 63 = .ok (.iload_n 2, 1) := by decide +kernel
theorem dX4_hit_64 : decode prog_1_method_2_code 64 = .ok (.invokespecial 62, 3) := by decide +kernel
theorem dX4_hit_67 : decode prog_1_method_2_code 67 = .ok (.invokevirtual 65, 3) := by decide +kernel
theorem dX4_hit_70 : decode prog_1_method_2_code 70 = .ok (.pop, 1) := by decide +kernel
theorem dX4_hit_71 : decode prog_1_method_2_code 71 = .ok (.aload_n 0, 1) := by decide +kernel
theorem dX4_hit_72 : decode prog_1_method_2_code 72 = .ok (.getfield 12, 3) := by decide +kernel
theorem dX4_hit_75 : decode prog_1_method_2_code 75 = .ok (.invokevirtual 51, 3) := by decide +kernel
theorem dX4_hit_78 : decode prog_1_method_2_code 78 = .ok (.iconst 1, 1) := by decide +kernel
theorem dX4_hit_79 : decode prog_1_method_2_code 79 = .ok (.isub, 1) := by decide +kernel
theorem dX4_hit_80 : decode prog_1_method_2_code 80 = .ok (.ireturn, 1) := by decide +kernel
theorem dL_hit_0 : decode method_3_code 0 = .ok (.aload_n 3, 1) := by decide +kernel
theorem dL_hit_1 : decode method_3_code 1 = .ok (.iconst 0, 1) := by decide +kernel
theorem dL_hit_2 : decode method_3_code 2 = .ok (.aload_n 0, 1) := by decide +kernel
theorem dL_hit_3 : decode method_3_code 3 = .ok (.iload_n 1, 1) := by decide +kernel
theorem dL_hit_4 : decode method_3_code 4 = .ok (.iload_n 2, 1) := by decide +kernel
theorem dL_hit_5 : decode method_3_code 5 = .ok (.invokevirtual 7, 3) := by decide +kernel
theorem dL_hit_8 : decode method_3_code 8 = .ok (.i2l, 1) := by decide +kernel
theorem dL_hit_9 : decode method_3_code 9 = .ok (.lastore, 1) := by decide +kernel
theorem dL_hit_10 : decode method_3_code 10 = .ok (.goto 11, 3) := by decide +kernel
theorem dL_hit_13 : decode method_3_code 13 = .ok (.astore 4, 2) := by decide +kernel
theorem dL_hit_15 : decode method_3_code 15 = .ok (.iconst 1, 1) := by decide +kernel
theorem dL_hit_16 : decode method_3_code 16 = .ok (.ireturn, 1) := by decide +kernel
theorem dL_hit_17 : decode method_3_code 17 = .ok (.astore 4, 2) := by decide +kernel
theorem dL_hit_19 : decode method_3_code 19 = .ok (.iconst 2, 1) := by decide +kernel
theorem dL_hit_20 : decode method_3_code 20 = .ok (.ireturn, 1) := by decide +kernel
theorem dL_hit_21 : decode method_3_code 21 = .ok (.iconst 0, 1) := by decide +kernel
theorem dL_hit_22 : decode method_3_code 22 = .ok (.ireturn, 1) := by decide +kernel
theorem dX8_isIn_0 : decode prog_7_method_1_code 0 = .ok (.iload_n 0, 1) := by decide +kernel
theorem dX8_isIn_1 : decode prog_7_method_1_code 1 = .ok (.iload_n 1, 1) := by decide +kernel
theorem dX8_isIn_2 : decode prog_7_method_1_code 2 = .ok (.if_icmp .lt 12, 3) := by decide +kernel
theorem dX8_isIn_5 : decode prog_7_method_1_code 5 = .ok (.iload_n 0, 1) := by decide +kernel
theorem dX8_isIn_6 : decode prog_7_method_1_code 6 = .ok (.iload_n 2, 1) := by decide +kernel
theorem dX8_isIn_7 : decode prog_7_method_1_code 7 = .ok (.if_icmp .gt 7, 3) := by decide +kernel
theorem dX8_isIn_10 : decode prog_7_method_1_code 10 = .ok (.iconst 1, 1) := by decide +kernel
theorem dX8_isIn_11 : decode prog_7_method_1_code 11 = .ok (.goto 4, 3) := by decide +kernel
theorem dX8_isIn_14 : decode prog_7_method_1_code 14 = .ok (.iconst 0, 1) := by decide +kernel
theorem dX8_isIn_15 : decode prog_7_method_1_code 15 = .ok (.ireturn, 1) := by decide +kernel
theorem dX8_refuse_0 : decode prog_7_method_5_code 0 = .ok (.iload_n 1, 1) := by decide +kernel
theorem dX8_refuse_1 : decode prog_7_method_5_code 1 = .ok (.ifCond .eq 15, 3) := by decide +kernel
theorem dX8_refuse_4 : decode prog_7_method_5_code 4 = .ok (.aload_n 0, 1) := by decide +kernel
theorem dX8_refuse_5 : decode prog_7_method_5_code 5 = .ok (.getfield 29, 3) := by decide +kernel
theorem dX8_refuse_8 : decode prog_7_method_5_code 8 = .ok (.ifCond .ne 8, 3) := by decide +kernel
theorem dX8_refuse_11 : decode prog_7_method_5_code 11 = .ok (.aload_n 0, 1) := by decide +kernel
theorem dX8_refuse_12 : decode prog_7_method_5_code 12 = .ok (.iload_n 2, 1) := by decide +kernel
theorem dX8_refuse_13 : decode prog_7_method_5_code 13 = .ok (.putfield 29, 3) := by decide +kernel
theorem dX8_refuse_16 : decode prog_7_method_5_code 16 = .ok (.aload_n 0, 1) := by decide +kernel
theorem dX8_refuse_17 : decode prog_7_method_5_code 17 = .ok (.getfield 29, 3) := by decide +kernel
theorem dX8_refuse_20 : decode prog_7_method_5_code 20 = .ok (.ifCond .le 7, 3) := by decide +kernel
theorem dX8_refuse_23 : decode prog_7_method_5_code 23 = .ok (.iconst 1, 1) := by decide +kernel
theorem dX8_refuse_24 : decode prog_7_method_5_code 24 = .ok (.goto 4, 3) := by decide +kernel
theorem dX8_refuse_27 : decode prog_7_method_5_code 27 = .ok (.iconst 0, 1) := by decide +kernel
theorem dX8_refuse_28 : decode prog_7_method_5_code 28 = .ok (.ireturn, 1) := by decide +kernel
theorem dX8_start_0 : decode prog_7_method_6_code 0 = .ok (.aload_n 0, 1) := by decide +kernel
theorem dX8_start_1 : decode prog_7_method_6_code 1 = .ok (.iconst 0, 1) := by decide +kernel
theorem dX8_start_2 : decode prog_7_method_6_code 2 = .ok (.putfield 29, 3) := by decide +kernel
theorem dX8_start_5 : decode prog_7_method_6_code 5 = .ok (.aload_n 0, 1) := by decide +kernel
theorem dX8_start_6 : decode prog_7_method_6_code 6 = .ok (.iload_n 1, 1) := by decide +kernel
theorem dX8_start_7 : decode prog_7_method_6_code 7 = .ok (.iload_n 2, 1) := by decide +kernel
theorem dX8_start_8 : decode prog_7_method_6_code 8 = .ok (.invokevirtual 32, 3) := by decide +kernel
theorem dX8_start_11 : decode prog_7_method_6_code 11 = .ok (.ireturn, 1) := by decide +kernel
theorem dX6_init_0 : decode prog_9_method_1_code 0 = .ok (.aload_n 0, 1) := by decide +kernel
theorem dX6_init_1 : decode prog_9_method_1_code 1 = .ok (.invokespecial 1, 3) := by decide +kernel
theorem dX6_init_4 : decode prog_9_method_1_code 4 = .ok (.aload_n 0, 1) := by decide +kernel
theorem dX6_init_5 : decode prog_9_method_1_code 5 = .ok (.iload_n 1, 1) := by decide +kernel
theorem dX6_init_6 : decode prog_9_method_1_code 6 = .ok (.putfield 7, 3) := by decide +kernel
theorem dX6_init_9 : decode prog_9_method_1_code 9 = .ok (.aload_n 0, 1) := by decide +kernel
theorem dX6_init_10 : decode prog_9_method_1_code 10 = .ok (.iload_n 2, 1) := by decide +kernel
theorem dX6_init_11 : decode prog_9_method_1_code 11 = .ok (.putfield 13, 3) := by decide +kernel
theorem dX6_init_14 : decode prog_9_method_1_code 14 = .ok (.return_, 1) := by decide +kernel
theorem dX8_hit_0 : decode prog_7_method_16_code 0 = .ok (.aload_n 0, 1) := by decide +kernel
theorem dX8_hit_1 : decode prog_7_method_16_code 1 = .ok (.iload_n 1, 1) := by decide +kernel
theorem dX8_hit_2 : decode prog_7_method_16_code 2 = .ok (.iconst 0, 1) := by decide +kernel
theorem dX8_hit_3 : decode prog_7_method_16_code 3 = .ok (.aload_n 0, 1) := by decide +kernel
theorem dX8_hit_4 : decode prog_7_method_16_code 4 = .ok (.getfield 9, 3) := by decide +kernel
theorem dX8_hit_7 : decode prog_7_method_16_code 7 = .ok (.iconst 1, 1) := by decide +kernel
theorem dX8_hit_8 : decode prog_7_method_16_code 8 = .ok (.isub, 1) := by decide +kernel
theorem dX8_hit_9 : decode prog_7_method_16_code 9 = .ok (.invokestatic 40, 3) := by decide +kernel
theorem dX8_hit_12 : decode prog_7_method_16_code 12 = .ok (.ifCond .eq 13, 3) := by decide +kernel
theorem dX8_hit_15 : decode prog_7_method_16_code 15 = .ok (.iload_n 2, 1) := by decide +kernel
theorem dX8_hit_16 : decode prog_7_method_16_code 16 = .ok (.iconst 0, 1) := by decide +kernel
theorem dX8_hit_17 : decode prog_7_method_16_code 17 = .ok (.bipush 9, 2) := by decide +kernel
theorem dX8_hit_19 : decode prog_7_method_16_code 19 = .ok (.invokestatic 40, 3) := by decide +kernel
theorem dX8_hit_22 : decode prog_7_method_16_code 22 = .ok (.ifCond .ne 7, 3) := by decide +kernel
theorem dX8_hit_25 : decode prog_7_method_16_code 25 = .ok (.iconst 1, 1) := by decide +kernel
theorem dX8_hit_26 : decode prog_7_method_16_code 26 = .ok (.goto 4, 3) := by decide +kernel
theorem dX8_hit_29 : decode prog_7_method_16_code 29 = .ok (.iconst 0, 1) := by decide +kernel
theorem dX8_hit_30 : decode prog_7_method_16_code 30 = .ok (.iconst 1, 1) := by decide +kernel
theorem dX8_hit_31 : decode prog_7_method_16_code 31 = .ok (.invokevirtual 99, 3) := by decide +kernel
theorem dX8_hit_34 : decode prog_7_method_16_code 34 = .ok (.ifCond .ne 28, 3) := by decide +kernel
theorem dX8_hit_37 : decode prog_7_method_16_code 37 = .ok (.aload_n 0, 1) := by decide +kernel
theorem dX8_hit_38 : decode prog_7_method_16_code 38 = .ok (.aload_n 0, 1) := by decide +kernel
theorem dX8_hit_39 : decode prog_7_method_16_code 39 = .ok (.getfield 16, 3) := by decide +kernel
theorem dX8_hit_42 : decode prog_7_method_16_code 42 = .ok (.invokevirtual 36, 3) := by decide +kernel
theorem dX8_hit_45 : decode prog_7_method_16_code 45 = .ok (.bipush 12, 2) := by decide +kernel
theorem dX8_hit_47 : decode prog_7_method_16_code 47 = .ok (.if_icmp .ne 7, 3) := by decide +kernel
theorem dX8_hit_50 : decode prog_7_method_16_code 50 = .ok (.iconst 1, 1) := by decide +kernel
theorem dX8_hit_51 : decode prog_7_method_16_code 51 = .ok (.goto 4, 3) := by decide +kernel
theorem dX8_hit_54 : decode prog_7_method_16_code 54 = .ok (.iconst 0, 1) := by decide +kernel
theorem dX8_hit_55 : decode prog_7_method_16_code 55 = .ok (.iconst 2, 1) := by decide +kernel
theorem dX8_hit_56 : decode prog_7_method_16_code 56 = .ok (.invokevirtual 32, 3) := by decide +kernel
theorem dX8_hit_59 : decode prog_7_method_16_code 59 = .ok (.ifCond .eq 5, 3) := by decide +kernel
theorem dX8_hit_62 : decode prog_7_method_16_code 62 = .ok (.iconst 0, 1) := by decide +kernel
theorem dX8_hit_63 : decode prog_7_method_16_code 63 = .ok (.ireturn, 1) := by decide +kernel
theorem dX8_hit_64 : decode prog_7_method_16_code 64 = .ok (.aload_n 0, 1) := by decide +kernel
theorem dX8_hit_65 : decode prog_7_method_16_code 65 = .ok (.getfield 16, 3) := by decide +kernel
theorem dX8_hit_68 : decode prog_7_method_16_code 68 = .ok (.new 76, 3) := by decide +kernel
theorem dX8_hit_71 : decode prog_7_method_16_code 71 = .ok (.dup, 1) := by decide +kernel
theorem dX8_hit_72 : decode prog_7_method_16_code 72 = .ok (.iload_n 1, 1) := by decide +kernel
theorem dX8_hit_73 : decode prog_7_method_16_code 73 = .ok (.iload_n 2, 1) := by decide +kernel
theorem dX8_hit_74 : decode prog_7_method_16_code 74 = .ok (.invokespecial 102, 3) := by decide +kernel
theorem dX8_hit_77 : decode prog_7_method_16_code 77 = .ok (.invokevirtual 105, 3) := by decide +kernel
theorem dX8_hit_80 : decode prog_7_method_16_code 80 = .ok (.pop, 1) := by decide +kernel
theorem dX8_hit_81 : decode prog_7_method_16_code 81 = .ok (.aload_n 0, 1) := by decide +kernel
theorem dX8_hit_82 : decode prog_7_method_16_code 82 = .ok (.getfield 16, 3) := by decide +kernel
theorem dX8_hit_85 : decode prog_7_method_16_code 85 = .ok (.invokevirtual 36, 3) := by decide +kernel
theorem dX8_hit_88 : decode prog_7_method_16_code 88 = .ok (.iconst 1, 1) := by decide +kernel
theorem dX8_hit_89 : decode prog_7_method_16_code 89 = .ok (.isub, 1) := by decide +kernel
theorem dX8_hit_90 : decode prog_7_method_16_code 90 = .ok (.ireturn, 1) := by decide +kernel
theorem dX8_thrown_0 : decode prog_7_method_4_code 0 = .ok (.aload_n 0, 1) := by decide +kernel
theorem dX8_thrown_1 : decode prog_7_method_4_code 1 = .ok (.getfield 29, 3) := by decide +kernel
theorem dX8_thrown_4 : decode prog_7_method_4_code 4 = .ok (.ireturn, 1) := by decide +kernel
theorem dX4_theme_0 : decode prog_1_method_3_code 0 = .ok (.iload_n 1, 1) := by decide +kernel
theorem dX4_theme_1 : decode prog_1_method_3_code 1 = .ok (.ifCond .lt 11, 3) := by decide +kernel
theorem dX4_theme_4 : decode prog_1_method_3_code 4 = .ok (.iload_n 1, 1) := by decide +kernel
theorem dX4_theme_5 : decode prog_1_method_3_code 5 = .ok (.aload_n 0, 1) := by decide +kernel
theorem dX4_theme_6 : decode prog_1_method_3_code 6 = .ok (.getfield 26, 3) := by decide +kernel
theorem dX4_theme_9 : decode prog_1_method_3_code 9 = .ok (.if_icmp .le 13, 3) := by decide +kernel
theorem dX4_theme_12 : decode prog_1_method_3_code 12 = .ok (.new 44, 3) := by decide +kernel
theorem dX4_theme_15 : decode prog_1_method_3_code 15 = .ok (.dup, 1) := by decide +kernel
theorem dX4_theme_16 : decode prog_1_method_3_code 16 = .ok (.ldc 69, 2) := by decide +kernel
theorem dX4_theme_18 : decode prog_1_method_3_code 18 = .ok (.invokespecial 48, 3) := by decide +kernel
theorem dX4_theme_21 : decode prog_1_method_3_code 21 = .ok (.athrow, 1) := by decide +kernel
theorem dX4_theme_22 : decode prog_1_method_3_code 22 = .ok (.aload_n 0, 1) := by decide +kernel
theorem dX4_theme_23 : decode prog_1_method_3_code 23 = .ok (.getfield 71, 3) := by decide +kernel
theorem dX4_theme_26 : decode prog_1_method_3_code 26 = .ok (.iconst 4, 1) := by decide +kernel
theorem dX4_theme_27 : decode prog_1_method_3_code 27 = .ok (.if_icmp .lt 13, 3) := by decide +kernel
theorem dX4_theme_30 : decode prog_1_method_3_code 30 = .ok (.new 55, 3) := by decide +kernel
theorem dX4_theme_33 : decode prog_1_method_3_code 33 = .ok (.dup, 1) := by decide +kernel
theorem dX4_theme_34 : decode prog_1_method_3_code 34 = .ok (.ldc 74, 2) := by decide +kernel
theorem dX4_theme_36 : decode prog_1_method_3_code 36 = .ok (.invokespecial 59, 3) := by decide +kernel
theorem dX4_theme_39 : decode prog_1_method_3_code 39 = .ok (.athrow, 1) := by decide +kernel
theorem dX4_theme_40 : decode prog_1_method_3_code 40 = .ok (.aload_n 0, 1) := by decide +kernel
theorem dX4_theme_41 : decode prog_1_method_3_code 41 = .ok (.getfield 16, 3) := by decide +kernel
theorem dX4_theme_44 : decode prog_1_method_3_code 44 = .ok (.aload_n 0, 1) := by decide +kernel
theorem dX4_theme_45 : decode prog_1_method_3_code 45 = .ok (.getfield 71, 3) := by decide +kernel
theorem dX4_theme_48 : decode prog_1_method_3_code 48 = .ok (.iload_n 1, 1) := by decide +kernel
theorem dX4_theme_49 : decode prog_1_method_3_code 49 = .ok (.iastore, 1) := by decide +kernel
theorem dX4_theme_50 : decode prog_1_method_3_code 50 = .ok (.aload_n 0, 1) := by decide +kernel
theorem dX4_theme_51 : decode prog_1_method_3_code 51 = .ok (.dup, 1) := by decide +kernel
theorem dX4_theme_52 : decode prog_1_method_3_code 52 = .ok (.getfield 71, 3) := by decide +kernel
theorem dX4_theme_55 : decode prog_1_method_3_code 55 = .ok (.iconst 1, 1) := by decide +kernel
theorem dX4_theme_56 : decode prog_1_method_3_code 56 = .ok (.iadd, 1) := by decide +kernel
theorem dX4_theme_57 : decode prog_1_method_3_code 57 = .ok (.putfield 71, 3) := by decide +kernel
theorem dX4_theme_60 : decode prog_1_method_3_code 60 = .ok (.aload_n 0, 1) := by decide +kernel
theorem dX4_theme_61 : decode prog_1_method_3_code 61 = .ok (.getfield 71, 3) := by decide +kernel
theorem dX4_theme_64 : decode prog_1_method_3_code 64 = .ok (.iconst 1, 1) := by decide +kernel
theorem dX4_theme_65 : decode prog_1_method_3_code 65 = .ok (.isub, 1) := by decide +kernel
theorem dX4_theme_66 : decode prog_1_method_3_code 66 = .ok (.ireturn, 1) := by decide +kernel
theorem dL_theme_0 : decode method_4_code 0 = .ok (.aload_n 2, 1) := by decide +kernel
theorem dL_theme_1 : decode method_4_code 1 = .ok (.iconst 0, 1) := by decide +kernel
theorem dL_theme_2 : decode method_4_code 2 = .ok (.aload_n 0, 1) := by decide +kernel
theorem dL_theme_3 : decode method_4_code 3 = .ok (.iload_n 1, 1) := by decide +kernel
theorem dL_theme_4 : decode method_4_code 4 = .ok (.invokevirtual 17, 3) := by decide +kernel
theorem dL_theme_7 : decode method_4_code 7 = .ok (.i2l, 1) := by decide +kernel
theorem dL_theme_8 : decode method_4_code 8 = .ok (.lastore, 1) := by decide +kernel
theorem dL_theme_9 : decode method_4_code 9 = .ok (.goto 9, 3) := by decide +kernel
theorem dL_theme_12 : decode method_4_code 12 = .ok (.astore_n 3, 1) := by decide +kernel
theorem dL_theme_13 : decode method_4_code 13 = .ok (.iconst 1, 1) := by decide +kernel
theorem dL_theme_14 : decode method_4_code 14 = .ok (.ireturn, 1) := by decide +kernel
theorem dL_theme_15 : decode method_4_code 15 = .ok (.astore_n 3, 1) := by decide +kernel
theorem dL_theme_16 : decode method_4_code 16 = .ok (.iconst 2, 1) := by decide +kernel
theorem dL_theme_17 : decode method_4_code 17 = .ok (.ireturn, 1) := by decide +kernel
theorem dL_theme_18 : decode method_4_code 18 = .ok (.iconst 0, 1) := by decide +kernel
theorem dL_theme_19 : decode method_4_code 19 = .ok (.ireturn, 1) := by decide +kernel
theorem dJxd2413_init_da8c8_0 : decode prog_22_method_1_code 0 = .ok (.aload_n 0, 1) := by decide +kernel
theorem dJxd2413_init_da8c8_1 : decode prog_22_method_1_code 1 = .ok (.invokespecial 1, 3) := by decide +kernel
theorem dJxd2413_init_da8c8_4 : decode prog_22_method_1_code 4 = .ok (.return_, 1) := by decide +kernel
theorem dJ6_init_d00df_0 : decode prog_18_method_23_code 0 = .ok (.aload_n 0, 1) := by decide +kernel
theorem dJ6_init_d00df_1 : decode prog_18_method_23_code 1 = .ok (.invokespecial 202, 3) := by decide +kernel
theorem dJ6_init_d00df_4 : decode prog_18_method_23_code 4 = .ok (.aload_n 0, 1) := by decide +kernel
theorem dJ6_init_d00df_5 : decode prog_18_method_23_code 5 = .ok (.iload_n 1, 1) := by decide +kernel
theorem dJ6_init_d00df_6 : decode prog_18_method_23_code 6 = .ok (.putfield 205, 3) := by decide +kernel
theorem dJ6_init_d00df_9 : decode prog_18_method_23_code 9 = .ok (.return_, 1) := by decide +kernel
theorem dJ6_valueOf_2dffe_0 : decode prog_18_method_22_code 0 = .ok (.iload_n 0, 1) := by decide +kernel
theorem dJ6_valueOf_2dffe_1 : decode prog_18_method_22_code 1 = .ok (.bipush (-128), 2) := by decide +kernel
theorem dJ6_valueOf_2dffe_3 : decode prog_18_method_22_code 3 = .ok (.if_icmp .lt 20, 3) := by decide +kernel
theorem dJ6_valueOf_2dffe_6 : decode prog_18_method_22_code 6 = .ok (.iload_n 0, 1) := by decide +kernel
theorem dJ6_valueOf_2dffe_7 : decode prog_18_method_22_code 7 = .ok (.getstatic 191, 3) := by decide +kernel
theorem dJ6_valueOf_2dffe_10 : decode prog_18_method_22_code 10 = .ok (.if_icmp .gt 13, 3) := by decide +kernel
theorem dJ6_valueOf_2dffe_13 : decode prog_18_method_22_code 13 = .ok (.getstatic 195, 3) := by decide +kernel
theorem dJ6_valueOf_2dffe_16 : decode prog_18_method_22_code 16 = .ok (.iload_n 0, 1) := by decide +kernel
theorem dJ6_valueOf_2dffe_17 : decode prog_18_method_22_code 17 = .ok (.sipush 128, 3) := by decide +kernel
theorem dJ6_valueOf_2dffe_20 : decode prog_18_method_22_code 20 = .ok (.iadd, 1) := by decide +kernel
theorem dJ6_valueOf_2dffe_21 : decode prog_18_method_22_code 21 = .ok (.aaload, 1) := by decide +kernel
theorem dJ6_valueOf_2dffe_22 : decode prog_18_method_22_code 22 = .ok (.areturn, 1) := by decide +kernel
theorem dJ6_valueOf_2dffe_23 : decode prog_18_method_22_code 23 = .ok (.new 1, 3) := by decide +kernel
theorem dJ6_valueOf_2dffe_26 : decode prog_18_method_22_code 26 = .ok (.dup, 1) := by decide +kernel
theorem dJ6_valueOf_2dffe_27 : decode prog_18_method_22_code 27 = .ok (.iload_n 0, 1) := by decide +kernel
theorem dJ6_valueOf_2dffe_28 : decode prog_18_method_22_code 28 = .ok (.invokespecial 199, 3) := by decide +kernel
theorem dJ6_valueOf_2dffe_31 : decode prog_18_method_22_code 31 = .ok (.areturn, 1) := by decide +kernel
theorem dX8_theme_0 : decode prog_7_method_17_code 0 = .ok (.aload_n 0, 1) := by decide +kernel
theorem dX8_theme_1 : decode prog_7_method_17_code 1 = .ok (.iload_n 1, 1) := by decide +kernel
theorem dX8_theme_2 : decode prog_7_method_17_code 2 = .ok (.iconst 0, 1) := by decide +kernel
theorem dX8_theme_3 : decode prog_7_method_17_code 3 = .ok (.aload_n 0, 1) := by decide +kernel
theorem dX8_theme_4 : decode prog_7_method_17_code 4 = .ok (.getfield 9, 3) := by decide +kernel
theorem dX8_theme_7 : decode prog_7_method_17_code 7 = .ok (.invokestatic 40, 3) := by decide +kernel
theorem dX8_theme_10 : decode prog_7_method_17_code 10 = .ok (.ifCond .ne 7, 3) := by decide +kernel
theorem dX8_theme_13 : decode prog_7_method_17_code 13 = .ok (.iconst 1, 1) := by decide +kernel
theorem dX8_theme_14 : decode prog_7_method_17_code 14 = .ok (.goto 4, 3) := by decide +kernel
theorem dX8_theme_17 : decode prog_7_method_17_code 17 = .ok (.iconst 0, 1) := by decide +kernel
theorem dX8_theme_18 : decode prog_7_method_17_code 18 = .ok (.iconst 1, 1) := by decide +kernel
theorem dX8_theme_19 : decode prog_7_method_17_code 19 = .ok (.invokevirtual 99, 3) := by decide +kernel
theorem dX8_theme_22 : decode prog_7_method_17_code 22 = .ok (.ifCond .ne 27, 3) := by decide +kernel
theorem dX8_theme_25 : decode prog_7_method_17_code 25 = .ok (.aload_n 0, 1) := by decide +kernel
theorem dX8_theme_26 : decode prog_7_method_17_code 26 = .ok (.aload_n 0, 1) := by decide +kernel
theorem dX8_theme_27 : decode prog_7_method_17_code 27 = .ok (.getfield 20, 3) := by decide +kernel
theorem dX8_theme_30 : decode prog_7_method_17_code 30 = .ok (.invokevirtual 36, 3) := by decide +kernel
theorem dX8_theme_33 : decode prog_7_method_17_code 33 = .ok (.iconst 4, 1) := by decide +kernel
theorem dX8_theme_34 : decode prog_7_method_17_code 34 = .ok (.if_icmp .ne 7, 3) := by decide +kernel
theorem dX8_theme_37 : decode prog_7_method_17_code 37 = .ok (.iconst 1, 1) := by decide +kernel
theorem dX8_theme_38 : decode prog_7_method_17_code 38 = .ok (.goto 4, 3) := by decide +kernel
theorem dX8_theme_41 : decode prog_7_method_17_code 41 = .ok (.iconst 0, 1) := by decide +kernel
theorem dX8_theme_42 : decode prog_7_method_17_code 42 = .ok (.iconst 2, 1) := by decide +kernel
theorem dX8_theme_43 : decode prog_7_method_17_code 43 = .ok (.invokevirtual 32, 3) := by decide +kernel
theorem dX8_theme_46 : decode prog_7_method_17_code 46 = .ok (.ifCond .eq 5, 3) := by decide +kernel
theorem dX8_theme_49 : decode prog_7_method_17_code 49 = .ok (.iconst 0, 1) := by decide +kernel
theorem dX8_theme_50 : decode prog_7_method_17_code 50 = .ok (.ireturn, 1) := by decide +kernel
theorem dX8_theme_51 : decode prog_7_method_17_code 51 = .ok (.aload_n 0, 1) := by decide +kernel
theorem dX8_theme_52 : decode prog_7_method_17_code 52 = .ok (.getfield 20, 3) := by decide +kernel
theorem dX8_theme_55 : decode prog_7_method_17_code 55 = .ok (.iload_n 1, 1) := by decide +kernel
theorem dX8_theme_56 : decode prog_7_method_17_code 56 = .ok (.invokestatic 109, 3) := by decide +kernel
theorem dX8_theme_59 : decode prog_7_method_17_code 59 = .ok (.invokevirtual 105, 3) := by decide +kernel
theorem dX8_theme_62 : decode prog_7_method_17_code 62 = .ok (.pop, 1) := by decide +kernel
theorem dX8_theme_63 : decode prog_7_method_17_code 63 = .ok (.aload_n 0, 1) := by decide +kernel
theorem dX8_theme_64 : decode prog_7_method_17_code 64 = .ok (.getfield 20, 3) := by decide +kernel
theorem dX8_theme_67 : decode prog_7_method_17_code 67 = .ok (.invokevirtual 36, 3) := by decide +kernel
theorem dX8_theme_70 : decode prog_7_method_17_code 70 = .ok (.iconst 1, 1) := by decide +kernel
theorem dX8_theme_71 : decode prog_7_method_17_code 71 = .ok (.isub, 1) := by decide +kernel
theorem dX8_theme_72 : decode prog_7_method_17_code 72 = .ok (.ireturn, 1) := by decide +kernel
theorem dX4_refuseBadCut_0 : decode prog_1_method_6_code 0 = .ok (.iload_n 1, 1) := by decide +kernel
theorem dX4_refuseBadCut_1 : decode prog_1_method_6_code 1 = .ok (.ifCond .lt 29, 3) := by decide +kernel
theorem dX4_refuseBadCut_4 : decode prog_1_method_6_code 4 = .ok (.iload_n 1, 1) := by decide +kernel
theorem dX4_refuseBadCut_5 : decode prog_1_method_6_code 5 = .ok (.aload_n 0, 1) := by decide +kernel
theorem dX4_refuseBadCut_6 : decode prog_1_method_6_code 6 = .ok (.getfield 26, 3) := by decide +kernel
theorem dX4_refuseBadCut_9 : decode prog_1_method_6_code 9 = .ok (.if_icmp .gt 21, 3) := by decide +kernel
theorem dX4_refuseBadCut_12 : decode prog_1_method_6_code 12 = .ok (.iload_n 2, 1) := by decide +kernel
theorem dX4_refuseBadCut_13 : decode prog_1_method_6_code 13 = .ok (.ifCond .eq 17, 3) := by decide +kernel
theorem dX4_refuseBadCut_16 : decode prog_1_method_6_code 16 = .ok (.iload_n 2, 1) := by decide +kernel
theorem dX4_refuseBadCut_17 : decode prog_1_method_6_code 17 = .ok (.sipush (-999), 3) := by decide +kernel
theorem dX4_refuseBadCut_20 : decode prog_1_method_6_code 20 = .ok (.if_icmp .lt 10, 3) := by decide +kernel
theorem dX4_refuseBadCut_23 : decode prog_1_method_6_code 23 = .ok (.iload_n 2, 1) := by decide +kernel
theorem dX4_refuseBadCut_24 : decode prog_1_method_6_code 24 = .ok (.sipush 999, 3) := by decide +kernel
theorem dX4_refuseBadCut_27 : decode prog_1_method_6_code 27 = .ok (.if_icmp .le 13, 3) := by decide +kernel
theorem dX4_refuseBadCut_30 : decode prog_1_method_6_code 30 = .ok (.new 44, 3) := by decide +kernel
theorem dX4_refuseBadCut_33 : decode prog_1_method_6_code 33 = .ok (.dup, 1) := by decide +kernel
theorem dX4_refuseBadCut_34 : decode prog_1_method_6_code 34 = .ok (.ldc 111, 2) := by decide +kernel
theorem dX4_refuseBadCut_36 : decode prog_1_method_6_code 36 = .ok (.invokespecial 48, 3) := by decide +kernel
theorem dX4_refuseBadCut_39 : decode prog_1_method_6_code 39 = .ok (.athrow, 1) := by decide +kernel
theorem dX4_refuseBadCut_40 : decode prog_1_method_6_code 40 = .ok (.iload_n 2, 1) := by decide +kernel
theorem dX4_refuseBadCut_41 : decode prog_1_method_6_code 41 = .ok (.ifCond .ge 34, 3) := by decide +kernel
theorem dX4_refuseBadCut_44 : decode prog_1_method_6_code 44 = .ok (.iload_n 1, 1) := by decide +kernel
theorem dX4_refuseBadCut_45 : decode prog_1_method_6_code 45 = .ok (.iload_n 2, 1) := by decide +kernel
theorem dX4_refuseBadCut_46 : decode prog_1_method_6_code 46 = .ok (.isub, 1) := by decide +kernel
theorem dX4_refuseBadCut_47 : decode prog_1_method_6_code 47 = .ok (.aload_n 0, 1) := by decide +kernel
theorem dX4_refuseBadCut_48 : decode prog_1_method_6_code 48 = .ok (.getfield 26, 3) := by decide +kernel
theorem dX4_refuseBadCut_51 : decode prog_1_method_6_code 51 = .ok (.if_icmp .gt 14, 3) := by decide +kernel
theorem dX4_refuseBadCut_54 : decode prog_1_method_6_code 54 = .ok (.aload_n 0, 1) := by decide +kernel
theorem dX4_refuseBadCut_55 : decode prog_1_method_6_code 55 = .ok (.getfield 26, 3) := by decide +kernel
theorem dX4_refuseBadCut_58 : decode prog_1_method_6_code 58 = .ok (.iload_n 2, 1) := by decide +kernel
theorem dX4_refuseBadCut_59 : decode prog_1_method_6_code 59 = .ok (.iadd, 1) := by decide +kernel
theorem dX4_refuseBadCut_60 : decode prog_1_method_6_code 60 = .ok (.bipush 24, 2) := by decide +kernel
theorem dX4_refuseBadCut_62 : decode prog_1_method_6_code 62 = .ok (.if_icmp .ge 13, 3) := by decide +kernel
theorem dX4_refuseBadCut_65 : decode prog_1_method_6_code 65 = .ok (.new 44, 3) := by decide +kernel
theorem dX4_refuseBadCut_68 : decode prog_1_method_6_code 68 = .ok (.dup, 1) := by decide +kernel
theorem dX4_refuseBadCut_69 : decode prog_1_method_6_code 69 = .ok (.ldc 113, 2) := by decide +kernel
theorem dX4_refuseBadCut_71 : decode prog_1_method_6_code 71 = .ok (.invokespecial 48, 3) := by decide +kernel
theorem dX4_refuseBadCut_74 : decode prog_1_method_6_code 74 = .ok (.athrow, 1) := by decide +kernel
theorem dX4_refuseBadCut_75 : decode prog_1_method_6_code 75 = .ok (.return_, 1) := by decide +kernel
theorem dX4_cutCues_0 : decode prog_1_method_5_code 0 = .ok (.iconst 0, 1) := by decide +kernel
theorem dX4_cutCues_1 : decode prog_1_method_5_code 1 = .ok (.istore_n 3, 1) := by decide +kernel
theorem dX4_cutCues_2 : decode prog_1_method_5_code 2 = .ok (.iconst 0, 1) := by decide +kernel
theorem dX4_cutCues_3 : decode prog_1_method_5_code 3 = .ok (.istore 4, 2) := by decide +kernel
theorem dX4_cutCues_5 : decode prog_1_method_5_code 5 = .ok (.iload 4, 2) := by decide +kernel
theorem dX4_cutCues_7 : decode prog_1_method_5_code 7 = .ok (.aload_n 0, 1) := by decide +kernel
theorem dX4_cutCues_8 : decode prog_1_method_5_code 8 = .ok (.getfield 20, 3) := by decide +kernel
theorem dX4_cutCues_11 : decode prog_1_method_5_code 11 = .ok (.invokevirtual 51, 3) := by decide +kernel
theorem dX4_cutCues_14 : decode prog_1_method_5_code 14 = .ok (.if_icmp .ge 62, 3) := by decide +kernel
theorem dX4_cutCues_17 : decode prog_1_method_5_code 17 = .ok (.aload_n 0, 1) := by decide +kernel
theorem dX4_cutCues_18 : decode prog_1_method_5_code 18 = .ok (.getfield 20, 3) := by decide +kernel
theorem dX4_cutCues_21 : decode prog_1_method_5_code 21 = .ok (.iload 4, 2) := by decide +kernel
theorem dX4_cutCues_76 : decode prog_1_method_5_code 76 = .ok (.iload_n 3, 1) := by decide +kernel
theorem dX4_cutCues_77 : decode prog_1_method_5_code 77 = .ok (.ireturn, 1) := by decide +kernel
theorem dX4_isTakenOut_0 : decode prog_1_method_7_code 0 = .ok (.iload_n 2, 1) := by decide +kernel
theorem dX4_isTakenOut_1 : decode prog_1_method_7_code 1 = .ok (.ifCond .ge 19, 3) := by decide +kernel
theorem dX4_isTakenOut_4 : decode prog_1_method_7_code 4 = .ok (.iload_n 0, 1) := by decide +kernel
theorem dX4_isTakenOut_5 : decode prog_1_method_7_code 5 = .ok (.iload_n 1, 1) := by decide +kernel
theorem dX4_isTakenOut_6 : decode prog_1_method_7_code 6 = .ok (.if_icmp .lt 14, 3) := by decide +kernel
theorem dX4_isTakenOut_9 : decode prog_1_method_7_code 9 = .ok (.iload_n 0, 1) := by decide +kernel
theorem dX4_isTakenOut_10 : decode prog_1_method_7_code 10 = .ok (.iload_n 1, 1) := by decide +kernel
theorem dX4_isTakenOut_11 : decode prog_1_method_7_code 11 = .ok (.iload_n 2, 1) := by decide +kernel
theorem dX4_isTakenOut_12 : decode prog_1_method_7_code 12 = .ok (.isub, 1) := by decide +kernel
theorem dX4_isTakenOut_13 : decode prog_1_method_7_code 13 = .ok (.if_icmp .ge 7, 3) := by decide +kernel
theorem dX4_isTakenOut_16 : decode prog_1_method_7_code 16 = .ok (.iconst 1, 1) := by decide +kernel
theorem dX4_isTakenOut_17 : decode prog_1_method_7_code 17 = .ok (.goto 4, 3) := by decide +kernel
theorem dX4_isTakenOut_20 : decode prog_1_method_7_code 20 = .ok (.iconst 0, 1) := by decide +kernel
theorem dX4_isTakenOut_21 : decode prog_1_method_7_code 21 = .ok (.ireturn, 1) := by decide +kernel
theorem dX4_movedFrame_0 : decode prog_1_method_8_code 0 = .ok (.iload_n 0, 1) := by decide +kernel
theorem dX4_movedFrame_1 : decode prog_1_method_8_code 1 = .ok (.iload_n 1, 1) := by decide +kernel
theorem dX4_movedFrame_2 : decode prog_1_method_8_code 2 = .ok (.if_icmp .ge 5, 3) := by decide +kernel
theorem dX4_movedFrame_5 : decode prog_1_method_8_code 5 = .ok (.iload_n 0, 1) := by decide +kernel
theorem dX4_movedFrame_6 : decode prog_1_method_8_code 6 = .ok (.ireturn, 1) := by decide +kernel
theorem dX4_movedFrame_7 : decode prog_1_method_8_code 7 = .ok (.iload_n 0, 1) := by decide +kernel
theorem dX4_movedFrame_8 : decode prog_1_method_8_code 8 = .ok (.iload_n 1, 1) := by decide +kernel
theorem dX4_movedFrame_9 : decode prog_1_method_8_code 9 = .ok (.iload_n 2, 1) := by decide +kernel
theorem dX4_movedFrame_10 : decode prog_1_method_8_code 10 = .ok (.invokestatic 115, 3) := by decide +kernel
theorem dX4_movedFrame_13 : decode prog_1_method_8_code 13 = .ok (.ifCond .eq 7, 3) := by decide +kernel
theorem dX4_movedFrame_16 : decode prog_1_method_8_code 16 = .ok (.iload_n 1, 1) := by decide +kernel
theorem dX4_movedFrame_17 : decode prog_1_method_8_code 17 = .ok (.goto 6, 3) := by decide +kernel
theorem dX4_movedFrame_20 : decode prog_1_method_8_code 20 = .ok (.iload_n 0, 1) := by decide +kernel
theorem dX4_movedFrame_21 : decode prog_1_method_8_code 21 = .ok (.iload_n 2, 1) := by decide +kernel
theorem dX4_movedFrame_22 : decode prog_1_method_8_code 22 = .ok (.iadd, 1) := by decide +kernel
theorem dX4_movedFrame_23 : decode prog_1_method_8_code 23 = .ok (.ireturn, 1) := by decide +kernel
theorem dX4_change_0 : decode prog_1_method_4_code 0 = .ok (.aload_n 0, 1) := by decide +kernel
theorem dX4_change_1 : decode prog_1_method_4_code 1 = .ok (.iload_n 1, 1) := by decide +kernel
theorem dX4_change_2 : decode prog_1_method_4_code 2 = .ok (.iload_n 2, 1) := by decide +kernel
theorem dX4_change_3 : decode prog_1_method_4_code 3 = .ok (.invokevirtual 76, 3) := by decide +kernel
theorem dX4_change_6 : decode prog_1_method_4_code 6 = .ok (.aload_n 0, 1) := by decide +kernel
theorem dX4_change_7 : decode prog_1_method_4_code 7 = .ok (.getfield 79, 3) := by decide +kernel
theorem dX4_change_10 : decode prog_1_method_4_code 10 = .ok (.bipush 20, 2) := by decide +kernel
theorem dX4_change_12 : decode prog_1_method_4_code 12 = .ok (.if_icmp .lt 13, 3) := by decide +kernel
theorem dX4_change_15 : decode prog_1_method_4_code 15 = .ok (.new 55, 3) := by decide +kernel
theorem dX4_change_18 : decode prog_1_method_4_code 18 = .ok (.dup, 1) := by decide +kernel
theorem dX4_change_19 : decode prog_1_method_4_code 19 = .ok (.ldc 82, 2) := by decide +kernel
theorem dX4_change_21 : decode prog_1_method_4_code 21 = .ok (.invokespecial 59, 3) := by decide +kernel
theorem dX4_change_24 : decode prog_1_method_4_code 24 = .ok (.athrow, 1) := by decide +kernel
theorem dX4_change_25 : decode prog_1_method_4_code 25 = .ok (.aload_n 0, 1) := by decide +kernel
theorem dX4_change_26 : decode prog_1_method_4_code 26 = .ok (.iload_n 1, 1) := by decide +kernel
theorem dX4_change_27 : decode prog_1_method_4_code 27 = .ok (.iload_n 2, 1) := by decide +kernel
theorem dX4_change_28 : decode prog_1_method_4_code 28 = .ok (.invokevirtual 84, 3) := by decide +kernel
theorem dX4_change_31 : decode prog_1_method_4_code 31 = .ok (.istore_n 3, 1) := by decide +kernel
theorem dX4_change_32 : decode prog_1_method_4_code 32 = .ok (.iconst 0, 1) := by decide +kernel
theorem dX4_change_33 : decode prog_1_method_4_code 33 = .ok (.istore 4, 2) := by decide +kernel
theorem dX4_change_35 : decode prog_1_method_4_code 35 = .ok (.iload 4, 2) := by decide +kernel
theorem dX4_change_37 : decode prog_1_method_4_code 37 = .ok (.aload_n 0, 1) := by decide +kernel
theorem dX4_change_38 : decode prog_1_method_4_code 38 = .ok (.getfield 12, 3) := by decide +kernel
theorem dX4_change_41 : decode prog_1_method_4_code 41 = .ok (.invokevirtual 51, 3) := by decide +kernel
theorem dX4_change_44 : decode prog_1_method_4_code 44 = .ok (.if_icmp .ge 26, 3) := by decide +kernel
theorem dX4_change_47 : decode prog_1_method_4_code 47 = .ok (.aload_n 0, 1) := by decide +kernel
theorem dX4_change_48 : decode prog_1_method_4_code 48 = .ok (.getfield 12, 3) := by decide +kernel
theorem dX4_change_51 : decode prog_1_method_4_code 51 = .ok (.iload 4, 2) := by decide +kernel
theorem dX4_change_70 : decode prog_1_method_4_code 70 = .ok (.iconst 0, 1) := by decide +kernel
theorem dX4_change_71 : decode prog_1_method_4_code 71 = .ok (.istore 4, 2) := by decide +kernel
theorem dX4_change_73 : decode prog_1_method_4_code 73 = .ok (.iload 4, 2) := by decide +kernel
theorem dX4_change_75 : decode prog_1_method_4_code 75 = .ok (.aload_n 0, 1) := by decide +kernel
theorem dX4_change_76 : decode prog_1_method_4_code 76 = .ok (.getfield 71, 3) := by decide +kernel
theorem dX4_change_79 : decode prog_1_method_4_code 79 = .ok (.if_icmp .ge 28, 3) := by decide +kernel
theorem dX4_change_82 : decode prog_1_method_4_code 82 = .ok (.aload_n 0, 1) := by decide +kernel
theorem dX4_change_83 : decode prog_1_method_4_code 83 = .ok (.getfield 16, 3) := by decide +kernel
theorem dX4_change_86 : decode prog_1_method_4_code 86 = .ok (.iload 4, 2) := by decide +kernel
theorem dX4_change_88 : decode prog_1_method_4_code 88 = .ok (.aload_n 0, 1) := by decide +kernel
theorem dX4_change_89 : decode prog_1_method_4_code 89 = .ok (.getfield 16, 3) := by decide +kernel
theorem dX4_change_92 : decode prog_1_method_4_code 92 = .ok (.iload 4, 2) := by decide +kernel
theorem dX4_change_94 : decode prog_1_method_4_code 94 = .ok (.iaload, 1) := by decide +kernel
theorem dX4_change_95 : decode prog_1_method_4_code 95 = .ok (.iload_n 1, 1) := by decide +kernel
theorem dX4_change_96 : decode prog_1_method_4_code 96 = .ok (.iload_n 2, 1) := by decide +kernel
theorem dX4_change_97 : decode prog_1_method_4_code 97 = .ok (.invokestatic 95, 3) := by decide +kernel
theorem dX4_change_100 : decode prog_1_method_4_code 100 = .ok (.iastore, 1) := by decide +kernel
theorem dX4_change_101 : decode prog_1_method_4_code 101 = .ok (.iinc 4 1, 3) := by decide +kernel
theorem dX4_change_104 : decode prog_1_method_4_code 104 = .ok (.goto (-31), 3) := by decide +kernel
theorem dX4_change_107 : decode prog_1_method_4_code 107 = .ok (.aload_n 0, 1) := by decide +kernel
theorem dX4_change_108 : decode prog_1_method_4_code 108 = .ok (.dup, 1) := by decide +kernel
theorem dX4_change_109 : decode prog_1_method_4_code 109 = .ok (.getfield 26, 3) := by decide +kernel
theorem dX4_change_112 : decode prog_1_method_4_code 112 = .ok (.iload_n 2, 1) := by decide +kernel
theorem dX4_change_113 : decode prog_1_method_4_code 113 = .ok (.iadd, 1) := by decide +kernel
theorem dX4_change_114 : decode prog_1_method_4_code 114 = .ok (.putfield 26, 3) := by decide +kernel
theorem dX4_change_117 : decode prog_1_method_4_code 117 = .ok (.aload_n 0, 1) := by decide +kernel
theorem dX4_change_118 : decode prog_1_method_4_code 118 = .ok (.dup, 1) := by decide +kernel
theorem dX4_change_119 : decode prog_1_method_4_code 119 = .ok (.getfield 79, 3) := by decide +kernel
theorem dX4_change_122 : decode prog_1_method_4_code 122 = .ok (.iconst 1, 1) := by decide +kernel
theorem dX4_change_123 : decode prog_1_method_4_code 123 = .ok (.iadd, 1) := by decide +kernel
theorem dX4_change_124 : decode prog_1_method_4_code 124 = .ok (.putfield 79, 3) := by decide +kernel
theorem dX4_change_127 : decode prog_1_method_4_code 127 = .ok (.iload_n 3, 1) := by decide +kernel
theorem dX4_change_128 : decode prog_1_method_4_code 128 = .ok (.ireturn, 1) := by decide +kernel
theorem dL_change_0 : decode method_5_code 0 = .ok (.aload_n 3, 1) := by decide +kernel
theorem dL_change_1 : decode method_5_code 1 = .ok (.iconst 0, 1) := by decide +kernel
theorem dL_change_2 : decode method_5_code 2 = .ok (.aload_n 0, 1) := by decide +kernel
theorem dL_change_3 : decode method_5_code 3 = .ok (.iload_n 1, 1) := by decide +kernel
theorem dL_change_4 : decode method_5_code 4 = .ok (.iload_n 2, 1) := by decide +kernel
theorem dL_change_5 : decode method_5_code 5 = .ok (.invokevirtual 21, 3) := by decide +kernel
theorem dL_change_8 : decode method_5_code 8 = .ok (.i2l, 1) := by decide +kernel
theorem dL_change_9 : decode method_5_code 9 = .ok (.lastore, 1) := by decide +kernel
theorem dL_change_10 : decode method_5_code 10 = .ok (.goto 11, 3) := by decide +kernel
theorem dL_change_13 : decode method_5_code 13 = .ok (.astore 4, 2) := by decide +kernel
theorem dL_change_15 : decode method_5_code 15 = .ok (.iconst 1, 1) := by decide +kernel
theorem dL_change_16 : decode method_5_code 16 = .ok (.ireturn, 1) := by decide +kernel
theorem dL_change_17 : decode method_5_code 17 = .ok (.astore 4, 2) := by decide +kernel
theorem dL_change_19 : decode method_5_code 19 = .ok (.iconst 2, 1) := by decide +kernel
theorem dL_change_20 : decode method_5_code 20 = .ok (.ireturn, 1) := by decide +kernel
theorem dL_change_21 : decode method_5_code 21 = .ok (.iconst 0, 1) := by decide +kernel
theorem dL_change_22 : decode method_5_code 22 = .ok (.ireturn, 1) := by decide +kernel
theorem dX8_isNoChange_0 : decode prog_7_method_18_code 0 = .ok (.iload_n 1, 1) := by decide +kernel
theorem dX8_isNoChange_1 : decode prog_7_method_18_code 1 = .ok (.iconst 0, 1) := by decide +kernel
theorem dX8_isNoChange_2 : decode prog_7_method_18_code 2 = .ok (.aload_n 0, 1) := by decide +kernel
theorem dX8_isNoChange_3 : decode prog_7_method_18_code 3 = .ok (.getfield 9, 3) := by decide +kernel
theorem dX8_isNoChange_6 : decode prog_7_method_18_code 6 = .ok (.invokestatic 40, 3) := by decide +kernel
theorem dX8_isNoChange_9 : decode prog_7_method_18_code 9 = .ok (.ifCond .eq 45, 3) := by decide +kernel
theorem dX8_isNoChange_12 : decode prog_7_method_18_code 12 = .ok (.iload_n 2, 1) := by decide +kernel
theorem dX8_isNoChange_13 : decode prog_7_method_18_code 13 = .ok (.ifCond .eq 41, 3) := by decide +kernel
theorem dX8_isNoChange_16 : decode prog_7_method_18_code 16 = .ok (.iload_n 2, 1) := by decide +kernel
theorem dX8_isNoChange_17 : decode prog_7_method_18_code 17 = .ok (.sipush (-999), 3) := by decide +kernel
theorem dX8_isNoChange_20 : decode prog_7_method_18_code 20 = .ok (.sipush 999, 3) := by decide +kernel
theorem dX8_isNoChange_23 : decode prog_7_method_18_code 23 = .ok (.invokestatic 40, 3) := by decide +kernel
theorem dX8_isNoChange_26 : decode prog_7_method_18_code 26 = .ok (.ifCond .eq 28, 3) := by decide +kernel
theorem dX8_isNoChange_29 : decode prog_7_method_18_code 29 = .ok (.iload_n 2, 1) := by decide +kernel
theorem dX8_isNoChange_30 : decode prog_7_method_18_code 30 = .ok (.ifCond .ge 28, 3) := by decide +kernel
theorem dX8_isNoChange_33 : decode prog_7_method_18_code 33 = .ok (.iload_n 1, 1) := by decide +kernel
theorem dX8_isNoChange_34 : decode prog_7_method_18_code 34 = .ok (.iload_n 2, 1) := by decide +kernel
theorem dX8_isNoChange_35 : decode prog_7_method_18_code 35 = .ok (.isub, 1) := by decide +kernel
theorem dX8_isNoChange_36 : decode prog_7_method_18_code 36 = .ok (.aload_n 0, 1) := by decide +kernel
theorem dX8_isNoChange_37 : decode prog_7_method_18_code 37 = .ok (.getfield 9, 3) := by decide +kernel
theorem dX8_isNoChange_40 : decode prog_7_method_18_code 40 = .ok (.if_icmp .gt 14, 3) := by decide +kernel
theorem dX8_isNoChange_43 : decode prog_7_method_18_code 43 = .ok (.aload_n 0, 1) := by decide +kernel
theorem dX8_isNoChange_44 : decode prog_7_method_18_code 44 = .ok (.getfield 9, 3) := by decide +kernel
theorem dX8_isNoChange_47 : decode prog_7_method_18_code 47 = .ok (.iload_n 2, 1) := by decide +kernel
theorem dX8_isNoChange_48 : decode prog_7_method_18_code 48 = .ok (.iadd, 1) := by decide +kernel
theorem dX8_isNoChange_49 : decode prog_7_method_18_code 49 = .ok (.bipush 24, 2) := by decide +kernel
theorem dX8_isNoChange_51 : decode prog_7_method_18_code 51 = .ok (.if_icmp .ge 7, 3) := by decide +kernel
theorem dX8_isNoChange_54 : decode prog_7_method_18_code 54 = .ok (.iconst 1, 1) := by decide +kernel
theorem dX8_isNoChange_55 : decode prog_7_method_18_code 55 = .ok (.goto 4, 3) := by decide +kernel
theorem dX8_isNoChange_58 : decode prog_7_method_18_code 58 = .ok (.iconst 0, 1) := by decide +kernel
theorem dX8_isNoChange_59 : decode prog_7_method_18_code 59 = .ok (.ireturn, 1) := by decide +kernel
theorem dJx35411_init_45d68_0 : decode prog_32_method_1_code 0 = .ok (.aload_n 0, 1) := by decide +kernel
theorem dJx35411_init_45d68_1 : decode prog_32_method_1_code 1 = .ok (.aload_n 1, 1) := by decide +kernel
theorem dJx35411_init_45d68_2 : decode prog_32_method_1_code 2 = .ok (.putfield 1, 3) := by decide +kernel
theorem dJx35411_init_45d68_5 : decode prog_32_method_1_code 5 = .ok (.aload_n 0, 1) := by decide +kernel
theorem dJx35411_init_45d68_6 : decode prog_32_method_1_code 6 = .ok (.invokespecial 7, 3) := by decide +kernel
theorem dJx35411_init_45d68_9 : decode prog_32_method_1_code 9 = .ok (.aload_n 0, 1) := by decide +kernel
theorem dJx35411_init_45d68_10 : decode prog_32_method_1_code 10 = .ok (.iconst (-1), 1) := by decide +kernel
theorem dJx35411_init_45d68_11 : decode prog_32_method_1_code 11 = .ok (.putfield 13, 3) := by decide +kernel
theorem dJx35411_init_45d68_14 : decode prog_32_method_1_code 14 = .ok (.aload_n 0, 1) := by decide +kernel
theorem dJx35411_init_45d68_15 : decode prog_32_method_1_code 15 = .ok (.aload_n 0, 1) := by decide +kernel
theorem dJx35411_init_45d68_16 : decode prog_32_method_1_code 16 = .ok (.getfield 1, 3) := by decide +kernel
theorem dJx35411_init_45d68_19 : decode prog_32_method_1_code 19 = .ok (.getfield 17, 3) := by decide +kernel
theorem dJx35411_init_45d68_22 : decode prog_32_method_1_code 22 = .ok (.putfield 22, 3) := by decide +kernel
theorem dJx35411_init_45d68_25 : decode prog_32_method_1_code 25 = .ok (.return_, 1) := by decide +kernel
theorem dJx4a65c_iterator_32c93_0 : decode prog_31_method_55_code 0 = .ok (.new 267, 3) := by decide +kernel
theorem dJx4a65c_iterator_32c93_3 : decode prog_31_method_55_code 3 = .ok (.dup, 1) := by decide +kernel
theorem dJx4a65c_iterator_32c93_4 : decode prog_31_method_55_code 4 = .ok (.aload_n 0, 1) := by decide +kernel
theorem dJx4a65c_iterator_32c93_5 : decode prog_31_method_55_code 5 = .ok (.invokespecial 269, 3) := by decide +kernel
theorem dJx4a65c_iterator_32c93_8 : decode prog_31_method_55_code 8 = .ok (.areturn, 1) := by decide +kernel
theorem dJx35411_hasNext_aae02_0 : decode prog_32_method_2_code 0 = .ok (.aload_n 0, 1) := by decide +kernel
theorem dJx35411_hasNext_aae02_1 : decode prog_32_method_2_code 1 = .ok (.getfield 25, 3) := by decide +kernel
theorem dJx35411_hasNext_aae02_4 : decode prog_32_method_2_code 4 = .ok (.aload_n 0, 1) := by decide +kernel
theorem dJx35411_hasNext_aae02_5 : decode prog_32_method_2_code 5 = .ok (.getfield 1, 3) := by decide +kernel
theorem dJx35411_hasNext_aae02_8 : decode prog_32_method_2_code 8 = .ok (.getfield 28, 3) := by decide +kernel
theorem dJx35411_hasNext_aae02_11 : decode prog_32_method_2_code 11 = .ok (.if_icmp .eq 7, 3) := by decide +kernel
theorem dJx35411_hasNext_aae02_14 : decode prog_32_method_2_code 14 = .ok (.iconst 1, 1) := by decide +kernel
theorem dJx35411_hasNext_aae02_15 : decode prog_32_method_2_code 15 = .ok (.goto 4, 3) := by decide +kernel
theorem dJx35411_hasNext_aae02_18 : decode prog_32_method_2_code 18 = .ok (.iconst 0, 1) := by decide +kernel
theorem dJx35411_hasNext_aae02_19 : decode prog_32_method_2_code 19 = .ok (.ireturn, 1) := by decide +kernel
theorem dX8_change_0 : decode prog_7_method_21_code 0 = .ok (.aload_n 0, 1) := by decide +kernel
theorem dX8_change_1 : decode prog_7_method_21_code 1 = .ok (.aload_n 0, 1) := by decide +kernel
theorem dX8_change_2 : decode prog_7_method_21_code 2 = .ok (.iload_n 1, 1) := by decide +kernel
theorem dX8_change_3 : decode prog_7_method_21_code 3 = .ok (.iload_n 2, 1) := by decide +kernel
theorem dX8_change_4 : decode prog_7_method_21_code 4 = .ok (.invokevirtual 119, 3) := by decide +kernel
theorem dX8_change_7 : decode prog_7_method_21_code 7 = .ok (.iconst 1, 1) := by decide +kernel
theorem dX8_change_8 : decode prog_7_method_21_code 8 = .ok (.invokevirtual 99, 3) := by decide +kernel
theorem dX8_change_11 : decode prog_7_method_21_code 11 = .ok (.ifCond .ne 25, 3) := by decide +kernel
theorem dX8_change_14 : decode prog_7_method_21_code 14 = .ok (.aload_n 0, 1) := by decide +kernel
theorem dX8_change_15 : decode prog_7_method_21_code 15 = .ok (.aload_n 0, 1) := by decide +kernel
theorem dX8_change_16 : decode prog_7_method_21_code 16 = .ok (.getfield 123, 3) := by decide +kernel
theorem dX8_change_19 : decode prog_7_method_21_code 19 = .ok (.bipush 20, 2) := by decide +kernel
theorem dX8_change_21 : decode prog_7_method_21_code 21 = .ok (.if_icmp .ne 7, 3) := by decide +kernel
theorem dX8_change_24 : decode prog_7_method_21_code 24 = .ok (.iconst 1, 1) := by decide +kernel
theorem dX8_change_25 : decode prog_7_method_21_code 25 = .ok (.goto 4, 3) := by decide +kernel
theorem dX8_change_28 : decode prog_7_method_21_code 28 = .ok (.iconst 0, 1) := by decide +kernel
theorem dX8_change_29 : decode prog_7_method_21_code 29 = .ok (.iconst 2, 1) := by decide +kernel
theorem dX8_change_30 : decode prog_7_method_21_code 30 = .ok (.invokevirtual 32, 3) := by decide +kernel
theorem dX8_change_33 : decode prog_7_method_21_code 33 = .ok (.ifCond .eq 5, 3) := by decide +kernel
theorem dX8_change_36 : decode prog_7_method_21_code 36 = .ok (.iconst 0, 1) := by decide +kernel
theorem dX8_change_37 : decode prog_7_method_21_code 37 = .ok (.ireturn, 1) := by decide +kernel
theorem dX8_change_38 : decode prog_7_method_21_code 38 = .ok (.iconst 0, 1) := by decide +kernel
theorem dX8_change_39 : decode prog_7_method_21_code 39 = .ok (.istore_n 3, 1) := by decide +kernel
theorem dX8_change_40 : decode prog_7_method_21_code 40 = .ok (.aload_n 0, 1) := by decide +kernel
theorem dX8_change_41 : decode prog_7_method_21_code 41 = .ok (.getfield 23, 3) := by decide +kernel
theorem dX8_change_44 : decode prog_7_method_21_code 44 = .ok (.invokevirtual 126, 3) := by decide +kernel
theorem dX8_change_47 : decode prog_7_method_21_code 47 = .ok (.astore 4, 2) := by decide +kernel
theorem dX8_change_49 : decode prog_7_method_21_code 49 = .ok (.aload 4, 2) := by decide +kernel
theorem dX8_change_51 : decode prog_7_method_21_code 51 = .ok (.invokeinterface 130 1, 5) := by decide +kernel
theorem dX8_change_56 : decode prog_7_method_21_code 56 = .ok (.ifCond .eq 57, 3) := by decide +kernel
theorem dX8_change_59 : decode prog_7_method_21_code 59 = .ok (.aload 4, 2) := by decide +kernel
theorem dX8_change_113 : decode prog_7_method_21_code 113 = .ok (.aload_n 0, 1) := by decide +kernel
theorem dX8_change_114 : decode prog_7_method_21_code 114 = .ok (.getfield 16, 3) := by decide +kernel
theorem dX8_change_117 : decode prog_7_method_21_code 117 = .ok (.invokevirtual 126, 3) := by decide +kernel
theorem dX8_change_120 : decode prog_7_method_21_code 120 = .ok (.astore 4, 2) := by decide +kernel
theorem dX8_change_122 : decode prog_7_method_21_code 122 = .ok (.aload 4, 2) := by decide +kernel
theorem dX8_change_124 : decode prog_7_method_21_code 124 = .ok (.invokeinterface 130 1, 5) := by decide +kernel
theorem dX8_change_129 : decode prog_7_method_21_code 129 = .ok (.ifCond .eq 67, 3) := by decide +kernel
theorem dX8_change_132 : decode prog_7_method_21_code 132 = .ok (.aload 4, 2) := by decide +kernel
theorem dX8_change_196 : decode prog_7_method_21_code 196 = .ok (.iconst 0, 1) := by decide +kernel
theorem dX8_change_197 : decode prog_7_method_21_code 197 = .ok (.istore 4, 2) := by decide +kernel
theorem dX8_change_199 : decode prog_7_method_21_code 199 = .ok (.iload 4, 2) := by decide +kernel
theorem dX8_change_201 : decode prog_7_method_21_code 201 = .ok (.aload_n 0, 1) := by decide +kernel
theorem dX8_change_202 : decode prog_7_method_21_code 202 = .ok (.getfield 20, 3) := by decide +kernel
theorem dX8_change_205 : decode prog_7_method_21_code 205 = .ok (.invokevirtual 36, 3) := by decide +kernel
theorem dX8_change_208 : decode prog_7_method_21_code 208 = .ok (.if_icmp .ge 42, 3) := by decide +kernel
theorem dX8_change_211 : decode prog_7_method_21_code 211 = .ok (.aload_n 0, 1) := by decide +kernel
theorem dX8_change_212 : decode prog_7_method_21_code 212 = .ok (.getfield 20, 3) := by decide +kernel
theorem dX8_change_215 : decode prog_7_method_21_code 215 = .ok (.iload 4, 2) := by decide +kernel
theorem dX8_change_217 : decode prog_7_method_21_code 217 = .ok (.aload_n 0, 1) := by decide +kernel
theorem dX8_change_218 : decode prog_7_method_21_code 218 = .ok (.getfield 20, 3) := by decide +kernel
theorem dX8_change_221 : decode prog_7_method_21_code 221 = .ok (.iload 4, 2) := by decide +kernel
theorem dX8_change_250 : decode prog_7_method_21_code 250 = .ok (.aload_n 0, 1) := by decide +kernel
theorem dX8_change_251 : decode prog_7_method_21_code 251 = .ok (.dup, 1) := by decide +kernel
theorem dX8_change_252 : decode prog_7_method_21_code 252 = .ok (.getfield 9, 3) := by decide +kernel
theorem dX8_change_255 : decode prog_7_method_21_code 255 = .ok (.iload_n 2, 1) := by decide +kernel
theorem dX8_change_256 : decode prog_7_method_21_code 256 = .ok (.iadd, 1) := by decide +kernel
theorem dX8_change_257 : decode prog_7_method_21_code 257 = .ok (.putfield 9, 3) := by decide +kernel
theorem dX8_change_260 : decode prog_7_method_21_code 260 = .ok (.aload_n 0, 1) := by decide +kernel
theorem dX8_change_261 : decode prog_7_method_21_code 261 = .ok (.dup, 1) := by decide +kernel
theorem dX8_change_262 : decode prog_7_method_21_code 262 = .ok (.getfield 123, 3) := by decide +kernel
theorem dX8_change_265 : decode prog_7_method_21_code 265 = .ok (.iconst 1, 1) := by decide +kernel
theorem dX8_change_266 : decode prog_7_method_21_code 266 = .ok (.iadd, 1) := by decide +kernel
theorem dX8_change_267 : decode prog_7_method_21_code 267 = .ok (.putfield 123, 3) := by decide +kernel
theorem dX8_change_270 : decode prog_7_method_21_code 270 = .ok (.iload_n 3, 1) := by decide +kernel
theorem dX8_change_271 : decode prog_7_method_21_code 271 = .ok (.ireturn, 1) := by decide +kernel
theorem dX0_init_0 : decode prog_2_method_1_code 0 = .ok (.aload_n 0, 1) := by decide +kernel
theorem dX0_init_1 : decode prog_2_method_1_code 1 = .ok (.invokespecial 3, 3) := by decide +kernel
theorem dX0_init_4 : decode prog_2_method_1_code 4 = .ok (.aload_n 0, 1) := by decide +kernel
theorem dX0_init_5 : decode prog_2_method_1_code 5 = .ok (.iload_n 1, 1) := by decide +kernel
theorem dX0_init_6 : decode prog_2_method_1_code 6 = .ok (.putfield 9, 3) := by decide +kernel
theorem dX0_init_9 : decode prog_2_method_1_code 9 = .ok (.aload_n 0, 1) := by decide +kernel
theorem dX0_init_10 : decode prog_2_method_1_code 10 = .ok (.iload_n 2, 1) := by decide +kernel
theorem dX0_init_11 : decode prog_2_method_1_code 11 = .ok (.putfield 15, 3) := by decide +kernel
theorem dX0_init_14 : decode prog_2_method_1_code 14 = .ok (.aload_n 0, 1) := by decide +kernel
theorem dX0_init_15 : decode prog_2_method_1_code 15 = .ok (.iload_n 3, 1) := by decide +kernel
theorem dX0_init_16 : decode prog_2_method_1_code 16 = .ok (.putfield 18, 3) := by decide +kernel
theorem dX0_init_19 : decode prog_2_method_1_code 19 = .ok (.aload_n 0, 1) := by decide +kernel
theorem dX0_init_20 : decode prog_2_method_1_code 20 = .ok (.iload 4, 2) := by decide +kernel
theorem dX0_init_22 : decode prog_2_method_1_code 22 = .ok (.putfield 21, 3) := by decide +kernel
theorem dX0_init_25 : decode prog_2_method_1_code 25 = .ok (.aload_n 0, 1) := by decide +kernel
theorem dX0_init_26 : decode prog_2_method_1_code 26 = .ok (.iload 5, 2) := by decide +kernel
theorem dX0_init_28 : decode prog_2_method_1_code 28 = .ok (.putfield 24, 3) := by decide +kernel
theorem dX0_init_31 : decode prog_2_method_1_code 31 = .ok (.aload_n 0, 1) := by decide +kernel
theorem dX0_init_32 : decode prog_2_method_1_code 32 = .ok (.iload 6, 2) := by decide +kernel
theorem dX0_init_34 : decode prog_2_method_1_code 34 = .ok (.putfield 27, 3) := by decide +kernel
theorem dX0_init_37 : decode prog_2_method_1_code 37 = .ok (.aload_n 0, 1) := by decide +kernel
theorem dX0_init_38 : decode prog_2_method_1_code 38 = .ok (.bipush 9, 2) := by decide +kernel
theorem dX0_init_40 : decode prog_2_method_1_code 40 = .ok (.newarray .int, 2) := by decide +kernel
theorem dX0_init_42 : decode prog_2_method_1_code 42 = .ok (.putfield 30, 3) := by decide +kernel
theorem dX0_init_45 : decode prog_2_method_1_code 45 = .ok (.aload_n 0, 1) := by decide +kernel
theorem dX0_init_46 : decode prog_2_method_1_code 46 = .ok (.bipush 9, 2) := by decide +kernel
theorem dX0_init_48 : decode prog_2_method_1_code 48 = .ok (.newarray .int, 2) := by decide +kernel
theorem dX0_init_50 : decode prog_2_method_1_code 50 = .ok (.putfield 34, 3) := by decide +kernel
theorem dX0_init_53 : decode prog_2_method_1_code 53 = .ok (.aload_n 0, 1) := by decide +kernel
theorem dX0_init_54 : decode prog_2_method_1_code 54 = .ok (.bipush 63, 2) := by decide +kernel
theorem dX0_init_56 : decode prog_2_method_1_code 56 = .ok (.newarray .int, 2) := by decide +kernel
theorem dX0_init_58 : decode prog_2_method_1_code 58 = .ok (.putfield 37, 3) := by decide +kernel
theorem dX0_init_61 : decode prog_2_method_1_code 61 = .ok (.return_, 1) := by decide +kernel
theorem dX4_cue_0 : decode prog_1_method_9_code 0 = .ok (.iload_n 2, 1) := by decide +kernel
theorem dX4_cue_1 : decode prog_1_method_9_code 1 = .ok (.iconst (-1), 1) := by decide +kernel
theorem dX4_cue_2 : decode prog_1_method_9_code 2 = .ok (.if_icmp .lt 11, 3) := by decide +kernel
theorem dX4_cue_5 : decode prog_1_method_9_code 5 = .ok (.iload_n 2, 1) := by decide +kernel
theorem dX4_cue_6 : decode prog_1_method_9_code 6 = .ok (.aload_n 0, 1) := by decide +kernel
theorem dX4_cue_7 : decode prog_1_method_9_code 7 = .ok (.getfield 71, 3) := by decide +kernel
theorem dX4_cue_10 : decode prog_1_method_9_code 10 = .ok (.if_icmp .lt 13, 3) := by decide +kernel
theorem dX4_cue_13 : decode prog_1_method_9_code 13 = .ok (.new 119, 3) := by decide +kernel
theorem dX4_cue_16 : decode prog_1_method_9_code 16 = .ok (.dup, 1) := by decide +kernel
theorem dX4_cue_17 : decode prog_1_method_9_code 17 = .ok (.ldc 121, 2) := by decide +kernel
theorem dX4_cue_19 : decode prog_1_method_9_code 19 = .ok (.invokespecial 123, 3) := by decide +kernel
theorem dX4_cue_22 : decode prog_1_method_9_code 22 = .ok (.athrow, 1) := by decide +kernel
theorem dX4_cue_23 : decode prog_1_method_9_code 23 = .ok (.iload_n 1, 1) := by decide +kernel
theorem dX4_cue_24 : decode prog_1_method_9_code 24 = .ok (.ifCond .lt 22, 3) := by decide +kernel
theorem dX4_cue_27 : decode prog_1_method_9_code 27 = .ok (.iload_n 1, 1) := by decide +kernel
theorem dX4_cue_28 : decode prog_1_method_9_code 28 = .ok (.aload_n 0, 1) := by decide +kernel
theorem dX4_cue_29 : decode prog_1_method_9_code 29 = .ok (.getfield 26, 3) := by decide +kernel
theorem dX4_cue_32 : decode prog_1_method_9_code 32 = .ok (.if_icmp .gt 14, 3) := by decide +kernel
theorem dX4_cue_35 : decode prog_1_method_9_code 35 = .ok (.iload_n 3, 1) := by decide +kernel
theorem dX4_cue_36 : decode prog_1_method_9_code 36 = .ok (.iconst 1, 1) := by decide +kernel
theorem dX4_cue_37 : decode prog_1_method_9_code 37 = .ok (.if_icmp .lt 9, 3) := by decide +kernel
theorem dX4_cue_40 : decode prog_1_method_9_code 40 = .ok (.iload_n 3, 1) := by decide +kernel
theorem dX4_cue_41 : decode prog_1_method_9_code 41 = .ok (.bipush 40, 2) := by decide +kernel
theorem dX4_cue_43 : decode prog_1_method_9_code 43 = .ok (.if_icmp .le 13, 3) := by decide +kernel
theorem dX4_cue_46 : decode prog_1_method_9_code 46 = .ok (.new 44, 3) := by decide +kernel
theorem dX4_cue_49 : decode prog_1_method_9_code 49 = .ok (.dup, 1) := by decide +kernel
theorem dX4_cue_50 : decode prog_1_method_9_code 50 = .ok (.ldc 124, 2) := by decide +kernel
theorem dX4_cue_52 : decode prog_1_method_9_code 52 = .ok (.invokespecial 48, 3) := by decide +kernel
theorem dX4_cue_55 : decode prog_1_method_9_code 55 = .ok (.athrow, 1) := by decide +kernel
theorem dX4_cue_56 : decode prog_1_method_9_code 56 = .ok (.iload 4, 2) := by decide +kernel
theorem dX4_cue_58 : decode prog_1_method_9_code 58 = .ok (.ifCond .lt 20, 3) := by decide +kernel
theorem dX4_cue_61 : decode prog_1_method_9_code 61 = .ok (.iload 4, 2) := by decide +kernel
theorem dX4_cue_63 : decode prog_1_method_9_code 63 = .ok (.iconst 4, 1) := by decide +kernel
theorem dX4_cue_64 : decode prog_1_method_9_code 64 = .ok (.if_icmp .ge 14, 3) := by decide +kernel
theorem dX4_cue_67 : decode prog_1_method_9_code 67 = .ok (.iload 5, 2) := by decide +kernel
theorem dX4_cue_69 : decode prog_1_method_9_code 69 = .ok (.ifCond .lt 9, 3) := by decide +kernel
theorem dX4_cue_72 : decode prog_1_method_9_code 72 = .ok (.iload 5, 2) := by decide +kernel
theorem dX4_cue_74 : decode prog_1_method_9_code 74 = .ok (.iconst 2, 1) := by decide +kernel
theorem dX4_cue_75 : decode prog_1_method_9_code 75 = .ok (.if_icmp .le 13, 3) := by decide +kernel
theorem dX4_cue_78 : decode prog_1_method_9_code 78 = .ok (.new 44, 3) := by decide +kernel
theorem dX4_cue_81 : decode prog_1_method_9_code 81 = .ok (.dup, 1) := by decide +kernel
theorem dX4_cue_82 : decode prog_1_method_9_code 82 = .ok (.ldc 126, 2) := by decide +kernel
theorem dX4_cue_84 : decode prog_1_method_9_code 84 = .ok (.invokespecial 48, 3) := by decide +kernel
theorem dX4_cue_87 : decode prog_1_method_9_code 87 = .ok (.athrow, 1) := by decide +kernel
theorem dX4_cue_88 : decode prog_1_method_9_code 88 = .ok (.aload_n 0, 1) := by decide +kernel
theorem dX4_cue_89 : decode prog_1_method_9_code 89 = .ok (.getfield 20, 3) := by decide +kernel
theorem dX4_cue_92 : decode prog_1_method_9_code 92 = .ok (.invokevirtual 51, 3) := by decide +kernel
theorem dX4_cue_95 : decode prog_1_method_9_code 95 = .ok (.bipush 8, 2) := by decide +kernel
theorem dX4_cue_97 : decode prog_1_method_9_code 97 = .ok (.if_icmp .lt 13, 3) := by decide +kernel
theorem dX4_cue_100 : decode prog_1_method_9_code 100 = .ok (.new 55, 3) := by decide +kernel
theorem dX4_cue_103 : decode prog_1_method_9_code 103 = .ok (.dup, 1) := by decide +kernel
theorem dX4_cue_104 : decode prog_1_method_9_code 104 = .ok (.ldc 128, 2) := by decide +kernel
theorem dX4_cue_106 : decode prog_1_method_9_code 106 = .ok (.invokespecial 59, 3) := by decide +kernel
theorem dX4_cue_109 : decode prog_1_method_9_code 109 = .ok (.athrow, 1) := by decide +kernel
theorem dX4_cue_110 : decode prog_1_method_9_code 110 = .ok (.new 99, 3) := by decide +kernel
theorem dX4_cue_113 : decode prog_1_method_9_code 113 = .ok (.dup, 1) := by decide +kernel
theorem dX4_cue_114 : decode prog_1_method_9_code 114 = .ok (.aload_n 0, 1) := by decide +kernel
theorem dX4_cue_115 : decode prog_1_method_9_code 115 = .ok (.getfield 20, 3) := by decide +kernel
theorem dX4_cue_118 : decode prog_1_method_9_code 118 = .ok (.invokevirtual 51, 3) := by decide +kernel
theorem dX4_cue_121 : decode prog_1_method_9_code 121 = .ok (.iload_n 1, 1) := by decide +kernel
theorem dX4_cue_122 : decode prog_1_method_9_code 122 = .ok (.iload_n 2, 1) := by decide +kernel
theorem dX4_cue_123 : decode prog_1_method_9_code 123 = .ok (.iload_n 3, 1) := by decide +kernel
theorem dX4_cue_124 : decode prog_1_method_9_code 124 = .ok (.iload 4, 2) := by decide +kernel
theorem dX4_cue_126 : decode prog_1_method_9_code 126 = .ok (.iload 5, 2) := by decide +kernel
theorem dX4_cue_128 : decode prog_1_method_9_code 128 = .ok (.invokespecial 130, 3) := by decide +kernel
theorem dX4_cue_131 : decode prog_1_method_9_code 131 = .ok (.astore 6, 2) := by decide +kernel
theorem dX4_cue_133 : decode prog_1_method_9_code 133 = .ok (.aload_n 0, 1) := by decide +kernel
theorem dX4_cue_134 : decode prog_1_method_9_code 134 = .ok (.getfield 20, 3) := by decide +kernel
theorem dX4_cue_137 : decode prog_1_method_9_code 137 = .ok (.aload 6, 2) := by decide +kernel
theorem dX4_cue_139 : decode prog_1_method_9_code 139 = .ok (.invokevirtual 65, 3) := by decide +kernel
theorem dX4_cue_142 : decode prog_1_method_9_code 142 = .ok (.pop, 1) := by decide +kernel
theorem dX4_cue_143 : decode prog_1_method_9_code 143 = .ok (.aload 6, 2) := by decide +kernel
theorem dX4_cue_145 : decode prog_1_method_9_code 145 = .ok (.getfield 133, 3) := by decide +kernel
theorem dX4_cue_148 : decode prog_1_method_9_code 148 = .ok (.ireturn, 1) := by decide +kernel
theorem dL_cue_0 : decode method_6_code 0 = .ok (.aload 6, 2) := by decide +kernel
theorem dL_cue_2 : decode method_6_code 2 = .ok (.iconst 0, 1) := by decide +kernel
theorem dL_cue_3 : decode method_6_code 3 = .ok (.aload_n 0, 1) := by decide +kernel
theorem dL_cue_4 : decode method_6_code 4 = .ok (.iload_n 1, 1) := by decide +kernel
theorem dL_cue_5 : decode method_6_code 5 = .ok (.iload_n 2, 1) := by decide +kernel
theorem dL_cue_6 : decode method_6_code 6 = .ok (.iload_n 3, 1) := by decide +kernel
theorem dL_cue_7 : decode method_6_code 7 = .ok (.iload 4, 2) := by decide +kernel
theorem dL_cue_9 : decode method_6_code 9 = .ok (.iload 5, 2) := by decide +kernel
theorem dL_cue_11 : decode method_6_code 11 = .ok (.invokevirtual 24, 3) := by decide +kernel
theorem dL_cue_14 : decode method_6_code 14 = .ok (.i2l, 1) := by decide +kernel
theorem dL_cue_15 : decode method_6_code 15 = .ok (.lastore, 1) := by decide +kernel
theorem dL_cue_16 : decode method_6_code 16 = .ok (.goto 15, 3) := by decide +kernel
theorem dL_cue_19 : decode method_6_code 19 = .ok (.astore 7, 2) := by decide +kernel
theorem dL_cue_21 : decode method_6_code 21 = .ok (.iconst 1, 1) := by decide +kernel
theorem dL_cue_22 : decode method_6_code 22 = .ok (.ireturn, 1) := by decide +kernel
theorem dL_cue_23 : decode method_6_code 23 = .ok (.astore 7, 2) := by decide +kernel
theorem dL_cue_25 : decode method_6_code 25 = .ok (.iconst 2, 1) := by decide +kernel
theorem dL_cue_26 : decode method_6_code 26 = .ok (.ireturn, 1) := by decide +kernel
theorem dL_cue_27 : decode method_6_code 27 = .ok (.astore 7, 2) := by decide +kernel
theorem dL_cue_29 : decode method_6_code 29 = .ok (.iconst 3, 1) := by decide +kernel
theorem dL_cue_30 : decode method_6_code 30 = .ok (.ireturn, 1) := by decide +kernel
theorem dL_cue_31 : decode method_6_code 31 = .ok (.iconst 0, 1) := by decide +kernel
theorem dL_cue_32 : decode method_6_code 32 = .ok (.ireturn, 1) := by decide +kernel
theorem dX5_init_0 : decode prog_8_method_1_code 0 = .ok (.aload_n 0, 1) := by decide +kernel
theorem dX5_init_1 : decode prog_8_method_1_code 1 = .ok (.invokespecial 3, 3) := by decide +kernel
theorem dX5_init_4 : decode prog_8_method_1_code 4 = .ok (.aload_n 0, 1) := by decide +kernel
theorem dX5_init_5 : decode prog_8_method_1_code 5 = .ok (.bipush 9, 2) := by decide +kernel
theorem dX5_init_7 : decode prog_8_method_1_code 7 = .ok (.newarray .int, 2) := by decide +kernel
theorem dX5_init_9 : decode prog_8_method_1_code 9 = .ok (.putfield 9, 3) := by decide +kernel
theorem dX5_init_12 : decode prog_8_method_1_code 12 = .ok (.aload_n 0, 1) := by decide +kernel
theorem dX5_init_13 : decode prog_8_method_1_code 13 = .ok (.bipush 9, 2) := by decide +kernel
theorem dX5_init_15 : decode prog_8_method_1_code 15 = .ok (.newarray .int, 2) := by decide +kernel
theorem dX5_init_17 : decode prog_8_method_1_code 17 = .ok (.putfield 15, 3) := by decide +kernel
theorem dX5_init_20 : decode prog_8_method_1_code 20 = .ok (.aload_n 0, 1) := by decide +kernel
theorem dX5_init_21 : decode prog_8_method_1_code 21 = .ok (.iload_n 1, 1) := by decide +kernel
theorem dX5_init_22 : decode prog_8_method_1_code 22 = .ok (.putfield 18, 3) := by decide +kernel
theorem dX5_init_25 : decode prog_8_method_1_code 25 = .ok (.aload_n 0, 1) := by decide +kernel
theorem dX5_init_26 : decode prog_8_method_1_code 26 = .ok (.iload_n 2, 1) := by decide +kernel
theorem dX5_init_27 : decode prog_8_method_1_code 27 = .ok (.putfield 22, 3) := by decide +kernel
theorem dX5_init_30 : decode prog_8_method_1_code 30 = .ok (.aload_n 0, 1) := by decide +kernel
theorem dX5_init_31 : decode prog_8_method_1_code 31 = .ok (.iload_n 3, 1) := by decide +kernel
theorem dX5_init_32 : decode prog_8_method_1_code 32 = .ok (.putfield 25, 3) := by decide +kernel
theorem dX5_init_35 : decode prog_8_method_1_code 35 = .ok (.aload_n 0, 1) := by decide +kernel
theorem dX5_init_36 : decode prog_8_method_1_code 36 = .ok (.iload 4, 2) := by decide +kernel
theorem dX5_init_38 : decode prog_8_method_1_code 38 = .ok (.putfield 28, 3) := by decide +kernel
theorem dX5_init_41 : decode prog_8_method_1_code 41 = .ok (.aload_n 0, 1) := by decide +kernel
theorem dX5_init_42 : decode prog_8_method_1_code 42 = .ok (.iload 5, 2) := by decide +kernel
theorem dX5_init_44 : decode prog_8_method_1_code 44 = .ok (.putfield 31, 3) := by decide +kernel
theorem dX5_init_47 : decode prog_8_method_1_code 47 = .ok (.return_, 1) := by decide +kernel
theorem dX8_cue_0 : decode prog_7_method_22_code 0 = .ok (.aload_n 0, 1) := by decide +kernel
theorem dX8_cue_1 : decode prog_7_method_22_code 1 = .ok (.iload_n 2, 1) := by decide +kernel
theorem dX8_cue_2 : decode prog_7_method_22_code 2 = .ok (.iconst (-1), 1) := by decide +kernel
theorem dX8_cue_3 : decode prog_7_method_22_code 3 = .ok (.if_icmp .eq 24, 3) := by decide +kernel
theorem dX8_cue_6 : decode prog_7_method_22_code 6 = .ok (.iload_n 2, 1) := by decide +kernel
theorem dX8_cue_7 : decode prog_7_method_22_code 7 = .ok (.iconst 0, 1) := by decide +kernel
theorem dX8_cue_8 : decode prog_7_method_22_code 8 = .ok (.aload_n 0, 1) := by decide +kernel
theorem dX8_cue_9 : decode prog_7_method_22_code 9 = .ok (.getfield 20, 3) := by decide +kernel
theorem dX8_cue_12 : decode prog_7_method_22_code 12 = .ok (.invokevirtual 36, 3) := by decide +kernel
theorem dX8_cue_15 : decode prog_7_method_22_code 15 = .ok (.iconst 1, 1) := by decide +kernel
theorem dX8_cue_16 : decode prog_7_method_22_code 16 = .ok (.isub, 1) := by decide +kernel
theorem dX8_cue_17 : decode prog_7_method_22_code 17 = .ok (.invokestatic 40, 3) := by decide +kernel
theorem dX8_cue_20 : decode prog_7_method_22_code 20 = .ok (.ifCond .ne 7, 3) := by decide +kernel
theorem dX8_cue_23 : decode prog_7_method_22_code 23 = .ok (.iconst 1, 1) := by decide +kernel
theorem dX8_cue_24 : decode prog_7_method_22_code 24 = .ok (.goto 4, 3) := by decide +kernel
theorem dX8_cue_27 : decode prog_7_method_22_code 27 = .ok (.iconst 0, 1) := by decide +kernel
theorem dX8_cue_28 : decode prog_7_method_22_code 28 = .ok (.iconst 1, 1) := by decide +kernel
theorem dX8_cue_29 : decode prog_7_method_22_code 29 = .ok (.invokevirtual 99, 3) := by decide +kernel
theorem dX8_cue_32 : decode prog_7_method_22_code 32 = .ok (.ifCond .ne 83, 3) := by decide +kernel
theorem dX8_cue_35 : decode prog_7_method_22_code 35 = .ok (.aload_n 0, 1) := by decide +kernel
theorem dX8_cue_36 : decode prog_7_method_22_code 36 = .ok (.iload_n 1, 1) := by decide +kernel
theorem dX8_cue_37 : decode prog_7_method_22_code 37 = .ok (.iconst 0, 1) := by decide +kernel
theorem dX8_cue_38 : decode prog_7_method_22_code 38 = .ok (.aload_n 0, 1) := by decide +kernel
theorem dX8_cue_39 : decode prog_7_method_22_code 39 = .ok (.getfield 9, 3) := by decide +kernel
theorem dX8_cue_42 : decode prog_7_method_22_code 42 = .ok (.invokestatic 40, 3) := by decide +kernel
theorem dX8_cue_45 : decode prog_7_method_22_code 45 = .ok (.ifCond .eq 33, 3) := by decide +kernel
theorem dX8_cue_48 : decode prog_7_method_22_code 48 = .ok (.iload_n 3, 1) := by decide +kernel
theorem dX8_cue_49 : decode prog_7_method_22_code 49 = .ok (.iconst 1, 1) := by decide +kernel
theorem dX8_cue_50 : decode prog_7_method_22_code 50 = .ok (.bipush 40, 2) := by decide +kernel
theorem dX8_cue_52 : decode prog_7_method_22_code 52 = .ok (.invokestatic 40, 3) := by decide +kernel
theorem dX8_cue_55 : decode prog_7_method_22_code 55 = .ok (.ifCond .eq 23, 3) := by decide +kernel
theorem dX8_cue_58 : decode prog_7_method_22_code 58 = .ok (.iload 4, 2) := by decide +kernel
theorem dX8_cue_60 : decode prog_7_method_22_code 60 = .ok (.iconst 0, 1) := by decide +kernel
theorem dX8_cue_61 : decode prog_7_method_22_code 61 = .ok (.iconst 3, 1) := by decide +kernel
theorem dX8_cue_62 : decode prog_7_method_22_code 62 = .ok (.invokestatic 40, 3) := by decide +kernel
theorem dX8_cue_65 : decode prog_7_method_22_code 65 = .ok (.ifCond .eq 13, 3) := by decide +kernel
theorem dX8_cue_68 : decode prog_7_method_22_code 68 = .ok (.iload 5, 2) := by decide +kernel
theorem dX8_cue_70 : decode prog_7_method_22_code 70 = .ok (.iconst 0, 1) := by decide +kernel
theorem dX8_cue_71 : decode prog_7_method_22_code 71 = .ok (.iconst 2, 1) := by decide +kernel
theorem dX8_cue_72 : decode prog_7_method_22_code 72 = .ok (.invokestatic 40, 3) := by decide +kernel
theorem dX8_cue_75 : decode prog_7_method_22_code 75 = .ok (.ifCond .ne 7, 3) := by decide +kernel
theorem dX8_cue_78 : decode prog_7_method_22_code 78 = .ok (.iconst 1, 1) := by decide +kernel
theorem dX8_cue_79 : decode prog_7_method_22_code 79 = .ok (.goto 4, 3) := by decide +kernel
theorem dX8_cue_82 : decode prog_7_method_22_code 82 = .ok (.iconst 0, 1) := by decide +kernel
theorem dX8_cue_83 : decode prog_7_method_22_code 83 = .ok (.iconst 2, 1) := by decide +kernel
theorem dX8_cue_84 : decode prog_7_method_22_code 84 = .ok (.invokevirtual 32, 3) := by decide +kernel
theorem dX8_cue_87 : decode prog_7_method_22_code 87 = .ok (.ifCond .ne 28, 3) := by decide +kernel
theorem dX8_cue_90 : decode prog_7_method_22_code 90 = .ok (.aload_n 0, 1) := by decide +kernel
theorem dX8_cue_91 : decode prog_7_method_22_code 91 = .ok (.aload_n 0, 1) := by decide +kernel
theorem dX8_cue_92 : decode prog_7_method_22_code 92 = .ok (.getfield 23, 3) := by decide +kernel
theorem dX8_cue_95 : decode prog_7_method_22_code 95 = .ok (.invokevirtual 36, 3) := by decide +kernel
theorem dX8_cue_98 : decode prog_7_method_22_code 98 = .ok (.bipush 8, 2) := by decide +kernel
theorem dX8_cue_100 : decode prog_7_method_22_code 100 = .ok (.if_icmp .ne 7, 3) := by decide +kernel
theorem dX8_cue_103 : decode prog_7_method_22_code 103 = .ok (.iconst 1, 1) := by decide +kernel
theorem dX8_cue_104 : decode prog_7_method_22_code 104 = .ok (.goto 4, 3) := by decide +kernel
theorem dX8_cue_107 : decode prog_7_method_22_code 107 = .ok (.iconst 0, 1) := by decide +kernel
theorem dX8_cue_108 : decode prog_7_method_22_code 108 = .ok (.iconst 3, 1) := by decide +kernel
theorem dX8_cue_109 : decode prog_7_method_22_code 109 = .ok (.invokevirtual 32, 3) := by decide +kernel
theorem dX8_cue_112 : decode prog_7_method_22_code 112 = .ok (.ifCond .eq 5, 3) := by decide +kernel
theorem dX8_cue_115 : decode prog_7_method_22_code 115 = .ok (.iconst 0, 1) := by decide +kernel
theorem dX8_cue_116 : decode prog_7_method_22_code 116 = .ok (.ireturn, 1) := by decide +kernel
theorem dX8_cue_117 : decode prog_7_method_22_code 117 = .ok (.aload_n 0, 1) := by decide +kernel
theorem dX8_cue_118 : decode prog_7_method_22_code 118 = .ok (.getfield 23, 3) := by decide +kernel
theorem dX8_cue_121 : decode prog_7_method_22_code 121 = .ok (.new 52, 3) := by decide +kernel
theorem dX8_cue_124 : decode prog_7_method_22_code 124 = .ok (.dup, 1) := by decide +kernel
theorem dX8_cue_125 : decode prog_7_method_22_code 125 = .ok (.iload_n 1, 1) := by decide +kernel
theorem dX8_cue_126 : decode prog_7_method_22_code 126 = .ok (.iload_n 2, 1) := by decide +kernel
theorem dX8_cue_127 : decode prog_7_method_22_code 127 = .ok (.iload_n 3, 1) := by decide +kernel
theorem dX8_cue_128 : decode prog_7_method_22_code 128 = .ok (.iload 4, 2) := by decide +kernel
theorem dX8_cue_130 : decode prog_7_method_22_code 130 = .ok (.iload 5, 2) := by decide +kernel
theorem dX8_cue_132 : decode prog_7_method_22_code 132 = .ok (.invokespecial 162, 3) := by decide +kernel
theorem dX8_cue_135 : decode prog_7_method_22_code 135 = .ok (.invokevirtual 105, 3) := by decide +kernel
theorem dX8_cue_138 : decode prog_7_method_22_code 138 = .ok (.pop, 1) := by decide +kernel
theorem dX8_cue_139 : decode prog_7_method_22_code 139 = .ok (.aload_n 0, 1) := by decide +kernel
theorem dX8_cue_140 : decode prog_7_method_22_code 140 = .ok (.getfield 23, 3) := by decide +kernel
theorem dX8_cue_143 : decode prog_7_method_22_code 143 = .ok (.invokevirtual 36, 3) := by decide +kernel
theorem dX8_cue_146 : decode prog_7_method_22_code 146 = .ok (.iconst 1, 1) := by decide +kernel
theorem dX8_cue_147 : decode prog_7_method_22_code 147 = .ok (.isub, 1) := by decide +kernel
theorem dX8_cue_148 : decode prog_7_method_22_code 148 = .ok (.ireturn, 1) := by decide +kernel
theorem dL_bar_0 : decode method_7_code 0 = .ok (.aload 4, 2) := by decide +kernel
theorem dL_bar_2 : decode method_7_code 2 = .ok (.iconst 0, 1) := by decide +kernel
theorem dL_bar_3 : decode method_7_code 3 = .ok (.aload_n 0, 1) := by decide +kernel
theorem dL_bar_4 : decode method_7_code 4 = .ok (.iload_n 1, 1) := by decide +kernel
theorem dL_bar_5 : decode method_7_code 5 = .ok (.iload_n 2, 1) := by decide +kernel
theorem dL_bar_6 : decode method_7_code 6 = .ok (.iload_n 3, 1) := by decide +kernel
theorem dL_bar_7 : decode method_7_code 7 = .ok (.invokevirtual 30, 3) := by decide +kernel
theorem dL_bar_15 : decode method_7_code 15 = .ok (.astore 5, 2) := by decide +kernel
theorem dL_bar_17 : decode method_7_code 17 = .ok (.iconst 1, 1) := by decide +kernel
theorem dL_bar_18 : decode method_7_code 18 = .ok (.ireturn, 1) := by decide +kernel
theorem dL_bar_19 : decode method_7_code 19 = .ok (.astore 5, 2) := by decide +kernel
theorem dL_bar_21 : decode method_7_code 21 = .ok (.iconst 2, 1) := by decide +kernel
theorem dL_bar_22 : decode method_7_code 22 = .ok (.ireturn, 1) := by decide +kernel
theorem dL_bar_23 : decode method_7_code 23 = .ok (.astore 5, 2) := by decide +kernel
theorem dL_bar_25 : decode method_7_code 25 = .ok (.iconst 3, 1) := by decide +kernel
theorem dL_bar_26 : decode method_7_code 26 = .ok (.ireturn, 1) := by decide +kernel
theorem dX8_isNoCue_0 : decode prog_7_method_7_code 0 = .ok (.iload_n 1, 1) := by decide +kernel
theorem dX8_isNoCue_1 : decode prog_7_method_7_code 1 = .ok (.iconst 0, 1) := by decide +kernel
theorem dX8_isNoCue_2 : decode prog_7_method_7_code 2 = .ok (.aload_n 0, 1) := by decide +kernel
theorem dX8_isNoCue_3 : decode prog_7_method_7_code 3 = .ok (.getfield 23, 3) := by decide +kernel
theorem dX8_isNoCue_6 : decode prog_7_method_7_code 6 = .ok (.invokevirtual 36, 3) := by decide +kernel
theorem dX8_isNoCue_9 : decode prog_7_method_7_code 9 = .ok (.iconst 1, 1) := by decide +kernel
theorem dX8_isNoCue_10 : decode prog_7_method_7_code 10 = .ok (.isub, 1) := by decide +kernel
theorem dX8_isNoCue_11 : decode prog_7_method_7_code 11 = .ok (.invokestatic 40, 3) := by decide +kernel
theorem dX8_isNoCue_14 : decode prog_7_method_7_code 14 = .ok (.ifCond .ne 7, 3) := by decide +kernel
theorem dX8_isNoCue_17 : decode prog_7_method_7_code 17 = .ok (.iconst 1, 1) := by decide +kernel
theorem dX8_isNoCue_18 : decode prog_7_method_7_code 18 = .ok (.goto 4, 3) := by decide +kernel
theorem dX8_isNoCue_21 : decode prog_7_method_7_code 21 = .ok (.iconst 0, 1) := by decide +kernel
theorem dX8_isNoCue_22 : decode prog_7_method_7_code 22 = .ok (.ireturn, 1) := by decide +kernel
theorem dX8_isNoClick_0 : decode prog_7_method_9_code 0 = .ok (.iload_n 0, 1) := by decide +kernel
theorem dX8_isNoClick_1 : decode prog_7_method_9_code 1 = .ok (.iconst 2, 1) := by decide +kernel
theorem dX8_isNoClick_2 : decode prog_7_method_9_code 2 = .ok (.bipush 7, 2) := by decide +kernel
theorem dX8_isNoClick_4 : decode prog_7_method_9_code 4 = .ok (.invokestatic 40, 3) := by decide +kernel
theorem dX8_isNoClick_7 : decode prog_7_method_9_code 7 = .ok (.ifCond .eq 15, 3) := by decide +kernel
theorem dX8_isNoClick_10 : decode prog_7_method_9_code 10 = .ok (.iload_n 1, 1) := by decide +kernel
theorem dX8_isNoClick_11 : decode prog_7_method_9_code 11 = .ok (.bipush 24, 2) := by decide +kernel
theorem dX8_isNoClick_13 : decode prog_7_method_9_code 13 = .ok (.sipush 160, 3) := by decide +kernel
theorem dX8_isNoClick_16 : decode prog_7_method_9_code 16 = .ok (.invokestatic 40, 3) := by decide +kernel
theorem dX8_isNoClick_19 : decode prog_7_method_9_code 19 = .ok (.ifCond .ne 7, 3) := by decide +kernel
theorem dX8_isNoClick_22 : decode prog_7_method_9_code 22 = .ok (.iconst 1, 1) := by decide +kernel
theorem dX8_isNoClick_23 : decode prog_7_method_9_code 23 = .ok (.goto 4, 3) := by decide +kernel
theorem dX8_isNoClick_26 : decode prog_7_method_9_code 26 = .ok (.iconst 0, 1) := by decide +kernel
theorem dX8_isNoClick_27 : decode prog_7_method_9_code 27 = .ok (.ireturn, 1) := by decide +kernel
theorem dX8_bar_0 : decode prog_7_method_23_code 0 = .ok (.aload_n 0, 1) := by decide +kernel
theorem dX8_bar_1 : decode prog_7_method_23_code 1 = .ok (.aload_n 0, 1) := by decide +kernel
theorem dX8_bar_2 : decode prog_7_method_23_code 2 = .ok (.iload_n 1, 1) := by decide +kernel
theorem dX8_bar_3 : decode prog_7_method_23_code 3 = .ok (.invokevirtual 44, 3) := by decide +kernel
theorem dX8_bar_6 : decode prog_7_method_23_code 6 = .ok (.iconst 1, 1) := by decide +kernel
theorem dX8_bar_7 : decode prog_7_method_23_code 7 = .ok (.invokevirtual 99, 3) := by decide +kernel
theorem dX8_bar_10 : decode prog_7_method_23_code 10 = .ok (.ifCond .ne 48, 3) := by decide +kernel
theorem dX8_bar_13 : decode prog_7_method_23_code 13 = .ok (.aload_n 0, 1) := by decide +kernel
theorem dX8_bar_14 : decode prog_7_method_23_code 14 = .ok (.iload_n 2, 1) := by decide +kernel
theorem dX8_bar_15 : decode prog_7_method_23_code 15 = .ok (.iload_n 3, 1) := by decide +kernel
theorem dX8_bar_16 : decode prog_7_method_23_code 16 = .ok (.invokestatic 165, 3) := by decide +kernel
theorem dX8_bar_19 : decode prog_7_method_23_code 19 = .ok (.iconst 2, 1) := by decide +kernel
theorem dX8_bar_20 : decode prog_7_method_23_code 20 = .ok (.invokevirtual 32, 3) := by decide +kernel
theorem dX8_bar_23 : decode prog_7_method_23_code 23 = .ok (.ifCond .ne 35, 3) := by decide +kernel
theorem dX8_bar_26 : decode prog_7_method_23_code 26 = .ok (.aload_n 0, 1) := by decide +kernel
theorem dX8_bar_27 : decode prog_7_method_23_code 27 = .ok (.aload_n 0, 1) := by decide +kernel
theorem dX8_bar_28 : decode prog_7_method_23_code 28 = .ok (.getfield 23, 3) := by decide +kernel
theorem dX8_bar_31 : decode prog_7_method_23_code 31 = .ok (.iload_n 1, 1) := by decide +kernel
theorem dX8_bar_58 : decode prog_7_method_23_code 58 = .ok (.iconst 0, 1) := by decide +kernel
theorem dX8_bar_59 : decode prog_7_method_23_code 59 = .ok (.ireturn, 1) := by decide +kernel
theorem dL_retime_0 : decode method_8_code 0 = .ok (.aload 5, 2) := by decide +kernel
theorem dL_retime_2 : decode method_8_code 2 = .ok (.iconst 0, 1) := by decide +kernel
theorem dL_retime_3 : decode method_8_code 3 = .ok (.aload_n 0, 1) := by decide +kernel
theorem dL_retime_4 : decode method_8_code 4 = .ok (.iload_n 1, 1) := by decide +kernel
theorem dL_retime_5 : decode method_8_code 5 = .ok (.iload_n 2, 1) := by decide +kernel
theorem dL_retime_6 : decode method_8_code 6 = .ok (.iload_n 3, 1) := by decide +kernel
theorem dL_retime_7 : decode method_8_code 7 = .ok (.iload 4, 2) := by decide +kernel
theorem dL_retime_9 : decode method_8_code 9 = .ok (.invokevirtual 34, 3) := by decide +kernel
theorem dL_retime_17 : decode method_8_code 17 = .ok (.astore 6, 2) := by decide +kernel
theorem dL_retime_19 : decode method_8_code 19 = .ok (.iconst 1, 1) := by decide +kernel
theorem dL_retime_20 : decode method_8_code 20 = .ok (.ireturn, 1) := by decide +kernel
theorem dL_retime_21 : decode method_8_code 21 = .ok (.astore 6, 2) := by decide +kernel
theorem dL_retime_23 : decode method_8_code 23 = .ok (.iconst 2, 1) := by decide +kernel
theorem dL_retime_24 : decode method_8_code 24 = .ok (.ireturn, 1) := by decide +kernel
theorem dX8_isNoBar_0 : decode prog_7_method_8_code 0 = .ok (.aload_n 0, 1) := by decide +kernel
theorem dX8_isNoBar_1 : decode prog_7_method_8_code 1 = .ok (.iload_n 1, 1) := by decide +kernel
theorem dX8_isNoBar_2 : decode prog_7_method_8_code 2 = .ok (.invokevirtual 44, 3) := by decide +kernel
theorem dX8_isNoBar_5 : decode prog_7_method_8_code 5 = .ok (.ifCond .ne 27, 3) := by decide +kernel
theorem dX8_isNoBar_8 : decode prog_7_method_8_code 8 = .ok (.iload_n 2, 1) := by decide +kernel
theorem dX8_isNoBar_9 : decode prog_7_method_8_code 9 = .ok (.iconst 0, 1) := by decide +kernel
theorem dX8_isNoBar_10 : decode prog_7_method_8_code 10 = .ok (.aload_n 0, 1) := by decide +kernel
theorem dX8_isNoBar_11 : decode prog_7_method_8_code 11 = .ok (.getfield 23, 3) := by decide +kernel
theorem dX8_isNoBar_14 : decode prog_7_method_8_code 14 = .ok (.iload_n 1, 1) := by decide +kernel
theorem dX8_isNoBar_32 : decode prog_7_method_8_code 32 = .ok (.iconst 1, 1) := by decide +kernel
theorem dX8_isNoBar_33 : decode prog_7_method_8_code 33 = .ok (.goto 4, 3) := by decide +kernel
theorem dX8_isNoBar_37 : decode prog_7_method_8_code 37 = .ok (.ireturn, 1) := by decide +kernel
theorem dX8_retime_0 : decode prog_7_method_24_code 0 = .ok (.aload_n 0, 1) := by decide +kernel
theorem dX8_retime_1 : decode prog_7_method_24_code 1 = .ok (.aload_n 0, 1) := by decide +kernel
theorem dX8_retime_2 : decode prog_7_method_24_code 2 = .ok (.iload_n 1, 1) := by decide +kernel
theorem dX8_retime_3 : decode prog_7_method_24_code 3 = .ok (.iload_n 2, 1) := by decide +kernel
theorem dX8_retime_4 : decode prog_7_method_24_code 4 = .ok (.invokevirtual 174, 3) := by decide +kernel
theorem dX8_retime_7 : decode prog_7_method_24_code 7 = .ok (.iconst 1, 1) := by decide +kernel
theorem dX8_retime_8 : decode prog_7_method_24_code 8 = .ok (.invokevirtual 99, 3) := by decide +kernel
theorem dX8_retime_11 : decode prog_7_method_24_code 11 = .ok (.ifCond .ne 17, 3) := by decide +kernel
theorem dX8_retime_14 : decode prog_7_method_24_code 14 = .ok (.aload_n 0, 1) := by decide +kernel
theorem dX8_retime_15 : decode prog_7_method_24_code 15 = .ok (.iload_n 3, 1) := by decide +kernel
theorem dX8_retime_16 : decode prog_7_method_24_code 16 = .ok (.iload 4, 2) := by decide +kernel
theorem dX8_retime_18 : decode prog_7_method_24_code 18 = .ok (.invokestatic 165, 3) := by decide +kernel
theorem dX8_retime_21 : decode prog_7_method_24_code 21 = .ok (.iconst 2, 1) := by decide +kernel
theorem dX8_retime_22 : decode prog_7_method_24_code 22 = .ok (.invokevirtual 32, 3) := by decide +kernel
theorem dX8_retime_25 : decode prog_7_method_24_code 25 = .ok (.ifCond .eq 5, 3) := by decide +kernel
theorem dX8_retime_28 : decode prog_7_method_24_code 28 = .ok (.iconst 0, 1) := by decide +kernel
theorem dX8_retime_29 : decode prog_7_method_24_code 29 = .ok (.ireturn, 1) := by decide +kernel
theorem dX8_retime_30 : decode prog_7_method_24_code 30 = .ok (.aload_n 0, 1) := by decide +kernel
theorem dX8_retime_31 : decode prog_7_method_24_code 31 = .ok (.getfield 23, 3) := by decide +kernel
theorem dX8_retime_34 : decode prog_7_method_24_code 34 = .ok (.iload_n 1, 1) := by decide +kernel
theorem dL_shift_0 : decode method_9_code 0 = .ok (.aload_n 3, 1) := by decide +kernel
theorem dL_shift_1 : decode method_9_code 1 = .ok (.iconst 0, 1) := by decide +kernel
theorem dL_shift_2 : decode method_9_code 2 = .ok (.aload_n 0, 1) := by decide +kernel
theorem dL_shift_3 : decode method_9_code 3 = .ok (.iload_n 1, 1) := by decide +kernel
theorem dL_shift_4 : decode method_9_code 4 = .ok (.iload_n 2, 1) := by decide +kernel
theorem dL_shift_5 : decode method_9_code 5 = .ok (.invokevirtual 38, 3) := by decide +kernel
theorem dL_shift_13 : decode method_9_code 13 = .ok (.astore 4, 2) := by decide +kernel
theorem dL_shift_15 : decode method_9_code 15 = .ok (.iconst 1, 1) := by decide +kernel
theorem dL_shift_16 : decode method_9_code 16 = .ok (.ireturn, 1) := by decide +kernel
theorem dL_shift_17 : decode method_9_code 17 = .ok (.astore 4, 2) := by decide +kernel
theorem dL_shift_19 : decode method_9_code 19 = .ok (.iconst 2, 1) := by decide +kernel
theorem dL_shift_20 : decode method_9_code 20 = .ok (.ireturn, 1) := by decide +kernel
theorem dX8_shift_0 : decode prog_7_method_25_code 0 = .ok (.aload_n 0, 1) := by decide +kernel
theorem dX8_shift_1 : decode prog_7_method_25_code 1 = .ok (.aload_n 0, 1) := by decide +kernel
theorem dX8_shift_2 : decode prog_7_method_25_code 2 = .ok (.iload_n 1, 1) := by decide +kernel
theorem dX8_shift_3 : decode prog_7_method_25_code 3 = .ok (.invokevirtual 44, 3) := by decide +kernel
theorem dX8_shift_6 : decode prog_7_method_25_code 6 = .ok (.iconst 1, 1) := by decide +kernel
theorem dX8_shift_7 : decode prog_7_method_25_code 7 = .ok (.invokevirtual 99, 3) := by decide +kernel
theorem dX8_shift_10 : decode prog_7_method_25_code 10 = .ok (.ifCond .ne 28, 3) := by decide +kernel
theorem dX8_shift_13 : decode prog_7_method_25_code 13 = .ok (.aload_n 0, 1) := by decide +kernel
theorem dX8_shift_14 : decode prog_7_method_25_code 14 = .ok (.iload_n 2, 1) := by decide +kernel
theorem dX8_shift_15 : decode prog_7_method_25_code 15 = .ok (.iconst 0, 1) := by decide +kernel
theorem dX8_shift_16 : decode prog_7_method_25_code 16 = .ok (.aload_n 0, 1) := by decide +kernel
theorem dX8_shift_17 : decode prog_7_method_25_code 17 = .ok (.getfield 9, 3) := by decide +kernel
theorem dX8_shift_20 : decode prog_7_method_25_code 20 = .ok (.invokestatic 40, 3) := by decide +kernel
theorem dX8_shift_23 : decode prog_7_method_25_code 23 = .ok (.ifCond .ne 7, 3) := by decide +kernel
theorem dX8_shift_26 : decode prog_7_method_25_code 26 = .ok (.iconst 1, 1) := by decide +kernel
theorem dX8_shift_27 : decode prog_7_method_25_code 27 = .ok (.goto 4, 3) := by decide +kernel
theorem dX8_shift_30 : decode prog_7_method_25_code 30 = .ok (.iconst 0, 1) := by decide +kernel
theorem dX8_shift_31 : decode prog_7_method_25_code 31 = .ok (.iconst 2, 1) := by decide +kernel
theorem dX8_shift_32 : decode prog_7_method_25_code 32 = .ok (.invokevirtual 32, 3) := by decide +kernel
theorem dX8_shift_35 : decode prog_7_method_25_code 35 = .ok (.ifCond .eq 5, 3) := by decide +kernel
theorem dX8_shift_38 : decode prog_7_method_25_code 38 = .ok (.iconst 0, 1) := by decide +kernel
theorem dX8_shift_39 : decode prog_7_method_25_code 39 = .ok (.ireturn, 1) := by decide +kernel
theorem dX8_shift_40 : decode prog_7_method_25_code 40 = .ok (.aload_n 0, 1) := by decide +kernel
theorem dX8_shift_41 : decode prog_7_method_25_code 41 = .ok (.getfield 23, 3) := by decide +kernel
theorem dX8_shift_44 : decode prog_7_method_25_code 44 = .ok (.iload_n 1, 1) := by decide +kernel
theorem dX4_open_0 : decode prog_1_method_16_code 0 = .ok (.iload_n 1, 1) := by decide +kernel
theorem dX4_open_1 : decode prog_1_method_16_code 1 = .ok (.iconst 1, 1) := by decide +kernel
theorem dX4_open_2 : decode prog_1_method_16_code 2 = .ok (.if_icmp .lt 9, 3) := by decide +kernel
theorem dX4_open_5 : decode prog_1_method_16_code 5 = .ok (.iload_n 1, 1) := by decide +kernel
theorem dX4_open_6 : decode prog_1_method_16_code 6 = .ok (.bipush 60, 2) := by decide +kernel
theorem dX4_open_8 : decode prog_1_method_16_code 8 = .ok (.if_icmp .le 13, 3) := by decide +kernel
theorem dX4_open_11 : decode prog_1_method_16_code 11 = .ok (.new 44, 3) := by decide +kernel
theorem dX4_open_14 : decode prog_1_method_16_code 14 = .ok (.dup, 1) := by decide +kernel
theorem dX4_open_15 : decode prog_1_method_16_code 15 = .ok (.ldc 170, 2) := by decide +kernel
theorem dX4_open_17 : decode prog_1_method_16_code 17 = .ok (.invokespecial 48, 3) := by decide +kernel
theorem dX4_open_20 : decode prog_1_method_16_code 20 = .ok (.athrow, 1) := by decide +kernel
theorem dX4_open_21 : decode prog_1_method_16_code 21 = .ok (.aload_n 0, 1) := by decide +kernel
theorem dX4_open_22 : decode prog_1_method_16_code 22 = .ok (.getfield 172, 3) := by decide +kernel
theorem dX4_open_25 : decode prog_1_method_16_code 25 = .ok (.ifCond .le 13, 3) := by decide +kernel
theorem dX4_open_28 : decode prog_1_method_16_code 28 = .ok (.new 55, 3) := by decide +kernel
theorem dX4_open_31 : decode prog_1_method_16_code 31 = .ok (.dup, 1) := by decide +kernel
theorem dX4_open_32 : decode prog_1_method_16_code 32 = .ok (.ldc 175, 2) := by decide +kernel
theorem dX4_open_34 : decode prog_1_method_16_code 34 = .ok (.invokespecial 59, 3) := by decide +kernel
theorem dX4_open_37 : decode prog_1_method_16_code 37 = .ok (.athrow, 1) := by decide +kernel
theorem dX4_open_38 : decode prog_1_method_16_code 38 = .ok (.aload_n 0, 1) := by decide +kernel
theorem dX4_open_39 : decode prog_1_method_16_code 39 = .ok (.iload_n 1, 1) := by decide +kernel
theorem dX4_open_40 : decode prog_1_method_16_code 40 = .ok (.putfield 172, 3) := by decide +kernel
theorem dX4_open_43 : decode prog_1_method_16_code 43 = .ok (.aload_n 0, 1) := by decide +kernel
theorem dX4_open_44 : decode prog_1_method_16_code 44 = .ok (.getfield 23, 3) := by decide +kernel
theorem dX4_open_47 : decode prog_1_method_16_code 47 = .ok (.invokevirtual 51, 3) := by decide +kernel
theorem dX4_open_50 : decode prog_1_method_16_code 50 = .ok (.ireturn, 1) := by decide +kernel
theorem dL_open_0 : decode method_10_code 0 = .ok (.aload_n 2, 1) := by decide +kernel
theorem dL_open_1 : decode method_10_code 1 = .ok (.iconst 0, 1) := by decide +kernel
theorem dL_open_2 : decode method_10_code 2 = .ok (.aload_n 0, 1) := by decide +kernel
theorem dL_open_3 : decode method_10_code 3 = .ok (.iload_n 1, 1) := by decide +kernel
theorem dL_open_4 : decode method_10_code 4 = .ok (.invokevirtual 41, 3) := by decide +kernel
theorem dL_open_7 : decode method_10_code 7 = .ok (.i2l, 1) := by decide +kernel
theorem dL_open_8 : decode method_10_code 8 = .ok (.lastore, 1) := by decide +kernel
theorem dL_open_9 : decode method_10_code 9 = .ok (.goto 9, 3) := by decide +kernel
theorem dL_open_12 : decode method_10_code 12 = .ok (.astore_n 3, 1) := by decide +kernel
theorem dL_open_13 : decode method_10_code 13 = .ok (.iconst 1, 1) := by decide +kernel
theorem dL_open_14 : decode method_10_code 14 = .ok (.ireturn, 1) := by decide +kernel
theorem dL_open_15 : decode method_10_code 15 = .ok (.astore_n 3, 1) := by decide +kernel
theorem dL_open_16 : decode method_10_code 16 = .ok (.iconst 2, 1) := by decide +kernel
theorem dL_open_17 : decode method_10_code 17 = .ok (.ireturn, 1) := by decide +kernel
theorem dL_open_18 : decode method_10_code 18 = .ok (.iconst 0, 1) := by decide +kernel
theorem dL_open_19 : decode method_10_code 19 = .ok (.ireturn, 1) := by decide +kernel
theorem dX8_open_0 : decode prog_7_method_26_code 0 = .ok (.aload_n 0, 1) := by decide +kernel
theorem dX8_open_1 : decode prog_7_method_26_code 1 = .ok (.iload_n 1, 1) := by decide +kernel
theorem dX8_open_2 : decode prog_7_method_26_code 2 = .ok (.iconst 1, 1) := by decide +kernel
theorem dX8_open_3 : decode prog_7_method_26_code 3 = .ok (.bipush 60, 2) := by decide +kernel
theorem dX8_open_5 : decode prog_7_method_26_code 5 = .ok (.invokestatic 40, 3) := by decide +kernel
theorem dX8_open_8 : decode prog_7_method_26_code 8 = .ok (.ifCond .ne 7, 3) := by decide +kernel
theorem dX8_open_11 : decode prog_7_method_26_code 11 = .ok (.iconst 1, 1) := by decide +kernel
theorem dX8_open_12 : decode prog_7_method_26_code 12 = .ok (.goto 4, 3) := by decide +kernel
theorem dX8_open_15 : decode prog_7_method_26_code 15 = .ok (.iconst 0, 1) := by decide +kernel
theorem dX8_open_16 : decode prog_7_method_26_code 16 = .ok (.iconst 1, 1) := by decide +kernel
theorem dX8_open_17 : decode prog_7_method_26_code 17 = .ok (.invokevirtual 99, 3) := by decide +kernel
theorem dX8_open_20 : decode prog_7_method_26_code 20 = .ok (.ifCond .ne 23, 3) := by decide +kernel
theorem dX8_open_23 : decode prog_7_method_26_code 23 = .ok (.aload_n 0, 1) := by decide +kernel
theorem dX8_open_24 : decode prog_7_method_26_code 24 = .ok (.aload_n 0, 1) := by decide +kernel
theorem dX8_open_25 : decode prog_7_method_26_code 25 = .ok (.getfield 182, 3) := by decide +kernel
theorem dX8_open_28 : decode prog_7_method_26_code 28 = .ok (.ifCond .le 7, 3) := by decide +kernel
theorem dX8_open_31 : decode prog_7_method_26_code 31 = .ok (.iconst 1, 1) := by decide +kernel
theorem dX8_open_32 : decode prog_7_method_26_code 32 = .ok (.goto 4, 3) := by decide +kernel
theorem dX8_open_35 : decode prog_7_method_26_code 35 = .ok (.iconst 0, 1) := by decide +kernel
theorem dX8_open_36 : decode prog_7_method_26_code 36 = .ok (.iconst 2, 1) := by decide +kernel
theorem dX8_open_37 : decode prog_7_method_26_code 37 = .ok (.invokevirtual 32, 3) := by decide +kernel
theorem dX8_open_40 : decode prog_7_method_26_code 40 = .ok (.ifCond .eq 5, 3) := by decide +kernel
theorem dX8_open_43 : decode prog_7_method_26_code 43 = .ok (.iconst 0, 1) := by decide +kernel
theorem dX8_open_44 : decode prog_7_method_26_code 44 = .ok (.ireturn, 1) := by decide +kernel
theorem dX8_open_45 : decode prog_7_method_26_code 45 = .ok (.aload_n 0, 1) := by decide +kernel
theorem dX8_open_46 : decode prog_7_method_26_code 46 = .ok (.iload_n 1, 1) := by decide +kernel
theorem dX8_open_47 : decode prog_7_method_26_code 47 = .ok (.putfield 182, 3) := by decide +kernel
theorem dX8_open_50 : decode prog_7_method_26_code 50 = .ok (.aload_n 0, 1) := by decide +kernel
theorem dX8_open_51 : decode prog_7_method_26_code 51 = .ok (.iconst 0, 1) := by decide +kernel
theorem dX8_open_52 : decode prog_7_method_26_code 52 = .ok (.putfield 185, 3) := by decide +kernel
theorem dX8_open_55 : decode prog_7_method_26_code 55 = .ok (.aload_n 0, 1) := by decide +kernel
theorem dX8_open_56 : decode prog_7_method_26_code 56 = .ok (.getfield 26, 3) := by decide +kernel
theorem dX8_open_59 : decode prog_7_method_26_code 59 = .ok (.invokevirtual 36, 3) := by decide +kernel
theorem dX8_open_62 : decode prog_7_method_26_code 62 = .ok (.ireturn, 1) := by decide +kernel
theorem dL_take_0 : decode method_11_code 0 = .ok (.aload 4, 2) := by decide +kernel
theorem dL_take_2 : decode method_11_code 2 = .ok (.iconst 0, 1) := by decide +kernel
theorem dL_take_3 : decode method_11_code 3 = .ok (.aload_n 0, 1) := by decide +kernel
theorem dL_take_4 : decode method_11_code 4 = .ok (.iload_n 1, 1) := by decide +kernel
theorem dL_take_5 : decode method_11_code 5 = .ok (.iload_n 2, 1) := by decide +kernel
theorem dL_take_6 : decode method_11_code 6 = .ok (.iload_n 3, 1) := by decide +kernel
theorem dL_take_7 : decode method_11_code 7 = .ok (.invokevirtual 44, 3) := by decide +kernel
theorem dL_take_15 : decode method_11_code 15 = .ok (.astore 5, 2) := by decide +kernel
theorem dL_take_17 : decode method_11_code 17 = .ok (.iconst 1, 1) := by decide +kernel
theorem dL_take_18 : decode method_11_code 18 = .ok (.ireturn, 1) := by decide +kernel
theorem dL_take_19 : decode method_11_code 19 = .ok (.astore 5, 2) := by decide +kernel
theorem dL_take_21 : decode method_11_code 21 = .ok (.iconst 2, 1) := by decide +kernel
theorem dL_take_22 : decode method_11_code 22 = .ok (.ireturn, 1) := by decide +kernel
theorem dL_take_23 : decode method_11_code 23 = .ok (.astore 5, 2) := by decide +kernel
theorem dL_take_25 : decode method_11_code 25 = .ok (.iconst 3, 1) := by decide +kernel
theorem dL_take_26 : decode method_11_code 26 = .ok (.ireturn, 1) := by decide +kernel
theorem dX8_take_0 : decode prog_7_method_28_code 0 = .ok (.aload_n 0, 1) := by decide +kernel
theorem dX8_take_1 : decode prog_7_method_28_code 1 = .ok (.aload_n 0, 1) := by decide +kernel
theorem dX8_take_2 : decode prog_7_method_28_code 2 = .ok (.iload_n 1, 1) := by decide +kernel
theorem dX8_take_3 : decode prog_7_method_28_code 3 = .ok (.invokevirtual 44, 3) := by decide +kernel
theorem dX8_take_6 : decode prog_7_method_28_code 6 = .ok (.iconst 1, 1) := by decide +kernel
theorem dX8_take_7 : decode prog_7_method_28_code 7 = .ok (.invokevirtual 99, 3) := by decide +kernel
theorem dX8_take_10 : decode prog_7_method_28_code 10 = .ok (.ifCond .eq 5, 3) := by decide +kernel
theorem dX8_take_13 : decode prog_7_method_28_code 13 = .ok (.iconst 0, 1) := by decide +kernel
theorem dX8_take_14 : decode prog_7_method_28_code 14 = .ok (.ireturn, 1) := by decide +kernel
theorem dX8_take_15 : decode prog_7_method_28_code 15 = .ok (.aload_n 0, 1) := by decide +kernel
theorem dX8_take_16 : decode prog_7_method_28_code 16 = .ok (.getfield 23, 3) := by decide +kernel
theorem dX8_take_19 : decode prog_7_method_28_code 19 = .ok (.iload_n 1, 1) := by decide +kernel
theorem dX4_roundedUp_0 : decode prog_1_method_19_code 0 = .ok (.iload_n 1, 1) := by decide +kernel
theorem dX4_roundedUp_1 : decode prog_1_method_19_code 1 = .ok (.iconst 1, 1) := by decide +kernel
theorem dX4_roundedUp_2 : decode prog_1_method_19_code 2 = .ok (.if_icmp .ge 7, 3) := by decide +kernel
theorem dX4_roundedUp_5 : decode prog_1_method_19_code 5 = .ok (.iconst 0, 1) := by decide +kernel
theorem dX4_roundedUp_6 : decode prog_1_method_19_code 6 = .ok (.goto 10, 3) := by decide +kernel
theorem dX4_roundedUp_9 : decode prog_1_method_19_code 9 = .ok (.iload_n 0, 1) := by decide +kernel
theorem dX4_roundedUp_10 : decode prog_1_method_19_code 10 = .ok (.iload_n 1, 1) := by decide +kernel
theorem dX4_roundedUp_11 : decode prog_1_method_19_code 11 = .ok (.iadd, 1) := by decide +kernel
theorem dX4_roundedUp_12 : decode prog_1_method_19_code 12 = .ok (.iconst 1, 1) := by decide +kernel
theorem dX4_roundedUp_13 : decode prog_1_method_19_code 13 = .ok (.isub, 1) := by decide +kernel
theorem dX4_roundedUp_14 : decode prog_1_method_19_code 14 = .ok (.iload_n 1, 1) := by decide +kernel
theorem dX4_roundedUp_15 : decode prog_1_method_19_code 15 = .ok (.idiv, 1) := by decide +kernel
theorem dX4_roundedUp_16 : decode prog_1_method_19_code 16 = .ok (.ireturn, 1) := by decide +kernel
theorem dX4_close_0 : decode prog_1_method_18_code 0 = .ok (.aload_n 0, 1) := by decide +kernel
theorem dX4_close_1 : decode prog_1_method_18_code 1 = .ok (.getfield 172, 3) := by decide +kernel
theorem dX4_close_4 : decode prog_1_method_18_code 4 = .ok (.ifCond .ne 13, 3) := by decide +kernel
theorem dX4_close_7 : decode prog_1_method_18_code 7 = .ok (.new 55, 3) := by decide +kernel
theorem dX4_close_10 : decode prog_1_method_18_code 10 = .ok (.dup, 1) := by decide +kernel
theorem dX4_close_11 : decode prog_1_method_18_code 11 = .ok (.ldc 203, 2) := by decide +kernel
theorem dX4_close_13 : decode prog_1_method_18_code 13 = .ok (.invokespecial 59, 3) := by decide +kernel
theorem dX4_close_16 : decode prog_1_method_18_code 16 = .ok (.athrow, 1) := by decide +kernel
theorem dX4_close_17 : decode prog_1_method_18_code 17 = .ok (.aload_n 0, 1) := by decide +kernel
theorem dX4_close_18 : decode prog_1_method_18_code 18 = .ok (.getfield 193, 3) := by decide +kernel
theorem dX4_close_21 : decode prog_1_method_18_code 21 = .ok (.bipush 15, 2) := by decide +kernel
theorem dX4_close_23 : decode prog_1_method_18_code 23 = .ok (.invokestatic 190, 3) := by decide +kernel
theorem dX4_close_26 : decode prog_1_method_18_code 26 = .ok (.istore_n 1, 1) := by decide +kernel
theorem dX4_close_27 : decode prog_1_method_18_code 27 = .ok (.iload_n 1, 1) := by decide +kernel
theorem dX4_close_28 : decode prog_1_method_18_code 28 = .ok (.iconst 4, 1) := by decide +kernel
theorem dX4_close_29 : decode prog_1_method_18_code 29 = .ok (.invokestatic 205, 3) := by decide +kernel
theorem dX4_close_32 : decode prog_1_method_18_code 32 = .ok (.istore_n 2, 1) := by decide +kernel
theorem dX4_close_33 : decode prog_1_method_18_code 33 = .ok (.aload_n 0, 1) := by decide +kernel
theorem dX4_close_34 : decode prog_1_method_18_code 34 = .ok (.getfield 172, 3) := by decide +kernel
theorem dX4_close_37 : decode prog_1_method_18_code 37 = .ok (.iload_n 2, 1) := by decide +kernel
theorem dX4_close_38 : decode prog_1_method_18_code 38 = .ok (.iconst 4, 1) := by decide +kernel
theorem dX4_close_39 : decode prog_1_method_18_code 39 = .ok (.imul, 1) := by decide +kernel
theorem dX4_close_40 : decode prog_1_method_18_code 40 = .ok (.iload_n 1, 1) := by decide +kernel
theorem dX4_close_41 : decode prog_1_method_18_code 41 = .ok (.iload_n 2, 1) := by decide +kernel
theorem dX4_close_42 : decode prog_1_method_18_code 42 = .ok (.isub, 1) := by decide +kernel
theorem dX4_close_43 : decode prog_1_method_18_code 43 = .ok (.bipush 6, 2) := by decide +kernel
theorem dX4_close_45 : decode prog_1_method_18_code 45 = .ok (.imul, 1) := by decide +kernel
theorem dX4_close_46 : decode prog_1_method_18_code 46 = .ok (.iadd, 1) := by decide +kernel
theorem dX4_close_47 : decode prog_1_method_18_code 47 = .ok (.imul, 1) := by decide +kernel
theorem dX4_close_48 : decode prog_1_method_18_code 48 = .ok (.istore_n 3, 1) := by decide +kernel
theorem dX4_close_49 : decode prog_1_method_18_code 49 = .ok (.aload_n 0, 1) := by decide +kernel
theorem dX4_close_50 : decode prog_1_method_18_code 50 = .ok (.dup, 1) := by decide +kernel
theorem dX4_close_51 : decode prog_1_method_18_code 51 = .ok (.getfield 210, 3) := by decide +kernel
theorem dX4_close_54 : decode prog_1_method_18_code 54 = .ok (.iload_n 3, 1) := by decide +kernel
theorem dX4_close_55 : decode prog_1_method_18_code 55 = .ok (.iadd, 1) := by decide +kernel
theorem dX4_close_56 : decode prog_1_method_18_code 56 = .ok (.putfield 210, 3) := by decide +kernel
theorem dX4_close_59 : decode prog_1_method_18_code 59 = .ok (.aload_n 0, 1) := by decide +kernel
theorem dX4_close_60 : decode prog_1_method_18_code 60 = .ok (.iconst 0, 1) := by decide +kernel
theorem dX4_close_61 : decode prog_1_method_18_code 61 = .ok (.putfield 172, 3) := by decide +kernel
theorem dX4_close_64 : decode prog_1_method_18_code 64 = .ok (.aload_n 0, 1) := by decide +kernel
theorem dX4_close_65 : decode prog_1_method_18_code 65 = .ok (.iconst 0, 1) := by decide +kernel
theorem dX4_close_66 : decode prog_1_method_18_code 66 = .ok (.putfield 193, 3) := by decide +kernel
theorem dX4_close_69 : decode prog_1_method_18_code 69 = .ok (.iload_n 3, 1) := by decide +kernel
theorem dX4_close_70 : decode prog_1_method_18_code 70 = .ok (.ireturn, 1) := by decide +kernel
theorem dL_close_0 : decode method_12_code 0 = .ok (.aload_n 1, 1) := by decide +kernel
theorem dL_close_1 : decode method_12_code 1 = .ok (.iconst 0, 1) := by decide +kernel
theorem dL_close_2 : decode method_12_code 2 = .ok (.aload_n 0, 1) := by decide +kernel
theorem dL_close_3 : decode method_12_code 3 = .ok (.invokevirtual 47, 3) := by decide +kernel
theorem dL_close_6 : decode method_12_code 6 = .ok (.i2l, 1) := by decide +kernel
theorem dL_close_7 : decode method_12_code 7 = .ok (.lastore, 1) := by decide +kernel
theorem dL_close_8 : decode method_12_code 8 = .ok (.goto 6, 3) := by decide +kernel
theorem dL_close_11 : decode method_12_code 11 = .ok (.astore_n 2, 1) := by decide +kernel
theorem dL_close_12 : decode method_12_code 12 = .ok (.iconst 1, 1) := by decide +kernel
theorem dL_close_13 : decode method_12_code 13 = .ok (.ireturn, 1) := by decide +kernel
theorem dL_close_14 : decode method_12_code 14 = .ok (.iconst 0, 1) := by decide +kernel
theorem dL_close_15 : decode method_12_code 15 = .ok (.ireturn, 1) := by decide +kernel
theorem dX8_up_0 : decode prog_7_method_2_code 0 = .ok (.iload_n 0, 1) := by decide +kernel
theorem dX8_up_1 : decode prog_7_method_2_code 1 = .ok (.iload_n 1, 1) := by decide +kernel
theorem dX8_up_2 : decode prog_7_method_2_code 2 = .ok (.iadd, 1) := by decide +kernel
theorem dX8_up_3 : decode prog_7_method_2_code 3 = .ok (.iconst 1, 1) := by decide +kernel
theorem dX8_up_4 : decode prog_7_method_2_code 4 = .ok (.isub, 1) := by decide +kernel
theorem dX8_up_5 : decode prog_7_method_2_code 5 = .ok (.iload_n 1, 1) := by decide +kernel
theorem dX8_up_6 : decode prog_7_method_2_code 6 = .ok (.idiv, 1) := by decide +kernel
theorem dX8_up_7 : decode prog_7_method_2_code 7 = .ok (.ireturn, 1) := by decide +kernel
theorem dX8_close_0 : decode prog_7_method_29_code 0 = .ok (.aload_n 0, 1) := by decide +kernel
theorem dX8_close_1 : decode prog_7_method_29_code 1 = .ok (.aload_n 0, 1) := by decide +kernel
theorem dX8_close_2 : decode prog_7_method_29_code 2 = .ok (.getfield 182, 3) := by decide +kernel
theorem dX8_close_5 : decode prog_7_method_29_code 5 = .ok (.ifCond .ne 7, 3) := by decide +kernel
theorem dX8_close_8 : decode prog_7_method_29_code 8 = .ok (.iconst 1, 1) := by decide +kernel
theorem dX8_close_9 : decode prog_7_method_29_code 9 = .ok (.goto 4, 3) := by decide +kernel
theorem dX8_close_12 : decode prog_7_method_29_code 12 = .ok (.iconst 0, 1) := by decide +kernel
theorem dX8_close_13 : decode prog_7_method_29_code 13 = .ok (.iconst 1, 1) := by decide +kernel
theorem dX8_close_14 : decode prog_7_method_29_code 14 = .ok (.invokevirtual 99, 3) := by decide +kernel
theorem dX8_close_17 : decode prog_7_method_29_code 17 = .ok (.ifCond .eq 5, 3) := by decide +kernel
theorem dX8_close_20 : decode prog_7_method_29_code 20 = .ok (.iconst 0, 1) := by decide +kernel
theorem dX8_close_21 : decode prog_7_method_29_code 21 = .ok (.ireturn, 1) := by decide +kernel
theorem dX8_close_22 : decode prog_7_method_29_code 22 = .ok (.aload_n 0, 1) := by decide +kernel
theorem dX8_close_23 : decode prog_7_method_29_code 23 = .ok (.getfield 185, 3) := by decide +kernel
theorem dX8_close_26 : decode prog_7_method_29_code 26 = .ok (.bipush 15, 2) := by decide +kernel
theorem dX8_close_28 : decode prog_7_method_29_code 28 = .ok (.invokestatic 192, 3) := by decide +kernel
theorem dX8_close_31 : decode prog_7_method_29_code 31 = .ok (.istore_n 1, 1) := by decide +kernel
theorem dX8_close_32 : decode prog_7_method_29_code 32 = .ok (.aload_n 0, 1) := by decide +kernel
theorem dX8_close_33 : decode prog_7_method_29_code 33 = .ok (.getfield 182, 3) := by decide +kernel
theorem dX8_close_36 : decode prog_7_method_29_code 36 = .ok (.iconst 4, 1) := by decide +kernel
theorem dX8_close_37 : decode prog_7_method_29_code 37 = .ok (.iconst 4, 1) := by decide +kernel
theorem dX8_close_38 : decode prog_7_method_29_code 38 = .ok (.iload_n 1, 1) := by decide +kernel
theorem dX8_close_39 : decode prog_7_method_29_code 39 = .ok (.invokestatic 207, 3) := by decide +kernel
theorem dX8_close_42 : decode prog_7_method_29_code 42 = .ok (.imul, 1) := by decide +kernel
theorem dX8_close_43 : decode prog_7_method_29_code 43 = .ok (.bipush 6, 2) := by decide +kernel
theorem dX8_close_45 : decode prog_7_method_29_code 45 = .ok (.iconst 0, 1) := by decide +kernel
theorem dX8_close_46 : decode prog_7_method_29_code 46 = .ok (.iload_n 1, 1) := by decide +kernel
theorem dX8_close_47 : decode prog_7_method_29_code 47 = .ok (.iconst 4, 1) := by decide +kernel
theorem dX8_close_48 : decode prog_7_method_29_code 48 = .ok (.isub, 1) := by decide +kernel
theorem dX8_close_49 : decode prog_7_method_29_code 49 = .ok (.invokestatic 115, 3) := by decide +kernel
theorem dX8_close_52 : decode prog_7_method_29_code 52 = .ok (.imul, 1) := by decide +kernel
theorem dX8_close_53 : decode prog_7_method_29_code 53 = .ok (.iadd, 1) := by decide +kernel
theorem dX8_close_54 : decode prog_7_method_29_code 54 = .ok (.imul, 1) := by decide +kernel
theorem dX8_close_55 : decode prog_7_method_29_code 55 = .ok (.istore_n 2, 1) := by decide +kernel
theorem dX8_close_56 : decode prog_7_method_29_code 56 = .ok (.aload_n 0, 1) := by decide +kernel
theorem dX8_close_57 : decode prog_7_method_29_code 57 = .ok (.dup, 1) := by decide +kernel
theorem dX8_close_58 : decode prog_7_method_29_code 58 = .ok (.getfield 210, 3) := by decide +kernel
theorem dX8_close_61 : decode prog_7_method_29_code 61 = .ok (.iload_n 2, 1) := by decide +kernel
theorem dX8_close_62 : decode prog_7_method_29_code 62 = .ok (.iadd, 1) := by decide +kernel
theorem dX8_close_63 : decode prog_7_method_29_code 63 = .ok (.putfield 210, 3) := by decide +kernel
theorem dX8_close_66 : decode prog_7_method_29_code 66 = .ok (.aload_n 0, 1) := by decide +kernel
theorem dX8_close_67 : decode prog_7_method_29_code 67 = .ok (.iconst 0, 1) := by decide +kernel
theorem dX8_close_68 : decode prog_7_method_29_code 68 = .ok (.putfield 182, 3) := by decide +kernel
theorem dX8_close_71 : decode prog_7_method_29_code 71 = .ok (.aload_n 0, 1) := by decide +kernel
theorem dX8_close_72 : decode prog_7_method_29_code 72 = .ok (.iconst 0, 1) := by decide +kernel
theorem dX8_close_73 : decode prog_7_method_29_code 73 = .ok (.putfield 185, 3) := by decide +kernel
theorem dX8_close_76 : decode prog_7_method_29_code 76 = .ok (.iload_n 2, 1) := by decide +kernel
theorem dX8_close_77 : decode prog_7_method_29_code 77 = .ok (.ireturn, 1) := by decide +kernel
theorem dL_ofHit_0 : decode method_13_code 0 = .ok (.aload_n 3, 1) := by decide +kernel
theorem dL_ofHit_1 : decode method_13_code 1 = .ok (.iconst 0, 1) := by decide +kernel
theorem dL_ofHit_2 : decode method_13_code 2 = .ok (.aload_n 0, 1) := by decide +kernel
theorem dL_ofHit_3 : decode method_13_code 3 = .ok (.iload_n 1, 1) := by decide +kernel
theorem dL_ofHit_4 : decode method_13_code 4 = .ok (.iload_n 2, 1) := by decide +kernel
theorem dL_ofHit_5 : decode method_13_code 5 = .ok (.invokevirtual 51, 3) := by decide +kernel
theorem dL_ofHit_13 : decode method_13_code 13 = .ok (.astore 4, 2) := by decide +kernel
theorem dL_ofHit_15 : decode method_13_code 15 = .ok (.iconst 1, 1) := by decide +kernel
theorem dL_ofHit_16 : decode method_13_code 16 = .ok (.ireturn, 1) := by decide +kernel
theorem dL_ofHit_17 : decode method_13_code 17 = .ok (.astore 4, 2) := by decide +kernel
theorem dL_ofHit_19 : decode method_13_code 19 = .ok (.iconst 2, 1) := by decide +kernel
theorem dL_ofHit_20 : decode method_13_code 20 = .ok (.ireturn, 1) := by decide +kernel
theorem dX8_beats_0 : decode prog_7_method_11_code 0 = .ok (.aload_n 0, 1) := by decide +kernel
theorem dX8_beats_1 : decode prog_7_method_11_code 1 = .ok (.getfield 23, 3) := by decide +kernel
theorem dX8_beats_4 : decode prog_7_method_11_code 4 = .ok (.invokevirtual 36, 3) := by decide +kernel
theorem dX8_beats_7 : decode prog_7_method_11_code 7 = .ok (.anewarray 63, 3) := by decide +kernel
theorem dX8_beats_10 : decode prog_7_method_11_code 10 = .ok (.astore_n 1, 1) := by decide +kernel
theorem dX8_beats_11 : decode prog_7_method_11_code 11 = .ok (.iconst 0, 1) := by decide +kernel
theorem dX8_beats_12 : decode prog_7_method_11_code 12 = .ok (.istore_n 2, 1) := by decide +kernel
theorem dX8_beats_13 : decode prog_7_method_11_code 13 = .ok (.iload_n 2, 1) := by decide +kernel
theorem dX8_beats_14 : decode prog_7_method_11_code 14 = .ok (.aload_n 1, 1) := by decide +kernel
theorem dX8_beats_15 : decode prog_7_method_11_code 15 = .ok (.arraylength, 1) := by decide +kernel
theorem dX8_beats_16 : decode prog_7_method_11_code 16 = .ok (.if_icmp .ge 26, 3) := by decide +kernel
theorem dX8_beats_19 : decode prog_7_method_11_code 19 = .ok (.aload_n 1, 1) := by decide +kernel
theorem dX8_beats_20 : decode prog_7_method_11_code 20 = .ok (.iload_n 2, 1) := by decide +kernel
theorem dX8_beats_21 : decode prog_7_method_11_code 21 = .ok (.aload_n 0, 1) := by decide +kernel
theorem dX8_beats_22 : decode prog_7_method_11_code 22 = .ok (.getfield 23, 3) := by decide +kernel
theorem dX8_beats_25 : decode prog_7_method_11_code 25 = .ok (.iload_n 2, 1) := by decide +kernel
theorem dX8_beats_42 : decode prog_7_method_11_code 42 = .ok (.aload_n 1, 1) := by decide +kernel
theorem dX8_beats_43 : decode prog_7_method_11_code 43 = .ok (.areturn, 1) := by decide +kernel
theorem dX8_ofHit_0 : decode prog_7_method_42_code 0 = .ok (.aload_n 0, 1) := by decide +kernel
theorem dX8_ofHit_1 : decode prog_7_method_42_code 1 = .ok (.iload_n 1, 1) := by decide +kernel
theorem dX8_ofHit_2 : decode prog_7_method_42_code 2 = .ok (.iconst 0, 1) := by decide +kernel
theorem dX8_ofHit_3 : decode prog_7_method_42_code 3 = .ok (.aload_n 0, 1) := by decide +kernel
theorem dX8_ofHit_4 : decode prog_7_method_42_code 4 = .ok (.getfield 16, 3) := by decide +kernel
theorem dX8_ofHit_7 : decode prog_7_method_42_code 7 = .ok (.invokevirtual 36, 3) := by decide +kernel
theorem dX8_ofHit_10 : decode prog_7_method_42_code 10 = .ok (.iconst 1, 1) := by decide +kernel
theorem dX8_ofHit_11 : decode prog_7_method_42_code 11 = .ok (.isub, 1) := by decide +kernel
theorem dX8_ofHit_12 : decode prog_7_method_42_code 12 = .ok (.invokestatic 40, 3) := by decide +kernel
theorem dX8_ofHit_15 : decode prog_7_method_42_code 15 = .ok (.ifCond .ne 7, 3) := by decide +kernel
theorem dX8_ofHit_18 : decode prog_7_method_42_code 18 = .ok (.iconst 1, 1) := by decide +kernel
theorem dX8_ofHit_19 : decode prog_7_method_42_code 19 = .ok (.goto 4, 3) := by decide +kernel
theorem dX8_ofHit_22 : decode prog_7_method_42_code 22 = .ok (.iconst 0, 1) := by decide +kernel
theorem dX8_ofHit_23 : decode prog_7_method_42_code 23 = .ok (.iconst 1, 1) := by decide +kernel
theorem dX8_ofHit_24 : decode prog_7_method_42_code 24 = .ok (.invokevirtual 99, 3) := by decide +kernel
theorem dX8_ofHit_27 : decode prog_7_method_42_code 27 = .ok (.ifCond .ne 26, 3) := by decide +kernel
theorem dX8_ofHit_30 : decode prog_7_method_42_code 30 = .ok (.aload_n 0, 1) := by decide +kernel
theorem dX8_ofHit_31 : decode prog_7_method_42_code 31 = .ok (.iload_n 2, 1) := by decide +kernel
theorem dX8_ofHit_32 : decode prog_7_method_42_code 32 = .ok (.iconst 0, 1) := by decide +kernel
theorem dX8_ofHit_33 : decode prog_7_method_42_code 33 = .ok (.bipush 6, 2) := by decide +kernel
theorem dX8_ofHit_35 : decode prog_7_method_42_code 35 = .ok (.invokestatic 40, 3) := by decide +kernel
theorem dX8_ofHit_38 : decode prog_7_method_42_code 38 = .ok (.ifCond .ne 7, 3) := by decide +kernel
theorem dX8_ofHit_41 : decode prog_7_method_42_code 41 = .ok (.iconst 1, 1) := by decide +kernel
theorem dX8_ofHit_42 : decode prog_7_method_42_code 42 = .ok (.goto 4, 3) := by decide +kernel
theorem dX8_ofHit_45 : decode prog_7_method_42_code 45 = .ok (.iconst 0, 1) := by decide +kernel
theorem dX8_ofHit_46 : decode prog_7_method_42_code 46 = .ok (.iconst 2, 1) := by decide +kernel
theorem dX8_ofHit_47 : decode prog_7_method_42_code 47 = .ok (.invokevirtual 32, 3) := by decide +kernel
theorem dX8_ofHit_50 : decode prog_7_method_42_code 50 = .ok (.ifCond .eq 7, 3) := by decide +kernel
theorem dX8_ofHit_53 : decode prog_7_method_42_code 53 = .ok (.iconst 0, 1) := by decide +kernel
theorem dX8_ofHit_54 : decode prog_7_method_42_code 54 = .ok (.goto 13, 3) := by decide +kernel
theorem dX8_ofHit_57 : decode prog_7_method_42_code 57 = .ok (.aload_n 0, 1) := by decide +kernel
theorem dX8_ofHit_58 : decode prog_7_method_42_code 58 = .ok (.iload_n 1, 1) := by decide +kernel
theorem dX8_ofHit_59 : decode prog_7_method_42_code 59 = .ok (.iload_n 2, 1) := by decide +kernel
theorem dX8_ofHit_60 : decode prog_7_method_42_code 60 = .ok (.aload_n 0, 1) := by decide +kernel
theorem dX8_ofHit_61 : decode prog_7_method_42_code 61 = .ok (.invokevirtual 91, 3) := by decide +kernel
theorem dX8_ofHit_67 : decode prog_7_method_42_code 67 = .ok (.ireturn, 1) := by decide +kernel
theorem dL_ofCue_0 : decode method_14_code 0 = .ok (.aload_n 3, 1) := by decide +kernel
theorem dL_ofCue_1 : decode method_14_code 1 = .ok (.iconst 0, 1) := by decide +kernel
theorem dL_ofCue_2 : decode method_14_code 2 = .ok (.aload_n 0, 1) := by decide +kernel
theorem dL_ofCue_3 : decode method_14_code 3 = .ok (.iload_n 1, 1) := by decide +kernel
theorem dL_ofCue_4 : decode method_14_code 4 = .ok (.iload_n 2, 1) := by decide +kernel
theorem dL_ofCue_5 : decode method_14_code 5 = .ok (.invokevirtual 54, 3) := by decide +kernel
theorem dL_ofCue_13 : decode method_14_code 13 = .ok (.astore 4, 2) := by decide +kernel
theorem dL_ofCue_15 : decode method_14_code 15 = .ok (.iconst 1, 1) := by decide +kernel
theorem dL_ofCue_16 : decode method_14_code 16 = .ok (.ireturn, 1) := by decide +kernel
theorem dL_ofCue_17 : decode method_14_code 17 = .ok (.astore 4, 2) := by decide +kernel
theorem dL_ofCue_19 : decode method_14_code 19 = .ok (.iconst 2, 1) := by decide +kernel
theorem dL_ofCue_20 : decode method_14_code 20 = .ok (.ireturn, 1) := by decide +kernel
theorem dX8_ofCue_0 : decode prog_7_method_44_code 0 = .ok (.aload_n 0, 1) := by decide +kernel
theorem dX8_ofCue_1 : decode prog_7_method_44_code 1 = .ok (.aload_n 0, 1) := by decide +kernel
theorem dX8_ofCue_2 : decode prog_7_method_44_code 2 = .ok (.iload_n 1, 1) := by decide +kernel
theorem dX8_ofCue_3 : decode prog_7_method_44_code 3 = .ok (.invokevirtual 44, 3) := by decide +kernel
theorem dX8_ofCue_6 : decode prog_7_method_44_code 6 = .ok (.iconst 1, 1) := by decide +kernel
theorem dX8_ofCue_7 : decode prog_7_method_44_code 7 = .ok (.invokevirtual 99, 3) := by decide +kernel
theorem dX8_ofCue_10 : decode prog_7_method_44_code 10 = .ok (.ifCond .ne 26, 3) := by decide +kernel
theorem dX8_ofCue_13 : decode prog_7_method_44_code 13 = .ok (.aload_n 0, 1) := by decide +kernel
theorem dX8_ofCue_14 : decode prog_7_method_44_code 14 = .ok (.iload_n 2, 1) := by decide +kernel
theorem dX8_ofCue_15 : decode prog_7_method_44_code 15 = .ok (.iconst 0, 1) := by decide +kernel
theorem dX8_ofCue_16 : decode prog_7_method_44_code 16 = .ok (.bipush 12, 2) := by decide +kernel
theorem dX8_ofCue_18 : decode prog_7_method_44_code 18 = .ok (.invokestatic 40, 3) := by decide +kernel
theorem dX8_ofCue_21 : decode prog_7_method_44_code 21 = .ok (.ifCond .ne 7, 3) := by decide +kernel
theorem dX8_ofCue_24 : decode prog_7_method_44_code 24 = .ok (.iconst 1, 1) := by decide +kernel
theorem dX8_ofCue_25 : decode prog_7_method_44_code 25 = .ok (.goto 4, 3) := by decide +kernel
theorem dX8_ofCue_28 : decode prog_7_method_44_code 28 = .ok (.iconst 0, 1) := by decide +kernel
theorem dX8_ofCue_29 : decode prog_7_method_44_code 29 = .ok (.iconst 2, 1) := by decide +kernel
theorem dX8_ofCue_30 : decode prog_7_method_44_code 30 = .ok (.invokevirtual 32, 3) := by decide +kernel
theorem dX8_ofCue_33 : decode prog_7_method_44_code 33 = .ok (.ifCond .eq 7, 3) := by decide +kernel
theorem dX8_ofCue_36 : decode prog_7_method_44_code 36 = .ok (.iconst 0, 1) := by decide +kernel
theorem dX8_ofCue_37 : decode prog_7_method_44_code 37 = .ok (.goto 9, 3) := by decide +kernel
theorem dX8_ofCue_40 : decode prog_7_method_44_code 40 = .ok (.aload_n 0, 1) := by decide +kernel
theorem dX8_ofCue_41 : decode prog_7_method_44_code 41 = .ok (.iload_n 1, 1) := by decide +kernel
theorem dX8_ofCue_42 : decode prog_7_method_44_code 42 = .ok (.iload_n 2, 1) := by decide +kernel
theorem dX8_ofCue_46 : decode prog_7_method_44_code 46 = .ok (.ireturn, 1) := by decide +kernel
theorem dL_ofBar_0 : decode method_15_code 0 = .ok (.aload 4, 2) := by decide +kernel
theorem dL_ofBar_2 : decode method_15_code 2 = .ok (.iconst 0, 1) := by decide +kernel
theorem dL_ofBar_3 : decode method_15_code 3 = .ok (.aload_n 0, 1) := by decide +kernel
theorem dL_ofBar_4 : decode method_15_code 4 = .ok (.iload_n 1, 1) := by decide +kernel
theorem dL_ofBar_5 : decode method_15_code 5 = .ok (.iload_n 2, 1) := by decide +kernel
theorem dL_ofBar_6 : decode method_15_code 6 = .ok (.iload_n 3, 1) := by decide +kernel
theorem dL_ofBar_7 : decode method_15_code 7 = .ok (.invokevirtual 57, 3) := by decide +kernel
theorem dL_ofBar_15 : decode method_15_code 15 = .ok (.astore 5, 2) := by decide +kernel
theorem dL_ofBar_17 : decode method_15_code 17 = .ok (.iconst 1, 1) := by decide +kernel
theorem dL_ofBar_18 : decode method_15_code 18 = .ok (.ireturn, 1) := by decide +kernel
theorem dL_ofBar_19 : decode method_15_code 19 = .ok (.astore 5, 2) := by decide +kernel
theorem dL_ofBar_21 : decode method_15_code 21 = .ok (.iconst 2, 1) := by decide +kernel
theorem dL_ofBar_22 : decode method_15_code 22 = .ok (.ireturn, 1) := by decide +kernel
theorem dX8_ofBar_0 : decode prog_7_method_46_code 0 = .ok (.aload_n 0, 1) := by decide +kernel
theorem dX8_ofBar_1 : decode prog_7_method_46_code 1 = .ok (.aload_n 0, 1) := by decide +kernel
theorem dX8_ofBar_2 : decode prog_7_method_46_code 2 = .ok (.iload_n 1, 1) := by decide +kernel
theorem dX8_ofBar_3 : decode prog_7_method_46_code 3 = .ok (.iload_n 2, 1) := by decide +kernel
theorem dX8_ofBar_4 : decode prog_7_method_46_code 4 = .ok (.invokevirtual 174, 3) := by decide +kernel
theorem dX8_ofBar_7 : decode prog_7_method_46_code 7 = .ok (.iconst 1, 1) := by decide +kernel
theorem dX8_ofBar_8 : decode prog_7_method_46_code 8 = .ok (.invokevirtual 99, 3) := by decide +kernel
theorem dX8_ofBar_11 : decode prog_7_method_46_code 11 = .ok (.ifCond .ne 25, 3) := by decide +kernel
theorem dX8_ofBar_14 : decode prog_7_method_46_code 14 = .ok (.aload_n 0, 1) := by decide +kernel
theorem dX8_ofBar_15 : decode prog_7_method_46_code 15 = .ok (.iload_n 3, 1) := by decide +kernel
theorem dX8_ofBar_16 : decode prog_7_method_46_code 16 = .ok (.iconst 0, 1) := by decide +kernel
theorem dX8_ofBar_17 : decode prog_7_method_46_code 17 = .ok (.iconst 3, 1) := by decide +kernel
theorem dX8_ofBar_18 : decode prog_7_method_46_code 18 = .ok (.invokestatic 40, 3) := by decide +kernel
theorem dX8_ofBar_21 : decode prog_7_method_46_code 21 = .ok (.ifCond .ne 7, 3) := by decide +kernel
theorem dX8_ofBar_24 : decode prog_7_method_46_code 24 = .ok (.iconst 1, 1) := by decide +kernel
theorem dX8_ofBar_25 : decode prog_7_method_46_code 25 = .ok (.goto 4, 3) := by decide +kernel
theorem dX8_ofBar_28 : decode prog_7_method_46_code 28 = .ok (.iconst 0, 1) := by decide +kernel
theorem dX8_ofBar_29 : decode prog_7_method_46_code 29 = .ok (.iconst 2, 1) := by decide +kernel
theorem dX8_ofBar_30 : decode prog_7_method_46_code 30 = .ok (.invokevirtual 32, 3) := by decide +kernel
theorem dX8_ofBar_33 : decode prog_7_method_46_code 33 = .ok (.ifCond .eq 7, 3) := by decide +kernel
theorem dX8_ofBar_36 : decode prog_7_method_46_code 36 = .ok (.iconst 0, 1) := by decide +kernel
theorem dX8_ofBar_37 : decode prog_7_method_46_code 37 = .ok (.goto 10, 3) := by decide +kernel
theorem dX8_ofBar_40 : decode prog_7_method_46_code 40 = .ok (.aload_n 0, 1) := by decide +kernel
theorem dX8_ofBar_41 : decode prog_7_method_46_code 41 = .ok (.iload_n 1, 1) := by decide +kernel
theorem dX8_ofBar_42 : decode prog_7_method_46_code 42 = .ok (.iload_n 2, 1) := by decide +kernel
theorem dX8_ofBar_43 : decode prog_7_method_46_code 43 = .ok (.iload_n 3, 1) := by decide +kernel
theorem dX8_ofBar_47 : decode prog_7_method_46_code 47 = .ok (.ireturn, 1) := by decide +kernel
theorem dL_beat_0 : decode method_16_code 0 = .ok (.aload_n 3, 1) := by decide +kernel
theorem dL_beat_1 : decode method_16_code 1 = .ok (.iconst 0, 1) := by decide +kernel
theorem dL_beat_2 : decode method_16_code 2 = .ok (.aload_n 0, 1) := by decide +kernel
theorem dL_beat_3 : decode method_16_code 3 = .ok (.iload_n 1, 1) := by decide +kernel
theorem dL_beat_4 : decode method_16_code 4 = .ok (.iload_n 2, 1) := by decide +kernel
theorem dL_beat_5 : decode method_16_code 5 = .ok (.invokevirtual 60, 3) := by decide +kernel
theorem dL_beat_13 : decode method_16_code 13 = .ok (.astore 4, 2) := by decide +kernel
theorem dL_beat_15 : decode method_16_code 15 = .ok (.iconst 1, 1) := by decide +kernel
theorem dL_beat_16 : decode method_16_code 16 = .ok (.ireturn, 1) := by decide +kernel
theorem dX8_beat_0 : decode prog_7_method_47_code 0 = .ok (.aload_n 0, 1) := by decide +kernel
theorem dX8_beat_1 : decode prog_7_method_47_code 1 = .ok (.aload_n 0, 1) := by decide +kernel
theorem dX8_beat_2 : decode prog_7_method_47_code 2 = .ok (.iload_n 1, 1) := by decide +kernel
theorem dX8_beat_3 : decode prog_7_method_47_code 3 = .ok (.invokevirtual 44, 3) := by decide +kernel
theorem dX8_beat_6 : decode prog_7_method_47_code 6 = .ok (.ifCond .ne 27, 3) := by decide +kernel
theorem dX8_beat_9 : decode prog_7_method_47_code 9 = .ok (.iload_n 2, 1) := by decide +kernel
theorem dX8_beat_10 : decode prog_7_method_47_code 10 = .ok (.iconst 0, 1) := by decide +kernel
theorem dX8_beat_11 : decode prog_7_method_47_code 11 = .ok (.aload_n 0, 1) := by decide +kernel
theorem dX8_beat_12 : decode prog_7_method_47_code 12 = .ok (.getfield 23, 3) := by decide +kernel
theorem dX8_beat_15 : decode prog_7_method_47_code 15 = .ok (.iload_n 1, 1) := by decide +kernel
theorem dX8_beat_33 : decode prog_7_method_47_code 33 = .ok (.iconst 1, 1) := by decide +kernel
theorem dX8_beat_34 : decode prog_7_method_47_code 34 = .ok (.goto 4, 3) := by decide +kernel
theorem dX8_beat_38 : decode prog_7_method_47_code 38 = .ok (.iconst 1, 1) := by decide +kernel
theorem dX8_beat_39 : decode prog_7_method_47_code 39 = .ok (.invokevirtual 99, 3) := by decide +kernel
theorem dX8_beat_42 : decode prog_7_method_47_code 42 = .ok (.ifCond .eq 7, 3) := by decide +kernel
theorem dX8_beat_45 : decode prog_7_method_47_code 45 = .ok (.iconst 0, 1) := by decide +kernel
theorem dX8_beat_46 : decode prog_7_method_47_code 46 = .ok (.goto 19, 3) := by decide +kernel
theorem dX8_beat_49 : decode prog_7_method_47_code 49 = .ok (.aload_n 0, 1) := by decide +kernel
theorem dX8_beat_50 : decode prog_7_method_47_code 50 = .ok (.getfield 23, 3) := by decide +kernel
theorem dX8_beat_53 : decode prog_7_method_47_code 53 = .ok (.iload_n 1, 1) := by decide +kernel
theorem dX8_beat_65 : decode prog_7_method_47_code 65 = .ok (.ireturn, 1) := by decide +kernel
theorem dL_ofTake_0 : decode method_17_code 0 = .ok (.aload_n 3, 1) := by decide +kernel
theorem dL_ofTake_1 : decode method_17_code 1 = .ok (.iconst 0, 1) := by decide +kernel
theorem dL_ofTake_2 : decode method_17_code 2 = .ok (.aload_n 0, 1) := by decide +kernel
theorem dL_ofTake_3 : decode method_17_code 3 = .ok (.iload_n 1, 1) := by decide +kernel
theorem dL_ofTake_4 : decode method_17_code 4 = .ok (.iload_n 2, 1) := by decide +kernel
theorem dL_ofTake_5 : decode method_17_code 5 = .ok (.invokevirtual 63, 3) := by decide +kernel
theorem dL_ofTake_13 : decode method_17_code 13 = .ok (.astore 4, 2) := by decide +kernel
theorem dL_ofTake_15 : decode method_17_code 15 = .ok (.iconst 1, 1) := by decide +kernel
theorem dL_ofTake_16 : decode method_17_code 16 = .ok (.ireturn, 1) := by decide +kernel
theorem dL_ofTake_17 : decode method_17_code 17 = .ok (.astore 4, 2) := by decide +kernel
theorem dL_ofTake_19 : decode method_17_code 19 = .ok (.iconst 2, 1) := by decide +kernel
theorem dL_ofTake_20 : decode method_17_code 20 = .ok (.ireturn, 1) := by decide +kernel
theorem dX8_ofTake_0 : decode prog_7_method_49_code 0 = .ok (.aload_n 0, 1) := by decide +kernel
theorem dX8_ofTake_1 : decode prog_7_method_49_code 1 = .ok (.iload_n 1, 1) := by decide +kernel
theorem dX8_ofTake_2 : decode prog_7_method_49_code 2 = .ok (.iconst 0, 1) := by decide +kernel
theorem dX8_ofTake_3 : decode prog_7_method_49_code 3 = .ok (.aload_n 0, 1) := by decide +kernel
theorem dX8_ofTake_4 : decode prog_7_method_49_code 4 = .ok (.getfield 26, 3) := by decide +kernel
theorem dX8_ofTake_7 : decode prog_7_method_49_code 7 = .ok (.invokevirtual 36, 3) := by decide +kernel
theorem dX8_ofTake_10 : decode prog_7_method_49_code 10 = .ok (.iconst 1, 1) := by decide +kernel
theorem dX8_ofTake_11 : decode prog_7_method_49_code 11 = .ok (.isub, 1) := by decide +kernel
theorem dX8_ofTake_12 : decode prog_7_method_49_code 12 = .ok (.invokestatic 40, 3) := by decide +kernel
theorem dX8_ofTake_15 : decode prog_7_method_49_code 15 = .ok (.ifCond .ne 7, 3) := by decide +kernel
theorem dX8_ofTake_18 : decode prog_7_method_49_code 18 = .ok (.iconst 1, 1) := by decide +kernel
theorem dX8_ofTake_19 : decode prog_7_method_49_code 19 = .ok (.goto 4, 3) := by decide +kernel
theorem dX8_ofTake_22 : decode prog_7_method_49_code 22 = .ok (.iconst 0, 1) := by decide +kernel
theorem dX8_ofTake_23 : decode prog_7_method_49_code 23 = .ok (.iconst 1, 1) := by decide +kernel
theorem dX8_ofTake_24 : decode prog_7_method_49_code 24 = .ok (.invokevirtual 99, 3) := by decide +kernel
theorem dX8_ofTake_27 : decode prog_7_method_49_code 27 = .ok (.ifCond .ne 25, 3) := by decide +kernel
theorem dX8_ofTake_30 : decode prog_7_method_49_code 30 = .ok (.aload_n 0, 1) := by decide +kernel
theorem dX8_ofTake_31 : decode prog_7_method_49_code 31 = .ok (.iload_n 2, 1) := by decide +kernel
theorem dX8_ofTake_32 : decode prog_7_method_49_code 32 = .ok (.iconst 0, 1) := by decide +kernel
theorem dX8_ofTake_33 : decode prog_7_method_49_code 33 = .ok (.iconst 4, 1) := by decide +kernel
theorem dX8_ofTake_34 : decode prog_7_method_49_code 34 = .ok (.invokestatic 40, 3) := by decide +kernel
theorem dX8_ofTake_37 : decode prog_7_method_49_code 37 = .ok (.ifCond .ne 7, 3) := by decide +kernel
theorem dX8_ofTake_40 : decode prog_7_method_49_code 40 = .ok (.iconst 1, 1) := by decide +kernel
theorem dX8_ofTake_41 : decode prog_7_method_49_code 41 = .ok (.goto 4, 3) := by decide +kernel
theorem dX8_ofTake_44 : decode prog_7_method_49_code 44 = .ok (.iconst 0, 1) := by decide +kernel
theorem dX8_ofTake_45 : decode prog_7_method_49_code 45 = .ok (.iconst 2, 1) := by decide +kernel
theorem dX8_ofTake_46 : decode prog_7_method_49_code 46 = .ok (.invokevirtual 32, 3) := by decide +kernel
theorem dX8_ofTake_49 : decode prog_7_method_49_code 49 = .ok (.ifCond .eq 7, 3) := by decide +kernel
theorem dX8_ofTake_52 : decode prog_7_method_49_code 52 = .ok (.iconst 0, 1) := by decide +kernel
theorem dX8_ofTake_53 : decode prog_7_method_49_code 53 = .ok (.goto 9, 3) := by decide +kernel
theorem dX8_ofTake_56 : decode prog_7_method_49_code 56 = .ok (.aload_n 0, 1) := by decide +kernel
theorem dX8_ofTake_57 : decode prog_7_method_49_code 57 = .ok (.iload_n 1, 1) := by decide +kernel
theorem dX8_ofTake_58 : decode prog_7_method_49_code 58 = .ok (.iload_n 2, 1) := by decide +kernel
theorem dX8_ofTake_62 : decode prog_7_method_49_code 62 = .ok (.ireturn, 1) := by decide +kernel
theorem dX4_sheet_0 : decode prog_1_method_25_code 0 = .ok (.iload_n 1, 1) := by decide +kernel
theorem dX4_sheet_1 : decode prog_1_method_25_code 1 = .ok (.ifCond .lt 8, 3) := by decide +kernel
theorem dX4_sheet_4 : decode prog_1_method_25_code 4 = .ok (.iload_n 1, 1) := by decide +kernel
theorem dX4_sheet_5 : decode prog_1_method_25_code 5 = .ok (.iconst 4, 1) := by decide +kernel
theorem dX4_sheet_6 : decode prog_1_method_25_code 6 = .ok (.if_icmp .lt 14, 3) := by decide +kernel
theorem dX4_sheet_9 : decode prog_1_method_25_code 9 = .ok (.new 119, 3) := by decide +kernel
theorem dX4_sheet_12 : decode prog_1_method_25_code 12 = .ok (.dup, 1) := by decide +kernel
theorem dX4_sheet_13 : decode prog_1_method_25_code 13 = .ok (.ldc_w 305, 3) := by decide +kernel
theorem dX4_sheet_16 : decode prog_1_method_25_code 16 = .ok (.invokespecial 123, 3) := by decide +kernel
theorem dX4_sheet_19 : decode prog_1_method_25_code 19 = .ok (.athrow, 1) := by decide +kernel
theorem dX4_sheet_20 : decode prog_1_method_25_code 20 = .ok (.iconst 0, 1) := by decide +kernel
theorem dX4_sheet_21 : decode prog_1_method_25_code 21 = .ok (.istore_n 2, 1) := by decide +kernel
theorem dX4_sheet_22 : decode prog_1_method_25_code 22 = .ok (.iconst 0, 1) := by decide +kernel
theorem dX4_sheet_23 : decode prog_1_method_25_code 23 = .ok (.istore_n 3, 1) := by decide +kernel
theorem dX4_sheet_24 : decode prog_1_method_25_code 24 = .ok (.iload_n 3, 1) := by decide +kernel
theorem dX4_sheet_25 : decode prog_1_method_25_code 25 = .ok (.aload_n 0, 1) := by decide +kernel
theorem dX4_sheet_26 : decode prog_1_method_25_code 26 = .ok (.getfield 20, 3) := by decide +kernel
theorem dX4_sheet_29 : decode prog_1_method_25_code 29 = .ok (.invokevirtual 51, 3) := by decide +kernel
theorem dX4_sheet_32 : decode prog_1_method_25_code 32 = .ok (.if_icmp .ge 40, 3) := by decide +kernel
theorem dX4_sheet_35 : decode prog_1_method_25_code 35 = .ok (.aload_n 0, 1) := by decide +kernel
theorem dX4_sheet_36 : decode prog_1_method_25_code 36 = .ok (.getfield 20, 3) := by decide +kernel
theorem dX4_sheet_39 : decode prog_1_method_25_code 39 = .ok (.iload_n 3, 1) := by decide +kernel
theorem dX4_sheet_72 : decode prog_1_method_25_code 72 = .ok (.iload_n 2, 1) := by decide +kernel
theorem dX4_sheet_73 : decode prog_1_method_25_code 73 = .ok (.ireturn, 1) := by decide +kernel
theorem dL_sheet_0 : decode method_18_code 0 = .ok (.aload_n 2, 1) := by decide +kernel
theorem dL_sheet_1 : decode method_18_code 1 = .ok (.iconst 0, 1) := by decide +kernel
theorem dL_sheet_2 : decode method_18_code 2 = .ok (.aload_n 0, 1) := by decide +kernel
theorem dL_sheet_3 : decode method_18_code 3 = .ok (.iload_n 1, 1) := by decide +kernel
theorem dL_sheet_4 : decode method_18_code 4 = .ok (.invokevirtual 66, 3) := by decide +kernel
theorem dL_sheet_7 : decode method_18_code 7 = .ok (.i2l, 1) := by decide +kernel
theorem dL_sheet_8 : decode method_18_code 8 = .ok (.lastore, 1) := by decide +kernel
theorem dL_sheet_9 : decode method_18_code 9 = .ok (.goto 6, 3) := by decide +kernel
theorem dL_sheet_12 : decode method_18_code 12 = .ok (.astore_n 3, 1) := by decide +kernel
theorem dL_sheet_13 : decode method_18_code 13 = .ok (.iconst 1, 1) := by decide +kernel
theorem dL_sheet_14 : decode method_18_code 14 = .ok (.ireturn, 1) := by decide +kernel
theorem dL_sheet_15 : decode method_18_code 15 = .ok (.iconst 0, 1) := by decide +kernel
theorem dL_sheet_16 : decode method_18_code 16 = .ok (.ireturn, 1) := by decide +kernel
theorem dX8_sheetNow_0 : decode prog_7_method_39_code 0 = .ok (.iconst 0, 1) := by decide +kernel
theorem dX8_sheetNow_1 : decode prog_7_method_39_code 1 = .ok (.istore_n 2, 1) := by decide +kernel
theorem dX8_sheetNow_2 : decode prog_7_method_39_code 2 = .ok (.iconst 0, 1) := by decide +kernel
theorem dX8_sheetNow_3 : decode prog_7_method_39_code 3 = .ok (.istore_n 3, 1) := by decide +kernel
theorem dX8_sheetNow_4 : decode prog_7_method_39_code 4 = .ok (.iload_n 3, 1) := by decide +kernel
theorem dX8_sheetNow_5 : decode prog_7_method_39_code 5 = .ok (.aload_n 0, 1) := by decide +kernel
theorem dX8_sheetNow_6 : decode prog_7_method_39_code 6 = .ok (.getfield 23, 3) := by decide +kernel
theorem dX8_sheetNow_9 : decode prog_7_method_39_code 9 = .ok (.invokevirtual 36, 3) := by decide +kernel
theorem dX8_sheetNow_12 : decode prog_7_method_39_code 12 = .ok (.if_icmp .ge 54, 3) := by decide +kernel
theorem dX8_sheetNow_15 : decode prog_7_method_39_code 15 = .ok (.aload_n 0, 1) := by decide +kernel
theorem dX8_sheetNow_16 : decode prog_7_method_39_code 16 = .ok (.getfield 23, 3) := by decide +kernel
theorem dX8_sheetNow_19 : decode prog_7_method_39_code 19 = .ok (.iload_n 3, 1) := by decide +kernel
theorem dX8_sheetNow_66 : decode prog_7_method_39_code 66 = .ok (.iload_n 2, 1) := by decide +kernel
theorem dX8_sheetNow_67 : decode prog_7_method_39_code 67 = .ok (.ireturn, 1) := by decide +kernel
theorem dX8_sheet_0 : decode prog_7_method_50_code 0 = .ok (.aload_n 0, 1) := by decide +kernel
theorem dX8_sheet_1 : decode prog_7_method_50_code 1 = .ok (.iload_n 1, 1) := by decide +kernel
theorem dX8_sheet_2 : decode prog_7_method_50_code 2 = .ok (.iconst 0, 1) := by decide +kernel
theorem dX8_sheet_3 : decode prog_7_method_50_code 3 = .ok (.iconst 3, 1) := by decide +kernel
theorem dX8_sheet_4 : decode prog_7_method_50_code 4 = .ok (.invokestatic 40, 3) := by decide +kernel
theorem dX8_sheet_7 : decode prog_7_method_50_code 7 = .ok (.ifCond .ne 7, 3) := by decide +kernel
theorem dX8_sheet_10 : decode prog_7_method_50_code 10 = .ok (.iconst 1, 1) := by decide +kernel
theorem dX8_sheet_11 : decode prog_7_method_50_code 11 = .ok (.goto 4, 3) := by decide +kernel
theorem dX8_sheet_14 : decode prog_7_method_50_code 14 = .ok (.iconst 0, 1) := by decide +kernel
theorem dX8_sheet_15 : decode prog_7_method_50_code 15 = .ok (.iconst 1, 1) := by decide +kernel
theorem dX8_sheet_16 : decode prog_7_method_50_code 16 = .ok (.invokevirtual 99, 3) := by decide +kernel
theorem dX8_sheet_19 : decode prog_7_method_50_code 19 = .ok (.ifCond .eq 7, 3) := by decide +kernel
theorem dX8_sheet_22 : decode prog_7_method_50_code 22 = .ok (.iconst 0, 1) := by decide +kernel
theorem dX8_sheet_23 : decode prog_7_method_50_code 23 = .ok (.goto 8, 3) := by decide +kernel
theorem dX8_sheet_26 : decode prog_7_method_50_code 26 = .ok (.aload_n 0, 1) := by decide +kernel
theorem dX8_sheet_27 : decode prog_7_method_50_code 27 = .ok (.iload_n 1, 1) := by decide +kernel
theorem dX8_sheet_28 : decode prog_7_method_50_code 28 = .ok (.invokevirtual 281, 3) := by decide +kernel
theorem dX8_sheet_31 : decode prog_7_method_50_code 31 = .ok (.ireturn, 1) := by decide +kernel
theorem dX4_countGone_0 : decode prog_1_method_34_code 0 = .ok (.iconst 0, 1) := by decide +kernel
theorem dX4_countGone_1 : decode prog_1_method_34_code 1 = .ok (.istore_n 1, 1) := by decide +kernel
theorem dX4_countGone_2 : decode prog_1_method_34_code 2 = .ok (.iconst 0, 1) := by decide +kernel
theorem dX4_countGone_3 : decode prog_1_method_34_code 3 = .ok (.istore_n 2, 1) := by decide +kernel
theorem dX4_countGone_4 : decode prog_1_method_34_code 4 = .ok (.iload_n 2, 1) := by decide +kernel
theorem dX4_countGone_5 : decode prog_1_method_34_code 5 = .ok (.aload_n 0, 1) := by decide +kernel
theorem dX4_countGone_6 : decode prog_1_method_34_code 6 = .ok (.getfield 12, 3) := by decide +kernel
theorem dX4_countGone_9 : decode prog_1_method_34_code 9 = .ok (.invokevirtual 51, 3) := by decide +kernel
theorem dX4_countGone_12 : decode prog_1_method_34_code 12 = .ok (.if_icmp .ge 29, 3) := by decide +kernel
theorem dX4_countGone_15 : decode prog_1_method_34_code 15 = .ok (.aload_n 0, 1) := by decide +kernel
theorem dX4_countGone_16 : decode prog_1_method_34_code 16 = .ok (.getfield 12, 3) := by decide +kernel
theorem dX4_countGone_19 : decode prog_1_method_34_code 19 = .ok (.iload_n 2, 1) := by decide +kernel
theorem dX4_countGone_41 : decode prog_1_method_34_code 41 = .ok (.iload_n 1, 1) := by decide +kernel
theorem dX4_countGone_42 : decode prog_1_method_34_code 42 = .ok (.ireturn, 1) := by decide +kernel
theorem dX4_countMet_0 : decode prog_1_method_33_code 0 = .ok (.iconst 0, 1) := by decide +kernel
theorem dX4_countMet_1 : decode prog_1_method_33_code 1 = .ok (.istore_n 1, 1) := by decide +kernel
theorem dX4_countMet_2 : decode prog_1_method_33_code 2 = .ok (.iconst 0, 1) := by decide +kernel
theorem dX4_countMet_3 : decode prog_1_method_33_code 3 = .ok (.istore_n 2, 1) := by decide +kernel
theorem dX4_countMet_4 : decode prog_1_method_33_code 4 = .ok (.iload_n 2, 1) := by decide +kernel
theorem dX4_countMet_5 : decode prog_1_method_33_code 5 = .ok (.aload_n 0, 1) := by decide +kernel
theorem dX4_countMet_6 : decode prog_1_method_33_code 6 = .ok (.getfield 12, 3) := by decide +kernel
theorem dX4_countMet_9 : decode prog_1_method_33_code 9 = .ok (.invokevirtual 51, 3) := by decide +kernel
theorem dX4_countMet_12 : decode prog_1_method_33_code 12 = .ok (.if_icmp .ge 30, 3) := by decide +kernel
theorem dX4_countMet_15 : decode prog_1_method_33_code 15 = .ok (.aload_n 0, 1) := by decide +kernel
theorem dX4_countMet_16 : decode prog_1_method_33_code 16 = .ok (.aload_n 0, 1) := by decide +kernel
theorem dX4_countMet_17 : decode prog_1_method_33_code 17 = .ok (.getfield 12, 3) := by decide +kernel
theorem dX4_countMet_20 : decode prog_1_method_33_code 20 = .ok (.iload_n 2, 1) := by decide +kernel
theorem dX4_countMet_42 : decode prog_1_method_33_code 42 = .ok (.iload_n 1, 1) := by decide +kernel
theorem dX4_countMet_43 : decode prog_1_method_33_code 43 = .ok (.ireturn, 1) := by decide +kernel
theorem dX4_countRunningOver_0 : decode prog_1_method_36_code 0 = .ok (.iconst 0, 1) := by decide +kernel
theorem dX4_countRunningOver_1 : decode prog_1_method_36_code 1 = .ok (.istore_n 1, 1) := by decide +kernel
theorem dX4_countRunningOver_2 : decode prog_1_method_36_code 2 = .ok (.iconst 0, 1) := by decide +kernel
theorem dX4_countRunningOver_3 : decode prog_1_method_36_code 3 = .ok (.istore_n 2, 1) := by decide +kernel
theorem dX4_countRunningOver_4 : decode prog_1_method_36_code 4 = .ok (.iload_n 2, 1) := by decide +kernel
theorem dX4_countRunningOver_5 : decode prog_1_method_36_code 5 = .ok (.aload_n 0, 1) := by decide +kernel
theorem dX4_countRunningOver_6 : decode prog_1_method_36_code 6 = .ok (.getfield 20, 3) := by decide +kernel
theorem dX4_countRunningOver_9 : decode prog_1_method_36_code 9 = .ok (.invokevirtual 51, 3) := by decide +kernel
theorem dX4_countRunningOver_12 : decode prog_1_method_36_code 12 = .ok (.if_icmp .ge 30, 3) := by decide +kernel
theorem dX4_countRunningOver_15 : decode prog_1_method_36_code 15 = .ok (.aload_n 0, 1) := by decide +kernel
theorem dX4_countRunningOver_16 : decode prog_1_method_36_code 16 = .ok (.aload_n 0, 1) := by decide +kernel
theorem dX4_countRunningOver_17 : decode prog_1_method_36_code 17 = .ok (.getfield 20, 3) := by decide +kernel
theorem dX4_countRunningOver_20 : decode prog_1_method_36_code 20 = .ok (.iload_n 2, 1) := by decide +kernel
theorem dX4_countRunningOver_42 : decode prog_1_method_36_code 42 = .ok (.iload_n 1, 1) := by decide +kernel
theorem dX4_countRunningOver_43 : decode prog_1_method_36_code 43 = .ok (.ireturn, 1) := by decide +kernel
theorem dX4_countSpoiling_0 : decode prog_1_method_38_code 0 = .ok (.iconst 0, 1) := by decide +kernel
theorem dX4_countSpoiling_1 : decode prog_1_method_38_code 1 = .ok (.istore_n 1, 1) := by decide +kernel
theorem dX4_countSpoiling_2 : decode prog_1_method_38_code 2 = .ok (.iconst 0, 1) := by decide +kernel
theorem dX4_countSpoiling_3 : decode prog_1_method_38_code 3 = .ok (.istore_n 2, 1) := by decide +kernel
theorem dX4_countSpoiling_4 : decode prog_1_method_38_code 4 = .ok (.iload_n 2, 1) := by decide +kernel
theorem dX4_countSpoiling_5 : decode prog_1_method_38_code 5 = .ok (.aload_n 0, 1) := by decide +kernel
theorem dX4_countSpoiling_6 : decode prog_1_method_38_code 6 = .ok (.getfield 20, 3) := by decide +kernel
theorem dX4_countSpoiling_9 : decode prog_1_method_38_code 9 = .ok (.invokevirtual 51, 3) := by decide +kernel
theorem dX4_countSpoiling_12 : decode prog_1_method_38_code 12 = .ok (.if_icmp .ge 30, 3) := by decide +kernel
theorem dX4_countSpoiling_15 : decode prog_1_method_38_code 15 = .ok (.aload_n 0, 1) := by decide +kernel
theorem dX4_countSpoiling_16 : decode prog_1_method_38_code 16 = .ok (.aload_n 0, 1) := by decide +kernel
theorem dX4_countSpoiling_17 : decode prog_1_method_38_code 17 = .ok (.getfield 20, 3) := by decide +kernel
theorem dX4_countSpoiling_20 : decode prog_1_method_38_code 20 = .ok (.iload_n 2, 1) := by decide +kernel
theorem dX4_countSpoiling_42 : decode prog_1_method_38_code 42 = .ok (.iload_n 1, 1) := by decide +kernel
theorem dX4_countSpoiling_43 : decode prog_1_method_38_code 43 = .ok (.ireturn, 1) := by decide +kernel
theorem dX4_countClashes_0 : decode prog_1_method_39_code 0 = .ok (.iconst 0, 1) := by decide +kernel
theorem dX4_countClashes_1 : decode prog_1_method_39_code 1 = .ok (.istore_n 1, 1) := by decide +kernel
theorem dX4_countClashes_2 : decode prog_1_method_39_code 2 = .ok (.iconst 0, 1) := by decide +kernel
theorem dX4_countClashes_3 : decode prog_1_method_39_code 3 = .ok (.istore_n 2, 1) := by decide +kernel
theorem dX4_countClashes_4 : decode prog_1_method_39_code 4 = .ok (.iload_n 2, 1) := by decide +kernel
theorem dX4_countClashes_5 : decode prog_1_method_39_code 5 = .ok (.aload_n 0, 1) := by decide +kernel
theorem dX4_countClashes_6 : decode prog_1_method_39_code 6 = .ok (.getfield 20, 3) := by decide +kernel
theorem dX4_countClashes_9 : decode prog_1_method_39_code 9 = .ok (.invokevirtual 51, 3) := by decide +kernel
theorem dX4_countClashes_12 : decode prog_1_method_39_code 12 = .ok (.if_icmp .ge 61, 3) := by decide +kernel
theorem dX4_countClashes_15 : decode prog_1_method_39_code 15 = .ok (.iload_n 2, 1) := by decide +kernel
theorem dX4_countClashes_16 : decode prog_1_method_39_code 16 = .ok (.iconst 1, 1) := by decide +kernel
theorem dX4_countClashes_17 : decode prog_1_method_39_code 17 = .ok (.iadd, 1) := by decide +kernel
theorem dX4_countClashes_18 : decode prog_1_method_39_code 18 = .ok (.istore_n 3, 1) := by decide +kernel
theorem dX4_countClashes_19 : decode prog_1_method_39_code 19 = .ok (.iload_n 3, 1) := by decide +kernel
theorem dX4_countClashes_20 : decode prog_1_method_39_code 20 = .ok (.aload_n 0, 1) := by decide +kernel
theorem dX4_countClashes_21 : decode prog_1_method_39_code 21 = .ok (.getfield 20, 3) := by decide +kernel
theorem dX4_countClashes_24 : decode prog_1_method_39_code 24 = .ok (.invokevirtual 51, 3) := by decide +kernel
theorem dX4_countClashes_27 : decode prog_1_method_39_code 27 = .ok (.if_icmp .ge 40, 3) := by decide +kernel
theorem dX4_countClashes_30 : decode prog_1_method_39_code 30 = .ok (.aload_n 0, 1) := by decide +kernel
theorem dX4_countClashes_31 : decode prog_1_method_39_code 31 = .ok (.getfield 20, 3) := by decide +kernel
theorem dX4_countClashes_34 : decode prog_1_method_39_code 34 = .ok (.iload_n 2, 1) := by decide +kernel
theorem dX4_countClashes_67 : decode prog_1_method_39_code 67 = .ok (.iinc 2 1, 3) := by decide +kernel
theorem dX4_countClashes_70 : decode prog_1_method_39_code 70 = .ok (.goto (-66), 3) := by decide +kernel
theorem dX4_countClashes_73 : decode prog_1_method_39_code 73 = .ok (.iload_n 1, 1) := by decide +kernel
theorem dX4_countClashes_74 : decode prog_1_method_39_code 74 = .ok (.ireturn, 1) := by decide +kernel
theorem dX4_countAllValid_0 : decode prog_1_method_42_code 0 = .ok (.iconst 0, 1) := by decide +kernel
theorem dX4_countAllValid_1 : decode prog_1_method_42_code 1 = .ok (.istore_n 1, 1) := by decide +kernel
theorem dX4_countAllValid_2 : decode prog_1_method_42_code 2 = .ok (.iconst 0, 1) := by decide +kernel
theorem dX4_countAllValid_3 : decode prog_1_method_42_code 3 = .ok (.istore_n 2, 1) := by decide +kernel
theorem dX4_countAllValid_4 : decode prog_1_method_42_code 4 = .ok (.iload_n 2, 1) := by decide +kernel
theorem dX4_countAllValid_5 : decode prog_1_method_42_code 5 = .ok (.aload_n 0, 1) := by decide +kernel
theorem dX4_countAllValid_6 : decode prog_1_method_42_code 6 = .ok (.getfield 23, 3) := by decide +kernel
theorem dX4_countAllValid_9 : decode prog_1_method_42_code 9 = .ok (.invokevirtual 51, 3) := by decide +kernel
theorem dX4_countAllValid_12 : decode prog_1_method_42_code 12 = .ok (.if_icmp .ge 29, 3) := by decide +kernel
theorem dX4_countAllValid_15 : decode prog_1_method_42_code 15 = .ok (.aload_n 0, 1) := by decide +kernel
theorem dX4_countAllValid_16 : decode prog_1_method_42_code 16 = .ok (.getfield 23, 3) := by decide +kernel
theorem dX4_countAllValid_19 : decode prog_1_method_42_code 19 = .ok (.iload_n 2, 1) := by decide +kernel
theorem dX4_countAllValid_41 : decode prog_1_method_42_code 41 = .ok (.iload_n 1, 1) := by decide +kernel
theorem dX4_countAllValid_42 : decode prog_1_method_42_code 42 = .ok (.ireturn, 1) := by decide +kernel
theorem dX4_payToAll_0 : decode prog_1_method_45_code 0 = .ok (.iconst 0, 1) := by decide +kernel
theorem dX4_payToAll_1 : decode prog_1_method_45_code 1 = .ok (.istore_n 1, 1) := by decide +kernel
theorem dX4_payToAll_2 : decode prog_1_method_45_code 2 = .ok (.iconst 0, 1) := by decide +kernel
theorem dX4_payToAll_3 : decode prog_1_method_45_code 3 = .ok (.istore_n 2, 1) := by decide +kernel
theorem dX4_payToAll_4 : decode prog_1_method_45_code 4 = .ok (.iload_n 2, 1) := by decide +kernel
theorem dX4_payToAll_5 : decode prog_1_method_45_code 5 = .ok (.aload_n 0, 1) := by decide +kernel
theorem dX4_payToAll_6 : decode prog_1_method_45_code 6 = .ok (.getfield 20, 3) := by decide +kernel
theorem dX4_payToAll_9 : decode prog_1_method_45_code 9 = .ok (.invokevirtual 51, 3) := by decide +kernel
theorem dX4_payToAll_12 : decode prog_1_method_45_code 12 = .ok (.if_icmp .ge 27, 3) := by decide +kernel
theorem dX4_payToAll_15 : decode prog_1_method_45_code 15 = .ok (.iload_n 1, 1) := by decide +kernel
theorem dX4_payToAll_16 : decode prog_1_method_45_code 16 = .ok (.aload_n 0, 1) := by decide +kernel
theorem dX4_payToAll_17 : decode prog_1_method_45_code 17 = .ok (.aload_n 0, 1) := by decide +kernel
theorem dX4_payToAll_18 : decode prog_1_method_45_code 18 = .ok (.getfield 20, 3) := by decide +kernel
theorem dX4_payToAll_21 : decode prog_1_method_45_code 21 = .ok (.iload_n 2, 1) := by decide +kernel
theorem dX4_payToAll_39 : decode prog_1_method_45_code 39 = .ok (.iload_n 1, 1) := by decide +kernel
theorem dX4_payToAll_40 : decode prog_1_method_45_code 40 = .ok (.ireturn, 1) := by decide +kernel
theorem dX4_many_0 : decode prog_1_method_26_code 0 = .ok (.iload_n 1, 1) := by decide +kernel
theorem dX4_many_1 : decode prog_1_method_26_code 1 = .ok (.tableswitch 168 0 15 #[79, 84, 89, 97, 102, 107, 112, 120, 125, 130, 135, 143, 148, 153, 158, 163], 79) := by decide +kernel
theorem dX4_many_80 : decode prog_1_method_26_code 80 = .ok (.aload_n 0, 1) := by decide +kernel
theorem dX4_many_81 : decode prog_1_method_26_code 81 = .ok (.getfield 26, 3) := by decide +kernel
theorem dX4_many_84 : decode prog_1_method_26_code 84 = .ok (.ireturn, 1) := by decide +kernel
theorem dX4_many_85 : decode prog_1_method_26_code 85 = .ok (.aload_n 0, 1) := by decide +kernel
theorem dX4_many_86 : decode prog_1_method_26_code 86 = .ok (.getfield 79, 3) := by decide +kernel
theorem dX4_many_89 : decode prog_1_method_26_code 89 = .ok (.ireturn, 1) := by decide +kernel
theorem dX4_many_90 : decode prog_1_method_26_code 90 = .ok (.aload_n 0, 1) := by decide +kernel
theorem dX4_many_91 : decode prog_1_method_26_code 91 = .ok (.getfield 12, 3) := by decide +kernel
theorem dX4_many_94 : decode prog_1_method_26_code 94 = .ok (.invokevirtual 51, 3) := by decide +kernel
theorem dX4_many_97 : decode prog_1_method_26_code 97 = .ok (.ireturn, 1) := by decide +kernel
theorem dX4_many_98 : decode prog_1_method_26_code 98 = .ok (.aload_n 0, 1) := by decide +kernel
theorem dX4_many_99 : decode prog_1_method_26_code 99 = .ok (.invokevirtual 310, 3) := by decide +kernel
theorem dX4_many_102 : decode prog_1_method_26_code 102 = .ok (.ireturn, 1) := by decide +kernel
theorem dX4_many_103 : decode prog_1_method_26_code 103 = .ok (.aload_n 0, 1) := by decide +kernel
theorem dX4_many_104 : decode prog_1_method_26_code 104 = .ok (.invokevirtual 161, 3) := by decide +kernel
theorem dX4_many_107 : decode prog_1_method_26_code 107 = .ok (.ireturn, 1) := by decide +kernel
theorem dX4_many_108 : decode prog_1_method_26_code 108 = .ok (.aload_n 0, 1) := by decide +kernel
theorem dX4_many_109 : decode prog_1_method_26_code 109 = .ok (.getfield 71, 3) := by decide +kernel
theorem dX4_many_112 : decode prog_1_method_26_code 112 = .ok (.ireturn, 1) := by decide +kernel
theorem dX4_many_113 : decode prog_1_method_26_code 113 = .ok (.aload_n 0, 1) := by decide +kernel
theorem dX4_many_114 : decode prog_1_method_26_code 114 = .ok (.getfield 20, 3) := by decide +kernel
theorem dX4_many_117 : decode prog_1_method_26_code 117 = .ok (.invokevirtual 51, 3) := by decide +kernel
theorem dX4_many_120 : decode prog_1_method_26_code 120 = .ok (.ireturn, 1) := by decide +kernel
theorem dX4_many_121 : decode prog_1_method_26_code 121 = .ok (.aload_n 0, 1) := by decide +kernel
theorem dX4_many_122 : decode prog_1_method_26_code 122 = .ok (.invokevirtual 313, 3) := by decide +kernel
theorem dX4_many_125 : decode prog_1_method_26_code 125 = .ok (.ireturn, 1) := by decide +kernel
theorem dX4_many_126 : decode prog_1_method_26_code 126 = .ok (.aload_n 0, 1) := by decide +kernel
theorem dX4_many_127 : decode prog_1_method_26_code 127 = .ok (.invokevirtual 316, 3) := by decide +kernel
theorem dX4_many_130 : decode prog_1_method_26_code 130 = .ok (.ireturn, 1) := by decide +kernel
theorem dX4_many_131 : decode prog_1_method_26_code 131 = .ok (.aload_n 0, 1) := by decide +kernel
theorem dX4_many_132 : decode prog_1_method_26_code 132 = .ok (.invokevirtual 319, 3) := by decide +kernel
theorem dX4_many_135 : decode prog_1_method_26_code 135 = .ok (.ireturn, 1) := by decide +kernel
theorem dX4_many_136 : decode prog_1_method_26_code 136 = .ok (.aload_n 0, 1) := by decide +kernel
theorem dX4_many_137 : decode prog_1_method_26_code 137 = .ok (.getfield 23, 3) := by decide +kernel
theorem dX4_many_140 : decode prog_1_method_26_code 140 = .ok (.invokevirtual 51, 3) := by decide +kernel
theorem dX4_many_143 : decode prog_1_method_26_code 143 = .ok (.ireturn, 1) := by decide +kernel
theorem dX4_many_144 : decode prog_1_method_26_code 144 = .ok (.aload_n 0, 1) := by decide +kernel
theorem dX4_many_145 : decode prog_1_method_26_code 145 = .ok (.invokevirtual 322, 3) := by decide +kernel
theorem dX4_many_148 : decode prog_1_method_26_code 148 = .ok (.ireturn, 1) := by decide +kernel
theorem dX4_many_149 : decode prog_1_method_26_code 149 = .ok (.aload_n 0, 1) := by decide +kernel
theorem dX4_many_150 : decode prog_1_method_26_code 150 = .ok (.getfield 172, 3) := by decide +kernel
theorem dX4_many_153 : decode prog_1_method_26_code 153 = .ok (.ireturn, 1) := by decide +kernel
theorem dX4_many_154 : decode prog_1_method_26_code 154 = .ok (.aload_n 0, 1) := by decide +kernel
theorem dX4_many_155 : decode prog_1_method_26_code 155 = .ok (.getfield 193, 3) := by decide +kernel
theorem dX4_many_158 : decode prog_1_method_26_code 158 = .ok (.ireturn, 1) := by decide +kernel
theorem dX4_many_159 : decode prog_1_method_26_code 159 = .ok (.aload_n 0, 1) := by decide +kernel
theorem dX4_many_160 : decode prog_1_method_26_code 160 = .ok (.getfield 210, 3) := by decide +kernel
theorem dX4_many_163 : decode prog_1_method_26_code 163 = .ok (.ireturn, 1) := by decide +kernel
theorem dX4_many_164 : decode prog_1_method_26_code 164 = .ok (.aload_n 0, 1) := by decide +kernel
theorem dX4_many_165 : decode prog_1_method_26_code 165 = .ok (.invokevirtual 325, 3) := by decide +kernel
theorem dX4_many_168 : decode prog_1_method_26_code 168 = .ok (.ireturn, 1) := by decide +kernel
theorem dX4_many_169 : decode prog_1_method_26_code 169 = .ok (.new 44, 3) := by decide +kernel
theorem dX4_many_172 : decode prog_1_method_26_code 172 = .ok (.dup, 1) := by decide +kernel
theorem dX4_many_173 : decode prog_1_method_26_code 173 = .ok (.ldc_w 328, 3) := by decide +kernel
theorem dX4_many_176 : decode prog_1_method_26_code 176 = .ok (.invokespecial 48, 3) := by decide +kernel
theorem dX4_many_179 : decode prog_1_method_26_code 179 = .ok (.athrow, 1) := by decide +kernel
theorem dL_many_0 : decode method_19_code 0 = .ok (.aload_n 2, 1) := by decide +kernel
theorem dL_many_1 : decode method_19_code 1 = .ok (.iconst 0, 1) := by decide +kernel
theorem dL_many_2 : decode method_19_code 2 = .ok (.aload_n 0, 1) := by decide +kernel
theorem dL_many_3 : decode method_19_code 3 = .ok (.iload_n 1, 1) := by decide +kernel
theorem dL_many_4 : decode method_19_code 4 = .ok (.invokevirtual 69, 3) := by decide +kernel
theorem dL_many_7 : decode method_19_code 7 = .ok (.i2l, 1) := by decide +kernel
theorem dL_many_8 : decode method_19_code 8 = .ok (.lastore, 1) := by decide +kernel
theorem dL_many_9 : decode method_19_code 9 = .ok (.goto 6, 3) := by decide +kernel
theorem dL_many_12 : decode method_19_code 12 = .ok (.astore_n 3, 1) := by decide +kernel
theorem dL_many_13 : decode method_19_code 13 = .ok (.iconst 1, 1) := by decide +kernel
theorem dL_many_14 : decode method_19_code 14 = .ok (.ireturn, 1) := by decide +kernel
theorem dL_many_15 : decode method_19_code 15 = .ok (.iconst 0, 1) := by decide +kernel
theorem dL_many_16 : decode method_19_code 16 = .ok (.ireturn, 1) := by decide +kernel
theorem dX8_gone_0 : decode prog_7_method_52_code 0 = .ok (.iconst 0, 1) := by decide +kernel
theorem dX8_gone_1 : decode prog_7_method_52_code 1 = .ok (.istore_n 1, 1) := by decide +kernel
theorem dX8_gone_2 : decode prog_7_method_52_code 2 = .ok (.aload_n 0, 1) := by decide +kernel
theorem dX8_gone_3 : decode prog_7_method_52_code 3 = .ok (.getfield 16, 3) := by decide +kernel
theorem dX8_gone_6 : decode prog_7_method_52_code 6 = .ok (.invokevirtual 126, 3) := by decide +kernel
theorem dX8_gone_9 : decode prog_7_method_52_code 9 = .ok (.astore_n 2, 1) := by decide +kernel
theorem dX8_gone_10 : decode prog_7_method_52_code 10 = .ok (.aload_n 2, 1) := by decide +kernel
theorem dX8_gone_11 : decode prog_7_method_52_code 11 = .ok (.invokeinterface 130 1, 5) := by decide +kernel
theorem dX8_gone_16 : decode prog_7_method_52_code 16 = .ok (.ifCond .eq 31, 3) := by decide +kernel
theorem dX8_gone_19 : decode prog_7_method_52_code 19 = .ok (.aload_n 2, 1) := by decide +kernel
theorem dX8_gone_47 : decode prog_7_method_52_code 47 = .ok (.iload_n 1, 1) := by decide +kernel
theorem dX8_gone_48 : decode prog_7_method_52_code 48 = .ok (.ireturn, 1) := by decide +kernel
theorem dX8_frames_0 : decode prog_7_method_14_code 0 = .ok (.aload_n 0, 1) := by decide +kernel
theorem dX8_frames_1 : decode prog_7_method_14_code 1 = .ok (.getfield 16, 3) := by decide +kernel
theorem dX8_frames_4 : decode prog_7_method_14_code 4 = .ok (.invokevirtual 36, 3) := by decide +kernel
theorem dX8_frames_7 : decode prog_7_method_14_code 7 = .ok (.newarray .int, 2) := by decide +kernel
theorem dX8_frames_9 : decode prog_7_method_14_code 9 = .ok (.astore_n 1, 1) := by decide +kernel
theorem dX8_frames_10 : decode prog_7_method_14_code 10 = .ok (.iconst 0, 1) := by decide +kernel
theorem dX8_frames_11 : decode prog_7_method_14_code 11 = .ok (.istore_n 2, 1) := by decide +kernel
theorem dX8_frames_12 : decode prog_7_method_14_code 12 = .ok (.iload_n 2, 1) := by decide +kernel
theorem dX8_frames_13 : decode prog_7_method_14_code 13 = .ok (.aload_n 1, 1) := by decide +kernel
theorem dX8_frames_14 : decode prog_7_method_14_code 14 = .ok (.arraylength, 1) := by decide +kernel
theorem dX8_frames_15 : decode prog_7_method_14_code 15 = .ok (.if_icmp .ge 47, 3) := by decide +kernel
theorem dX8_frames_18 : decode prog_7_method_14_code 18 = .ok (.aload_n 1, 1) := by decide +kernel
theorem dX8_frames_19 : decode prog_7_method_14_code 19 = .ok (.iload_n 2, 1) := by decide +kernel
theorem dX8_frames_20 : decode prog_7_method_14_code 20 = .ok (.aload_n 0, 1) := by decide +kernel
theorem dX8_frames_21 : decode prog_7_method_14_code 21 = .ok (.getfield 16, 3) := by decide +kernel
theorem dX8_frames_24 : decode prog_7_method_14_code 24 = .ok (.iload_n 2, 1) := by decide +kernel
theorem dX8_frames_62 : decode prog_7_method_14_code 62 = .ok (.aload_n 1, 1) := by decide +kernel
theorem dX8_frames_63 : decode prog_7_method_14_code 63 = .ok (.areturn, 1) := by decide +kernel
theorem dX8_miss_0 : decode prog_7_method_10_code 0 = .ok (.iconst (-1), 1) := by decide +kernel
theorem dX8_miss_1 : decode prog_7_method_10_code 1 = .ok (.istore_n 2, 1) := by decide +kernel
theorem dX8_miss_2 : decode prog_7_method_10_code 2 = .ok (.aload_n 1, 1) := by decide +kernel
theorem dX8_miss_3 : decode prog_7_method_10_code 3 = .ok (.astore_n 3, 1) := by decide +kernel
theorem dX8_miss_4 : decode prog_7_method_10_code 4 = .ok (.aload_n 3, 1) := by decide +kernel
theorem dX8_miss_5 : decode prog_7_method_10_code 5 = .ok (.arraylength, 1) := by decide +kernel
theorem dX8_miss_6 : decode prog_7_method_10_code 6 = .ok (.istore 4, 2) := by decide +kernel
theorem dX8_miss_8 : decode prog_7_method_10_code 8 = .ok (.iconst 0, 1) := by decide +kernel
theorem dX8_miss_9 : decode prog_7_method_10_code 9 = .ok (.istore 5, 2) := by decide +kernel
theorem dX8_miss_11 : decode prog_7_method_10_code 11 = .ok (.iload 5, 2) := by decide +kernel
theorem dX8_miss_13 : decode prog_7_method_10_code 13 = .ok (.iload 4, 2) := by decide +kernel
theorem dX8_miss_15 : decode prog_7_method_10_code 15 = .ok (.if_icmp .ge 38, 3) := by decide +kernel
theorem dX8_miss_18 : decode prog_7_method_10_code 18 = .ok (.aload_n 3, 1) := by decide +kernel
theorem dX8_miss_19 : decode prog_7_method_10_code 19 = .ok (.iload 5, 2) := by decide +kernel
theorem dX8_miss_21 : decode prog_7_method_10_code 21 = .ok (.iaload, 1) := by decide +kernel
theorem dX8_miss_22 : decode prog_7_method_10_code 22 = .ok (.istore 6, 2) := by decide +kernel
theorem dX8_miss_24 : decode prog_7_method_10_code 24 = .ok (.iload 6, 2) := by decide +kernel
theorem dX8_miss_26 : decode prog_7_method_10_code 26 = .ok (.iload_n 0, 1) := by decide +kernel
theorem dX8_miss_27 : decode prog_7_method_10_code 27 = .ok (.isub, 1) := by decide +kernel
theorem dX8_miss_28 : decode prog_7_method_10_code 28 = .ok (.invokestatic 57, 3) := by decide +kernel
theorem dX8_miss_31 : decode prog_7_method_10_code 31 = .ok (.istore 7, 2) := by decide +kernel
theorem dX8_miss_33 : decode prog_7_method_10_code 33 = .ok (.iload_n 2, 1) := by decide +kernel
theorem dX8_miss_34 : decode prog_7_method_10_code 34 = .ok (.iconst (-1), 1) := by decide +kernel
theorem dX8_miss_35 : decode prog_7_method_10_code 35 = .ok (.if_icmp .eq 9, 3) := by decide +kernel
theorem dX8_miss_38 : decode prog_7_method_10_code 38 = .ok (.iload 7, 2) := by decide +kernel
theorem dX8_miss_40 : decode prog_7_method_10_code 40 = .ok (.iload_n 2, 1) := by decide +kernel
theorem dX8_miss_41 : decode prog_7_method_10_code 41 = .ok (.if_icmp .ge 6, 3) := by decide +kernel
theorem dX8_miss_44 : decode prog_7_method_10_code 44 = .ok (.iload 7, 2) := by decide +kernel
theorem dX8_miss_46 : decode prog_7_method_10_code 46 = .ok (.istore_n 2, 1) := by decide +kernel
theorem dX8_miss_47 : decode prog_7_method_10_code 47 = .ok (.iinc 5 1, 3) := by decide +kernel
theorem dX8_miss_50 : decode prog_7_method_10_code 50 = .ok (.goto (-39), 3) := by decide +kernel
theorem dX8_miss_53 : decode prog_7_method_10_code 53 = .ok (.iload_n 2, 1) := by decide +kernel
theorem dX8_miss_54 : decode prog_7_method_10_code 54 = .ok (.ireturn, 1) := by decide +kernel
theorem dX8_miss__0 : decode prog_7_method_12_code 0 = .ok (.iconst (-1), 1) := by decide +kernel
theorem dX8_miss__1 : decode prog_7_method_12_code 1 = .ok (.istore_n 2, 1) := by decide +kernel
theorem dX8_miss__2 : decode prog_7_method_12_code 2 = .ok (.aload_n 1, 1) := by decide +kernel
theorem dX8_miss__3 : decode prog_7_method_12_code 3 = .ok (.astore_n 3, 1) := by decide +kernel
theorem dX8_miss__4 : decode prog_7_method_12_code 4 = .ok (.aload_n 3, 1) := by decide +kernel
theorem dX8_miss__5 : decode prog_7_method_12_code 5 = .ok (.arraylength, 1) := by decide +kernel
theorem dX8_miss__6 : decode prog_7_method_12_code 6 = .ok (.istore 4, 2) := by decide +kernel
theorem dX8_miss__8 : decode prog_7_method_12_code 8 = .ok (.iconst 0, 1) := by decide +kernel
theorem dX8_miss__9 : decode prog_7_method_12_code 9 = .ok (.istore 5, 2) := by decide +kernel
theorem dX8_miss__11 : decode prog_7_method_12_code 11 = .ok (.iload 5, 2) := by decide +kernel
theorem dX8_miss__13 : decode prog_7_method_12_code 13 = .ok (.iload 4, 2) := by decide +kernel
theorem dX8_miss__15 : decode prog_7_method_12_code 15 = .ok (.if_icmp .ge 43, 3) := by decide +kernel
theorem dX8_miss__18 : decode prog_7_method_12_code 18 = .ok (.aload_n 3, 1) := by decide +kernel
theorem dX8_miss__19 : decode prog_7_method_12_code 19 = .ok (.iload 5, 2) := by decide +kernel
theorem dX8_miss__21 : decode prog_7_method_12_code 21 = .ok (.aaload, 1) := by decide +kernel
theorem dX8_miss__22 : decode prog_7_method_12_code 22 = .ok (.astore 6, 2) := by decide +kernel
theorem dX8_miss__24 : decode prog_7_method_12_code 24 = .ok (.iload_n 0, 1) := by decide +kernel
theorem dX8_miss__25 : decode prog_7_method_12_code 25 = .ok (.aload 6, 2) := by decide +kernel
theorem dX8_miss__27 : decode prog_7_method_12_code 27 = .ok (.invokestatic 69, 3) := by decide +kernel
theorem dX8_miss__30 : decode prog_7_method_12_code 30 = .ok (.istore 7, 2) := by decide +kernel
theorem dX8_miss__32 : decode prog_7_method_12_code 32 = .ok (.iload 7, 2) := by decide +kernel
theorem dX8_miss__34 : decode prog_7_method_12_code 34 = .ok (.iconst (-1), 1) := by decide +kernel
theorem dX8_miss__35 : decode prog_7_method_12_code 35 = .ok (.if_icmp .eq 17, 3) := by decide +kernel
theorem dX8_miss__38 : decode prog_7_method_12_code 38 = .ok (.iload_n 2, 1) := by decide +kernel
theorem dX8_miss__39 : decode prog_7_method_12_code 39 = .ok (.iconst (-1), 1) := by decide +kernel
theorem dX8_miss__40 : decode prog_7_method_12_code 40 = .ok (.if_icmp .eq 9, 3) := by decide +kernel
theorem dX8_miss__43 : decode prog_7_method_12_code 43 = .ok (.iload 7, 2) := by decide +kernel
theorem dX8_miss__45 : decode prog_7_method_12_code 45 = .ok (.iload_n 2, 1) := by decide +kernel
theorem dX8_miss__46 : decode prog_7_method_12_code 46 = .ok (.if_icmp .ge 6, 3) := by decide +kernel
theorem dX8_miss__49 : decode prog_7_method_12_code 49 = .ok (.iload 7, 2) := by decide +kernel
theorem dX8_miss__51 : decode prog_7_method_12_code 51 = .ok (.istore_n 2, 1) := by decide +kernel
theorem dX8_miss__52 : decode prog_7_method_12_code 52 = .ok (.iinc 5 1, 3) := by decide +kernel
theorem dX8_miss__55 : decode prog_7_method_12_code 55 = .ok (.goto (-44), 3) := by decide +kernel
theorem dX8_miss__58 : decode prog_7_method_12_code 58 = .ok (.iload_n 2, 1) := by decide +kernel
theorem dX8_miss__59 : decode prog_7_method_12_code 59 = .ok (.ireturn, 1) := by decide +kernel
theorem dX8_met_0 : decode prog_7_method_13_code 0 = .ok (.iconst 0, 1) := by decide +kernel
theorem dX8_met_1 : decode prog_7_method_13_code 1 = .ok (.istore_n 3, 1) := by decide +kernel
theorem dX8_met_2 : decode prog_7_method_13_code 2 = .ok (.iconst 0, 1) := by decide +kernel
theorem dX8_met_3 : decode prog_7_method_13_code 3 = .ok (.istore 4, 2) := by decide +kernel
theorem dX8_met_5 : decode prog_7_method_13_code 5 = .ok (.iload 4, 2) := by decide +kernel
theorem dX8_met_7 : decode prog_7_method_13_code 7 = .ok (.aload_n 1, 1) := by decide +kernel
theorem dX8_met_8 : decode prog_7_method_13_code 8 = .ok (.arraylength, 1) := by decide +kernel
theorem dX8_met_9 : decode prog_7_method_13_code 9 = .ok (.if_icmp .ge 65, 3) := by decide +kernel
theorem dX8_met_12 : decode prog_7_method_13_code 12 = .ok (.aload_n 1, 1) := by decide +kernel
theorem dX8_met_13 : decode prog_7_method_13_code 13 = .ok (.iload 4, 2) := by decide +kernel
theorem dX8_met_15 : decode prog_7_method_13_code 15 = .ok (.iaload, 1) := by decide +kernel
theorem dX8_met_16 : decode prog_7_method_13_code 16 = .ok (.iconst (-1), 1) := by decide +kernel
theorem dX8_met_17 : decode prog_7_method_13_code 17 = .ok (.if_icmp .ne 7, 3) := by decide +kernel
theorem dX8_met_20 : decode prog_7_method_13_code 20 = .ok (.iconst (-1), 1) := by decide +kernel
theorem dX8_met_21 : decode prog_7_method_13_code 21 = .ok (.goto 11, 3) := by decide +kernel
theorem dX8_met_24 : decode prog_7_method_13_code 24 = .ok (.aload_n 1, 1) := by decide +kernel
theorem dX8_met_25 : decode prog_7_method_13_code 25 = .ok (.iload 4, 2) := by decide +kernel
theorem dX8_met_27 : decode prog_7_method_13_code 27 = .ok (.iaload, 1) := by decide +kernel
theorem dX8_met_28 : decode prog_7_method_13_code 28 = .ok (.aload_n 2, 1) := by decide +kernel
theorem dX8_met_29 : decode prog_7_method_13_code 29 = .ok (.invokestatic 73, 3) := by decide +kernel
theorem dX8_met_32 : decode prog_7_method_13_code 32 = .ok (.istore 5, 2) := by decide +kernel
theorem dX8_met_34 : decode prog_7_method_13_code 34 = .ok (.iload_n 3, 1) := by decide +kernel
theorem dX8_met_35 : decode prog_7_method_13_code 35 = .ok (.iload 5, 2) := by decide +kernel
theorem dX8_met_37 : decode prog_7_method_13_code 37 = .ok (.iconst (-1), 1) := by decide +kernel
theorem dX8_met_38 : decode prog_7_method_13_code 38 = .ok (.if_icmp .eq 27, 3) := by decide +kernel
theorem dX8_met_41 : decode prog_7_method_13_code 41 = .ok (.iload 5, 2) := by decide +kernel
theorem dX8_met_43 : decode prog_7_method_13_code 43 = .ok (.aload_n 0, 1) := by decide +kernel
theorem dX8_met_44 : decode prog_7_method_13_code 44 = .ok (.getfield 16, 3) := by decide +kernel
theorem dX8_met_47 : decode prog_7_method_13_code 47 = .ok (.iload 4, 2) := by decide +kernel
theorem dX8_met_65 : decode prog_7_method_13_code 65 = .ok (.iconst 0, 1) := by decide +kernel
theorem dX8_met_66 : decode prog_7_method_13_code 66 = .ok (.iadd, 1) := by decide +kernel
theorem dX8_met_67 : decode prog_7_method_13_code 67 = .ok (.istore_n 3, 1) := by decide +kernel
theorem dX8_met_68 : decode prog_7_method_13_code 68 = .ok (.iinc 4 1, 3) := by decide +kernel
theorem dX8_met_71 : decode prog_7_method_13_code 71 = .ok (.goto (-66), 3) := by decide +kernel
theorem dX8_met_74 : decode prog_7_method_13_code 74 = .ok (.iload_n 3, 1) := by decide +kernel
theorem dX8_met_75 : decode prog_7_method_13_code 75 = .ok (.ireturn, 1) := by decide +kernel
theorem dX8_met__0 : decode prog_7_method_15_code 0 = .ok (.aload_n 0, 1) := by decide +kernel
theorem dX8_met__1 : decode prog_7_method_15_code 1 = .ok (.aload_n 0, 1) := by decide +kernel
theorem dX8_met__2 : decode prog_7_method_15_code 2 = .ok (.invokevirtual 88, 3) := by decide +kernel
theorem dX8_met__5 : decode prog_7_method_15_code 5 = .ok (.aload_n 0, 1) := by decide +kernel
theorem dX8_met__6 : decode prog_7_method_15_code 6 = .ok (.invokevirtual 91, 3) := by decide +kernel
theorem dX8_met__9 : decode prog_7_method_15_code 9 = .ok (.invokevirtual 95, 3) := by decide +kernel
theorem dX8_met__12 : decode prog_7_method_15_code 12 = .ok (.ireturn, 1) := by decide +kernel
theorem dX8_clashes_0 : decode prog_7_method_51_code 0 = .ok (.iconst 0, 1) := by decide +kernel
theorem dX8_clashes_1 : decode prog_7_method_51_code 1 = .ok (.istore_n 1, 1) := by decide +kernel
theorem dX8_clashes_2 : decode prog_7_method_51_code 2 = .ok (.iconst 0, 1) := by decide +kernel
theorem dX8_clashes_3 : decode prog_7_method_51_code 3 = .ok (.istore_n 2, 1) := by decide +kernel
theorem dX8_clashes_4 : decode prog_7_method_51_code 4 = .ok (.iload_n 2, 1) := by decide +kernel
theorem dX8_clashes_5 : decode prog_7_method_51_code 5 = .ok (.aload_n 0, 1) := by decide +kernel
theorem dX8_clashes_6 : decode prog_7_method_51_code 6 = .ok (.getfield 23, 3) := by decide +kernel
theorem dX8_clashes_9 : decode prog_7_method_51_code 9 = .ok (.invokevirtual 36, 3) := by decide +kernel
theorem dX8_clashes_12 : decode prog_7_method_51_code 12 = .ok (.if_icmp .ge 95, 3) := by decide +kernel
theorem dX8_clashes_15 : decode prog_7_method_51_code 15 = .ok (.iconst 0, 1) := by decide +kernel
theorem dX8_clashes_16 : decode prog_7_method_51_code 16 = .ok (.istore_n 3, 1) := by decide +kernel
theorem dX8_clashes_17 : decode prog_7_method_51_code 17 = .ok (.iload_n 3, 1) := by decide +kernel
theorem dX8_clashes_18 : decode prog_7_method_51_code 18 = .ok (.iload_n 2, 1) := by decide +kernel
theorem dX8_clashes_19 : decode prog_7_method_51_code 19 = .ok (.if_icmp .ge 82, 3) := by decide +kernel
theorem dX8_clashes_22 : decode prog_7_method_51_code 22 = .ok (.iload_n 1, 1) := by decide +kernel
theorem dX8_clashes_23 : decode prog_7_method_51_code 23 = .ok (.aload_n 0, 1) := by decide +kernel
theorem dX8_clashes_24 : decode prog_7_method_51_code 24 = .ok (.getfield 23, 3) := by decide +kernel
theorem dX8_clashes_27 : decode prog_7_method_51_code 27 = .ok (.iload_n 2, 1) := by decide +kernel
theorem dX8_clashes_101 : decode prog_7_method_51_code 101 = .ok (.iinc 2 1, 3) := by decide +kernel
theorem dX8_clashes_104 : decode prog_7_method_51_code 104 = .ok (.goto (-100), 3) := by decide +kernel
theorem dX8_clashes_107 : decode prog_7_method_51_code 107 = .ok (.iload_n 1, 1) := by decide +kernel
theorem dX8_clashes_108 : decode prog_7_method_51_code 108 = .ok (.ireturn, 1) := by decide +kernel
theorem dX8_manyNow_0 : decode prog_7_method_53_code 0 = .ok (.iconst 0, 1) := by decide +kernel
theorem dX8_manyNow_1 : decode prog_7_method_53_code 1 = .ok (.istore_n 2, 1) := by decide +kernel
theorem dX8_manyNow_2 : decode prog_7_method_53_code 2 = .ok (.iconst 0, 1) := by decide +kernel
theorem dX8_manyNow_3 : decode prog_7_method_53_code 3 = .ok (.istore_n 3, 1) := by decide +kernel
theorem dX8_manyNow_4 : decode prog_7_method_53_code 4 = .ok (.iconst 0, 1) := by decide +kernel
theorem dX8_manyNow_5 : decode prog_7_method_53_code 5 = .ok (.istore 4, 2) := by decide +kernel
theorem dX8_manyNow_7 : decode prog_7_method_53_code 7 = .ok (.iconst 0, 1) := by decide +kernel
theorem dX8_manyNow_8 : decode prog_7_method_53_code 8 = .ok (.istore 5, 2) := by decide +kernel
theorem dX8_manyNow_10 : decode prog_7_method_53_code 10 = .ok (.iconst 0, 1) := by decide +kernel
theorem dX8_manyNow_11 : decode prog_7_method_53_code 11 = .ok (.istore 6, 2) := by decide +kernel
theorem dX8_manyNow_13 : decode prog_7_method_53_code 13 = .ok (.iload 6, 2) := by decide +kernel
theorem dX8_manyNow_15 : decode prog_7_method_53_code 15 = .ok (.aload_n 0, 1) := by decide +kernel
theorem dX8_manyNow_16 : decode prog_7_method_53_code 16 = .ok (.getfield 23, 3) := by decide +kernel
theorem dX8_manyNow_19 : decode prog_7_method_53_code 19 = .ok (.invokevirtual 36, 3) := by decide +kernel
theorem dX8_manyNow_22 : decode prog_7_method_53_code 22 = .ok (.if_icmp .ge 74, 3) := by decide +kernel
theorem dX8_manyNow_25 : decode prog_7_method_53_code 25 = .ok (.iload_n 2, 1) := by decide +kernel
theorem dX8_manyNow_26 : decode prog_7_method_53_code 26 = .ok (.aload_n 0, 1) := by decide +kernel
theorem dX8_manyNow_27 : decode prog_7_method_53_code 27 = .ok (.aload_n 0, 1) := by decide +kernel
theorem dX8_manyNow_28 : decode prog_7_method_53_code 28 = .ok (.getfield 23, 3) := by decide +kernel
theorem dX8_manyNow_31 : decode prog_7_method_53_code 31 = .ok (.iload 6, 2) := by decide +kernel
theorem dX8_manyNow_96 : decode prog_7_method_53_code 96 = .ok (.iconst 0, 1) := by decide +kernel
theorem dX8_manyNow_97 : decode prog_7_method_53_code 97 = .ok (.istore 6, 2) := by decide +kernel
theorem dX8_manyNow_99 : decode prog_7_method_53_code 99 = .ok (.iload 6, 2) := by decide +kernel
theorem dX8_manyNow_101 : decode prog_7_method_53_code 101 = .ok (.iconst 4, 1) := by decide +kernel
theorem dX8_manyNow_102 : decode prog_7_method_53_code 102 = .ok (.if_icmp .ge 20, 3) := by decide +kernel
theorem dX8_manyNow_105 : decode prog_7_method_53_code 105 = .ok (.iload 5, 2) := by decide +kernel
theorem dX8_manyNow_107 : decode prog_7_method_53_code 107 = .ok (.aload_n 0, 1) := by decide +kernel
theorem dX8_manyNow_108 : decode prog_7_method_53_code 108 = .ok (.iload 6, 2) := by decide +kernel
theorem dX8_manyNow_110 : decode prog_7_method_53_code 110 = .ok (.invokevirtual 281, 3) := by decide +kernel
theorem dX8_manyNow_113 : decode prog_7_method_53_code 113 = .ok (.iadd, 1) := by decide +kernel
theorem dX8_manyNow_114 : decode prog_7_method_53_code 114 = .ok (.istore 5, 2) := by decide +kernel
theorem dX8_manyNow_116 : decode prog_7_method_53_code 116 = .ok (.iinc 6 1, 3) := by decide +kernel
theorem dX8_manyNow_119 : decode prog_7_method_53_code 119 = .ok (.goto (-20), 3) := by decide +kernel
theorem dX8_manyNow_122 : decode prog_7_method_53_code 122 = .ok (.bipush 16, 2) := by decide +kernel
theorem dX8_manyNow_124 : decode prog_7_method_53_code 124 = .ok (.newarray .int, 2) := by decide +kernel
theorem dX8_manyNow_126 : decode prog_7_method_53_code 126 = .ok (.dup, 1) := by decide +kernel
theorem dX8_manyNow_127 : decode prog_7_method_53_code 127 = .ok (.iconst 0, 1) := by decide +kernel
theorem dX8_manyNow_128 : decode prog_7_method_53_code 128 = .ok (.aload_n 0, 1) := by decide +kernel
theorem dX8_manyNow_129 : decode prog_7_method_53_code 129 = .ok (.getfield 9, 3) := by decide +kernel
theorem dX8_manyNow_132 : decode prog_7_method_53_code 132 = .ok (.iastore, 1) := by decide +kernel
theorem dX8_manyNow_133 : decode prog_7_method_53_code 133 = .ok (.dup, 1) := by decide +kernel
theorem dX8_manyNow_134 : decode prog_7_method_53_code 134 = .ok (.iconst 1, 1) := by decide +kernel
theorem dX8_manyNow_135 : decode prog_7_method_53_code 135 = .ok (.aload_n 0, 1) := by decide +kernel
theorem dX8_manyNow_136 : decode prog_7_method_53_code 136 = .ok (.getfield 123, 3) := by decide +kernel
theorem dX8_manyNow_139 : decode prog_7_method_53_code 139 = .ok (.iastore, 1) := by decide +kernel
theorem dX8_manyNow_140 : decode prog_7_method_53_code 140 = .ok (.dup, 1) := by decide +kernel
theorem dX8_manyNow_141 : decode prog_7_method_53_code 141 = .ok (.iconst 2, 1) := by decide +kernel
theorem dX8_manyNow_142 : decode prog_7_method_53_code 142 = .ok (.aload_n 0, 1) := by decide +kernel
theorem dX8_manyNow_143 : decode prog_7_method_53_code 143 = .ok (.getfield 16, 3) := by decide +kernel
theorem dX8_manyNow_146 : decode prog_7_method_53_code 146 = .ok (.invokevirtual 36, 3) := by decide +kernel
theorem dX8_manyNow_149 : decode prog_7_method_53_code 149 = .ok (.iastore, 1) := by decide +kernel
theorem dX8_manyNow_150 : decode prog_7_method_53_code 150 = .ok (.dup, 1) := by decide +kernel
theorem dX8_manyNow_151 : decode prog_7_method_53_code 151 = .ok (.iconst 3, 1) := by decide +kernel
theorem dX8_manyNow_152 : decode prog_7_method_53_code 152 = .ok (.aload_n 0, 1) := by decide +kernel
theorem dX8_manyNow_153 : decode prog_7_method_53_code 153 = .ok (.invokevirtual 284, 3) := by decide +kernel
theorem dX8_manyNow_156 : decode prog_7_method_53_code 156 = .ok (.iastore, 1) := by decide +kernel
theorem dX8_manyNow_157 : decode prog_7_method_53_code 157 = .ok (.dup, 1) := by decide +kernel
theorem dX8_manyNow_158 : decode prog_7_method_53_code 158 = .ok (.iconst 4, 1) := by decide +kernel
theorem dX8_manyNow_159 : decode prog_7_method_53_code 159 = .ok (.aload_n 0, 1) := by decide +kernel
theorem dX8_manyNow_160 : decode prog_7_method_53_code 160 = .ok (.invokevirtual 180, 3) := by decide +kernel
theorem dX8_manyNow_163 : decode prog_7_method_53_code 163 = .ok (.iastore, 1) := by decide +kernel
theorem dX8_manyNow_164 : decode prog_7_method_53_code 164 = .ok (.dup, 1) := by decide +kernel
theorem dX8_manyNow_165 : decode prog_7_method_53_code 165 = .ok (.iconst 5, 1) := by decide +kernel
theorem dX8_manyNow_166 : decode prog_7_method_53_code 166 = .ok (.aload_n 0, 1) := by decide +kernel
theorem dX8_manyNow_167 : decode prog_7_method_53_code 167 = .ok (.getfield 20, 3) := by decide +kernel
theorem dX8_manyNow_170 : decode prog_7_method_53_code 170 = .ok (.invokevirtual 36, 3) := by decide +kernel
theorem dX8_manyNow_173 : decode prog_7_method_53_code 173 = .ok (.iastore, 1) := by decide +kernel
theorem dX8_manyNow_174 : decode prog_7_method_53_code 174 = .ok (.dup, 1) := by decide +kernel
theorem dX8_manyNow_175 : decode prog_7_method_53_code 175 = .ok (.bipush 6, 2) := by decide +kernel
theorem dX8_manyNow_177 : decode prog_7_method_53_code 177 = .ok (.aload_n 0, 1) := by decide +kernel
theorem dX8_manyNow_178 : decode prog_7_method_53_code 178 = .ok (.getfield 23, 3) := by decide +kernel
theorem dX8_manyNow_181 : decode prog_7_method_53_code 181 = .ok (.invokevirtual 36, 3) := by decide +kernel
theorem dX8_manyNow_184 : decode prog_7_method_53_code 184 = .ok (.iastore, 1) := by decide +kernel
theorem dX8_manyNow_185 : decode prog_7_method_53_code 185 = .ok (.dup, 1) := by decide +kernel
theorem dX8_manyNow_186 : decode prog_7_method_53_code 186 = .ok (.bipush 7, 2) := by decide +kernel
theorem dX8_manyNow_188 : decode prog_7_method_53_code 188 = .ok (.iload_n 2, 1) := by decide +kernel
theorem dX8_manyNow_189 : decode prog_7_method_53_code 189 = .ok (.iastore, 1) := by decide +kernel
theorem dX8_manyNow_190 : decode prog_7_method_53_code 190 = .ok (.dup, 1) := by decide +kernel
theorem dX8_manyNow_191 : decode prog_7_method_53_code 191 = .ok (.bipush 8, 2) := by decide +kernel
theorem dX8_manyNow_193 : decode prog_7_method_53_code 193 = .ok (.iload_n 3, 1) := by decide +kernel
theorem dX8_manyNow_194 : decode prog_7_method_53_code 194 = .ok (.iastore, 1) := by decide +kernel
theorem dX8_manyNow_195 : decode prog_7_method_53_code 195 = .ok (.dup, 1) := by decide +kernel
theorem dX8_manyNow_196 : decode prog_7_method_53_code 196 = .ok (.bipush 9, 2) := by decide +kernel
theorem dX8_manyNow_198 : decode prog_7_method_53_code 198 = .ok (.aload_n 0, 1) := by decide +kernel
theorem dX8_manyNow_199 : decode prog_7_method_53_code 199 = .ok (.invokevirtual 287, 3) := by decide +kernel
theorem dX8_manyNow_202 : decode prog_7_method_53_code 202 = .ok (.iastore, 1) := by decide +kernel
theorem dX8_manyNow_203 : decode prog_7_method_53_code 203 = .ok (.dup, 1) := by decide +kernel
theorem dX8_manyNow_204 : decode prog_7_method_53_code 204 = .ok (.bipush 10, 2) := by decide +kernel
theorem dX8_manyNow_206 : decode prog_7_method_53_code 206 = .ok (.aload_n 0, 1) := by decide +kernel
theorem dX8_manyNow_207 : decode prog_7_method_53_code 207 = .ok (.getfield 26, 3) := by decide +kernel
theorem dX8_manyNow_210 : decode prog_7_method_53_code 210 = .ok (.invokevirtual 36, 3) := by decide +kernel
theorem dX8_manyNow_213 : decode prog_7_method_53_code 213 = .ok (.iastore, 1) := by decide +kernel
theorem dX8_manyNow_214 : decode prog_7_method_53_code 214 = .ok (.dup, 1) := by decide +kernel
theorem dX8_manyNow_215 : decode prog_7_method_53_code 215 = .ok (.bipush 11, 2) := by decide +kernel
theorem dX8_manyNow_217 : decode prog_7_method_53_code 217 = .ok (.iload 4, 2) := by decide +kernel
theorem dX8_manyNow_219 : decode prog_7_method_53_code 219 = .ok (.iastore, 1) := by decide +kernel
theorem dX8_manyNow_220 : decode prog_7_method_53_code 220 = .ok (.dup, 1) := by decide +kernel
theorem dX8_manyNow_221 : decode prog_7_method_53_code 221 = .ok (.bipush 12, 2) := by decide +kernel
theorem dX8_manyNow_223 : decode prog_7_method_53_code 223 = .ok (.aload_n 0, 1) := by decide +kernel
theorem dX8_manyNow_224 : decode prog_7_method_53_code 224 = .ok (.getfield 182, 3) := by decide +kernel
theorem dX8_manyNow_227 : decode prog_7_method_53_code 227 = .ok (.iastore, 1) := by decide +kernel
theorem dX8_manyNow_228 : decode prog_7_method_53_code 228 = .ok (.dup, 1) := by decide +kernel
theorem dX8_manyNow_229 : decode prog_7_method_53_code 229 = .ok (.bipush 13, 2) := by decide +kernel
theorem dX8_manyNow_231 : decode prog_7_method_53_code 231 = .ok (.aload_n 0, 1) := by decide +kernel
theorem dX8_manyNow_232 : decode prog_7_method_53_code 232 = .ok (.getfield 185, 3) := by decide +kernel
theorem dX8_manyNow_235 : decode prog_7_method_53_code 235 = .ok (.iastore, 1) := by decide +kernel
theorem dX8_manyNow_236 : decode prog_7_method_53_code 236 = .ok (.dup, 1) := by decide +kernel
theorem dX8_manyNow_237 : decode prog_7_method_53_code 237 = .ok (.bipush 14, 2) := by decide +kernel
theorem dX8_manyNow_239 : decode prog_7_method_53_code 239 = .ok (.aload_n 0, 1) := by decide +kernel
theorem dX8_manyNow_240 : decode prog_7_method_53_code 240 = .ok (.getfield 210, 3) := by decide +kernel
theorem dX8_manyNow_243 : decode prog_7_method_53_code 243 = .ok (.iastore, 1) := by decide +kernel
theorem dX8_manyNow_244 : decode prog_7_method_53_code 244 = .ok (.dup, 1) := by decide +kernel
theorem dX8_manyNow_245 : decode prog_7_method_53_code 245 = .ok (.bipush 15, 2) := by decide +kernel
theorem dX8_manyNow_247 : decode prog_7_method_53_code 247 = .ok (.iload 5, 2) := by decide +kernel
theorem dX8_manyNow_249 : decode prog_7_method_53_code 249 = .ok (.iastore, 1) := by decide +kernel
theorem dX8_manyNow_250 : decode prog_7_method_53_code 250 = .ok (.astore 6, 2) := by decide +kernel
theorem dX8_manyNow_252 : decode prog_7_method_53_code 252 = .ok (.aload 6, 2) := by decide +kernel
theorem dX8_manyNow_254 : decode prog_7_method_53_code 254 = .ok (.iload_n 1, 1) := by decide +kernel
theorem dX8_manyNow_255 : decode prog_7_method_53_code 255 = .ok (.iaload, 1) := by decide +kernel
theorem dX8_manyNow_256 : decode prog_7_method_53_code 256 = .ok (.ireturn, 1) := by decide +kernel
theorem dX8_many_0 : decode prog_7_method_54_code 0 = .ok (.aload_n 0, 1) := by decide +kernel
theorem dX8_many_1 : decode prog_7_method_54_code 1 = .ok (.iload_n 1, 1) := by decide +kernel
theorem dX8_many_2 : decode prog_7_method_54_code 2 = .ok (.iconst 0, 1) := by decide +kernel
theorem dX8_many_3 : decode prog_7_method_54_code 3 = .ok (.bipush 15, 2) := by decide +kernel
theorem dX8_many_5 : decode prog_7_method_54_code 5 = .ok (.invokestatic 40, 3) := by decide +kernel
theorem dX8_many_8 : decode prog_7_method_54_code 8 = .ok (.ifCond .ne 7, 3) := by decide +kernel
theorem dX8_many_11 : decode prog_7_method_54_code 11 = .ok (.iconst 1, 1) := by decide +kernel
theorem dX8_many_12 : decode prog_7_method_54_code 12 = .ok (.goto 4, 3) := by decide +kernel
theorem dX8_many_15 : decode prog_7_method_54_code 15 = .ok (.iconst 0, 1) := by decide +kernel
theorem dX8_many_16 : decode prog_7_method_54_code 16 = .ok (.iconst 1, 1) := by decide +kernel
theorem dX8_many_17 : decode prog_7_method_54_code 17 = .ok (.invokevirtual 99, 3) := by decide +kernel
theorem dX8_many_20 : decode prog_7_method_54_code 20 = .ok (.ifCond .eq 7, 3) := by decide +kernel
theorem dX8_many_23 : decode prog_7_method_54_code 23 = .ok (.iconst 0, 1) := by decide +kernel
theorem dX8_many_24 : decode prog_7_method_54_code 24 = .ok (.goto 8, 3) := by decide +kernel
theorem dX8_many_27 : decode prog_7_method_54_code 27 = .ok (.aload_n 0, 1) := by decide +kernel
theorem dX8_many_28 : decode prog_7_method_54_code 28 = .ok (.iload_n 1, 1) := by decide +kernel
theorem dX8_many_29 : decode prog_7_method_54_code 29 = .ok (.invokevirtual 290, 3) := by decide +kernel
theorem dX8_many_32 : decode prog_7_method_54_code 32 = .ok (.ireturn, 1) := by decide +kernel
theorem dX4_meanNote_0 : decode prog_1_method_27_code 0 = .ok (.iconst 0, 1) := by decide +kernel
theorem dX4_meanNote_1 : decode prog_1_method_27_code 1 = .ok (.istore_n 1, 1) := by decide +kernel
theorem dX4_meanNote_2 : decode prog_1_method_27_code 2 = .ok (.iconst 0, 1) := by decide +kernel
theorem dX4_meanNote_3 : decode prog_1_method_27_code 3 = .ok (.istore_n 2, 1) := by decide +kernel
theorem dX4_meanNote_4 : decode prog_1_method_27_code 4 = .ok (.iconst 0, 1) := by decide +kernel
theorem dX4_meanNote_5 : decode prog_1_method_27_code 5 = .ok (.istore_n 3, 1) := by decide +kernel
theorem dX4_meanNote_6 : decode prog_1_method_27_code 6 = .ok (.iload_n 3, 1) := by decide +kernel
theorem dX4_meanNote_7 : decode prog_1_method_27_code 7 = .ok (.aload_n 0, 1) := by decide +kernel
theorem dX4_meanNote_8 : decode prog_1_method_27_code 8 = .ok (.getfield 23, 3) := by decide +kernel
theorem dX4_meanNote_11 : decode prog_1_method_27_code 11 = .ok (.invokevirtual 51, 3) := by decide +kernel
theorem dX4_meanNote_14 : decode prog_1_method_27_code 14 = .ok (.if_icmp .ge 49, 3) := by decide +kernel
theorem dX4_meanNote_17 : decode prog_1_method_27_code 17 = .ok (.aload_n 0, 1) := by decide +kernel
theorem dX4_meanNote_18 : decode prog_1_method_27_code 18 = .ok (.getfield 23, 3) := by decide +kernel
theorem dX4_meanNote_21 : decode prog_1_method_27_code 21 = .ok (.iload_n 3, 1) := by decide +kernel
theorem dX4_meanNote_63 : decode prog_1_method_27_code 63 = .ok (.iload_n 2, 1) := by decide +kernel
theorem dX4_meanNote_64 : decode prog_1_method_27_code 64 = .ok (.ifCond .ne 7, 3) := by decide +kernel
theorem dX4_meanNote_67 : decode prog_1_method_27_code 67 = .ok (.dconst 0, 1) := by decide +kernel
theorem dX4_meanNote_68 : decode prog_1_method_27_code 68 = .ok (.goto 8, 3) := by decide +kernel
theorem dX4_meanNote_71 : decode prog_1_method_27_code 71 = .ok (.iload_n 1, 1) := by decide +kernel
theorem dX4_meanNote_72 : decode prog_1_method_27_code 72 = .ok (.i2d, 1) := by decide +kernel
theorem dX4_meanNote_73 : decode prog_1_method_27_code 73 = .ok (.iload_n 2, 1) := by decide +kernel
theorem dX4_meanNote_74 : decode prog_1_method_27_code 74 = .ok (.i2d, 1) := by decide +kernel
theorem dX4_meanNote_75 : decode prog_1_method_27_code 75 = .ok (.ddiv, 1) := by decide +kernel
theorem dX4_meanNote_76 : decode prog_1_method_27_code 76 = .ok (.dreturn, 1) := by decide +kernel
theorem dX8_meanNote_0 : decode prog_7_method_55_code 0 = .ok (.aload_n 0, 1) := by decide +kernel
theorem dX8_meanNote_1 : decode prog_7_method_55_code 1 = .ok (.iconst 0, 1) := by decide +kernel
theorem dX8_meanNote_2 : decode prog_7_method_55_code 2 = .ok (.putfield 29, 3) := by decide +kernel
theorem dX8_meanNote_5 : decode prog_7_method_55_code 5 = .ok (.iconst 0, 1) := by decide +kernel
theorem dX8_meanNote_6 : decode prog_7_method_55_code 6 = .ok (.istore_n 1, 1) := by decide +kernel
theorem dX8_meanNote_7 : decode prog_7_method_55_code 7 = .ok (.iconst 0, 1) := by decide +kernel
theorem dX8_meanNote_8 : decode prog_7_method_55_code 8 = .ok (.istore_n 2, 1) := by decide +kernel
theorem dX8_meanNote_9 : decode prog_7_method_55_code 9 = .ok (.iconst 0, 1) := by decide +kernel
theorem dX8_meanNote_10 : decode prog_7_method_55_code 10 = .ok (.istore_n 3, 1) := by decide +kernel
theorem dX8_meanNote_11 : decode prog_7_method_55_code 11 = .ok (.iload_n 3, 1) := by decide +kernel
theorem dX8_meanNote_12 : decode prog_7_method_55_code 12 = .ok (.aload_n 0, 1) := by decide +kernel
theorem dX8_meanNote_13 : decode prog_7_method_55_code 13 = .ok (.getfield 26, 3) := by decide +kernel
theorem dX8_meanNote_16 : decode prog_7_method_55_code 16 = .ok (.invokevirtual 36, 3) := by decide +kernel
theorem dX8_meanNote_19 : decode prog_7_method_55_code 19 = .ok (.if_icmp .ge 44, 3) := by decide +kernel
theorem dX8_meanNote_22 : decode prog_7_method_55_code 22 = .ok (.aload_n 0, 1) := by decide +kernel
theorem dX8_meanNote_23 : decode prog_7_method_55_code 23 = .ok (.iload_n 3, 1) := by decide +kernel
theorem dX8_meanNote_63 : decode prog_7_method_55_code 63 = .ok (.iload_n 1, 1) := by decide +kernel
theorem dX8_meanNote_64 : decode prog_7_method_55_code 64 = .ok (.ifCond .ne 7, 3) := by decide +kernel
theorem dX8_meanNote_67 : decode prog_7_method_55_code 67 = .ok (.dconst 0, 1) := by decide +kernel
theorem dX8_meanNote_68 : decode prog_7_method_55_code 68 = .ok (.goto 8, 3) := by decide +kernel
theorem dX8_meanNote_71 : decode prog_7_method_55_code 71 = .ok (.iload_n 2, 1) := by decide +kernel
theorem dX8_meanNote_72 : decode prog_7_method_55_code 72 = .ok (.i2d, 1) := by decide +kernel
theorem dX8_meanNote_73 : decode prog_7_method_55_code 73 = .ok (.iload_n 1, 1) := by decide +kernel
theorem dX8_meanNote_74 : decode prog_7_method_55_code 74 = .ok (.i2d, 1) := by decide +kernel
theorem dX8_meanNote_75 : decode prog_7_method_55_code 75 = .ok (.ddiv, 1) := by decide +kernel
theorem dX8_meanNote_76 : decode prog_7_method_55_code 76 = .ok (.dreturn, 1) := by decide +kernel
theorem dL_join_0 : decode method_20_code 0 = .ok (.aload_n 2, 1) := by decide +kernel
theorem dL_join_1 : decode method_20_code 1 = .ok (.iconst 0, 1) := by decide +kernel
theorem dL_join_2 : decode method_20_code 2 = .ok (.aload_n 0, 1) := by decide +kernel
theorem dL_join_3 : decode method_20_code 3 = .ok (.iload_n 1, 1) := by decide +kernel
theorem dL_join_4 : decode method_20_code 4 = .ok (.invokevirtual 72, 3) := by decide +kernel
theorem dL_join_12 : decode method_20_code 12 = .ok (.astore_n 3, 1) := by decide +kernel
theorem dL_join_13 : decode method_20_code 13 = .ok (.iconst 1, 1) := by decide +kernel
theorem dL_join_14 : decode method_20_code 14 = .ok (.ireturn, 1) := by decide +kernel
theorem dX8_valid_0 : decode prog_7_method_31_code 0 = .ok (.iconst 0, 1) := by decide +kernel
theorem dX8_valid_1 : decode prog_7_method_31_code 1 = .ok (.istore_n 2, 1) := by decide +kernel
theorem dX8_valid_2 : decode prog_7_method_31_code 2 = .ok (.iconst 0, 1) := by decide +kernel
theorem dX8_valid_3 : decode prog_7_method_31_code 3 = .ok (.istore_n 3, 1) := by decide +kernel
theorem dX8_valid_4 : decode prog_7_method_31_code 4 = .ok (.iload_n 3, 1) := by decide +kernel
theorem dX8_valid_5 : decode prog_7_method_31_code 5 = .ok (.aload_n 0, 1) := by decide +kernel
theorem dX8_valid_6 : decode prog_7_method_31_code 6 = .ok (.getfield 26, 3) := by decide +kernel
theorem dX8_valid_9 : decode prog_7_method_31_code 9 = .ok (.invokevirtual 36, 3) := by decide +kernel
theorem dX8_valid_12 : decode prog_7_method_31_code 12 = .ok (.if_icmp .ge 43, 3) := by decide +kernel
theorem dX8_valid_15 : decode prog_7_method_31_code 15 = .ok (.iload_n 2, 1) := by decide +kernel
theorem dX8_valid_16 : decode prog_7_method_31_code 16 = .ok (.aload_n 0, 1) := by decide +kernel
theorem dX8_valid_17 : decode prog_7_method_31_code 17 = .ok (.getfield 26, 3) := by decide +kernel
theorem dX8_valid_20 : decode prog_7_method_31_code 20 = .ok (.iload_n 3, 1) := by decide +kernel
theorem dX8_valid_55 : decode prog_7_method_31_code 55 = .ok (.iload_n 2, 1) := by decide +kernel
theorem dX8_valid_56 : decode prog_7_method_31_code 56 = .ok (.ireturn, 1) := by decide +kernel
theorem dX8_joinNow_0 : decode prog_7_method_36_code 0 = .ok (.aload_n 0, 1) := by decide +kernel
theorem dX8_joinNow_1 : decode prog_7_method_36_code 1 = .ok (.iload_n 1, 1) := by decide +kernel
theorem dX8_joinNow_2 : decode prog_7_method_36_code 2 = .ok (.invokevirtual 234, 3) := by decide +kernel
theorem dX8_joinNow_5 : decode prog_7_method_36_code 5 = .ok (.ifCond .ne 5, 3) := by decide +kernel
theorem dX8_joinNow_8 : decode prog_7_method_36_code 8 = .ok (.iconst (-1), 1) := by decide +kernel
theorem dX8_joinNow_9 : decode prog_7_method_36_code 9 = .ok (.ireturn, 1) := by decide +kernel
theorem dX8_joinNow_10 : decode prog_7_method_36_code 10 = .ok (.aload_n 0, 1) := by decide +kernel
theorem dX8_joinNow_11 : decode prog_7_method_36_code 11 = .ok (.iload_n 1, 1) := by decide +kernel
theorem dX8_join_0 : decode prog_7_method_56_code 0 = .ok (.aload_n 0, 1) := by decide +kernel
theorem dX8_join_1 : decode prog_7_method_56_code 1 = .ok (.aload_n 0, 1) := by decide +kernel
theorem dX8_join_2 : decode prog_7_method_56_code 2 = .ok (.iload_n 1, 1) := by decide +kernel
theorem dX8_join_3 : decode prog_7_method_56_code 3 = .ok (.invokevirtual 44, 3) := by decide +kernel
theorem dX8_join_6 : decode prog_7_method_56_code 6 = .ok (.iconst 1, 1) := by decide +kernel
theorem dX8_join_7 : decode prog_7_method_56_code 7 = .ok (.invokevirtual 99, 3) := by decide +kernel
theorem dX8_join_10 : decode prog_7_method_56_code 10 = .ok (.ifCond .eq 7, 3) := by decide +kernel
theorem dX8_join_13 : decode prog_7_method_56_code 13 = .ok (.iconst 0, 1) := by decide +kernel
theorem dX8_join_14 : decode prog_7_method_56_code 14 = .ok (.goto 8, 3) := by decide +kernel
theorem dX8_join_17 : decode prog_7_method_56_code 17 = .ok (.aload_n 0, 1) := by decide +kernel
theorem dX8_join_18 : decode prog_7_method_56_code 18 = .ok (.iload_n 1, 1) := by decide +kernel
theorem dX8_join_19 : decode prog_7_method_56_code 19 = .ok (.invokevirtual 293, 3) := by decide +kernel
theorem dX8_join_22 : decode prog_7_method_56_code 22 = .ok (.ireturn, 1) := by decide +kernel
theorem dL_joined_0 : decode method_21_code 0 = .ok (.aload_n 3, 1) := by decide +kernel
theorem dL_joined_1 : decode method_21_code 1 = .ok (.iconst 0, 1) := by decide +kernel
theorem dL_joined_2 : decode method_21_code 2 = .ok (.aload_n 0, 1) := by decide +kernel
theorem dL_joined_3 : decode method_21_code 3 = .ok (.iload_n 1, 1) := by decide +kernel
theorem dL_joined_4 : decode method_21_code 4 = .ok (.iload_n 2, 1) := by decide +kernel
theorem dL_joined_5 : decode method_21_code 5 = .ok (.invokevirtual 75, 3) := by decide +kernel
theorem dL_joined_13 : decode method_21_code 13 = .ok (.astore 4, 2) := by decide +kernel
theorem dL_joined_15 : decode method_21_code 15 = .ok (.iconst 1, 1) := by decide +kernel
theorem dL_joined_16 : decode method_21_code 16 = .ok (.ireturn, 1) := by decide +kernel
theorem dX8_joined_0 : decode prog_7_method_35_code 0 = .ok (.aload_n 0, 1) := by decide +kernel
theorem dX8_joined_1 : decode prog_7_method_35_code 1 = .ok (.iload_n 1, 1) := by decide +kernel
theorem dX8_joined_2 : decode prog_7_method_35_code 2 = .ok (.invokevirtual 234, 3) := by decide +kernel
theorem dX8_joined_5 : decode prog_7_method_35_code 5 = .ok (.ifCond .ne 5, 3) := by decide +kernel
theorem dX8_joined_8 : decode prog_7_method_35_code 8 = .ok (.aconst_null, 1) := by decide +kernel
theorem dX8_joined_9 : decode prog_7_method_35_code 9 = .ok (.areturn, 1) := by decide +kernel
theorem dX8_joined_10 : decode prog_7_method_35_code 10 = .ok (.aload_n 0, 1) := by decide +kernel
theorem dX8_joined_11 : decode prog_7_method_35_code 11 = .ok (.iload_n 1, 1) := by decide +kernel
theorem dX8_joined__0 : decode prog_7_method_57_code 0 = .ok (.aload_n 0, 1) := by decide +kernel
theorem dX8_joined__1 : decode prog_7_method_57_code 1 = .ok (.aload_n 0, 1) := by decide +kernel
theorem dX8_joined__2 : decode prog_7_method_57_code 2 = .ok (.iload_n 1, 1) := by decide +kernel
theorem dX8_joined__3 : decode prog_7_method_57_code 3 = .ok (.iload_n 2, 1) := by decide +kernel
theorem dX8_joined__4 : decode prog_7_method_57_code 4 = .ok (.invokevirtual 174, 3) := by decide +kernel
theorem dX8_joined__7 : decode prog_7_method_57_code 7 = .ok (.iconst 1, 1) := by decide +kernel
theorem dX8_joined__8 : decode prog_7_method_57_code 8 = .ok (.invokevirtual 99, 3) := by decide +kernel
theorem dX8_joined__11 : decode prog_7_method_57_code 11 = .ok (.ifCond .eq 5, 3) := by decide +kernel
theorem dX8_joined__14 : decode prog_7_method_57_code 14 = .ok (.iconst 0, 1) := by decide +kernel
theorem dX8_joined__15 : decode prog_7_method_57_code 15 = .ok (.ireturn, 1) := by decide +kernel
theorem dX8_joined__16 : decode prog_7_method_57_code 16 = .ok (.aload_n 0, 1) := by decide +kernel
theorem dX8_joined__17 : decode prog_7_method_57_code 17 = .ok (.iload_n 1, 1) := by decide +kernel
theorem dX8_joined__18 : decode prog_7_method_57_code 18 = .ok (.invokevirtual 296, 3) := by decide +kernel
theorem dX8_joined__21 : decode prog_7_method_57_code 21 = .ok (.astore_n 3, 1) := by decide +kernel
theorem dX8_joined__22 : decode prog_7_method_57_code 22 = .ok (.aload_n 3, 1) := by decide +kernel
theorem dX8_joined__23 : decode prog_7_method_57_code 23 = .ok (.ifnonnull 7, 3) := by decide +kernel
theorem dX8_joined__26 : decode prog_7_method_57_code 26 = .ok (.iconst (-1), 1) := by decide +kernel
theorem dX8_joined__27 : decode prog_7_method_57_code 27 = .ok (.goto 6, 3) := by decide +kernel
theorem dX8_joined__30 : decode prog_7_method_57_code 30 = .ok (.aload_n 3, 1) := by decide +kernel
theorem dX8_joined__31 : decode prog_7_method_57_code 31 = .ok (.iload_n 2, 1) := by decide +kernel
theorem dX8_joined__32 : decode prog_7_method_57_code 32 = .ok (.iaload, 1) := by decide +kernel
theorem dX8_joined__33 : decode prog_7_method_57_code 33 = .ok (.ireturn, 1) := by decide +kernel
theorem dL_bestStart_0 : decode method_22_code 0 = .ok (.aload_n 2, 1) := by decide +kernel
theorem dL_bestStart_1 : decode method_22_code 1 = .ok (.iconst 0, 1) := by decide +kernel
theorem dL_bestStart_2 : decode method_22_code 2 = .ok (.aload_n 0, 1) := by decide +kernel
theorem dL_bestStart_3 : decode method_22_code 3 = .ok (.iload_n 1, 1) := by decide +kernel
theorem dL_bestStart_4 : decode method_22_code 4 = .ok (.invokevirtual 78, 3) := by decide +kernel
theorem dL_bestStart_12 : decode method_22_code 12 = .ok (.astore_n 3, 1) := by decide +kernel
theorem dL_bestStart_13 : decode method_22_code 13 = .ok (.iconst 1, 1) := by decide +kernel
theorem dL_bestStart_14 : decode method_22_code 14 = .ok (.ireturn, 1) := by decide +kernel
theorem dX8_bestStart_0 : decode prog_7_method_59_code 0 = .ok (.aload_n 0, 1) := by decide +kernel
theorem dX8_bestStart_1 : decode prog_7_method_59_code 1 = .ok (.aload_n 0, 1) := by decide +kernel
theorem dX8_bestStart_2 : decode prog_7_method_59_code 2 = .ok (.iload_n 1, 1) := by decide +kernel
theorem dX8_bestStart_3 : decode prog_7_method_59_code 3 = .ok (.invokevirtual 44, 3) := by decide +kernel
theorem dX8_bestStart_6 : decode prog_7_method_59_code 6 = .ok (.iconst 1, 1) := by decide +kernel
theorem dX8_bestStart_7 : decode prog_7_method_59_code 7 = .ok (.invokevirtual 99, 3) := by decide +kernel
theorem dX8_bestStart_10 : decode prog_7_method_59_code 10 = .ok (.ifCond .eq 7, 3) := by decide +kernel
theorem dX8_bestStart_13 : decode prog_7_method_59_code 13 = .ok (.iconst 0, 1) := by decide +kernel
theorem dX8_bestStart_14 : decode prog_7_method_59_code 14 = .ok (.goto 8, 3) := by decide +kernel
theorem dX8_bestStart_17 : decode prog_7_method_59_code 17 = .ok (.aload_n 0, 1) := by decide +kernel
theorem dX8_bestStart_18 : decode prog_7_method_59_code 18 = .ok (.iload_n 1, 1) := by decide +kernel
theorem dX8_bestStart_22 : decode prog_7_method_59_code 22 = .ok (.ireturn, 1) := by decide +kernel
theorem dL_bestClick_0 : decode method_23_code 0 = .ok (.aload_n 3, 1) := by decide +kernel
theorem dL_bestClick_1 : decode method_23_code 1 = .ok (.iconst 0, 1) := by decide +kernel
theorem dL_bestClick_2 : decode method_23_code 2 = .ok (.aload_n 0, 1) := by decide +kernel
theorem dL_bestClick_3 : decode method_23_code 3 = .ok (.iload_n 1, 1) := by decide +kernel
theorem dL_bestClick_4 : decode method_23_code 4 = .ok (.iload_n 2, 1) := by decide +kernel
theorem dL_bestClick_5 : decode method_23_code 5 = .ok (.invokevirtual 81, 3) := by decide +kernel
theorem dL_bestClick_13 : decode method_23_code 13 = .ok (.astore 4, 2) := by decide +kernel
theorem dL_bestClick_15 : decode method_23_code 15 = .ok (.iconst 1, 1) := by decide +kernel
theorem dL_bestClick_16 : decode method_23_code 16 = .ok (.ireturn, 1) := by decide +kernel
theorem dX8_bestClick_0 : decode prog_7_method_61_code 0 = .ok (.aload_n 0, 1) := by decide +kernel
theorem dX8_bestClick_1 : decode prog_7_method_61_code 1 = .ok (.aload_n 0, 1) := by decide +kernel
theorem dX8_bestClick_2 : decode prog_7_method_61_code 2 = .ok (.iload_n 1, 1) := by decide +kernel
theorem dX8_bestClick_3 : decode prog_7_method_61_code 3 = .ok (.iload_n 2, 1) := by decide +kernel
theorem dX8_bestClick_4 : decode prog_7_method_61_code 4 = .ok (.invokevirtual 174, 3) := by decide +kernel
theorem dX8_bestClick_7 : decode prog_7_method_61_code 7 = .ok (.iconst 1, 1) := by decide +kernel
theorem dX8_bestClick_8 : decode prog_7_method_61_code 8 = .ok (.invokevirtual 99, 3) := by decide +kernel
theorem dX8_bestClick_11 : decode prog_7_method_61_code 11 = .ok (.ifCond .eq 7, 3) := by decide +kernel
theorem dX8_bestClick_14 : decode prog_7_method_61_code 14 = .ok (.iconst 0, 1) := by decide +kernel
theorem dX8_bestClick_15 : decode prog_7_method_61_code 15 = .ok (.goto 9, 3) := by decide +kernel
theorem dX8_bestClick_18 : decode prog_7_method_61_code 18 = .ok (.aload_n 0, 1) := by decide +kernel
theorem dX8_bestClick_19 : decode prog_7_method_61_code 19 = .ok (.iload_n 1, 1) := by decide +kernel
theorem dX8_bestClick_20 : decode prog_7_method_61_code 20 = .ok (.iload_n 2, 1) := by decide +kernel
theorem dX8_bestClick_24 : decode prog_7_method_61_code 24 = .ok (.ireturn, 1) := by decide +kernel
theorem dX4_wouldMeet_0 : decode prog_1_method_50_code 0 = .ok (.aload_n 0, 1) := by decide +kernel
theorem dX4_wouldMeet_1 : decode prog_1_method_50_code 1 = .ok (.iload_n 1, 1) := by decide +kernel
theorem dX4_wouldMeet_2 : decode prog_1_method_50_code 2 = .ok (.iload_n 2, 1) := by decide +kernel
theorem dX4_wouldMeet_3 : decode prog_1_method_50_code 3 = .ok (.invokevirtual 76, 3) := by decide +kernel
theorem dX4_wouldMeet_6 : decode prog_1_method_50_code 6 = .ok (.iconst 0, 1) := by decide +kernel
theorem dX4_wouldMeet_7 : decode prog_1_method_50_code 7 = .ok (.istore_n 3, 1) := by decide +kernel
theorem dX4_wouldMeet_8 : decode prog_1_method_50_code 8 = .ok (.iconst 0, 1) := by decide +kernel
theorem dX4_wouldMeet_9 : decode prog_1_method_50_code 9 = .ok (.istore 4, 2) := by decide +kernel
theorem dX4_wouldMeet_11 : decode prog_1_method_50_code 11 = .ok (.iload 4, 2) := by decide +kernel
theorem dX4_wouldMeet_13 : decode prog_1_method_50_code 13 = .ok (.aload_n 0, 1) := by decide +kernel
theorem dX4_wouldMeet_14 : decode prog_1_method_50_code 14 = .ok (.getfield 12, 3) := by decide +kernel
theorem dX4_wouldMeet_17 : decode prog_1_method_50_code 17 = .ok (.invokevirtual 51, 3) := by decide +kernel
theorem dX4_wouldMeet_20 : decode prog_1_method_50_code 20 = .ok (.if_icmp .ge 58, 3) := by decide +kernel
theorem dX4_wouldMeet_23 : decode prog_1_method_50_code 23 = .ok (.aload_n 0, 1) := by decide +kernel
theorem dX4_wouldMeet_24 : decode prog_1_method_50_code 24 = .ok (.getfield 12, 3) := by decide +kernel
theorem dX4_wouldMeet_27 : decode prog_1_method_50_code 27 = .ok (.iload 4, 2) := by decide +kernel
theorem dX4_wouldMeet_78 : decode prog_1_method_50_code 78 = .ok (.iload_n 3, 1) := by decide +kernel
theorem dX4_wouldMeet_79 : decode prog_1_method_50_code 79 = .ok (.ireturn, 1) := by decide +kernel
theorem dL_wouldMeet_0 : decode method_24_code 0 = .ok (.aload_n 3, 1) := by decide +kernel
theorem dL_wouldMeet_1 : decode method_24_code 1 = .ok (.iconst 0, 1) := by decide +kernel
theorem dL_wouldMeet_2 : decode method_24_code 2 = .ok (.aload_n 0, 1) := by decide +kernel
theorem dL_wouldMeet_3 : decode method_24_code 3 = .ok (.iload_n 1, 1) := by decide +kernel
theorem dL_wouldMeet_4 : decode method_24_code 4 = .ok (.iload_n 2, 1) := by decide +kernel
theorem dL_wouldMeet_5 : decode method_24_code 5 = .ok (.invokevirtual 84, 3) := by decide +kernel
theorem dL_wouldMeet_8 : decode method_24_code 8 = .ok (.i2l, 1) := by decide +kernel
theorem dL_wouldMeet_9 : decode method_24_code 9 = .ok (.lastore, 1) := by decide +kernel
theorem dL_wouldMeet_10 : decode method_24_code 10 = .ok (.goto 7, 3) := by decide +kernel
theorem dL_wouldMeet_13 : decode method_24_code 13 = .ok (.astore 4, 2) := by decide +kernel
theorem dL_wouldMeet_15 : decode method_24_code 15 = .ok (.iconst 1, 1) := by decide +kernel
theorem dL_wouldMeet_16 : decode method_24_code 16 = .ok (.ireturn, 1) := by decide +kernel
theorem dL_wouldMeet_17 : decode method_24_code 17 = .ok (.iconst 0, 1) := by decide +kernel
theorem dL_wouldMeet_18 : decode method_24_code 18 = .ok (.ireturn, 1) := by decide +kernel
theorem dX8_wouldMeetNow_0 : decode prog_7_method_62_code 0 = .ok (.aload_n 0, 1) := by decide +kernel
theorem dX8_wouldMeetNow_1 : decode prog_7_method_62_code 1 = .ok (.invokevirtual 88, 3) := by decide +kernel
theorem dX8_wouldMeetNow_4 : decode prog_7_method_62_code 4 = .ok (.astore_n 3, 1) := by decide +kernel
theorem dX8_wouldMeetNow_5 : decode prog_7_method_62_code 5 = .ok (.iconst 0, 1) := by decide +kernel
theorem dX8_wouldMeetNow_6 : decode prog_7_method_62_code 6 = .ok (.istore 4, 2) := by decide +kernel
theorem dX8_wouldMeetNow_8 : decode prog_7_method_62_code 8 = .ok (.iload 4, 2) := by decide +kernel
theorem dX8_wouldMeetNow_10 : decode prog_7_method_62_code 10 = .ok (.aload_n 3, 1) := by decide +kernel
theorem dX8_wouldMeetNow_11 : decode prog_7_method_62_code 11 = .ok (.arraylength, 1) := by decide +kernel
theorem dX8_wouldMeetNow_12 : decode prog_7_method_62_code 12 = .ok (.if_icmp .ge 46, 3) := by decide +kernel
theorem dX8_wouldMeetNow_58 : decode prog_7_method_62_code 58 = .ok (.aload_n 0, 1) := by decide +kernel
theorem dX8_wouldMeetNow_59 : decode prog_7_method_62_code 59 = .ok (.invokevirtual 91, 3) := by decide +kernel
theorem dX8_wouldMeetNow_62 : decode prog_7_method_62_code 62 = .ok (.astore 4, 2) := by decide +kernel
theorem dX8_wouldMeetNow_64 : decode prog_7_method_62_code 64 = .ok (.iconst 0, 1) := by decide +kernel
theorem dX8_wouldMeetNow_65 : decode prog_7_method_62_code 65 = .ok (.istore 5, 2) := by decide +kernel
theorem dX8_wouldMeetNow_67 : decode prog_7_method_62_code 67 = .ok (.iload 5, 2) := by decide +kernel
theorem dX8_wouldMeetNow_69 : decode prog_7_method_62_code 69 = .ok (.aload 4, 2) := by decide +kernel
theorem dX8_wouldMeetNow_71 : decode prog_7_method_62_code 71 = .ok (.arraylength, 1) := by decide +kernel
theorem dX8_wouldMeetNow_72 : decode prog_7_method_62_code 72 = .ok (.if_icmp .ge 80, 3) := by decide +kernel
theorem dX8_wouldMeetNow_152 : decode prog_7_method_62_code 152 = .ok (.aload_n 0, 1) := by decide +kernel
theorem dX8_wouldMeetNow_153 : decode prog_7_method_62_code 153 = .ok (.aload_n 3, 1) := by decide +kernel
theorem dX8_wouldMeetNow_154 : decode prog_7_method_62_code 154 = .ok (.aload 4, 2) := by decide +kernel
theorem dX8_wouldMeetNow_156 : decode prog_7_method_62_code 156 = .ok (.invokevirtual 95, 3) := by decide +kernel
theorem dX8_wouldMeetNow_159 : decode prog_7_method_62_code 159 = .ok (.ireturn, 1) := by decide +kernel
theorem dX8_wouldMeet_0 : decode prog_7_method_63_code 0 = .ok (.aload_n 0, 1) := by decide +kernel
theorem dX8_wouldMeet_1 : decode prog_7_method_63_code 1 = .ok (.aload_n 0, 1) := by decide +kernel
theorem dX8_wouldMeet_2 : decode prog_7_method_63_code 2 = .ok (.iload_n 1, 1) := by decide +kernel
theorem dX8_wouldMeet_3 : decode prog_7_method_63_code 3 = .ok (.iload_n 2, 1) := by decide +kernel
theorem dX8_wouldMeet_4 : decode prog_7_method_63_code 4 = .ok (.invokevirtual 119, 3) := by decide +kernel
theorem dX8_wouldMeet_7 : decode prog_7_method_63_code 7 = .ok (.iconst 1, 1) := by decide +kernel
theorem dX8_wouldMeet_8 : decode prog_7_method_63_code 8 = .ok (.invokevirtual 99, 3) := by decide +kernel
theorem dX8_wouldMeet_11 : decode prog_7_method_63_code 11 = .ok (.ifCond .eq 7, 3) := by decide +kernel
theorem dX8_wouldMeet_14 : decode prog_7_method_63_code 14 = .ok (.iconst 0, 1) := by decide +kernel
theorem dX8_wouldMeet_15 : decode prog_7_method_63_code 15 = .ok (.goto 9, 3) := by decide +kernel
theorem dX8_wouldMeet_18 : decode prog_7_method_63_code 18 = .ok (.aload_n 0, 1) := by decide +kernel
theorem dX8_wouldMeet_19 : decode prog_7_method_63_code 19 = .ok (.iload_n 1, 1) := by decide +kernel
theorem dX8_wouldMeet_20 : decode prog_7_method_63_code 20 = .ok (.iload_n 2, 1) := by decide +kernel
theorem dX8_wouldMeet_21 : decode prog_7_method_63_code 21 = .ok (.invokevirtual 306, 3) := by decide +kernel
theorem dX8_wouldMeet_24 : decode prog_7_method_63_code 24 = .ok (.ireturn, 1) := by decide +kernel
theorem dX4_mixed_0 : decode prog_1_method_53_code 0 = .ok (.lload_n 0, 1) := by decide +kernel
theorem dX4_mixed_1 : decode prog_1_method_53_code 1 = .ok (.ldc2_w 412, 3) := by decide +kernel
theorem dX4_mixed_4 : decode prog_1_method_53_code 4 = .ok (.lmul, 1) := by decide +kernel
theorem dX4_mixed_5 : decode prog_1_method_53_code 5 = .ok (.lload_n 2, 1) := by decide +kernel
theorem dX4_mixed_6 : decode prog_1_method_53_code 6 = .ok (.ladd, 1) := by decide +kernel
theorem dX4_mixed_7 : decode prog_1_method_53_code 7 = .ok (.lreturn, 1) := by decide +kernel
theorem dJx4a65c_isEmpty_aae02_0 : decode prog_31_method_9_code 0 = .ok (.aload_n 0, 1) := by decide +kernel
theorem dJx4a65c_isEmpty_aae02_1 : decode prog_31_method_9_code 1 = .ok (.getfield 48, 3) := by decide +kernel
theorem dJx4a65c_isEmpty_aae02_4 : decode prog_31_method_9_code 4 = .ok (.ifCond .ne 7, 3) := by decide +kernel
theorem dJx4a65c_isEmpty_aae02_7 : decode prog_31_method_9_code 7 = .ok (.iconst 1, 1) := by decide +kernel
theorem dJx4a65c_isEmpty_aae02_8 : decode prog_31_method_9_code 8 = .ok (.goto 4, 3) := by decide +kernel
theorem dJx4a65c_isEmpty_aae02_11 : decode prog_31_method_9_code 11 = .ok (.iconst 0, 1) := by decide +kernel
theorem dJx4a65c_isEmpty_aae02_12 : decode prog_31_method_9_code 12 = .ok (.ireturn, 1) := by decide +kernel
theorem dX4_digest_0 : decode prog_1_method_51_code 0 = .ok (.ldc2_w 375, 3) := by decide +kernel
theorem dX4_digest_3 : decode prog_1_method_51_code 3 = .ok (.lstore_n 1, 1) := by decide +kernel
theorem dX4_digest_4 : decode prog_1_method_51_code 4 = .ok (.iconst 0, 1) := by decide +kernel
theorem dX4_digest_5 : decode prog_1_method_51_code 5 = .ok (.istore_n 3, 1) := by decide +kernel
theorem dX4_digest_6 : decode prog_1_method_51_code 6 = .ok (.iload_n 3, 1) := by decide +kernel
theorem dX4_digest_7 : decode prog_1_method_51_code 7 = .ok (.bipush 15, 2) := by decide +kernel
theorem dX4_digest_9 : decode prog_1_method_51_code 9 = .ok (.if_icmp .gt 20, 3) := by decide +kernel
theorem dX4_digest_12 : decode prog_1_method_51_code 12 = .ok (.lload_n 1, 1) := by decide +kernel
theorem dX4_digest_13 : decode prog_1_method_51_code 13 = .ok (.aload_n 0, 1) := by decide +kernel
theorem dX4_digest_14 : decode prog_1_method_51_code 14 = .ok (.iload_n 3, 1) := by decide +kernel
theorem dX4_digest_15 : decode prog_1_method_51_code 15 = .ok (.invokevirtual 377, 3) := by decide +kernel
theorem dX4_digest_18 : decode prog_1_method_51_code 18 = .ok (.i2l, 1) := by decide +kernel
theorem dX4_digest_19 : decode prog_1_method_51_code 19 = .ok (.invokestatic 380, 3) := by decide +kernel
theorem dX4_digest_22 : decode prog_1_method_51_code 22 = .ok (.lstore_n 1, 1) := by decide +kernel
theorem dX4_digest_23 : decode prog_1_method_51_code 23 = .ok (.iinc 3 1, 3) := by decide +kernel
theorem dX4_digest_26 : decode prog_1_method_51_code 26 = .ok (.goto (-20), 3) := by decide +kernel
theorem dX4_digest_29 : decode prog_1_method_51_code 29 = .ok (.iconst 0, 1) := by decide +kernel
theorem dX4_digest_30 : decode prog_1_method_51_code 30 = .ok (.istore_n 3, 1) := by decide +kernel
theorem dX4_digest_31 : decode prog_1_method_51_code 31 = .ok (.iload_n 3, 1) := by decide +kernel
theorem dX4_digest_32 : decode prog_1_method_51_code 32 = .ok (.aload_n 0, 1) := by decide +kernel
theorem dX4_digest_33 : decode prog_1_method_51_code 33 = .ok (.getfield 12, 3) := by decide +kernel
theorem dX4_digest_36 : decode prog_1_method_51_code 36 = .ok (.invokevirtual 51, 3) := by decide +kernel
theorem dX4_digest_39 : decode prog_1_method_51_code 39 = .ok (.if_icmp .ge 38, 3) := by decide +kernel
theorem dX4_digest_42 : decode prog_1_method_51_code 42 = .ok (.iconst 0, 1) := by decide +kernel
theorem dX4_digest_43 : decode prog_1_method_51_code 43 = .ok (.istore 4, 2) := by decide +kernel
theorem dX4_digest_45 : decode prog_1_method_51_code 45 = .ok (.iload 4, 2) := by decide +kernel
theorem dX4_digest_47 : decode prog_1_method_51_code 47 = .ok (.bipush 6, 2) := by decide +kernel
theorem dX4_digest_49 : decode prog_1_method_51_code 49 = .ok (.if_icmp .gt 22, 3) := by decide +kernel
theorem dX4_digest_52 : decode prog_1_method_51_code 52 = .ok (.lload_n 1, 1) := by decide +kernel
theorem dX4_digest_53 : decode prog_1_method_51_code 53 = .ok (.aload_n 0, 1) := by decide +kernel
theorem dX4_digest_54 : decode prog_1_method_51_code 54 = .ok (.iload_n 3, 1) := by decide +kernel
theorem dX4_digest_55 : decode prog_1_method_51_code 55 = .ok (.iload 4, 2) := by decide +kernel
theorem dX4_digest_71 : decode prog_1_method_51_code 71 = .ok (.iinc 3 1, 3) := by decide +kernel
theorem dX4_digest_74 : decode prog_1_method_51_code 74 = .ok (.goto (-43), 3) := by decide +kernel
theorem dX4_digest_77 : decode prog_1_method_51_code 77 = .ok (.iconst 0, 1) := by decide +kernel
theorem dX4_digest_78 : decode prog_1_method_51_code 78 = .ok (.istore_n 3, 1) := by decide +kernel
theorem dX4_digest_79 : decode prog_1_method_51_code 79 = .ok (.iload_n 3, 1) := by decide +kernel
theorem dX4_digest_80 : decode prog_1_method_51_code 80 = .ok (.aload_n 0, 1) := by decide +kernel
theorem dX4_digest_81 : decode prog_1_method_51_code 81 = .ok (.getfield 20, 3) := by decide +kernel
theorem dX4_digest_84 : decode prog_1_method_51_code 84 = .ok (.invokevirtual 51, 3) := by decide +kernel
theorem dX4_digest_87 : decode prog_1_method_51_code 87 = .ok (.if_icmp .ge 16, 3) := by decide +kernel
theorem dX4_digest_90 : decode prog_1_method_51_code 90 = .ok (.aload_n 0, 1) := by decide +kernel
theorem dX4_digest_91 : decode prog_1_method_51_code 91 = .ok (.lload_n 1, 1) := by decide +kernel
theorem dX4_digest_92 : decode prog_1_method_51_code 92 = .ok (.iload_n 3, 1) := by decide +kernel
theorem dX4_digest_103 : decode prog_1_method_51_code 103 = .ok (.iconst 0, 1) := by decide +kernel
theorem dX4_digest_104 : decode prog_1_method_51_code 104 = .ok (.istore_n 3, 1) := by decide +kernel
theorem dX4_digest_105 : decode prog_1_method_51_code 105 = .ok (.iload_n 3, 1) := by decide +kernel
theorem dX4_digest_106 : decode prog_1_method_51_code 106 = .ok (.aload_n 0, 1) := by decide +kernel
theorem dX4_digest_107 : decode prog_1_method_51_code 107 = .ok (.getfield 23, 3) := by decide +kernel
theorem dX4_digest_110 : decode prog_1_method_51_code 110 = .ok (.invokevirtual 51, 3) := by decide +kernel
theorem dX4_digest_113 : decode prog_1_method_51_code 113 = .ok (.if_icmp .ge 37, 3) := by decide +kernel
theorem dX4_digest_116 : decode prog_1_method_51_code 116 = .ok (.iconst 0, 1) := by decide +kernel
theorem dX4_digest_117 : decode prog_1_method_51_code 117 = .ok (.istore 4, 2) := by decide +kernel
theorem dX4_digest_119 : decode prog_1_method_51_code 119 = .ok (.iload 4, 2) := by decide +kernel
theorem dX4_digest_121 : decode prog_1_method_51_code 121 = .ok (.iconst 4, 1) := by decide +kernel
theorem dX4_digest_122 : decode prog_1_method_51_code 122 = .ok (.if_icmp .gt 22, 3) := by decide +kernel
theorem dX4_digest_125 : decode prog_1_method_51_code 125 = .ok (.lload_n 1, 1) := by decide +kernel
theorem dX4_digest_126 : decode prog_1_method_51_code 126 = .ok (.aload_n 0, 1) := by decide +kernel
theorem dX4_digest_127 : decode prog_1_method_51_code 127 = .ok (.iload_n 3, 1) := by decide +kernel
theorem dX4_digest_128 : decode prog_1_method_51_code 128 = .ok (.iload 4, 2) := by decide +kernel
theorem dX4_digest_144 : decode prog_1_method_51_code 144 = .ok (.iinc 3 1, 3) := by decide +kernel
theorem dX4_digest_147 : decode prog_1_method_51_code 147 = .ok (.goto (-42), 3) := by decide +kernel
theorem dX4_digest_150 : decode prog_1_method_51_code 150 = .ok (.iconst 0, 1) := by decide +kernel
theorem dX4_digest_151 : decode prog_1_method_51_code 151 = .ok (.istore_n 3, 1) := by decide +kernel
theorem dX4_digest_152 : decode prog_1_method_51_code 152 = .ok (.iload_n 3, 1) := by decide +kernel
theorem dX4_digest_153 : decode prog_1_method_51_code 153 = .ok (.iconst 4, 1) := by decide +kernel
theorem dX4_digest_154 : decode prog_1_method_51_code 154 = .ok (.if_icmp .ge 20, 3) := by decide +kernel
theorem dX4_digest_157 : decode prog_1_method_51_code 157 = .ok (.lload_n 1, 1) := by decide +kernel
theorem dX4_digest_158 : decode prog_1_method_51_code 158 = .ok (.aload_n 0, 1) := by decide +kernel
theorem dX4_digest_159 : decode prog_1_method_51_code 159 = .ok (.iload_n 3, 1) := by decide +kernel
theorem dX4_digest_160 : decode prog_1_method_51_code 160 = .ok (.invokevirtual 394, 3) := by decide +kernel
theorem dX4_digest_163 : decode prog_1_method_51_code 163 = .ok (.i2l, 1) := by decide +kernel
theorem dX4_digest_164 : decode prog_1_method_51_code 164 = .ok (.invokestatic 380, 3) := by decide +kernel
theorem dX4_digest_167 : decode prog_1_method_51_code 167 = .ok (.lstore_n 1, 1) := by decide +kernel
theorem dX4_digest_168 : decode prog_1_method_51_code 168 = .ok (.iinc 3 1, 3) := by decide +kernel
theorem dX4_digest_171 : decode prog_1_method_51_code 171 = .ok (.goto (-19), 3) := by decide +kernel
theorem dX4_digest_174 : decode prog_1_method_51_code 174 = .ok (.lload_n 1, 1) := by decide +kernel
theorem dX4_digest_175 : decode prog_1_method_51_code 175 = .ok (.aload_n 0, 1) := by decide +kernel
theorem dX4_digest_176 : decode prog_1_method_51_code 176 = .ok (.aload_n 0, 1) := by decide +kernel
theorem dX4_digest_177 : decode prog_1_method_51_code 177 = .ok (.getfield 26, 3) := by decide +kernel
theorem dX4_digest_180 : decode prog_1_method_51_code 180 = .ok (.iconst 2, 1) := by decide +kernel
theorem dX4_digest_181 : decode prog_1_method_51_code 181 = .ok (.idiv, 1) := by decide +kernel
theorem dX4_digest_182 : decode prog_1_method_51_code 182 = .ok (.bipush 24, 2) := by decide +kernel
theorem dX4_digest_184 : decode prog_1_method_51_code 184 = .ok (.invokevirtual 397, 3) := by decide +kernel
theorem dX4_digest_187 : decode prog_1_method_51_code 187 = .ok (.i2l, 1) := by decide +kernel
theorem dX4_digest_188 : decode prog_1_method_51_code 188 = .ok (.invokestatic 380, 3) := by decide +kernel
theorem dX4_digest_191 : decode prog_1_method_51_code 191 = .ok (.lstore_n 1, 1) := by decide +kernel
theorem dX4_digest_192 : decode prog_1_method_51_code 192 = .ok (.aload_n 0, 1) := by decide +kernel
theorem dX4_digest_193 : decode prog_1_method_51_code 193 = .ok (.getfield 20, 3) := by decide +kernel
theorem dX4_digest_196 : decode prog_1_method_51_code 196 = .ok (.invokevirtual 400, 3) := by decide +kernel
theorem dX4_digest_199 : decode prog_1_method_51_code 199 = .ok (.ifCond .eq 7, 3) := by decide +kernel
theorem dX4_digest_202 : decode prog_1_method_51_code 202 = .ok (.lload_n 1, 1) := by decide +kernel
theorem dX4_digest_203 : decode prog_1_method_51_code 203 = .ok (.goto 13, 3) := by decide +kernel
theorem dX4_digest_206 : decode prog_1_method_51_code 206 = .ok (.lload_n 1, 1) := by decide +kernel
theorem dX4_digest_207 : decode prog_1_method_51_code 207 = .ok (.aload_n 0, 1) := by decide +kernel
theorem dX4_digest_208 : decode prog_1_method_51_code 208 = .ok (.iconst 0, 1) := by decide +kernel
theorem dX4_digest_216 : decode prog_1_method_51_code 216 = .ok (.lreturn, 1) := by decide +kernel
theorem dX8_add_0 : decode prog_7_method_64_code 0 = .ok (.lload_n 0, 1) := by decide +kernel
theorem dX8_add_1 : decode prog_7_method_64_code 1 = .ok (.ldc2_w 309, 3) := by decide +kernel
theorem dX8_add_4 : decode prog_7_method_64_code 4 = .ok (.lmul, 1) := by decide +kernel
theorem dX8_add_5 : decode prog_7_method_64_code 5 = .ok (.lload_n 2, 1) := by decide +kernel
theorem dX8_add_6 : decode prog_7_method_64_code 6 = .ok (.ladd, 1) := by decide +kernel
theorem dX8_add_7 : decode prog_7_method_64_code 7 = .ok (.lreturn, 1) := by decide +kernel
theorem dX8_digest_0 : decode prog_7_method_66_code 0 = .ok (.aload_n 0, 1) := by decide +kernel
theorem dX8_digest_1 : decode prog_7_method_66_code 1 = .ok (.iconst 0, 1) := by decide +kernel
theorem dX8_digest_2 : decode prog_7_method_66_code 2 = .ok (.putfield 29, 3) := by decide +kernel
theorem dX8_digest_5 : decode prog_7_method_66_code 5 = .ok (.ldc2_w 316, 3) := by decide +kernel
theorem dX8_digest_8 : decode prog_7_method_66_code 8 = .ok (.lstore_n 1, 1) := by decide +kernel
theorem dX8_digest_9 : decode prog_7_method_66_code 9 = .ok (.iconst 0, 1) := by decide +kernel
theorem dX8_digest_10 : decode prog_7_method_66_code 10 = .ok (.istore_n 3, 1) := by decide +kernel
theorem dX8_digest_11 : decode prog_7_method_66_code 11 = .ok (.iload_n 3, 1) := by decide +kernel
theorem dX8_digest_12 : decode prog_7_method_66_code 12 = .ok (.bipush 16, 2) := by decide +kernel
theorem dX8_digest_14 : decode prog_7_method_66_code 14 = .ok (.if_icmp .ge 20, 3) := by decide +kernel
theorem dX8_digest_17 : decode prog_7_method_66_code 17 = .ok (.lload_n 1, 1) := by decide +kernel
theorem dX8_digest_18 : decode prog_7_method_66_code 18 = .ok (.aload_n 0, 1) := by decide +kernel
theorem dX8_digest_19 : decode prog_7_method_66_code 19 = .ok (.iload_n 3, 1) := by decide +kernel
theorem dX8_digest_20 : decode prog_7_method_66_code 20 = .ok (.invokevirtual 290, 3) := by decide +kernel
theorem dX8_digest_23 : decode prog_7_method_66_code 23 = .ok (.i2l, 1) := by decide +kernel
theorem dX8_digest_24 : decode prog_7_method_66_code 24 = .ok (.invokestatic 311, 3) := by decide +kernel
theorem dX8_digest_27 : decode prog_7_method_66_code 27 = .ok (.lstore_n 1, 1) := by decide +kernel
theorem dX8_digest_28 : decode prog_7_method_66_code 28 = .ok (.iinc 3 1, 3) := by decide +kernel
theorem dX8_digest_31 : decode prog_7_method_66_code 31 = .ok (.goto (-20), 3) := by decide +kernel
theorem dX8_digest_34 : decode prog_7_method_66_code 34 = .ok (.aload_n 0, 1) := by decide +kernel
theorem dX8_digest_35 : decode prog_7_method_66_code 35 = .ok (.invokevirtual 91, 3) := by decide +kernel
theorem dX8_digest_38 : decode prog_7_method_66_code 38 = .ok (.astore_n 3, 1) := by decide +kernel
theorem dX8_digest_39 : decode prog_7_method_66_code 39 = .ok (.iconst 0, 1) := by decide +kernel
theorem dX8_digest_40 : decode prog_7_method_66_code 40 = .ok (.istore 4, 2) := by decide +kernel
theorem dX8_digest_42 : decode prog_7_method_66_code 42 = .ok (.iload 4, 2) := by decide +kernel
theorem dX8_digest_44 : decode prog_7_method_66_code 44 = .ok (.aload_n 0, 1) := by decide +kernel
theorem dX8_digest_45 : decode prog_7_method_66_code 45 = .ok (.getfield 16, 3) := by decide +kernel
theorem dX8_digest_48 : decode prog_7_method_66_code 48 = .ok (.invokevirtual 36, 3) := by decide +kernel
theorem dX8_digest_51 : decode prog_7_method_66_code 51 = .ok (.if_icmp .ge 40, 3) := by decide +kernel
theorem dX8_digest_54 : decode prog_7_method_66_code 54 = .ok (.iconst 0, 1) := by decide +kernel
theorem dX8_digest_55 : decode prog_7_method_66_code 55 = .ok (.istore 5, 2) := by decide +kernel
theorem dX8_digest_57 : decode prog_7_method_66_code 57 = .ok (.iload 5, 2) := by decide +kernel
theorem dX8_digest_59 : decode prog_7_method_66_code 59 = .ok (.bipush 7, 2) := by decide +kernel
theorem dX8_digest_61 : decode prog_7_method_66_code 61 = .ok (.if_icmp .ge 24, 3) := by decide +kernel
theorem dX8_digest_64 : decode prog_7_method_66_code 64 = .ok (.lload_n 1, 1) := by decide +kernel
theorem dX8_digest_65 : decode prog_7_method_66_code 65 = .ok (.aload_n 0, 1) := by decide +kernel
theorem dX8_digest_66 : decode prog_7_method_66_code 66 = .ok (.iload 4, 2) := by decide +kernel
theorem dX8_digest_68 : decode prog_7_method_66_code 68 = .ok (.iload 5, 2) := by decide +kernel
theorem dX8_digest_70 : decode prog_7_method_66_code 70 = .ok (.aload_n 3, 1) := by decide +kernel
theorem dX8_digest_85 : decode prog_7_method_66_code 85 = .ok (.iinc 4 1, 3) := by decide +kernel
theorem dX8_digest_88 : decode prog_7_method_66_code 88 = .ok (.goto (-46), 3) := by decide +kernel
theorem dX8_digest_91 : decode prog_7_method_66_code 91 = .ok (.iconst 0, 1) := by decide +kernel
theorem dX8_digest_92 : decode prog_7_method_66_code 92 = .ok (.istore 4, 2) := by decide +kernel
theorem dX8_digest_94 : decode prog_7_method_66_code 94 = .ok (.iload 4, 2) := by decide +kernel
theorem dX8_digest_96 : decode prog_7_method_66_code 96 = .ok (.aload_n 0, 1) := by decide +kernel
theorem dX8_digest_97 : decode prog_7_method_66_code 97 = .ok (.getfield 23, 3) := by decide +kernel
theorem dX8_digest_100 : decode prog_7_method_66_code 100 = .ok (.invokevirtual 36, 3) := by decide +kernel
theorem dX8_digest_103 : decode prog_7_method_66_code 103 = .ok (.if_icmp .ge 17, 3) := by decide +kernel
theorem dX8_digest_106 : decode prog_7_method_66_code 106 = .ok (.aload_n 0, 1) := by decide +kernel
theorem dX8_digest_107 : decode prog_7_method_66_code 107 = .ok (.lload_n 1, 1) := by decide +kernel
theorem dX8_digest_108 : decode prog_7_method_66_code 108 = .ok (.iload 4, 2) := by decide +kernel
theorem dX8_digest_120 : decode prog_7_method_66_code 120 = .ok (.iconst 0, 1) := by decide +kernel
theorem dX8_digest_121 : decode prog_7_method_66_code 121 = .ok (.istore 4, 2) := by decide +kernel
theorem dX8_digest_123 : decode prog_7_method_66_code 123 = .ok (.iload 4, 2) := by decide +kernel
theorem dX8_digest_125 : decode prog_7_method_66_code 125 = .ok (.aload_n 0, 1) := by decide +kernel
theorem dX8_digest_126 : decode prog_7_method_66_code 126 = .ok (.getfield 26, 3) := by decide +kernel
theorem dX8_digest_129 : decode prog_7_method_66_code 129 = .ok (.invokevirtual 36, 3) := by decide +kernel
theorem dX8_digest_132 : decode prog_7_method_66_code 132 = .ok (.if_icmp .ge 38, 3) := by decide +kernel
theorem dX8_digest_135 : decode prog_7_method_66_code 135 = .ok (.iconst 0, 1) := by decide +kernel
theorem dX8_digest_136 : decode prog_7_method_66_code 136 = .ok (.istore 5, 2) := by decide +kernel
theorem dX8_digest_138 : decode prog_7_method_66_code 138 = .ok (.iload 5, 2) := by decide +kernel
theorem dX8_digest_140 : decode prog_7_method_66_code 140 = .ok (.iconst 5, 1) := by decide +kernel
theorem dX8_digest_141 : decode prog_7_method_66_code 141 = .ok (.if_icmp .ge 23, 3) := by decide +kernel
theorem dX8_digest_144 : decode prog_7_method_66_code 144 = .ok (.lload_n 1, 1) := by decide +kernel
theorem dX8_digest_145 : decode prog_7_method_66_code 145 = .ok (.aload_n 0, 1) := by decide +kernel
theorem dX8_digest_146 : decode prog_7_method_66_code 146 = .ok (.iload 4, 2) := by decide +kernel
theorem dX8_digest_148 : decode prog_7_method_66_code 148 = .ok (.iload 5, 2) := by decide +kernel
theorem dX8_digest_164 : decode prog_7_method_66_code 164 = .ok (.iinc 4 1, 3) := by decide +kernel
theorem dX8_digest_167 : decode prog_7_method_66_code 167 = .ok (.goto (-44), 3) := by decide +kernel
theorem dX8_digest_170 : decode prog_7_method_66_code 170 = .ok (.iconst 0, 1) := by decide +kernel
theorem dX8_digest_171 : decode prog_7_method_66_code 171 = .ok (.istore 4, 2) := by decide +kernel
theorem dX8_digest_173 : decode prog_7_method_66_code 173 = .ok (.iload 4, 2) := by decide +kernel
theorem dX8_digest_175 : decode prog_7_method_66_code 175 = .ok (.iconst 4, 1) := by decide +kernel
theorem dX8_digest_176 : decode prog_7_method_66_code 176 = .ok (.if_icmp .ge 21, 3) := by decide +kernel
theorem dX8_digest_179 : decode prog_7_method_66_code 179 = .ok (.lload_n 1, 1) := by decide +kernel
theorem dX8_digest_180 : decode prog_7_method_66_code 180 = .ok (.aload_n 0, 1) := by decide +kernel
theorem dX8_digest_181 : decode prog_7_method_66_code 181 = .ok (.iload 4, 2) := by decide +kernel
theorem dX8_digest_183 : decode prog_7_method_66_code 183 = .ok (.invokevirtual 281, 3) := by decide +kernel
theorem dX8_digest_186 : decode prog_7_method_66_code 186 = .ok (.i2l, 1) := by decide +kernel
theorem dX8_digest_187 : decode prog_7_method_66_code 187 = .ok (.invokestatic 311, 3) := by decide +kernel
theorem dX8_digest_190 : decode prog_7_method_66_code 190 = .ok (.lstore_n 1, 1) := by decide +kernel
theorem dX8_digest_191 : decode prog_7_method_66_code 191 = .ok (.iinc 4 1, 3) := by decide +kernel
theorem dX8_digest_194 : decode prog_7_method_66_code 194 = .ok (.goto (-21), 3) := by decide +kernel
theorem dX8_digest_197 : decode prog_7_method_66_code 197 = .ok (.lload_n 1, 1) := by decide +kernel
theorem dX8_digest_198 : decode prog_7_method_66_code 198 = .ok (.aload_n 0, 1) := by decide +kernel
theorem dX8_digest_199 : decode prog_7_method_66_code 199 = .ok (.aload_n 0, 1) := by decide +kernel
theorem dX8_digest_200 : decode prog_7_method_66_code 200 = .ok (.getfield 9, 3) := by decide +kernel
theorem dX8_digest_203 : decode prog_7_method_66_code 203 = .ok (.iconst 2, 1) := by decide +kernel
theorem dX8_digest_204 : decode prog_7_method_66_code 204 = .ok (.idiv, 1) := by decide +kernel
theorem dX8_digest_205 : decode prog_7_method_66_code 205 = .ok (.bipush 24, 2) := by decide +kernel
theorem dX8_digest_207 : decode prog_7_method_66_code 207 = .ok (.invokevirtual 306, 3) := by decide +kernel
theorem dX8_digest_210 : decode prog_7_method_66_code 210 = .ok (.i2l, 1) := by decide +kernel
theorem dX8_digest_211 : decode prog_7_method_66_code 211 = .ok (.invokestatic 311, 3) := by decide +kernel
theorem dX8_digest_214 : decode prog_7_method_66_code 214 = .ok (.lstore_n 1, 1) := by decide +kernel
theorem dX8_digest_215 : decode prog_7_method_66_code 215 = .ok (.aload_n 0, 1) := by decide +kernel
theorem dX8_digest_216 : decode prog_7_method_66_code 216 = .ok (.getfield 23, 3) := by decide +kernel
theorem dX8_digest_219 : decode prog_7_method_66_code 219 = .ok (.invokevirtual 322, 3) := by decide +kernel
theorem dX8_digest_222 : decode prog_7_method_66_code 222 = .ok (.ifCond .eq 7, 3) := by decide +kernel
theorem dX8_digest_225 : decode prog_7_method_66_code 225 = .ok (.lload_n 1, 1) := by decide +kernel
theorem dX8_digest_226 : decode prog_7_method_66_code 226 = .ok (.goto 13, 3) := by decide +kernel
theorem dX8_digest_229 : decode prog_7_method_66_code 229 = .ok (.lload_n 1, 1) := by decide +kernel
theorem dX8_digest_230 : decode prog_7_method_66_code 230 = .ok (.aload_n 0, 1) := by decide +kernel
theorem dX8_digest_231 : decode prog_7_method_66_code 231 = .ok (.iconst 0, 1) := by decide +kernel
theorem dX8_digest_239 : decode prog_7_method_66_code 239 = .ok (.lreturn, 1) := by decide +kernel
theorem dL_law_0 : decode code 0 = .ok (.new 8, 3) := by decide +kernel
theorem dL_law_3 : decode code 3 = .ok (.dup, 1) := by decide +kernel
theorem dL_law_4 : decode code 4 = .ok (.invokespecial 87, 3) := by decide +kernel
theorem dL_law_7 : decode code 7 = .ok (.astore_n 1, 1) := by decide +kernel
theorem dL_law_8 : decode code 8 = .ok (.new 88, 3) := by decide +kernel
theorem dL_law_11 : decode code 11 = .ok (.dup, 1) := by decide +kernel
theorem dL_law_12 : decode code 12 = .ok (.invokespecial 90, 3) := by decide +kernel
theorem dL_law_15 : decode code 15 = .ok (.astore_n 2, 1) := by decide +kernel
theorem dL_law_16 : decode code 16 = .ok (.iconst 1, 1) := by decide +kernel
theorem dL_law_17 : decode code 17 = .ok (.newarray .long, 2) := by decide +kernel
theorem dL_law_19 : decode code 19 = .ok (.astore_n 3, 1) := by decide +kernel
theorem dL_law_20 : decode code 20 = .ok (.iconst 0, 1) := by decide +kernel
theorem dL_law_21 : decode code 21 = .ok (.istore 4, 2) := by decide +kernel
theorem dL_law_23 : decode code 23 = .ok (.iload 4, 2) := by decide +kernel
theorem dL_law_25 : decode code 25 = .ok (.aload_n 0, 1) := by decide +kernel
theorem dL_law_26 : decode code 26 = .ok (.arraylength, 1) := by decide +kernel
theorem dL_law_27 : decode code 27 = .ok (.bipush 6, 2) := by decide +kernel
theorem dL_law_29 : decode code 29 = .ok (.isub, 1) := by decide +kernel
theorem dL_law_30 : decode code 30 = .ok (.if_icmp .gt 1679, 3) := by decide +kernel
theorem dL_law_33 : decode code 33 = .ok (.aload_n 0, 1) := by decide +kernel
theorem dL_law_34 : decode code 34 = .ok (.iload 4, 2) := by decide +kernel
theorem dL_law_36 : decode code 36 = .ok (.iaload, 1) := by decide +kernel
theorem dL_law_37 : decode code 37 = .ok (.bipush 31, 2) := by decide +kernel
theorem dL_law_39 : decode code 39 = .ok (.iand, 1) := by decide +kernel
theorem dL_law_40 : decode code 40 = .ok (.tableswitch 1663 0 23 #[112, 180, 236, 304, 408, 488, 580, 648, 704, 784, 828, 896, 964, 1044, 1112, 1180, 1236, 1292, 1333, 1389, 1457, 1513, 1581, 1649], 112) := by decide +kernel
theorem dL_law_152 : decode code 152 = .ok (.aload_n 1, 1) := by decide +kernel
theorem dL_law_153 : decode code 153 = .ok (.aload_n 0, 1) := by decide +kernel
theorem dL_law_154 : decode code 154 = .ok (.iload 4, 2) := by decide +kernel
theorem dL_law_156 : decode code 156 = .ok (.iconst 1, 1) := by decide +kernel
theorem dL_law_157 : decode code 157 = .ok (.iadd, 1) := by decide +kernel
theorem dL_law_158 : decode code 158 = .ok (.iaload, 1) := by decide +kernel
theorem dL_law_159 : decode code 159 = .ok (.aload_n 0, 1) := by decide +kernel
theorem dL_law_160 : decode code 160 = .ok (.iload 4, 2) := by decide +kernel
theorem dL_law_162 : decode code 162 = .ok (.iconst 2, 1) := by decide +kernel
theorem dL_law_163 : decode code 163 = .ok (.iadd, 1) := by decide +kernel
theorem dL_law_164 : decode code 164 = .ok (.iaload, 1) := by decide +kernel
theorem dL_law_165 : decode code 165 = .ok (.aload_n 3, 1) := by decide +kernel
theorem dL_law_166 : decode code 166 = .ok (.invokestatic 91, 3) := by decide +kernel
theorem dL_law_169 : decode code 169 = .ok (.istore 5, 2) := by decide +kernel
theorem dL_law_171 : decode code 171 = .ok (.aload_n 2, 1) := by decide +kernel
theorem dL_law_172 : decode code 172 = .ok (.aload_n 0, 1) := by decide +kernel
theorem dL_law_173 : decode code 173 = .ok (.iload 4, 2) := by decide +kernel
theorem dL_law_175 : decode code 175 = .ok (.iconst 1, 1) := by decide +kernel
theorem dL_law_176 : decode code 176 = .ok (.iadd, 1) := by decide +kernel
theorem dL_law_177 : decode code 177 = .ok (.iaload, 1) := by decide +kernel
theorem dL_law_178 : decode code 178 = .ok (.aload_n 0, 1) := by decide +kernel
theorem dL_law_179 : decode code 179 = .ok (.iload 4, 2) := by decide +kernel
theorem dL_law_181 : decode code 181 = .ok (.iconst 2, 1) := by decide +kernel
theorem dL_law_182 : decode code 182 = .ok (.iadd, 1) := by decide +kernel
theorem dL_law_183 : decode code 183 = .ok (.iaload, 1) := by decide +kernel
theorem dL_law_184 : decode code 184 = .ok (.invokevirtual 96, 3) := by decide +kernel
theorem dL_law_187 : decode code 187 = .ok (.istore 6, 2) := by decide +kernel
theorem dL_law_189 : decode code 189 = .ok (.aload_n 2, 1) := by decide +kernel
theorem dL_law_190 : decode code 190 = .ok (.invokevirtual 97, 3) := by decide +kernel
theorem dL_law_193 : decode code 193 = .ok (.iload 5, 2) := by decide +kernel
theorem dL_law_195 : decode code 195 = .ok (.if_icmp .eq 5, 3) := by decide +kernel
theorem dL_law_198 : decode code 198 = .ok (.iconst 0, 1) := by decide +kernel
theorem dL_law_199 : decode code 199 = .ok (.ireturn, 1) := by decide +kernel
theorem dL_law_200 : decode code 200 = .ok (.iload 5, 2) := by decide +kernel
theorem dL_law_202 : decode code 202 = .ok (.ifCond .ne 15, 3) := by decide +kernel
theorem dL_law_205 : decode code 205 = .ok (.aload_n 3, 1) := by decide +kernel
theorem dL_law_206 : decode code 206 = .ok (.iconst 0, 1) := by decide +kernel
theorem dL_law_207 : decode code 207 = .ok (.laload, 1) := by decide +kernel
theorem dL_law_208 : decode code 208 = .ok (.iload 6, 2) := by decide +kernel
theorem dL_law_210 : decode code 210 = .ok (.i2l, 1) := by decide +kernel
theorem dL_law_211 : decode code 211 = .ok (.lcmp, 1) := by decide +kernel
theorem dL_law_212 : decode code 212 = .ok (.ifCond .eq 5, 3) := by decide +kernel
theorem dL_law_215 : decode code 215 = .ok (.iconst 0, 1) := by decide +kernel
theorem dL_law_216 : decode code 216 = .ok (.ireturn, 1) := by decide +kernel
theorem dL_law_217 : decode code 217 = .ok (.goto 1486, 3) := by decide +kernel
theorem dL_law_220 : decode code 220 = .ok (.aload_n 1, 1) := by decide +kernel
theorem dL_law_221 : decode code 221 = .ok (.aload_n 0, 1) := by decide +kernel
theorem dL_law_222 : decode code 222 = .ok (.iload 4, 2) := by decide +kernel
theorem dL_law_224 : decode code 224 = .ok (.iconst 1, 1) := by decide +kernel
theorem dL_law_225 : decode code 225 = .ok (.iadd, 1) := by decide +kernel
theorem dL_law_226 : decode code 226 = .ok (.iaload, 1) := by decide +kernel
theorem dL_law_227 : decode code 227 = .ok (.aload_n 3, 1) := by decide +kernel
theorem dL_law_228 : decode code 228 = .ok (.invokestatic 100, 3) := by decide +kernel
theorem dL_law_231 : decode code 231 = .ok (.istore 5, 2) := by decide +kernel
theorem dL_law_233 : decode code 233 = .ok (.aload_n 2, 1) := by decide +kernel
theorem dL_law_234 : decode code 234 = .ok (.aload_n 0, 1) := by decide +kernel
theorem dL_law_235 : decode code 235 = .ok (.iload 4, 2) := by decide +kernel
theorem dL_law_237 : decode code 237 = .ok (.iconst 1, 1) := by decide +kernel
theorem dL_law_238 : decode code 238 = .ok (.iadd, 1) := by decide +kernel
theorem dL_law_239 : decode code 239 = .ok (.iaload, 1) := by decide +kernel
theorem dL_law_240 : decode code 240 = .ok (.invokevirtual 103, 3) := by decide +kernel
theorem dL_law_243 : decode code 243 = .ok (.istore 6, 2) := by decide +kernel
theorem dL_law_245 : decode code 245 = .ok (.aload_n 2, 1) := by decide +kernel
theorem dL_law_246 : decode code 246 = .ok (.invokevirtual 97, 3) := by decide +kernel
theorem dL_law_249 : decode code 249 = .ok (.iload 5, 2) := by decide +kernel
theorem dL_law_251 : decode code 251 = .ok (.if_icmp .eq 5, 3) := by decide +kernel
theorem dL_law_254 : decode code 254 = .ok (.iconst 0, 1) := by decide +kernel
theorem dL_law_255 : decode code 255 = .ok (.ireturn, 1) := by decide +kernel
theorem dL_law_256 : decode code 256 = .ok (.iload 5, 2) := by decide +kernel
theorem dL_law_258 : decode code 258 = .ok (.ifCond .ne 15, 3) := by decide +kernel
theorem dL_law_261 : decode code 261 = .ok (.aload_n 3, 1) := by decide +kernel
theorem dL_law_262 : decode code 262 = .ok (.iconst 0, 1) := by decide +kernel
theorem dL_law_263 : decode code 263 = .ok (.laload, 1) := by decide +kernel
theorem dL_law_264 : decode code 264 = .ok (.iload 6, 2) := by decide +kernel
theorem dL_law_266 : decode code 266 = .ok (.i2l, 1) := by decide +kernel
theorem dL_law_267 : decode code 267 = .ok (.lcmp, 1) := by decide +kernel
theorem dL_law_268 : decode code 268 = .ok (.ifCond .eq 5, 3) := by decide +kernel
theorem dL_law_271 : decode code 271 = .ok (.iconst 0, 1) := by decide +kernel
theorem dL_law_272 : decode code 272 = .ok (.ireturn, 1) := by decide +kernel
theorem dL_law_273 : decode code 273 = .ok (.goto 1430, 3) := by decide +kernel
theorem dL_law_276 : decode code 276 = .ok (.aload_n 1, 1) := by decide +kernel
theorem dL_law_277 : decode code 277 = .ok (.aload_n 0, 1) := by decide +kernel
theorem dL_law_278 : decode code 278 = .ok (.iload 4, 2) := by decide +kernel
theorem dL_law_280 : decode code 280 = .ok (.iconst 1, 1) := by decide +kernel
theorem dL_law_281 : decode code 281 = .ok (.iadd, 1) := by decide +kernel
theorem dL_law_282 : decode code 282 = .ok (.iaload, 1) := by decide +kernel
theorem dL_law_283 : decode code 283 = .ok (.aload_n 0, 1) := by decide +kernel
theorem dL_law_284 : decode code 284 = .ok (.iload 4, 2) := by decide +kernel
theorem dL_law_286 : decode code 286 = .ok (.iconst 2, 1) := by decide +kernel
theorem dL_law_287 : decode code 287 = .ok (.iadd, 1) := by decide +kernel
theorem dL_law_288 : decode code 288 = .ok (.iaload, 1) := by decide +kernel
theorem dL_law_289 : decode code 289 = .ok (.aload_n 3, 1) := by decide +kernel
theorem dL_law_290 : decode code 290 = .ok (.invokestatic 104, 3) := by decide +kernel
theorem dL_law_293 : decode code 293 = .ok (.istore 5, 2) := by decide +kernel
theorem dL_law_295 : decode code 295 = .ok (.aload_n 2, 1) := by decide +kernel
theorem dL_law_296 : decode code 296 = .ok (.aload_n 0, 1) := by decide +kernel
theorem dL_law_297 : decode code 297 = .ok (.iload 4, 2) := by decide +kernel
theorem dL_law_299 : decode code 299 = .ok (.iconst 1, 1) := by decide +kernel
theorem dL_law_300 : decode code 300 = .ok (.iadd, 1) := by decide +kernel
theorem dL_law_301 : decode code 301 = .ok (.iaload, 1) := by decide +kernel
theorem dL_law_302 : decode code 302 = .ok (.aload_n 0, 1) := by decide +kernel
theorem dL_law_303 : decode code 303 = .ok (.iload 4, 2) := by decide +kernel
theorem dL_law_305 : decode code 305 = .ok (.iconst 2, 1) := by decide +kernel
theorem dL_law_306 : decode code 306 = .ok (.iadd, 1) := by decide +kernel
theorem dL_law_307 : decode code 307 = .ok (.iaload, 1) := by decide +kernel
theorem dL_law_308 : decode code 308 = .ok (.invokevirtual 106, 3) := by decide +kernel
theorem dL_law_311 : decode code 311 = .ok (.istore 6, 2) := by decide +kernel
theorem dL_law_313 : decode code 313 = .ok (.aload_n 2, 1) := by decide +kernel
theorem dL_law_314 : decode code 314 = .ok (.invokevirtual 97, 3) := by decide +kernel
theorem dL_law_317 : decode code 317 = .ok (.iload 5, 2) := by decide +kernel
theorem dL_law_319 : decode code 319 = .ok (.if_icmp .eq 5, 3) := by decide +kernel
theorem dL_law_322 : decode code 322 = .ok (.iconst 0, 1) := by decide +kernel
theorem dL_law_323 : decode code 323 = .ok (.ireturn, 1) := by decide +kernel
theorem dL_law_324 : decode code 324 = .ok (.iload 5, 2) := by decide +kernel
theorem dL_law_326 : decode code 326 = .ok (.ifCond .ne 15, 3) := by decide +kernel
theorem dL_law_329 : decode code 329 = .ok (.aload_n 3, 1) := by decide +kernel
theorem dL_law_330 : decode code 330 = .ok (.iconst 0, 1) := by decide +kernel
theorem dL_law_331 : decode code 331 = .ok (.laload, 1) := by decide +kernel
theorem dL_law_332 : decode code 332 = .ok (.iload 6, 2) := by decide +kernel
theorem dL_law_334 : decode code 334 = .ok (.i2l, 1) := by decide +kernel
theorem dL_law_335 : decode code 335 = .ok (.lcmp, 1) := by decide +kernel
theorem dL_law_336 : decode code 336 = .ok (.ifCond .eq 5, 3) := by decide +kernel
theorem dL_law_339 : decode code 339 = .ok (.iconst 0, 1) := by decide +kernel
theorem dL_law_340 : decode code 340 = .ok (.ireturn, 1) := by decide +kernel
theorem dL_law_341 : decode code 341 = .ok (.goto 1362, 3) := by decide +kernel
theorem dL_law_344 : decode code 344 = .ok (.aload_n 1, 1) := by decide +kernel
theorem dL_law_345 : decode code 345 = .ok (.aload_n 0, 1) := by decide +kernel
theorem dL_law_346 : decode code 346 = .ok (.iload 4, 2) := by decide +kernel
theorem dL_law_348 : decode code 348 = .ok (.iconst 1, 1) := by decide +kernel
theorem dL_law_349 : decode code 349 = .ok (.iadd, 1) := by decide +kernel
theorem dL_law_350 : decode code 350 = .ok (.iaload, 1) := by decide +kernel
theorem dL_law_351 : decode code 351 = .ok (.aload_n 0, 1) := by decide +kernel
theorem dL_law_352 : decode code 352 = .ok (.iload 4, 2) := by decide +kernel
theorem dL_law_354 : decode code 354 = .ok (.iconst 2, 1) := by decide +kernel
theorem dL_law_355 : decode code 355 = .ok (.iadd, 1) := by decide +kernel
theorem dL_law_356 : decode code 356 = .ok (.iaload, 1) := by decide +kernel
theorem dL_law_357 : decode code 357 = .ok (.aload_n 0, 1) := by decide +kernel
theorem dL_law_358 : decode code 358 = .ok (.iload 4, 2) := by decide +kernel
theorem dL_law_360 : decode code 360 = .ok (.iconst 3, 1) := by decide +kernel
theorem dL_law_361 : decode code 361 = .ok (.iadd, 1) := by decide +kernel
theorem dL_law_362 : decode code 362 = .ok (.iaload, 1) := by decide +kernel
theorem dL_law_363 : decode code 363 = .ok (.aload_n 0, 1) := by decide +kernel
theorem dL_law_364 : decode code 364 = .ok (.iload 4, 2) := by decide +kernel
theorem dL_law_366 : decode code 366 = .ok (.iconst 4, 1) := by decide +kernel
theorem dL_law_367 : decode code 367 = .ok (.iadd, 1) := by decide +kernel
theorem dL_law_368 : decode code 368 = .ok (.iaload, 1) := by decide +kernel
theorem dL_law_369 : decode code 369 = .ok (.aload_n 0, 1) := by decide +kernel
theorem dL_law_370 : decode code 370 = .ok (.iload 4, 2) := by decide +kernel
theorem dL_law_372 : decode code 372 = .ok (.iconst 5, 1) := by decide +kernel
theorem dL_law_373 : decode code 373 = .ok (.iadd, 1) := by decide +kernel
theorem dL_law_374 : decode code 374 = .ok (.iaload, 1) := by decide +kernel
theorem dL_law_375 : decode code 375 = .ok (.aload_n 3, 1) := by decide +kernel
theorem dL_law_376 : decode code 376 = .ok (.invokestatic 107, 3) := by decide +kernel
theorem dL_law_379 : decode code 379 = .ok (.istore 5, 2) := by decide +kernel
theorem dL_law_381 : decode code 381 = .ok (.aload_n 2, 1) := by decide +kernel
theorem dL_law_382 : decode code 382 = .ok (.aload_n 0, 1) := by decide +kernel
theorem dL_law_383 : decode code 383 = .ok (.iload 4, 2) := by decide +kernel
theorem dL_law_385 : decode code 385 = .ok (.iconst 1, 1) := by decide +kernel
theorem dL_law_386 : decode code 386 = .ok (.iadd, 1) := by decide +kernel
theorem dL_law_387 : decode code 387 = .ok (.iaload, 1) := by decide +kernel
theorem dL_law_388 : decode code 388 = .ok (.aload_n 0, 1) := by decide +kernel
theorem dL_law_389 : decode code 389 = .ok (.iload 4, 2) := by decide +kernel
theorem dL_law_391 : decode code 391 = .ok (.iconst 2, 1) := by decide +kernel
theorem dL_law_392 : decode code 392 = .ok (.iadd, 1) := by decide +kernel
theorem dL_law_393 : decode code 393 = .ok (.iaload, 1) := by decide +kernel
theorem dL_law_394 : decode code 394 = .ok (.aload_n 0, 1) := by decide +kernel
theorem dL_law_395 : decode code 395 = .ok (.iload 4, 2) := by decide +kernel
theorem dL_law_397 : decode code 397 = .ok (.iconst 3, 1) := by decide +kernel
theorem dL_law_398 : decode code 398 = .ok (.iadd, 1) := by decide +kernel
theorem dL_law_399 : decode code 399 = .ok (.iaload, 1) := by decide +kernel
theorem dL_law_400 : decode code 400 = .ok (.aload_n 0, 1) := by decide +kernel
theorem dL_law_401 : decode code 401 = .ok (.iload 4, 2) := by decide +kernel
theorem dL_law_403 : decode code 403 = .ok (.iconst 4, 1) := by decide +kernel
theorem dL_law_404 : decode code 404 = .ok (.iadd, 1) := by decide +kernel
theorem dL_law_405 : decode code 405 = .ok (.iaload, 1) := by decide +kernel
theorem dL_law_406 : decode code 406 = .ok (.aload_n 0, 1) := by decide +kernel
theorem dL_law_407 : decode code 407 = .ok (.iload 4, 2) := by decide +kernel
theorem dL_law_409 : decode code 409 = .ok (.iconst 5, 1) := by decide +kernel
theorem dL_law_410 : decode code 410 = .ok (.iadd, 1) := by decide +kernel
theorem dL_law_411 : decode code 411 = .ok (.iaload, 1) := by decide +kernel
theorem dL_law_412 : decode code 412 = .ok (.invokevirtual 110, 3) := by decide +kernel
theorem dL_law_415 : decode code 415 = .ok (.istore 6, 2) := by decide +kernel
theorem dL_law_417 : decode code 417 = .ok (.aload_n 2, 1) := by decide +kernel
theorem dL_law_418 : decode code 418 = .ok (.invokevirtual 97, 3) := by decide +kernel
theorem dL_law_421 : decode code 421 = .ok (.iload 5, 2) := by decide +kernel
theorem dL_law_423 : decode code 423 = .ok (.if_icmp .eq 5, 3) := by decide +kernel
theorem dL_law_426 : decode code 426 = .ok (.iconst 0, 1) := by decide +kernel
theorem dL_law_427 : decode code 427 = .ok (.ireturn, 1) := by decide +kernel
theorem dL_law_428 : decode code 428 = .ok (.iload 5, 2) := by decide +kernel
theorem dL_law_430 : decode code 430 = .ok (.ifCond .ne 15, 3) := by decide +kernel
theorem dL_law_433 : decode code 433 = .ok (.aload_n 3, 1) := by decide +kernel
theorem dL_law_434 : decode code 434 = .ok (.iconst 0, 1) := by decide +kernel
theorem dL_law_435 : decode code 435 = .ok (.laload, 1) := by decide +kernel
theorem dL_law_436 : decode code 436 = .ok (.iload 6, 2) := by decide +kernel
theorem dL_law_438 : decode code 438 = .ok (.i2l, 1) := by decide +kernel
theorem dL_law_439 : decode code 439 = .ok (.lcmp, 1) := by decide +kernel
theorem dL_law_440 : decode code 440 = .ok (.ifCond .eq 5, 3) := by decide +kernel
theorem dL_law_443 : decode code 443 = .ok (.iconst 0, 1) := by decide +kernel
theorem dL_law_444 : decode code 444 = .ok (.ireturn, 1) := by decide +kernel
theorem dL_law_445 : decode code 445 = .ok (.goto 1258, 3) := by decide +kernel
theorem dL_law_448 : decode code 448 = .ok (.aload_n 1, 1) := by decide +kernel
theorem dL_law_449 : decode code 449 = .ok (.aload_n 0, 1) := by decide +kernel
theorem dL_law_450 : decode code 450 = .ok (.iload 4, 2) := by decide +kernel
theorem dL_law_452 : decode code 452 = .ok (.iconst 1, 1) := by decide +kernel
theorem dL_law_453 : decode code 453 = .ok (.iadd, 1) := by decide +kernel
theorem dL_law_454 : decode code 454 = .ok (.iaload, 1) := by decide +kernel
theorem dL_law_455 : decode code 455 = .ok (.aload_n 0, 1) := by decide +kernel
theorem dL_law_456 : decode code 456 = .ok (.iload 4, 2) := by decide +kernel
theorem dL_law_458 : decode code 458 = .ok (.iconst 2, 1) := by decide +kernel
theorem dL_law_459 : decode code 459 = .ok (.iadd, 1) := by decide +kernel
theorem dL_law_460 : decode code 460 = .ok (.iaload, 1) := by decide +kernel
theorem dL_law_461 : decode code 461 = .ok (.aload_n 0, 1) := by decide +kernel
theorem dL_law_462 : decode code 462 = .ok (.iload 4, 2) := by decide +kernel
theorem dL_law_464 : decode code 464 = .ok (.iconst 3, 1) := by decide +kernel
theorem dL_law_465 : decode code 465 = .ok (.iadd, 1) := by decide +kernel
theorem dL_law_466 : decode code 466 = .ok (.iaload, 1) := by decide +kernel
theorem dL_law_467 : decode code 467 = .ok (.aload_n 3, 1) := by decide +kernel
theorem dL_law_468 : decode code 468 = .ok (.invokestatic 111, 3) := by decide +kernel
theorem dL_law_471 : decode code 471 = .ok (.istore 5, 2) := by decide +kernel
theorem dL_law_473 : decode code 473 = .ok (.aload_n 2, 1) := by decide +kernel
theorem dL_law_474 : decode code 474 = .ok (.aload_n 0, 1) := by decide +kernel
theorem dL_law_475 : decode code 475 = .ok (.iload 4, 2) := by decide +kernel
theorem dL_law_477 : decode code 477 = .ok (.iconst 1, 1) := by decide +kernel
theorem dL_law_478 : decode code 478 = .ok (.iadd, 1) := by decide +kernel
theorem dL_law_479 : decode code 479 = .ok (.iaload, 1) := by decide +kernel
theorem dL_law_480 : decode code 480 = .ok (.aload_n 0, 1) := by decide +kernel
theorem dL_law_481 : decode code 481 = .ok (.iload 4, 2) := by decide +kernel
theorem dL_law_483 : decode code 483 = .ok (.iconst 2, 1) := by decide +kernel
theorem dL_law_484 : decode code 484 = .ok (.iadd, 1) := by decide +kernel
theorem dL_law_485 : decode code 485 = .ok (.iaload, 1) := by decide +kernel
theorem dL_law_486 : decode code 486 = .ok (.aload_n 0, 1) := by decide +kernel
theorem dL_law_487 : decode code 487 = .ok (.iload 4, 2) := by decide +kernel
theorem dL_law_489 : decode code 489 = .ok (.iconst 3, 1) := by decide +kernel
theorem dL_law_490 : decode code 490 = .ok (.iadd, 1) := by decide +kernel
theorem dL_law_491 : decode code 491 = .ok (.iaload, 1) := by decide +kernel
theorem dL_law_492 : decode code 492 = .ok (.invokevirtual 114, 3) := by decide +kernel
theorem dL_law_495 : decode code 495 = .ok (.istore 6, 2) := by decide +kernel
theorem dL_law_497 : decode code 497 = .ok (.aload_n 2, 1) := by decide +kernel
theorem dL_law_498 : decode code 498 = .ok (.invokevirtual 97, 3) := by decide +kernel
theorem dL_law_501 : decode code 501 = .ok (.iload 5, 2) := by decide +kernel
theorem dL_law_503 : decode code 503 = .ok (.if_icmp .eq 5, 3) := by decide +kernel
theorem dL_law_506 : decode code 506 = .ok (.iconst 0, 1) := by decide +kernel
theorem dL_law_507 : decode code 507 = .ok (.ireturn, 1) := by decide +kernel
theorem dL_law_508 : decode code 508 = .ok (.iload 5, 2) := by decide +kernel
theorem dL_law_510 : decode code 510 = .ok (.ifCond .ne 15, 3) := by decide +kernel
theorem dL_law_513 : decode code 513 = .ok (.aload_n 3, 1) := by decide +kernel
theorem dL_law_514 : decode code 514 = .ok (.iconst 0, 1) := by decide +kernel
theorem dL_law_515 : decode code 515 = .ok (.laload, 1) := by decide +kernel
theorem dL_law_516 : decode code 516 = .ok (.iload 6, 2) := by decide +kernel
theorem dL_law_518 : decode code 518 = .ok (.i2l, 1) := by decide +kernel
theorem dL_law_519 : decode code 519 = .ok (.lcmp, 1) := by decide +kernel
theorem dL_law_520 : decode code 520 = .ok (.ifCond .eq 5, 3) := by decide +kernel
theorem dL_law_523 : decode code 523 = .ok (.iconst 0, 1) := by decide +kernel
theorem dL_law_524 : decode code 524 = .ok (.ireturn, 1) := by decide +kernel
theorem dL_law_525 : decode code 525 = .ok (.goto 1178, 3) := by decide +kernel
theorem dL_law_528 : decode code 528 = .ok (.aload_n 1, 1) := by decide +kernel
theorem dL_law_529 : decode code 529 = .ok (.aload_n 0, 1) := by decide +kernel
theorem dL_law_530 : decode code 530 = .ok (.iload 4, 2) := by decide +kernel
theorem dL_law_532 : decode code 532 = .ok (.iconst 1, 1) := by decide +kernel
theorem dL_law_533 : decode code 533 = .ok (.iadd, 1) := by decide +kernel
theorem dL_law_534 : decode code 534 = .ok (.iaload, 1) := by decide +kernel
theorem dL_law_535 : decode code 535 = .ok (.aload_n 0, 1) := by decide +kernel
theorem dL_law_536 : decode code 536 = .ok (.iload 4, 2) := by decide +kernel
theorem dL_law_538 : decode code 538 = .ok (.iconst 2, 1) := by decide +kernel
theorem dL_law_539 : decode code 539 = .ok (.iadd, 1) := by decide +kernel
theorem dL_law_540 : decode code 540 = .ok (.iaload, 1) := by decide +kernel
theorem dL_law_541 : decode code 541 = .ok (.aload_n 0, 1) := by decide +kernel
theorem dL_law_542 : decode code 542 = .ok (.iload 4, 2) := by decide +kernel
theorem dL_law_544 : decode code 544 = .ok (.iconst 3, 1) := by decide +kernel
theorem dL_law_545 : decode code 545 = .ok (.iadd, 1) := by decide +kernel
theorem dL_law_546 : decode code 546 = .ok (.iaload, 1) := by decide +kernel
theorem dL_law_547 : decode code 547 = .ok (.aload_n 0, 1) := by decide +kernel
theorem dL_law_548 : decode code 548 = .ok (.iload 4, 2) := by decide +kernel
theorem dL_law_550 : decode code 550 = .ok (.iconst 4, 1) := by decide +kernel
theorem dL_law_551 : decode code 551 = .ok (.iadd, 1) := by decide +kernel
theorem dL_law_552 : decode code 552 = .ok (.iaload, 1) := by decide +kernel
theorem dL_law_553 : decode code 553 = .ok (.aload_n 3, 1) := by decide +kernel
theorem dL_law_554 : decode code 554 = .ok (.invokestatic 115, 3) := by decide +kernel
theorem dL_law_557 : decode code 557 = .ok (.istore 5, 2) := by decide +kernel
theorem dL_law_559 : decode code 559 = .ok (.aload_n 2, 1) := by decide +kernel
theorem dL_law_560 : decode code 560 = .ok (.aload_n 0, 1) := by decide +kernel
theorem dL_law_561 : decode code 561 = .ok (.iload 4, 2) := by decide +kernel
theorem dL_law_563 : decode code 563 = .ok (.iconst 1, 1) := by decide +kernel
theorem dL_law_564 : decode code 564 = .ok (.iadd, 1) := by decide +kernel
theorem dL_law_565 : decode code 565 = .ok (.iaload, 1) := by decide +kernel
theorem dL_law_566 : decode code 566 = .ok (.aload_n 0, 1) := by decide +kernel
theorem dL_law_567 : decode code 567 = .ok (.iload 4, 2) := by decide +kernel
theorem dL_law_569 : decode code 569 = .ok (.iconst 2, 1) := by decide +kernel
theorem dL_law_570 : decode code 570 = .ok (.iadd, 1) := by decide +kernel
theorem dL_law_571 : decode code 571 = .ok (.iaload, 1) := by decide +kernel
theorem dL_law_572 : decode code 572 = .ok (.aload_n 0, 1) := by decide +kernel
theorem dL_law_573 : decode code 573 = .ok (.iload 4, 2) := by decide +kernel
theorem dL_law_575 : decode code 575 = .ok (.iconst 3, 1) := by decide +kernel
theorem dL_law_576 : decode code 576 = .ok (.iadd, 1) := by decide +kernel
theorem dL_law_577 : decode code 577 = .ok (.iaload, 1) := by decide +kernel
theorem dL_law_578 : decode code 578 = .ok (.aload_n 0, 1) := by decide +kernel
theorem dL_law_579 : decode code 579 = .ok (.iload 4, 2) := by decide +kernel
theorem dL_law_581 : decode code 581 = .ok (.iconst 4, 1) := by decide +kernel
theorem dL_law_582 : decode code 582 = .ok (.iadd, 1) := by decide +kernel
theorem dL_law_583 : decode code 583 = .ok (.iaload, 1) := by decide +kernel
theorem dL_law_584 : decode code 584 = .ok (.invokevirtual 118, 3) := by decide +kernel
theorem dL_law_587 : decode code 587 = .ok (.istore 6, 2) := by decide +kernel
theorem dL_law_589 : decode code 589 = .ok (.aload_n 2, 1) := by decide +kernel
theorem dL_law_590 : decode code 590 = .ok (.invokevirtual 97, 3) := by decide +kernel
theorem dL_law_593 : decode code 593 = .ok (.iload 5, 2) := by decide +kernel
theorem dL_law_595 : decode code 595 = .ok (.if_icmp .eq 5, 3) := by decide +kernel
theorem dL_law_598 : decode code 598 = .ok (.iconst 0, 1) := by decide +kernel
theorem dL_law_599 : decode code 599 = .ok (.ireturn, 1) := by decide +kernel
theorem dL_law_600 : decode code 600 = .ok (.iload 5, 2) := by decide +kernel
theorem dL_law_602 : decode code 602 = .ok (.ifCond .ne 15, 3) := by decide +kernel
theorem dL_law_605 : decode code 605 = .ok (.aload_n 3, 1) := by decide +kernel
theorem dL_law_606 : decode code 606 = .ok (.iconst 0, 1) := by decide +kernel
theorem dL_law_607 : decode code 607 = .ok (.laload, 1) := by decide +kernel
theorem dL_law_608 : decode code 608 = .ok (.iload 6, 2) := by decide +kernel
theorem dL_law_610 : decode code 610 = .ok (.i2l, 1) := by decide +kernel
theorem dL_law_611 : decode code 611 = .ok (.lcmp, 1) := by decide +kernel
theorem dL_law_612 : decode code 612 = .ok (.ifCond .eq 5, 3) := by decide +kernel
theorem dL_law_615 : decode code 615 = .ok (.iconst 0, 1) := by decide +kernel
theorem dL_law_616 : decode code 616 = .ok (.ireturn, 1) := by decide +kernel
theorem dL_law_617 : decode code 617 = .ok (.goto 1086, 3) := by decide +kernel
theorem dL_law_620 : decode code 620 = .ok (.aload_n 1, 1) := by decide +kernel
theorem dL_law_621 : decode code 621 = .ok (.aload_n 0, 1) := by decide +kernel
theorem dL_law_622 : decode code 622 = .ok (.iload 4, 2) := by decide +kernel
theorem dL_law_624 : decode code 624 = .ok (.iconst 1, 1) := by decide +kernel
theorem dL_law_625 : decode code 625 = .ok (.iadd, 1) := by decide +kernel
theorem dL_law_626 : decode code 626 = .ok (.iaload, 1) := by decide +kernel
theorem dL_law_627 : decode code 627 = .ok (.aload_n 0, 1) := by decide +kernel
theorem dL_law_628 : decode code 628 = .ok (.iload 4, 2) := by decide +kernel
theorem dL_law_630 : decode code 630 = .ok (.iconst 2, 1) := by decide +kernel
theorem dL_law_631 : decode code 631 = .ok (.iadd, 1) := by decide +kernel
theorem dL_law_632 : decode code 632 = .ok (.iaload, 1) := by decide +kernel
theorem dL_law_633 : decode code 633 = .ok (.aload_n 3, 1) := by decide +kernel
theorem dL_law_634 : decode code 634 = .ok (.invokestatic 119, 3) := by decide +kernel
theorem dL_law_637 : decode code 637 = .ok (.istore 5, 2) := by decide +kernel
theorem dL_law_639 : decode code 639 = .ok (.aload_n 2, 1) := by decide +kernel
theorem dL_law_640 : decode code 640 = .ok (.aload_n 0, 1) := by decide +kernel
theorem dL_law_641 : decode code 641 = .ok (.iload 4, 2) := by decide +kernel
theorem dL_law_643 : decode code 643 = .ok (.iconst 1, 1) := by decide +kernel
theorem dL_law_644 : decode code 644 = .ok (.iadd, 1) := by decide +kernel
theorem dL_law_645 : decode code 645 = .ok (.iaload, 1) := by decide +kernel
theorem dL_law_646 : decode code 646 = .ok (.aload_n 0, 1) := by decide +kernel
theorem dL_law_647 : decode code 647 = .ok (.iload 4, 2) := by decide +kernel
theorem dL_law_649 : decode code 649 = .ok (.iconst 2, 1) := by decide +kernel
theorem dL_law_650 : decode code 650 = .ok (.iadd, 1) := by decide +kernel
theorem dL_law_651 : decode code 651 = .ok (.iaload, 1) := by decide +kernel
theorem dL_law_652 : decode code 652 = .ok (.invokevirtual 121, 3) := by decide +kernel
theorem dL_law_655 : decode code 655 = .ok (.istore 6, 2) := by decide +kernel
theorem dL_law_657 : decode code 657 = .ok (.aload_n 2, 1) := by decide +kernel
theorem dL_law_658 : decode code 658 = .ok (.invokevirtual 97, 3) := by decide +kernel
theorem dL_law_661 : decode code 661 = .ok (.iload 5, 2) := by decide +kernel
theorem dL_law_663 : decode code 663 = .ok (.if_icmp .eq 5, 3) := by decide +kernel
theorem dL_law_666 : decode code 666 = .ok (.iconst 0, 1) := by decide +kernel
theorem dL_law_667 : decode code 667 = .ok (.ireturn, 1) := by decide +kernel
theorem dL_law_668 : decode code 668 = .ok (.iload 5, 2) := by decide +kernel
theorem dL_law_670 : decode code 670 = .ok (.ifCond .ne 15, 3) := by decide +kernel
theorem dL_law_673 : decode code 673 = .ok (.aload_n 3, 1) := by decide +kernel
theorem dL_law_674 : decode code 674 = .ok (.iconst 0, 1) := by decide +kernel
theorem dL_law_675 : decode code 675 = .ok (.laload, 1) := by decide +kernel
theorem dL_law_676 : decode code 676 = .ok (.iload 6, 2) := by decide +kernel
theorem dL_law_678 : decode code 678 = .ok (.i2l, 1) := by decide +kernel
theorem dL_law_679 : decode code 679 = .ok (.lcmp, 1) := by decide +kernel
theorem dL_law_680 : decode code 680 = .ok (.ifCond .eq 5, 3) := by decide +kernel
theorem dL_law_683 : decode code 683 = .ok (.iconst 0, 1) := by decide +kernel
theorem dL_law_684 : decode code 684 = .ok (.ireturn, 1) := by decide +kernel
theorem dL_law_685 : decode code 685 = .ok (.goto 1018, 3) := by decide +kernel
theorem dL_law_688 : decode code 688 = .ok (.aload_n 1, 1) := by decide +kernel
theorem dL_law_689 : decode code 689 = .ok (.aload_n 0, 1) := by decide +kernel
theorem dL_law_690 : decode code 690 = .ok (.iload 4, 2) := by decide +kernel
theorem dL_law_692 : decode code 692 = .ok (.iconst 1, 1) := by decide +kernel
theorem dL_law_693 : decode code 693 = .ok (.iadd, 1) := by decide +kernel
theorem dL_law_694 : decode code 694 = .ok (.iaload, 1) := by decide +kernel
theorem dL_law_695 : decode code 695 = .ok (.aload_n 3, 1) := by decide +kernel
theorem dL_law_696 : decode code 696 = .ok (.invokestatic 122, 3) := by decide +kernel
theorem dL_law_699 : decode code 699 = .ok (.istore 5, 2) := by decide +kernel
theorem dL_law_701 : decode code 701 = .ok (.aload_n 2, 1) := by decide +kernel
theorem dL_law_702 : decode code 702 = .ok (.aload_n 0, 1) := by decide +kernel
theorem dL_law_703 : decode code 703 = .ok (.iload 4, 2) := by decide +kernel
theorem dL_law_705 : decode code 705 = .ok (.iconst 1, 1) := by decide +kernel
theorem dL_law_706 : decode code 706 = .ok (.iadd, 1) := by decide +kernel
theorem dL_law_707 : decode code 707 = .ok (.iaload, 1) := by decide +kernel
theorem dL_law_708 : decode code 708 = .ok (.invokevirtual 124, 3) := by decide +kernel
theorem dL_law_711 : decode code 711 = .ok (.istore 6, 2) := by decide +kernel
theorem dL_law_713 : decode code 713 = .ok (.aload_n 2, 1) := by decide +kernel
theorem dL_law_714 : decode code 714 = .ok (.invokevirtual 97, 3) := by decide +kernel
theorem dL_law_717 : decode code 717 = .ok (.iload 5, 2) := by decide +kernel
theorem dL_law_719 : decode code 719 = .ok (.if_icmp .eq 5, 3) := by decide +kernel
theorem dL_law_722 : decode code 722 = .ok (.iconst 0, 1) := by decide +kernel
theorem dL_law_723 : decode code 723 = .ok (.ireturn, 1) := by decide +kernel
theorem dL_law_724 : decode code 724 = .ok (.iload 5, 2) := by decide +kernel
theorem dL_law_726 : decode code 726 = .ok (.ifCond .ne 15, 3) := by decide +kernel
theorem dL_law_729 : decode code 729 = .ok (.aload_n 3, 1) := by decide +kernel
theorem dL_law_730 : decode code 730 = .ok (.iconst 0, 1) := by decide +kernel
theorem dL_law_731 : decode code 731 = .ok (.laload, 1) := by decide +kernel
theorem dL_law_732 : decode code 732 = .ok (.iload 6, 2) := by decide +kernel
theorem dL_law_734 : decode code 734 = .ok (.i2l, 1) := by decide +kernel
theorem dL_law_735 : decode code 735 = .ok (.lcmp, 1) := by decide +kernel
theorem dL_law_736 : decode code 736 = .ok (.ifCond .eq 5, 3) := by decide +kernel
theorem dL_law_739 : decode code 739 = .ok (.iconst 0, 1) := by decide +kernel
theorem dL_law_740 : decode code 740 = .ok (.ireturn, 1) := by decide +kernel
theorem dL_law_741 : decode code 741 = .ok (.goto 962, 3) := by decide +kernel
theorem dL_law_744 : decode code 744 = .ok (.aload_n 1, 1) := by decide +kernel
theorem dL_law_745 : decode code 745 = .ok (.aload_n 0, 1) := by decide +kernel
theorem dL_law_746 : decode code 746 = .ok (.iload 4, 2) := by decide +kernel
theorem dL_law_748 : decode code 748 = .ok (.iconst 1, 1) := by decide +kernel
theorem dL_law_749 : decode code 749 = .ok (.iadd, 1) := by decide +kernel
theorem dL_law_750 : decode code 750 = .ok (.iaload, 1) := by decide +kernel
theorem dL_law_751 : decode code 751 = .ok (.aload_n 0, 1) := by decide +kernel
theorem dL_law_752 : decode code 752 = .ok (.iload 4, 2) := by decide +kernel
theorem dL_law_754 : decode code 754 = .ok (.iconst 2, 1) := by decide +kernel
theorem dL_law_755 : decode code 755 = .ok (.iadd, 1) := by decide +kernel
theorem dL_law_756 : decode code 756 = .ok (.iaload, 1) := by decide +kernel
theorem dL_law_757 : decode code 757 = .ok (.aload_n 0, 1) := by decide +kernel
theorem dL_law_758 : decode code 758 = .ok (.iload 4, 2) := by decide +kernel
theorem dL_law_760 : decode code 760 = .ok (.iconst 3, 1) := by decide +kernel
theorem dL_law_761 : decode code 761 = .ok (.iadd, 1) := by decide +kernel
theorem dL_law_762 : decode code 762 = .ok (.iaload, 1) := by decide +kernel
theorem dL_law_763 : decode code 763 = .ok (.aload_n 3, 1) := by decide +kernel
theorem dL_law_764 : decode code 764 = .ok (.invokestatic 125, 3) := by decide +kernel
theorem dL_law_767 : decode code 767 = .ok (.istore 5, 2) := by decide +kernel
theorem dL_law_769 : decode code 769 = .ok (.aload_n 2, 1) := by decide +kernel
theorem dL_law_770 : decode code 770 = .ok (.aload_n 0, 1) := by decide +kernel
theorem dL_law_771 : decode code 771 = .ok (.iload 4, 2) := by decide +kernel
theorem dL_law_773 : decode code 773 = .ok (.iconst 1, 1) := by decide +kernel
theorem dL_law_774 : decode code 774 = .ok (.iadd, 1) := by decide +kernel
theorem dL_law_775 : decode code 775 = .ok (.iaload, 1) := by decide +kernel
theorem dL_law_776 : decode code 776 = .ok (.aload_n 0, 1) := by decide +kernel
theorem dL_law_777 : decode code 777 = .ok (.iload 4, 2) := by decide +kernel
theorem dL_law_779 : decode code 779 = .ok (.iconst 2, 1) := by decide +kernel
theorem dL_law_780 : decode code 780 = .ok (.iadd, 1) := by decide +kernel
theorem dL_law_781 : decode code 781 = .ok (.iaload, 1) := by decide +kernel
theorem dL_law_782 : decode code 782 = .ok (.aload_n 0, 1) := by decide +kernel
theorem dL_law_783 : decode code 783 = .ok (.iload 4, 2) := by decide +kernel
theorem dL_law_785 : decode code 785 = .ok (.iconst 3, 1) := by decide +kernel
theorem dL_law_786 : decode code 786 = .ok (.iadd, 1) := by decide +kernel
theorem dL_law_787 : decode code 787 = .ok (.iaload, 1) := by decide +kernel
theorem dL_law_788 : decode code 788 = .ok (.invokevirtual 127, 3) := by decide +kernel
theorem dL_law_791 : decode code 791 = .ok (.istore 6, 2) := by decide +kernel
theorem dL_law_793 : decode code 793 = .ok (.aload_n 2, 1) := by decide +kernel
theorem dL_law_794 : decode code 794 = .ok (.invokevirtual 97, 3) := by decide +kernel
theorem dL_law_797 : decode code 797 = .ok (.iload 5, 2) := by decide +kernel
theorem dL_law_799 : decode code 799 = .ok (.if_icmp .eq 5, 3) := by decide +kernel
theorem dL_law_802 : decode code 802 = .ok (.iconst 0, 1) := by decide +kernel
theorem dL_law_803 : decode code 803 = .ok (.ireturn, 1) := by decide +kernel
theorem dL_law_804 : decode code 804 = .ok (.iload 5, 2) := by decide +kernel
theorem dL_law_806 : decode code 806 = .ok (.ifCond .ne 15, 3) := by decide +kernel
theorem dL_law_809 : decode code 809 = .ok (.aload_n 3, 1) := by decide +kernel
theorem dL_law_810 : decode code 810 = .ok (.iconst 0, 1) := by decide +kernel
theorem dL_law_811 : decode code 811 = .ok (.laload, 1) := by decide +kernel
theorem dL_law_812 : decode code 812 = .ok (.iload 6, 2) := by decide +kernel
theorem dL_law_814 : decode code 814 = .ok (.i2l, 1) := by decide +kernel
theorem dL_law_815 : decode code 815 = .ok (.lcmp, 1) := by decide +kernel
theorem dL_law_816 : decode code 816 = .ok (.ifCond .eq 5, 3) := by decide +kernel
theorem dL_law_819 : decode code 819 = .ok (.iconst 0, 1) := by decide +kernel
theorem dL_law_820 : decode code 820 = .ok (.ireturn, 1) := by decide +kernel
theorem dL_law_821 : decode code 821 = .ok (.goto 882, 3) := by decide +kernel
theorem dL_law_824 : decode code 824 = .ok (.aload_n 1, 1) := by decide +kernel
theorem dL_law_825 : decode code 825 = .ok (.aload_n 3, 1) := by decide +kernel
theorem dL_law_826 : decode code 826 = .ok (.invokestatic 128, 3) := by decide +kernel
theorem dL_law_829 : decode code 829 = .ok (.istore 5, 2) := by decide +kernel
theorem dL_law_831 : decode code 831 = .ok (.aload_n 2, 1) := by decide +kernel
theorem dL_law_832 : decode code 832 = .ok (.invokevirtual 131, 3) := by decide +kernel
theorem dL_law_835 : decode code 835 = .ok (.istore 6, 2) := by decide +kernel
theorem dL_law_837 : decode code 837 = .ok (.aload_n 2, 1) := by decide +kernel
theorem dL_law_838 : decode code 838 = .ok (.invokevirtual 97, 3) := by decide +kernel
theorem dL_law_841 : decode code 841 = .ok (.iload 5, 2) := by decide +kernel
theorem dL_law_843 : decode code 843 = .ok (.if_icmp .eq 5, 3) := by decide +kernel
theorem dL_law_846 : decode code 846 = .ok (.iconst 0, 1) := by decide +kernel
theorem dL_law_847 : decode code 847 = .ok (.ireturn, 1) := by decide +kernel
theorem dL_law_848 : decode code 848 = .ok (.iload 5, 2) := by decide +kernel
theorem dL_law_850 : decode code 850 = .ok (.ifCond .ne 15, 3) := by decide +kernel
theorem dL_law_853 : decode code 853 = .ok (.aload_n 3, 1) := by decide +kernel
theorem dL_law_854 : decode code 854 = .ok (.iconst 0, 1) := by decide +kernel
theorem dL_law_855 : decode code 855 = .ok (.laload, 1) := by decide +kernel
theorem dL_law_856 : decode code 856 = .ok (.iload 6, 2) := by decide +kernel
theorem dL_law_858 : decode code 858 = .ok (.i2l, 1) := by decide +kernel
theorem dL_law_859 : decode code 859 = .ok (.lcmp, 1) := by decide +kernel
theorem dL_law_860 : decode code 860 = .ok (.ifCond .eq 5, 3) := by decide +kernel
theorem dL_law_863 : decode code 863 = .ok (.iconst 0, 1) := by decide +kernel
theorem dL_law_864 : decode code 864 = .ok (.ireturn, 1) := by decide +kernel
theorem dL_law_865 : decode code 865 = .ok (.goto 838, 3) := by decide +kernel
theorem dL_law_868 : decode code 868 = .ok (.aload_n 1, 1) := by decide +kernel
theorem dL_law_869 : decode code 869 = .ok (.aload_n 0, 1) := by decide +kernel
theorem dL_law_870 : decode code 870 = .ok (.iload 4, 2) := by decide +kernel
theorem dL_law_872 : decode code 872 = .ok (.iconst 1, 1) := by decide +kernel
theorem dL_law_873 : decode code 873 = .ok (.iadd, 1) := by decide +kernel
theorem dL_law_874 : decode code 874 = .ok (.iaload, 1) := by decide +kernel
theorem dL_law_875 : decode code 875 = .ok (.aload_n 0, 1) := by decide +kernel
theorem dL_law_876 : decode code 876 = .ok (.iload 4, 2) := by decide +kernel
theorem dL_law_878 : decode code 878 = .ok (.iconst 2, 1) := by decide +kernel
theorem dL_law_879 : decode code 879 = .ok (.iadd, 1) := by decide +kernel
theorem dL_law_880 : decode code 880 = .ok (.iaload, 1) := by decide +kernel
theorem dL_law_881 : decode code 881 = .ok (.aload_n 3, 1) := by decide +kernel
theorem dL_law_882 : decode code 882 = .ok (.invokestatic 132, 3) := by decide +kernel
theorem dL_law_885 : decode code 885 = .ok (.istore 5, 2) := by decide +kernel
theorem dL_law_887 : decode code 887 = .ok (.aload_n 2, 1) := by decide +kernel
theorem dL_law_888 : decode code 888 = .ok (.aload_n 0, 1) := by decide +kernel
theorem dL_law_889 : decode code 889 = .ok (.iload 4, 2) := by decide +kernel
theorem dL_law_891 : decode code 891 = .ok (.iconst 1, 1) := by decide +kernel
theorem dL_law_892 : decode code 892 = .ok (.iadd, 1) := by decide +kernel
theorem dL_law_893 : decode code 893 = .ok (.iaload, 1) := by decide +kernel
theorem dL_law_894 : decode code 894 = .ok (.aload_n 0, 1) := by decide +kernel
theorem dL_law_895 : decode code 895 = .ok (.iload 4, 2) := by decide +kernel
theorem dL_law_897 : decode code 897 = .ok (.iconst 2, 1) := by decide +kernel
theorem dL_law_898 : decode code 898 = .ok (.iadd, 1) := by decide +kernel
theorem dL_law_899 : decode code 899 = .ok (.iaload, 1) := by decide +kernel
theorem dL_law_900 : decode code 900 = .ok (.invokevirtual 134, 3) := by decide +kernel
theorem dL_law_903 : decode code 903 = .ok (.istore 6, 2) := by decide +kernel
theorem dL_law_905 : decode code 905 = .ok (.aload_n 2, 1) := by decide +kernel
theorem dL_law_906 : decode code 906 = .ok (.invokevirtual 97, 3) := by decide +kernel
theorem dL_law_909 : decode code 909 = .ok (.iload 5, 2) := by decide +kernel
theorem dL_law_911 : decode code 911 = .ok (.if_icmp .eq 5, 3) := by decide +kernel
theorem dL_law_914 : decode code 914 = .ok (.iconst 0, 1) := by decide +kernel
theorem dL_law_915 : decode code 915 = .ok (.ireturn, 1) := by decide +kernel
theorem dL_law_916 : decode code 916 = .ok (.iload 5, 2) := by decide +kernel
theorem dL_law_918 : decode code 918 = .ok (.ifCond .ne 15, 3) := by decide +kernel
theorem dL_law_921 : decode code 921 = .ok (.aload_n 3, 1) := by decide +kernel
theorem dL_law_922 : decode code 922 = .ok (.iconst 0, 1) := by decide +kernel
theorem dL_law_923 : decode code 923 = .ok (.laload, 1) := by decide +kernel
theorem dL_law_924 : decode code 924 = .ok (.iload 6, 2) := by decide +kernel
theorem dL_law_926 : decode code 926 = .ok (.i2l, 1) := by decide +kernel
theorem dL_law_927 : decode code 927 = .ok (.lcmp, 1) := by decide +kernel
theorem dL_law_928 : decode code 928 = .ok (.ifCond .eq 5, 3) := by decide +kernel
theorem dL_law_931 : decode code 931 = .ok (.iconst 0, 1) := by decide +kernel
theorem dL_law_932 : decode code 932 = .ok (.ireturn, 1) := by decide +kernel
theorem dL_law_933 : decode code 933 = .ok (.goto 770, 3) := by decide +kernel
theorem dL_law_936 : decode code 936 = .ok (.aload_n 1, 1) := by decide +kernel
theorem dL_law_937 : decode code 937 = .ok (.aload_n 0, 1) := by decide +kernel
theorem dL_law_938 : decode code 938 = .ok (.iload 4, 2) := by decide +kernel
theorem dL_law_940 : decode code 940 = .ok (.iconst 1, 1) := by decide +kernel
theorem dL_law_941 : decode code 941 = .ok (.iadd, 1) := by decide +kernel
theorem dL_law_942 : decode code 942 = .ok (.iaload, 1) := by decide +kernel
theorem dL_law_943 : decode code 943 = .ok (.aload_n 0, 1) := by decide +kernel
theorem dL_law_944 : decode code 944 = .ok (.iload 4, 2) := by decide +kernel
theorem dL_law_946 : decode code 946 = .ok (.iconst 2, 1) := by decide +kernel
theorem dL_law_947 : decode code 947 = .ok (.iadd, 1) := by decide +kernel
theorem dL_law_948 : decode code 948 = .ok (.iaload, 1) := by decide +kernel
theorem dL_law_949 : decode code 949 = .ok (.aload_n 3, 1) := by decide +kernel
theorem dL_law_950 : decode code 950 = .ok (.invokestatic 135, 3) := by decide +kernel
theorem dL_law_953 : decode code 953 = .ok (.istore 5, 2) := by decide +kernel
theorem dL_law_955 : decode code 955 = .ok (.aload_n 2, 1) := by decide +kernel
theorem dL_law_956 : decode code 956 = .ok (.aload_n 0, 1) := by decide +kernel
theorem dL_law_957 : decode code 957 = .ok (.iload 4, 2) := by decide +kernel
theorem dL_law_959 : decode code 959 = .ok (.iconst 1, 1) := by decide +kernel
theorem dL_law_960 : decode code 960 = .ok (.iadd, 1) := by decide +kernel
theorem dL_law_961 : decode code 961 = .ok (.iaload, 1) := by decide +kernel
theorem dL_law_962 : decode code 962 = .ok (.aload_n 0, 1) := by decide +kernel
theorem dL_law_963 : decode code 963 = .ok (.iload 4, 2) := by decide +kernel
theorem dL_law_965 : decode code 965 = .ok (.iconst 2, 1) := by decide +kernel
theorem dL_law_966 : decode code 966 = .ok (.iadd, 1) := by decide +kernel
theorem dL_law_967 : decode code 967 = .ok (.iaload, 1) := by decide +kernel
theorem dL_law_968 : decode code 968 = .ok (.invokevirtual 137, 3) := by decide +kernel
theorem dL_law_971 : decode code 971 = .ok (.istore 6, 2) := by decide +kernel
theorem dL_law_973 : decode code 973 = .ok (.aload_n 2, 1) := by decide +kernel
theorem dL_law_974 : decode code 974 = .ok (.invokevirtual 97, 3) := by decide +kernel
theorem dL_law_977 : decode code 977 = .ok (.iload 5, 2) := by decide +kernel
theorem dL_law_979 : decode code 979 = .ok (.if_icmp .eq 5, 3) := by decide +kernel
theorem dL_law_982 : decode code 982 = .ok (.iconst 0, 1) := by decide +kernel
theorem dL_law_983 : decode code 983 = .ok (.ireturn, 1) := by decide +kernel
theorem dL_law_984 : decode code 984 = .ok (.iload 5, 2) := by decide +kernel
theorem dL_law_986 : decode code 986 = .ok (.ifCond .ne 15, 3) := by decide +kernel
theorem dL_law_989 : decode code 989 = .ok (.aload_n 3, 1) := by decide +kernel
theorem dL_law_990 : decode code 990 = .ok (.iconst 0, 1) := by decide +kernel
theorem dL_law_991 : decode code 991 = .ok (.laload, 1) := by decide +kernel
theorem dL_law_992 : decode code 992 = .ok (.iload 6, 2) := by decide +kernel
theorem dL_law_994 : decode code 994 = .ok (.i2l, 1) := by decide +kernel
theorem dL_law_995 : decode code 995 = .ok (.lcmp, 1) := by decide +kernel
theorem dL_law_996 : decode code 996 = .ok (.ifCond .eq 5, 3) := by decide +kernel
theorem dL_law_999 : decode code 999 = .ok (.iconst 0, 1) := by decide +kernel
theorem dL_law_1000 : decode code 1000 = .ok (.ireturn, 1) := by decide +kernel
theorem dL_law_1001 : decode code 1001 = .ok (.goto 702, 3) := by decide +kernel
theorem dL_law_1004 : decode code 1004 = .ok (.aload_n 1, 1) := by decide +kernel
theorem dL_law_1005 : decode code 1005 = .ok (.aload_n 0, 1) := by decide +kernel
theorem dL_law_1006 : decode code 1006 = .ok (.iload 4, 2) := by decide +kernel
theorem dL_law_1008 : decode code 1008 = .ok (.iconst 1, 1) := by decide +kernel
theorem dL_law_1009 : decode code 1009 = .ok (.iadd, 1) := by decide +kernel
theorem dL_law_1010 : decode code 1010 = .ok (.iaload, 1) := by decide +kernel
theorem dL_law_1011 : decode code 1011 = .ok (.aload_n 0, 1) := by decide +kernel
theorem dL_law_1012 : decode code 1012 = .ok (.iload 4, 2) := by decide +kernel
theorem dL_law_1014 : decode code 1014 = .ok (.iconst 2, 1) := by decide +kernel
theorem dL_law_1015 : decode code 1015 = .ok (.iadd, 1) := by decide +kernel
theorem dL_law_1016 : decode code 1016 = .ok (.iaload, 1) := by decide +kernel
theorem dL_law_1017 : decode code 1017 = .ok (.aload_n 0, 1) := by decide +kernel
theorem dL_law_1018 : decode code 1018 = .ok (.iload 4, 2) := by decide +kernel
theorem dL_law_1020 : decode code 1020 = .ok (.iconst 3, 1) := by decide +kernel
theorem dL_law_1021 : decode code 1021 = .ok (.iadd, 1) := by decide +kernel
theorem dL_law_1022 : decode code 1022 = .ok (.iaload, 1) := by decide +kernel
theorem dL_law_1023 : decode code 1023 = .ok (.aload_n 3, 1) := by decide +kernel
theorem dL_law_1024 : decode code 1024 = .ok (.invokestatic 138, 3) := by decide +kernel
theorem dL_law_1027 : decode code 1027 = .ok (.istore 5, 2) := by decide +kernel
theorem dL_law_1029 : decode code 1029 = .ok (.aload_n 2, 1) := by decide +kernel
theorem dL_law_1030 : decode code 1030 = .ok (.aload_n 0, 1) := by decide +kernel
theorem dL_law_1031 : decode code 1031 = .ok (.iload 4, 2) := by decide +kernel
theorem dL_law_1033 : decode code 1033 = .ok (.iconst 1, 1) := by decide +kernel
theorem dL_law_1034 : decode code 1034 = .ok (.iadd, 1) := by decide +kernel
theorem dL_law_1035 : decode code 1035 = .ok (.iaload, 1) := by decide +kernel
theorem dL_law_1036 : decode code 1036 = .ok (.aload_n 0, 1) := by decide +kernel
theorem dL_law_1037 : decode code 1037 = .ok (.iload 4, 2) := by decide +kernel
theorem dL_law_1039 : decode code 1039 = .ok (.iconst 2, 1) := by decide +kernel
theorem dL_law_1040 : decode code 1040 = .ok (.iadd, 1) := by decide +kernel
theorem dL_law_1041 : decode code 1041 = .ok (.iaload, 1) := by decide +kernel
theorem dL_law_1042 : decode code 1042 = .ok (.aload_n 0, 1) := by decide +kernel
theorem dL_law_1043 : decode code 1043 = .ok (.iload 4, 2) := by decide +kernel
theorem dL_law_1045 : decode code 1045 = .ok (.iconst 3, 1) := by decide +kernel
theorem dL_law_1046 : decode code 1046 = .ok (.iadd, 1) := by decide +kernel
theorem dL_law_1047 : decode code 1047 = .ok (.iaload, 1) := by decide +kernel
theorem dL_law_1048 : decode code 1048 = .ok (.invokevirtual 140, 3) := by decide +kernel
theorem dL_law_1051 : decode code 1051 = .ok (.istore 6, 2) := by decide +kernel
theorem dL_law_1053 : decode code 1053 = .ok (.aload_n 2, 1) := by decide +kernel
theorem dL_law_1054 : decode code 1054 = .ok (.invokevirtual 97, 3) := by decide +kernel
theorem dL_law_1057 : decode code 1057 = .ok (.iload 5, 2) := by decide +kernel
theorem dL_law_1059 : decode code 1059 = .ok (.if_icmp .eq 5, 3) := by decide +kernel
theorem dL_law_1062 : decode code 1062 = .ok (.iconst 0, 1) := by decide +kernel
theorem dL_law_1063 : decode code 1063 = .ok (.ireturn, 1) := by decide +kernel
theorem dL_law_1064 : decode code 1064 = .ok (.iload 5, 2) := by decide +kernel
theorem dL_law_1066 : decode code 1066 = .ok (.ifCond .ne 15, 3) := by decide +kernel
theorem dL_law_1069 : decode code 1069 = .ok (.aload_n 3, 1) := by decide +kernel
theorem dL_law_1070 : decode code 1070 = .ok (.iconst 0, 1) := by decide +kernel
theorem dL_law_1071 : decode code 1071 = .ok (.laload, 1) := by decide +kernel
theorem dL_law_1072 : decode code 1072 = .ok (.iload 6, 2) := by decide +kernel
theorem dL_law_1074 : decode code 1074 = .ok (.i2l, 1) := by decide +kernel
theorem dL_law_1075 : decode code 1075 = .ok (.lcmp, 1) := by decide +kernel
theorem dL_law_1076 : decode code 1076 = .ok (.ifCond .eq 5, 3) := by decide +kernel
theorem dL_law_1079 : decode code 1079 = .ok (.iconst 0, 1) := by decide +kernel
theorem dL_law_1080 : decode code 1080 = .ok (.ireturn, 1) := by decide +kernel
theorem dL_law_1081 : decode code 1081 = .ok (.goto 622, 3) := by decide +kernel
theorem dL_law_1084 : decode code 1084 = .ok (.aload_n 1, 1) := by decide +kernel
theorem dL_law_1085 : decode code 1085 = .ok (.aload_n 0, 1) := by decide +kernel
theorem dL_law_1086 : decode code 1086 = .ok (.iload 4, 2) := by decide +kernel
theorem dL_law_1088 : decode code 1088 = .ok (.iconst 1, 1) := by decide +kernel
theorem dL_law_1089 : decode code 1089 = .ok (.iadd, 1) := by decide +kernel
theorem dL_law_1090 : decode code 1090 = .ok (.iaload, 1) := by decide +kernel
theorem dL_law_1091 : decode code 1091 = .ok (.aload_n 0, 1) := by decide +kernel
theorem dL_law_1092 : decode code 1092 = .ok (.iload 4, 2) := by decide +kernel
theorem dL_law_1094 : decode code 1094 = .ok (.iconst 2, 1) := by decide +kernel
theorem dL_law_1095 : decode code 1095 = .ok (.iadd, 1) := by decide +kernel
theorem dL_law_1096 : decode code 1096 = .ok (.iaload, 1) := by decide +kernel
theorem dL_law_1097 : decode code 1097 = .ok (.aload_n 3, 1) := by decide +kernel
theorem dL_law_1098 : decode code 1098 = .ok (.invokestatic 141, 3) := by decide +kernel
theorem dL_law_1101 : decode code 1101 = .ok (.istore 5, 2) := by decide +kernel
theorem dL_law_1103 : decode code 1103 = .ok (.aload_n 2, 1) := by decide +kernel
theorem dL_law_1104 : decode code 1104 = .ok (.aload_n 0, 1) := by decide +kernel
theorem dL_law_1105 : decode code 1105 = .ok (.iload 4, 2) := by decide +kernel
theorem dL_law_1107 : decode code 1107 = .ok (.iconst 1, 1) := by decide +kernel
theorem dL_law_1108 : decode code 1108 = .ok (.iadd, 1) := by decide +kernel
theorem dL_law_1109 : decode code 1109 = .ok (.iaload, 1) := by decide +kernel
theorem dL_law_1110 : decode code 1110 = .ok (.aload_n 0, 1) := by decide +kernel
theorem dL_law_1111 : decode code 1111 = .ok (.iload 4, 2) := by decide +kernel
theorem dL_law_1113 : decode code 1113 = .ok (.iconst 2, 1) := by decide +kernel
theorem dL_law_1114 : decode code 1114 = .ok (.iadd, 1) := by decide +kernel
theorem dL_law_1115 : decode code 1115 = .ok (.iaload, 1) := by decide +kernel
theorem dL_law_1116 : decode code 1116 = .ok (.invokevirtual 143, 3) := by decide +kernel
theorem dL_law_1119 : decode code 1119 = .ok (.istore 6, 2) := by decide +kernel
theorem dL_law_1121 : decode code 1121 = .ok (.aload_n 2, 1) := by decide +kernel
theorem dL_law_1122 : decode code 1122 = .ok (.invokevirtual 97, 3) := by decide +kernel
theorem dL_law_1125 : decode code 1125 = .ok (.iload 5, 2) := by decide +kernel
theorem dL_law_1127 : decode code 1127 = .ok (.if_icmp .eq 5, 3) := by decide +kernel
theorem dL_law_1130 : decode code 1130 = .ok (.iconst 0, 1) := by decide +kernel
theorem dL_law_1131 : decode code 1131 = .ok (.ireturn, 1) := by decide +kernel
theorem dL_law_1132 : decode code 1132 = .ok (.iload 5, 2) := by decide +kernel
theorem dL_law_1134 : decode code 1134 = .ok (.ifCond .ne 15, 3) := by decide +kernel
theorem dL_law_1137 : decode code 1137 = .ok (.aload_n 3, 1) := by decide +kernel
theorem dL_law_1138 : decode code 1138 = .ok (.iconst 0, 1) := by decide +kernel
theorem dL_law_1139 : decode code 1139 = .ok (.laload, 1) := by decide +kernel
theorem dL_law_1140 : decode code 1140 = .ok (.iload 6, 2) := by decide +kernel
theorem dL_law_1142 : decode code 1142 = .ok (.i2l, 1) := by decide +kernel
theorem dL_law_1143 : decode code 1143 = .ok (.lcmp, 1) := by decide +kernel
theorem dL_law_1144 : decode code 1144 = .ok (.ifCond .eq 5, 3) := by decide +kernel
theorem dL_law_1147 : decode code 1147 = .ok (.iconst 0, 1) := by decide +kernel
theorem dL_law_1148 : decode code 1148 = .ok (.ireturn, 1) := by decide +kernel
theorem dL_law_1149 : decode code 1149 = .ok (.goto 554, 3) := by decide +kernel
theorem dL_law_1152 : decode code 1152 = .ok (.aload_n 1, 1) := by decide +kernel
theorem dL_law_1153 : decode code 1153 = .ok (.aload_n 0, 1) := by decide +kernel
theorem dL_law_1154 : decode code 1154 = .ok (.iload 4, 2) := by decide +kernel
theorem dL_law_1156 : decode code 1156 = .ok (.iconst 1, 1) := by decide +kernel
theorem dL_law_1157 : decode code 1157 = .ok (.iadd, 1) := by decide +kernel
theorem dL_law_1158 : decode code 1158 = .ok (.iaload, 1) := by decide +kernel
theorem dL_law_1159 : decode code 1159 = .ok (.aload_n 0, 1) := by decide +kernel
theorem dL_law_1160 : decode code 1160 = .ok (.iload 4, 2) := by decide +kernel
theorem dL_law_1162 : decode code 1162 = .ok (.iconst 2, 1) := by decide +kernel
theorem dL_law_1163 : decode code 1163 = .ok (.iadd, 1) := by decide +kernel
theorem dL_law_1164 : decode code 1164 = .ok (.iaload, 1) := by decide +kernel
theorem dL_law_1165 : decode code 1165 = .ok (.aload_n 3, 1) := by decide +kernel
theorem dL_law_1166 : decode code 1166 = .ok (.invokestatic 144, 3) := by decide +kernel
theorem dL_law_1169 : decode code 1169 = .ok (.istore 5, 2) := by decide +kernel
theorem dL_law_1171 : decode code 1171 = .ok (.aload_n 2, 1) := by decide +kernel
theorem dL_law_1172 : decode code 1172 = .ok (.aload_n 0, 1) := by decide +kernel
theorem dL_law_1173 : decode code 1173 = .ok (.iload 4, 2) := by decide +kernel
theorem dL_law_1175 : decode code 1175 = .ok (.iconst 1, 1) := by decide +kernel
theorem dL_law_1176 : decode code 1176 = .ok (.iadd, 1) := by decide +kernel
theorem dL_law_1177 : decode code 1177 = .ok (.iaload, 1) := by decide +kernel
theorem dL_law_1178 : decode code 1178 = .ok (.aload_n 0, 1) := by decide +kernel
theorem dL_law_1179 : decode code 1179 = .ok (.iload 4, 2) := by decide +kernel
theorem dL_law_1181 : decode code 1181 = .ok (.iconst 2, 1) := by decide +kernel
theorem dL_law_1182 : decode code 1182 = .ok (.iadd, 1) := by decide +kernel
theorem dL_law_1183 : decode code 1183 = .ok (.iaload, 1) := by decide +kernel
theorem dL_law_1184 : decode code 1184 = .ok (.invokevirtual 146, 3) := by decide +kernel
theorem dL_law_1187 : decode code 1187 = .ok (.istore 6, 2) := by decide +kernel
theorem dL_law_1189 : decode code 1189 = .ok (.aload_n 2, 1) := by decide +kernel
theorem dL_law_1190 : decode code 1190 = .ok (.invokevirtual 97, 3) := by decide +kernel
theorem dL_law_1193 : decode code 1193 = .ok (.iload 5, 2) := by decide +kernel
theorem dL_law_1195 : decode code 1195 = .ok (.if_icmp .eq 5, 3) := by decide +kernel
theorem dL_law_1198 : decode code 1198 = .ok (.iconst 0, 1) := by decide +kernel
theorem dL_law_1199 : decode code 1199 = .ok (.ireturn, 1) := by decide +kernel
theorem dL_law_1200 : decode code 1200 = .ok (.iload 5, 2) := by decide +kernel
theorem dL_law_1202 : decode code 1202 = .ok (.ifCond .ne 15, 3) := by decide +kernel
theorem dL_law_1205 : decode code 1205 = .ok (.aload_n 3, 1) := by decide +kernel
theorem dL_law_1206 : decode code 1206 = .ok (.iconst 0, 1) := by decide +kernel
theorem dL_law_1207 : decode code 1207 = .ok (.laload, 1) := by decide +kernel
theorem dL_law_1208 : decode code 1208 = .ok (.iload 6, 2) := by decide +kernel
theorem dL_law_1210 : decode code 1210 = .ok (.i2l, 1) := by decide +kernel
theorem dL_law_1211 : decode code 1211 = .ok (.lcmp, 1) := by decide +kernel
theorem dL_law_1212 : decode code 1212 = .ok (.ifCond .eq 5, 3) := by decide +kernel
theorem dL_law_1215 : decode code 1215 = .ok (.iconst 0, 1) := by decide +kernel
theorem dL_law_1216 : decode code 1216 = .ok (.ireturn, 1) := by decide +kernel
theorem dL_law_1217 : decode code 1217 = .ok (.goto 486, 3) := by decide +kernel
theorem dL_law_1220 : decode code 1220 = .ok (.aload_n 1, 1) := by decide +kernel
theorem dL_law_1221 : decode code 1221 = .ok (.aload_n 0, 1) := by decide +kernel
theorem dL_law_1222 : decode code 1222 = .ok (.iload 4, 2) := by decide +kernel
theorem dL_law_1224 : decode code 1224 = .ok (.iconst 1, 1) := by decide +kernel
theorem dL_law_1225 : decode code 1225 = .ok (.iadd, 1) := by decide +kernel
theorem dL_law_1226 : decode code 1226 = .ok (.iaload, 1) := by decide +kernel
theorem dL_law_1227 : decode code 1227 = .ok (.aload_n 3, 1) := by decide +kernel
theorem dL_law_1228 : decode code 1228 = .ok (.invokestatic 147, 3) := by decide +kernel
theorem dL_law_1231 : decode code 1231 = .ok (.istore 5, 2) := by decide +kernel
theorem dL_law_1233 : decode code 1233 = .ok (.aload_n 2, 1) := by decide +kernel
theorem dL_law_1234 : decode code 1234 = .ok (.aload_n 0, 1) := by decide +kernel
theorem dL_law_1235 : decode code 1235 = .ok (.iload 4, 2) := by decide +kernel
theorem dL_law_1237 : decode code 1237 = .ok (.iconst 1, 1) := by decide +kernel
theorem dL_law_1238 : decode code 1238 = .ok (.iadd, 1) := by decide +kernel
theorem dL_law_1239 : decode code 1239 = .ok (.iaload, 1) := by decide +kernel
theorem dL_law_1240 : decode code 1240 = .ok (.invokevirtual 149, 3) := by decide +kernel
theorem dL_law_1243 : decode code 1243 = .ok (.istore 6, 2) := by decide +kernel
theorem dL_law_1245 : decode code 1245 = .ok (.aload_n 2, 1) := by decide +kernel
theorem dL_law_1246 : decode code 1246 = .ok (.invokevirtual 97, 3) := by decide +kernel
theorem dL_law_1249 : decode code 1249 = .ok (.iload 5, 2) := by decide +kernel
theorem dL_law_1251 : decode code 1251 = .ok (.if_icmp .eq 5, 3) := by decide +kernel
theorem dL_law_1254 : decode code 1254 = .ok (.iconst 0, 1) := by decide +kernel
theorem dL_law_1255 : decode code 1255 = .ok (.ireturn, 1) := by decide +kernel
theorem dL_law_1256 : decode code 1256 = .ok (.iload 5, 2) := by decide +kernel
theorem dL_law_1258 : decode code 1258 = .ok (.ifCond .ne 15, 3) := by decide +kernel
theorem dL_law_1261 : decode code 1261 = .ok (.aload_n 3, 1) := by decide +kernel
theorem dL_law_1262 : decode code 1262 = .ok (.iconst 0, 1) := by decide +kernel
theorem dL_law_1263 : decode code 1263 = .ok (.laload, 1) := by decide +kernel
theorem dL_law_1264 : decode code 1264 = .ok (.iload 6, 2) := by decide +kernel
theorem dL_law_1266 : decode code 1266 = .ok (.i2l, 1) := by decide +kernel
theorem dL_law_1267 : decode code 1267 = .ok (.lcmp, 1) := by decide +kernel
theorem dL_law_1268 : decode code 1268 = .ok (.ifCond .eq 5, 3) := by decide +kernel
theorem dL_law_1271 : decode code 1271 = .ok (.iconst 0, 1) := by decide +kernel
theorem dL_law_1272 : decode code 1272 = .ok (.ireturn, 1) := by decide +kernel
theorem dL_law_1273 : decode code 1273 = .ok (.goto 430, 3) := by decide +kernel
theorem dL_law_1276 : decode code 1276 = .ok (.aload_n 1, 1) := by decide +kernel
theorem dL_law_1277 : decode code 1277 = .ok (.aload_n 0, 1) := by decide +kernel
theorem dL_law_1278 : decode code 1278 = .ok (.iload 4, 2) := by decide +kernel
theorem dL_law_1280 : decode code 1280 = .ok (.iconst 1, 1) := by decide +kernel
theorem dL_law_1281 : decode code 1281 = .ok (.iadd, 1) := by decide +kernel
theorem dL_law_1282 : decode code 1282 = .ok (.iaload, 1) := by decide +kernel
theorem dL_law_1283 : decode code 1283 = .ok (.aload_n 3, 1) := by decide +kernel
theorem dL_law_1284 : decode code 1284 = .ok (.invokestatic 150, 3) := by decide +kernel
theorem dL_law_1287 : decode code 1287 = .ok (.istore 5, 2) := by decide +kernel
theorem dL_law_1289 : decode code 1289 = .ok (.aload_n 2, 1) := by decide +kernel
theorem dL_law_1290 : decode code 1290 = .ok (.aload_n 0, 1) := by decide +kernel
theorem dL_law_1291 : decode code 1291 = .ok (.iload 4, 2) := by decide +kernel
theorem dL_law_1293 : decode code 1293 = .ok (.iconst 1, 1) := by decide +kernel
theorem dL_law_1294 : decode code 1294 = .ok (.iadd, 1) := by decide +kernel
theorem dL_law_1295 : decode code 1295 = .ok (.iaload, 1) := by decide +kernel
theorem dL_law_1296 : decode code 1296 = .ok (.invokevirtual 152, 3) := by decide +kernel
theorem dL_law_1299 : decode code 1299 = .ok (.istore 6, 2) := by decide +kernel
theorem dL_law_1301 : decode code 1301 = .ok (.aload_n 2, 1) := by decide +kernel
theorem dL_law_1302 : decode code 1302 = .ok (.invokevirtual 97, 3) := by decide +kernel
theorem dL_law_1305 : decode code 1305 = .ok (.iload 5, 2) := by decide +kernel
theorem dL_law_1307 : decode code 1307 = .ok (.if_icmp .eq 5, 3) := by decide +kernel
theorem dL_law_1310 : decode code 1310 = .ok (.iconst 0, 1) := by decide +kernel
theorem dL_law_1311 : decode code 1311 = .ok (.ireturn, 1) := by decide +kernel
theorem dL_law_1312 : decode code 1312 = .ok (.iload 5, 2) := by decide +kernel
theorem dL_law_1314 : decode code 1314 = .ok (.ifCond .ne 15, 3) := by decide +kernel
theorem dL_law_1317 : decode code 1317 = .ok (.aload_n 3, 1) := by decide +kernel
theorem dL_law_1318 : decode code 1318 = .ok (.iconst 0, 1) := by decide +kernel
theorem dL_law_1319 : decode code 1319 = .ok (.laload, 1) := by decide +kernel
theorem dL_law_1320 : decode code 1320 = .ok (.iload 6, 2) := by decide +kernel
theorem dL_law_1322 : decode code 1322 = .ok (.i2l, 1) := by decide +kernel
theorem dL_law_1323 : decode code 1323 = .ok (.lcmp, 1) := by decide +kernel
theorem dL_law_1324 : decode code 1324 = .ok (.ifCond .eq 5, 3) := by decide +kernel
theorem dL_law_1327 : decode code 1327 = .ok (.iconst 0, 1) := by decide +kernel
theorem dL_law_1328 : decode code 1328 = .ok (.ireturn, 1) := by decide +kernel
theorem dL_law_1329 : decode code 1329 = .ok (.goto 374, 3) := by decide +kernel
theorem dL_law_1332 : decode code 1332 = .ok (.aload_n 1, 1) := by decide +kernel
theorem dL_law_1333 : decode code 1333 = .ok (.invokevirtual 153, 3) := by decide +kernel
theorem dL_law_1336 : decode code 1336 = .ok (.dstore 5, 2) := by decide +kernel
theorem dL_law_1338 : decode code 1338 = .ok (.aload_n 2, 1) := by decide +kernel
theorem dL_law_1339 : decode code 1339 = .ok (.invokevirtual 157, 3) := by decide +kernel
theorem dL_law_1342 : decode code 1342 = .ok (.dstore 7, 2) := by decide +kernel
theorem dL_law_1344 : decode code 1344 = .ok (.dload 5, 2) := by decide +kernel
theorem dL_law_1346 : decode code 1346 = .ok (.dload 7, 2) := by decide +kernel
theorem dL_law_1348 : decode code 1348 = .ok (.dcmp .l, 1) := by decide +kernel
theorem dL_law_1349 : decode code 1349 = .ok (.ifCond .eq 21, 3) := by decide +kernel
theorem dL_law_1352 : decode code 1352 = .ok (.dload 5, 2) := by decide +kernel
theorem dL_law_1354 : decode code 1354 = .ok (.dload 5, 2) := by decide +kernel
theorem dL_law_1356 : decode code 1356 = .ok (.dcmp .l, 1) := by decide +kernel
theorem dL_law_1357 : decode code 1357 = .ok (.ifCond .eq 11, 3) := by decide +kernel
theorem dL_law_1360 : decode code 1360 = .ok (.dload 7, 2) := by decide +kernel
theorem dL_law_1362 : decode code 1362 = .ok (.dload 7, 2) := by decide +kernel
theorem dL_law_1364 : decode code 1364 = .ok (.dcmp .l, 1) := by decide +kernel
theorem dL_law_1365 : decode code 1365 = .ok (.ifCond .ne 5, 3) := by decide +kernel
theorem dL_law_1368 : decode code 1368 = .ok (.iconst 0, 1) := by decide +kernel
theorem dL_law_1369 : decode code 1369 = .ok (.ireturn, 1) := by decide +kernel
theorem dL_law_1370 : decode code 1370 = .ok (.goto 333, 3) := by decide +kernel
theorem dL_law_1373 : decode code 1373 = .ok (.aload_n 1, 1) := by decide +kernel
theorem dL_law_1374 : decode code 1374 = .ok (.aload_n 0, 1) := by decide +kernel
theorem dL_law_1375 : decode code 1375 = .ok (.iload 4, 2) := by decide +kernel
theorem dL_law_1377 : decode code 1377 = .ok (.iconst 1, 1) := by decide +kernel
theorem dL_law_1378 : decode code 1378 = .ok (.iadd, 1) := by decide +kernel
theorem dL_law_1379 : decode code 1379 = .ok (.iaload, 1) := by decide +kernel
theorem dL_law_1380 : decode code 1380 = .ok (.aload_n 3, 1) := by decide +kernel
theorem dL_law_1381 : decode code 1381 = .ok (.invokestatic 158, 3) := by decide +kernel
theorem dL_law_1384 : decode code 1384 = .ok (.istore 5, 2) := by decide +kernel
theorem dL_law_1386 : decode code 1386 = .ok (.aload_n 2, 1) := by decide +kernel
theorem dL_law_1387 : decode code 1387 = .ok (.aload_n 0, 1) := by decide +kernel
theorem dL_law_1388 : decode code 1388 = .ok (.iload 4, 2) := by decide +kernel
theorem dL_law_1390 : decode code 1390 = .ok (.iconst 1, 1) := by decide +kernel
theorem dL_law_1391 : decode code 1391 = .ok (.iadd, 1) := by decide +kernel
theorem dL_law_1392 : decode code 1392 = .ok (.iaload, 1) := by decide +kernel
theorem dL_law_1393 : decode code 1393 = .ok (.invokevirtual 160, 3) := by decide +kernel
theorem dL_law_1396 : decode code 1396 = .ok (.istore 6, 2) := by decide +kernel
theorem dL_law_1398 : decode code 1398 = .ok (.aload_n 2, 1) := by decide +kernel
theorem dL_law_1399 : decode code 1399 = .ok (.invokevirtual 97, 3) := by decide +kernel
theorem dL_law_1402 : decode code 1402 = .ok (.iload 5, 2) := by decide +kernel
theorem dL_law_1404 : decode code 1404 = .ok (.if_icmp .eq 5, 3) := by decide +kernel
theorem dL_law_1407 : decode code 1407 = .ok (.iconst 0, 1) := by decide +kernel
theorem dL_law_1408 : decode code 1408 = .ok (.ireturn, 1) := by decide +kernel
theorem dL_law_1409 : decode code 1409 = .ok (.iload 5, 2) := by decide +kernel
theorem dL_law_1411 : decode code 1411 = .ok (.ifCond .ne 15, 3) := by decide +kernel
theorem dL_law_1414 : decode code 1414 = .ok (.aload_n 3, 1) := by decide +kernel
theorem dL_law_1415 : decode code 1415 = .ok (.iconst 0, 1) := by decide +kernel
theorem dL_law_1416 : decode code 1416 = .ok (.laload, 1) := by decide +kernel
theorem dL_law_1417 : decode code 1417 = .ok (.iload 6, 2) := by decide +kernel
theorem dL_law_1419 : decode code 1419 = .ok (.i2l, 1) := by decide +kernel
theorem dL_law_1420 : decode code 1420 = .ok (.lcmp, 1) := by decide +kernel
theorem dL_law_1421 : decode code 1421 = .ok (.ifCond .eq 5, 3) := by decide +kernel
theorem dL_law_1424 : decode code 1424 = .ok (.iconst 0, 1) := by decide +kernel
theorem dL_law_1425 : decode code 1425 = .ok (.ireturn, 1) := by decide +kernel
theorem dL_law_1426 : decode code 1426 = .ok (.goto 277, 3) := by decide +kernel
theorem dL_law_1429 : decode code 1429 = .ok (.aload_n 1, 1) := by decide +kernel
theorem dL_law_1430 : decode code 1430 = .ok (.aload_n 0, 1) := by decide +kernel
theorem dL_law_1431 : decode code 1431 = .ok (.iload 4, 2) := by decide +kernel
theorem dL_law_1433 : decode code 1433 = .ok (.iconst 1, 1) := by decide +kernel
theorem dL_law_1434 : decode code 1434 = .ok (.iadd, 1) := by decide +kernel
theorem dL_law_1435 : decode code 1435 = .ok (.iaload, 1) := by decide +kernel
theorem dL_law_1436 : decode code 1436 = .ok (.aload_n 0, 1) := by decide +kernel
theorem dL_law_1437 : decode code 1437 = .ok (.iload 4, 2) := by decide +kernel
theorem dL_law_1439 : decode code 1439 = .ok (.iconst 2, 1) := by decide +kernel
theorem dL_law_1440 : decode code 1440 = .ok (.iadd, 1) := by decide +kernel
theorem dL_law_1441 : decode code 1441 = .ok (.iaload, 1) := by decide +kernel
theorem dL_law_1442 : decode code 1442 = .ok (.aload_n 3, 1) := by decide +kernel
theorem dL_law_1443 : decode code 1443 = .ok (.invokestatic 161, 3) := by decide +kernel
theorem dL_law_1446 : decode code 1446 = .ok (.istore 5, 2) := by decide +kernel
theorem dL_law_1448 : decode code 1448 = .ok (.aload_n 2, 1) := by decide +kernel
theorem dL_law_1449 : decode code 1449 = .ok (.aload_n 0, 1) := by decide +kernel
theorem dL_law_1450 : decode code 1450 = .ok (.iload 4, 2) := by decide +kernel
theorem dL_law_1452 : decode code 1452 = .ok (.iconst 1, 1) := by decide +kernel
theorem dL_law_1453 : decode code 1453 = .ok (.iadd, 1) := by decide +kernel
theorem dL_law_1454 : decode code 1454 = .ok (.iaload, 1) := by decide +kernel
theorem dL_law_1455 : decode code 1455 = .ok (.aload_n 0, 1) := by decide +kernel
theorem dL_law_1456 : decode code 1456 = .ok (.iload 4, 2) := by decide +kernel
theorem dL_law_1458 : decode code 1458 = .ok (.iconst 2, 1) := by decide +kernel
theorem dL_law_1459 : decode code 1459 = .ok (.iadd, 1) := by decide +kernel
theorem dL_law_1460 : decode code 1460 = .ok (.iaload, 1) := by decide +kernel
theorem dL_law_1461 : decode code 1461 = .ok (.invokevirtual 163, 3) := by decide +kernel
theorem dL_law_1464 : decode code 1464 = .ok (.istore 6, 2) := by decide +kernel
theorem dL_law_1466 : decode code 1466 = .ok (.aload_n 2, 1) := by decide +kernel
theorem dL_law_1467 : decode code 1467 = .ok (.invokevirtual 97, 3) := by decide +kernel
theorem dL_law_1470 : decode code 1470 = .ok (.iload 5, 2) := by decide +kernel
theorem dL_law_1472 : decode code 1472 = .ok (.if_icmp .eq 5, 3) := by decide +kernel
theorem dL_law_1475 : decode code 1475 = .ok (.iconst 0, 1) := by decide +kernel
theorem dL_law_1476 : decode code 1476 = .ok (.ireturn, 1) := by decide +kernel
theorem dL_law_1477 : decode code 1477 = .ok (.iload 5, 2) := by decide +kernel
theorem dL_law_1479 : decode code 1479 = .ok (.ifCond .ne 15, 3) := by decide +kernel
theorem dL_law_1482 : decode code 1482 = .ok (.aload_n 3, 1) := by decide +kernel
theorem dL_law_1483 : decode code 1483 = .ok (.iconst 0, 1) := by decide +kernel
theorem dL_law_1484 : decode code 1484 = .ok (.laload, 1) := by decide +kernel
theorem dL_law_1485 : decode code 1485 = .ok (.iload 6, 2) := by decide +kernel
theorem dL_law_1487 : decode code 1487 = .ok (.i2l, 1) := by decide +kernel
theorem dL_law_1488 : decode code 1488 = .ok (.lcmp, 1) := by decide +kernel
theorem dL_law_1489 : decode code 1489 = .ok (.ifCond .eq 5, 3) := by decide +kernel
theorem dL_law_1492 : decode code 1492 = .ok (.iconst 0, 1) := by decide +kernel
theorem dL_law_1493 : decode code 1493 = .ok (.ireturn, 1) := by decide +kernel
theorem dL_law_1494 : decode code 1494 = .ok (.goto 209, 3) := by decide +kernel
theorem dL_law_1497 : decode code 1497 = .ok (.aload_n 1, 1) := by decide +kernel
theorem dL_law_1498 : decode code 1498 = .ok (.aload_n 0, 1) := by decide +kernel
theorem dL_law_1499 : decode code 1499 = .ok (.iload 4, 2) := by decide +kernel
theorem dL_law_1501 : decode code 1501 = .ok (.iconst 1, 1) := by decide +kernel
theorem dL_law_1502 : decode code 1502 = .ok (.iadd, 1) := by decide +kernel
theorem dL_law_1503 : decode code 1503 = .ok (.iaload, 1) := by decide +kernel
theorem dL_law_1504 : decode code 1504 = .ok (.aload_n 3, 1) := by decide +kernel
theorem dL_law_1505 : decode code 1505 = .ok (.invokestatic 164, 3) := by decide +kernel
theorem dL_law_1508 : decode code 1508 = .ok (.istore 5, 2) := by decide +kernel
theorem dL_law_1510 : decode code 1510 = .ok (.aload_n 2, 1) := by decide +kernel
theorem dL_law_1511 : decode code 1511 = .ok (.aload_n 0, 1) := by decide +kernel
theorem dL_law_1512 : decode code 1512 = .ok (.iload 4, 2) := by decide +kernel
theorem dL_law_1514 : decode code 1514 = .ok (.iconst 1, 1) := by decide +kernel
theorem dL_law_1515 : decode code 1515 = .ok (.iadd, 1) := by decide +kernel
theorem dL_law_1516 : decode code 1516 = .ok (.iaload, 1) := by decide +kernel
theorem dL_law_1517 : decode code 1517 = .ok (.invokevirtual 166, 3) := by decide +kernel
theorem dL_law_1520 : decode code 1520 = .ok (.istore 6, 2) := by decide +kernel
theorem dL_law_1522 : decode code 1522 = .ok (.aload_n 2, 1) := by decide +kernel
theorem dL_law_1523 : decode code 1523 = .ok (.invokevirtual 97, 3) := by decide +kernel
theorem dL_law_1526 : decode code 1526 = .ok (.iload 5, 2) := by decide +kernel
theorem dL_law_1528 : decode code 1528 = .ok (.if_icmp .eq 5, 3) := by decide +kernel
theorem dL_law_1531 : decode code 1531 = .ok (.iconst 0, 1) := by decide +kernel
theorem dL_law_1532 : decode code 1532 = .ok (.ireturn, 1) := by decide +kernel
theorem dL_law_1533 : decode code 1533 = .ok (.iload 5, 2) := by decide +kernel
theorem dL_law_1535 : decode code 1535 = .ok (.ifCond .ne 15, 3) := by decide +kernel
theorem dL_law_1538 : decode code 1538 = .ok (.aload_n 3, 1) := by decide +kernel
theorem dL_law_1539 : decode code 1539 = .ok (.iconst 0, 1) := by decide +kernel
theorem dL_law_1540 : decode code 1540 = .ok (.laload, 1) := by decide +kernel
theorem dL_law_1541 : decode code 1541 = .ok (.iload 6, 2) := by decide +kernel
theorem dL_law_1543 : decode code 1543 = .ok (.i2l, 1) := by decide +kernel
theorem dL_law_1544 : decode code 1544 = .ok (.lcmp, 1) := by decide +kernel
theorem dL_law_1545 : decode code 1545 = .ok (.ifCond .eq 5, 3) := by decide +kernel
theorem dL_law_1548 : decode code 1548 = .ok (.iconst 0, 1) := by decide +kernel
theorem dL_law_1549 : decode code 1549 = .ok (.ireturn, 1) := by decide +kernel
theorem dL_law_1550 : decode code 1550 = .ok (.goto 153, 3) := by decide +kernel
theorem dL_law_1553 : decode code 1553 = .ok (.aload_n 1, 1) := by decide +kernel
theorem dL_law_1554 : decode code 1554 = .ok (.aload_n 0, 1) := by decide +kernel
theorem dL_law_1555 : decode code 1555 = .ok (.iload 4, 2) := by decide +kernel
theorem dL_law_1557 : decode code 1557 = .ok (.iconst 1, 1) := by decide +kernel
theorem dL_law_1558 : decode code 1558 = .ok (.iadd, 1) := by decide +kernel
theorem dL_law_1559 : decode code 1559 = .ok (.iaload, 1) := by decide +kernel
theorem dL_law_1560 : decode code 1560 = .ok (.aload_n 0, 1) := by decide +kernel
theorem dL_law_1561 : decode code 1561 = .ok (.iload 4, 2) := by decide +kernel
theorem dL_law_1563 : decode code 1563 = .ok (.iconst 2, 1) := by decide +kernel
theorem dL_law_1564 : decode code 1564 = .ok (.iadd, 1) := by decide +kernel
theorem dL_law_1565 : decode code 1565 = .ok (.iaload, 1) := by decide +kernel
theorem dL_law_1566 : decode code 1566 = .ok (.aload_n 3, 1) := by decide +kernel
theorem dL_law_1567 : decode code 1567 = .ok (.invokestatic 167, 3) := by decide +kernel
theorem dL_law_1570 : decode code 1570 = .ok (.istore 5, 2) := by decide +kernel
theorem dL_law_1572 : decode code 1572 = .ok (.aload_n 2, 1) := by decide +kernel
theorem dL_law_1573 : decode code 1573 = .ok (.aload_n 0, 1) := by decide +kernel
theorem dL_law_1574 : decode code 1574 = .ok (.iload 4, 2) := by decide +kernel
theorem dL_law_1576 : decode code 1576 = .ok (.iconst 1, 1) := by decide +kernel
theorem dL_law_1577 : decode code 1577 = .ok (.iadd, 1) := by decide +kernel
theorem dL_law_1578 : decode code 1578 = .ok (.iaload, 1) := by decide +kernel
theorem dL_law_1579 : decode code 1579 = .ok (.aload_n 0, 1) := by decide +kernel
theorem dL_law_1580 : decode code 1580 = .ok (.iload 4, 2) := by decide +kernel
theorem dL_law_1582 : decode code 1582 = .ok (.iconst 2, 1) := by decide +kernel
theorem dL_law_1583 : decode code 1583 = .ok (.iadd, 1) := by decide +kernel
theorem dL_law_1584 : decode code 1584 = .ok (.iaload, 1) := by decide +kernel
theorem dL_law_1585 : decode code 1585 = .ok (.invokevirtual 169, 3) := by decide +kernel
theorem dL_law_1588 : decode code 1588 = .ok (.istore 6, 2) := by decide +kernel
theorem dL_law_1590 : decode code 1590 = .ok (.aload_n 2, 1) := by decide +kernel
theorem dL_law_1591 : decode code 1591 = .ok (.invokevirtual 97, 3) := by decide +kernel
theorem dL_law_1594 : decode code 1594 = .ok (.iload 5, 2) := by decide +kernel
theorem dL_law_1596 : decode code 1596 = .ok (.if_icmp .eq 5, 3) := by decide +kernel
theorem dL_law_1599 : decode code 1599 = .ok (.iconst 0, 1) := by decide +kernel
theorem dL_law_1600 : decode code 1600 = .ok (.ireturn, 1) := by decide +kernel
theorem dL_law_1601 : decode code 1601 = .ok (.iload 5, 2) := by decide +kernel
theorem dL_law_1603 : decode code 1603 = .ok (.ifCond .ne 15, 3) := by decide +kernel
theorem dL_law_1606 : decode code 1606 = .ok (.aload_n 3, 1) := by decide +kernel
theorem dL_law_1607 : decode code 1607 = .ok (.iconst 0, 1) := by decide +kernel
theorem dL_law_1608 : decode code 1608 = .ok (.laload, 1) := by decide +kernel
theorem dL_law_1609 : decode code 1609 = .ok (.iload 6, 2) := by decide +kernel
theorem dL_law_1611 : decode code 1611 = .ok (.i2l, 1) := by decide +kernel
theorem dL_law_1612 : decode code 1612 = .ok (.lcmp, 1) := by decide +kernel
theorem dL_law_1613 : decode code 1613 = .ok (.ifCond .eq 5, 3) := by decide +kernel
theorem dL_law_1616 : decode code 1616 = .ok (.iconst 0, 1) := by decide +kernel
theorem dL_law_1617 : decode code 1617 = .ok (.ireturn, 1) := by decide +kernel
theorem dL_law_1618 : decode code 1618 = .ok (.goto 85, 3) := by decide +kernel
theorem dL_law_1621 : decode code 1621 = .ok (.aload_n 1, 1) := by decide +kernel
theorem dL_law_1622 : decode code 1622 = .ok (.aload_n 0, 1) := by decide +kernel
theorem dL_law_1623 : decode code 1623 = .ok (.iload 4, 2) := by decide +kernel
theorem dL_law_1625 : decode code 1625 = .ok (.iconst 1, 1) := by decide +kernel
theorem dL_law_1626 : decode code 1626 = .ok (.iadd, 1) := by decide +kernel
theorem dL_law_1627 : decode code 1627 = .ok (.iaload, 1) := by decide +kernel
theorem dL_law_1628 : decode code 1628 = .ok (.aload_n 0, 1) := by decide +kernel
theorem dL_law_1629 : decode code 1629 = .ok (.iload 4, 2) := by decide +kernel
theorem dL_law_1631 : decode code 1631 = .ok (.iconst 2, 1) := by decide +kernel
theorem dL_law_1632 : decode code 1632 = .ok (.iadd, 1) := by decide +kernel
theorem dL_law_1633 : decode code 1633 = .ok (.iaload, 1) := by decide +kernel
theorem dL_law_1634 : decode code 1634 = .ok (.aload_n 3, 1) := by decide +kernel
theorem dL_law_1635 : decode code 1635 = .ok (.invokestatic 170, 3) := by decide +kernel
theorem dL_law_1638 : decode code 1638 = .ok (.istore 5, 2) := by decide +kernel
theorem dL_law_1640 : decode code 1640 = .ok (.aload_n 2, 1) := by decide +kernel
theorem dL_law_1641 : decode code 1641 = .ok (.aload_n 0, 1) := by decide +kernel
theorem dL_law_1642 : decode code 1642 = .ok (.iload 4, 2) := by decide +kernel
theorem dL_law_1644 : decode code 1644 = .ok (.iconst 1, 1) := by decide +kernel
theorem dL_law_1645 : decode code 1645 = .ok (.iadd, 1) := by decide +kernel
theorem dL_law_1646 : decode code 1646 = .ok (.iaload, 1) := by decide +kernel
theorem dL_law_1647 : decode code 1647 = .ok (.aload_n 0, 1) := by decide +kernel
theorem dL_law_1648 : decode code 1648 = .ok (.iload 4, 2) := by decide +kernel
theorem dL_law_1650 : decode code 1650 = .ok (.iconst 2, 1) := by decide +kernel
theorem dL_law_1651 : decode code 1651 = .ok (.iadd, 1) := by decide +kernel
theorem dL_law_1652 : decode code 1652 = .ok (.iaload, 1) := by decide +kernel
theorem dL_law_1653 : decode code 1653 = .ok (.invokevirtual 172, 3) := by decide +kernel
theorem dL_law_1656 : decode code 1656 = .ok (.istore 6, 2) := by decide +kernel
theorem dL_law_1658 : decode code 1658 = .ok (.aload_n 2, 1) := by decide +kernel
theorem dL_law_1659 : decode code 1659 = .ok (.invokevirtual 97, 3) := by decide +kernel
theorem dL_law_1662 : decode code 1662 = .ok (.iload 5, 2) := by decide +kernel
theorem dL_law_1664 : decode code 1664 = .ok (.if_icmp .eq 5, 3) := by decide +kernel
theorem dL_law_1667 : decode code 1667 = .ok (.iconst 0, 1) := by decide +kernel
theorem dL_law_1668 : decode code 1668 = .ok (.ireturn, 1) := by decide +kernel
theorem dL_law_1669 : decode code 1669 = .ok (.iload 5, 2) := by decide +kernel
theorem dL_law_1671 : decode code 1671 = .ok (.ifCond .ne 15, 3) := by decide +kernel
theorem dL_law_1674 : decode code 1674 = .ok (.aload_n 3, 1) := by decide +kernel
theorem dL_law_1675 : decode code 1675 = .ok (.iconst 0, 1) := by decide +kernel
theorem dL_law_1676 : decode code 1676 = .ok (.laload, 1) := by decide +kernel
theorem dL_law_1677 : decode code 1677 = .ok (.iload 6, 2) := by decide +kernel
theorem dL_law_1679 : decode code 1679 = .ok (.i2l, 1) := by decide +kernel
theorem dL_law_1680 : decode code 1680 = .ok (.lcmp, 1) := by decide +kernel
theorem dL_law_1681 : decode code 1681 = .ok (.ifCond .eq 5, 3) := by decide +kernel
theorem dL_law_1684 : decode code 1684 = .ok (.iconst 0, 1) := by decide +kernel
theorem dL_law_1685 : decode code 1685 = .ok (.ireturn, 1) := by decide +kernel
theorem dL_law_1686 : decode code 1686 = .ok (.goto 17, 3) := by decide +kernel
theorem dL_law_1689 : decode code 1689 = .ok (.aload_n 1, 1) := by decide +kernel
theorem dL_law_1690 : decode code 1690 = .ok (.invokevirtual 173, 3) := by decide +kernel
theorem dL_law_1693 : decode code 1693 = .ok (.aload_n 2, 1) := by decide +kernel
theorem dL_law_1694 : decode code 1694 = .ok (.invokevirtual 177, 3) := by decide +kernel
theorem dL_law_1697 : decode code 1697 = .ok (.lcmp, 1) := by decide +kernel
theorem dL_law_1698 : decode code 1698 = .ok (.ifCond .eq 5, 3) := by decide +kernel
theorem dL_law_1701 : decode code 1701 = .ok (.iconst 0, 1) := by decide +kernel
theorem dL_law_1702 : decode code 1702 = .ok (.ireturn, 1) := by decide +kernel
theorem dL_law_1703 : decode code 1703 = .ok (.iinc 4 6, 3) := by decide +kernel
theorem dL_law_1706 : decode code 1706 = .ok (.goto (-1683), 3) := by decide +kernel
theorem dL_law_1709 : decode code 1709 = .ok (.iconst 1, 1) := by decide +kernel
theorem dL_law_1710 : decode code 1710 = .ok (.ireturn, 1) := by decide +kernel
theorem dX4_cueNumbered_0 : decode prog_1_method_13_code 0 = .ok (.iload_n 1, 1) := by decide +kernel
theorem dX4_cueNumbered_1 : decode prog_1_method_13_code 1 = .ok (.ifCond .lt 14, 3) := by decide +kernel
theorem dX4_cueNumbered_4 : decode prog_1_method_13_code 4 = .ok (.iload_n 1, 1) := by decide +kernel
theorem dX4_cueNumbered_5 : decode prog_1_method_13_code 5 = .ok (.aload_n 0, 1) := by decide +kernel
theorem dX4_cueNumbered_6 : decode prog_1_method_13_code 6 = .ok (.getfield 20, 3) := by decide +kernel
theorem dX4_cueNumbered_9 : decode prog_1_method_13_code 9 = .ok (.invokevirtual 51, 3) := by decide +kernel
theorem dX4_cueNumbered_12 : decode prog_1_method_13_code 12 = .ok (.if_icmp .lt 13, 3) := by decide +kernel
theorem dX4_cueNumbered_15 : decode prog_1_method_13_code 15 = .ok (.new 119, 3) := by decide +kernel
theorem dX4_cueNumbered_18 : decode prog_1_method_13_code 18 = .ok (.dup, 1) := by decide +kernel
theorem dX4_cueNumbered_19 : decode prog_1_method_13_code 19 = .ok (.ldc 164, 2) := by decide +kernel
theorem dX4_cueNumbered_21 : decode prog_1_method_13_code 21 = .ok (.invokespecial 123, 3) := by decide +kernel
theorem dX4_cueNumbered_24 : decode prog_1_method_13_code 24 = .ok (.athrow, 1) := by decide +kernel
theorem dX4_cueNumbered_25 : decode prog_1_method_13_code 25 = .ok (.aload_n 0, 1) := by decide +kernel
theorem dX4_cueNumbered_26 : decode prog_1_method_13_code 26 = .ok (.getfield 20, 3) := by decide +kernel
theorem dX4_cueNumbered_29 : decode prog_1_method_13_code 29 = .ok (.iload_n 1, 1) := by decide +kernel
theorem dX4_bar_0 : decode prog_1_method_10_code 0 = .ok (.aload_n 0, 1) := by decide +kernel
theorem dX4_bar_1 : decode prog_1_method_10_code 1 = .ok (.iload_n 1, 1) := by decide +kernel
theorem dX4_bar_2 : decode prog_1_method_10_code 2 = .ok (.invokevirtual 136, 3) := by decide +kernel
theorem dX4_retime_0 : decode prog_1_method_11_code 0 = .ok (.aload_n 0, 1) := by decide +kernel
theorem dX4_retime_1 : decode prog_1_method_11_code 1 = .ok (.iload_n 1, 1) := by decide +kernel
theorem dX4_retime_2 : decode prog_1_method_11_code 2 = .ok (.invokevirtual 136, 3) := by decide +kernel
theorem dX4_shift_0 : decode prog_1_method_12_code 0 = .ok (.aload_n 0, 1) := by decide +kernel
theorem dX4_shift_1 : decode prog_1_method_12_code 1 = .ok (.iload_n 1, 1) := by decide +kernel
theorem dX4_shift_2 : decode prog_1_method_12_code 2 = .ok (.invokevirtual 136, 3) := by decide +kernel
theorem dX4_take_0 : decode prog_1_method_17_code 0 = .ok (.aload_n 0, 1) := by decide +kernel
theorem dX4_take_1 : decode prog_1_method_17_code 1 = .ok (.iload_n 1, 1) := by decide +kernel
theorem dX4_take_2 : decode prog_1_method_17_code 2 = .ok (.invokevirtual 136, 3) := by decide +kernel
theorem dX4_ofHit_0 : decode prog_1_method_20_code 0 = .ok (.iload_n 1, 1) := by decide +kernel
theorem dX4_ofHit_1 : decode prog_1_method_20_code 1 = .ok (.ifCond .lt 14, 3) := by decide +kernel
theorem dX4_ofHit_4 : decode prog_1_method_20_code 4 = .ok (.iload_n 1, 1) := by decide +kernel
theorem dX4_ofHit_5 : decode prog_1_method_20_code 5 = .ok (.aload_n 0, 1) := by decide +kernel
theorem dX4_ofHit_6 : decode prog_1_method_20_code 6 = .ok (.getfield 12, 3) := by decide +kernel
theorem dX4_ofHit_9 : decode prog_1_method_20_code 9 = .ok (.invokevirtual 51, 3) := by decide +kernel
theorem dX4_ofHit_12 : decode prog_1_method_20_code 12 = .ok (.if_icmp .lt 13, 3) := by decide +kernel
theorem dX4_ofHit_15 : decode prog_1_method_20_code 15 = .ok (.new 119, 3) := by decide +kernel
theorem dX4_ofHit_18 : decode prog_1_method_20_code 18 = .ok (.dup, 1) := by decide +kernel
theorem dX4_ofHit_19 : decode prog_1_method_20_code 19 = .ok (.ldc 213, 2) := by decide +kernel
theorem dX4_ofHit_21 : decode prog_1_method_20_code 21 = .ok (.invokespecial 123, 3) := by decide +kernel
theorem dX4_ofHit_24 : decode prog_1_method_20_code 24 = .ok (.athrow, 1) := by decide +kernel
theorem dX4_ofHit_25 : decode prog_1_method_20_code 25 = .ok (.aload_n 0, 1) := by decide +kernel
theorem dX4_ofHit_26 : decode prog_1_method_20_code 26 = .ok (.getfield 12, 3) := by decide +kernel
theorem dX4_ofHit_29 : decode prog_1_method_20_code 29 = .ok (.iload_n 1, 1) := by decide +kernel
theorem dX4_ofCue_0 : decode prog_1_method_21_code 0 = .ok (.aload_n 0, 1) := by decide +kernel
theorem dX4_ofCue_1 : decode prog_1_method_21_code 1 = .ok (.iload_n 1, 1) := by decide +kernel
theorem dX4_ofCue_2 : decode prog_1_method_21_code 2 = .ok (.invokevirtual 136, 3) := by decide +kernel
theorem dX4_ofBar_0 : decode prog_1_method_22_code 0 = .ok (.aload_n 0, 1) := by decide +kernel
theorem dX4_ofBar_1 : decode prog_1_method_22_code 1 = .ok (.iload_n 1, 1) := by decide +kernel
theorem dX4_ofBar_2 : decode prog_1_method_22_code 2 = .ok (.invokevirtual 136, 3) := by decide +kernel
theorem dX4_beat_0 : decode prog_1_method_23_code 0 = .ok (.aload_n 0, 1) := by decide +kernel
theorem dX4_beat_1 : decode prog_1_method_23_code 1 = .ok (.iload_n 1, 1) := by decide +kernel
theorem dX4_beat_2 : decode prog_1_method_23_code 2 = .ok (.invokevirtual 136, 3) := by decide +kernel
theorem dX4_ofTake_0 : decode prog_1_method_24_code 0 = .ok (.iload_n 1, 1) := by decide +kernel
theorem dX4_ofTake_1 : decode prog_1_method_24_code 1 = .ok (.ifCond .lt 14, 3) := by decide +kernel
theorem dX4_ofTake_4 : decode prog_1_method_24_code 4 = .ok (.iload_n 1, 1) := by decide +kernel
theorem dX4_ofTake_5 : decode prog_1_method_24_code 5 = .ok (.aload_n 0, 1) := by decide +kernel
theorem dX4_ofTake_6 : decode prog_1_method_24_code 6 = .ok (.getfield 23, 3) := by decide +kernel
theorem dX4_ofTake_9 : decode prog_1_method_24_code 9 = .ok (.invokevirtual 51, 3) := by decide +kernel
theorem dX4_ofTake_12 : decode prog_1_method_24_code 12 = .ok (.if_icmp .lt 14, 3) := by decide +kernel
theorem dX4_ofTake_15 : decode prog_1_method_24_code 15 = .ok (.new 119, 3) := by decide +kernel
theorem dX4_ofTake_18 : decode prog_1_method_24_code 18 = .ok (.dup, 1) := by decide +kernel
theorem dX4_ofTake_19 : decode prog_1_method_24_code 19 = .ok (.ldc_w 286, 3) := by decide +kernel
theorem dX4_ofTake_22 : decode prog_1_method_24_code 22 = .ok (.invokespecial 123, 3) := by decide +kernel
theorem dX4_ofTake_25 : decode prog_1_method_24_code 25 = .ok (.athrow, 1) := by decide +kernel
theorem dX4_ofTake_26 : decode prog_1_method_24_code 26 = .ok (.aload_n 0, 1) := by decide +kernel
theorem dX4_ofTake_27 : decode prog_1_method_24_code 27 = .ok (.getfield 23, 3) := by decide +kernel
theorem dX4_ofTake_30 : decode prog_1_method_24_code 30 = .ok (.iload_n 1, 1) := by decide +kernel
theorem dX4_join_0 : decode prog_1_method_46_code 0 = .ok (.aload_n 0, 1) := by decide +kernel
theorem dX4_join_1 : decode prog_1_method_46_code 1 = .ok (.getfield 33, 3) := by decide +kernel
theorem dX4_join_4 : decode prog_1_method_46_code 4 = .ok (.aload_n 0, 1) := by decide +kernel
theorem dX4_join_5 : decode prog_1_method_46_code 5 = .ok (.iload_n 1, 1) := by decide +kernel
theorem dX4_join_6 : decode prog_1_method_46_code 6 = .ok (.invokevirtual 136, 3) := by decide +kernel
theorem dX4_joined_0 : decode prog_1_method_47_code 0 = .ok (.aload_n 0, 1) := by decide +kernel
theorem dX4_joined_1 : decode prog_1_method_47_code 1 = .ok (.iload_n 1, 1) := by decide +kernel
theorem dX4_joined_2 : decode prog_1_method_47_code 2 = .ok (.invokevirtual 136, 3) := by decide +kernel
theorem dX4_bestStart_0 : decode prog_1_method_48_code 0 = .ok (.aload_n 0, 1) := by decide +kernel
theorem dX4_bestStart_1 : decode prog_1_method_48_code 1 = .ok (.iload_n 1, 1) := by decide +kernel
theorem dX4_bestStart_2 : decode prog_1_method_48_code 2 = .ok (.invokevirtual 136, 3) := by decide +kernel
theorem dX4_bestClick_0 : decode prog_1_method_49_code 0 = .ok (.aload_n 0, 1) := by decide +kernel
theorem dX4_bestClick_1 : decode prog_1_method_49_code 1 = .ok (.iload_n 1, 1) := by decide +kernel
theorem dX4_bestClick_2 : decode prog_1_method_49_code 2 = .ok (.invokevirtual 136, 3) := by decide +kernel

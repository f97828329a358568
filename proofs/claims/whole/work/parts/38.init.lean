theorem dX10_init_0 : decode cX10_init 0 = .ok (.aload_n 0, 1) := by decide +kernel
theorem dX10_init_1 : decode cX10_init 1 = .ok (.invokespecial 3, 3) := by decide +kernel
theorem dX10_init_4 : decode cX10_init 4 = .ok (.return_, 1) := by decide +kernel
theorem dX8_init_0 : decode cX8_init 0 = .ok (.aload_n 0, 1) := by decide +kernel
theorem dX8_init_1 : decode cX8_init 1 = .ok (.invokespecial 3, 3) := by decide +kernel
theorem dX8_init_4 : decode cX8_init 4 = .ok (.aload_n 0, 1) := by decide +kernel
theorem dX8_init_5 : decode cX8_init 5 = .ok (.iconst 5, 1) := by decide +kernel
theorem dX8_init_6 : decode cX8_init 6 = .ok (.anewarray 9, 3) := by decide +kernel
theorem dX8_init_9 : decode cX8_init 9 = .ok (.putfield 11, 3) := by decide +kernel
theorem dX8_init_12 : decode cX8_init 12 = .ok (.aload_n 0, 1) := by decide +kernel
theorem dX8_init_13 : decode cX8_init 13 = .ok (.iconst 0, 1) := by decide +kernel
theorem dX8_init_14 : decode cX8_init 14 = .ok (.putfield 17, 3) := by decide +kernel
theorem dX8_init_17 : decode cX8_init 17 = .ok (.aload_n 0, 1) := by decide +kernel
theorem dX8_init_18 : decode cX8_init 18 = .ok (.iconst 0, 1) := by decide +kernel
theorem dX8_init_19 : decode cX8_init 19 = .ok (.putfield 21, 3) := by decide +kernel
theorem dX8_init_22 : decode cX8_init 22 = .ok (.iconst 0, 1) := by decide +kernel
theorem dX8_init_23 : decode cX8_init 23 = .ok (.istore_n 1, 1) := by decide +kernel
theorem dX8_init_24 : decode cX8_init 24 = .ok (.iload_n 1, 1) := by decide +kernel
theorem dX8_init_25 : decode cX8_init 25 = .ok (.iconst 5, 1) := by decide +kernel
theorem dX8_init_26 : decode cX8_init 26 = .ok (.if_icmp .ge 22, 3) := by decide +kernel
theorem dX8_init_29 : decode cX8_init 29 = .ok (.aload_n 0, 1) := by decide +kernel
theorem dX8_init_30 : decode cX8_init 30 = .ok (.getfield 11, 3) := by decide +kernel
theorem dX8_init_33 : decode cX8_init 33 = .ok (.iload_n 1, 1) := by decide +kernel
theorem dX8_init_34 : decode cX8_init 34 = .ok (.new 9, 3) := by decide +kernel
theorem dX8_init_37 : decode cX8_init 37 = .ok (.dup, 1) := by decide +kernel
theorem dX8_init_38 : decode cX8_init 38 = .ok (.invokespecial 24, 3) := by decide +kernel
theorem dX8_init_41 : decode cX8_init 41 = .ok (.aastore, 1) := by decide +kernel
theorem dX8_init_42 : decode cX8_init 42 = .ok (.iinc 1 1, 3) := by decide +kernel
theorem dX8_init_45 : decode cX8_init 45 = .ok (.goto (-21), 3) := by decide +kernel
theorem dX8_init_48 : decode cX8_init 48 = .ok (.return_, 1) := by decide +kernel
theorem dX9_init_0 : decode cX9_init 0 = .ok (.aload_n 0, 1) := by decide +kernel
theorem dX9_init_1 : decode cX9_init 1 = .ok (.invokespecial 5, 3) := by decide +kernel
theorem dX9_init_4 : decode cX9_init 4 = .ok (.aload_n 0, 1) := by decide +kernel
theorem dX9_init_5 : decode cX9_init 5 = .ok (.bipush 80, 2) := by decide +kernel
theorem dX9_init_7 : decode cX9_init 7 = .ok (.newarray .int, 2) := by decide +kernel
theorem dX9_init_9 : decode cX9_init 9 = .ok (.putfield 11, 3) := by decide +kernel
theorem dX9_init_12 : decode cX9_init 12 = .ok (.aload_n 0, 1) := by decide +kernel
theorem dX9_init_13 : decode cX9_init 13 = .ok (.iconst 0, 1) := by decide +kernel
theorem dX9_init_14 : decode cX9_init 14 = .ok (.putfield 15, 3) := by decide +kernel
theorem dX9_init_17 : decode cX9_init 17 = .ok (.return_, 1) := by decide +kernel
theorem dX5_init_0 : decode cX5_init 0 = .ok (.aload_n 0, 1) := by decide +kernel
theorem dX5_init_1 : decode cX5_init 1 = .ok (.invokespecial 3, 3) := by decide +kernel
theorem dX5_init_4 : decode cX5_init 4 = .ok (.aload_n 0, 1) := by decide +kernel
theorem dX5_init_5 : decode cX5_init 5 = .ok (.iconst 1, 1) := by decide +kernel
theorem dX5_init_6 : decode cX5_init 6 = .ok (.putfield 9, 3) := by decide +kernel
theorem dX5_init_9 : decode cX5_init 9 = .ok (.aload_n 0, 1) := by decide +kernel
theorem dX5_init_10 : decode cX5_init 10 = .ok (.iconst 1, 1) := by decide +kernel
theorem dX5_init_11 : decode cX5_init 11 = .ok (.putfield 15, 3) := by decide +kernel
theorem dX5_init_14 : decode cX5_init 14 = .ok (.aload_n 0, 1) := by decide +kernel
theorem dX5_init_15 : decode cX5_init 15 = .ok (.iconst 0, 1) := by decide +kernel
theorem dX5_init_16 : decode cX5_init 16 = .ok (.putfield 18, 3) := by decide +kernel
theorem dX5_init_19 : decode cX5_init 19 = .ok (.aload_n 0, 1) := by decide +kernel
theorem dX5_init_20 : decode cX5_init 20 = .ok (.bipush 30, 2) := by decide +kernel
theorem dX5_init_22 : decode cX5_init 22 = .ok (.newarray .int, 2) := by decide +kernel
theorem dX5_init_24 : decode cX5_init 24 = .ok (.putfield 21, 3) := by decide +kernel
theorem dX5_init_27 : decode cX5_init 27 = .ok (.aload_n 0, 1) := by decide +kernel
theorem dX5_init_28 : decode cX5_init 28 = .ok (.iconst 5, 1) := by decide +kernel
theorem dX5_init_29 : decode cX5_init 29 = .ok (.newarray .int, 2) := by decide +kernel
theorem dX5_init_31 : decode cX5_init 31 = .ok (.putfield 25, 3) := by decide +kernel
theorem dX5_init_34 : decode cX5_init 34 = .ok (.return_, 1) := by decide +kernel
theorem dX6_init_0 : decode cX6_init 0 = .ok (.aload_n 0, 1) := by decide +kernel
theorem dX6_init_1 : decode cX6_init 1 = .ok (.invokespecial 3, 3) := by decide +kernel
theorem dX6_init_4 : decode cX6_init 4 = .ok (.aload_n 0, 1) := by decide +kernel
theorem dX6_init_5 : decode cX6_init 5 = .ok (.iconst 5, 1) := by decide +kernel
theorem dX6_init_6 : decode cX6_init 6 = .ok (.newarray .int, 2) := by decide +kernel
theorem dX6_init_8 : decode cX6_init 8 = .ok (.putfield 9, 3) := by decide +kernel
theorem dX6_init_11 : decode cX6_init 11 = .ok (.aload_n 0, 1) := by decide +kernel
theorem dX6_init_12 : decode cX6_init 12 = .ok (.iconst 5, 1) := by decide +kernel
theorem dX6_init_13 : decode cX6_init 13 = .ok (.newarray .int, 2) := by decide +kernel
theorem dX6_init_15 : decode cX6_init 15 = .ok (.putfield 15, 3) := by decide +kernel
theorem dX6_init_18 : decode cX6_init 18 = .ok (.aload_n 0, 1) := by decide +kernel
theorem dX6_init_19 : decode cX6_init 19 = .ok (.iconst 5, 1) := by decide +kernel
theorem dX6_init_20 : decode cX6_init 20 = .ok (.newarray .int, 2) := by decide +kernel
theorem dX6_init_22 : decode cX6_init 22 = .ok (.putfield 18, 3) := by decide +kernel
theorem dX6_init_25 : decode cX6_init 25 = .ok (.aload_n 0, 1) := by decide +kernel
theorem dX6_init_26 : decode cX6_init 26 = .ok (.iconst 4, 1) := by decide +kernel
theorem dX6_init_27 : decode cX6_init 27 = .ok (.newarray .int, 2) := by decide +kernel
theorem dX6_init_29 : decode cX6_init 29 = .ok (.putfield 21, 3) := by decide +kernel
theorem dX6_init_32 : decode cX6_init 32 = .ok (.aload_n 0, 1) := by decide +kernel
theorem dX6_init_33 : decode cX6_init 33 = .ok (.aload_n 1, 1) := by decide +kernel
theorem dX6_init_34 : decode cX6_init 34 = .ok (.putfield 24, 3) := by decide +kernel
theorem dX6_init_37 : decode cX6_init 37 = .ok (.return_, 1) := by decide +kernel
theorem dX1_init_0 : decode cX1_init 0 = .ok (.aload_n 0, 1) := by decide +kernel
theorem dX1_init_1 : decode cX1_init 1 = .ok (.invokespecial 1, 3) := by decide +kernel
theorem dX1_init_4 : decode cX1_init 4 = .ok (.aload_n 0, 1) := by decide +kernel
theorem dX1_init_5 : decode cX1_init 5 = .ok (.new 7, 3) := by decide +kernel
theorem dX1_init_8 : decode cX1_init 8 = .ok (.dup, 1) := by decide +kernel
theorem dX1_init_9 : decode cX1_init 9 = .ok (.invokespecial 9, 3) := by decide +kernel
theorem dX1_init_12 : decode cX1_init 12 = .ok (.putfield 10, 3) := by decide +kernel
theorem dX1_init_15 : decode cX1_init 15 = .ok (.aload_n 0, 1) := by decide +kernel
theorem dX1_init_16 : decode cX1_init 16 = .ok (.new 16, 3) := by decide +kernel
theorem dX1_init_19 : decode cX1_init 19 = .ok (.dup, 1) := by decide +kernel
theorem dX1_init_20 : decode cX1_init 20 = .ok (.invokespecial 18, 3) := by decide +kernel
theorem dX1_init_23 : decode cX1_init 23 = .ok (.putfield 19, 3) := by decide +kernel
theorem dX1_init_26 : decode cX1_init 26 = .ok (.aload_n 0, 1) := by decide +kernel
theorem dX1_init_27 : decode cX1_init 27 = .ok (.new 16, 3) := by decide +kernel
theorem dX1_init_30 : decode cX1_init 30 = .ok (.dup, 1) := by decide +kernel
theorem dX1_init_31 : decode cX1_init 31 = .ok (.invokespecial 18, 3) := by decide +kernel
theorem dX1_init_34 : decode cX1_init 34 = .ok (.putfield 23, 3) := by decide +kernel
theorem dX1_init_37 : decode cX1_init 37 = .ok (.aload_n 0, 1) := by decide +kernel
theorem dX1_init_38 : decode cX1_init 38 = .ok (.new 26, 3) := by decide +kernel
theorem dX1_init_41 : decode cX1_init 41 = .ok (.dup, 1) := by decide +kernel
theorem dX1_init_42 : decode cX1_init 42 = .ok (.aload_n 0, 1) := by decide +kernel
theorem dX1_init_43 : decode cX1_init 43 = .ok (.getfield 10, 3) := by decide +kernel
theorem dX1_init_46 : decode cX1_init 46 = .ok (.invokespecial 28, 3) := by decide +kernel
theorem dX1_init_49 : decode cX1_init 49 = .ok (.putfield 31, 3) := by decide +kernel
theorem dX1_init_52 : decode cX1_init 52 = .ok (.return_, 1) := by decide +kernel
theorem dX0_init_0 : decode cX0_init 0 = .ok (.aload_n 0, 1) := by decide +kernel
theorem dX0_init_1 : decode cX0_init 1 = .ok (.invokespecial 3, 3) := by decide +kernel
theorem dX0_init_4 : decode cX0_init 4 = .ok (.aload_n 0, 1) := by decide +kernel
theorem dX0_init_5 : decode cX0_init 5 = .ok (.bipush 14, 2) := by decide +kernel
theorem dX0_init_7 : decode cX0_init 7 = .ok (.anewarray 9, 3) := by decide +kernel
theorem dX0_init_10 : decode cX0_init 10 = .ok (.putfield 11, 3) := by decide +kernel
theorem dX0_init_13 : decode cX0_init 13 = .ok (.aload_n 0, 1) := by decide +kernel
theorem dX0_init_14 : decode cX0_init 14 = .ok (.iconst 0, 1) := by decide +kernel
theorem dX0_init_15 : decode cX0_init 15 = .ok (.putfield 17, 3) := by decide +kernel
theorem dX0_init_18 : decode cX0_init 18 = .ok (.aload_n 0, 1) := by decide +kernel
theorem dX0_init_19 : decode cX0_init 19 = .ok (.iconst 0, 1) := by decide +kernel
theorem dX0_init_20 : decode cX0_init 20 = .ok (.putfield 21, 3) := by decide +kernel
theorem dX0_init_23 : decode cX0_init 23 = .ok (.iconst 0, 1) := by decide +kernel
theorem dX0_init_24 : decode cX0_init 24 = .ok (.istore_n 1, 1) := by decide +kernel
theorem dX0_init_25 : decode cX0_init 25 = .ok (.iload_n 1, 1) := by decide +kernel
theorem dX0_init_26 : decode cX0_init 26 = .ok (.bipush 14, 2) := by decide +kernel
theorem dX0_init_28 : decode cX0_init 28 = .ok (.if_icmp .ge 22, 3) := by decide +kernel
theorem dX0_init_31 : decode cX0_init 31 = .ok (.aload_n 0, 1) := by decide +kernel
theorem dX0_init_32 : decode cX0_init 32 = .ok (.getfield 11, 3) := by decide +kernel
theorem dX0_init_35 : decode cX0_init 35 = .ok (.iload_n 1, 1) := by decide +kernel
theorem dX0_init_36 : decode cX0_init 36 = .ok (.new 9, 3) := by decide +kernel
theorem dX0_init_39 : decode cX0_init 39 = .ok (.dup, 1) := by decide +kernel
theorem dX0_init_40 : decode cX0_init 40 = .ok (.invokespecial 24, 3) := by decide +kernel
theorem dX0_init_43 : decode cX0_init 43 = .ok (.aastore, 1) := by decide +kernel
theorem dX0_init_44 : decode cX0_init 44 = .ok (.iinc 1 1, 3) := by decide +kernel
theorem dX0_init_47 : decode cX0_init 47 = .ok (.goto (-22), 3) := by decide +kernel
theorem dX0_init_50 : decode cX0_init 50 = .ok (.return_, 1) := by decide +kernel
theorem dX4_init_0 : decode cX4_init 0 = .ok (.aload_n 0, 1) := by decide +kernel
theorem dX4_init_1 : decode cX4_init 1 = .ok (.invokespecial 3, 3) := by decide +kernel
theorem dX4_init_4 : decode cX4_init 4 = .ok (.aload_n 0, 1) := by decide +kernel
theorem dX4_init_5 : decode cX4_init 5 = .ok (.aload_n 1, 1) := by decide +kernel
theorem dX4_init_6 : decode cX4_init 6 = .ok (.putfield 9, 3) := by decide +kernel
theorem dX4_init_9 : decode cX4_init 9 = .ok (.return_, 1) := by decide +kernel
theorem dX3_init_0 : decode cX3_init 0 = .ok (.aload_n 0, 1) := by decide +kernel
theorem dX3_init_1 : decode cX3_init 1 = .ok (.invokespecial 3, 3) := by decide +kernel
theorem dX3_init_4 : decode cX3_init 4 = .ok (.aload_n 0, 1) := by decide +kernel
theorem dX3_init_5 : decode cX3_init 5 = .ok (.aload_n 1, 1) := by decide +kernel
theorem dX3_init_6 : decode cX3_init 6 = .ok (.putfield 9, 3) := by decide +kernel
theorem dX3_init_9 : decode cX3_init 9 = .ok (.aload_n 0, 1) := by decide +kernel
theorem dX3_init_10 : decode cX3_init 10 = .ok (.new 15, 3) := by decide +kernel
theorem dX3_init_13 : decode cX3_init 13 = .ok (.dup, 1) := by decide +kernel
theorem dX3_init_14 : decode cX3_init 14 = .ok (.invokespecial 17, 3) := by decide +kernel
theorem dX3_init_17 : decode cX3_init 17 = .ok (.putfield 18, 3) := by decide +kernel
theorem dX3_init_20 : decode cX3_init 20 = .ok (.return_, 1) := by decide +kernel
theorem dX7_init_0 : decode cX7_init 0 = .ok (.aload_n 0, 1) := by decide +kernel
theorem dX7_init_1 : decode cX7_init 1 = .ok (.invokespecial 3, 3) := by decide +kernel
theorem dX7_init_4 : decode cX7_init 4 = .ok (.aload_n 0, 1) := by decide +kernel
theorem dX7_init_5 : decode cX7_init 5 = .ok (.bipush 6, 2) := by decide +kernel
theorem dX7_init_7 : decode cX7_init 7 = .ok (.newarray .int, 2) := by decide +kernel
theorem dX7_init_9 : decode cX7_init 9 = .ok (.putfield 9, 3) := by decide +kernel
theorem dX7_init_12 : decode cX7_init 12 = .ok (.aload_n 0, 1) := by decide +kernel
theorem dX7_init_13 : decode cX7_init 13 = .ok (.bipush 6, 2) := by decide +kernel
theorem dX7_init_15 : decode cX7_init 15 = .ok (.newarray .int, 2) := by decide +kernel
theorem dX7_init_17 : decode cX7_init 17 = .ok (.putfield 15, 3) := by decide +kernel
theorem dX7_init_20 : decode cX7_init 20 = .ok (.aload_n 0, 1) := by decide +kernel
theorem dX7_init_21 : decode cX7_init 21 = .ok (.bipush 6, 2) := by decide +kernel
theorem dX7_init_23 : decode cX7_init 23 = .ok (.newarray .int, 2) := by decide +kernel
theorem dX7_init_25 : decode cX7_init 25 = .ok (.putfield 18, 3) := by decide +kernel
theorem dX7_init_28 : decode cX7_init 28 = .ok (.aload_n 0, 1) := by decide +kernel
theorem dX7_init_29 : decode cX7_init 29 = .ok (.bipush 6, 2) := by decide +kernel
theorem dX7_init_31 : decode cX7_init 31 = .ok (.newarray .int, 2) := by decide +kernel
theorem dX7_init_33 : decode cX7_init 33 = .ok (.putfield 21, 3) := by decide +kernel
theorem dX7_init_36 : decode cX7_init 36 = .ok (.aload_n 0, 1) := by decide +kernel
theorem dX7_init_37 : decode cX7_init 37 = .ok (.bipush 6, 2) := by decide +kernel
theorem dX7_init_39 : decode cX7_init 39 = .ok (.newarray .int, 2) := by decide +kernel
theorem dX7_init_41 : decode cX7_init 41 = .ok (.putfield 24, 3) := by decide +kernel
theorem dX7_init_44 : decode cX7_init 44 = .ok (.aload_n 0, 1) := by decide +kernel
theorem dX7_init_45 : decode cX7_init 45 = .ok (.iconst 0, 1) := by decide +kernel
theorem dX7_init_46 : decode cX7_init 46 = .ok (.putfield 27, 3) := by decide +kernel
theorem dX7_init_49 : decode cX7_init 49 = .ok (.aload_n 0, 1) := by decide +kernel
theorem dX7_init_50 : decode cX7_init 50 = .ok (.aload_n 1, 1) := by decide +kernel
theorem dX7_init_51 : decode cX7_init 51 = .ok (.putfield 31, 3) := by decide +kernel
theorem dX7_init_54 : decode cX7_init 54 = .ok (.return_, 1) := by decide +kernel
theorem dX2_init_0 : decode cX2_init 0 = .ok (.aload_n 0, 1) := by decide +kernel
theorem dX2_init_1 : decode cX2_init 1 = .ok (.invokespecial 3, 3) := by decide +kernel
theorem dX2_init_4 : decode cX2_init 4 = .ok (.aload_n 0, 1) := by decide +kernel
theorem dX2_init_5 : decode cX2_init 5 = .ok (.aload_n 1, 1) := by decide +kernel
theorem dX2_init_6 : decode cX2_init 6 = .ok (.putfield 9, 3) := by decide +kernel
theorem dX2_init_9 : decode cX2_init 9 = .ok (.return_, 1) := by decide +kernel
theorem dX11_init_0 : decode cX11_init 0 = .ok (.aload_n 0, 1) := by decide +kernel
theorem dX11_init_1 : decode cX11_init 1 = .ok (.invokespecial 1, 3) := by decide +kernel
theorem dX11_init_4 : decode cX11_init 4 = .ok (.aload_n 0, 1) := by decide +kernel
theorem dX11_init_5 : decode cX11_init 5 = .ok (.new 7, 3) := by decide +kernel
theorem dX11_init_8 : decode cX11_init 8 = .ok (.dup, 1) := by decide +kernel
theorem dX11_init_9 : decode cX11_init 9 = .ok (.invokespecial 9, 3) := by decide +kernel
theorem dX11_init_12 : decode cX11_init 12 = .ok (.putfield 10, 3) := by decide +kernel
theorem dX11_init_15 : decode cX11_init 15 = .ok (.aload_n 0, 1) := by decide +kernel
theorem dX11_init_16 : decode cX11_init 16 = .ok (.new 16, 3) := by decide +kernel
theorem dX11_init_19 : decode cX11_init 19 = .ok (.dup, 1) := by decide +kernel
theorem dX11_init_20 : decode cX11_init 20 = .ok (.invokespecial 18, 3) := by decide +kernel
theorem dX11_init_23 : decode cX11_init 23 = .ok (.putfield 19, 3) := by decide +kernel
theorem dX11_init_26 : decode cX11_init 26 = .ok (.aload_n 0, 1) := by decide +kernel
theorem dX11_init_27 : decode cX11_init 27 = .ok (.aload_n 0, 1) := by decide +kernel
theorem dX11_init_28 : decode cX11_init 28 = .ok (.getfield 19, 3) := by decide +kernel
theorem dX11_init_31 : decode cX11_init 31 = .ok (.getfield 23, 3) := by decide +kernel
theorem dX11_init_34 : decode cX11_init 34 = .ok (.putfield 27, 3) := by decide +kernel
theorem dX11_init_37 : decode cX11_init 37 = .ok (.aload_n 0, 1) := by decide +kernel
theorem dX11_init_38 : decode cX11_init 38 = .ok (.aload_n 0, 1) := by decide +kernel
theorem dX11_init_39 : decode cX11_init 39 = .ok (.getfield 19, 3) := by decide +kernel
theorem dX11_init_42 : decode cX11_init 42 = .ok (.getfield 28, 3) := by decide +kernel
theorem dX11_init_45 : decode cX11_init 45 = .ok (.putfield 32, 3) := by decide +kernel
theorem dX11_init_48 : decode cX11_init 48 = .ok (.aload_n 0, 1) := by decide +kernel
theorem dX11_init_49 : decode cX11_init 49 = .ok (.new 33, 3) := by decide +kernel
theorem dX11_init_52 : decode cX11_init 52 = .ok (.dup, 1) := by decide +kernel
theorem dX11_init_53 : decode cX11_init 53 = .ok (.invokespecial 35, 3) := by decide +kernel
theorem dX11_init_56 : decode cX11_init 56 = .ok (.putfield 36, 3) := by decide +kernel
theorem dX11_init_59 : decode cX11_init 59 = .ok (.aload_n 0, 1) := by decide +kernel
theorem dX11_init_60 : decode cX11_init 60 = .ok (.iconst 2, 1) := by decide +kernel
theorem dX11_init_61 : decode cX11_init 61 = .ok (.anewarray 40, 3) := by decide +kernel
theorem dX11_init_64 : decode cX11_init 64 = .ok (.putfield 42, 3) := by decide +kernel
theorem dX11_init_67 : decode cX11_init 67 = .ok (.iconst 0, 1) := by decide +kernel
theorem dX11_init_68 : decode cX11_init 68 = .ok (.istore_n 1, 1) := by decide +kernel
theorem dX11_init_69 : decode cX11_init 69 = .ok (.iload_n 1, 1) := by decide +kernel
theorem dX11_init_70 : decode cX11_init 70 = .ok (.iconst 2, 1) := by decide +kernel
theorem dX11_init_71 : decode cX11_init 71 = .ok (.if_icmp .ge 22, 3) := by decide +kernel
theorem dX11_init_74 : decode cX11_init 74 = .ok (.aload_n 0, 1) := by decide +kernel
theorem dX11_init_75 : decode cX11_init 75 = .ok (.getfield 42, 3) := by decide +kernel
theorem dX11_init_78 : decode cX11_init 78 = .ok (.iload_n 1, 1) := by decide +kernel
theorem dX11_init_79 : decode cX11_init 79 = .ok (.new 40, 3) := by decide +kernel
theorem dX11_init_82 : decode cX11_init 82 = .ok (.dup, 1) := by decide +kernel
theorem dX11_init_83 : decode cX11_init 83 = .ok (.invokespecial 46, 3) := by decide +kernel
theorem dX11_init_86 : decode cX11_init 86 = .ok (.aastore, 1) := by decide +kernel
theorem dX11_init_87 : decode cX11_init 87 = .ok (.iinc 1 1, 3) := by decide +kernel
theorem dX11_init_90 : decode cX11_init 90 = .ok (.goto (-21), 3) := by decide +kernel
theorem dX11_init_93 : decode cX11_init 93 = .ok (.aload_n 0, 1) := by decide +kernel
theorem dX11_init_94 : decode cX11_init 94 = .ok (.iconst 2, 1) := by decide +kernel
theorem dX11_init_95 : decode cX11_init 95 = .ok (.newarray .boolean, 2) := by decide +kernel
theorem dX11_init_97 : decode cX11_init 97 = .ok (.putfield 47, 3) := by decide +kernel
theorem dX11_init_100 : decode cX11_init 100 = .ok (.aload_n 0, 1) := by decide +kernel
theorem dX11_init_101 : decode cX11_init 101 = .ok (.new 51, 3) := by decide +kernel
theorem dX11_init_104 : decode cX11_init 104 = .ok (.dup, 1) := by decide +kernel
theorem dX11_init_105 : decode cX11_init 105 = .ok (.aload_n 0, 1) := by decide +kernel
theorem dX11_init_106 : decode cX11_init 106 = .ok (.getfield 19, 3) := by decide +kernel
theorem dX11_init_109 : decode cX11_init 109 = .ok (.invokespecial 53, 3) := by decide +kernel
theorem dX11_init_112 : decode cX11_init 112 = .ok (.putfield 56, 3) := by decide +kernel
theorem dX11_init_115 : decode cX11_init 115 = .ok (.aload_n 0, 1) := by decide +kernel
theorem dX11_init_116 : decode cX11_init 116 = .ok (.new 60, 3) := by decide +kernel
theorem dX11_init_119 : decode cX11_init 119 = .ok (.dup, 1) := by decide +kernel
theorem dX11_init_120 : decode cX11_init 120 = .ok (.aload_n 0, 1) := by decide +kernel
theorem dX11_init_121 : decode cX11_init 121 = .ok (.getfield 19, 3) := by decide +kernel
theorem dX11_init_124 : decode cX11_init 124 = .ok (.invokespecial 62, 3) := by decide +kernel
theorem dX11_init_127 : decode cX11_init 127 = .ok (.putfield 63, 3) := by decide +kernel
theorem dX11_init_130 : decode cX11_init 130 = .ok (.aload_n 0, 1) := by decide +kernel
theorem dX11_init_131 : decode cX11_init 131 = .ok (.new 67, 3) := by decide +kernel
theorem dX11_init_134 : decode cX11_init 134 = .ok (.dup, 1) := by decide +kernel
theorem dX11_init_135 : decode cX11_init 135 = .ok (.aload_n 0, 1) := by decide +kernel
theorem dX11_init_136 : decode cX11_init 136 = .ok (.getfield 19, 3) := by decide +kernel
theorem dX11_init_139 : decode cX11_init 139 = .ok (.invokespecial 69, 3) := by decide +kernel
theorem dX11_init_142 : decode cX11_init 142 = .ok (.putfield 70, 3) := by decide +kernel
theorem dX11_init_145 : decode cX11_init 145 = .ok (.aload_n 0, 1) := by decide +kernel
theorem dX11_init_146 : decode cX11_init 146 = .ok (.new 74, 3) := by decide +kernel
theorem dX11_init_149 : decode cX11_init 149 = .ok (.dup, 1) := by decide +kernel
theorem dX11_init_150 : decode cX11_init 150 = .ok (.aload_n 0, 1) := by decide +kernel
theorem dX11_init_151 : decode cX11_init 151 = .ok (.getfield 19, 3) := by decide +kernel
theorem dX11_init_154 : decode cX11_init 154 = .ok (.invokespecial 76, 3) := by decide +kernel
theorem dX11_init_157 : decode cX11_init 157 = .ok (.putfield 77, 3) := by decide +kernel
theorem dX11_init_160 : decode cX11_init 160 = .ok (.aload_n 0, 1) := by decide +kernel
theorem dX11_init_161 : decode cX11_init 161 = .ok (.lconst 0, 1) := by decide +kernel
theorem dX11_init_162 : decode cX11_init 162 = .ok (.putfield 81, 3) := by decide +kernel
theorem dX11_init_165 : decode cX11_init 165 = .ok (.return_, 1) := by decide +kernel
theorem dX12_init_0 : decode cX12_init 0 = .ok (.aload_n 0, 1) := by decide +kernel
theorem dX12_init_1 : decode cX12_init 1 = .ok (.invokespecial 21, 3) := by decide +kernel
theorem dX12_init_4 : decode cX12_init 4 = .ok (.aload_n 0, 1) := by decide +kernel
theorem dX12_init_5 : decode cX12_init 5 = .ok (.bipush 80, 2) := by decide +kernel
theorem dX12_init_7 : decode cX12_init 7 = .ok (.newarray .int, 2) := by decide +kernel
theorem dX12_init_9 : decode cX12_init 9 = .ok (.putfield 27, 3) := by decide +kernel
theorem dX12_init_12 : decode cX12_init 12 = .ok (.aload_n 0, 1) := by decide +kernel
theorem dX12_init_13 : decode cX12_init 13 = .ok (.iconst 1, 1) := by decide +kernel
theorem dX12_init_14 : decode cX12_init 14 = .ok (.putfield 30, 3) := by decide +kernel
theorem dX12_init_17 : decode cX12_init 17 = .ok (.aload_n 0, 1) := by decide +kernel
theorem dX12_init_18 : decode cX12_init 18 = .ok (.iconst 1, 1) := by decide +kernel
theorem dX12_init_19 : decode cX12_init 19 = .ok (.putfield 33, 3) := by decide +kernel
theorem dX12_init_22 : decode cX12_init 22 = .ok (.aload_n 0, 1) := by decide +kernel
theorem dX12_init_23 : decode cX12_init 23 = .ok (.bipush 30, 2) := by decide +kernel
theorem dX12_init_25 : decode cX12_init 25 = .ok (.newarray .int, 2) := by decide +kernel
theorem dX12_init_27 : decode cX12_init 27 = .ok (.putfield 36, 3) := by decide +kernel
theorem dX12_init_30 : decode cX12_init 30 = .ok (.aload_n 0, 1) := by decide +kernel
theorem dX12_init_31 : decode cX12_init 31 = .ok (.iconst 5, 1) := by decide +kernel
theorem dX12_init_32 : decode cX12_init 32 = .ok (.newarray .int, 2) := by decide +kernel
theorem dX12_init_34 : decode cX12_init 34 = .ok (.putfield 39, 3) := by decide +kernel
theorem dX12_init_37 : decode cX12_init 37 = .ok (.aload_n 0, 1) := by decide +kernel
theorem dX12_init_38 : decode cX12_init 38 = .ok (.bipush 30, 2) := by decide +kernel
theorem dX12_init_40 : decode cX12_init 40 = .ok (.newarray .int, 2) := by decide +kernel
theorem dX12_init_42 : decode cX12_init 42 = .ok (.putfield 42, 3) := by decide +kernel
theorem dX12_init_45 : decode cX12_init 45 = .ok (.aload_n 0, 1) := by decide +kernel
theorem dX12_init_46 : decode cX12_init 46 = .ok (.iconst 5, 1) := by decide +kernel
theorem dX12_init_47 : decode cX12_init 47 = .ok (.newarray .int, 2) := by decide +kernel
theorem dX12_init_49 : decode cX12_init 49 = .ok (.putfield 45, 3) := by decide +kernel
theorem dX12_init_52 : decode cX12_init 52 = .ok (.aload_n 0, 1) := by decide +kernel
theorem dX12_init_53 : decode cX12_init 53 = .ok (.bipush 52, 2) := by decide +kernel
theorem dX12_init_55 : decode cX12_init 55 = .ok (.newarray .int, 2) := by decide +kernel
theorem dX12_init_57 : decode cX12_init 57 = .ok (.putfield 48, 3) := by decide +kernel
theorem dX12_init_60 : decode cX12_init 60 = .ok (.aload_n 0, 1) := by decide +kernel
theorem dX12_init_61 : decode cX12_init 61 = .ok (.bipush 52, 2) := by decide +kernel
theorem dX12_init_63 : decode cX12_init 63 = .ok (.newarray .int, 2) := by decide +kernel
theorem dX12_init_65 : decode cX12_init 65 = .ok (.putfield 11, 3) := by decide +kernel
theorem dX12_init_68 : decode cX12_init 68 = .ok (.aload_n 0, 1) := by decide +kernel
theorem dX12_init_69 : decode cX12_init 69 = .ok (.bipush 52, 2) := by decide +kernel
theorem dX12_init_71 : decode cX12_init 71 = .ok (.newarray .int, 2) := by decide +kernel
theorem dX12_init_73 : decode cX12_init 73 = .ok (.putfield 7, 3) := by decide +kernel
theorem dX12_init_76 : decode cX12_init 76 = .ok (.aload_n 0, 1) := by decide +kernel
theorem dX12_init_77 : decode cX12_init 77 = .ok (.bipush 52, 2) := by decide +kernel
theorem dX12_init_79 : decode cX12_init 79 = .ok (.newarray .int, 2) := by decide +kernel
theorem dX12_init_81 : decode cX12_init 81 = .ok (.putfield 51, 3) := by decide +kernel
theorem dX12_init_84 : decode cX12_init 84 = .ok (.aload_n 0, 1) := by decide +kernel
theorem dX12_init_85 : decode cX12_init 85 = .ok (.sipush 728, 3) := by decide +kernel
theorem dX12_init_88 : decode cX12_init 88 = .ok (.newarray .int, 2) := by decide +kernel
theorem dX12_init_90 : decode cX12_init 90 = .ok (.putfield 54, 3) := by decide +kernel
theorem dX12_init_93 : decode cX12_init 93 = .ok (.aload_n 0, 1) := by decide +kernel
theorem dX12_init_94 : decode cX12_init 94 = .ok (.bipush 104, 2) := by decide +kernel
theorem dX12_init_96 : decode cX12_init 96 = .ok (.newarray .int, 2) := by decide +kernel
theorem dX12_init_98 : decode cX12_init 98 = .ok (.putfield 57, 3) := by decide +kernel
theorem dX12_init_101 : decode cX12_init 101 = .ok (.aload_n 0, 1) := by decide +kernel
theorem dX12_init_102 : decode cX12_init 102 = .ok (.iconst 2, 1) := by decide +kernel
theorem dX12_init_103 : decode cX12_init 103 = .ok (.newarray .boolean, 2) := by decide +kernel
theorem dX12_init_105 : decode cX12_init 105 = .ok (.putfield 60, 3) := by decide +kernel
theorem dX12_init_108 : decode cX12_init 108 = .ok (.aload_n 0, 1) := by decide +kernel
theorem dX12_init_109 : decode cX12_init 109 = .ok (.bipush 6, 2) := by decide +kernel
theorem dX12_init_111 : decode cX12_init 111 = .ok (.newarray .int, 2) := by decide +kernel
theorem dX12_init_113 : decode cX12_init 113 = .ok (.putfield 64, 3) := by decide +kernel
theorem dX12_init_116 : decode cX12_init 116 = .ok (.aload_n 0, 1) := by decide +kernel
theorem dX12_init_117 : decode cX12_init 117 = .ok (.bipush 6, 2) := by decide +kernel
theorem dX12_init_119 : decode cX12_init 119 = .ok (.newarray .int, 2) := by decide +kernel
theorem dX12_init_121 : decode cX12_init 121 = .ok (.putfield 67, 3) := by decide +kernel
theorem dX12_init_124 : decode cX12_init 124 = .ok (.aload_n 0, 1) := by decide +kernel
theorem dX12_init_125 : decode cX12_init 125 = .ok (.bipush 6, 2) := by decide +kernel
theorem dX12_init_127 : decode cX12_init 127 = .ok (.newarray .int, 2) := by decide +kernel
theorem dX12_init_129 : decode cX12_init 129 = .ok (.putfield 70, 3) := by decide +kernel
theorem dX12_init_132 : decode cX12_init 132 = .ok (.aload_n 0, 1) := by decide +kernel
theorem dX12_init_133 : decode cX12_init 133 = .ok (.bipush 6, 2) := by decide +kernel
theorem dX12_init_135 : decode cX12_init 135 = .ok (.newarray .int, 2) := by decide +kernel
theorem dX12_init_137 : decode cX12_init 137 = .ok (.putfield 73, 3) := by decide +kernel
theorem dX12_init_140 : decode cX12_init 140 = .ok (.aload_n 0, 1) := by decide +kernel
theorem dX12_init_141 : decode cX12_init 141 = .ok (.bipush 6, 2) := by decide +kernel
theorem dX12_init_143 : decode cX12_init 143 = .ok (.newarray .int, 2) := by decide +kernel
theorem dX12_init_145 : decode cX12_init 145 = .ok (.putfield 76, 3) := by decide +kernel
theorem dX12_init_148 : decode cX12_init 148 = .ok (.aload_n 0, 1) := by decide +kernel
theorem dX12_init_149 : decode cX12_init 149 = .ok (.iconst 4, 1) := by decide +kernel
theorem dX12_init_150 : decode cX12_init 150 = .ok (.newarray .int, 2) := by decide +kernel
theorem dX12_init_152 : decode cX12_init 152 = .ok (.putfield 79, 3) := by decide +kernel
theorem dX12_init_155 : decode cX12_init 155 = .ok (.aload_n 0, 1) := by decide +kernel
theorem dX12_init_156 : decode cX12_init 156 = .ok (.iconst 5, 1) := by decide +kernel
theorem dX12_init_157 : decode cX12_init 157 = .ok (.newarray .int, 2) := by decide +kernel
theorem dX12_init_159 : decode cX12_init 159 = .ok (.putfield 82, 3) := by decide +kernel
theorem dX12_init_162 : decode cX12_init 162 = .ok (.aload_n 0, 1) := by decide +kernel
theorem dX12_init_163 : decode cX12_init 163 = .ok (.getfield 79, 3) := by decide +kernel
theorem dX12_init_166 : decode cX12_init 166 = .ok (.iconst 0, 1) := by decide +kernel
theorem dX12_init_167 : decode cX12_init 167 = .ok (.bipush (-9), 2) := by decide +kernel
theorem dX12_init_169 : decode cX12_init 169 = .ok (.iastore, 1) := by decide +kernel
theorem dX12_init_170 : decode cX12_init 170 = .ok (.return_, 1) := by decide +kernel
theorem no_86 : NOk "FairBlocks$Standing" 9 10 10 := ⟨RX10, TX10, tyX10, rfl, inX10, tyX10_ok, fun j hj => by rcases (show j = 0 ∨ j = 1 ∨ j = 2 ∨ j = 3 ∨ j = 4 ∨ j = 5 ∨ j = 6 ∨ j = 7 ∨ j = 8 ∨ j = 9 by omega) with rfl | rfl | rfl | rfl | rfl | rfl | rfl | rfl | rfl | rfl <;> rfl, w_86, w_88, w_6, by decide⟩
theorem gl_142 : FLk "FairBlocks$Standing" 11 8 0 19 := ⟨RX8, TX8, 3, rfl, inX8, by decide, w_142, by decide, rfl⟩
theorem mi_X10_init : MIk yX10_init cX10_init 1 0 := ⟨w_91, w_90, w_6, rfl, by decide +kernel, by decide +kernel, by decide +kernel⟩
theorem ff_142 : FFk "FairBlocks$Standing" 11 8 0 16 := ⟨RX8, TX8, 3, tyX8, (.array (.object "FairBlocks$User")), rfl, inX8, by decide, w_142, by decide, rfl, tyX8_ok, nmX8, rfl, rfl, rfl, fun _ => ⟨rfl, rfl⟩⟩
theorem gp_150 : FPk "FairBlocks$Standing" 17 8 1 0 .int := ⟨RX8, TX8, 3, tyX8, rfl, inX8, by decide, w_150, by decide, rfl, tyX8_ok, nmX8, rfl, rfl⟩
theorem gp_154 : FPk "FairBlocks$Standing" 21 8 2 0 .int := ⟨RX8, TX8, 3, tyX8, rfl, inX8, by decide, w_154, by decide, rfl, tyX8_ok, nmX8, rfl, rfl⟩
theorem zr_9 : ∀ i, i < 3 → 2 ≤ i → i ≠ 176 → zk i = true := by decide +kernel
theorem ff_30 : FFk "FairBlocks$Text" 11 9 0 13 := ⟨RX9, TX9, 2, tyX9, (.array .int), rfl, inX9, by decide, w_30, by decide, rfl, tyX9_ok, nmX9, rfl, rfl, rfl, fun _ => ⟨rfl, rfl⟩⟩
theorem gp_31 : FPk "FairBlocks$Text" 15 9 1 0 .int := ⟨RX9, TX9, 2, tyX9, rfl, inX9, by decide, w_31, by decide, rfl, tyX9_ok, nmX9, rfl, rfl⟩
theorem zr_5 : ∀ i, i < 7 → 5 ≤ i → i ≠ 176 → zk i = true := by decide +kernel
theorem gp_51 : FPk "FairBlocks$Plan" 9 5 0 0 .int := ⟨RX5, TX5, 5, tyX5, rfl, inX5, by decide, w_51, by decide, rfl, tyX5_ok, nmX5, rfl, rfl⟩
theorem gp_56 : FPk "FairBlocks$Plan" 15 5 1 0 .int := ⟨RX5, TX5, 5, tyX5, rfl, inX5, by decide, w_56, by decide, rfl, tyX5_ok, nmX5, rfl, rfl⟩
theorem gp_60 : FPk "FairBlocks$Plan" 18 5 2 0 .int := ⟨RX5, TX5, 5, tyX5, rfl, inX5, by decide, w_60, by decide, rfl, tyX5_ok, nmX5, rfl, rfl⟩
theorem ff_67 : FFk "FairBlocks$Plan" 21 5 3 13 := ⟨RX5, TX5, 5, tyX5, (.array .int), rfl, inX5, by decide, w_67, by decide, rfl, tyX5_ok, nmX5, rfl, rfl, rfl, fun _ => ⟨rfl, rfl⟩⟩
theorem ff_68 : FFk "FairBlocks$Plan" 25 5 4 13 := ⟨RX5, TX5, 5, tyX5, (.array .int), rfl, inX5, by decide, w_68, by decide, rfl, tyX5_ok, nmX5, rfl, rfl, rfl, fun _ => ⟨rfl, rfl⟩⟩
theorem zr_6 : ∀ i, i < 26 → 22 ≤ i → i ≠ 176 → zk i = true := by decide +kernel
theorem ff_172 : FFk "FairBlocks$Scheduler" 9 6 1 13 := ⟨RX6, TX6, 5, tyX6, (.array .int), rfl, inX6, by decide, w_172, by decide, rfl, tyX6_ok, nmX6, rfl, rfl, rfl, fun _ => ⟨rfl, rfl⟩⟩
theorem ff_173 : FFk "FairBlocks$Scheduler" 15 6 2 13 := ⟨RX6, TX6, 5, tyX6, (.array .int), rfl, inX6, by decide, w_173, by decide, rfl, tyX6_ok, nmX6, rfl, rfl, rfl, fun _ => ⟨rfl, rfl⟩⟩
theorem ff_174 : FFk "FairBlocks$Scheduler" 18 6 3 13 := ⟨RX6, TX6, 5, tyX6, (.array .int), rfl, inX6, by decide, w_174, by decide, rfl, tyX6_ok, nmX6, rfl, rfl, rfl, fun _ => ⟨rfl, rfl⟩⟩
theorem ff_175 : FFk "FairBlocks$Scheduler" 21 6 4 13 := ⟨RX6, TX6, 5, tyX6, (.array .int), rfl, inX6, by decide, w_175, by decide, rfl, tyX6_ok, nmX6, rfl, rfl, rfl, fun _ => ⟨rfl, rfl⟩⟩
theorem ff_171 : FFk "FairBlocks$Scheduler" 24 6 0 5 := ⟨RX6, TX6, 5, tyX6, (.object "FairBlocks$Plan"), rfl, inX6, by decide, w_171, by decide, rfl, tyX6_ok, nmX6, rfl, rfl, rfl, fun _ => ⟨rfl, rfl⟩⟩
theorem no_45 : NOk "FairBlocks$Bench" 7 5 5 := ⟨RX5, TX5, tyX5, rfl, inX5, tyX5_ok, fun j hj => by rcases (show j = 0 ∨ j = 1 ∨ j = 2 ∨ j = 3 ∨ j = 4 by omega) with rfl | rfl | rfl | rfl | rfl <;> rfl, w_45, w_46, w_4, by decide⟩
theorem mi_X5_init : MIk yX5_init cX5_init 1 0 := ⟨w_49, w_48, w_4, rfl, by decide +kernel, by decide +kernel, by decide +kernel⟩
theorem ff_187 : FFk "FairBlocks$Bench" 10 1 0 5 := ⟨RX1, TX1, 4, tyX1, (.object "FairBlocks$Plan"), rfl, inX1, by decide, w_187, by decide, rfl, tyX1_ok, nmX1, rfl, rfl, rfl, fun _ => ⟨rfl, rfl⟩⟩
theorem no_80 : NOk "FairBlocks$Bench" 16 8 3 := ⟨RX8, TX8, tyX8, rfl, inX8, tyX8_ok, fun j hj => by rcases (show j = 0 ∨ j = 1 ∨ j = 2 by omega) with rfl | rfl | rfl <;> rfl, w_80, w_81, w_5, by decide⟩
theorem mi_X8_init : MIk yX8_init cX8_init 2 0 := ⟨w_84, w_83, w_5, rfl, by decide +kernel, by decide +kernel, by decide +kernel⟩
theorem ff_193 : FFk "FairBlocks$Bench" 19 1 1 8 := ⟨RX1, TX1, 4, tyX1, (.object "FairBlocks$Standing"), rfl, inX1, by decide, w_193, by decide, rfl, tyX1_ok, nmX1, rfl, rfl, rfl, fun _ => ⟨rfl, rfl⟩⟩
theorem ff_198 : FFk "FairBlocks$Bench" 23 1 2 8 := ⟨RX1, TX1, 4, tyX1, (.object "FairBlocks$Standing"), rfl, inX1, by decide, w_198, by decide, rfl, tyX1_ok, nmX1, rfl, rfl, rfl, fun _ => ⟨rfl, rfl⟩⟩
theorem no_165 : NOk "FairBlocks$Bench" 26 6 5 := ⟨RX6, TX6, tyX6, rfl, inX6, tyX6_ok, fun j hj => by rcases (show j = 0 ∨ j = 1 ∨ j = 2 ∨ j = 3 ∨ j = 4 by omega) with rfl | rfl | rfl | rfl | rfl <;> rfl, w_165, w_166, w_7, by decide⟩
theorem gl_187 : FLk "FairBlocks$Bench" 10 1 0 8 := ⟨RX1, TX1, 4, rfl, inX1, by decide, w_187, by decide, rfl⟩
theorem mi_X6_init : MIk yX6_init cX6_init 2 1 := ⟨w_169, w_168, w_7, rfl, by decide +kernel, by decide +kernel, by decide +kernel⟩
theorem ff_199 : FFk "FairBlocks$Bench" 31 1 3 6 := ⟨RX1, TX1, 4, tyX1, (.object "FairBlocks$Scheduler"), rfl, inX1, by decide, w_199, by decide, rfl, tyX1_ok, nmX1, rfl, rfl, rfl, fun _ => ⟨rfl, rfl⟩⟩
theorem no_220 : NOk "FairBlocks$Acts" 9 8 3 := ⟨RX8, TX8, tyX8, rfl, inX8, tyX8_ok, fun j hj => by rcases (show j = 0 ∨ j = 1 ∨ j = 2 by omega) with rfl | rfl | rfl <;> rfl, w_220, w_81, w_5, by decide⟩
theorem gl_223 : FLk "FairBlocks$Acts" 11 0 0 18 := ⟨RX0, TX0, 3, rfl, inX0, by decide, w_223, by decide, rfl⟩
theorem ff_223 : FFk "FairBlocks$Acts" 11 0 0 15 := ⟨RX0, TX0, 3, tyX0, (.array (.object "FairBlocks$Standing")), rfl, inX0, by decide, w_223, by decide, rfl, tyX0_ok, nmX0, rfl, rfl, rfl, fun _ => ⟨rfl, rfl⟩⟩
theorem gp_224 : FPk "FairBlocks$Acts" 17 0 1 0 .int := ⟨RX0, TX0, 3, tyX0, rfl, inX0, by decide, w_224, by decide, rfl, tyX0_ok, nmX0, rfl, rfl⟩
theorem gp_225 : FPk "FairBlocks$Acts" 21 0 2 0 .int := ⟨RX0, TX0, 3, tyX0, rfl, inX0, by decide, w_225, by decide, rfl, tyX0_ok, nmX0, rfl, rfl⟩
theorem ff_242 : FFk "FairBlocks$Outlook" 9 4 0 1 := ⟨RX4, TX4, 1, tyX4, (.object "FairBlocks$Bench"), rfl, inX4, by decide, w_242, by decide, rfl, tyX4_ok, nmX4, rfl, rfl, rfl, fun _ => ⟨rfl, rfl⟩⟩
theorem ff_255 : FFk "FairBlocks$Court" 9 3 0 1 := ⟨RX3, TX3, 2, tyX3, (.object "FairBlocks$Bench"), rfl, inX3, by decide, w_255, by decide, rfl, tyX3_ok, nmX3, rfl, rfl, rfl, fun _ => ⟨rfl, rfl⟩⟩
theorem no_253 : NOk "FairBlocks$Court" 15 8 3 := ⟨RX8, TX8, tyX8, rfl, inX8, tyX8_ok, fun j hj => by rcases (show j = 0 ∨ j = 1 ∨ j = 2 by omega) with rfl | rfl | rfl <;> rfl, w_253, w_81, w_5, by decide⟩
theorem ff_256 : FFk "FairBlocks$Court" 18 3 1 8 := ⟨RX3, TX3, 2, tyX3, (.object "FairBlocks$Standing"), rfl, inX3, by decide, w_256, by decide, rfl, tyX3_ok, nmX3, rfl, rfl, rfl, fun _ => ⟨rfl, rfl⟩⟩
theorem zr_7 : ∀ i, i < 157 → 152 ≤ i → i ≠ 176 → zk i = true := by decide +kernel
theorem ff_269 : FFk "FairBlocks$Sightings" 9 7 1 13 := ⟨RX7, TX7, 7, tyX7, (.array .int), rfl, inX7, by decide, w_269, by decide, rfl, tyX7_ok, nmX7, rfl, rfl, rfl, fun _ => ⟨rfl, rfl⟩⟩
theorem ff_270 : FFk "FairBlocks$Sightings" 15 7 2 13 := ⟨RX7, TX7, 7, tyX7, (.array .int), rfl, inX7, by decide, w_270, by decide, rfl, tyX7_ok, nmX7, rfl, rfl, rfl, fun _ => ⟨rfl, rfl⟩⟩
theorem ff_271 : FFk "FairBlocks$Sightings" 18 7 3 13 := ⟨RX7, TX7, 7, tyX7, (.array .int), rfl, inX7, by decide, w_271, by decide, rfl, tyX7_ok, nmX7, rfl, rfl, rfl, fun _ => ⟨rfl, rfl⟩⟩
theorem ff_272 : FFk "FairBlocks$Sightings" 21 7 4 13 := ⟨RX7, TX7, 7, tyX7, (.array .int), rfl, inX7, by decide, w_272, by decide, rfl, tyX7_ok, nmX7, rfl, rfl, rfl, fun _ => ⟨rfl, rfl⟩⟩
theorem ff_273 : FFk "FairBlocks$Sightings" 24 7 5 13 := ⟨RX7, TX7, 7, tyX7, (.array .int), rfl, inX7, by decide, w_273, by decide, rfl, tyX7_ok, nmX7, rfl, rfl, rfl, fun _ => ⟨rfl, rfl⟩⟩
theorem gp_274 : FPk "FairBlocks$Sightings" 27 7 6 0 .int := ⟨RX7, TX7, 7, tyX7, rfl, inX7, by decide, w_274, by decide, rfl, tyX7_ok, nmX7, rfl, rfl⟩
theorem ff_268 : FFk "FairBlocks$Sightings" 31 7 0 1 := ⟨RX7, TX7, 7, tyX7, (.object "FairBlocks$Bench"), rfl, inX7, by decide, w_268, by decide, rfl, tyX7_ok, nmX7, rfl, rfl, rfl, fun _ => ⟨rfl, rfl⟩⟩
theorem ff_297 : FFk "FairBlocks$Chances" 9 2 0 1 := ⟨RX2, TX2, 1, tyX2, (.object "FairBlocks$Bench"), rfl, inX2, by decide, w_297, by decide, rfl, tyX2_ok, nmX2, rfl, rfl, rfl, fun _ => ⟨rfl, rfl⟩⟩
theorem no_24 : NOk "FairBlocks" 7 9 2 := ⟨RX9, TX9, tyX9, rfl, inX9, tyX9_ok, fun j hj => by rcases (show j = 0 ∨ j = 1 by omega) with rfl | rfl <;> rfl, w_24, w_25, w_2, by decide⟩
theorem mi_X9_init : MIk yX9_init cX9_init 1 0 := ⟨w_28, w_27, w_2, rfl, by decide +kernel, by decide +kernel, by decide +kernel⟩
theorem ff_301 : FFk "FairBlocks" 10 11 0 9 := ⟨RX11, TX11, 12, tyX11, (.object "FairBlocks$Text"), rfl, inX11, by decide, w_301, by decide, rfl, tyX11_ok, nmX11, rfl, rfl, rfl, fun _ => ⟨rfl, rfl⟩⟩
theorem no_39 : NOk "FairBlocks" 16 1 4 := ⟨RX1, TX1, tyX1, rfl, inX1, tyX1_ok, fun j hj => by rcases (show j = 0 ∨ j = 1 ∨ j = 2 ∨ j = 3 by omega) with rfl | rfl | rfl | rfl <;> rfl, w_39, w_40, w_3, by decide⟩
theorem mi_X1_init : MIk yX1_init cX1_init 1 0 := ⟨w_43, w_42, w_3, rfl, by decide +kernel, by decide +kernel, by decide +kernel⟩
theorem ff_302 : FFk "FairBlocks" 19 11 1 1 := ⟨RX11, TX11, 12, tyX11, (.object "FairBlocks$Bench"), rfl, inX11, by decide, w_302, by decide, rfl, tyX11_ok, nmX11, rfl, rfl, rfl, fun _ => ⟨rfl, rfl⟩⟩
theorem gl_302 : FLk "FairBlocks" 19 11 1 4 := ⟨RX11, TX11, 12, rfl, inX11, by decide, w_302, by decide, rfl⟩
theorem gl_188 : FLk "FairBlocks" 23 1 0 8 := ⟨RX1, TX1, 4, rfl, inX1, by decide, w_188, by decide, rfl⟩
theorem ff_303 : FFk "FairBlocks" 27 11 2 5 := ⟨RX11, TX11, 12, tyX11, (.object "FairBlocks$Plan"), rfl, inX11, by decide, w_303, by decide, rfl, tyX11_ok, nmX11, rfl, rfl, rfl, fun _ => ⟨rfl, rfl⟩⟩
theorem gl_194 : FLk "FairBlocks" 28 1 1 11 := ⟨RX1, TX1, 4, rfl, inX1, by decide, w_194, by decide, rfl⟩
theorem ff_304 : FFk "FairBlocks" 32 11 3 8 := ⟨RX11, TX11, 12, tyX11, (.object "FairBlocks$Standing"), rfl, inX11, by decide, w_304, by decide, rfl, tyX11_ok, nmX11, rfl, rfl, rfl, fun _ => ⟨rfl, rfl⟩⟩
theorem no_214 : NOk "FairBlocks" 33 0 3 := ⟨RX0, TX0, tyX0, rfl, inX0, tyX0_ok, fun j hj => by rcases (show j = 0 ∨ j = 1 ∨ j = 2 by omega) with rfl | rfl | rfl <;> rfl, w_214, w_215, w_8, by decide⟩
theorem mi_X0_init : MIk yX0_init cX0_init 2 0 := ⟨w_218, w_217, w_8, rfl, by decide +kernel, by decide +kernel, by decide +kernel⟩
theorem ff_305 : FFk "FairBlocks" 36 11 4 0 := ⟨RX11, TX11, 12, tyX11, (.object "FairBlocks$Acts"), rfl, inX11, by decide, w_305, by decide, rfl, tyX11_ok, nmX11, rfl, rfl, rfl, fun _ => ⟨rfl, rfl⟩⟩
theorem ff_306 : FFk "FairBlocks" 42 11 5 15 := ⟨RX11, TX11, 12, tyX11, (.array (.object "FairBlocks$Standing")), rfl, inX11, by decide, w_306, by decide, rfl, tyX11_ok, nmX11, rfl, rfl, rfl, fun _ => ⟨rfl, rfl⟩⟩
theorem ff_307 : FFk "FairBlocks" 47 11 6 14 := ⟨RX11, TX11, 12, tyX11, (.array .boolean), rfl, inX11, by decide, w_307, by decide, rfl, tyX11_ok, nmX11, rfl, rfl, rfl, fun _ => ⟨rfl, rfl⟩⟩
theorem no_236 : NOk "FairBlocks" 51 4 1 := ⟨RX4, TX4, tyX4, rfl, inX4, tyX4_ok, fun j hj => by rcases (show j = 0 by omega) with rfl <;> rfl, w_236, w_237, w_9, by decide⟩
theorem mi_X4_init : MIk yX4_init cX4_init 2 1 := ⟨w_240, w_239, w_9, rfl, by decide +kernel, by decide +kernel, by decide +kernel⟩
theorem ff_308 : FFk "FairBlocks" 56 11 7 4 := ⟨RX11, TX11, 12, tyX11, (.object "FairBlocks$Outlook"), rfl, inX11, by decide, w_308, by decide, rfl, tyX11_ok, nmX11, rfl, rfl, rfl, fun _ => ⟨rfl, rfl⟩⟩
theorem no_247 : NOk "FairBlocks" 60 3 2 := ⟨RX3, TX3, tyX3, rfl, inX3, tyX3_ok, fun j hj => by rcases (show j = 0 ∨ j = 1 by omega) with rfl | rfl <;> rfl, w_247, w_248, w_10, by decide⟩
theorem mi_X3_init : MIk yX3_init cX3_init 2 1 := ⟨w_251, w_250, w_10, rfl, by decide +kernel, by decide +kernel, by decide +kernel⟩
theorem ff_309 : FFk "FairBlocks" 63 11 8 3 := ⟨RX11, TX11, 12, tyX11, (.object "FairBlocks$Court"), rfl, inX11, by decide, w_309, by decide, rfl, tyX11_ok, nmX11, rfl, rfl, rfl, fun _ => ⟨rfl, rfl⟩⟩
theorem no_262 : NOk "FairBlocks" 67 7 7 := ⟨RX7, TX7, tyX7, rfl, inX7, tyX7_ok, fun j hj => by rcases (show j = 0 ∨ j = 1 ∨ j = 2 ∨ j = 3 ∨ j = 4 ∨ j = 5 ∨ j = 6 by omega) with rfl | rfl | rfl | rfl | rfl | rfl | rfl <;> rfl, w_262, w_263, w_11, by decide⟩
theorem mi_X7_init : MIk yX7_init cX7_init 2 1 := ⟨w_266, w_265, w_11, rfl, by decide +kernel, by decide +kernel, by decide +kernel⟩
theorem ff_310 : FFk "FairBlocks" 70 11 9 7 := ⟨RX11, TX11, 12, tyX11, (.object "FairBlocks$Sightings"), rfl, inX11, by decide, w_310, by decide, rfl, tyX11_ok, nmX11, rfl, rfl, rfl, fun _ => ⟨rfl, rfl⟩⟩
theorem no_291 : NOk "FairBlocks" 74 2 1 := ⟨RX2, TX2, tyX2, rfl, inX2, tyX2_ok, fun j hj => by rcases (show j = 0 by omega) with rfl <;> rfl, w_291, w_292, w_12, by decide⟩
theorem mi_X2_init : MIk yX2_init cX2_init 2 1 := ⟨w_295, w_294, w_12, rfl, by decide +kernel, by decide +kernel, by decide +kernel⟩
theorem ff_311 : FFk "FairBlocks" 77 11 10 2 := ⟨RX11, TX11, 12, tyX11, (.object "FairBlocks$Chances"), rfl, inX11, by decide, w_311, by decide, rfl, tyX11_ok, nmX11, rfl, rfl, rfl, fun _ => ⟨rfl, rfl⟩⟩
theorem gp_312 : FPk "FairBlocks" 81 11 11 2 .long := ⟨RX11, TX11, 12, tyX11, rfl, inX11, by decide, w_312, by decide, rfl, tyX11_ok, nmX11, rfl, rfl⟩
theorem no_234 : NOk "FairBlocks" 40 8 3 := ⟨RX8, TX8, tyX8, rfl, inX8, tyX8_ok, fun j hj => by rcases (show j = 0 ∨ j = 1 ∨ j = 2 by omega) with rfl | rfl | rfl <;> rfl, w_234, w_81, w_5, by decide⟩
theorem gl_306 : FLk "FairBlocks" 42 11 5 18 := ⟨RX11, TX11, 12, rfl, inX11, by decide, w_306, by decide, rfl⟩
theorem zr_11 : ∀ i, i < 142 → 141 ≤ i → i ≠ 176 → zk i = true := by decide +kernel
theorem zr_12 : ∀ i, i < 178 → 159 ≤ i → i ≠ 176 → zk i = true := by decide +kernel
theorem ff_724 : FFk "FairBlocksModel" 27 12 1 13 := ⟨RX12, TX12, 32, tyX12, (.array .int), rfl, inX12, by decide, w_724, by decide, rfl, tyX12_ok, nmX12, rfl, rfl, rfl, fun _ => ⟨rfl, rfl⟩⟩
theorem gp_727 : FPk "FairBlocksModel" 30 12 4 0 .int := ⟨RX12, TX12, 32, tyX12, rfl, inX12, by decide, w_727, by decide, rfl, tyX12_ok, nmX12, rfl, rfl⟩
theorem gp_728 : FPk "FairBlocksModel" 33 12 5 0 .int := ⟨RX12, TX12, 32, tyX12, rfl, inX12, by decide, w_728, by decide, rfl, tyX12_ok, nmX12, rfl, rfl⟩
theorem ff_730 : FFk "FairBlocksModel" 36 12 7 13 := ⟨RX12, TX12, 32, tyX12, (.array .int), rfl, inX12, by decide, w_730, by decide, rfl, tyX12_ok, nmX12, rfl, rfl, rfl, fun _ => ⟨rfl, rfl⟩⟩
theorem ff_731 : FFk "FairBlocksModel" 39 12 8 13 := ⟨RX12, TX12, 32, tyX12, (.array .int), rfl, inX12, by decide, w_731, by decide, rfl, tyX12_ok, nmX12, rfl, rfl, rfl, fun _ => ⟨rfl, rfl⟩⟩
theorem ff_736 : FFk "FairBlocksModel" 42 12 13 13 := ⟨RX12, TX12, 32, tyX12, (.array .int), rfl, inX12, by decide, w_736, by decide, rfl, tyX12_ok, nmX12, rfl, rfl, rfl, fun _ => ⟨rfl, rfl⟩⟩
theorem ff_737 : FFk "FairBlocksModel" 45 12 14 13 := ⟨RX12, TX12, 32, tyX12, (.array .int), rfl, inX12, by decide, w_737, by decide, rfl, tyX12_ok, nmX12, rfl, rfl, rfl, fun _ => ⟨rfl, rfl⟩⟩
theorem ff_738 : FFk "FairBlocksModel" 48 12 15 13 := ⟨RX12, TX12, 32, tyX12, (.array .int), rfl, inX12, by decide, w_738, by decide, rfl, tyX12_ok, nmX12, rfl, rfl, rfl, fun _ => ⟨rfl, rfl⟩⟩
theorem ff_739 : FFk "FairBlocksModel" 11 12 16 13 := ⟨RX12, TX12, 32, tyX12, (.array .int), rfl, inX12, by decide, w_739, by decide, rfl, tyX12_ok, nmX12, rfl, rfl, rfl, fun _ => ⟨rfl, rfl⟩⟩
theorem ff_740 : FFk "FairBlocksModel" 7 12 17 13 := ⟨RX12, TX12, 32, tyX12, (.array .int), rfl, inX12, by decide, w_740, by decide, rfl, tyX12_ok, nmX12, rfl, rfl, rfl, fun _ => ⟨rfl, rfl⟩⟩
theorem ff_741 : FFk "FairBlocksModel" 51 12 18 13 := ⟨RX12, TX12, 32, tyX12, (.array .int), rfl, inX12, by decide, w_741, by decide, rfl, tyX12_ok, nmX12, rfl, rfl, rfl, fun _ => ⟨rfl, rfl⟩⟩
theorem ff_742 : FFk "FairBlocksModel" 54 12 19 13 := ⟨RX12, TX12, 32, tyX12, (.array .int), rfl, inX12, by decide, w_742, by decide, rfl, tyX12_ok, nmX12, rfl, rfl, rfl, fun _ => ⟨rfl, rfl⟩⟩
theorem ff_744 : FFk "FairBlocksModel" 57 12 21 13 := ⟨RX12, TX12, 32, tyX12, (.array .int), rfl, inX12, by decide, w_744, by decide, rfl, tyX12_ok, nmX12, rfl, rfl, rfl, fun _ => ⟨rfl, rfl⟩⟩
theorem ff_745 : FFk "FairBlocksModel" 60 12 22 14 := ⟨RX12, TX12, 32, tyX12, (.array .boolean), rfl, inX12, by decide, w_745, by decide, rfl, tyX12_ok, nmX12, rfl, rfl, rfl, fun _ => ⟨rfl, rfl⟩⟩
theorem ff_747 : FFk "FairBlocksModel" 64 12 24 13 := ⟨RX12, TX12, 32, tyX12, (.array .int), rfl, inX12, by decide, w_747, by decide, rfl, tyX12_ok, nmX12, rfl, rfl, rfl, fun _ => ⟨rfl, rfl⟩⟩
theorem ff_748 : FFk "FairBlocksModel" 67 12 25 13 := ⟨RX12, TX12, 32, tyX12, (.array .int), rfl, inX12, by decide, w_748, by decide, rfl, tyX12_ok, nmX12, rfl, rfl, rfl, fun _ => ⟨rfl, rfl⟩⟩
theorem ff_749 : FFk "FairBlocksModel" 70 12 26 13 := ⟨RX12, TX12, 32, tyX12, (.array .int), rfl, inX12, by decide, w_749, by decide, rfl, tyX12_ok, nmX12, rfl, rfl, rfl, fun _ => ⟨rfl, rfl⟩⟩
theorem ff_750 : FFk "FairBlocksModel" 73 12 27 13 := ⟨RX12, TX12, 32, tyX12, (.array .int), rfl, inX12, by decide, w_750, by decide, rfl, tyX12_ok, nmX12, rfl, rfl, rfl, fun _ => ⟨rfl, rfl⟩⟩
theorem ff_751 : FFk "FairBlocksModel" 76 12 28 13 := ⟨RX12, TX12, 32, tyX12, (.array .int), rfl, inX12, by decide, w_751, by decide, rfl, tyX12_ok, nmX12, rfl, rfl, rfl, fun _ => ⟨rfl, rfl⟩⟩
theorem ff_753 : FFk "FairBlocksModel" 79 12 30 13 := ⟨RX12, TX12, 32, tyX12, (.array .int), rfl, inX12, by decide, w_753, by decide, rfl, tyX12_ok, nmX12, rfl, rfl, rfl, fun _ => ⟨rfl, rfl⟩⟩
theorem ff_754 : FFk "FairBlocksModel" 82 12 31 13 := ⟨RX12, TX12, 32, tyX12, (.array .int), rfl, inX12, by decide, w_754, by decide, rfl, tyX12_ok, nmX12, rfl, rfl, rfl, fun _ => ⟨rfl, rfl⟩⟩
theorem gl_753 : FLk "FairBlocksModel" 79 12 30 16 := ⟨RX12, TX12, 32, rfl, inX12, by decide, w_753, by decide, rfl⟩
theorem ok10 : ∀ k, k < 178 → kof k = 10 → zk k = true := by decide +kernel
theorem FR3a : FR 3 1000 = 1 := by decide +kernel
theorem FR3b : FR 3 1001 = 1 := by decide +kernel
theorem ct_X10_init (l : Launch) {k : Nat} (hk : kof k = 10) : CN0 l yX10_init cX10_init 1 1 0 0 [.inr (.inr (10, k))] k (k + 1) := by
  have h178 := kof_lt (k := k) (by omega)
  refine cn_of (by decide +kernel) (by omega) (by omega) (Nat.le_of_ble_eq_true rfl) (fun p e s m args below meth c D ca ad sz M hX hr hnm hz => by
    refine rd_lv (lv' := [some (.inr (.inr (10, k)))]) rfl ?_
    refine rd_aload_n hX dX10_init_0 rfl rfl ?_
    refine rd_objInit hX w_92 ⟨Nat.le_of_ble_eq_true rfl, Nat.le_of_ble_eq_true rfl⟩ dX10_init_1 ?_
    refine rd_vret hX hr ?_ rfl (Nat.le_refl _) (Nat.le_refl _) dX10_init_4
    exact mm_ext (fun i => by
      rw [ext_1]
      split
      · next h =>
        have e : i = k := by omega
        rw [e, hz.1 k (Nat.le_refl _), FR_z (ok10 k h178 hk)]
      · rfl) rfl)
theorem ok8 : ∀ k, k < 178 → kof k = 8 → kof (k + 1) = 16 ∧ ln (k + 1) = 5 ∧ k + 7 ≤ 178 := by decide +kernel
theorem lp_X8 {p : Program} {l : Launch} {e : Env} {s : State} {m : MethodId} {args : Array Value} {below : List Frame} {meth : Method} {c : Code} {D : va_G} {ca : Nat → ClassId} {ad : Nat → Nat} {sz : Nat} {Qf : State → Prop} {k : Nat} {M1 : mM} (hX : CN p s m args meth c 2 cX8_init "FairBlocks$Standing" D ca ad sz) (hk : kof k = 8) (hfl : M1.1 k 1000 = 1) (hzr : ∀ i, k + 2 ≤ i → M1.1 i = fun _ => 0) (kend : GN p l e (rmN 2 6 55) s m args below meth c 2 D ca ad sz Qf (1 + 5) (5 + 10 * 5) 48 [some (.inr (.inr (8, k))), some (.inl (nI 5))] [] (k + 1 + 1 + 5) (au M1 (k + 1) 5)) : ∀ t j, j + t = 5 → GN p l e (rmN 2 6 55) s m args below meth c 2 D ca ad sz Qf (1 + j) (5 + 10 * j) 24 [some (.inr (.inr (8, k))), some (.inl (nI j))] [] (k + 1 + 1 + j) (au M1 (k + 1) j) := by
  have hk178 := kof_lt (k := k) (by omega)
  obtain ⟨h16, hln, h7⟩ := ok8 k hk178 hk
  intro t
  induction t with
  | zero =>
    intro j hj
    have e : j = 5 := by omega
    subst e
    refine rd_iload_n hX dX8_init_24 rfl rfl ?_
    refine rd_iconst hX (v := nI 5) dX8_init_25 rfl ?_
    exact rd_icmp_ge hX dX8_init_26 (tgt := 48) (by decide) (fun _ => kend) (fun g => absurd (nI_le (Nat.le_refl 5) (by decide)) g)
  | succ t ih =>
    intro j hj
    have h10 : kof (k + 1 + 1 + j) = 10 := okU (k + 1) (by omega) h16 j (by omega)
    refine rd_iload_n hX dX8_init_24 rfl rfl ?_
    refine rd_iconst hX (v := nI 5) dX8_init_25 rfl ?_
    refine rd_icmp_ge hX dX8_init_26 (tgt := 48) (by decide) (fun g => absurd g (nI_ge (by omega) (by decide))) (fun _ => ?_)
    refine rd_aload_n hX dX8_init_29 rfl rfl ?_
    refine rd_getr hX (j := 0) (kt := 16) (k2 := k + 1) gl_142 hk (by omega) rfl (by rw [au_1, if_neg (by omega)]; exact hfl) dX8_init_30 ?_
    refine rd_iload_n hX dX8_init_33 rfl rfl ?_
    refine rd_fz fun _ hzN => ?_
    refine rd_new hX no_86 h10 (by omega) ⟨by show 1 + j + 1 ≤ 6; omega, by show 5 + 10 * j + 10 ≤ 55; omega⟩ dX8_init_34 ?_
    refine rd_dup hX dX8_init_37 ?_
    refine rd_callN hX (as := []) (ct_X10_init l h10) rfl rfl (hzN.1 _ (Nat.le_refl _)) (Nat.le_refl _) mi_X10_init nw_3 ⟨⟨Nat.le_of_ble_eq_true rfl, Nat.le_of_ble_eq_true rfl⟩, by show 1 + j + 1 + 0 ≤ 6; omega, by show 5 + 10 * j + 10 + 0 ≤ 55; omega⟩ (Nat.le_of_ble_eq_true rfl) dX8_init_38 ?_
    refine rd_aast hX (j := j) (Or.inr ⟨rfl, rfl, rfl, rfl⟩) h16 (by omega) h10 (by omega) (by omega) (by omega) dX8_init_41 ?_
    refine rd_iinc hX (by decide) dX8_init_42 rfl rfl trivial ?_
    refine rd_goto hX dX8_init_45 (tgt := 24) (by decide) ?_
    refine rd_mem (au_s (hzr _ (by omega)) (FR_z (ok10 _ (by omega) h10))) (n' := k + 1 + 1 + (j + 1)) (by omega) ?_
    refine rd_wide (nc' := 1 + (j + 1)) (ns' := 5 + 10 * (j + 1)) (by omega) (by omega) ?_
    refine rd_lv (lv' := [some (.inr (.inr (8, k))), some (.inl (nI (j + 1)))]) (by rw [nI_succ]; rfl) ?_
    exact ih (j + 1) (by omega)
theorem ct_X8_init (l : Launch) {k : Nat} (hk : kof k = 8) : CN0 l yX8_init cX8_init 2 2 6 55 [.inr (.inr (8, k))] k (k + 7) := by
  have h178 := kof_lt (k := k) (by omega)
  obtain ⟨h16, hln, h7⟩ := ok8 k h178 hk
  refine cn_of (by decide +kernel) (by omega) (by omega) (Nat.le_of_ble_eq_true rfl) (fun p e s m args below meth c D ca ad sz M hX hr hnm hz => by
    refine rd_lv (lv' := [some (.inr (.inr (8, k))), none]) rfl ?_
    refine rd_aload_n hX dX8_init_0 rfl rfl ?_
    refine rd_objInit hX w_85 ⟨Nat.le_of_ble_eq_true rfl, Nat.le_of_ble_eq_true rfl⟩ dX8_init_1 ?_
    refine rd_aload_n hX dX8_init_4 rfl rfl ?_
    refine rd_iconst hX (v := nI 5) dX8_init_5 rfl ?_
    refine rd_newq hX (n := k + 1) (Or.inr ⟨rfl, rfl, rfl⟩) w_86 h16 (by omega) (by rw [hln]) (by omega) ⟨Nat.le_of_ble_eq_true rfl, by show 0 + ln (k + 1) ≤ 55; omega⟩ dX8_init_6 ?_
    refine rd_putF hX hnm ff_142 hk (by omega) rfl dX8_init_9 ?_
    refine rd_aload_n hX dX8_init_12 rfl rfl ?_
    refine rd_iconst hX (v := 0) dX8_init_13 rfl ?_
    refine rd_puti hX gp_150 hk (by omega) (by decide) dX8_init_14 ?_
    refine rd_aload_n hX dX8_init_17 rfl rfl ?_
    refine rd_iconst hX (v := 0) dX8_init_18 rfl ?_
    refine rd_puti hX gp_154 hk (by omega) (by decide) dX8_init_19 ?_
    refine rd_iconst hX (v := nI 0) dX8_init_22 rfl ?_
    refine rd_istore_n hX (by decide) dX8_init_23 rfl trivial ?_
    refine rd_mem (au_0 (a := k + 1) (by rw [mset_n (by omega), mset_n (by omega), mset_n (by omega)]; exact hz.1 _ (by omega))) rfl ?_
    refine rd_wide (nc' := 1 + 0) (ns' := 5 + 10 * 0) (Nat.le_refl _) (by omega) ?_
    refine lp_X8 hX hk (by simp [mset_f, upd]) (fun i hi => by rw [mset_n (by omega), mset_n (by omega), mset_n (by omega)]; exact hz.1 _ (by omega)) ?_ 5 0 rfl
    refine rd_vret hX hr ?_ rfl (Nat.le_of_ble_eq_true rfl) (Nat.le_of_ble_eq_true rfl) dX8_init_48
    exact mm_ext (fun i => by
      rw [au_1, ext_1]
      by_cases h1 : i = k + 1
      · rw [if_pos h1, if_pos (by omega), FR_a (kd := 16) (by rw [h1]; exact h16) (Or.inr rfl), h1, hln]
      · rw [if_neg h1]
        by_cases h2 : i = k
        · rw [if_pos (by omega), h2, FR_o hk ⟨by decide, by decide, by rintro rfl; exact absurd hk (by decide +kernel)⟩]
          simp only [mset_f, if_true]
          rw [hz.1 k (Nat.le_refl _)]
          rfl
        · rw [mset_n h2, mset_n h2, mset_n h2]
          split
          · next h =>
            have hu := okU (k + 1) (by omega) h16 (i - (k + 1 + 1)) (by omega)
            rw [show k + 1 + 1 + (i - (k + 1 + 1)) = i by omega] at hu
            rw [hz.1 i (by omega), FR_z (ok10 i (by omega) hu)]
          · rfl) rfl)
set_option maxRecDepth 4000 in
set_option maxHeartbeats 1000000 in
theorem ct_X9_init (l : Launch) : CN0 l yX9_init cX9_init 1 1 1 80 [.inr (.inr (9, 1))] 1 3 := cn_of (by decide +kernel) (by decide) (by decide) (by decide) (fun p e s m args below meth c D ca ad sz M hX hr hnm hz => by
  refine rd_lv (lv' := [some (.inr (.inr (9, 1)))]) rfl ?_
  have hc0 : (nI 0).toNatClampNeg = 0 := nI_clamp (by decide)
  refine rd_aload_n hX dX9_init_0 rfl rfl ?_
  refine rd_objInit hX w_29 ⟨Nat.le_of_ble_eq_true rfl, Nat.le_of_ble_eq_true rfl⟩ dX9_init_1 ?_
  refine rd_aload_n hX dX9_init_4 rfl rfl ?_
  refine rd_bipush hX (v := 80) dX9_init_5 rfl ?_
  refine rd_newi hX (n := 2) (by decide +kernel) (by decide) (by decide +kernel) (by decide +kernel) ⟨Nat.le_of_ble_eq_true rfl, Nat.le_of_ble_eq_true rfl⟩ dX9_init_7 ?_
  refine rd_putF hX hnm ff_30 (by decide +kernel) (by decide) (by decide +kernel) dX9_init_9 ?_
  refine rd_aload_n hX dX9_init_12 rfl rfl ?_
  refine rd_iconst hX dX9_init_13 rfl ?_
  refine rd_puti hX gp_31 (by decide +kernel) (by decide) (by decide) dX9_init_14 ?_
  refine rd_vret hX hr ?_ rfl (Nat.le_of_ble_eq_true rfl) (Nat.le_of_ble_eq_true rfl) dX9_init_17
  exact mm_ext (fun i => by
    by_cases hi : i = 1
    · subst hi
      rw [ext_1, if_pos (by decide), FR_o (kd := 9) (by decide +kernel) (by decide)]
      simp [mset_f, ext_1, ar_1, au_1, hz.1, lset_1]
      try rfl
    · simp only [mset_n hi, ext_1, ar_1, au_1, lset_1]
      try simp only [mset_f, hc0]
      repeat' split
      all_goals (first | rfl | (exfalso; omega) | exact (hz.1 i (by omega)).trans (FR_z (zr_9 i (by omega) (by omega) (by omega))).symm)) rfl)
set_option maxRecDepth 4000 in
set_option maxHeartbeats 1000000 in
theorem ct_X5_init (l : Launch) : CN0 l yX5_init cX5_init 1 1 2 35 [.inr (.inr (5, 4))] 4 7 := cn_of (by decide +kernel) (by decide) (by decide) (by decide) (fun p e s m args below meth c D ca ad sz M hX hr hnm hz => by
  refine rd_lv (lv' := [some (.inr (.inr (5, 4)))]) rfl ?_
  have hc0 : (nI 0).toNatClampNeg = 0 := nI_clamp (by decide)
  refine rd_aload_n hX dX5_init_0 rfl rfl ?_
  refine rd_objInit hX w_50 ⟨Nat.le_of_ble_eq_true rfl, Nat.le_of_ble_eq_true rfl⟩ dX5_init_1 ?_
  refine rd_aload_n hX dX5_init_4 rfl rfl ?_
  refine rd_iconst hX dX5_init_5 rfl ?_
  refine rd_puti hX gp_51 (by decide +kernel) (by decide) (by decide) dX5_init_6 ?_
  refine rd_aload_n hX dX5_init_9 rfl rfl ?_
  refine rd_iconst hX dX5_init_10 rfl ?_
  refine rd_puti hX gp_56 (by decide +kernel) (by decide) (by decide) dX5_init_11 ?_
  refine rd_aload_n hX dX5_init_14 rfl rfl ?_
  refine rd_iconst hX dX5_init_15 rfl ?_
  refine rd_puti hX gp_60 (by decide +kernel) (by decide) (by decide) dX5_init_16 ?_
  refine rd_aload_n hX dX5_init_19 rfl rfl ?_
  refine rd_bipush hX (v := 30) dX5_init_20 rfl ?_
  refine rd_newi hX (n := 5) (by decide +kernel) (by decide) (by decide +kernel) (by decide +kernel) ⟨Nat.le_of_ble_eq_true rfl, Nat.le_of_ble_eq_true rfl⟩ dX5_init_22 ?_
  refine rd_putF hX hnm ff_67 (by decide +kernel) (by decide) (by decide +kernel) dX5_init_24 ?_
  refine rd_aload_n hX dX5_init_27 rfl rfl ?_
  refine rd_iconst hX dX5_init_28 rfl ?_
  refine rd_newi hX (n := 6) (by decide +kernel) (by decide) (by decide +kernel) (by decide +kernel) ⟨Nat.le_of_ble_eq_true rfl, Nat.le_of_ble_eq_true rfl⟩ dX5_init_29 ?_
  refine rd_putF hX hnm ff_68 (by decide +kernel) (by decide) (by decide +kernel) dX5_init_31 ?_
  refine rd_vret hX hr ?_ rfl (Nat.le_of_ble_eq_true rfl) (Nat.le_of_ble_eq_true rfl) dX5_init_34
  exact mm_ext (fun i => by
    by_cases hi : i = 4
    · subst hi
      rw [ext_1, if_pos (by decide), FR_o (kd := 5) (by decide +kernel) (by decide)]
      simp [mset_f, ext_1, ar_1, au_1, hz.1, lset_1]
      try rfl
    · simp only [mset_n hi, ext_1, ar_1, au_1, lset_1]
      try simp only [mset_f, hc0]
      repeat' split
      all_goals (first | rfl | (exfalso; omega) | exact (hz.1 i (by omega)).trans (FR_z (zr_5 i (by omega) (by omega) (by omega))).symm)) rfl)
set_option maxRecDepth 4000 in
set_option maxHeartbeats 1000000 in
theorem ct_X6_init (l : Launch) : CN0 l yX6_init cX6_init 2 1 4 19 [.inr (.inr (6, 21)), .inr (.inr (5, 4))] 21 26 := cn_of (by decide +kernel) (by decide) (by decide) (by decide) (fun p e s m args below meth c D ca ad sz M hX hr hnm hz => by
  refine rd_lv (lv' := [some (.inr (.inr (6, 21))), some (.inr (.inr (5, 4)))]) rfl ?_
  have hc0 : (nI 0).toNatClampNeg = 0 := nI_clamp (by decide)
  refine rd_aload_n hX dX6_init_0 rfl rfl ?_
  refine rd_objInit hX w_170 ⟨Nat.le_of_ble_eq_true rfl, Nat.le_of_ble_eq_true rfl⟩ dX6_init_1 ?_
  refine rd_aload_n hX dX6_init_4 rfl rfl ?_
  refine rd_iconst hX dX6_init_5 rfl ?_
  refine rd_newi hX (n := 22) (by decide +kernel) (by decide) (by decide +kernel) (by decide +kernel) ⟨Nat.le_of_ble_eq_true rfl, Nat.le_of_ble_eq_true rfl⟩ dX6_init_6 ?_
  refine rd_putF hX hnm ff_172 (by decide +kernel) (by decide) (by decide +kernel) dX6_init_8 ?_
  refine rd_aload_n hX dX6_init_11 rfl rfl ?_
  refine rd_iconst hX dX6_init_12 rfl ?_
  refine rd_newi hX (n := 23) (by decide +kernel) (by decide) (by decide +kernel) (by decide +kernel) ⟨Nat.le_of_ble_eq_true rfl, Nat.le_of_ble_eq_true rfl⟩ dX6_init_13 ?_
  refine rd_putF hX hnm ff_173 (by decide +kernel) (by decide) (by decide +kernel) dX6_init_15 ?_
  refine rd_aload_n hX dX6_init_18 rfl rfl ?_
  refine rd_iconst hX dX6_init_19 rfl ?_
  refine rd_newi hX (n := 24) (by decide +kernel) (by decide) (by decide +kernel) (by decide +kernel) ⟨Nat.le_of_ble_eq_true rfl, Nat.le_of_ble_eq_true rfl⟩ dX6_init_20 ?_
  refine rd_putF hX hnm ff_174 (by decide +kernel) (by decide) (by decide +kernel) dX6_init_22 ?_
  refine rd_aload_n hX dX6_init_25 rfl rfl ?_
  refine rd_iconst hX dX6_init_26 rfl ?_
  refine rd_newi hX (n := 25) (by decide +kernel) (by decide) (by decide +kernel) (by decide +kernel) ⟨Nat.le_of_ble_eq_true rfl, Nat.le_of_ble_eq_true rfl⟩ dX6_init_27 ?_
  refine rd_putF hX hnm ff_175 (by decide +kernel) (by decide) (by decide +kernel) dX6_init_29 ?_
  refine rd_aload_n hX dX6_init_32 rfl rfl ?_
  refine rd_aload_n hX dX6_init_33 rfl rfl ?_
  refine rd_putF hX hnm ff_171 (by decide +kernel) (by decide) (by decide +kernel) dX6_init_34 ?_
  refine rd_vret hX hr ?_ rfl (Nat.le_of_ble_eq_true rfl) (Nat.le_of_ble_eq_true rfl) dX6_init_37
  exact mm_ext (fun i => by
    by_cases hi : i = 21
    · subst hi
      rw [ext_1, if_pos (by decide), FR_o (kd := 6) (by decide +kernel) (by decide)]
      simp [mset_f, ext_1, ar_1, au_1, hz.1, lset_1]
      try rfl
    · simp only [mset_n hi, ext_1, ar_1, au_1, lset_1]
      try simp only [mset_f, hc0]
      repeat' split
      all_goals (first | rfl | (exfalso; omega) | exact (hz.1 i (by omega)).trans (FR_z (zr_6 i (by omega) (by omega) (by omega))).symm)) rfl)
set_option maxRecDepth 4000 in
set_option maxHeartbeats 1000000 in
theorem ct_X1_init (l : Launch) : CN0 l yX1_init cX1_init 1 3 22 180 [.inr (.inr (1, 3))] 3 26 := cn_of (by decide +kernel) (by decide) (by decide) (by decide) (fun p e s m args below meth c D ca ad sz M hX hr hnm hz => by
  refine rd_lv (lv' := [some (.inr (.inr (1, 3)))]) rfl ?_
  have hc0 : (nI 0).toNatClampNeg = 0 := nI_clamp (by decide)
  refine rd_aload_n hX dX1_init_0 rfl rfl ?_
  refine rd_objInit hX w_44 ⟨Nat.le_of_ble_eq_true rfl, Nat.le_of_ble_eq_true rfl⟩ dX1_init_1 ?_
  refine rd_aload_n hX dX1_init_4 rfl rfl ?_
  refine rd_fz fun _ hzN4 => ?_
  refine rd_new hX no_45 (n := 4) (by decide +kernel) (by decide) ⟨Nat.le_of_ble_eq_true rfl, Nat.le_of_ble_eq_true rfl⟩ dX1_init_5 ?_
  refine rd_dup hX dX1_init_8 ?_
  refine rd_callN hX (as := []) (ct_X5_init l) rfl rfl (hzN4.1 _ (Nat.le_refl _)) (by decide) mi_X5_init nw_2 ⟨⟨Nat.le_of_ble_eq_true rfl, Nat.le_of_ble_eq_true rfl⟩, Nat.le_of_ble_eq_true rfl, Nat.le_of_ble_eq_true rfl⟩ (Nat.le_of_ble_eq_true rfl) dX1_init_9 ?_
  refine rd_putF hX hnm ff_187 (by decide +kernel) (by decide) (by decide +kernel) dX1_init_12 ?_
  refine rd_aload_n hX dX1_init_15 rfl rfl ?_
  refine rd_fz fun _ hzN7 => ?_
  refine rd_new hX no_80 (n := 7) (by decide +kernel) (by decide) ⟨Nat.le_of_ble_eq_true rfl, Nat.le_of_ble_eq_true rfl⟩ dX1_init_16 ?_
  refine rd_dup hX dX1_init_19 ?_
  refine rd_callI hX (as := []) (ct_X8_init l (k := 7) (by decide +kernel)) rfl rfl (hzN7.1 _ (Nat.le_refl _)) (by decide) mi_X8_init w_82 ⟨⟨Nat.le_of_ble_eq_true rfl, Nat.le_of_ble_eq_true rfl⟩, Nat.le_of_ble_eq_true rfl, Nat.le_of_ble_eq_true rfl⟩ (Nat.le_of_ble_eq_true rfl) dX1_init_20 ?_
  refine rd_putF hX hnm ff_193 (by decide +kernel) (by decide) (by decide +kernel) dX1_init_23 ?_
  refine rd_aload_n hX dX1_init_26 rfl rfl ?_
  refine rd_fz fun _ hzN14 => ?_
  refine rd_new hX no_80 (n := 14) (by decide +kernel) (by decide) ⟨Nat.le_of_ble_eq_true rfl, Nat.le_of_ble_eq_true rfl⟩ dX1_init_27 ?_
  refine rd_dup hX dX1_init_30 ?_
  refine rd_callI hX (as := []) (ct_X8_init l (k := 14) (by decide +kernel)) rfl rfl (hzN14.1 _ (Nat.le_refl _)) (by decide) mi_X8_init w_82 ⟨⟨Nat.le_of_ble_eq_true rfl, Nat.le_of_ble_eq_true rfl⟩, Nat.le_of_ble_eq_true rfl, Nat.le_of_ble_eq_true rfl⟩ (Nat.le_of_ble_eq_true rfl) dX1_init_31 ?_
  refine rd_putF hX hnm ff_198 (by decide +kernel) (by decide) (by decide +kernel) dX1_init_34 ?_
  refine rd_aload_n hX dX1_init_37 rfl rfl ?_
  refine rd_fz fun _ hzN21 => ?_
  refine rd_new hX no_165 (n := 21) (by decide +kernel) (by decide) ⟨Nat.le_of_ble_eq_true rfl, Nat.le_of_ble_eq_true rfl⟩ dX1_init_38 ?_
  refine rd_dup hX dX1_init_41 ?_
  refine rd_aload_n hX dX1_init_42 rfl rfl ?_
  refine rd_getr hX (j := 0) (kt := 5) (k2 := 4) gl_187 (by decide +kernel) (by decide) (by decide +kernel) (by simp [mset_f, ext_1, ar_1, upd, FR3a, FR3b]) dX1_init_43 ?_
  refine rd_callI hX (as := [.inr (.inr (5, 4))]) (ct_X6_init l) rfl rfl (hzN21.1 _ (Nat.le_refl _)) (by decide) mi_X6_init w_167 ⟨⟨Nat.le_of_ble_eq_true rfl, Nat.le_of_ble_eq_true rfl⟩, Nat.le_of_ble_eq_true rfl, Nat.le_of_ble_eq_true rfl⟩ (Nat.le_of_ble_eq_true rfl) dX1_init_46 ?_
  refine rd_putF hX hnm ff_199 (by decide +kernel) (by decide) (by decide +kernel) dX1_init_49 ?_
  refine rd_vret hX hr ?_ rfl (Nat.le_of_ble_eq_true rfl) (Nat.le_of_ble_eq_true rfl) dX1_init_52
  exact mm_ext (fun i => by
    by_cases hi : i = 3
    · subst hi
      rw [ext_1, if_pos (by decide), FR_o (kd := 1) (by decide +kernel) (by decide)]
      simp [mset_f, ext_1, ar_1, au_1, hz.1, lset_1]
      try rfl
    · simp only [mset_n hi, ext_1, ar_1, au_1, lset_1]
      try simp only [mset_f, hc0]
      repeat' split
      all_goals (first | rfl | (exfalso; omega))) rfl)
theorem lp_X0 {p : Program} {l : Launch} {e : Env} {s : State} {m : MethodId} {args : Array Value} {below : List Frame} {meth : Method} {c : Code} {D : va_G} {ca : Nat → ClassId} {ad : Nat → Nat} {sz : Nat} {Qf : State → Prop} {M1 : mM} (hX : CN p s m args meth c 2 cX0_init "FairBlocks$Acts" D ca ad sz) (hfl : M1.1 26 1000 = 1) (kend : GN p l e (rmN 3 99 826) s m args below meth c 2 D ca ad sz Qf (1 + 7 * 14) (14 + 58 * 14) 50 [some (.inr (.inr (0, 26))), some (.inl (nI 14))] [] (27 + 1 + 7 * 14) (ar M1 27 14)) : ∀ t j, j + t = 14 → GN p l e (rmN 3 99 826) s m args below meth c 2 D ca ad sz Qf (1 + 7 * j) (14 + 58 * j) 25 [some (.inr (.inr (0, 26))), some (.inl (nI j))] [] (27 + 1 + 7 * j) (ar M1 27 j) := by
  have h15 : kof 27 = 15 := by decide +kernel
  have hln : ln 27 = 14 := by decide +kernel
  intro t
  induction t with
  | zero =>
    intro j hj
    have e : j = 14 := by omega
    subst e
    refine rd_iload_n hX dX0_init_25 rfl rfl ?_
    refine rd_bipush hX (v := nI 14) dX0_init_26 rfl ?_
    exact rd_icmp_ge hX dX0_init_28 (tgt := 50) (by decide) (fun _ => kend) (fun g => absurd (nI_le (Nat.le_refl 14) (by decide)) g)
  | succ t ih =>
    intro j hj
    have h8 : kof (27 + 1 + 7 * j) = 8 := okS 27 (by decide) h15 j (by omega)
    refine rd_iload_n hX dX0_init_25 rfl rfl ?_
    refine rd_bipush hX (v := nI 14) dX0_init_26 rfl ?_
    refine rd_icmp_ge hX dX0_init_28 (tgt := 50) (by decide) (fun g => absurd g (nI_ge (by omega) (by decide))) (fun _ => ?_)
    refine rd_aload_n hX dX0_init_31 rfl rfl ?_
    refine rd_getr hX (j := 0) (kt := 15) (k2 := 27) gl_223 (by decide +kernel) (by omega) (by decide +kernel) (by rw [ar_1, if_neg (by decide), if_neg (by omega)]; exact hfl) dX0_init_32 ?_
    refine rd_iload_n hX dX0_init_35 rfl rfl ?_
    refine rd_fz fun _ hzN => ?_
    refine rd_new hX no_220 h8 (by omega) ⟨by show 1 + 7 * j + 1 ≤ 99; omega, by show 14 + 58 * j + 3 ≤ 826; omega⟩ dX0_init_36 ?_
    refine rd_dup hX dX0_init_39 ?_
    refine rd_callI hX (as := []) (ct_X8_init l h8) rfl rfl (hzN.1 _ (Nat.le_refl _)) (by omega) mi_X8_init w_222 ⟨⟨Nat.le_of_ble_eq_true rfl, Nat.le_of_ble_eq_true rfl⟩, by show 1 + 7 * j + 1 + 6 ≤ 99; omega, by show 14 + 58 * j + 3 + 55 ≤ 826; omega⟩ (Nat.le_of_ble_eq_true rfl) dX0_init_40 ?_
    refine rd_aast hX (j := j) (Or.inl ⟨rfl, rfl, rfl, rfl⟩) h15 (by omega) h8 (by omega) (by omega) (by omega) dX0_init_43 ?_
    refine rd_iinc hX (by decide) dX0_init_44 rfl rfl trivial ?_
    refine rd_goto hX dX0_init_47 (tgt := 25) (by decide) ?_
    refine rd_mem ar_s (n' := 27 + 1 + 7 * (j + 1)) (by omega) ?_
    refine rd_wide (nc' := 1 + 7 * (j + 1)) (ns' := 14 + 58 * (j + 1)) (by omega) (by omega) ?_
    refine rd_lv (lv' := [some (.inr (.inr (0, 26))), some (.inl (nI (j + 1)))]) (by rw [nI_succ]; rfl) ?_
    exact ih (j + 1) (by omega)
set_option maxRecDepth 4000 in
theorem ct_X0_init (l : Launch) : CN0 l yX0_init cX0_init 2 3 99 826 [.inr (.inr (0, 26))] 26 126 := cn_of (by decide +kernel) (by decide) (by decide) (by decide) (fun p e s m args below meth c D ca ad sz M hX hr hnm hz => by
  refine rd_lv (lv' := [some (.inr (.inr (0, 26))), none]) rfl ?_
  refine rd_aload_n hX dX0_init_0 rfl rfl ?_
  refine rd_objInit hX w_219 ⟨Nat.le_of_ble_eq_true rfl, Nat.le_of_ble_eq_true rfl⟩ dX0_init_1 ?_
  refine rd_aload_n hX dX0_init_4 rfl rfl ?_
  refine rd_bipush hX (v := 14) dX0_init_5 rfl ?_
  refine rd_newq hX (n := 27) (Or.inl ⟨rfl, rfl, rfl⟩) w_220 (by decide +kernel) (by decide) (by decide +kernel) (by decide +kernel) ⟨Nat.le_of_ble_eq_true rfl, Nat.le_of_ble_eq_true rfl⟩ dX0_init_7 ?_
  refine rd_putF hX hnm ff_223 (by decide +kernel) (by decide) (by decide +kernel) dX0_init_10 ?_
  refine rd_aload_n hX dX0_init_13 rfl rfl ?_
  refine rd_iconst hX dX0_init_14 rfl ?_
  refine rd_puti hX gp_224 (by decide +kernel) (by decide) (by decide) dX0_init_15 ?_
  refine rd_aload_n hX dX0_init_18 rfl rfl ?_
  refine rd_iconst hX dX0_init_19 rfl ?_
  refine rd_puti hX gp_225 (by decide +kernel) (by decide) (by decide) dX0_init_20 ?_
  refine rd_iconst hX (v := nI 0) dX0_init_23 rfl ?_
  refine rd_istore_n hX (by decide) dX0_init_24 rfl trivial ?_
  refine rd_mem (ar_0 (a := 27) (by simp [mset_f, hz.1])) rfl ?_
  refine rd_wide (nc' := 1 + 7 * 0) (ns' := 14 + 58 * 0) (Nat.le_of_ble_eq_true rfl) (Nat.le_of_ble_eq_true rfl) ?_
  refine lp_X0 hX (by simp [mset_f, upd]) ?_ 14 0 rfl
  refine rd_vret hX hr ?_ rfl (Nat.le_of_ble_eq_true rfl) (Nat.le_of_ble_eq_true rfl) dX0_init_50
  exact mm_ext (fun i => by
    by_cases hi : i = 26
    · subst hi
      rw [ext_1, if_pos (by decide), FR_o (kd := 0) (by decide +kernel) (by decide)]
      simp [mset_f, ar_1, hz.1]
      try rfl
    · simp only [mset_n hi, ext_1, ar_1]
      repeat' split
      all_goals first | rfl | (exfalso; omega) | (have e : i = 27 := (by omega); subst e; exact (FR_a (k := 27) (kd := 15) (by decide +kernel) (Or.inl rfl)).symm)) rfl)
set_option maxRecDepth 4000 in
set_option maxHeartbeats 1000000 in
theorem ct_X4_init (l : Launch) : CN0 l yX4_init cX4_init 2 1 0 0 [.inr (.inr (4, 142)), .inr (.inr (1, 3))] 142 143 := cn_of (by decide +kernel) (by decide) (by decide) (by decide) (fun p e s m args below meth c D ca ad sz M hX hr hnm hz => by
  refine rd_lv (lv' := [some (.inr (.inr (4, 142))), some (.inr (.inr (1, 3)))]) rfl ?_
  have hc0 : (nI 0).toNatClampNeg = 0 := nI_clamp (by decide)
  refine rd_aload_n hX dX4_init_0 rfl rfl ?_
  refine rd_objInit hX w_241 ⟨Nat.le_of_ble_eq_true rfl, Nat.le_of_ble_eq_true rfl⟩ dX4_init_1 ?_
  refine rd_aload_n hX dX4_init_4 rfl rfl ?_
  refine rd_aload_n hX dX4_init_5 rfl rfl ?_
  refine rd_putF hX hnm ff_242 (by decide +kernel) (by decide) (by decide +kernel) dX4_init_6 ?_
  refine rd_vret hX hr ?_ rfl (Nat.le_of_ble_eq_true rfl) (Nat.le_of_ble_eq_true rfl) dX4_init_9
  exact mm_ext (fun i => by
    by_cases hi : i = 142
    · subst hi
      rw [ext_1, if_pos (by decide), FR_o (kd := 4) (by decide +kernel) (by decide)]
      simp [mset_f, ext_1, ar_1, au_1, hz.1, lset_1]
      try rfl
    · simp only [mset_n hi, ext_1, ar_1, au_1, lset_1]
      try simp only [mset_f, hc0]
      repeat' split
      all_goals (first | rfl | (exfalso; omega))) rfl)
set_option maxRecDepth 4000 in
set_option maxHeartbeats 1000000 in
theorem ct_X3_init (l : Launch) : CN0 l yX3_init cX3_init 2 3 7 58 [.inr (.inr (3, 143)), .inr (.inr (1, 3))] 143 151 := cn_of (by decide +kernel) (by decide) (by decide) (by decide) (fun p e s m args below meth c D ca ad sz M hX hr hnm hz => by
  refine rd_lv (lv' := [some (.inr (.inr (3, 143))), some (.inr (.inr (1, 3)))]) rfl ?_
  have hc0 : (nI 0).toNatClampNeg = 0 := nI_clamp (by decide)
  refine rd_aload_n hX dX3_init_0 rfl rfl ?_
  refine rd_objInit hX w_252 ⟨Nat.le_of_ble_eq_true rfl, Nat.le_of_ble_eq_true rfl⟩ dX3_init_1 ?_
  refine rd_aload_n hX dX3_init_4 rfl rfl ?_
  refine rd_aload_n hX dX3_init_5 rfl rfl ?_
  refine rd_putF hX hnm ff_255 (by decide +kernel) (by decide) (by decide +kernel) dX3_init_6 ?_
  refine rd_aload_n hX dX3_init_9 rfl rfl ?_
  refine rd_fz fun _ hzN144 => ?_
  refine rd_new hX no_253 (n := 144) (by decide +kernel) (by decide) ⟨Nat.le_of_ble_eq_true rfl, Nat.le_of_ble_eq_true rfl⟩ dX3_init_10 ?_
  refine rd_dup hX dX3_init_13 ?_
  refine rd_callI hX (as := []) (ct_X8_init l (k := 144) (by decide +kernel)) rfl rfl (hzN144.1 _ (Nat.le_refl _)) (by decide) mi_X8_init w_254 ⟨⟨Nat.le_of_ble_eq_true rfl, Nat.le_of_ble_eq_true rfl⟩, Nat.le_of_ble_eq_true rfl, Nat.le_of_ble_eq_true rfl⟩ (Nat.le_of_ble_eq_true rfl) dX3_init_14 ?_
  refine rd_putF hX hnm ff_256 (by decide +kernel) (by decide) (by decide +kernel) dX3_init_17 ?_
  refine rd_vret hX hr ?_ rfl (Nat.le_of_ble_eq_true rfl) (Nat.le_of_ble_eq_true rfl) dX3_init_20
  exact mm_ext (fun i => by
    by_cases hi : i = 143
    · subst hi
      rw [ext_1, if_pos (by decide), FR_o (kd := 3) (by decide +kernel) (by decide)]
      simp [mset_f, ext_1, ar_1, au_1, hz.1, lset_1]
      try rfl
    · simp only [mset_n hi, ext_1, ar_1, au_1, lset_1]
      try simp only [mset_f, hc0]
      repeat' split
      all_goals (first | rfl | (exfalso; omega))) rfl)
set_option maxRecDepth 4000 in
set_option maxHeartbeats 1000000 in
theorem ct_X7_init (l : Launch) : CN0 l yX7_init cX7_init 2 1 5 30 [.inr (.inr (7, 151)), .inr (.inr (1, 3))] 151 157 := cn_of (by decide +kernel) (by decide) (by decide) (by decide) (fun p e s m args below meth c D ca ad sz M hX hr hnm hz => by
  refine rd_lv (lv' := [some (.inr (.inr (7, 151))), some (.inr (.inr (1, 3)))]) rfl ?_
  have hc0 : (nI 0).toNatClampNeg = 0 := nI_clamp (by decide)
  refine rd_aload_n hX dX7_init_0 rfl rfl ?_
  refine rd_objInit hX w_267 ⟨Nat.le_of_ble_eq_true rfl, Nat.le_of_ble_eq_true rfl⟩ dX7_init_1 ?_
  refine rd_aload_n hX dX7_init_4 rfl rfl ?_
  refine rd_bipush hX (v := 6) dX7_init_5 rfl ?_
  refine rd_newi hX (n := 152) (by decide +kernel) (by decide) (by decide +kernel) (by decide +kernel) ⟨Nat.le_of_ble_eq_true rfl, Nat.le_of_ble_eq_true rfl⟩ dX7_init_7 ?_
  refine rd_putF hX hnm ff_269 (by decide +kernel) (by decide) (by decide +kernel) dX7_init_9 ?_
  refine rd_aload_n hX dX7_init_12 rfl rfl ?_
  refine rd_bipush hX (v := 6) dX7_init_13 rfl ?_
  refine rd_newi hX (n := 153) (by decide +kernel) (by decide) (by decide +kernel) (by decide +kernel) ⟨Nat.le_of_ble_eq_true rfl, Nat.le_of_ble_eq_true rfl⟩ dX7_init_15 ?_
  refine rd_putF hX hnm ff_270 (by decide +kernel) (by decide) (by decide +kernel) dX7_init_17 ?_
  refine rd_aload_n hX dX7_init_20 rfl rfl ?_
  refine rd_bipush hX (v := 6) dX7_init_21 rfl ?_
  refine rd_newi hX (n := 154) (by decide +kernel) (by decide) (by decide +kernel) (by decide +kernel) ⟨Nat.le_of_ble_eq_true rfl, Nat.le_of_ble_eq_true rfl⟩ dX7_init_23 ?_
  refine rd_putF hX hnm ff_271 (by decide +kernel) (by decide) (by decide +kernel) dX7_init_25 ?_
  refine rd_aload_n hX dX7_init_28 rfl rfl ?_
  refine rd_bipush hX (v := 6) dX7_init_29 rfl ?_
  refine rd_newi hX (n := 155) (by decide +kernel) (by decide) (by decide +kernel) (by decide +kernel) ⟨Nat.le_of_ble_eq_true rfl, Nat.le_of_ble_eq_true rfl⟩ dX7_init_31 ?_
  refine rd_putF hX hnm ff_272 (by decide +kernel) (by decide) (by decide +kernel) dX7_init_33 ?_
  refine rd_aload_n hX dX7_init_36 rfl rfl ?_
  refine rd_bipush hX (v := 6) dX7_init_37 rfl ?_
  refine rd_newi hX (n := 156) (by decide +kernel) (by decide) (by decide +kernel) (by decide +kernel) ⟨Nat.le_of_ble_eq_true rfl, Nat.le_of_ble_eq_true rfl⟩ dX7_init_39 ?_
  refine rd_putF hX hnm ff_273 (by decide +kernel) (by decide) (by decide +kernel) dX7_init_41 ?_
  refine rd_aload_n hX dX7_init_44 rfl rfl ?_
  refine rd_iconst hX dX7_init_45 rfl ?_
  refine rd_puti hX gp_274 (by decide +kernel) (by decide) (by decide) dX7_init_46 ?_
  refine rd_aload_n hX dX7_init_49 rfl rfl ?_
  refine rd_aload_n hX dX7_init_50 rfl rfl ?_
  refine rd_putF hX hnm ff_268 (by decide +kernel) (by decide) (by decide +kernel) dX7_init_51 ?_
  refine rd_vret hX hr ?_ rfl (Nat.le_of_ble_eq_true rfl) (Nat.le_of_ble_eq_true rfl) dX7_init_54
  exact mm_ext (fun i => by
    by_cases hi : i = 151
    · subst hi
      rw [ext_1, if_pos (by decide), FR_o (kd := 7) (by decide +kernel) (by decide)]
      simp [mset_f, ext_1, ar_1, au_1, hz.1, lset_1]
      try rfl
    · simp only [mset_n hi, ext_1, ar_1, au_1, lset_1]
      try simp only [mset_f, hc0]
      repeat' split
      all_goals (first | rfl | (exfalso; omega) | exact (hz.1 i (by omega)).trans (FR_z (zr_7 i (by omega) (by omega) (by omega))).symm)) rfl)
set_option maxRecDepth 4000 in
set_option maxHeartbeats 1000000 in
theorem ct_X2_init (l : Launch) : CN0 l yX2_init cX2_init 2 1 0 0 [.inr (.inr (2, 157)), .inr (.inr (1, 3))] 157 158 := cn_of (by decide +kernel) (by decide) (by decide) (by decide) (fun p e s m args below meth c D ca ad sz M hX hr hnm hz => by
  refine rd_lv (lv' := [some (.inr (.inr (2, 157))), some (.inr (.inr (1, 3)))]) rfl ?_
  have hc0 : (nI 0).toNatClampNeg = 0 := nI_clamp (by decide)
  refine rd_aload_n hX dX2_init_0 rfl rfl ?_
  refine rd_objInit hX w_296 ⟨Nat.le_of_ble_eq_true rfl, Nat.le_of_ble_eq_true rfl⟩ dX2_init_1 ?_
  refine rd_aload_n hX dX2_init_4 rfl rfl ?_
  refine rd_aload_n hX dX2_init_5 rfl rfl ?_
  refine rd_putF hX hnm ff_297 (by decide +kernel) (by decide) (by decide +kernel) dX2_init_6 ?_
  refine rd_vret hX hr ?_ rfl (Nat.le_of_ble_eq_true rfl) (Nat.le_of_ble_eq_true rfl) dX2_init_9
  exact mm_ext (fun i => by
    by_cases hi : i = 157
    · subst hi
      rw [ext_1, if_pos (by decide), FR_o (kd := 2) (by decide +kernel) (by decide)]
      simp [mset_f, ext_1, ar_1, au_1, hz.1, lset_1]
      try rfl
    · simp only [mset_n hi, ext_1, ar_1, au_1, lset_1]
      try simp only [mset_f, hc0]
      repeat' split
      all_goals (first | rfl | (exfalso; omega))) rfl)
theorem lp_X11 {p : Program} {l : Launch} {e : Env} {s : State} {m : MethodId} {args : Array Value} {below : List Frame} {meth : Method} {c : Code} {D : va_G} {ca : Nat → ClassId} {ad : Nat → Nat} {sz : Nat} {Qf : State → Prop} {M1 : mM} (hX : CN p s m args meth c 2 cX11_init "FairBlocks" D ca ad sz) (hfl : M1.1 0 1005 = 1) (kend : GN p l e (rmN 4 157 1314) s m args below meth c 2 D ca ad sz Qf (126 + 7 * 2) (1097 + 58 * 2) 93 [some (.inr (.inr (11, 0))), some (.inl (nI 2))] [] (126 + 1 + 7 * 2) (ar M1 126 2)) : ∀ t j, j + t = 2 → GN p l e (rmN 4 157 1314) s m args below meth c 2 D ca ad sz Qf (126 + 7 * j) (1097 + 58 * j) 69 [some (.inr (.inr (11, 0))), some (.inl (nI j))] [] (126 + 1 + 7 * j) (ar M1 126 j) := by
  have h15 : kof 126 = 15 := by decide +kernel
  have hln : ln 126 = 2 := by decide +kernel
  intro t
  induction t with
  | zero =>
    intro j hj
    have e : j = 2 := by omega
    subst e
    refine rd_iload_n hX dX11_init_69 rfl rfl ?_
    refine rd_iconst hX (v := nI 2) dX11_init_70 rfl ?_
    exact rd_icmp_ge hX dX11_init_71 (tgt := 93) (by decide) (fun _ => kend) (fun g => absurd (nI_le (Nat.le_refl 2) (by decide)) g)
  | succ t ih =>
    intro j hj
    have h8 : kof (126 + 1 + 7 * j) = 8 := okS 126 (by decide) h15 j (by omega)
    refine rd_iload_n hX dX11_init_69 rfl rfl ?_
    refine rd_iconst hX (v := nI 2) dX11_init_70 rfl ?_
    refine rd_icmp_ge hX dX11_init_71 (tgt := 93) (by decide) (fun g => absurd g (nI_ge (by omega) (by decide))) (fun _ => ?_)
    refine rd_aload_n hX dX11_init_74 rfl rfl ?_
    refine rd_getr hX (j := 5) (kt := 15) (k2 := 126) gl_306 (by decide +kernel) (by omega) (by decide +kernel) (by rw [ar_1, if_neg (by decide), if_neg (by omega)]; exact hfl) dX11_init_75 ?_
    refine rd_iload_n hX dX11_init_78 rfl rfl ?_
    refine rd_fz fun _ hzN => ?_
    refine rd_new hX no_234 h8 (by omega) ⟨by show 126 + 7 * j + 1 ≤ 157; omega, by show 1097 + 58 * j + 3 ≤ 1314; omega⟩ dX11_init_79 ?_
    refine rd_dup hX dX11_init_82 ?_
    refine rd_callI hX (as := []) (ct_X8_init l h8) rfl rfl (hzN.1 _ (Nat.le_refl _)) (by omega) mi_X8_init w_235 ⟨⟨Nat.le_of_ble_eq_true rfl, Nat.le_of_ble_eq_true rfl⟩, by show 126 + 7 * j + 1 + 6 ≤ 157; omega, by show 1097 + 58 * j + 3 + 55 ≤ 1314; omega⟩ (Nat.le_of_ble_eq_true rfl) dX11_init_83 ?_
    refine rd_aast hX (j := j) (Or.inl ⟨rfl, rfl, rfl, rfl⟩) h15 (by omega) h8 (by omega) (by omega) (by omega) dX11_init_86 ?_
    refine rd_iinc hX (by decide) dX11_init_87 rfl rfl trivial ?_
    refine rd_goto hX dX11_init_90 (tgt := 69) (by decide) ?_
    refine rd_mem ar_s (n' := 126 + 1 + 7 * (j + 1)) (by omega) ?_
    refine rd_wide (nc' := 126 + 7 * (j + 1)) (ns' := 1097 + 58 * (j + 1)) (by omega) (by omega) ?_
    refine rd_lv (lv' := [some (.inr (.inr (11, 0))), some (.inl (nI (j + 1)))]) (by rw [nI_succ]; rfl) ?_
    exact ih (j + 1) (by omega)
set_option maxRecDepth 4000 in
set_option maxHeartbeats 1000000 in
theorem ct_X11_init (l : Launch) : CN0 l yX11_init cX11_init 2 4 157 1314 [.inr (.inr (11, 0))] 0 158 := cn_of (by decide +kernel) (by decide) (by decide) (by decide) (fun p e s m args below meth c D ca ad sz M hX hr hnm hz => by
  have hc0 : (nI 0).toNatClampNeg = 0 := nI_clamp (by decide)
  refine rd_lv (lv' := [some (.inr (.inr (11, 0))), none]) rfl ?_
  refine rd_aload_n hX dX11_init_0 rfl rfl ?_
  refine rd_objInit hX w_21 ⟨Nat.le_of_ble_eq_true rfl, Nat.le_of_ble_eq_true rfl⟩ dX11_init_1 ?_
  refine rd_aload_n hX dX11_init_4 rfl rfl ?_
  refine rd_fz fun _ hzN1 => ?_
  refine rd_new hX no_24 (n := 1) (by decide +kernel) (by decide) ⟨Nat.le_of_ble_eq_true rfl, Nat.le_of_ble_eq_true rfl⟩ dX11_init_5 ?_
  refine rd_dup hX dX11_init_8 ?_
  refine rd_callN hX (as := []) (ct_X9_init l) rfl rfl (hzN1.1 _ (Nat.le_refl _)) (by decide) mi_X9_init nw_0 ⟨⟨Nat.le_of_ble_eq_true rfl, Nat.le_of_ble_eq_true rfl⟩, Nat.le_of_ble_eq_true rfl, Nat.le_of_ble_eq_true rfl⟩ (Nat.le_of_ble_eq_true rfl) dX11_init_9 ?_
  refine rd_putF hX hnm ff_301 (by decide +kernel) (by decide) (by decide +kernel) dX11_init_12 ?_
  refine rd_aload_n hX dX11_init_15 rfl rfl ?_
  refine rd_fz fun _ hzN3 => ?_
  refine rd_new hX no_39 (n := 3) (by decide +kernel) (by decide) ⟨Nat.le_of_ble_eq_true rfl, Nat.le_of_ble_eq_true rfl⟩ dX11_init_16 ?_
  refine rd_dup hX dX11_init_19 ?_
  refine rd_callN hX (as := []) (ct_X1_init l) rfl rfl (hzN3.1 _ (Nat.le_refl _)) (by decide) mi_X1_init nw_1 ⟨⟨Nat.le_of_ble_eq_true rfl, Nat.le_of_ble_eq_true rfl⟩, Nat.le_of_ble_eq_true rfl, Nat.le_of_ble_eq_true rfl⟩ (Nat.le_of_ble_eq_true rfl) dX11_init_20 ?_
  refine rd_putF hX hnm ff_302 (by decide +kernel) (by decide) (by decide +kernel) dX11_init_23 ?_
  refine rd_aload_n hX dX11_init_26 rfl rfl ?_
  refine rd_aload_n hX dX11_init_27 rfl rfl ?_
  refine rd_getr hX (j := 1) (kt := 1) (k2 := 3) gl_302 (by decide +kernel) (by decide) (by decide +kernel) (by simp [mset_f, ext_1, ar_1, upd, FR3a, FR3b]) dX11_init_28 ?_
  refine rd_getr hX (j := 0) (kt := 5) (k2 := 4) gl_188 (by decide +kernel) (by decide) (by decide +kernel) (by simp [mset_f, ext_1, ar_1, upd, FR3a, FR3b]) dX11_init_31 ?_
  refine rd_putF hX hnm ff_303 (by decide +kernel) (by decide) (by decide +kernel) dX11_init_34 ?_
  refine rd_aload_n hX dX11_init_37 rfl rfl ?_
  refine rd_aload_n hX dX11_init_38 rfl rfl ?_
  refine rd_getr hX (j := 1) (kt := 1) (k2 := 3) gl_302 (by decide +kernel) (by decide) (by decide +kernel) (by simp [mset_f, ext_1, ar_1, upd, FR3a, FR3b]) dX11_init_39 ?_
  refine rd_getr hX (j := 1) (kt := 8) (k2 := 7) gl_194 (by decide +kernel) (by decide) (by decide +kernel) (by simp [mset_f, ext_1, ar_1, upd, FR3a, FR3b]) dX11_init_42 ?_
  refine rd_putF hX hnm ff_304 (by decide +kernel) (by decide) (by decide +kernel) dX11_init_45 ?_
  refine rd_aload_n hX dX11_init_48 rfl rfl ?_
  refine rd_fz fun _ hzN26 => ?_
  refine rd_new hX no_214 (n := 26) (by decide +kernel) (by decide) ⟨Nat.le_of_ble_eq_true rfl, Nat.le_of_ble_eq_true rfl⟩ dX11_init_49 ?_
  refine rd_dup hX dX11_init_52 ?_
  refine rd_callI hX (as := []) (ct_X0_init l) rfl rfl (hzN26.1 _ (Nat.le_refl _)) (by decide) mi_X0_init w_216 ⟨⟨Nat.le_of_ble_eq_true rfl, Nat.le_of_ble_eq_true rfl⟩, Nat.le_of_ble_eq_true rfl, Nat.le_of_ble_eq_true rfl⟩ (Nat.le_of_ble_eq_true rfl) dX11_init_53 ?_
  refine rd_putF hX hnm ff_305 (by decide +kernel) (by decide) (by decide +kernel) dX11_init_56 ?_
  refine rd_aload_n hX dX11_init_59 rfl rfl ?_
  refine rd_iconst hX dX11_init_60 rfl ?_
  refine rd_newq hX (n := 126) (Or.inl ⟨rfl, rfl, rfl⟩) w_234 (by decide +kernel) (by decide) (by decide +kernel) (by decide +kernel) ⟨Nat.le_of_ble_eq_true rfl, Nat.le_of_ble_eq_true rfl⟩ dX11_init_61 ?_
  refine rd_putF hX hnm ff_306 (by decide +kernel) (by decide) (by decide +kernel) dX11_init_64 ?_
  refine rd_iconst hX (v := nI 0) dX11_init_67 rfl ?_
  refine rd_istore_n hX (by decide) dX11_init_68 rfl trivial ?_
  refine rd_mem (ar_0 (a := 126) (by simp [mset_f, ext_1, hz.1])) rfl ?_
  refine rd_wide (nc' := 126 + 7 * 0) (ns' := 1097 + 58 * 0) (Nat.le_of_ble_eq_true rfl) (Nat.le_of_ble_eq_true rfl) ?_
  refine lp_X11 hX (by simp [mset_f, ext_1, upd]) ?_ 2 0 rfl
  refine rd_mem rfl (n' := 141) rfl ?_
  refine rd_aload_n hX dX11_init_93 rfl rfl ?_
  refine rd_iconst hX dX11_init_94 rfl ?_
  refine rd_newz hX (n := 141) (by decide +kernel) (by decide) (by decide +kernel) (by decide +kernel) w_246 ⟨Nat.le_of_ble_eq_true rfl, Nat.le_of_ble_eq_true rfl⟩ dX11_init_95 ?_
  refine rd_putF hX hnm ff_307 (by decide +kernel) (by decide) (by decide +kernel) dX11_init_97 ?_
  refine rd_aload_n hX dX11_init_100 rfl rfl ?_
  refine rd_fz fun _ hzN142 => ?_
  refine rd_new hX no_236 (n := 142) (by decide +kernel) (by decide) ⟨Nat.le_of_ble_eq_true rfl, Nat.le_of_ble_eq_true rfl⟩ dX11_init_101 ?_
  refine rd_dup hX dX11_init_104 ?_
  refine rd_aload_n hX dX11_init_105 rfl rfl ?_
  refine rd_getr hX (j := 1) (kt := 1) (k2 := 3) gl_302 (by decide +kernel) (by decide) (by decide +kernel) (by simp [mset_f, ext_1, ar_1, upd, FR3a, FR3b]) dX11_init_106 ?_
  refine rd_callI hX (as := [.inr (.inr (1, 3))]) (ct_X4_init l) rfl rfl (hzN142.1 _ (Nat.le_refl _)) (by decide) mi_X4_init w_238 ⟨⟨Nat.le_of_ble_eq_true rfl, Nat.le_of_ble_eq_true rfl⟩, Nat.le_of_ble_eq_true rfl, Nat.le_of_ble_eq_true rfl⟩ (Nat.le_of_ble_eq_true rfl) dX11_init_109 ?_
  refine rd_putF hX hnm ff_308 (by decide +kernel) (by decide) (by decide +kernel) dX11_init_112 ?_
  refine rd_aload_n hX dX11_init_115 rfl rfl ?_
  refine rd_fz fun _ hzN143 => ?_
  refine rd_new hX no_247 (n := 143) (by decide +kernel) (by decide) ⟨Nat.le_of_ble_eq_true rfl, Nat.le_of_ble_eq_true rfl⟩ dX11_init_116 ?_
  refine rd_dup hX dX11_init_119 ?_
  refine rd_aload_n hX dX11_init_120 rfl rfl ?_
  refine rd_getr hX (j := 1) (kt := 1) (k2 := 3) gl_302 (by decide +kernel) (by decide) (by decide +kernel) (by simp [mset_f, ext_1, ar_1, upd, FR3a, FR3b]) dX11_init_121 ?_
  refine rd_callI hX (as := [.inr (.inr (1, 3))]) (ct_X3_init l) rfl rfl (hzN143.1 _ (Nat.le_refl _)) (by decide) mi_X3_init w_249 ⟨⟨Nat.le_of_ble_eq_true rfl, Nat.le_of_ble_eq_true rfl⟩, Nat.le_of_ble_eq_true rfl, Nat.le_of_ble_eq_true rfl⟩ (Nat.le_of_ble_eq_true rfl) dX11_init_124 ?_
  refine rd_putF hX hnm ff_309 (by decide +kernel) (by decide) (by decide +kernel) dX11_init_127 ?_
  refine rd_aload_n hX dX11_init_130 rfl rfl ?_
  refine rd_fz fun _ hzN151 => ?_
  refine rd_new hX no_262 (n := 151) (by decide +kernel) (by decide) ⟨Nat.le_of_ble_eq_true rfl, Nat.le_of_ble_eq_true rfl⟩ dX11_init_131 ?_
  refine rd_dup hX dX11_init_134 ?_
  refine rd_aload_n hX dX11_init_135 rfl rfl ?_
  refine rd_getr hX (j := 1) (kt := 1) (k2 := 3) gl_302 (by decide +kernel) (by decide) (by decide +kernel) (by simp [mset_f, ext_1, ar_1, upd, FR3a, FR3b]) dX11_init_136 ?_
  refine rd_callI hX (as := [.inr (.inr (1, 3))]) (ct_X7_init l) rfl rfl (hzN151.1 _ (Nat.le_refl _)) (by decide) mi_X7_init w_264 ⟨⟨Nat.le_of_ble_eq_true rfl, Nat.le_of_ble_eq_true rfl⟩, Nat.le_of_ble_eq_true rfl, Nat.le_of_ble_eq_true rfl⟩ (Nat.le_of_ble_eq_true rfl) dX11_init_139 ?_
  refine rd_putF hX hnm ff_310 (by decide +kernel) (by decide) (by decide +kernel) dX11_init_142 ?_
  refine rd_aload_n hX dX11_init_145 rfl rfl ?_
  refine rd_fz fun _ hzN157 => ?_
  refine rd_new hX no_291 (n := 157) (by decide +kernel) (by decide) ⟨Nat.le_of_ble_eq_true rfl, Nat.le_of_ble_eq_true rfl⟩ dX11_init_146 ?_
  refine rd_dup hX dX11_init_149 ?_
  refine rd_aload_n hX dX11_init_150 rfl rfl ?_
  refine rd_getr hX (j := 1) (kt := 1) (k2 := 3) gl_302 (by decide +kernel) (by decide) (by decide +kernel) (by simp [mset_f, ext_1, ar_1, upd, FR3a, FR3b]) dX11_init_151 ?_
  refine rd_callI hX (as := [.inr (.inr (1, 3))]) (ct_X2_init l) rfl rfl (hzN157.1 _ (Nat.le_refl _)) (by decide) mi_X2_init w_293 ⟨⟨Nat.le_of_ble_eq_true rfl, Nat.le_of_ble_eq_true rfl⟩, Nat.le_of_ble_eq_true rfl, Nat.le_of_ble_eq_true rfl⟩ (Nat.le_of_ble_eq_true rfl) dX11_init_154 ?_
  refine rd_putF hX hnm ff_311 (by decide +kernel) (by decide) (by decide +kernel) dX11_init_157 ?_
  refine rd_aload_n hX dX11_init_160 rfl rfl ?_
  refine rd_lconst hX (v := 0) dX11_init_161 rfl ?_
  refine rd_putl hX gp_312 l1_11 (by decide +kernel) (by decide) dX11_init_162 ?_
  refine rd_vret hX hr ?_ rfl (Nat.le_of_ble_eq_true rfl) (Nat.le_of_ble_eq_true rfl) dX11_init_165
  exact mm_ext (fun i => by
    by_cases hi : i = 0
    · subst hi
      rw [ext_1, if_pos (by decide), FR_o (kd := 11) (by decide +kernel) (by decide)]
      simp [mset_f, ext_1, ar_1, au_1, hz.1, lset_1]
      try rfl
    · simp only [mset_n hi, ext_1, ar_1, au_1, lset_1]
      try simp only [mset_f, hc0]
      repeat' split
      all_goals (first | rfl | (exfalso; omega) | (have e : i = 126 := (by omega); subst e; exact (FR_a (k := 126) (kd := 15) (by decide +kernel) (Or.inl rfl)).symm) | exact (hz.1 i (by omega)).trans (FR_z (zr_11 i (by omega) (by omega) (by omega))).symm)) (by show (fun a => if a = 0 then (0 : Int64) else M.2 a) = M.2; rw [hz.2]; funext a; split <;> rfl))
set_option maxRecDepth 4000 in
set_option maxHeartbeats 1000000 in
theorem ct_X12_init (l : Launch) : CN0 l yX12_init cX12_init 1 1 19 1231 [.inr (.inr (12, 158))] 158 178 := cn_of (by decide +kernel) (by decide) (by decide) (by decide) (fun p e s m args below meth c D ca ad sz M hX hr hnm hz => by
  refine rd_lv (lv' := [some (.inr (.inr (12, 158)))]) rfl ?_
  have hc0 : (nI 0).toNatClampNeg = 0 := nI_clamp (by decide)
  refine rd_aload_n hX dX12_init_0 rfl rfl ?_
  refine rd_objInit hX w_722 ⟨Nat.le_of_ble_eq_true rfl, Nat.le_of_ble_eq_true rfl⟩ dX12_init_1 ?_
  refine rd_aload_n hX dX12_init_4 rfl rfl ?_
  refine rd_bipush hX (v := 80) dX12_init_5 rfl ?_
  refine rd_newi hX (n := 159) (by decide +kernel) (by decide) (by decide +kernel) (by decide +kernel) ⟨Nat.le_of_ble_eq_true rfl, Nat.le_of_ble_eq_true rfl⟩ dX12_init_7 ?_
  refine rd_putF hX hnm ff_724 (by decide +kernel) (by decide) (by decide +kernel) dX12_init_9 ?_
  refine rd_aload_n hX dX12_init_12 rfl rfl ?_
  refine rd_iconst hX dX12_init_13 rfl ?_
  refine rd_puti hX gp_727 (by decide +kernel) (by decide) (by decide) dX12_init_14 ?_
  refine rd_aload_n hX dX12_init_17 rfl rfl ?_
  refine rd_iconst hX dX12_init_18 rfl ?_
  refine rd_puti hX gp_728 (by decide +kernel) (by decide) (by decide) dX12_init_19 ?_
  refine rd_aload_n hX dX12_init_22 rfl rfl ?_
  refine rd_bipush hX (v := 30) dX12_init_23 rfl ?_
  refine rd_newi hX (n := 160) (by decide +kernel) (by decide) (by decide +kernel) (by decide +kernel) ⟨Nat.le_of_ble_eq_true rfl, Nat.le_of_ble_eq_true rfl⟩ dX12_init_25 ?_
  refine rd_putF hX hnm ff_730 (by decide +kernel) (by decide) (by decide +kernel) dX12_init_27 ?_
  refine rd_aload_n hX dX12_init_30 rfl rfl ?_
  refine rd_iconst hX dX12_init_31 rfl ?_
  refine rd_newi hX (n := 161) (by decide +kernel) (by decide) (by decide +kernel) (by decide +kernel) ⟨Nat.le_of_ble_eq_true rfl, Nat.le_of_ble_eq_true rfl⟩ dX12_init_32 ?_
  refine rd_putF hX hnm ff_731 (by decide +kernel) (by decide) (by decide +kernel) dX12_init_34 ?_
  refine rd_aload_n hX dX12_init_37 rfl rfl ?_
  refine rd_bipush hX (v := 30) dX12_init_38 rfl ?_
  refine rd_newi hX (n := 162) (by decide +kernel) (by decide) (by decide +kernel) (by decide +kernel) ⟨Nat.le_of_ble_eq_true rfl, Nat.le_of_ble_eq_true rfl⟩ dX12_init_40 ?_
  refine rd_putF hX hnm ff_736 (by decide +kernel) (by decide) (by decide +kernel) dX12_init_42 ?_
  refine rd_aload_n hX dX12_init_45 rfl rfl ?_
  refine rd_iconst hX dX12_init_46 rfl ?_
  refine rd_newi hX (n := 163) (by decide +kernel) (by decide) (by decide +kernel) (by decide +kernel) ⟨Nat.le_of_ble_eq_true rfl, Nat.le_of_ble_eq_true rfl⟩ dX12_init_47 ?_
  refine rd_putF hX hnm ff_737 (by decide +kernel) (by decide) (by decide +kernel) dX12_init_49 ?_
  refine rd_aload_n hX dX12_init_52 rfl rfl ?_
  refine rd_bipush hX (v := 52) dX12_init_53 rfl ?_
  refine rd_newi hX (n := 164) (by decide +kernel) (by decide) (by decide +kernel) (by decide +kernel) ⟨Nat.le_of_ble_eq_true rfl, Nat.le_of_ble_eq_true rfl⟩ dX12_init_55 ?_
  refine rd_putF hX hnm ff_738 (by decide +kernel) (by decide) (by decide +kernel) dX12_init_57 ?_
  refine rd_aload_n hX dX12_init_60 rfl rfl ?_
  refine rd_bipush hX (v := 52) dX12_init_61 rfl ?_
  refine rd_newi hX (n := 165) (by decide +kernel) (by decide) (by decide +kernel) (by decide +kernel) ⟨Nat.le_of_ble_eq_true rfl, Nat.le_of_ble_eq_true rfl⟩ dX12_init_63 ?_
  refine rd_putF hX hnm ff_739 (by decide +kernel) (by decide) (by decide +kernel) dX12_init_65 ?_
  refine rd_aload_n hX dX12_init_68 rfl rfl ?_
  refine rd_bipush hX (v := 52) dX12_init_69 rfl ?_
  refine rd_newi hX (n := 166) (by decide +kernel) (by decide) (by decide +kernel) (by decide +kernel) ⟨Nat.le_of_ble_eq_true rfl, Nat.le_of_ble_eq_true rfl⟩ dX12_init_71 ?_
  refine rd_putF hX hnm ff_740 (by decide +kernel) (by decide) (by decide +kernel) dX12_init_73 ?_
  refine rd_aload_n hX dX12_init_76 rfl rfl ?_
  refine rd_bipush hX (v := 52) dX12_init_77 rfl ?_
  refine rd_newi hX (n := 167) (by decide +kernel) (by decide) (by decide +kernel) (by decide +kernel) ⟨Nat.le_of_ble_eq_true rfl, Nat.le_of_ble_eq_true rfl⟩ dX12_init_79 ?_
  refine rd_putF hX hnm ff_741 (by decide +kernel) (by decide) (by decide +kernel) dX12_init_81 ?_
  refine rd_aload_n hX dX12_init_84 rfl rfl ?_
  refine rd_sipush hX dX12_init_85 rfl ?_
  refine rd_newi hX (n := 168) (by decide +kernel) (by decide) (by decide +kernel) (by decide +kernel) ⟨Nat.le_of_ble_eq_true rfl, Nat.le_of_ble_eq_true rfl⟩ dX12_init_88 ?_
  refine rd_putF hX hnm ff_742 (by decide +kernel) (by decide) (by decide +kernel) dX12_init_90 ?_
  refine rd_aload_n hX dX12_init_93 rfl rfl ?_
  refine rd_bipush hX (v := 104) dX12_init_94 rfl ?_
  refine rd_newi hX (n := 169) (by decide +kernel) (by decide) (by decide +kernel) (by decide +kernel) ⟨Nat.le_of_ble_eq_true rfl, Nat.le_of_ble_eq_true rfl⟩ dX12_init_96 ?_
  refine rd_putF hX hnm ff_744 (by decide +kernel) (by decide) (by decide +kernel) dX12_init_98 ?_
  refine rd_aload_n hX dX12_init_101 rfl rfl ?_
  refine rd_iconst hX dX12_init_102 rfl ?_
  refine rd_newz hX (n := 170) (by decide +kernel) (by decide) (by decide +kernel) (by decide +kernel) w_246 ⟨Nat.le_of_ble_eq_true rfl, Nat.le_of_ble_eq_true rfl⟩ dX12_init_103 ?_
  refine rd_putF hX hnm ff_745 (by decide +kernel) (by decide) (by decide +kernel) dX12_init_105 ?_
  refine rd_aload_n hX dX12_init_108 rfl rfl ?_
  refine rd_bipush hX (v := 6) dX12_init_109 rfl ?_
  refine rd_newi hX (n := 171) (by decide +kernel) (by decide) (by decide +kernel) (by decide +kernel) ⟨Nat.le_of_ble_eq_true rfl, Nat.le_of_ble_eq_true rfl⟩ dX12_init_111 ?_
  refine rd_putF hX hnm ff_747 (by decide +kernel) (by decide) (by decide +kernel) dX12_init_113 ?_
  refine rd_aload_n hX dX12_init_116 rfl rfl ?_
  refine rd_bipush hX (v := 6) dX12_init_117 rfl ?_
  refine rd_newi hX (n := 172) (by decide +kernel) (by decide) (by decide +kernel) (by decide +kernel) ⟨Nat.le_of_ble_eq_true rfl, Nat.le_of_ble_eq_true rfl⟩ dX12_init_119 ?_
  refine rd_putF hX hnm ff_748 (by decide +kernel) (by decide) (by decide +kernel) dX12_init_121 ?_
  refine rd_aload_n hX dX12_init_124 rfl rfl ?_
  refine rd_bipush hX (v := 6) dX12_init_125 rfl ?_
  refine rd_newi hX (n := 173) (by decide +kernel) (by decide) (by decide +kernel) (by decide +kernel) ⟨Nat.le_of_ble_eq_true rfl, Nat.le_of_ble_eq_true rfl⟩ dX12_init_127 ?_
  refine rd_putF hX hnm ff_749 (by decide +kernel) (by decide) (by decide +kernel) dX12_init_129 ?_
  refine rd_aload_n hX dX12_init_132 rfl rfl ?_
  refine rd_bipush hX (v := 6) dX12_init_133 rfl ?_
  refine rd_newi hX (n := 174) (by decide +kernel) (by decide) (by decide +kernel) (by decide +kernel) ⟨Nat.le_of_ble_eq_true rfl, Nat.le_of_ble_eq_true rfl⟩ dX12_init_135 ?_
  refine rd_putF hX hnm ff_750 (by decide +kernel) (by decide) (by decide +kernel) dX12_init_137 ?_
  refine rd_aload_n hX dX12_init_140 rfl rfl ?_
  refine rd_bipush hX (v := 6) dX12_init_141 rfl ?_
  refine rd_newi hX (n := 175) (by decide +kernel) (by decide) (by decide +kernel) (by decide +kernel) ⟨Nat.le_of_ble_eq_true rfl, Nat.le_of_ble_eq_true rfl⟩ dX12_init_143 ?_
  refine rd_putF hX hnm ff_751 (by decide +kernel) (by decide) (by decide +kernel) dX12_init_145 ?_
  refine rd_aload_n hX dX12_init_148 rfl rfl ?_
  refine rd_iconst hX dX12_init_149 rfl ?_
  refine rd_newi hX (n := 176) (by decide +kernel) (by decide) (by decide +kernel) (by decide +kernel) ⟨Nat.le_of_ble_eq_true rfl, Nat.le_of_ble_eq_true rfl⟩ dX12_init_150 ?_
  refine rd_putF hX hnm ff_753 (by decide +kernel) (by decide) (by decide +kernel) dX12_init_152 ?_
  refine rd_aload_n hX dX12_init_155 rfl rfl ?_
  refine rd_iconst hX dX12_init_156 rfl ?_
  refine rd_newi hX (n := 177) (by decide +kernel) (by decide) (by decide +kernel) (by decide +kernel) ⟨Nat.le_of_ble_eq_true rfl, Nat.le_of_ble_eq_true rfl⟩ dX12_init_157 ?_
  refine rd_putF hX hnm ff_754 (by decide +kernel) (by decide) (by decide +kernel) dX12_init_159 ?_
  refine rd_aload_n hX dX12_init_162 rfl rfl ?_
  refine rd_getr hX (j := 30) (kt := 13) (k2 := 176) gl_753 (by decide +kernel) (by decide) (by decide +kernel) (by simp [mset_f, ext_1, ar_1, upd, FR3a, FR3b]) dX12_init_163 ?_
  refine rd_iconst hX (v := nI 0) dX12_init_166 rfl ?_
  refine rd_bipush hX (v := -9) dX12_init_167 rfl ?_
  refine rd_iast hX (by decide +kernel) (by decide) (nI_in (by decide +kernel) (by decide)) dX12_init_169 ?_
  refine rd_vret hX hr ?_ rfl (Nat.le_of_ble_eq_true rfl) (Nat.le_of_ble_eq_true rfl) dX12_init_170
  exact mm_ext (fun i => by
    by_cases hi : i = 158
    · subst hi
      rw [ext_1, if_pos (by decide), FR_o (kd := 12) (by decide +kernel) (by decide)]
      simp [mset_f, ext_1, ar_1, au_1, hz.1, lset_1]
      try rfl
    · rw [mset_f]
      simp only [mset_n hi, mset_n (show (176 : Nat) ≠ 158 by decide), hc0, ext_1, ar_1, au_1, lset_1]
      try simp only [mset_f, hc0]
      repeat' split
      all_goals (first | rfl | (exfalso; omega) | (have e : i = 176 := (by omega); subst e; rw [hz.1 _ (by decide)]; rfl) | exact (hz.1 i (by omega)).trans (FR_z (zr_12 i (by omega) (by omega) (by omega))).symm)) rfl)

theorem dX0_init_0 : decode cX0_init 0 = .ok (.aload_n 0, 1) := by decide +kernel
theorem dX0_init_1 : decode cX0_init 1 = .ok (.invokespecial 1, 3) := by decide +kernel
theorem dX0_init_4 : decode cX0_init 4 = .ok (.return_, 1) := by decide +kernel
theorem dX0_number_0 : decode cX0_number 0 = .ok (.iconst 2, 1) := by decide +kernel
theorem dX0_number_1 : decode cX0_number 1 = .ok (.ireturn, 1) := by decide +kernel
theorem dX0_title_0 : decode cX0_title 0 = .ok (.ldc 7, 2) := by decide +kernel
theorem dX0_title_2 : decode cX0_title 2 = .ok (.areturn, 1) := by decide +kernel
theorem dX0_isUnder_0 : decode cX0_isUnder 0 = .ok (.iload_n 1, 1) := by decide +kernel
theorem dX0_isUnder_1 : decode cX0_isUnder 1 = .ok (.iconst 2, 1) := by decide +kernel
theorem dX0_isUnder_2 : decode cX0_isUnder 2 = .ok (.if_icmp .eq 11, 3) := by decide +kernel
theorem dX0_isUnder_5 : decode cX0_isUnder 5 = .ok (.aload_n 0, 1) := by decide +kernel
theorem dX0_isUnder_6 : decode cX0_isUnder 6 = .ok (.iload_n 1, 1) := by decide +kernel
theorem dX0_isUnder_7 : decode cX0_isUnder 7 = .ok (.invokespecial 9, 3) := by decide +kernel
theorem dX0_isUnder_10 : decode cX0_isUnder 10 = .ok (.ifCond .eq 7, 3) := by decide +kernel
theorem dX0_isUnder_13 : decode cX0_isUnder 13 = .ok (.iconst 1, 1) := by decide +kernel
theorem dX0_isUnder_14 : decode cX0_isUnder 14 = .ok (.goto 4, 3) := by decide +kernel
theorem dX0_isUnder_17 : decode cX0_isUnder 17 = .ok (.iconst 0, 1) := by decide +kernel
theorem dX0_isUnder_18 : decode cX0_isUnder 18 = .ok (.ireturn, 1) := by decide +kernel
theorem dX0_sees_0 : decode cX0_sees 0 = .ok (.iload_n 2, 1) := by decide +kernel
theorem dX0_sees_1 : decode cX0_sees 1 = .ok (.ifCond .eq 16, 3) := by decide +kernel
theorem dX0_sees_4 : decode cX0_sees 4 = .ok (.iload_n 1, 1) := by decide +kernel
theorem dX0_sees_5 : decode cX0_sees 5 = .ok (.iconst 2, 1) := by decide +kernel
theorem dX0_sees_6 : decode cX0_sees 6 = .ok (.if_icmp .gt 7, 3) := by decide +kernel
theorem dX0_sees_9 : decode cX0_sees 9 = .ok (.iconst 1, 1) := by decide +kernel
theorem dX0_sees_10 : decode cX0_sees 10 = .ok (.goto 16, 3) := by decide +kernel
theorem dX0_sees_13 : decode cX0_sees 13 = .ok (.iconst 0, 1) := by decide +kernel
theorem dX0_sees_14 : decode cX0_sees 14 = .ok (.goto 12, 3) := by decide +kernel
theorem dX0_sees_17 : decode cX0_sees 17 = .ok (.aload_n 0, 1) := by decide +kernel
theorem dX0_sees_18 : decode cX0_sees 18 = .ok (.iload_n 1, 1) := by decide +kernel
theorem dX0_sees_19 : decode cX0_sees 19 = .ok (.iload_n 2, 1) := by decide +kernel
theorem dX0_sees_20 : decode cX0_sees 20 = .ok (.iload_n 3, 1) := by decide +kernel
theorem dX0_sees_21 : decode cX0_sees 21 = .ok (.iload 4, 2) := by decide +kernel
theorem dX0_sees_23 : decode cX0_sees 23 = .ok (.invokespecial 13, 3) := by decide +kernel
theorem dX0_sees_26 : decode cX0_sees 26 = .ok (.ireturn, 1) := by decide +kernel
theorem dX0_keepsOff_0 : decode cX0_keepsOff 0 = .ok (.aload_n 0, 1) := by decide +kernel
theorem dX0_keepsOff_1 : decode cX0_keepsOff 1 = .ok (.iload_n 1, 1) := by decide +kernel
theorem dX0_keepsOff_2 : decode cX0_keepsOff 2 = .ok (.invokespecial 17, 3) := by decide +kernel
theorem dX0_keepsOff_5 : decode cX0_keepsOff 5 = .ok (.iconst 1, 1) := by decide +kernel
theorem dX0_keepsOff_6 : decode cX0_keepsOff 6 = .ok (.iadd, 1) := by decide +kernel
theorem dX0_keepsOff_7 : decode cX0_keepsOff 7 = .ok (.ireturn, 1) := by decide +kernel
theorem dX1_init_0 : decode cX1_init 0 = .ok (.aload_n 0, 1) := by decide +kernel
theorem dX1_init_1 : decode cX1_init 1 = .ok (.invokespecial 1, 3) := by decide +kernel
theorem dX1_init_4 : decode cX1_init 4 = .ok (.return_, 1) := by decide +kernel
theorem dX1_number_0 : decode cX1_number 0 = .ok (.iconst 3, 1) := by decide +kernel
theorem dX1_number_1 : decode cX1_number 1 = .ok (.ireturn, 1) := by decide +kernel
theorem dX1_title_0 : decode cX1_title 0 = .ok (.ldc 7, 2) := by decide +kernel
theorem dX1_title_2 : decode cX1_title 2 = .ok (.areturn, 1) := by decide +kernel
theorem dX1_isUnder_0 : decode cX1_isUnder 0 = .ok (.iload_n 1, 1) := by decide +kernel
theorem dX1_isUnder_1 : decode cX1_isUnder 1 = .ok (.iconst 3, 1) := by decide +kernel
theorem dX1_isUnder_2 : decode cX1_isUnder 2 = .ok (.if_icmp .eq 11, 3) := by decide +kernel
theorem dX1_isUnder_5 : decode cX1_isUnder 5 = .ok (.aload_n 0, 1) := by decide +kernel
theorem dX1_isUnder_6 : decode cX1_isUnder 6 = .ok (.iload_n 1, 1) := by decide +kernel
theorem dX1_isUnder_7 : decode cX1_isUnder 7 = .ok (.invokespecial 9, 3) := by decide +kernel
theorem dX1_isUnder_10 : decode cX1_isUnder 10 = .ok (.ifCond .eq 7, 3) := by decide +kernel
theorem dX1_isUnder_13 : decode cX1_isUnder 13 = .ok (.iconst 1, 1) := by decide +kernel
theorem dX1_isUnder_14 : decode cX1_isUnder 14 = .ok (.goto 4, 3) := by decide +kernel
theorem dX1_isUnder_17 : decode cX1_isUnder 17 = .ok (.iconst 0, 1) := by decide +kernel
theorem dX1_isUnder_18 : decode cX1_isUnder 18 = .ok (.ireturn, 1) := by decide +kernel
theorem dX1_sees_0 : decode cX1_sees 0 = .ok (.iconst 0, 1) := by decide +kernel
theorem dX1_sees_1 : decode cX1_sees 1 = .ok (.ireturn, 1) := by decide +kernel
theorem dX1_speed_0 : decode cX1_speed 0 = .ok (.iload_n 1, 1) := by decide +kernel
theorem dX1_speed_1 : decode cX1_speed 1 = .ok (.iconst 2, 1) := by decide +kernel
theorem dX1_speed_2 : decode cX1_speed 2 = .ok (.irem, 1) := by decide +kernel
theorem dX1_speed_3 : decode cX1_speed 3 = .ok (.ifCond .ne 7, 3) := by decide +kernel
theorem dX1_speed_6 : decode cX1_speed 6 = .ok (.iconst 1, 1) := by decide +kernel
theorem dX1_speed_7 : decode cX1_speed 7 = .ok (.goto 4, 3) := by decide +kernel
theorem dX1_speed_10 : decode cX1_speed 10 = .ok (.iconst 0, 1) := by decide +kernel
theorem dX1_speed_11 : decode cX1_speed 11 = .ok (.ireturn, 1) := by decide +kernel
theorem dX1_keepsOff_0 : decode cX1_keepsOff 0 = .ok (.iconst 0, 1) := by decide +kernel
theorem dX1_keepsOff_1 : decode cX1_keepsOff 1 = .ok (.ireturn, 1) := by decide +kernel
theorem dX2_init_0 : decode cX2_init 0 = .ok (.aload_n 0, 1) := by decide +kernel
theorem dX2_init_1 : decode cX2_init 1 = .ok (.invokespecial 1, 3) := by decide +kernel
theorem dX2_init_4 : decode cX2_init 4 = .ok (.return_, 1) := by decide +kernel
theorem dX2_number_0 : decode cX2_number 0 = .ok (.iconst 5, 1) := by decide +kernel
theorem dX2_number_1 : decode cX2_number 1 = .ok (.ireturn, 1) := by decide +kernel
theorem dX2_title_0 : decode cX2_title 0 = .ok (.ldc 7, 2) := by decide +kernel
theorem dX2_title_2 : decode cX2_title 2 = .ok (.areturn, 1) := by decide +kernel
theorem dX2_isUnder_0 : decode cX2_isUnder 0 = .ok (.iload_n 1, 1) := by decide +kernel
theorem dX2_isUnder_1 : decode cX2_isUnder 1 = .ok (.iconst 5, 1) := by decide +kernel
theorem dX2_isUnder_2 : decode cX2_isUnder 2 = .ok (.if_icmp .eq 11, 3) := by decide +kernel
theorem dX2_isUnder_5 : decode cX2_isUnder 5 = .ok (.aload_n 0, 1) := by decide +kernel
theorem dX2_isUnder_6 : decode cX2_isUnder 6 = .ok (.iload_n 1, 1) := by decide +kernel
theorem dX2_isUnder_7 : decode cX2_isUnder 7 = .ok (.invokespecial 9, 3) := by decide +kernel
theorem dX2_isUnder_10 : decode cX2_isUnder 10 = .ok (.ifCond .eq 7, 3) := by decide +kernel
theorem dX2_isUnder_13 : decode cX2_isUnder 13 = .ok (.iconst 1, 1) := by decide +kernel
theorem dX2_isUnder_14 : decode cX2_isUnder 14 = .ok (.goto 4, 3) := by decide +kernel
theorem dX2_isUnder_17 : decode cX2_isUnder 17 = .ok (.iconst 0, 1) := by decide +kernel
theorem dX2_isUnder_18 : decode cX2_isUnder 18 = .ok (.ireturn, 1) := by decide +kernel
theorem dX2_sees_0 : decode cX2_sees 0 = .ok (.iload_n 2, 1) := by decide +kernel
theorem dX2_sees_1 : decode cX2_sees 1 = .ok (.ifCond .eq 15, 3) := by decide +kernel
theorem dX2_sees_4 : decode cX2_sees 4 = .ok (.aload_n 0, 1) := by decide +kernel
theorem dX2_sees_5 : decode cX2_sees 5 = .ok (.iload_n 1, 1) := by decide +kernel
theorem dX2_sees_6 : decode cX2_sees 6 = .ok (.iload_n 2, 1) := by decide +kernel
theorem dX2_sees_7 : decode cX2_sees 7 = .ok (.iload_n 3, 1) := by decide +kernel
theorem dX2_sees_8 : decode cX2_sees 8 = .ok (.iload 4, 2) := by decide +kernel
theorem dX2_sees_10 : decode cX2_sees 10 = .ok (.invokespecial 13, 3) := by decide +kernel
theorem dX2_sees_13 : decode cX2_sees 13 = .ok (.ifCond .eq 7, 3) := by decide +kernel
theorem dX2_sees_16 : decode cX2_sees 16 = .ok (.iconst 1, 1) := by decide +kernel
theorem dX2_sees_17 : decode cX2_sees 17 = .ok (.goto 4, 3) := by decide +kernel
theorem dX2_sees_20 : decode cX2_sees 20 = .ok (.iconst 0, 1) := by decide +kernel
theorem dX2_sees_21 : decode cX2_sees 21 = .ok (.ireturn, 1) := by decide +kernel
theorem dX2_speed_0 : decode cX2_speed 0 = .ok (.aload_n 0, 1) := by decide +kernel
theorem dX2_speed_1 : decode cX2_speed 1 = .ok (.iload_n 1, 1) := by decide +kernel
theorem dX2_speed_2 : decode cX2_speed 2 = .ok (.iload_n 2, 1) := by decide +kernel
theorem dX2_speed_3 : decode cX2_speed 3 = .ok (.invokespecial 17, 3) := by decide +kernel
theorem dX2_speed_6 : decode cX2_speed 6 = .ok (.iload_n 2, 1) := by decide +kernel
theorem dX2_speed_7 : decode cX2_speed 7 = .ok (.ifCond .eq 7, 3) := by decide +kernel
theorem dX2_speed_10 : decode cX2_speed 10 = .ok (.iconst 0, 1) := by decide +kernel
theorem dX2_speed_11 : decode cX2_speed 11 = .ok (.goto 4, 3) := by decide +kernel
theorem dX2_speed_14 : decode cX2_speed 14 = .ok (.iconst 1, 1) := by decide +kernel
theorem dX2_speed_15 : decode cX2_speed 15 = .ok (.iadd, 1) := by decide +kernel
theorem dX2_speed_16 : decode cX2_speed 16 = .ok (.ireturn, 1) := by decide +kernel
theorem dX2_keepsOff_0 : decode cX2_keepsOff 0 = .ok (.aload_n 0, 1) := by decide +kernel
theorem dX2_keepsOff_1 : decode cX2_keepsOff 1 = .ok (.iload_n 1, 1) := by decide +kernel
theorem dX2_keepsOff_2 : decode cX2_keepsOff 2 = .ok (.invokespecial 21, 3) := by decide +kernel
theorem dX2_keepsOff_5 : decode cX2_keepsOff 5 = .ok (.iconst 3, 1) := by decide +kernel
theorem dX2_keepsOff_6 : decode cX2_keepsOff 6 = .ok (.isub, 1) := by decide +kernel
theorem dX2_keepsOff_7 : decode cX2_keepsOff 7 = .ok (.ireturn, 1) := by decide +kernel
theorem dX3_init_0 : decode cX3_init 0 = .ok (.aload_n 0, 1) := by decide +kernel
theorem dX3_init_1 : decode cX3_init 1 = .ok (.invokespecial 1, 3) := by decide +kernel
theorem dX3_init_4 : decode cX3_init 4 = .ok (.return_, 1) := by decide +kernel
theorem dX3_number_0 : decode cX3_number 0 = .ok (.iconst 4, 1) := by decide +kernel
theorem dX3_number_1 : decode cX3_number 1 = .ok (.ireturn, 1) := by decide +kernel
theorem dX3_title_0 : decode cX3_title 0 = .ok (.ldc 7, 2) := by decide +kernel
theorem dX3_title_2 : decode cX3_title 2 = .ok (.areturn, 1) := by decide +kernel
theorem dX3_isUnder_0 : decode cX3_isUnder 0 = .ok (.iload_n 1, 1) := by decide +kernel
theorem dX3_isUnder_1 : decode cX3_isUnder 1 = .ok (.iconst 4, 1) := by decide +kernel
theorem dX3_isUnder_2 : decode cX3_isUnder 2 = .ok (.if_icmp .eq 11, 3) := by decide +kernel
theorem dX3_isUnder_5 : decode cX3_isUnder 5 = .ok (.aload_n 0, 1) := by decide +kernel
theorem dX3_isUnder_6 : decode cX3_isUnder 6 = .ok (.iload_n 1, 1) := by decide +kernel
theorem dX3_isUnder_7 : decode cX3_isUnder 7 = .ok (.invokespecial 9, 3) := by decide +kernel
theorem dX3_isUnder_10 : decode cX3_isUnder 10 = .ok (.ifCond .eq 7, 3) := by decide +kernel
theorem dX3_isUnder_13 : decode cX3_isUnder 13 = .ok (.iconst 1, 1) := by decide +kernel
theorem dX3_isUnder_14 : decode cX3_isUnder 14 = .ok (.goto 4, 3) := by decide +kernel
theorem dX3_isUnder_17 : decode cX3_isUnder 17 = .ok (.iconst 0, 1) := by decide +kernel
theorem dX3_isUnder_18 : decode cX3_isUnder 18 = .ok (.ireturn, 1) := by decide +kernel
theorem dX3_sees_0 : decode cX3_sees 0 = .ok (.aload_n 0, 1) := by decide +kernel
theorem dX3_sees_1 : decode cX3_sees 1 = .ok (.iload_n 1, 1) := by decide +kernel
theorem dX3_sees_2 : decode cX3_sees 2 = .ok (.iload_n 2, 1) := by decide +kernel
theorem dX3_sees_3 : decode cX3_sees 3 = .ok (.iload_n 3, 1) := by decide +kernel
theorem dX3_sees_4 : decode cX3_sees 4 = .ok (.iload 4, 2) := by decide +kernel
theorem dX3_sees_6 : decode cX3_sees 6 = .ok (.iconst 2, 1) := by decide +kernel
theorem dX3_sees_7 : decode cX3_sees 7 = .ok (.iadd, 1) := by decide +kernel
theorem dX3_sees_8 : decode cX3_sees 8 = .ok (.invokespecial 13, 3) := by decide +kernel
theorem dX3_sees_11 : decode cX3_sees 11 = .ok (.ireturn, 1) := by decide +kernel
theorem dX3_speed_0 : decode cX3_speed 0 = .ok (.aload_n 0, 1) := by decide +kernel
theorem dX3_speed_1 : decode cX3_speed 1 = .ok (.iload_n 1, 1) := by decide +kernel
theorem dX3_speed_2 : decode cX3_speed 2 = .ok (.iload_n 2, 1) := by decide +kernel
theorem dX3_speed_3 : decode cX3_speed 3 = .ok (.invokespecial 17, 3) := by decide +kernel
theorem dX3_speed_6 : decode cX3_speed 6 = .ok (.iconst 1, 1) := by decide +kernel
theorem dX3_speed_7 : decode cX3_speed 7 = .ok (.iadd, 1) := by decide +kernel
theorem dX3_speed_8 : decode cX3_speed 8 = .ok (.ireturn, 1) := by decide +kernel
theorem dX3_keepsOff_0 : decode cX3_keepsOff 0 = .ok (.iload_n 1, 1) := by decide +kernel
theorem dX3_keepsOff_1 : decode cX3_keepsOff 1 = .ok (.iconst 3, 1) := by decide +kernel
theorem dX3_keepsOff_2 : decode cX3_keepsOff 2 = .ok (.if_icmp .le 7, 3) := by decide +kernel
theorem dX3_keepsOff_5 : decode cX3_keepsOff 5 = .ok (.iconst 0, 1) := by decide +kernel
theorem dX3_keepsOff_6 : decode cX3_keepsOff 6 = .ok (.goto 8, 3) := by decide +kernel
theorem dX3_keepsOff_9 : decode cX3_keepsOff 9 = .ok (.aload_n 0, 1) := by decide +kernel
theorem dX3_keepsOff_10 : decode cX3_keepsOff 10 = .ok (.iload_n 1, 1) := by decide +kernel
theorem dX3_keepsOff_11 : decode cX3_keepsOff 11 = .ok (.invokespecial 21, 3) := by decide +kernel
theorem dX3_keepsOff_14 : decode cX3_keepsOff 14 = .ok (.ireturn, 1) := by decide +kernel
theorem dX3_stands_0 : decode cX3_stands 0 = .ok (.iload_n 3, 1) := by decide +kernel
theorem dX3_stands_1 : decode cX3_stands 1 = .ok (.iconst 5, 1) := by decide +kernel
theorem dX3_stands_2 : decode cX3_stands 2 = .ok (.if_icmp .ge 17, 3) := by decide +kernel
theorem dX3_stands_5 : decode cX3_stands 5 = .ok (.aload_n 0, 1) := by decide +kernel
theorem dX3_stands_6 : decode cX3_stands 6 = .ok (.iload_n 1, 1) := by decide +kernel
theorem dX3_stands_7 : decode cX3_stands 7 = .ok (.iload_n 2, 1) := by decide +kernel
theorem dX3_stands_8 : decode cX3_stands 8 = .ok (.iload_n 3, 1) := by decide +kernel
theorem dX3_stands_9 : decode cX3_stands 9 = .ok (.invokespecial 25, 3) := by decide +kernel
theorem dX3_stands_12 : decode cX3_stands 12 = .ok (.ifCond .eq 7, 3) := by decide +kernel
theorem dX3_stands_15 : decode cX3_stands 15 = .ok (.iconst 1, 1) := by decide +kernel
theorem dX3_stands_16 : decode cX3_stands 16 = .ok (.goto 4, 3) := by decide +kernel
theorem dX3_stands_19 : decode cX3_stands 19 = .ok (.iconst 0, 1) := by decide +kernel
theorem dX3_stands_20 : decode cX3_stands 20 = .ok (.ireturn, 1) := by decide +kernel
theorem dX4_init_0 : decode cX4_init 0 = .ok (.aload_n 0, 1) := by decide +kernel
theorem dX4_init_1 : decode cX4_init 1 = .ok (.invokespecial 3, 3) := by decide +kernel
theorem dX4_init_4 : decode cX4_init 4 = .ok (.aload_n 0, 1) := by decide +kernel
theorem dX4_init_5 : decode cX4_init 5 = .ok (.iconst 0, 1) := by decide +kernel
theorem dX4_init_6 : decode cX4_init 6 = .ok (.putfield 9, 3) := by decide +kernel
theorem dX4_init_9 : decode cX4_init 9 = .ok (.aload_n 0, 1) := by decide +kernel
theorem dX4_init_10 : decode cX4_init 10 = .ok (.bipush 10, 2) := by decide +kernel
theorem dX4_init_12 : decode cX4_init 12 = .ok (.putfield 15, 3) := by decide +kernel
theorem dX4_init_15 : decode cX4_init 15 = .ok (.aload_n 0, 1) := by decide +kernel
theorem dX4_init_16 : decode cX4_init 16 = .ok (.iconst 5, 1) := by decide +kernel
theorem dX4_init_17 : decode cX4_init 17 = .ok (.putfield 18, 3) := by decide +kernel
theorem dX4_init_20 : decode cX4_init 20 = .ok (.aload_n 0, 1) := by decide +kernel
theorem dX4_init_21 : decode cX4_init 21 = .ok (.sipush 4032, 3) := by decide +kernel
theorem dX4_init_24 : decode cX4_init 24 = .ok (.putfield 21, 3) := by decide +kernel
theorem dX4_init_27 : decode cX4_init 27 = .ok (.aload_n 0, 1) := by decide +kernel
theorem dX4_init_28 : decode cX4_init 28 = .ok (.iconst 4, 1) := by decide +kernel
theorem dX4_init_29 : decode cX4_init 29 = .ok (.putfield 24, 3) := by decide +kernel
theorem dX4_init_32 : decode cX4_init 32 = .ok (.aload_n 0, 1) := by decide +kernel
theorem dX4_init_33 : decode cX4_init 33 = .ok (.iconst 0, 1) := by decide +kernel
theorem dX4_init_34 : decode cX4_init 34 = .ok (.putfield 27, 3) := by decide +kernel
theorem dX4_init_37 : decode cX4_init 37 = .ok (.aload_n 0, 1) := by decide +kernel
theorem dX4_init_38 : decode cX4_init 38 = .ok (.bipush 6, 2) := by decide +kernel
theorem dX4_init_40 : decode cX4_init 40 = .ok (.anewarray 30, 3) := by decide +kernel
theorem dX4_init_43 : decode cX4_init 43 = .ok (.putfield 32, 3) := by decide +kernel
theorem dX4_init_46 : decode cX4_init 46 = .ok (.iconst 0, 1) := by decide +kernel
theorem dX4_init_47 : decode cX4_init 47 = .ok (.istore_n 2, 1) := by decide +kernel
theorem dX4_init_48 : decode cX4_init 48 = .ok (.iload_n 2, 1) := by decide +kernel
theorem dX4_init_49 : decode cX4_init 49 = .ok (.bipush 6, 2) := by decide +kernel
theorem dX4_init_51 : decode cX4_init 51 = .ok (.if_icmp .ge 23, 3) := by decide +kernel
theorem dX4_init_54 : decode cX4_init 54 = .ok (.aload_n 0, 1) := by decide +kernel
theorem dX4_init_55 : decode cX4_init 55 = .ok (.getfield 32, 3) := by decide +kernel
theorem dX4_init_58 : decode cX4_init 58 = .ok (.iload_n 2, 1) := by decide +kernel
theorem dX4_init_59 : decode cX4_init 59 = .ok (.new 30, 3) := by decide +kernel
theorem dX4_init_62 : decode cX4_init 62 = .ok (.dup, 1) := by decide +kernel
theorem dX4_init_63 : decode cX4_init 63 = .ok (.aload_n 1, 1) := by decide +kernel
theorem dX4_init_64 : decode cX4_init 64 = .ok (.invokespecial 36, 3) := by decide +kernel
theorem dX4_init_67 : decode cX4_init 67 = .ok (.aastore, 1) := by decide +kernel
theorem dX4_init_68 : decode cX4_init 68 = .ok (.iinc 2 1, 3) := by decide +kernel
theorem dX4_init_71 : decode cX4_init 71 = .ok (.goto (-23), 3) := by decide +kernel
theorem dX4_init_74 : decode cX4_init 74 = .ok (.return_, 1) := by decide +kernel
theorem dX4_become_0 : decode cX4_become 0 = .ok (.aload_n 0, 1) := by decide +kernel
theorem dX4_become_1 : decode cX4_become 1 = .ok (.aload_n 1, 1) := by decide +kernel
theorem dX4_become_2 : decode cX4_become 2 = .ok (.invokevirtual 39, 3) := by decide +kernel
theorem dX4_become_5 : decode cX4_become 5 = .ok (.iconst 0, 1) := by decide +kernel
theorem dX4_become_6 : decode cX4_become 6 = .ok (.istore_n 2, 1) := by decide +kernel
theorem dX4_become_7 : decode cX4_become 7 = .ok (.iload_n 2, 1) := by decide +kernel
theorem dX4_become_8 : decode cX4_become 8 = .ok (.aload_n 1, 1) := by decide +kernel
theorem dX4_become_9 : decode cX4_become 9 = .ok (.getfield 27, 3) := by decide +kernel
theorem dX4_become_12 : decode cX4_become 12 = .ok (.if_icmp .ge 30, 3) := by decide +kernel
theorem dX4_become_15 : decode cX4_become 15 = .ok (.iload_n 2, 1) := by decide +kernel
theorem dX4_become_16 : decode cX4_become 16 = .ok (.bipush 6, 2) := by decide +kernel
theorem dX4_become_18 : decode cX4_become 18 = .ok (.if_icmp .ge 24, 3) := by decide +kernel
theorem dX4_become_21 : decode cX4_become 21 = .ok (.aload_n 0, 1) := by decide +kernel
theorem dX4_become_22 : decode cX4_become 22 = .ok (.getfield 32, 3) := by decide +kernel
theorem dX4_become_25 : decode cX4_become 25 = .ok (.iload_n 2, 1) := by decide +kernel
theorem dX4_become_26 : decode cX4_become 26 = .ok (.aaload, 1) := by decide +kernel
theorem dX4_become_27 : decode cX4_become 27 = .ok (.aload_n 1, 1) := by decide +kernel
theorem dX4_become_28 : decode cX4_become 28 = .ok (.getfield 32, 3) := by decide +kernel
theorem dX4_become_31 : decode cX4_become 31 = .ok (.iload_n 2, 1) := by decide +kernel
theorem dX4_become_32 : decode cX4_become 32 = .ok (.aaload, 1) := by decide +kernel
theorem dX4_become_33 : decode cX4_become 33 = .ok (.invokevirtual 43, 3) := by decide +kernel
theorem dX4_become_36 : decode cX4_become 36 = .ok (.iinc 2 1, 3) := by decide +kernel
theorem dX4_become_39 : decode cX4_become 39 = .ok (.goto (-32), 3) := by decide +kernel
theorem dX4_become_42 : decode cX4_become 42 = .ok (.aload_n 0, 1) := by decide +kernel
theorem dX4_become_43 : decode cX4_become 43 = .ok (.aload_n 1, 1) := by decide +kernel
theorem dX4_become_44 : decode cX4_become 44 = .ok (.getfield 27, 3) := by decide +kernel
theorem dX4_become_47 : decode cX4_become 47 = .ok (.putfield 27, 3) := by decide +kernel
theorem dX4_become_50 : decode cX4_become 50 = .ok (.return_, 1) := by decide +kernel
theorem dX4_becomeWithOne_0 : decode cX4_becomeWithOne 0 = .ok (.aload_n 0, 1) := by decide +kernel
theorem dX4_becomeWithOne_1 : decode cX4_becomeWithOne 1 = .ok (.aload_n 1, 1) := by decide +kernel
theorem dX4_becomeWithOne_2 : decode cX4_becomeWithOne 2 = .ok (.invokevirtual 39, 3) := by decide +kernel
theorem dX4_becomeWithOne_5 : decode cX4_becomeWithOne 5 = .ok (.iload_n 2, 1) := by decide +kernel
theorem dX4_becomeWithOne_6 : decode cX4_becomeWithOne 6 = .ok (.ifCond .lt 31, 3) := by decide +kernel
theorem dX4_becomeWithOne_9 : decode cX4_becomeWithOne 9 = .ok (.iload_n 2, 1) := by decide +kernel
theorem dX4_becomeWithOne_10 : decode cX4_becomeWithOne 10 = .ok (.aload_n 1, 1) := by decide +kernel
theorem dX4_becomeWithOne_11 : decode cX4_becomeWithOne 11 = .ok (.getfield 27, 3) := by decide +kernel
theorem dX4_becomeWithOne_14 : decode cX4_becomeWithOne 14 = .ok (.if_icmp .ge 23, 3) := by decide +kernel
theorem dX4_becomeWithOne_17 : decode cX4_becomeWithOne 17 = .ok (.aload_n 0, 1) := by decide +kernel
theorem dX4_becomeWithOne_18 : decode cX4_becomeWithOne 18 = .ok (.getfield 32, 3) := by decide +kernel
theorem dX4_becomeWithOne_21 : decode cX4_becomeWithOne 21 = .ok (.iconst 0, 1) := by decide +kernel
theorem dX4_becomeWithOne_22 : decode cX4_becomeWithOne 22 = .ok (.aaload, 1) := by decide +kernel
theorem dX4_becomeWithOne_23 : decode cX4_becomeWithOne 23 = .ok (.aload_n 1, 1) := by decide +kernel
theorem dX4_becomeWithOne_24 : decode cX4_becomeWithOne 24 = .ok (.getfield 32, 3) := by decide +kernel
theorem dX4_becomeWithOne_27 : decode cX4_becomeWithOne 27 = .ok (.iload_n 2, 1) := by decide +kernel
theorem dX4_becomeWithOne_28 : decode cX4_becomeWithOne 28 = .ok (.aaload, 1) := by decide +kernel
theorem dX4_becomeWithOne_29 : decode cX4_becomeWithOne 29 = .ok (.invokevirtual 43, 3) := by decide +kernel
theorem dX4_becomeWithOne_32 : decode cX4_becomeWithOne 32 = .ok (.aload_n 0, 1) := by decide +kernel
theorem dX4_becomeWithOne_33 : decode cX4_becomeWithOne 33 = .ok (.iconst 1, 1) := by decide +kernel
theorem dX4_becomeWithOne_34 : decode cX4_becomeWithOne 34 = .ok (.putfield 27, 3) := by decide +kernel
theorem dX4_becomeWithOne_37 : decode cX4_becomeWithOne 37 = .ok (.return_, 1) := by decide +kernel
theorem dX4_becomeEmptied_0 : decode cX4_becomeEmptied 0 = .ok (.aload_n 0, 1) := by decide +kernel
theorem dX4_becomeEmptied_1 : decode cX4_becomeEmptied 1 = .ok (.aload_n 1, 1) := by decide +kernel
theorem dX4_becomeEmptied_2 : decode cX4_becomeEmptied 2 = .ok (.getfield 9, 3) := by decide +kernel
theorem dX4_becomeEmptied_5 : decode cX4_becomeEmptied 5 = .ok (.putfield 9, 3) := by decide +kernel
theorem dX4_becomeEmptied_8 : decode cX4_becomeEmptied 8 = .ok (.aload_n 0, 1) := by decide +kernel
theorem dX4_becomeEmptied_9 : decode cX4_becomeEmptied 9 = .ok (.aload_n 1, 1) := by decide +kernel
theorem dX4_becomeEmptied_10 : decode cX4_becomeEmptied 10 = .ok (.getfield 15, 3) := by decide +kernel
theorem dX4_becomeEmptied_13 : decode cX4_becomeEmptied 13 = .ok (.putfield 15, 3) := by decide +kernel
theorem dX4_becomeEmptied_16 : decode cX4_becomeEmptied 16 = .ok (.aload_n 0, 1) := by decide +kernel
theorem dX4_becomeEmptied_17 : decode cX4_becomeEmptied 17 = .ok (.aload_n 1, 1) := by decide +kernel
theorem dX4_becomeEmptied_18 : decode cX4_becomeEmptied 18 = .ok (.getfield 18, 3) := by decide +kernel
theorem dX4_becomeEmptied_21 : decode cX4_becomeEmptied 21 = .ok (.putfield 18, 3) := by decide +kernel
theorem dX4_becomeEmptied_24 : decode cX4_becomeEmptied 24 = .ok (.aload_n 0, 1) := by decide +kernel
theorem dX4_becomeEmptied_25 : decode cX4_becomeEmptied 25 = .ok (.aload_n 1, 1) := by decide +kernel
theorem dX4_becomeEmptied_26 : decode cX4_becomeEmptied 26 = .ok (.getfield 21, 3) := by decide +kernel
theorem dX4_becomeEmptied_29 : decode cX4_becomeEmptied 29 = .ok (.putfield 21, 3) := by decide +kernel
theorem dX4_becomeEmptied_32 : decode cX4_becomeEmptied 32 = .ok (.aload_n 0, 1) := by decide +kernel
theorem dX4_becomeEmptied_33 : decode cX4_becomeEmptied 33 = .ok (.aload_n 1, 1) := by decide +kernel
theorem dX4_becomeEmptied_34 : decode cX4_becomeEmptied 34 = .ok (.getfield 24, 3) := by decide +kernel
theorem dX4_becomeEmptied_37 : decode cX4_becomeEmptied 37 = .ok (.putfield 24, 3) := by decide +kernel
theorem dX4_becomeEmptied_40 : decode cX4_becomeEmptied 40 = .ok (.aload_n 0, 1) := by decide +kernel
theorem dX4_becomeEmptied_41 : decode cX4_becomeEmptied 41 = .ok (.iconst 0, 1) := by decide +kernel
theorem dX4_becomeEmptied_42 : decode cX4_becomeEmptied 42 = .ok (.putfield 27, 3) := by decide +kernel
theorem dX4_becomeEmptied_45 : decode cX4_becomeEmptied 45 = .ok (.return_, 1) := by decide +kernel
theorem dX4_isFull_0 : decode cX4_isFull 0 = .ok (.aload_n 0, 1) := by decide +kernel
theorem dX4_isFull_1 : decode cX4_isFull 1 = .ok (.getfield 27, 3) := by decide +kernel
theorem dX4_isFull_4 : decode cX4_isFull 4 = .ok (.bipush 6, 2) := by decide +kernel
theorem dX4_isFull_6 : decode cX4_isFull 6 = .ok (.if_icmp .lt 7, 3) := by decide +kernel
theorem dX4_isFull_9 : decode cX4_isFull 9 = .ok (.iconst 1, 1) := by decide +kernel
theorem dX4_isFull_10 : decode cX4_isFull 10 = .ok (.goto 4, 3) := by decide +kernel
theorem dX4_isFull_13 : decode cX4_isFull 13 = .ok (.iconst 0, 1) := by decide +kernel
theorem dX4_isFull_14 : decode cX4_isFull 14 = .ok (.ireturn, 1) := by decide +kernel
theorem dX4_launch_0 : decode cX4_launch 0 = .ok (.aload_n 0, 1) := by decide +kernel
theorem dX4_launch_1 : decode cX4_launch 1 = .ok (.invokevirtual 47, 3) := by decide +kernel
theorem dX4_launch_4 : decode cX4_launch 4 = .ok (.ifCond .ne 28, 3) := by decide +kernel
theorem dX4_launch_7 : decode cX4_launch 7 = .ok (.aload_n 0, 1) := by decide +kernel
theorem dX4_launch_8 : decode cX4_launch 8 = .ok (.getfield 32, 3) := by decide +kernel
theorem dX4_launch_11 : decode cX4_launch 11 = .ok (.aload_n 0, 1) := by decide +kernel
theorem dX4_launch_12 : decode cX4_launch 12 = .ok (.getfield 27, 3) := by decide +kernel
theorem dX4_launch_15 : decode cX4_launch 15 = .ok (.aaload, 1) := by decide +kernel
theorem dX4_launch_16 : decode cX4_launch 16 = .ok (.aload_n 1, 1) := by decide +kernel
theorem dX4_launch_17 : decode cX4_launch 17 = .ok (.iload_n 2, 1) := by decide +kernel
theorem dX4_launch_18 : decode cX4_launch 18 = .ok (.iload_n 3, 1) := by decide +kernel
theorem dX4_launch_19 : decode cX4_launch 19 = .ok (.invokevirtual 51, 3) := by decide +kernel
theorem dX4_launch_22 : decode cX4_launch 22 = .ok (.aload_n 0, 1) := by decide +kernel
theorem dX4_launch_23 : decode cX4_launch 23 = .ok (.dup, 1) := by decide +kernel
theorem dX4_launch_24 : decode cX4_launch 24 = .ok (.getfield 27, 3) := by decide +kernel
theorem dX4_launch_27 : decode cX4_launch 27 = .ok (.iconst 1, 1) := by decide +kernel
theorem dX4_launch_28 : decode cX4_launch 28 = .ok (.iadd, 1) := by decide +kernel
theorem dX4_launch_29 : decode cX4_launch 29 = .ok (.putfield 27, 3) := by decide +kernel
theorem dX4_launch_32 : decode cX4_launch 32 = .ok (.return_, 1) := by decide +kernel
theorem dX4_hourOfDay_0 : decode cX4_hourOfDay 0 = .ok (.aload_n 0, 1) := by decide +kernel
theorem dX4_hourOfDay_1 : decode cX4_hourOfDay 1 = .ok (.getfield 9, 3) := by decide +kernel
theorem dX4_hourOfDay_4 : decode cX4_hourOfDay 4 = .ok (.bipush 12, 2) := by decide +kernel
theorem dX4_hourOfDay_6 : decode cX4_hourOfDay 6 = .ok (.irem, 1) := by decide +kernel
theorem dX4_hourOfDay_7 : decode cX4_hourOfDay 7 = .ok (.ireturn, 1) := by decide +kernel
theorem dX4_isNight_0 : decode cX4_isNight 0 = .ok (.aload_n 0, 1) := by decide +kernel
theorem dX4_isNight_1 : decode cX4_isNight 1 = .ok (.invokevirtual 55, 3) := by decide +kernel
theorem dX4_isNight_4 : decode cX4_isNight 4 = .ok (.invokestatic 59, 3) := by decide +kernel
theorem dX4_isNight_7 : decode cX4_isNight 7 = .ok (.ireturn, 1) := by decide +kernel
theorem dX4_burns_0 : decode cX4_burns 0 = .ok (.aload_n 0, 1) := by decide +kernel
theorem dX4_burns_1 : decode cX4_burns 1 = .ok (.aload_n 0, 1) := by decide +kernel
theorem dX4_burns_2 : decode cX4_burns 2 = .ok (.invokevirtual 55, 3) := by decide +kernel
theorem dX4_burns_5 : decode cX4_burns 5 = .ok (.invokevirtual 63, 3) := by decide +kernel
theorem dX4_burns_8 : decode cX4_burns 8 = .ok (.ireturn, 1) := by decide +kernel
theorem dX4_isNightAt_0 : decode cX4_isNightAt 0 = .ok (.iload_n 0, 1) := by decide +kernel
theorem dX4_isNightAt_1 : decode cX4_isNightAt 1 = .ok (.bipush 6, 2) := by decide +kernel
theorem dX4_isNightAt_3 : decode cX4_isNightAt 3 = .ok (.if_icmp .lt 7, 3) := by decide +kernel
theorem dX4_isNightAt_6 : decode cX4_isNightAt 6 = .ok (.iconst 1, 1) := by decide +kernel
theorem dX4_isNightAt_7 : decode cX4_isNightAt 7 = .ok (.goto 4, 3) := by decide +kernel
theorem dX4_isNightAt_10 : decode cX4_isNightAt 10 = .ok (.iconst 0, 1) := by decide +kernel
theorem dX4_isNightAt_11 : decode cX4_isNightAt 11 = .ok (.ireturn, 1) := by decide +kernel
theorem dX4_burnsAt_0 : decode cX4_burnsAt 0 = .ok (.aload_n 0, 1) := by decide +kernel
theorem dX4_burnsAt_1 : decode cX4_burnsAt 1 = .ok (.getfield 21, 3) := by decide +kernel
theorem dX4_burnsAt_4 : decode cX4_burnsAt 4 = .ok (.iload_n 1, 1) := by decide +kernel
theorem dX4_burnsAt_5 : decode cX4_burnsAt 5 = .ok (.ishr, 1) := by decide +kernel
theorem dX4_burnsAt_6 : decode cX4_burnsAt 6 = .ok (.iconst 1, 1) := by decide +kernel
theorem dX4_burnsAt_7 : decode cX4_burnsAt 7 = .ok (.iand, 1) := by decide +kernel
theorem dX4_burnsAt_8 : decode cX4_burnsAt 8 = .ok (.iconst 1, 1) := by decide +kernel
theorem dX4_burnsAt_9 : decode cX4_burnsAt 9 = .ok (.if_icmp .ne 7, 3) := by decide +kernel
theorem dX4_burnsAt_12 : decode cX4_burnsAt 12 = .ok (.iconst 1, 1) := by decide +kernel
theorem dX4_burnsAt_13 : decode cX4_burnsAt 13 = .ok (.goto 4, 3) := by decide +kernel
theorem dX4_burnsAt_16 : decode cX4_burnsAt 16 = .ok (.iconst 0, 1) := by decide +kernel
theorem dX4_burnsAt_17 : decode cX4_burnsAt 17 = .ok (.ireturn, 1) := by decide +kernel
theorem dX4_towerPlace_0 : decode cX4_towerPlace 0 = .ok (.bipush 10, 2) := by decide +kernel
theorem dX4_towerPlace_2 : decode cX4_towerPlace 2 = .ok (.aload_n 0, 1) := by decide +kernel
theorem dX4_towerPlace_3 : decode cX4_towerPlace 3 = .ok (.getfield 15, 3) := by decide +kernel
theorem dX4_towerPlace_6 : decode cX4_towerPlace 6 = .ok (.imul, 1) := by decide +kernel
theorem dX4_towerPlace_7 : decode cX4_towerPlace 7 = .ok (.aload_n 0, 1) := by decide +kernel
theorem dX4_towerPlace_8 : decode cX4_towerPlace 8 = .ok (.getfield 18, 3) := by decide +kernel
theorem dX4_towerPlace_11 : decode cX4_towerPlace 11 = .ok (.iadd, 1) := by decide +kernel
theorem dX4_towerPlace_12 : decode cX4_towerPlace 12 = .ok (.ireturn, 1) := by decide +kernel
theorem dX4_distanceOf_0 : decode cX4_distanceOf 0 = .ok (.aload_n 1, 1) := by decide +kernel
theorem dX4_distanceOf_1 : decode cX4_distanceOf 1 = .ok (.getfield 66, 3) := by decide +kernel
theorem dX4_distanceOf_4 : decode cX4_distanceOf 4 = .ok (.aload_n 0, 1) := by decide +kernel
theorem dX4_distanceOf_5 : decode cX4_distanceOf 5 = .ok (.getfield 15, 3) := by decide +kernel
theorem dX4_distanceOf_8 : decode cX4_distanceOf 8 = .ok (.isub, 1) := by decide +kernel
theorem dX4_distanceOf_9 : decode cX4_distanceOf 9 = .ok (.invokestatic 69, 3) := by decide +kernel
theorem dX4_distanceOf_12 : decode cX4_distanceOf 12 = .ok (.aload_n 1, 1) := by decide +kernel
theorem dX4_distanceOf_13 : decode cX4_distanceOf 13 = .ok (.getfield 75, 3) := by decide +kernel
theorem dX4_distanceOf_16 : decode cX4_distanceOf 16 = .ok (.aload_n 0, 1) := by decide +kernel
theorem dX4_distanceOf_17 : decode cX4_distanceOf 17 = .ok (.getfield 18, 3) := by decide +kernel
theorem dX4_distanceOf_20 : decode cX4_distanceOf 20 = .ok (.isub, 1) := by decide +kernel
theorem dX4_distanceOf_21 : decode cX4_distanceOf 21 = .ok (.invokestatic 69, 3) := by decide +kernel
theorem dX4_distanceOf_24 : decode cX4_distanceOf 24 = .ok (.invokestatic 78, 3) := by decide +kernel
theorem dX4_distanceOf_27 : decode cX4_distanceOf 27 = .ok (.ireturn, 1) := by decide +kernel
theorem dX4_bearing_0 : decode cX4_bearing 0 = .ok (.aload_n 0, 1) := by decide +kernel
theorem dX4_bearing_1 : decode cX4_bearing 1 = .ok (.aload_n 1, 1) := by decide +kernel
theorem dX4_bearing_2 : decode cX4_bearing 2 = .ok (.invokevirtual 82, 3) := by decide +kernel
theorem dX4_bearing_5 : decode cX4_bearing 5 = .ok (.istore_n 3, 1) := by decide +kernel
theorem dX4_bearing_6 : decode cX4_bearing 6 = .ok (.aload_n 0, 1) := by decide +kernel
theorem dX4_bearing_7 : decode cX4_bearing 7 = .ok (.invokevirtual 86, 3) := by decide +kernel
theorem dX4_bearing_10 : decode cX4_bearing 10 = .ok (.istore 4, 2) := by decide +kernel
theorem dX4_bearing_12 : decode cX4_bearing 12 = .ok (.iload_n 2, 1) := by decide +kernel
theorem dX4_bearing_13 : decode cX4_bearing 13 = .ok (.tableswitch 81 7 10 #[31, 33, 55, 69], 31) := by decide +kernel
theorem dX4_bearing_44 : decode cX4_bearing 44 = .ok (.iload_n 3, 1) := by decide +kernel
theorem dX4_bearing_45 : decode cX4_bearing 45 = .ok (.ireturn, 1) := by decide +kernel
theorem dX4_bearing_46 : decode cX4_bearing 46 = .ok (.aload_n 1, 1) := by decide +kernel
theorem dX4_bearing_47 : decode cX4_bearing 47 = .ok (.getfield 89, 3) := by decide +kernel
theorem dX4_bearing_50 : decode cX4_bearing 50 = .ok (.iload_n 3, 1) := by decide +kernel
theorem dX4_bearing_51 : decode cX4_bearing 51 = .ok (.iload 4, 2) := by decide +kernel
theorem dX4_bearing_53 : decode cX4_bearing 53 = .ok (.aload_n 0, 1) := by decide +kernel
theorem dX4_bearing_54 : decode cX4_bearing 54 = .ok (.invokevirtual 93, 3) := by decide +kernel
theorem dX4_bearing_57 : decode cX4_bearing 57 = .ok (.aload_n 0, 1) := by decide +kernel
theorem dX4_bearing_58 : decode cX4_bearing 58 = .ok (.getfield 24, 3) := by decide +kernel
theorem dX4_bearing_61 : decode cX4_bearing 61 = .ok (.invokevirtual 96, 3) := by decide +kernel
theorem dX4_bearing_64 : decode cX4_bearing 64 = .ok (.invokestatic 102, 3) := by decide +kernel
theorem dX4_bearing_67 : decode cX4_bearing 67 = .ok (.ireturn, 1) := by decide +kernel
theorem dX4_bearing_68 : decode cX4_bearing 68 = .ok (.aload_n 1, 1) := by decide +kernel
theorem dX4_bearing_69 : decode cX4_bearing 69 = .ok (.getfield 89, 3) := by decide +kernel
theorem dX4_bearing_72 : decode cX4_bearing 72 = .ok (.aload_n 0, 1) := by decide +kernel
theorem dX4_bearing_73 : decode cX4_bearing 73 = .ok (.invokevirtual 55, 3) := by decide +kernel
theorem dX4_bearing_76 : decode cX4_bearing 76 = .ok (.iload 4, 2) := by decide +kernel
theorem dX4_bearing_78 : decode cX4_bearing 78 = .ok (.invokevirtual 106, 3) := by decide +kernel
theorem dX4_bearing_81 : decode cX4_bearing 81 = .ok (.ireturn, 1) := by decide +kernel
theorem dX4_bearing_82 : decode cX4_bearing 82 = .ok (.bipush 100, 2) := by decide +kernel
theorem dX4_bearing_84 : decode cX4_bearing 84 = .ok (.aload_n 1, 1) := by decide +kernel
theorem dX4_bearing_85 : decode cX4_bearing 85 = .ok (.getfield 89, 3) := by decide +kernel
theorem dX4_bearing_88 : decode cX4_bearing 88 = .ok (.iload_n 3, 1) := by decide +kernel
theorem dX4_bearing_89 : decode cX4_bearing 89 = .ok (.invokevirtual 110, 3) := by decide +kernel
theorem dX4_bearing_92 : decode cX4_bearing 92 = .ok (.iadd, 1) := by decide +kernel
theorem dX4_bearing_93 : decode cX4_bearing 93 = .ok (.ireturn, 1) := by decide +kernel
theorem dX4_bearing_94 : decode cX4_bearing 94 = .ok (.aload_n 1, 1) := by decide +kernel
theorem dX4_bearing_95 : decode cX4_bearing 95 = .ok (.getfield 89, 3) := by decide +kernel
theorem dX4_bearing_98 : decode cX4_bearing 98 = .ok (.iload_n 3, 1) := by decide +kernel
theorem dX4_bearing_99 : decode cX4_bearing 99 = .ok (.iload 4, 2) := by decide +kernel
theorem dX4_bearing_101 : decode cX4_bearing 101 = .ok (.aload_n 1, 1) := by decide +kernel
theorem dX4_bearing_102 : decode cX4_bearing 102 = .ok (.getfield 113, 3) := by decide +kernel
theorem dX4_bearing_105 : decode cX4_bearing 105 = .ok (.invokevirtual 116, 3) := by decide +kernel
theorem dX4_bearing_108 : decode cX4_bearing 108 = .ok (.invokestatic 102, 3) := by decide +kernel
theorem dX4_bearing_111 : decode cX4_bearing 111 = .ok (.ireturn, 1) := by decide +kernel
theorem dX4_pass_0 : decode cX4_pass 0 = .ok (.iconst 0, 1) := by decide +kernel
theorem dX4_pass_1 : decode cX4_pass 1 = .ok (.istore_n 2, 1) := by decide +kernel
theorem dX4_pass_2 : decode cX4_pass 2 = .ok (.iload_n 2, 1) := by decide +kernel
theorem dX4_pass_3 : decode cX4_pass 3 = .ok (.aload_n 0, 1) := by decide +kernel
theorem dX4_pass_4 : decode cX4_pass 4 = .ok (.getfield 27, 3) := by decide +kernel
theorem dX4_pass_7 : decode cX4_pass 7 = .ok (.if_icmp .ge 59, 3) := by decide +kernel
theorem dX4_pass_10 : decode cX4_pass 10 = .ok (.iload_n 2, 1) := by decide +kernel
theorem dX4_pass_11 : decode cX4_pass 11 = .ok (.bipush 6, 2) := by decide +kernel
theorem dX4_pass_13 : decode cX4_pass 13 = .ok (.if_icmp .ge 53, 3) := by decide +kernel
theorem dX4_pass_16 : decode cX4_pass 16 = .ok (.aload_n 0, 1) := by decide +kernel
theorem dX4_pass_17 : decode cX4_pass 17 = .ok (.getfield 32, 3) := by decide +kernel
theorem dX4_pass_20 : decode cX4_pass 20 = .ok (.iload_n 2, 1) := by decide +kernel
theorem dX4_pass_21 : decode cX4_pass 21 = .ok (.aaload, 1) := by decide +kernel
theorem dX4_pass_22 : decode cX4_pass 22 = .ok (.astore_n 3, 1) := by decide +kernel
theorem dX4_pass_23 : decode cX4_pass 23 = .ok (.iconst 0, 1) := by decide +kernel
theorem dX4_pass_24 : decode cX4_pass 24 = .ok (.istore 4, 2) := by decide +kernel
theorem dX4_pass_26 : decode cX4_pass 26 = .ok (.iload 4, 2) := by decide +kernel
theorem dX4_pass_28 : decode cX4_pass 28 = .ok (.iload_n 1, 1) := by decide +kernel
theorem dX4_pass_29 : decode cX4_pass 29 = .ok (.if_icmp .ge 31, 3) := by decide +kernel
theorem dX4_pass_32 : decode cX4_pass 32 = .ok (.aload_n 3, 1) := by decide +kernel
theorem dX4_pass_33 : decode cX4_pass 33 = .ok (.invokevirtual 120, 3) := by decide +kernel
theorem dX4_pass_36 : decode cX4_pass 36 = .ok (.ifCond .eq 24, 3) := by decide +kernel
theorem dX4_pass_39 : decode cX4_pass 39 = .ok (.aload_n 0, 1) := by decide +kernel
theorem dX4_pass_40 : decode cX4_pass 40 = .ok (.aload_n 3, 1) := by decide +kernel
theorem dX4_pass_41 : decode cX4_pass 41 = .ok (.aload_n 0, 1) := by decide +kernel
theorem dX4_pass_42 : decode cX4_pass 42 = .ok (.getfield 9, 3) := by decide +kernel
theorem dX4_pass_45 : decode cX4_pass 45 = .ok (.iload 4, 2) := by decide +kernel
theorem dX4_pass_47 : decode cX4_pass 47 = .ok (.iadd, 1) := by decide +kernel
theorem dX4_pass_48 : decode cX4_pass 48 = .ok (.bipush 12, 2) := by decide +kernel
theorem dX4_pass_50 : decode cX4_pass 50 = .ok (.irem, 1) := by decide +kernel
theorem dX4_pass_51 : decode cX4_pass 51 = .ok (.invokevirtual 123, 3) := by decide +kernel
theorem dX4_pass_54 : decode cX4_pass 54 = .ok (.iinc 4 1, 3) := by decide +kernel
theorem dX4_pass_57 : decode cX4_pass 57 = .ok (.goto (-31), 3) := by decide +kernel
theorem dX4_pass_60 : decode cX4_pass 60 = .ok (.iinc 2 1, 3) := by decide +kernel
theorem dX4_pass_63 : decode cX4_pass 63 = .ok (.goto (-61), 3) := by decide +kernel
theorem dX4_pass_66 : decode cX4_pass 66 = .ok (.aload_n 0, 1) := by decide +kernel
theorem dX4_pass_67 : decode cX4_pass 67 = .ok (.dup, 1) := by decide +kernel
theorem dX4_pass_68 : decode cX4_pass 68 = .ok (.getfield 9, 3) := by decide +kernel
theorem dX4_pass_71 : decode cX4_pass 71 = .ok (.iload_n 1, 1) := by decide +kernel
theorem dX4_pass_72 : decode cX4_pass 72 = .ok (.iadd, 1) := by decide +kernel
theorem dX4_pass_73 : decode cX4_pass 73 = .ok (.putfield 9, 3) := by decide +kernel
theorem dX4_pass_76 : decode cX4_pass 76 = .ok (.return_, 1) := by decide +kernel
theorem dX4_passHour_0 : decode cX4_passHour 0 = .ok (.aload_n 1, 1) := by decide +kernel
theorem dX4_passHour_1 : decode cX4_passHour 1 = .ok (.getfield 89, 3) := by decide +kernel
theorem dX4_passHour_4 : decode cX4_passHour 4 = .ok (.astore_n 3, 1) := by decide +kernel
theorem dX4_passHour_5 : decode cX4_passHour 5 = .ok (.aload_n 0, 1) := by decide +kernel
theorem dX4_passHour_6 : decode cX4_passHour 6 = .ok (.aload_n 1, 1) := by decide +kernel
theorem dX4_passHour_7 : decode cX4_passHour 7 = .ok (.invokevirtual 82, 3) := by decide +kernel
theorem dX4_passHour_10 : decode cX4_passHour 10 = .ok (.istore 4, 2) := by decide +kernel
theorem dX4_passHour_12 : decode cX4_passHour 12 = .ok (.iload_n 2, 1) := by decide +kernel
theorem dX4_passHour_13 : decode cX4_passHour 13 = .ok (.invokestatic 59, 3) := by decide +kernel
theorem dX4_passHour_16 : decode cX4_passHour 16 = .ok (.istore 5, 2) := by decide +kernel
theorem dX4_passHour_18 : decode cX4_passHour 18 = .ok (.aload_n 0, 1) := by decide +kernel
theorem dX4_passHour_19 : decode cX4_passHour 19 = .ok (.getfield 15, 3) := by decide +kernel
theorem dX4_passHour_22 : decode cX4_passHour 22 = .ok (.aload_n 1, 1) := by decide +kernel
theorem dX4_passHour_23 : decode cX4_passHour 23 = .ok (.getfield 66, 3) := by decide +kernel
theorem dX4_passHour_26 : decode cX4_passHour 26 = .ok (.if_icmp .lt 54, 3) := by decide +kernel
theorem dX4_passHour_29 : decode cX4_passHour 29 = .ok (.aload_n 3, 1) := by decide +kernel
theorem dX4_passHour_30 : decode cX4_passHour 30 = .ok (.iload 4, 2) := by decide +kernel
theorem dX4_passHour_32 : decode cX4_passHour 32 = .ok (.iload 5, 2) := by decide +kernel
theorem dX4_passHour_34 : decode cX4_passHour 34 = .ok (.aload_n 0, 1) := by decide +kernel
theorem dX4_passHour_35 : decode cX4_passHour 35 = .ok (.iload_n 2, 1) := by decide +kernel
theorem dX4_passHour_36 : decode cX4_passHour 36 = .ok (.invokevirtual 63, 3) := by decide +kernel
theorem dX4_passHour_39 : decode cX4_passHour 39 = .ok (.aload_n 0, 1) := by decide +kernel
theorem dX4_passHour_40 : decode cX4_passHour 40 = .ok (.getfield 24, 3) := by decide +kernel
theorem dX4_passHour_43 : decode cX4_passHour 43 = .ok (.invokevirtual 96, 3) := by decide +kernel
theorem dX4_passHour_46 : decode cX4_passHour 46 = .ok (.ifCond .eq 34, 3) := by decide +kernel
theorem dX4_passHour_49 : decode cX4_passHour 49 = .ok (.aload_n 3, 1) := by decide +kernel
theorem dX4_passHour_50 : decode cX4_passHour 50 = .ok (.iload 4, 2) := by decide +kernel
theorem dX4_passHour_52 : decode cX4_passHour 52 = .ok (.iload 5, 2) := by decide +kernel
theorem dX4_passHour_54 : decode cX4_passHour 54 = .ok (.aload_n 1, 1) := by decide +kernel
theorem dX4_passHour_55 : decode cX4_passHour 55 = .ok (.getfield 113, 3) := by decide +kernel
theorem dX4_passHour_58 : decode cX4_passHour 58 = .ok (.invokevirtual 116, 3) := by decide +kernel
theorem dX4_passHour_61 : decode cX4_passHour 61 = .ok (.ifCond .eq 8, 3) := by decide +kernel
theorem dX4_passHour_64 : decode cX4_passHour 64 = .ok (.aload_n 1, 1) := by decide +kernel
theorem dX4_passHour_65 : decode cX4_passHour 65 = .ok (.invokevirtual 127, 3) := by decide +kernel
theorem dX4_passHour_68 : decode cX4_passHour 68 = .ok (.return_, 1) := by decide +kernel
theorem dX4_passHour_69 : decode cX4_passHour 69 = .ok (.aload_n 0, 1) := by decide +kernel
theorem dX4_passHour_70 : decode cX4_passHour 70 = .ok (.aload_n 1, 1) := by decide +kernel
theorem dX4_passHour_71 : decode cX4_passHour 71 = .ok (.aload_n 3, 1) := by decide +kernel
theorem dX4_passHour_72 : decode cX4_passHour 72 = .ok (.iload 4, 2) := by decide +kernel
theorem dX4_passHour_74 : decode cX4_passHour 74 = .ok (.invokevirtual 110, 3) := by decide +kernel
theorem dX4_passHour_77 : decode cX4_passHour 77 = .ok (.invokevirtual 130, 3) := by decide +kernel
theorem dX4_passHour_80 : decode cX4_passHour 80 = .ok (.aload_n 0, 1) := by decide +kernel
theorem dX4_passHour_81 : decode cX4_passHour 81 = .ok (.aload_n 1, 1) := by decide +kernel
theorem dX4_passHour_82 : decode cX4_passHour 82 = .ok (.aload_n 3, 1) := by decide +kernel
theorem dX4_passHour_83 : decode cX4_passHour 83 = .ok (.iload_n 2, 1) := by decide +kernel
theorem dX4_passHour_84 : decode cX4_passHour 84 = .ok (.iload 5, 2) := by decide +kernel
theorem dX4_passHour_86 : decode cX4_passHour 86 = .ok (.invokevirtual 106, 3) := by decide +kernel
theorem dX4_passHour_89 : decode cX4_passHour 89 = .ok (.invokevirtual 133, 3) := by decide +kernel
theorem dX4_passHour_92 : decode cX4_passHour 92 = .ok (.return_, 1) := by decide +kernel
theorem dX4_turnAway_0 : decode cX4_turnAway 0 = .ok (.aload_n 1, 1) := by decide +kernel
theorem dX4_turnAway_1 : decode cX4_turnAway 1 = .ok (.getfield 75, 3) := by decide +kernel
theorem dX4_turnAway_4 : decode cX4_turnAway 4 = .ok (.istore_n 3, 1) := by decide +kernel
theorem dX4_turnAway_5 : decode cX4_turnAway 5 = .ok (.iload_n 3, 1) := by decide +kernel
theorem dX4_turnAway_6 : decode cX4_turnAway 6 = .ok (.aload_n 0, 1) := by decide +kernel
theorem dX4_turnAway_7 : decode cX4_turnAway 7 = .ok (.getfield 18, 3) := by decide +kernel
theorem dX4_turnAway_10 : decode cX4_turnAway 10 = .ok (.if_icmp .gt 24, 3) := by decide +kernel
theorem dX4_turnAway_13 : decode cX4_turnAway 13 = .ok (.aload_n 1, 1) := by decide +kernel
theorem dX4_turnAway_14 : decode cX4_turnAway 14 = .ok (.iconst 0, 1) := by decide +kernel
theorem dX4_turnAway_15 : decode cX4_turnAway 15 = .ok (.aload_n 0, 1) := by decide +kernel
theorem dX4_turnAway_16 : decode cX4_turnAway 16 = .ok (.getfield 18, 3) := by decide +kernel
theorem dX4_turnAway_19 : decode cX4_turnAway 19 = .ok (.iload_n 3, 1) := by decide +kernel
theorem dX4_turnAway_20 : decode cX4_turnAway 20 = .ok (.iload_n 2, 1) := by decide +kernel
theorem dX4_turnAway_21 : decode cX4_turnAway 21 = .ok (.isub, 1) := by decide +kernel
theorem dX4_turnAway_22 : decode cX4_turnAway 22 = .ok (.invokestatic 136, 3) := by decide +kernel
theorem dX4_turnAway_25 : decode cX4_turnAway 25 = .ok (.invokestatic 78, 3) := by decide +kernel
theorem dX4_turnAway_28 : decode cX4_turnAway 28 = .ok (.putfield 75, 3) := by decide +kernel
theorem dX4_turnAway_31 : decode cX4_turnAway 31 = .ok (.goto 22, 3) := by decide +kernel
theorem dX4_turnAway_34 : decode cX4_turnAway 34 = .ok (.aload_n 1, 1) := by decide +kernel
theorem dX4_turnAway_35 : decode cX4_turnAway 35 = .ok (.bipush 9, 2) := by decide +kernel
theorem dX4_turnAway_37 : decode cX4_turnAway 37 = .ok (.aload_n 0, 1) := by decide +kernel
theorem dX4_turnAway_38 : decode cX4_turnAway 38 = .ok (.getfield 18, 3) := by decide +kernel
theorem dX4_turnAway_41 : decode cX4_turnAway 41 = .ok (.iload_n 3, 1) := by decide +kernel
theorem dX4_turnAway_42 : decode cX4_turnAway 42 = .ok (.iload_n 2, 1) := by decide +kernel
theorem dX4_turnAway_43 : decode cX4_turnAway 43 = .ok (.iadd, 1) := by decide +kernel
theorem dX4_turnAway_44 : decode cX4_turnAway 44 = .ok (.invokestatic 78, 3) := by decide +kernel
theorem dX4_turnAway_47 : decode cX4_turnAway 47 = .ok (.invokestatic 136, 3) := by decide +kernel
theorem dX4_turnAway_50 : decode cX4_turnAway 50 = .ok (.putfield 75, 3) := by decide +kernel
theorem dX4_turnAway_53 : decode cX4_turnAway 53 = .ok (.aload_n 1, 1) := by decide +kernel
theorem dX4_turnAway_54 : decode cX4_turnAway 54 = .ok (.getfield 75, 3) := by decide +kernel
theorem dX4_turnAway_57 : decode cX4_turnAway 57 = .ok (.iload_n 3, 1) := by decide +kernel
theorem dX4_turnAway_58 : decode cX4_turnAway 58 = .ok (.if_icmp .eq 7, 3) := by decide +kernel
theorem dX4_turnAway_61 : decode cX4_turnAway 61 = .ok (.aload_n 1, 1) := by decide +kernel
theorem dX4_turnAway_62 : decode cX4_turnAway 62 = .ok (.invokevirtual 127, 3) := by decide +kernel
theorem dX4_turnAway_65 : decode cX4_turnAway 65 = .ok (.return_, 1) := by decide +kernel
theorem dX4_advance_0 : decode cX4_advance 0 = .ok (.iconst 0, 1) := by decide +kernel
theorem dX4_advance_1 : decode cX4_advance 1 = .ok (.istore_n 3, 1) := by decide +kernel
theorem dX4_advance_2 : decode cX4_advance 2 = .ok (.iload_n 3, 1) := by decide +kernel
theorem dX4_advance_3 : decode cX4_advance 3 = .ok (.iload_n 2, 1) := by decide +kernel
theorem dX4_advance_4 : decode cX4_advance 4 = .ok (.if_icmp .ge 77, 3) := by decide +kernel
theorem dX4_advance_7 : decode cX4_advance 7 = .ok (.aload_n 1, 1) := by decide +kernel
theorem dX4_advance_8 : decode cX4_advance 8 = .ok (.invokevirtual 120, 3) := by decide +kernel
theorem dX4_advance_11 : decode cX4_advance 11 = .ok (.ifCond .eq 70, 3) := by decide +kernel
theorem dX4_advance_14 : decode cX4_advance 14 = .ok (.aload_n 1, 1) := by decide +kernel
theorem dX4_advance_15 : decode cX4_advance 15 = .ok (.dup, 1) := by decide +kernel
theorem dX4_advance_16 : decode cX4_advance 16 = .ok (.getfield 66, 3) := by decide +kernel
theorem dX4_advance_19 : decode cX4_advance 19 = .ok (.iconst 1, 1) := by decide +kernel
theorem dX4_advance_20 : decode cX4_advance 20 = .ok (.iadd, 1) := by decide +kernel
theorem dX4_advance_21 : decode cX4_advance 21 = .ok (.putfield 66, 3) := by decide +kernel
theorem dX4_advance_24 : decode cX4_advance 24 = .ok (.aload_n 1, 1) := by decide +kernel
theorem dX4_advance_25 : decode cX4_advance 25 = .ok (.getfield 66, 3) := by decide +kernel
theorem dX4_advance_28 : decode cX4_advance 28 = .ok (.bipush 19, 2) := by decide +kernel
theorem dX4_advance_30 : decode cX4_advance 30 = .ok (.if_icmp .le 11, 3) := by decide +kernel
theorem dX4_advance_33 : decode cX4_advance 33 = .ok (.aload_n 1, 1) := by decide +kernel
theorem dX4_advance_34 : decode cX4_advance 34 = .ok (.iconst 1, 1) := by decide +kernel
theorem dX4_advance_35 : decode cX4_advance 35 = .ok (.putfield 139, 3) := by decide +kernel
theorem dX4_advance_38 : decode cX4_advance 38 = .ok (.goto 37, 3) := by decide +kernel
theorem dX4_advance_41 : decode cX4_advance 41 = .ok (.aload_n 0, 1) := by decide +kernel
theorem dX4_advance_42 : decode cX4_advance 42 = .ok (.aload_n 1, 1) := by decide +kernel
theorem dX4_advance_43 : decode cX4_advance 43 = .ok (.invokevirtual 82, 3) := by decide +kernel
theorem dX4_advance_46 : decode cX4_advance 46 = .ok (.istore 4, 2) := by decide +kernel
theorem dX4_advance_48 : decode cX4_advance 48 = .ok (.aload_n 1, 1) := by decide +kernel
theorem dX4_advance_49 : decode cX4_advance 49 = .ok (.aload_n 1, 1) := by decide +kernel
theorem dX4_advance_50 : decode cX4_advance 50 = .ok (.getfield 143, 3) := by decide +kernel
theorem dX4_advance_53 : decode cX4_advance 53 = .ok (.iload 4, 2) := by decide +kernel
theorem dX4_advance_55 : decode cX4_advance 55 = .ok (.invokestatic 136, 3) := by decide +kernel
theorem dX4_advance_58 : decode cX4_advance 58 = .ok (.putfield 143, 3) := by decide +kernel
theorem dX4_advance_61 : decode cX4_advance 61 = .ok (.aload_n 1, 1) := by decide +kernel
theorem dX4_advance_62 : decode cX4_advance 62 = .ok (.iload 4, 2) := by decide +kernel
theorem dX4_advance_64 : decode cX4_advance 64 = .ok (.ifCond .ne 7, 3) := by decide +kernel
theorem dX4_advance_67 : decode cX4_advance 67 = .ok (.iconst 1, 1) := by decide +kernel
theorem dX4_advance_68 : decode cX4_advance 68 = .ok (.goto 4, 3) := by decide +kernel
theorem dX4_advance_71 : decode cX4_advance 71 = .ok (.iconst 0, 1) := by decide +kernel
theorem dX4_advance_72 : decode cX4_advance 72 = .ok (.putfield 146, 3) := by decide +kernel
theorem dX4_advance_75 : decode cX4_advance 75 = .ok (.iinc 3 1, 3) := by decide +kernel
theorem dX4_advance_78 : decode cX4_advance 78 = .ok (.goto (-76), 3) := by decide +kernel
theorem dX4_advance_81 : decode cX4_advance 81 = .ok (.return_, 1) := by decide +kernel
theorem dX4_lostOnes_0 : decode cX4_lostOnes 0 = .ok (.iconst 0, 1) := by decide +kernel
theorem dX4_lostOnes_1 : decode cX4_lostOnes 1 = .ok (.istore_n 1, 1) := by decide +kernel
theorem dX4_lostOnes_2 : decode cX4_lostOnes 2 = .ok (.iconst 0, 1) := by decide +kernel
theorem dX4_lostOnes_3 : decode cX4_lostOnes 3 = .ok (.istore_n 2, 1) := by decide +kernel
theorem dX4_lostOnes_4 : decode cX4_lostOnes 4 = .ok (.iload_n 2, 1) := by decide +kernel
theorem dX4_lostOnes_5 : decode cX4_lostOnes 5 = .ok (.aload_n 0, 1) := by decide +kernel
theorem dX4_lostOnes_6 : decode cX4_lostOnes 6 = .ok (.getfield 27, 3) := by decide +kernel
theorem dX4_lostOnes_9 : decode cX4_lostOnes 9 = .ok (.if_icmp .ge 32, 3) := by decide +kernel
theorem dX4_lostOnes_12 : decode cX4_lostOnes 12 = .ok (.iload_n 2, 1) := by decide +kernel
theorem dX4_lostOnes_13 : decode cX4_lostOnes 13 = .ok (.bipush 6, 2) := by decide +kernel
theorem dX4_lostOnes_15 : decode cX4_lostOnes 15 = .ok (.if_icmp .ge 26, 3) := by decide +kernel
theorem dX4_lostOnes_18 : decode cX4_lostOnes 18 = .ok (.iload_n 1, 1) := by decide +kernel
theorem dX4_lostOnes_19 : decode cX4_lostOnes 19 = .ok (.aload_n 0, 1) := by decide +kernel
theorem dX4_lostOnes_20 : decode cX4_lostOnes 20 = .ok (.getfield 32, 3) := by decide +kernel
theorem dX4_lostOnes_23 : decode cX4_lostOnes 23 = .ok (.iload_n 2, 1) := by decide +kernel
theorem dX4_lostOnes_24 : decode cX4_lostOnes 24 = .ok (.aaload, 1) := by decide +kernel
theorem dX4_lostOnes_25 : decode cX4_lostOnes 25 = .ok (.getfield 146, 3) := by decide +kernel
theorem dX4_lostOnes_28 : decode cX4_lostOnes 28 = .ok (.invokestatic 102, 3) := by decide +kernel
theorem dX4_lostOnes_31 : decode cX4_lostOnes 31 = .ok (.iload_n 2, 1) := by decide +kernel
theorem dX4_lostOnes_32 : decode cX4_lostOnes 32 = .ok (.ishl, 1) := by decide +kernel
theorem dX4_lostOnes_33 : decode cX4_lostOnes 33 = .ok (.ior, 1) := by decide +kernel
theorem dX4_lostOnes_34 : decode cX4_lostOnes 34 = .ok (.istore_n 1, 1) := by decide +kernel
theorem dX4_lostOnes_35 : decode cX4_lostOnes 35 = .ok (.iinc 2 1, 3) := by decide +kernel
theorem dX4_lostOnes_38 : decode cX4_lostOnes 38 = .ok (.goto (-34), 3) := by decide +kernel
theorem dX4_lostOnes_41 : decode cX4_lostOnes 41 = .ok (.iload_n 1, 1) := by decide +kernel
theorem dX4_lostOnes_42 : decode cX4_lostOnes 42 = .ok (.ireturn, 1) := by decide +kernel
theorem dX4_onesBy_0 : decode cX4_onesBy 0 = .ok (.iconst 0, 1) := by decide +kernel
theorem dX4_onesBy_1 : decode cX4_onesBy 1 = .ok (.istore_n 1, 1) := by decide +kernel
theorem dX4_onesBy_2 : decode cX4_onesBy 2 = .ok (.iconst 0, 1) := by decide +kernel
theorem dX4_onesBy_3 : decode cX4_onesBy 3 = .ok (.istore_n 2, 1) := by decide +kernel
theorem dX4_onesBy_4 : decode cX4_onesBy 4 = .ok (.iload_n 2, 1) := by decide +kernel
theorem dX4_onesBy_5 : decode cX4_onesBy 5 = .ok (.aload_n 0, 1) := by decide +kernel
theorem dX4_onesBy_6 : decode cX4_onesBy 6 = .ok (.getfield 27, 3) := by decide +kernel
theorem dX4_onesBy_9 : decode cX4_onesBy 9 = .ok (.if_icmp .ge 32, 3) := by decide +kernel
theorem dX4_onesBy_12 : decode cX4_onesBy 12 = .ok (.iload_n 2, 1) := by decide +kernel
theorem dX4_onesBy_13 : decode cX4_onesBy 13 = .ok (.bipush 6, 2) := by decide +kernel
theorem dX4_onesBy_15 : decode cX4_onesBy 15 = .ok (.if_icmp .ge 26, 3) := by decide +kernel
theorem dX4_onesBy_18 : decode cX4_onesBy 18 = .ok (.iload_n 1, 1) := by decide +kernel
theorem dX4_onesBy_19 : decode cX4_onesBy 19 = .ok (.aload_n 0, 1) := by decide +kernel
theorem dX4_onesBy_20 : decode cX4_onesBy 20 = .ok (.getfield 32, 3) := by decide +kernel
theorem dX4_onesBy_23 : decode cX4_onesBy 23 = .ok (.iload_n 2, 1) := by decide +kernel
theorem dX4_onesBy_24 : decode cX4_onesBy 24 = .ok (.aaload, 1) := by decide +kernel
theorem dX4_onesBy_25 : decode cX4_onesBy 25 = .ok (.getfield 139, 3) := by decide +kernel
theorem dX4_onesBy_28 : decode cX4_onesBy 28 = .ok (.invokestatic 102, 3) := by decide +kernel
theorem dX4_onesBy_31 : decode cX4_onesBy 31 = .ok (.iload_n 2, 1) := by decide +kernel
theorem dX4_onesBy_32 : decode cX4_onesBy 32 = .ok (.ishl, 1) := by decide +kernel
theorem dX4_onesBy_33 : decode cX4_onesBy 33 = .ok (.ior, 1) := by decide +kernel
theorem dX4_onesBy_34 : decode cX4_onesBy 34 = .ok (.istore_n 1, 1) := by decide +kernel
theorem dX4_onesBy_35 : decode cX4_onesBy 35 = .ok (.iinc 2 1, 3) := by decide +kernel
theorem dX4_onesBy_38 : decode cX4_onesBy 38 = .ok (.goto (-34), 3) := by decide +kernel
theorem dX4_onesBy_41 : decode cX4_onesBy 41 = .ok (.iload_n 1, 1) := by decide +kernel
theorem dX4_onesBy_42 : decode cX4_onesBy 42 = .ok (.ireturn, 1) := by decide +kernel
theorem dX4_costOfAll_0 : decode cX4_costOfAll 0 = .ok (.iconst 0, 1) := by decide +kernel
theorem dX4_costOfAll_1 : decode cX4_costOfAll 1 = .ok (.istore_n 1, 1) := by decide +kernel
theorem dX4_costOfAll_2 : decode cX4_costOfAll 2 = .ok (.iconst 0, 1) := by decide +kernel
theorem dX4_costOfAll_3 : decode cX4_costOfAll 3 = .ok (.istore_n 2, 1) := by decide +kernel
theorem dX4_costOfAll_4 : decode cX4_costOfAll 4 = .ok (.iload_n 2, 1) := by decide +kernel
theorem dX4_costOfAll_5 : decode cX4_costOfAll 5 = .ok (.aload_n 0, 1) := by decide +kernel
theorem dX4_costOfAll_6 : decode cX4_costOfAll 6 = .ok (.getfield 27, 3) := by decide +kernel
theorem dX4_costOfAll_9 : decode cX4_costOfAll 9 = .ok (.if_icmp .ge 27, 3) := by decide +kernel
theorem dX4_costOfAll_12 : decode cX4_costOfAll 12 = .ok (.iload_n 2, 1) := by decide +kernel
theorem dX4_costOfAll_13 : decode cX4_costOfAll 13 = .ok (.bipush 6, 2) := by decide +kernel
theorem dX4_costOfAll_15 : decode cX4_costOfAll 15 = .ok (.if_icmp .ge 21, 3) := by decide +kernel
theorem dX4_costOfAll_18 : decode cX4_costOfAll 18 = .ok (.iload_n 1, 1) := by decide +kernel
theorem dX4_costOfAll_19 : decode cX4_costOfAll 19 = .ok (.aload_n 0, 1) := by decide +kernel
theorem dX4_costOfAll_20 : decode cX4_costOfAll 20 = .ok (.getfield 32, 3) := by decide +kernel
theorem dX4_costOfAll_23 : decode cX4_costOfAll 23 = .ok (.iload_n 2, 1) := by decide +kernel
theorem dX4_costOfAll_24 : decode cX4_costOfAll 24 = .ok (.aaload, 1) := by decide +kernel
theorem dX4_costOfAll_25 : decode cX4_costOfAll 25 = .ok (.getfield 113, 3) := by decide +kernel
theorem dX4_costOfAll_28 : decode cX4_costOfAll 28 = .ok (.iadd, 1) := by decide +kernel
theorem dX4_costOfAll_29 : decode cX4_costOfAll 29 = .ok (.istore_n 1, 1) := by decide +kernel
theorem dX4_costOfAll_30 : decode cX4_costOfAll 30 = .ok (.iinc 2 1, 3) := by decide +kernel
theorem dX4_costOfAll_33 : decode cX4_costOfAll 33 = .ok (.goto (-29), 3) := by decide +kernel
theorem dX4_costOfAll_36 : decode cX4_costOfAll 36 = .ok (.iload_n 1, 1) := by decide +kernel
theorem dX4_costOfAll_37 : decode cX4_costOfAll 37 = .ok (.ireturn, 1) := by decide +kernel
theorem dX4_nearestOne_0 : decode cX4_nearestOne 0 = .ok (.iconst 0, 1) := by decide +kernel
theorem dX4_nearestOne_1 : decode cX4_nearestOne 1 = .ok (.istore_n 1, 1) := by decide +kernel
theorem dX4_nearestOne_2 : decode cX4_nearestOne 2 = .ok (.iconst 1, 1) := by decide +kernel
theorem dX4_nearestOne_3 : decode cX4_nearestOne 3 = .ok (.istore_n 2, 1) := by decide +kernel
theorem dX4_nearestOne_4 : decode cX4_nearestOne 4 = .ok (.iload_n 2, 1) := by decide +kernel
theorem dX4_nearestOne_5 : decode cX4_nearestOne 5 = .ok (.aload_n 0, 1) := by decide +kernel
theorem dX4_nearestOne_6 : decode cX4_nearestOne 6 = .ok (.getfield 27, 3) := by decide +kernel
theorem dX4_nearestOne_9 : decode cX4_nearestOne 9 = .ok (.if_icmp .ge 38, 3) := by decide +kernel
theorem dX4_nearestOne_12 : decode cX4_nearestOne 12 = .ok (.iload_n 2, 1) := by decide +kernel
theorem dX4_nearestOne_13 : decode cX4_nearestOne 13 = .ok (.bipush 6, 2) := by decide +kernel
theorem dX4_nearestOne_15 : decode cX4_nearestOne 15 = .ok (.if_icmp .ge 32, 3) := by decide +kernel
theorem dX4_nearestOne_18 : decode cX4_nearestOne 18 = .ok (.aload_n 0, 1) := by decide +kernel
theorem dX4_nearestOne_19 : decode cX4_nearestOne 19 = .ok (.getfield 32, 3) := by decide +kernel
theorem dX4_nearestOne_22 : decode cX4_nearestOne 22 = .ok (.iload_n 2, 1) := by decide +kernel
theorem dX4_nearestOne_23 : decode cX4_nearestOne 23 = .ok (.aaload, 1) := by decide +kernel
theorem dX4_nearestOne_24 : decode cX4_nearestOne 24 = .ok (.getfield 143, 3) := by decide +kernel
theorem dX4_nearestOne_27 : decode cX4_nearestOne 27 = .ok (.aload_n 0, 1) := by decide +kernel
theorem dX4_nearestOne_28 : decode cX4_nearestOne 28 = .ok (.getfield 32, 3) := by decide +kernel
theorem dX4_nearestOne_31 : decode cX4_nearestOne 31 = .ok (.iload_n 1, 1) := by decide +kernel
theorem dX4_nearestOne_32 : decode cX4_nearestOne 32 = .ok (.aaload, 1) := by decide +kernel
theorem dX4_nearestOne_33 : decode cX4_nearestOne 33 = .ok (.getfield 143, 3) := by decide +kernel
theorem dX4_nearestOne_36 : decode cX4_nearestOne 36 = .ok (.if_icmp .ge 5, 3) := by decide +kernel
theorem dX4_nearestOne_39 : decode cX4_nearestOne 39 = .ok (.iload_n 2, 1) := by decide +kernel
theorem dX4_nearestOne_40 : decode cX4_nearestOne 40 = .ok (.istore_n 1, 1) := by decide +kernel
theorem dX4_nearestOne_41 : decode cX4_nearestOne 41 = .ok (.iinc 2 1, 3) := by decide +kernel
theorem dX4_nearestOne_44 : decode cX4_nearestOne 44 = .ok (.goto (-40), 3) := by decide +kernel
theorem dX4_nearestOne_47 : decode cX4_nearestOne 47 = .ok (.iload_n 1, 1) := by decide +kernel
theorem dX4_nearestOne_48 : decode cX4_nearestOne 48 = .ok (.ireturn, 1) := by decide +kernel
theorem dX5_init_0 : decode cX5_init 0 = .ok (.aload_n 0, 1) := by decide +kernel
theorem dX5_init_1 : decode cX5_init 1 = .ok (.invokespecial 3, 3) := by decide +kernel
theorem dX5_init_4 : decode cX5_init 4 = .ok (.aload_n 0, 1) := by decide +kernel
theorem dX5_init_5 : decode cX5_init 5 = .ok (.aload_n 1, 1) := by decide +kernel
theorem dX5_init_6 : decode cX5_init 6 = .ok (.putfield 9, 3) := by decide +kernel
theorem dX5_init_9 : decode cX5_init 9 = .ok (.aload_n 0, 1) := by decide +kernel
theorem dX5_init_10 : decode cX5_init 10 = .ok (.aload_n 2, 1) := by decide +kernel
theorem dX5_init_11 : decode cX5_init 11 = .ok (.putfield 15, 3) := by decide +kernel
theorem dX5_init_14 : decode cX5_init 14 = .ok (.return_, 1) := by decide +kernel
theorem dX5_tell_0 : decode cX5_tell 0 = .ok (.aload_n 0, 1) := by decide +kernel
theorem dX5_tell_1 : decode cX5_tell 1 = .ok (.iconst 0, 1) := by decide +kernel
theorem dX5_tell_2 : decode cX5_tell 2 = .ok (.putfield 19, 3) := by decide +kernel
theorem dX5_tell_5 : decode cX5_tell 5 = .ok (.iconst 1, 1) := by decide +kernel
theorem dX5_tell_6 : decode cX5_tell 6 = .ok (.istore_n 2, 1) := by decide +kernel
theorem dX5_tell_7 : decode cX5_tell 7 = .ok (.iload_n 2, 1) := by decide +kernel
theorem dX5_tell_8 : decode cX5_tell 8 = .ok (.bipush 120, 2) := by decide +kernel
theorem dX5_tell_10 : decode cX5_tell 10 = .ok (.if_icmp .gt 52, 3) := by decide +kernel
theorem dX5_tell_13 : decode cX5_tell 13 = .ok (.aload_n 0, 1) := by decide +kernel
theorem dX5_tell_14 : decode cX5_tell 14 = .ok (.invokevirtual 23, 3) := by decide +kernel
theorem dX5_tell_17 : decode cX5_tell 17 = .ok (.aload_n 0, 1) := by decide +kernel
theorem dX5_tell_18 : decode cX5_tell 18 = .ok (.aload_n 1, 1) := by decide +kernel
theorem dX5_tell_19 : decode cX5_tell 19 = .ok (.invokevirtual 26, 3) := by decide +kernel
theorem dX5_tell_22 : decode cX5_tell 22 = .ok (.ifCond .ne 10, 3) := by decide +kernel
theorem dX5_tell_25 : decode cX5_tell 25 = .ok (.iconst (-1), 1) := by decide +kernel
theorem dX5_tell_26 : decode cX5_tell 26 = .ok (.aload_n 0, 1) := by decide +kernel
theorem dX5_tell_27 : decode cX5_tell 27 = .ok (.getfield 30, 3) := by decide +kernel
theorem dX5_tell_30 : decode cX5_tell 30 = .ok (.isub, 1) := by decide +kernel
theorem dX5_tell_31 : decode cX5_tell 31 = .ok (.ireturn, 1) := by decide +kernel
theorem dX5_tell_32 : decode cX5_tell 32 = .ok (.aload_n 0, 1) := by decide +kernel
theorem dX5_tell_33 : decode cX5_tell 33 = .ok (.getfield 33, 3) := by decide +kernel
theorem dX5_tell_36 : decode cX5_tell 36 = .ok (.ifCond .ne 5, 3) := by decide +kernel
theorem dX5_tell_39 : decode cX5_tell 39 = .ok (.iload_n 2, 1) := by decide +kernel
theorem dX5_tell_40 : decode cX5_tell 40 = .ok (.ireturn, 1) := by decide +kernel
theorem dX5_tell_41 : decode cX5_tell 41 = .ok (.aload_n 0, 1) := by decide +kernel
theorem dX5_tell_42 : decode cX5_tell 42 = .ok (.getfield 33, 3) := by decide +kernel
theorem dX5_tell_45 : decode cX5_tell 45 = .ok (.iconst 3, 1) := by decide +kernel
theorem dX5_tell_46 : decode cX5_tell 46 = .ok (.if_icmp .eq 10, 3) := by decide +kernel
theorem dX5_tell_49 : decode cX5_tell 49 = .ok (.iconst (-1), 1) := by decide +kernel
theorem dX5_tell_50 : decode cX5_tell 50 = .ok (.aload_n 0, 1) := by decide +kernel
theorem dX5_tell_51 : decode cX5_tell 51 = .ok (.getfield 30, 3) := by decide +kernel
theorem dX5_tell_54 : decode cX5_tell 54 = .ok (.isub, 1) := by decide +kernel
theorem dX5_tell_55 : decode cX5_tell 55 = .ok (.ireturn, 1) := by decide +kernel
theorem dX5_tell_56 : decode cX5_tell 56 = .ok (.iinc 2 1, 3) := by decide +kernel
theorem dX5_tell_59 : decode cX5_tell 59 = .ok (.goto (-52), 3) := by decide +kernel
theorem dX5_tell_62 : decode cX5_tell 62 = .ok (.iconst (-1), 1) := by decide +kernel
theorem dX5_tell_63 : decode cX5_tell 63 = .ok (.aload_n 0, 1) := by decide +kernel
theorem dX5_tell_64 : decode cX5_tell 64 = .ok (.getfield 30, 3) := by decide +kernel
theorem dX5_tell_67 : decode cX5_tell 67 = .ok (.isub, 1) := by decide +kernel
theorem dX5_tell_68 : decode cX5_tell 68 = .ok (.ireturn, 1) := by decide +kernel
theorem dX5_takeItem_0 : decode cX5_takeItem 0 = .ok (.aload_n 0, 1) := by decide +kernel
theorem dX5_takeItem_1 : decode cX5_takeItem 1 = .ok (.getfield 33, 3) := by decide +kernel
theorem dX5_takeItem_4 : decode cX5_takeItem 4 = .ok (.iconst 1, 1) := by decide +kernel
theorem dX5_takeItem_5 : decode cX5_takeItem 5 = .ok (.if_icmp .eq 5, 3) := by decide +kernel
theorem dX5_takeItem_8 : decode cX5_takeItem 8 = .ok (.iconst 0, 1) := by decide +kernel
theorem dX5_takeItem_9 : decode cX5_takeItem 9 = .ok (.ireturn, 1) := by decide +kernel
theorem dX5_takeItem_10 : decode cX5_takeItem 10 = .ok (.iconst 0, 1) := by decide +kernel
theorem dX5_takeItem_11 : decode cX5_takeItem 11 = .ok (.istore_n 2, 1) := by decide +kernel
theorem dX5_takeItem_12 : decode cX5_takeItem 12 = .ok (.iload_n 2, 1) := by decide +kernel
theorem dX5_takeItem_13 : decode cX5_takeItem 13 = .ok (.aload_n 0, 1) := by decide +kernel
theorem dX5_takeItem_14 : decode cX5_takeItem 14 = .ok (.getfield 15, 3) := by decide +kernel
theorem dX5_takeItem_17 : decode cX5_takeItem 17 = .ok (.arraylength, 1) := by decide +kernel
theorem dX5_takeItem_18 : decode cX5_takeItem 18 = .ok (.if_icmp .ge 37, 3) := by decide +kernel
theorem dX5_takeItem_21 : decode cX5_takeItem 21 = .ok (.aload_n 0, 1) := by decide +kernel
theorem dX5_takeItem_22 : decode cX5_takeItem 22 = .ok (.aload_n 0, 1) := by decide +kernel
theorem dX5_takeItem_23 : decode cX5_takeItem 23 = .ok (.getfield 15, 3) := by decide +kernel
theorem dX5_takeItem_26 : decode cX5_takeItem 26 = .ok (.iload_n 2, 1) := by decide +kernel
theorem dX5_takeItem_27 : decode cX5_takeItem 27 = .ok (.aaload, 1) := by decide +kernel
theorem dX5_takeItem_28 : decode cX5_takeItem 28 = .ok (.invokevirtual 36, 3) := by decide +kernel
theorem dX5_takeItem_31 : decode cX5_takeItem 31 = .ok (.invokevirtual 42, 3) := by decide +kernel
theorem dX5_takeItem_34 : decode cX5_takeItem 34 = .ok (.ifCond .eq 15, 3) := by decide +kernel
theorem dX5_takeItem_37 : decode cX5_takeItem 37 = .ok (.aload_n 0, 1) := by decide +kernel
theorem dX5_takeItem_38 : decode cX5_takeItem 38 = .ok (.aload_n 1, 1) := by decide +kernel
theorem dX5_takeItem_39 : decode cX5_takeItem 39 = .ok (.aload_n 0, 1) := by decide +kernel
theorem dX5_takeItem_40 : decode cX5_takeItem 40 = .ok (.getfield 15, 3) := by decide +kernel
theorem dX5_takeItem_43 : decode cX5_takeItem 43 = .ok (.iload_n 2, 1) := by decide +kernel
theorem dX5_takeItem_44 : decode cX5_takeItem 44 = .ok (.aaload, 1) := by decide +kernel
theorem dX5_takeItem_45 : decode cX5_takeItem 45 = .ok (.invokevirtual 46, 3) := by decide +kernel
theorem dX5_takeItem_48 : decode cX5_takeItem 48 = .ok (.ireturn, 1) := by decide +kernel
theorem dX5_takeItem_49 : decode cX5_takeItem 49 = .ok (.iinc 2 1, 3) := by decide +kernel
theorem dX5_takeItem_52 : decode cX5_takeItem 52 = .ok (.goto (-40), 3) := by decide +kernel
theorem dX5_takeItem_55 : decode cX5_takeItem 55 = .ok (.aload_n 0, 1) := by decide +kernel
theorem dX5_takeItem_56 : decode cX5_takeItem 56 = .ok (.ldc 50, 2) := by decide +kernel
theorem dX5_takeItem_58 : decode cX5_takeItem 58 = .ok (.invokevirtual 42, 3) := by decide +kernel
theorem dX5_takeItem_61 : decode cX5_takeItem 61 = .ok (.ifCond .eq 9, 3) := by decide +kernel
theorem dX5_takeItem_64 : decode cX5_takeItem 64 = .ok (.aload_n 0, 1) := by decide +kernel
theorem dX5_takeItem_65 : decode cX5_takeItem 65 = .ok (.aload_n 1, 1) := by decide +kernel
theorem dX5_takeItem_66 : decode cX5_takeItem 66 = .ok (.invokevirtual 52, 3) := by decide +kernel
theorem dX5_takeItem_69 : decode cX5_takeItem 69 = .ok (.ireturn, 1) := by decide +kernel
theorem dX5_takeItem_70 : decode cX5_takeItem 70 = .ok (.aload_n 0, 1) := by decide +kernel
theorem dX5_takeItem_71 : decode cX5_takeItem 71 = .ok (.ldc 55, 2) := by decide +kernel
theorem dX5_takeItem_73 : decode cX5_takeItem 73 = .ok (.invokevirtual 42, 3) := by decide +kernel
theorem dX5_takeItem_76 : decode cX5_takeItem 76 = .ok (.ifCond .eq 10, 3) := by decide +kernel
theorem dX5_takeItem_79 : decode cX5_takeItem 79 = .ok (.aload_n 0, 1) := by decide +kernel
theorem dX5_takeItem_80 : decode cX5_takeItem 80 = .ok (.aload_n 1, 1) := by decide +kernel
theorem dX5_takeItem_81 : decode cX5_takeItem 81 = .ok (.iconst 1, 1) := by decide +kernel
theorem dX5_takeItem_82 : decode cX5_takeItem 82 = .ok (.invokevirtual 57, 3) := by decide +kernel
theorem dX5_takeItem_85 : decode cX5_takeItem 85 = .ok (.ireturn, 1) := by decide +kernel
theorem dX5_takeItem_86 : decode cX5_takeItem 86 = .ok (.aload_n 0, 1) := by decide +kernel
theorem dX5_takeItem_87 : decode cX5_takeItem 87 = .ok (.ldc 61, 2) := by decide +kernel
theorem dX5_takeItem_89 : decode cX5_takeItem 89 = .ok (.invokevirtual 42, 3) := by decide +kernel
theorem dX5_takeItem_92 : decode cX5_takeItem 92 = .ok (.ifCond .eq 10, 3) := by decide +kernel
theorem dX5_takeItem_95 : decode cX5_takeItem 95 = .ok (.aload_n 0, 1) := by decide +kernel
theorem dX5_takeItem_96 : decode cX5_takeItem 96 = .ok (.aload_n 1, 1) := by decide +kernel
theorem dX5_takeItem_97 : decode cX5_takeItem 97 = .ok (.iconst 0, 1) := by decide +kernel
theorem dX5_takeItem_98 : decode cX5_takeItem 98 = .ok (.invokevirtual 57, 3) := by decide +kernel
theorem dX5_takeItem_101 : decode cX5_takeItem 101 = .ok (.ireturn, 1) := by decide +kernel
theorem dX5_takeItem_102 : decode cX5_takeItem 102 = .ok (.aload_n 0, 1) := by decide +kernel
theorem dX5_takeItem_103 : decode cX5_takeItem 103 = .ok (.ldc 63, 2) := by decide +kernel
theorem dX5_takeItem_105 : decode cX5_takeItem 105 = .ok (.invokevirtual 42, 3) := by decide +kernel
theorem dX5_takeItem_108 : decode cX5_takeItem 108 = .ok (.ifCond .eq 15, 3) := by decide +kernel
theorem dX5_takeItem_111 : decode cX5_takeItem 111 = .ok (.aload_n 0, 1) := by decide +kernel
theorem dX5_takeItem_112 : decode cX5_takeItem 112 = .ok (.aload_n 1, 1) := by decide +kernel
theorem dX5_takeItem_113 : decode cX5_takeItem 113 = .ok (.invokevirtual 65, 3) := by decide +kernel
theorem dX5_takeItem_116 : decode cX5_takeItem 116 = .ok (.ifCond .eq 7, 3) := by decide +kernel
theorem dX5_takeItem_119 : decode cX5_takeItem 119 = .ok (.iconst 1, 1) := by decide +kernel
theorem dX5_takeItem_120 : decode cX5_takeItem 120 = .ok (.goto 4, 3) := by decide +kernel
theorem dX5_takeItem_123 : decode cX5_takeItem 123 = .ok (.iconst 0, 1) := by decide +kernel
theorem dX5_takeItem_124 : decode cX5_takeItem 124 = .ok (.ireturn, 1) := by decide +kernel
theorem dX5_takeShip_0 : decode cX5_takeShip 0 = .ok (.aload_n 1, 1) := by decide +kernel
theorem dX5_takeShip_1 : decode cX5_takeShip 1 = .ok (.invokevirtual 68, 3) := by decide +kernel
theorem dX5_takeShip_4 : decode cX5_takeShip 4 = .ok (.ifCond .eq 5, 3) := by decide +kernel
theorem dX5_takeShip_7 : decode cX5_takeShip 7 = .ok (.iconst 0, 1) := by decide +kernel
theorem dX5_takeShip_8 : decode cX5_takeShip 8 = .ok (.ireturn, 1) := by decide +kernel
theorem dX5_takeShip_9 : decode cX5_takeShip 9 = .ok (.aload_n 0, 1) := by decide +kernel
theorem dX5_takeShip_10 : decode cX5_takeShip 10 = .ok (.invokevirtual 23, 3) := by decide +kernel
theorem dX5_takeShip_13 : decode cX5_takeShip 13 = .ok (.aload_n 0, 1) := by decide +kernel
theorem dX5_takeShip_14 : decode cX5_takeShip 14 = .ok (.bipush 9, 2) := by decide +kernel
theorem dX5_takeShip_16 : decode cX5_takeShip 16 = .ok (.invokevirtual 74, 3) := by decide +kernel
theorem dX5_takeShip_19 : decode cX5_takeShip 19 = .ok (.ifCond .ne 5, 3) := by decide +kernel
theorem dX5_takeShip_22 : decode cX5_takeShip 22 = .ok (.iconst 0, 1) := by decide +kernel
theorem dX5_takeShip_23 : decode cX5_takeShip 23 = .ok (.ireturn, 1) := by decide +kernel
theorem dX5_takeShip_24 : decode cX5_takeShip 24 = .ok (.aload_n 0, 1) := by decide +kernel
theorem dX5_takeShip_25 : decode cX5_takeShip 25 = .ok (.getfield 78, 3) := by decide +kernel
theorem dX5_takeShip_28 : decode cX5_takeShip 28 = .ok (.istore_n 3, 1) := by decide +kernel
theorem dX5_takeShip_29 : decode cX5_takeShip 29 = .ok (.iconst 0, 1) := by decide +kernel
theorem dX5_takeShip_30 : decode cX5_takeShip 30 = .ok (.istore 4, 2) := by decide +kernel
theorem dX5_takeShip_32 : decode cX5_takeShip 32 = .ok (.aload_n 0, 1) := by decide +kernel
theorem dX5_takeShip_33 : decode cX5_takeShip 33 = .ok (.getfield 33, 3) := by decide +kernel
theorem dX5_takeShip_36 : decode cX5_takeShip 36 = .ok (.iconst 1, 1) := by decide +kernel
theorem dX5_takeShip_37 : decode cX5_takeShip 37 = .ok (.if_icmp .ne 33, 3) := by decide +kernel
theorem dX5_takeShip_40 : decode cX5_takeShip 40 = .ok (.aload_n 0, 1) := by decide +kernel
theorem dX5_takeShip_41 : decode cX5_takeShip 41 = .ok (.ldc 81, 2) := by decide +kernel
theorem dX5_takeShip_43 : decode cX5_takeShip 43 = .ok (.invokevirtual 42, 3) := by decide +kernel
theorem dX5_takeShip_46 : decode cX5_takeShip 46 = .ok (.ifCond .eq 24, 3) := by decide +kernel
theorem dX5_takeShip_49 : decode cX5_takeShip 49 = .ok (.aload_n 0, 1) := by decide +kernel
theorem dX5_takeShip_50 : decode cX5_takeShip 50 = .ok (.invokevirtual 23, 3) := by decide +kernel
theorem dX5_takeShip_53 : decode cX5_takeShip 53 = .ok (.aload_n 0, 1) := by decide +kernel
theorem dX5_takeShip_54 : decode cX5_takeShip 54 = .ok (.bipush 19, 2) := by decide +kernel
theorem dX5_takeShip_56 : decode cX5_takeShip 56 = .ok (.invokevirtual 74, 3) := by decide +kernel
theorem dX5_takeShip_59 : decode cX5_takeShip 59 = .ok (.ifCond .ne 5, 3) := by decide +kernel
theorem dX5_takeShip_62 : decode cX5_takeShip 62 = .ok (.iconst 0, 1) := by decide +kernel
theorem dX5_takeShip_63 : decode cX5_takeShip 63 = .ok (.ireturn, 1) := by decide +kernel
theorem dX5_takeShip_64 : decode cX5_takeShip 64 = .ok (.aload_n 0, 1) := by decide +kernel
theorem dX5_takeShip_65 : decode cX5_takeShip 65 = .ok (.getfield 78, 3) := by decide +kernel
theorem dX5_takeShip_68 : decode cX5_takeShip 68 = .ok (.istore 4, 2) := by decide +kernel
theorem dX5_takeShip_70 : decode cX5_takeShip 70 = .ok (.aload_n 1, 1) := by decide +kernel
theorem dX5_takeShip_71 : decode cX5_takeShip 71 = .ok (.aload_n 2, 1) := by decide +kernel
theorem dX5_takeShip_72 : decode cX5_takeShip 72 = .ok (.iload 4, 2) := by decide +kernel
theorem dX5_takeShip_74 : decode cX5_takeShip 74 = .ok (.iload_n 3, 1) := by decide +kernel
theorem dX5_takeShip_75 : decode cX5_takeShip 75 = .ok (.invokevirtual 83, 3) := by decide +kernel
theorem dX5_takeShip_78 : decode cX5_takeShip 78 = .ok (.iconst 1, 1) := by decide +kernel
theorem dX5_takeShip_79 : decode cX5_takeShip 79 = .ok (.ireturn, 1) := by decide +kernel
theorem dX5_takeTower_0 : decode cX5_takeTower 0 = .ok (.aload_n 0, 1) := by decide +kernel
theorem dX5_takeTower_1 : decode cX5_takeTower 1 = .ok (.invokevirtual 23, 3) := by decide +kernel
theorem dX5_takeTower_4 : decode cX5_takeTower 4 = .ok (.aload_n 0, 1) := by decide +kernel
theorem dX5_takeTower_5 : decode cX5_takeTower 5 = .ok (.bipush 19, 2) := by decide +kernel
theorem dX5_takeTower_7 : decode cX5_takeTower 7 = .ok (.invokevirtual 74, 3) := by decide +kernel
theorem dX5_takeTower_10 : decode cX5_takeTower 10 = .ok (.ifCond .ne 5, 3) := by decide +kernel
theorem dX5_takeTower_13 : decode cX5_takeTower 13 = .ok (.iconst 0, 1) := by decide +kernel
theorem dX5_takeTower_14 : decode cX5_takeTower 14 = .ok (.ireturn, 1) := by decide +kernel
theorem dX5_takeTower_15 : decode cX5_takeTower 15 = .ok (.aload_n 1, 1) := by decide +kernel
theorem dX5_takeTower_16 : decode cX5_takeTower 16 = .ok (.aload_n 0, 1) := by decide +kernel
theorem dX5_takeTower_17 : decode cX5_takeTower 17 = .ok (.getfield 78, 3) := by decide +kernel
theorem dX5_takeTower_20 : decode cX5_takeTower 20 = .ok (.putfield 87, 3) := by decide +kernel
theorem dX5_takeTower_23 : decode cX5_takeTower 23 = .ok (.aload_n 0, 1) := by decide +kernel
theorem dX5_takeTower_24 : decode cX5_takeTower 24 = .ok (.bipush 9, 2) := by decide +kernel
theorem dX5_takeTower_26 : decode cX5_takeTower 26 = .ok (.invokevirtual 74, 3) := by decide +kernel
theorem dX5_takeTower_29 : decode cX5_takeTower 29 = .ok (.ifCond .ne 5, 3) := by decide +kernel
theorem dX5_takeTower_32 : decode cX5_takeTower 32 = .ok (.iconst 0, 1) := by decide +kernel
theorem dX5_takeTower_33 : decode cX5_takeTower 33 = .ok (.ireturn, 1) := by decide +kernel
theorem dX5_takeTower_34 : decode cX5_takeTower 34 = .ok (.aload_n 1, 1) := by decide +kernel
theorem dX5_takeTower_35 : decode cX5_takeTower 35 = .ok (.aload_n 0, 1) := by decide +kernel
theorem dX5_takeTower_36 : decode cX5_takeTower 36 = .ok (.getfield 78, 3) := by decide +kernel
theorem dX5_takeTower_39 : decode cX5_takeTower 39 = .ok (.putfield 90, 3) := by decide +kernel
theorem dX5_takeTower_42 : decode cX5_takeTower 42 = .ok (.iconst 1, 1) := by decide +kernel
theorem dX5_takeTower_43 : decode cX5_takeTower 43 = .ok (.ireturn, 1) := by decide +kernel
theorem dX5_takeLamp_0 : decode cX5_takeLamp 0 = .ok (.aload_n 0, 1) := by decide +kernel
theorem dX5_takeLamp_1 : decode cX5_takeLamp 1 = .ok (.invokevirtual 23, 3) := by decide +kernel
theorem dX5_takeLamp_4 : decode cX5_takeLamp 4 = .ok (.aload_n 0, 1) := by decide +kernel
theorem dX5_takeLamp_5 : decode cX5_takeLamp 5 = .ok (.bipush 11, 2) := by decide +kernel
theorem dX5_takeLamp_7 : decode cX5_takeLamp 7 = .ok (.invokevirtual 74, 3) := by decide +kernel
theorem dX5_takeLamp_10 : decode cX5_takeLamp 10 = .ok (.ifCond .ne 5, 3) := by decide +kernel
theorem dX5_takeLamp_13 : decode cX5_takeLamp 13 = .ok (.iconst 0, 1) := by decide +kernel
theorem dX5_takeLamp_14 : decode cX5_takeLamp 14 = .ok (.ireturn, 1) := by decide +kernel
theorem dX5_takeLamp_15 : decode cX5_takeLamp 15 = .ok (.iconst 1, 1) := by decide +kernel
theorem dX5_takeLamp_16 : decode cX5_takeLamp 16 = .ok (.aload_n 0, 1) := by decide +kernel
theorem dX5_takeLamp_17 : decode cX5_takeLamp 17 = .ok (.getfield 78, 3) := by decide +kernel
theorem dX5_takeLamp_20 : decode cX5_takeLamp 20 = .ok (.ishl, 1) := by decide +kernel
theorem dX5_takeLamp_21 : decode cX5_takeLamp 21 = .ok (.istore_n 3, 1) := by decide +kernel
theorem dX5_takeLamp_22 : decode cX5_takeLamp 22 = .ok (.aload_n 1, 1) := by decide +kernel
theorem dX5_takeLamp_23 : decode cX5_takeLamp 23 = .ok (.iload_n 2, 1) := by decide +kernel
theorem dX5_takeLamp_24 : decode cX5_takeLamp 24 = .ok (.ifCond .eq 12, 3) := by decide +kernel
theorem dX5_takeLamp_27 : decode cX5_takeLamp 27 = .ok (.aload_n 1, 1) := by decide +kernel
theorem dX5_takeLamp_28 : decode cX5_takeLamp 28 = .ok (.getfield 93, 3) := by decide +kernel
theorem dX5_takeLamp_31 : decode cX5_takeLamp 31 = .ok (.iload_n 3, 1) := by decide +kernel
theorem dX5_takeLamp_32 : decode cX5_takeLamp 32 = .ok (.ior, 1) := by decide +kernel
theorem dX5_takeLamp_33 : decode cX5_takeLamp 33 = .ok (.goto 11, 3) := by decide +kernel
theorem dX5_takeLamp_36 : decode cX5_takeLamp 36 = .ok (.aload_n 1, 1) := by decide +kernel
theorem dX5_takeLamp_37 : decode cX5_takeLamp 37 = .ok (.getfield 93, 3) := by decide +kernel
theorem dX5_takeLamp_40 : decode cX5_takeLamp 40 = .ok (.iload_n 3, 1) := by decide +kernel
theorem dX5_takeLamp_41 : decode cX5_takeLamp 41 = .ok (.iconst (-1), 1) := by decide +kernel
theorem dX5_takeLamp_42 : decode cX5_takeLamp 42 = .ok (.ixor, 1) := by decide +kernel
theorem dX5_takeLamp_43 : decode cX5_takeLamp 43 = .ok (.iand, 1) := by decide +kernel
theorem dX5_takeLamp_44 : decode cX5_takeLamp 44 = .ok (.putfield 93, 3) := by decide +kernel
theorem dX5_takeLamp_47 : decode cX5_takeLamp 47 = .ok (.iconst 1, 1) := by decide +kernel
theorem dX5_takeLamp_48 : decode cX5_takeLamp 48 = .ok (.ireturn, 1) := by decide +kernel
theorem dX5_takeReach_0 : decode cX5_takeReach 0 = .ok (.aload_n 0, 1) := by decide +kernel
theorem dX5_takeReach_1 : decode cX5_takeReach 1 = .ok (.invokevirtual 23, 3) := by decide +kernel
theorem dX5_takeReach_4 : decode cX5_takeReach 4 = .ok (.aload_n 0, 1) := by decide +kernel
theorem dX5_takeReach_5 : decode cX5_takeReach 5 = .ok (.bipush 9, 2) := by decide +kernel
theorem dX5_takeReach_7 : decode cX5_takeReach 7 = .ok (.invokevirtual 74, 3) := by decide +kernel
theorem dX5_takeReach_10 : decode cX5_takeReach 10 = .ok (.ifCond .ne 5, 3) := by decide +kernel
theorem dX5_takeReach_13 : decode cX5_takeReach 13 = .ok (.iconst 0, 1) := by decide +kernel
theorem dX5_takeReach_14 : decode cX5_takeReach 14 = .ok (.ireturn, 1) := by decide +kernel
theorem dX5_takeReach_15 : decode cX5_takeReach 15 = .ok (.aload_n 1, 1) := by decide +kernel
theorem dX5_takeReach_16 : decode cX5_takeReach 16 = .ok (.aload_n 0, 1) := by decide +kernel
theorem dX5_takeReach_17 : decode cX5_takeReach 17 = .ok (.getfield 78, 3) := by decide +kernel
theorem dX5_takeReach_20 : decode cX5_takeReach 20 = .ok (.putfield 96, 3) := by decide +kernel
theorem dX5_takeReach_23 : decode cX5_takeReach 23 = .ok (.iconst 1, 1) := by decide +kernel
theorem dX5_takeReach_24 : decode cX5_takeReach 24 = .ok (.ireturn, 1) := by decide +kernel
theorem dX5_takeNumber_0 : decode cX5_takeNumber 0 = .ok (.aload_n 0, 1) := by decide +kernel
theorem dX5_takeNumber_1 : decode cX5_takeNumber 1 = .ok (.getfield 33, 3) := by decide +kernel
theorem dX5_takeNumber_4 : decode cX5_takeNumber 4 = .ok (.iconst 2, 1) := by decide +kernel
theorem dX5_takeNumber_5 : decode cX5_takeNumber 5 = .ok (.if_icmp .ne 11, 3) := by decide +kernel
theorem dX5_takeNumber_8 : decode cX5_takeNumber 8 = .ok (.aload_n 0, 1) := by decide +kernel
theorem dX5_takeNumber_9 : decode cX5_takeNumber 9 = .ok (.getfield 98, 3) := by decide +kernel
theorem dX5_takeNumber_12 : decode cX5_takeNumber 12 = .ok (.iload_n 1, 1) := by decide +kernel
theorem dX5_takeNumber_13 : decode cX5_takeNumber 13 = .ok (.if_icmp .le 5, 3) := by decide +kernel
theorem dX5_takeNumber_16 : decode cX5_takeNumber 16 = .ok (.iconst 0, 1) := by decide +kernel
theorem dX5_takeNumber_17 : decode cX5_takeNumber 17 = .ok (.ireturn, 1) := by decide +kernel
theorem dX5_takeNumber_18 : decode cX5_takeNumber 18 = .ok (.aload_n 0, 1) := by decide +kernel
theorem dX5_takeNumber_19 : decode cX5_takeNumber 19 = .ok (.aload_n 0, 1) := by decide +kernel
theorem dX5_takeNumber_20 : decode cX5_takeNumber 20 = .ok (.getfield 98, 3) := by decide +kernel
theorem dX5_takeNumber_23 : decode cX5_takeNumber 23 = .ok (.putfield 78, 3) := by decide +kernel
theorem dX5_takeNumber_26 : decode cX5_takeNumber 26 = .ok (.aload_n 0, 1) := by decide +kernel
theorem dX5_takeNumber_27 : decode cX5_takeNumber 27 = .ok (.invokevirtual 23, 3) := by decide +kernel
theorem dX5_takeNumber_30 : decode cX5_takeNumber 30 = .ok (.iconst 1, 1) := by decide +kernel
theorem dX5_takeNumber_31 : decode cX5_takeNumber 31 = .ok (.ireturn, 1) := by decide +kernel
theorem dX5_next_0 : decode cX5_next 0 = .ok (.aload_n 0, 1) := by decide +kernel
theorem dX5_next_1 : decode cX5_next 1 = .ok (.aload_n 0, 1) := by decide +kernel
theorem dX5_next_2 : decode cX5_next 2 = .ok (.getfield 19, 3) := by decide +kernel
theorem dX5_next_5 : decode cX5_next 5 = .ok (.putfield 30, 3) := by decide +kernel
theorem dX5_next_8 : decode cX5_next 8 = .ok (.aload_n 0, 1) := by decide +kernel
theorem dX5_next_9 : decode cX5_next 9 = .ok (.getfield 30, 3) := by decide +kernel
theorem dX5_next_12 : decode cX5_next 12 = .ok (.aload_n 0, 1) := by decide +kernel
theorem dX5_next_13 : decode cX5_next 13 = .ok (.getfield 9, 3) := by decide +kernel
theorem dX5_next_16 : decode cX5_next 16 = .ok (.getfield 101, 3) := by decide +kernel
theorem dX5_next_19 : decode cX5_next 19 = .ok (.if_icmp .ge 32, 3) := by decide +kernel
theorem dX5_next_22 : decode cX5_next 22 = .ok (.aload_n 0, 1) := by decide +kernel
theorem dX5_next_23 : decode cX5_next 23 = .ok (.getfield 9, 3) := by decide +kernel
theorem dX5_next_26 : decode cX5_next 26 = .ok (.aload_n 0, 1) := by decide +kernel
theorem dX5_next_27 : decode cX5_next 27 = .ok (.getfield 30, 3) := by decide +kernel
theorem dX5_next_30 : decode cX5_next 30 = .ok (.invokevirtual 106, 3) := by decide +kernel
theorem dX5_next_33 : decode cX5_next 33 = .ok (.bipush 32, 2) := by decide +kernel
theorem dX5_next_35 : decode cX5_next 35 = .ok (.if_icmp .ne 16, 3) := by decide +kernel
theorem dX5_next_38 : decode cX5_next 38 = .ok (.aload_n 0, 1) := by decide +kernel
theorem dX5_next_39 : decode cX5_next 39 = .ok (.dup, 1) := by decide +kernel
theorem dX5_next_40 : decode cX5_next 40 = .ok (.getfield 30, 3) := by decide +kernel
theorem dX5_next_43 : decode cX5_next 43 = .ok (.iconst 1, 1) := by decide +kernel
theorem dX5_next_44 : decode cX5_next 44 = .ok (.iadd, 1) := by decide +kernel
theorem dX5_next_45 : decode cX5_next 45 = .ok (.putfield 30, 3) := by decide +kernel
theorem dX5_next_48 : decode cX5_next 48 = .ok (.goto (-40), 3) := by decide +kernel
theorem dX5_next_51 : decode cX5_next 51 = .ok (.aload_n 0, 1) := by decide +kernel
theorem dX5_next_52 : decode cX5_next 52 = .ok (.aload_n 0, 1) := by decide +kernel
theorem dX5_next_53 : decode cX5_next 53 = .ok (.getfield 30, 3) := by decide +kernel
theorem dX5_next_56 : decode cX5_next 56 = .ok (.putfield 19, 3) := by decide +kernel
theorem dX5_next_59 : decode cX5_next 59 = .ok (.aload_n 0, 1) := by decide +kernel
theorem dX5_next_60 : decode cX5_next 60 = .ok (.iconst 0, 1) := by decide +kernel
theorem dX5_next_61 : decode cX5_next 61 = .ok (.putfield 98, 3) := by decide +kernel
theorem dX5_next_64 : decode cX5_next 64 = .ok (.aload_n 0, 1) := by decide +kernel
theorem dX5_next_65 : decode cX5_next 65 = .ok (.aload_n 0, 1) := by decide +kernel
theorem dX5_next_66 : decode cX5_next 66 = .ok (.getfield 30, 3) := by decide +kernel
theorem dX5_next_69 : decode cX5_next 69 = .ok (.aload_n 0, 1) := by decide +kernel
theorem dX5_next_70 : decode cX5_next 70 = .ok (.getfield 9, 3) := by decide +kernel
theorem dX5_next_73 : decode cX5_next 73 = .ok (.getfield 101, 3) := by decide +kernel
theorem dX5_next_76 : decode cX5_next 76 = .ok (.if_icmp .ge 20, 3) := by decide +kernel
theorem dX5_next_79 : decode cX5_next 79 = .ok (.aload_n 0, 1) := by decide +kernel
theorem dX5_next_80 : decode cX5_next 80 = .ok (.getfield 9, 3) := by decide +kernel
theorem dX5_next_83 : decode cX5_next 83 = .ok (.aload_n 0, 1) := by decide +kernel
theorem dX5_next_84 : decode cX5_next 84 = .ok (.getfield 30, 3) := by decide +kernel
theorem dX5_next_87 : decode cX5_next 87 = .ok (.invokevirtual 106, 3) := by decide +kernel
theorem dX5_next_90 : decode cX5_next 90 = .ok (.invokestatic 109, 3) := by decide +kernel
theorem dX5_next_93 : decode cX5_next 93 = .ok (.goto 4, 3) := by decide +kernel
theorem dX5_next_96 : decode cX5_next 96 = .ok (.iconst 0, 1) := by decide +kernel
theorem dX5_next_97 : decode cX5_next 97 = .ok (.putfield 33, 3) := by decide +kernel
theorem dX5_next_100 : decode cX5_next 100 = .ok (.aload_n 0, 1) := by decide +kernel
theorem dX5_next_101 : decode cX5_next 101 = .ok (.getfield 33, 3) := by decide +kernel
theorem dX5_next_104 : decode cX5_next 104 = .ok (.iconst 3, 1) := by decide +kernel
theorem dX5_next_105 : decode cX5_next 105 = .ok (.if_icmp .eq 11, 3) := by decide +kernel
theorem dX5_next_108 : decode cX5_next 108 = .ok (.aload_n 0, 1) := by decide +kernel
theorem dX5_next_109 : decode cX5_next 109 = .ok (.getfield 33, 3) := by decide +kernel
theorem dX5_next_112 : decode cX5_next 112 = .ok (.iconst 4, 1) := by decide +kernel
theorem dX5_next_113 : decode cX5_next 113 = .ok (.if_icmp .ne 14, 3) := by decide +kernel
theorem dX5_next_116 : decode cX5_next 116 = .ok (.aload_n 0, 1) := by decide +kernel
theorem dX5_next_117 : decode cX5_next 117 = .ok (.dup, 1) := by decide +kernel
theorem dX5_next_118 : decode cX5_next 118 = .ok (.getfield 19, 3) := by decide +kernel
theorem dX5_next_121 : decode cX5_next 121 = .ok (.iconst 1, 1) := by decide +kernel
theorem dX5_next_122 : decode cX5_next 122 = .ok (.iadd, 1) := by decide +kernel
theorem dX5_next_123 : decode cX5_next 123 = .ok (.putfield 19, 3) := by decide +kernel
theorem dX5_next_126 : decode cX5_next 126 = .ok (.return_, 1) := by decide +kernel
theorem dX5_next_127 : decode cX5_next 127 = .ok (.aload_n 0, 1) := by decide +kernel
theorem dX5_next_128 : decode cX5_next 128 = .ok (.getfield 19, 3) := by decide +kernel
theorem dX5_next_131 : decode cX5_next 131 = .ok (.aload_n 0, 1) := by decide +kernel
theorem dX5_next_132 : decode cX5_next 132 = .ok (.getfield 9, 3) := by decide +kernel
theorem dX5_next_135 : decode cX5_next 135 = .ok (.getfield 101, 3) := by decide +kernel
theorem dX5_next_138 : decode cX5_next 138 = .ok (.if_icmp .ge 77, 3) := by decide +kernel
theorem dX5_next_141 : decode cX5_next 141 = .ok (.aload_n 0, 1) := by decide +kernel
theorem dX5_next_142 : decode cX5_next 142 = .ok (.getfield 9, 3) := by decide +kernel
theorem dX5_next_145 : decode cX5_next 145 = .ok (.aload_n 0, 1) := by decide +kernel
theorem dX5_next_146 : decode cX5_next 146 = .ok (.getfield 19, 3) := by decide +kernel
theorem dX5_next_149 : decode cX5_next 149 = .ok (.invokevirtual 106, 3) := by decide +kernel
theorem dX5_next_152 : decode cX5_next 152 = .ok (.invokestatic 109, 3) := by decide +kernel
theorem dX5_next_155 : decode cX5_next 155 = .ok (.aload_n 0, 1) := by decide +kernel
theorem dX5_next_156 : decode cX5_next 156 = .ok (.getfield 33, 3) := by decide +kernel
theorem dX5_next_159 : decode cX5_next 159 = .ok (.if_icmp .ne 56, 3) := by decide +kernel
theorem dX5_next_162 : decode cX5_next 162 = .ok (.aload_n 0, 1) := by decide +kernel
theorem dX5_next_163 : decode cX5_next 163 = .ok (.getfield 33, 3) := by decide +kernel
theorem dX5_next_166 : decode cX5_next 166 = .ok (.iconst 2, 1) := by decide +kernel
theorem dX5_next_167 : decode cX5_next 167 = .ok (.if_icmp .ne 35, 3) := by decide +kernel
theorem dX5_next_170 : decode cX5_next 170 = .ok (.aload_n 0, 1) := by decide +kernel
theorem dX5_next_171 : decode cX5_next 171 = .ok (.bipush 10, 2) := by decide +kernel
theorem dX5_next_173 : decode cX5_next 173 = .ok (.aload_n 0, 1) := by decide +kernel
theorem dX5_next_174 : decode cX5_next 174 = .ok (.getfield 98, 3) := by decide +kernel
theorem dX5_next_177 : decode cX5_next 177 = .ok (.imul, 1) := by decide +kernel
theorem dX5_next_178 : decode cX5_next 178 = .ok (.aload_n 0, 1) := by decide +kernel
theorem dX5_next_179 : decode cX5_next 179 = .ok (.getfield 9, 3) := by decide +kernel
theorem dX5_next_182 : decode cX5_next 182 = .ok (.aload_n 0, 1) := by decide +kernel
theorem dX5_next_183 : decode cX5_next 183 = .ok (.getfield 19, 3) := by decide +kernel
theorem dX5_next_186 : decode cX5_next 186 = .ok (.invokevirtual 106, 3) := by decide +kernel
theorem dX5_next_189 : decode cX5_next 189 = .ok (.bipush 48, 2) := by decide +kernel
theorem dX5_next_191 : decode cX5_next 191 = .ok (.isub, 1) := by decide +kernel
theorem dX5_next_192 : decode cX5_next 192 = .ok (.iadd, 1) := by decide +kernel
theorem dX5_next_193 : decode cX5_next 193 = .ok (.sipush 1000, 3) := by decide +kernel
theorem dX5_next_196 : decode cX5_next 196 = .ok (.invokestatic 112, 3) := by decide +kernel
theorem dX5_next_199 : decode cX5_next 199 = .ok (.putfield 98, 3) := by decide +kernel
theorem dX5_next_202 : decode cX5_next 202 = .ok (.aload_n 0, 1) := by decide +kernel
theorem dX5_next_203 : decode cX5_next 203 = .ok (.dup, 1) := by decide +kernel
theorem dX5_next_204 : decode cX5_next 204 = .ok (.getfield 19, 3) := by decide +kernel
theorem dX5_next_207 : decode cX5_next 207 = .ok (.iconst 1, 1) := by decide +kernel
theorem dX5_next_208 : decode cX5_next 208 = .ok (.iadd, 1) := by decide +kernel
theorem dX5_next_209 : decode cX5_next 209 = .ok (.putfield 19, 3) := by decide +kernel
theorem dX5_next_212 : decode cX5_next 212 = .ok (.goto (-85), 3) := by decide +kernel
theorem dX5_next_215 : decode cX5_next 215 = .ok (.return_, 1) := by decide +kernel
theorem dX5_sortOf_0 : decode cX5_sortOf 0 = .ok (.iload_n 0, 1) := by decide +kernel
theorem dX5_sortOf_1 : decode cX5_sortOf 1 = .ok (.bipush 97, 2) := by decide +kernel
theorem dX5_sortOf_3 : decode cX5_sortOf 3 = .ok (.if_icmp .lt 11, 3) := by decide +kernel
theorem dX5_sortOf_6 : decode cX5_sortOf 6 = .ok (.iload_n 0, 1) := by decide +kernel
theorem dX5_sortOf_7 : decode cX5_sortOf 7 = .ok (.bipush 122, 2) := by decide +kernel
theorem dX5_sortOf_9 : decode cX5_sortOf 9 = .ok (.if_icmp .gt 5, 3) := by decide +kernel
theorem dX5_sortOf_12 : decode cX5_sortOf 12 = .ok (.iconst 1, 1) := by decide +kernel
theorem dX5_sortOf_13 : decode cX5_sortOf 13 = .ok (.ireturn, 1) := by decide +kernel
theorem dX5_sortOf_14 : decode cX5_sortOf 14 = .ok (.iload_n 0, 1) := by decide +kernel
theorem dX5_sortOf_15 : decode cX5_sortOf 15 = .ok (.bipush 48, 2) := by decide +kernel
theorem dX5_sortOf_17 : decode cX5_sortOf 17 = .ok (.if_icmp .lt 11, 3) := by decide +kernel
theorem dX5_sortOf_20 : decode cX5_sortOf 20 = .ok (.iload_n 0, 1) := by decide +kernel
theorem dX5_sortOf_21 : decode cX5_sortOf 21 = .ok (.bipush 57, 2) := by decide +kernel
theorem dX5_sortOf_23 : decode cX5_sortOf 23 = .ok (.if_icmp .gt 5, 3) := by decide +kernel
theorem dX5_sortOf_26 : decode cX5_sortOf 26 = .ok (.iconst 2, 1) := by decide +kernel
theorem dX5_sortOf_27 : decode cX5_sortOf 27 = .ok (.ireturn, 1) := by decide +kernel
theorem dX5_sortOf_28 : decode cX5_sortOf 28 = .ok (.iload_n 0, 1) := by decide +kernel
theorem dX5_sortOf_29 : decode cX5_sortOf 29 = .ok (.bipush 59, 2) := by decide +kernel
theorem dX5_sortOf_31 : decode cX5_sortOf 31 = .ok (.if_icmp .ne 7, 3) := by decide +kernel
theorem dX5_sortOf_34 : decode cX5_sortOf 34 = .ok (.iconst 3, 1) := by decide +kernel
theorem dX5_sortOf_35 : decode cX5_sortOf 35 = .ok (.goto 4, 3) := by decide +kernel
theorem dX5_sortOf_38 : decode cX5_sortOf 38 = .ok (.iconst 4, 1) := by decide +kernel
theorem dX5_sortOf_39 : decode cX5_sortOf 39 = .ok (.ireturn, 1) := by decide +kernel
theorem dX5_isWord_0 : decode cX5_isWord 0 = .ok (.aload_n 1, 1) := by decide +kernel
theorem dX5_isWord_1 : decode cX5_isWord 1 = .ok (.invokevirtual 118, 3) := by decide +kernel
theorem dX5_isWord_4 : decode cX5_isWord 4 = .ok (.aload_n 0, 1) := by decide +kernel
theorem dX5_isWord_5 : decode cX5_isWord 5 = .ok (.getfield 19, 3) := by decide +kernel
theorem dX5_isWord_8 : decode cX5_isWord 8 = .ok (.aload_n 0, 1) := by decide +kernel
theorem dX5_isWord_9 : decode cX5_isWord 9 = .ok (.getfield 30, 3) := by decide +kernel
theorem dX5_isWord_12 : decode cX5_isWord 12 = .ok (.isub, 1) := by decide +kernel
theorem dX5_isWord_13 : decode cX5_isWord 13 = .ok (.if_icmp .eq 5, 3) := by decide +kernel
theorem dX5_isWord_16 : decode cX5_isWord 16 = .ok (.iconst 0, 1) := by decide +kernel
theorem dX5_isWord_17 : decode cX5_isWord 17 = .ok (.ireturn, 1) := by decide +kernel
theorem dX5_isWord_18 : decode cX5_isWord 18 = .ok (.iconst 0, 1) := by decide +kernel
theorem dX5_isWord_19 : decode cX5_isWord 19 = .ok (.istore_n 2, 1) := by decide +kernel
theorem dX5_isWord_20 : decode cX5_isWord 20 = .ok (.iload_n 2, 1) := by decide +kernel
theorem dX5_isWord_21 : decode cX5_isWord 21 = .ok (.aload_n 1, 1) := by decide +kernel
theorem dX5_isWord_22 : decode cX5_isWord 22 = .ok (.invokevirtual 118, 3) := by decide +kernel
theorem dX5_isWord_25 : decode cX5_isWord 25 = .ok (.if_icmp .ge 32, 3) := by decide +kernel
theorem dX5_isWord_28 : decode cX5_isWord 28 = .ok (.aload_n 1, 1) := by decide +kernel
theorem dX5_isWord_29 : decode cX5_isWord 29 = .ok (.iload_n 2, 1) := by decide +kernel
theorem dX5_isWord_30 : decode cX5_isWord 30 = .ok (.invokevirtual 123, 3) := by decide +kernel
theorem dX5_isWord_33 : decode cX5_isWord 33 = .ok (.aload_n 0, 1) := by decide +kernel
theorem dX5_isWord_34 : decode cX5_isWord 34 = .ok (.getfield 9, 3) := by decide +kernel
theorem dX5_isWord_37 : decode cX5_isWord 37 = .ok (.aload_n 0, 1) := by decide +kernel
theorem dX5_isWord_38 : decode cX5_isWord 38 = .ok (.getfield 30, 3) := by decide +kernel
theorem dX5_isWord_41 : decode cX5_isWord 41 = .ok (.iload_n 2, 1) := by decide +kernel
theorem dX5_isWord_42 : decode cX5_isWord 42 = .ok (.iadd, 1) := by decide +kernel
theorem dX5_isWord_43 : decode cX5_isWord 43 = .ok (.invokevirtual 106, 3) := by decide +kernel
theorem dX5_isWord_46 : decode cX5_isWord 46 = .ok (.if_icmp .eq 5, 3) := by decide +kernel
theorem dX5_isWord_49 : decode cX5_isWord 49 = .ok (.iconst 0, 1) := by decide +kernel
theorem dX5_isWord_50 : decode cX5_isWord 50 = .ok (.ireturn, 1) := by decide +kernel
theorem dX5_isWord_51 : decode cX5_isWord 51 = .ok (.iinc 2 1, 3) := by decide +kernel
theorem dX5_isWord_54 : decode cX5_isWord 54 = .ok (.goto (-34), 3) := by decide +kernel
theorem dX5_isWord_57 : decode cX5_isWord 57 = .ok (.iconst 1, 1) := by decide +kernel
theorem dX5_isWord_58 : decode cX5_isWord 58 = .ok (.ireturn, 1) := by decide +kernel
theorem dX6_init_0 : decode cX6_init 0 = .ok (.aload_n 0, 1) := by decide +kernel
theorem dX6_init_1 : decode cX6_init 1 = .ok (.invokespecial 3, 3) := by decide +kernel
theorem dX6_init_4 : decode cX6_init 4 = .ok (.aload_n 0, 1) := by decide +kernel
theorem dX6_init_5 : decode cX6_init 5 = .ok (.iconst 0, 1) := by decide +kernel
theorem dX6_init_6 : decode cX6_init 6 = .ok (.putfield 9, 3) := by decide +kernel
theorem dX6_init_9 : decode cX6_init 9 = .ok (.aload_n 0, 1) := by decide +kernel
theorem dX6_init_10 : decode cX6_init 10 = .ok (.iconst 0, 1) := by decide +kernel
theorem dX6_init_11 : decode cX6_init 11 = .ok (.putfield 15, 3) := by decide +kernel
theorem dX6_init_14 : decode cX6_init 14 = .ok (.aload_n 0, 1) := by decide +kernel
theorem dX6_init_15 : decode cX6_init 15 = .ok (.bipush 40, 2) := by decide +kernel
theorem dX6_init_17 : decode cX6_init 17 = .ok (.newarray .long, 2) := by decide +kernel
theorem dX6_init_19 : decode cX6_init 19 = .ok (.putfield 18, 3) := by decide +kernel
theorem dX6_init_22 : decode cX6_init 22 = .ok (.return_, 1) := by decide +kernel
theorem dX6_isMissing_0 : decode cX6_isMissing 0 = .ok (.aload_n 0, 1) := by decide +kernel
theorem dX6_isMissing_1 : decode cX6_isMissing 1 = .ok (.getfield 9, 3) := by decide +kernel
theorem dX6_isMissing_4 : decode cX6_isMissing 4 = .ok (.ifCond .ne 7, 3) := by decide +kernel
theorem dX6_isMissing_7 : decode cX6_isMissing 7 = .ok (.iconst 1, 1) := by decide +kernel
theorem dX6_isMissing_8 : decode cX6_isMissing 8 = .ok (.goto 4, 3) := by decide +kernel
theorem dX6_isMissing_11 : decode cX6_isMissing 11 = .ok (.iconst 0, 1) := by decide +kernel
theorem dX6_isMissing_12 : decode cX6_isMissing 12 = .ok (.ireturn, 1) := by decide +kernel
theorem dX6_lay_0 : decode cX6_lay 0 = .ok (.aload_n 0, 1) := by decide +kernel
theorem dX6_lay_1 : decode cX6_lay 1 = .ok (.iload_n 1, 1) := by decide +kernel
theorem dX6_lay_2 : decode cX6_lay 2 = .ok (.putfield 9, 3) := by decide +kernel
theorem dX6_lay_5 : decode cX6_lay 5 = .ok (.aload_n 0, 1) := by decide +kernel
theorem dX6_lay_6 : decode cX6_lay 6 = .ok (.iload_n 2, 1) := by decide +kernel
theorem dX6_lay_7 : decode cX6_lay 7 = .ok (.putfield 15, 3) := by decide +kernel
theorem dX6_lay_10 : decode cX6_lay 10 = .ok (.iconst 0, 1) := by decide +kernel
theorem dX6_lay_11 : decode cX6_lay 11 = .ok (.istore_n 3, 1) := by decide +kernel
theorem dX6_lay_12 : decode cX6_lay 12 = .ok (.iload_n 3, 1) := by decide +kernel
theorem dX6_lay_13 : decode cX6_lay 13 = .ok (.bipush 40, 2) := by decide +kernel
theorem dX6_lay_15 : decode cX6_lay 15 = .ok (.if_icmp .ge 16, 3) := by decide +kernel
theorem dX6_lay_18 : decode cX6_lay 18 = .ok (.aload_n 0, 1) := by decide +kernel
theorem dX6_lay_19 : decode cX6_lay 19 = .ok (.getfield 18, 3) := by decide +kernel
theorem dX6_lay_22 : decode cX6_lay 22 = .ok (.iload_n 3, 1) := by decide +kernel
theorem dX6_lay_23 : decode cX6_lay 23 = .ok (.lconst 0, 1) := by decide +kernel
theorem dX6_lay_24 : decode cX6_lay 24 = .ok (.lastore, 1) := by decide +kernel
theorem dX6_lay_25 : decode cX6_lay 25 = .ok (.iinc 3 1, 3) := by decide +kernel
theorem dX6_lay_28 : decode cX6_lay 28 = .ok (.goto (-16), 3) := by decide +kernel
theorem dX6_lay_31 : decode cX6_lay 31 = .ok (.return_, 1) := by decide +kernel
theorem dX6_has_0 : decode cX6_has 0 = .ok (.iload_n 1, 1) := by decide +kernel
theorem dX6_has_1 : decode cX6_has 1 = .ok (.ifCond .lt 21, 3) := by decide +kernel
theorem dX6_has_4 : decode cX6_has 4 = .ok (.iload_n 1, 1) := by decide +kernel
theorem dX6_has_5 : decode cX6_has 5 = .ok (.aload_n 0, 1) := by decide +kernel
theorem dX6_has_6 : decode cX6_has 6 = .ok (.getfield 15, 3) := by decide +kernel
theorem dX6_has_9 : decode cX6_has 9 = .ok (.if_icmp .ge 13, 3) := by decide +kernel
theorem dX6_has_12 : decode cX6_has 12 = .ok (.iload_n 1, 1) := by decide +kernel
theorem dX6_has_13 : decode cX6_has 13 = .ok (.bipush 40, 2) := by decide +kernel
theorem dX6_has_15 : decode cX6_has 15 = .ok (.if_icmp .ge 7, 3) := by decide +kernel
theorem dX6_has_18 : decode cX6_has 18 = .ok (.iconst 1, 1) := by decide +kernel
theorem dX6_has_19 : decode cX6_has 19 = .ok (.goto 4, 3) := by decide +kernel
theorem dX6_has_22 : decode cX6_has 22 = .ok (.iconst 0, 1) := by decide +kernel
theorem dX6_has_23 : decode cX6_has 23 = .ok (.ireturn, 1) := by decide +kernel
theorem dX6_hasRange_0 : decode cX6_hasRange 0 = .ok (.iload_n 1, 1) := by decide +kernel
theorem dX6_hasRange_1 : decode cX6_hasRange 1 = .ok (.ifCond .lt 29, 3) := by decide +kernel
theorem dX6_hasRange_4 : decode cX6_hasRange 4 = .ok (.iload_n 2, 1) := by decide +kernel
theorem dX6_hasRange_5 : decode cX6_hasRange 5 = .ok (.ifCond .lt 25, 3) := by decide +kernel
theorem dX6_hasRange_8 : decode cX6_hasRange 8 = .ok (.iload_n 2, 1) := by decide +kernel
theorem dX6_hasRange_9 : decode cX6_hasRange 9 = .ok (.aload_n 0, 1) := by decide +kernel
theorem dX6_hasRange_10 : decode cX6_hasRange 10 = .ok (.getfield 15, 3) := by decide +kernel
theorem dX6_hasRange_13 : decode cX6_hasRange 13 = .ok (.if_icmp .gt 17, 3) := by decide +kernel
theorem dX6_hasRange_16 : decode cX6_hasRange 16 = .ok (.iload_n 1, 1) := by decide +kernel
theorem dX6_hasRange_17 : decode cX6_hasRange 17 = .ok (.aload_n 0, 1) := by decide +kernel
theorem dX6_hasRange_18 : decode cX6_hasRange 18 = .ok (.getfield 15, 3) := by decide +kernel
theorem dX6_hasRange_21 : decode cX6_hasRange 21 = .ok (.iload_n 2, 1) := by decide +kernel
theorem dX6_hasRange_22 : decode cX6_hasRange 22 = .ok (.isub, 1) := by decide +kernel
theorem dX6_hasRange_23 : decode cX6_hasRange 23 = .ok (.if_icmp .gt 7, 3) := by decide +kernel
theorem dX6_hasRange_26 : decode cX6_hasRange 26 = .ok (.iconst 1, 1) := by decide +kernel
theorem dX6_hasRange_27 : decode cX6_hasRange 27 = .ok (.goto 4, 3) := by decide +kernel
theorem dX6_hasRange_30 : decode cX6_hasRange 30 = .ok (.iconst 0, 1) := by decide +kernel
theorem dX6_hasRange_31 : decode cX6_hasRange 31 = .ok (.ireturn, 1) := by decide +kernel
theorem dX6_at_0 : decode cX6_at 0 = .ok (.aload_n 0, 1) := by decide +kernel
theorem dX6_at_1 : decode cX6_at 1 = .ok (.iload_n 1, 1) := by decide +kernel
theorem dX6_at_2 : decode cX6_at 2 = .ok (.invokevirtual 22, 3) := by decide +kernel
theorem dX6_at_5 : decode cX6_at 5 = .ok (.ifCond .eq 12, 3) := by decide +kernel
theorem dX6_at_8 : decode cX6_at 8 = .ok (.aload_n 0, 1) := by decide +kernel
theorem dX6_at_9 : decode cX6_at 9 = .ok (.getfield 18, 3) := by decide +kernel
theorem dX6_at_12 : decode cX6_at 12 = .ok (.iload_n 1, 1) := by decide +kernel
theorem dX6_at_13 : decode cX6_at 13 = .ok (.laload, 1) := by decide +kernel
theorem dX6_at_14 : decode cX6_at 14 = .ok (.goto 4, 3) := by decide +kernel
theorem dX6_at_17 : decode cX6_at 17 = .ok (.lconst 0, 1) := by decide +kernel
theorem dX6_at_18 : decode cX6_at 18 = .ok (.lreturn, 1) := by decide +kernel
theorem dX6_put_0 : decode cX6_put 0 = .ok (.aload_n 0, 1) := by decide +kernel
theorem dX6_put_1 : decode cX6_put 1 = .ok (.iload_n 1, 1) := by decide +kernel
theorem dX6_put_2 : decode cX6_put 2 = .ok (.invokevirtual 22, 3) := by decide +kernel
theorem dX6_put_5 : decode cX6_put 5 = .ok (.ifCond .eq 42, 3) := by decide +kernel
theorem dX6_put_8 : decode cX6_put 8 = .ok (.aload_n 0, 1) := by decide +kernel
theorem dX6_put_9 : decode cX6_put 9 = .ok (.getfield 18, 3) := by decide +kernel
theorem dX6_put_12 : decode cX6_put 12 = .ok (.iload_n 1, 1) := by decide +kernel
theorem dX6_put_13 : decode cX6_put 13 = .ok (.aload_n 0, 1) := by decide +kernel
theorem dX6_put_14 : decode cX6_put 14 = .ok (.getfield 9, 3) := by decide +kernel
theorem dX6_put_17 : decode cX6_put 17 = .ok (.bipush 8, 2) := by decide +kernel
theorem dX6_put_19 : decode cX6_put 19 = .ok (.if_icmp .ne 10, 3) := by decide +kernel
theorem dX6_put_22 : decode cX6_put 22 = .ok (.lload_n 2, 1) := by decide +kernel
theorem dX6_put_23 : decode cX6_put 23 = .ok (.l2i, 1) := by decide +kernel
theorem dX6_put_24 : decode cX6_put 24 = .ok (.i2b, 1) := by decide +kernel
theorem dX6_put_25 : decode cX6_put 25 = .ok (.i2l, 1) := by decide +kernel
theorem dX6_put_26 : decode cX6_put 26 = .ok (.goto 20, 3) := by decide +kernel
theorem dX6_put_29 : decode cX6_put 29 = .ok (.aload_n 0, 1) := by decide +kernel
theorem dX6_put_30 : decode cX6_put 30 = .ok (.getfield 9, 3) := by decide +kernel
theorem dX6_put_33 : decode cX6_put 33 = .ok (.bipush 16, 2) := by decide +kernel
theorem dX6_put_35 : decode cX6_put 35 = .ok (.if_icmp .ne 10, 3) := by decide +kernel
theorem dX6_put_38 : decode cX6_put 38 = .ok (.lload_n 2, 1) := by decide +kernel
theorem dX6_put_39 : decode cX6_put 39 = .ok (.l2i, 1) := by decide +kernel
theorem dX6_put_40 : decode cX6_put 40 = .ok (.i2s, 1) := by decide +kernel
theorem dX6_put_41 : decode cX6_put 41 = .ok (.i2l, 1) := by decide +kernel
theorem dX6_put_42 : decode cX6_put 42 = .ok (.goto 4, 3) := by decide +kernel
theorem dX6_put_45 : decode cX6_put 45 = .ok (.lload_n 2, 1) := by decide +kernel
theorem dX6_put_46 : decode cX6_put 46 = .ok (.lastore, 1) := by decide +kernel
theorem dX6_put_47 : decode cX6_put 47 = .ok (.return_, 1) := by decide +kernel
theorem dX7_init_0 : decode cX7_init 0 = .ok (.aload_n 0, 1) := by decide +kernel
theorem dX7_init_1 : decode cX7_init 1 = .ok (.invokespecial 1, 3) := by decide +kernel
theorem dX7_init_4 : decode cX7_init 4 = .ok (.return_, 1) := by decide +kernel
theorem dX7_number_0 : decode cX7_number 0 = .ok (.iconst 0, 1) := by decide +kernel
theorem dX7_number_1 : decode cX7_number 1 = .ok (.ireturn, 1) := by decide +kernel
theorem dX7_title_0 : decode cX7_title 0 = .ok (.ldc 7, 2) := by decide +kernel
theorem dX7_title_2 : decode cX7_title 2 = .ok (.areturn, 1) := by decide +kernel
theorem dX7_isUnder_0 : decode cX7_isUnder 0 = .ok (.iload_n 1, 1) := by decide +kernel
theorem dX7_isUnder_1 : decode cX7_isUnder 1 = .ok (.ifCond .ne 7, 3) := by decide +kernel
theorem dX7_isUnder_4 : decode cX7_isUnder 4 = .ok (.iconst 1, 1) := by decide +kernel
theorem dX7_isUnder_5 : decode cX7_isUnder 5 = .ok (.goto 4, 3) := by decide +kernel
theorem dX7_isUnder_8 : decode cX7_isUnder 8 = .ok (.iconst 0, 1) := by decide +kernel
theorem dX7_isUnder_9 : decode cX7_isUnder 9 = .ok (.ireturn, 1) := by decide +kernel
theorem dX7_sees_0 : decode cX7_sees 0 = .ok (.iload_n 2, 1) := by decide +kernel
theorem dX7_sees_1 : decode cX7_sees 1 = .ok (.ifCond .eq 21, 3) := by decide +kernel
theorem dX7_sees_4 : decode cX7_sees 4 = .ok (.iload_n 3, 1) := by decide +kernel
theorem dX7_sees_5 : decode cX7_sees 5 = .ok (.ifCond .eq 13, 3) := by decide +kernel
theorem dX7_sees_8 : decode cX7_sees 8 = .ok (.iload_n 1, 1) := by decide +kernel
theorem dX7_sees_9 : decode cX7_sees 9 = .ok (.iload 4, 2) := by decide +kernel
theorem dX7_sees_11 : decode cX7_sees 11 = .ok (.if_icmp .gt 7, 3) := by decide +kernel
theorem dX7_sees_14 : decode cX7_sees 14 = .ok (.iconst 1, 1) := by decide +kernel
theorem dX7_sees_15 : decode cX7_sees 15 = .ok (.goto 17, 3) := by decide +kernel
theorem dX7_sees_18 : decode cX7_sees 18 = .ok (.iconst 0, 1) := by decide +kernel
theorem dX7_sees_19 : decode cX7_sees 19 = .ok (.goto 13, 3) := by decide +kernel
theorem dX7_sees_22 : decode cX7_sees 22 = .ok (.iload_n 1, 1) := by decide +kernel
theorem dX7_sees_23 : decode cX7_sees 23 = .ok (.iconst 3, 1) := by decide +kernel
theorem dX7_sees_24 : decode cX7_sees 24 = .ok (.if_icmp .gt 7, 3) := by decide +kernel
theorem dX7_sees_27 : decode cX7_sees 27 = .ok (.iconst 1, 1) := by decide +kernel
theorem dX7_sees_28 : decode cX7_sees 28 = .ok (.goto 4, 3) := by decide +kernel
theorem dX7_sees_31 : decode cX7_sees 31 = .ok (.iconst 0, 1) := by decide +kernel
theorem dX7_sees_32 : decode cX7_sees 32 = .ok (.ireturn, 1) := by decide +kernel
theorem dX7_speed_0 : decode cX7_speed 0 = .ok (.iconst 1, 1) := by decide +kernel
theorem dX7_speed_1 : decode cX7_speed 1 = .ok (.ireturn, 1) := by decide +kernel
theorem dX7_keepsOff_0 : decode cX7_keepsOff 0 = .ok (.iconst 1, 1) := by decide +kernel
theorem dX7_keepsOff_1 : decode cX7_keepsOff 1 = .ok (.ireturn, 1) := by decide +kernel
theorem dX7_stands_0 : decode cX7_stands 0 = .ok (.iconst 0, 1) := by decide +kernel
theorem dX7_stands_1 : decode cX7_stands 1 = .ok (.ireturn, 1) := by decide +kernel
theorem dX8_init_0 : decode cX8_init 0 = .ok (.aload_n 0, 1) := by decide +kernel
theorem dX8_init_1 : decode cX8_init 1 = .ok (.invokespecial 1, 3) := by decide +kernel
theorem dX8_init_4 : decode cX8_init 4 = .ok (.return_, 1) := by decide +kernel
theorem dX8_number_0 : decode cX8_number 0 = .ok (.iconst 1, 1) := by decide +kernel
theorem dX8_number_1 : decode cX8_number 1 = .ok (.ireturn, 1) := by decide +kernel
theorem dX8_title_0 : decode cX8_title 0 = .ok (.ldc 7, 2) := by decide +kernel
theorem dX8_title_2 : decode cX8_title 2 = .ok (.areturn, 1) := by decide +kernel
theorem dX8_isUnder_0 : decode cX8_isUnder 0 = .ok (.iload_n 1, 1) := by decide +kernel
theorem dX8_isUnder_1 : decode cX8_isUnder 1 = .ok (.iconst 1, 1) := by decide +kernel
theorem dX8_isUnder_2 : decode cX8_isUnder 2 = .ok (.if_icmp .eq 11, 3) := by decide +kernel
theorem dX8_isUnder_5 : decode cX8_isUnder 5 = .ok (.aload_n 0, 1) := by decide +kernel
theorem dX8_isUnder_6 : decode cX8_isUnder 6 = .ok (.iload_n 1, 1) := by decide +kernel
theorem dX8_isUnder_7 : decode cX8_isUnder 7 = .ok (.invokespecial 9, 3) := by decide +kernel
theorem dX8_isUnder_10 : decode cX8_isUnder 10 = .ok (.ifCond .eq 7, 3) := by decide +kernel
theorem dX8_isUnder_13 : decode cX8_isUnder 13 = .ok (.iconst 1, 1) := by decide +kernel
theorem dX8_isUnder_14 : decode cX8_isUnder 14 = .ok (.goto 4, 3) := by decide +kernel
theorem dX8_isUnder_17 : decode cX8_isUnder 17 = .ok (.iconst 0, 1) := by decide +kernel
theorem dX8_isUnder_18 : decode cX8_isUnder 18 = .ok (.ireturn, 1) := by decide +kernel
theorem dX8_sees_0 : decode cX8_sees 0 = .ok (.iload_n 1, 1) := by decide +kernel
theorem dX8_sees_1 : decode cX8_sees 1 = .ok (.iconst 1, 1) := by decide +kernel
theorem dX8_sees_2 : decode cX8_sees 2 = .ok (.if_icmp .eq 15, 3) := by decide +kernel
theorem dX8_sees_5 : decode cX8_sees 5 = .ok (.aload_n 0, 1) := by decide +kernel
theorem dX8_sees_6 : decode cX8_sees 6 = .ok (.iload_n 1, 1) := by decide +kernel
theorem dX8_sees_7 : decode cX8_sees 7 = .ok (.iload_n 2, 1) := by decide +kernel
theorem dX8_sees_8 : decode cX8_sees 8 = .ok (.iload_n 3, 1) := by decide +kernel
theorem dX8_sees_9 : decode cX8_sees 9 = .ok (.iload 4, 2) := by decide +kernel
theorem dX8_sees_11 : decode cX8_sees 11 = .ok (.invokespecial 13, 3) := by decide +kernel
theorem dX8_sees_14 : decode cX8_sees 14 = .ok (.ifCond .eq 7, 3) := by decide +kernel
theorem dX8_sees_17 : decode cX8_sees 17 = .ok (.iconst 1, 1) := by decide +kernel
theorem dX8_sees_18 : decode cX8_sees 18 = .ok (.goto 4, 3) := by decide +kernel
theorem dX8_sees_21 : decode cX8_sees 21 = .ok (.iconst 0, 1) := by decide +kernel
theorem dX8_sees_22 : decode cX8_sees 22 = .ok (.ireturn, 1) := by decide +kernel
theorem dX8_speed_0 : decode cX8_speed 0 = .ok (.aload_n 0, 1) := by decide +kernel
theorem dX8_speed_1 : decode cX8_speed 1 = .ok (.iload_n 1, 1) := by decide +kernel
theorem dX8_speed_2 : decode cX8_speed 2 = .ok (.iload_n 2, 1) := by decide +kernel
theorem dX8_speed_3 : decode cX8_speed 3 = .ok (.invokespecial 17, 3) := by decide +kernel
theorem dX8_speed_6 : decode cX8_speed 6 = .ok (.iconst 1, 1) := by decide +kernel
theorem dX8_speed_7 : decode cX8_speed 7 = .ok (.iadd, 1) := by decide +kernel
theorem dX8_speed_8 : decode cX8_speed 8 = .ok (.ireturn, 1) := by decide +kernel
theorem dX8_stands_0 : decode cX8_stands 0 = .ok (.iload_n 2, 1) := by decide +kernel
theorem dX8_stands_1 : decode cX8_stands 1 = .ok (.ifCond .eq 12, 3) := by decide +kernel
theorem dX8_stands_4 : decode cX8_stands 4 = .ok (.iload_n 1, 1) := by decide +kernel
theorem dX8_stands_5 : decode cX8_stands 5 = .ok (.iconst 1, 1) := by decide +kernel
theorem dX8_stands_6 : decode cX8_stands 6 = .ok (.if_icmp .ne 7, 3) := by decide +kernel
theorem dX8_stands_9 : decode cX8_stands 9 = .ok (.iconst 1, 1) := by decide +kernel
theorem dX8_stands_10 : decode cX8_stands 10 = .ok (.goto 4, 3) := by decide +kernel
theorem dX8_stands_13 : decode cX8_stands 13 = .ok (.iconst 0, 1) := by decide +kernel
theorem dX8_stands_14 : decode cX8_stands 14 = .ok (.ireturn, 1) := by decide +kernel
theorem dX9_init_0 : decode cX9_init 0 = .ok (.aload_n 0, 1) := by decide +kernel
theorem dX9_init_1 : decode cX9_init 1 = .ok (.invokespecial 3, 3) := by decide +kernel
theorem dX9_init_4 : decode cX9_init 4 = .ok (.aload_n 0, 1) := by decide +kernel
theorem dX9_init_5 : decode cX9_init 5 = .ok (.bipush 120, 2) := by decide +kernel
theorem dX9_init_7 : decode cX9_init 7 = .ok (.newarray .byte, 2) := by decide +kernel
theorem dX9_init_9 : decode cX9_init 9 = .ok (.putfield 9, 3) := by decide +kernel
theorem dX9_init_12 : decode cX9_init 12 = .ok (.aload_n 0, 1) := by decide +kernel
theorem dX9_init_13 : decode cX9_init 13 = .ok (.iconst 0, 1) := by decide +kernel
theorem dX9_init_14 : decode cX9_init 14 = .ok (.putfield 15, 3) := by decide +kernel
theorem dX9_init_17 : decode cX9_init 17 = .ok (.return_, 1) := by decide +kernel
theorem dX9_add_0 : decode cX9_add 0 = .ok (.aload_n 0, 1) := by decide +kernel
theorem dX9_add_1 : decode cX9_add 1 = .ok (.getfield 15, 3) := by decide +kernel
theorem dX9_add_4 : decode cX9_add 4 = .ok (.bipush 120, 2) := by decide +kernel
theorem dX9_add_6 : decode cX9_add 6 = .ok (.if_icmp .ge 23, 3) := by decide +kernel
theorem dX9_add_9 : decode cX9_add 9 = .ok (.aload_n 0, 1) := by decide +kernel
theorem dX9_add_10 : decode cX9_add 10 = .ok (.getfield 9, 3) := by decide +kernel
theorem dX9_add_13 : decode cX9_add 13 = .ok (.aload_n 0, 1) := by decide +kernel
theorem dX9_add_14 : decode cX9_add 14 = .ok (.getfield 15, 3) := by decide +kernel
theorem dX9_add_17 : decode cX9_add 17 = .ok (.iload_n 1, 1) := by decide +kernel
theorem dX9_add_18 : decode cX9_add 18 = .ok (.bastore, 1) := by decide +kernel
theorem dX9_add_19 : decode cX9_add 19 = .ok (.aload_n 0, 1) := by decide +kernel
theorem dX9_add_20 : decode cX9_add 20 = .ok (.dup, 1) := by decide +kernel
theorem dX9_add_21 : decode cX9_add 21 = .ok (.getfield 15, 3) := by decide +kernel
theorem dX9_add_24 : decode cX9_add 24 = .ok (.iconst 1, 1) := by decide +kernel
theorem dX9_add_25 : decode cX9_add 25 = .ok (.iadd, 1) := by decide +kernel
theorem dX9_add_26 : decode cX9_add 26 = .ok (.putfield 15, 3) := by decide +kernel
theorem dX9_add_29 : decode cX9_add 29 = .ok (.return_, 1) := by decide +kernel
theorem dX9_at_0 : decode cX9_at 0 = .ok (.iload_n 1, 1) := by decide +kernel
theorem dX9_at_1 : decode cX9_at 1 = .ok (.ifCond .lt 30, 3) := by decide +kernel
theorem dX9_at_4 : decode cX9_at 4 = .ok (.iload_n 1, 1) := by decide +kernel
theorem dX9_at_5 : decode cX9_at 5 = .ok (.aload_n 0, 1) := by decide +kernel
theorem dX9_at_6 : decode cX9_at 6 = .ok (.getfield 15, 3) := by decide +kernel
theorem dX9_at_9 : decode cX9_at 9 = .ok (.if_icmp .ge 22, 3) := by decide +kernel
theorem dX9_at_12 : decode cX9_at 12 = .ok (.iload_n 1, 1) := by decide +kernel
theorem dX9_at_13 : decode cX9_at 13 = .ok (.bipush 120, 2) := by decide +kernel
theorem dX9_at_15 : decode cX9_at 15 = .ok (.if_icmp .ge 16, 3) := by decide +kernel
theorem dX9_at_18 : decode cX9_at 18 = .ok (.aload_n 0, 1) := by decide +kernel
theorem dX9_at_19 : decode cX9_at 19 = .ok (.getfield 9, 3) := by decide +kernel
theorem dX9_at_22 : decode cX9_at 22 = .ok (.iload_n 1, 1) := by decide +kernel
theorem dX9_at_23 : decode cX9_at 23 = .ok (.baload, 1) := by decide +kernel
theorem dX9_at_24 : decode cX9_at 24 = .ok (.sipush 255, 3) := by decide +kernel
theorem dX9_at_27 : decode cX9_at 27 = .ok (.iand, 1) := by decide +kernel
theorem dX9_at_28 : decode cX9_at 28 = .ok (.goto 4, 3) := by decide +kernel
theorem dX9_at_31 : decode cX9_at 31 = .ok (.iconst 0, 1) := by decide +kernel
theorem dX9_at_32 : decode cX9_at 32 = .ok (.ireturn, 1) := by decide +kernel
theorem dX9_empty_0 : decode cX9_empty 0 = .ok (.aload_n 0, 1) := by decide +kernel
theorem dX9_empty_1 : decode cX9_empty 1 = .ok (.getfield 15, 3) := by decide +kernel
theorem dX9_empty_4 : decode cX9_empty 4 = .ok (.istore_n 1, 1) := by decide +kernel
theorem dX9_empty_5 : decode cX9_empty 5 = .ok (.aload_n 0, 1) := by decide +kernel
theorem dX9_empty_6 : decode cX9_empty 6 = .ok (.iconst 0, 1) := by decide +kernel
theorem dX9_empty_7 : decode cX9_empty 7 = .ok (.putfield 15, 3) := by decide +kernel
theorem dX9_empty_10 : decode cX9_empty 10 = .ok (.iload_n 1, 1) := by decide +kernel
theorem dX9_empty_11 : decode cX9_empty 11 = .ok (.ireturn, 1) := by decide +kernel
theorem dX10_init_0 : decode cX10_init 0 = .ok (.aload_n 0, 1) := by decide +kernel
theorem dX10_init_1 : decode cX10_init 1 = .ok (.invokespecial 3, 3) := by decide +kernel
theorem dX10_init_4 : decode cX10_init 4 = .ok (.aload_n 0, 1) := by decide +kernel
theorem dX10_init_5 : decode cX10_init 5 = .ok (.aload_n 1, 1) := by decide +kernel
theorem dX10_init_6 : decode cX10_init 6 = .ok (.putfield 9, 3) := by decide +kernel
theorem dX10_init_9 : decode cX10_init 9 = .ok (.return_, 1) := by decide +kernel
theorem dX10_begin_0 : decode cX10_begin 0 = .ok (.aload_n 0, 1) := by decide +kernel
theorem dX10_begin_1 : decode cX10_begin 1 = .ok (.aload_n 1, 1) := by decide +kernel
theorem dX10_begin_2 : decode cX10_begin 2 = .ok (.putfield 9, 3) := by decide +kernel
theorem dX10_begin_5 : decode cX10_begin 5 = .ok (.aload_n 0, 1) := by decide +kernel
theorem dX10_begin_6 : decode cX10_begin 6 = .ok (.iload_n 2, 1) := by decide +kernel
theorem dX10_begin_7 : decode cX10_begin 7 = .ok (.putfield 15, 3) := by decide +kernel
theorem dX10_begin_10 : decode cX10_begin 10 = .ok (.aload_n 0, 1) := by decide +kernel
theorem dX10_begin_11 : decode cX10_begin 11 = .ok (.iload_n 3, 1) := by decide +kernel
theorem dX10_begin_12 : decode cX10_begin 12 = .ok (.putfield 19, 3) := by decide +kernel
theorem dX10_begin_15 : decode cX10_begin 15 = .ok (.aload_n 0, 1) := by decide +kernel
theorem dX10_begin_16 : decode cX10_begin 16 = .ok (.iconst 0, 1) := by decide +kernel
theorem dX10_begin_17 : decode cX10_begin 17 = .ok (.putfield 22, 3) := by decide +kernel
theorem dX10_begin_20 : decode cX10_begin 20 = .ok (.aload_n 0, 1) := by decide +kernel
theorem dX10_begin_21 : decode cX10_begin 21 = .ok (.bipush 99, 2) := by decide +kernel
theorem dX10_begin_23 : decode cX10_begin 23 = .ok (.putfield 25, 3) := by decide +kernel
theorem dX10_begin_26 : decode cX10_begin 26 = .ok (.aload_n 0, 1) := by decide +kernel
theorem dX10_begin_27 : decode cX10_begin 27 = .ok (.iconst 0, 1) := by decide +kernel
theorem dX10_begin_28 : decode cX10_begin 28 = .ok (.putfield 28, 3) := by decide +kernel
theorem dX10_begin_31 : decode cX10_begin 31 = .ok (.aload_n 0, 1) := by decide +kernel
theorem dX10_begin_32 : decode cX10_begin 32 = .ok (.iconst 0, 1) := by decide +kernel
theorem dX10_begin_33 : decode cX10_begin 33 = .ok (.putfield 32, 3) := by decide +kernel
theorem dX10_begin_36 : decode cX10_begin 36 = .ok (.return_, 1) := by decide +kernel
theorem dX10_become_0 : decode cX10_become 0 = .ok (.aload_n 0, 1) := by decide +kernel
theorem dX10_become_1 : decode cX10_become 1 = .ok (.aload_n 1, 1) := by decide +kernel
theorem dX10_become_2 : decode cX10_become 2 = .ok (.getfield 9, 3) := by decide +kernel
theorem dX10_become_5 : decode cX10_become 5 = .ok (.putfield 9, 3) := by decide +kernel
theorem dX10_become_8 : decode cX10_become 8 = .ok (.aload_n 0, 1) := by decide +kernel
theorem dX10_become_9 : decode cX10_become 9 = .ok (.aload_n 1, 1) := by decide +kernel
theorem dX10_become_10 : decode cX10_become 10 = .ok (.getfield 15, 3) := by decide +kernel
theorem dX10_become_13 : decode cX10_become 13 = .ok (.putfield 15, 3) := by decide +kernel
theorem dX10_become_16 : decode cX10_become 16 = .ok (.aload_n 0, 1) := by decide +kernel
theorem dX10_become_17 : decode cX10_become 17 = .ok (.aload_n 1, 1) := by decide +kernel
theorem dX10_become_18 : decode cX10_become 18 = .ok (.getfield 19, 3) := by decide +kernel
theorem dX10_become_21 : decode cX10_become 21 = .ok (.putfield 19, 3) := by decide +kernel
theorem dX10_become_24 : decode cX10_become 24 = .ok (.aload_n 0, 1) := by decide +kernel
theorem dX10_become_25 : decode cX10_become 25 = .ok (.aload_n 1, 1) := by decide +kernel
theorem dX10_become_26 : decode cX10_become 26 = .ok (.getfield 22, 3) := by decide +kernel
theorem dX10_become_29 : decode cX10_become 29 = .ok (.putfield 22, 3) := by decide +kernel
theorem dX10_become_32 : decode cX10_become 32 = .ok (.aload_n 0, 1) := by decide +kernel
theorem dX10_become_33 : decode cX10_become 33 = .ok (.aload_n 1, 1) := by decide +kernel
theorem dX10_become_34 : decode cX10_become 34 = .ok (.getfield 25, 3) := by decide +kernel
theorem dX10_become_37 : decode cX10_become 37 = .ok (.putfield 25, 3) := by decide +kernel
theorem dX10_become_40 : decode cX10_become 40 = .ok (.aload_n 0, 1) := by decide +kernel
theorem dX10_become_41 : decode cX10_become 41 = .ok (.aload_n 1, 1) := by decide +kernel
theorem dX10_become_42 : decode cX10_become 42 = .ok (.getfield 28, 3) := by decide +kernel
theorem dX10_become_45 : decode cX10_become 45 = .ok (.putfield 28, 3) := by decide +kernel
theorem dX10_become_48 : decode cX10_become 48 = .ok (.aload_n 0, 1) := by decide +kernel
theorem dX10_become_49 : decode cX10_become 49 = .ok (.aload_n 1, 1) := by decide +kernel
theorem dX10_become_50 : decode cX10_become 50 = .ok (.getfield 32, 3) := by decide +kernel
theorem dX10_become_53 : decode cX10_become 53 = .ok (.putfield 32, 3) := by decide +kernel
theorem dX10_become_56 : decode cX10_become 56 = .ok (.return_, 1) := by decide +kernel
theorem dX10_isUnderWay_0 : decode cX10_isUnderWay 0 = .ok (.aload_n 0, 1) := by decide +kernel
theorem dX10_isUnderWay_1 : decode cX10_isUnderWay 1 = .ok (.getfield 28, 3) := by decide +kernel
theorem dX10_isUnderWay_4 : decode cX10_isUnderWay 4 = .ok (.ifCond .ne 14, 3) := by decide +kernel
theorem dX10_isUnderWay_7 : decode cX10_isUnderWay 7 = .ok (.aload_n 0, 1) := by decide +kernel
theorem dX10_isUnderWay_8 : decode cX10_isUnderWay 8 = .ok (.getfield 32, 3) := by decide +kernel
theorem dX10_isUnderWay_11 : decode cX10_isUnderWay 11 = .ok (.ifCond .ne 7, 3) := by decide +kernel
theorem dX10_isUnderWay_14 : decode cX10_isUnderWay 14 = .ok (.iconst 1, 1) := by decide +kernel
theorem dX10_isUnderWay_15 : decode cX10_isUnderWay 15 = .ok (.goto 4, 3) := by decide +kernel
theorem dX10_isUnderWay_18 : decode cX10_isUnderWay 18 = .ok (.iconst 0, 1) := by decide +kernel
theorem dX10_isUnderWay_19 : decode cX10_isUnderWay 19 = .ok (.ireturn, 1) := by decide +kernel
theorem dX10_figure_0 : decode cX10_figure 0 = .ok (.iload_n 1, 1) := by decide +kernel
theorem dX10_figure_1 : decode cX10_figure 1 = .ok (.tableswitch 75 1 6 #[39, 44, 49, 54, 59, 67], 39) := by decide +kernel
theorem dX10_figure_40 : decode cX10_figure 40 = .ok (.aload_n 0, 1) := by decide +kernel
theorem dX10_figure_41 : decode cX10_figure 41 = .ok (.getfield 15, 3) := by decide +kernel
theorem dX10_figure_44 : decode cX10_figure 44 = .ok (.ireturn, 1) := by decide +kernel
theorem dX10_figure_45 : decode cX10_figure 45 = .ok (.aload_n 0, 1) := by decide +kernel
theorem dX10_figure_46 : decode cX10_figure 46 = .ok (.getfield 19, 3) := by decide +kernel
theorem dX10_figure_49 : decode cX10_figure 49 = .ok (.ireturn, 1) := by decide +kernel
theorem dX10_figure_50 : decode cX10_figure 50 = .ok (.aload_n 0, 1) := by decide +kernel
theorem dX10_figure_51 : decode cX10_figure 51 = .ok (.getfield 22, 3) := by decide +kernel
theorem dX10_figure_54 : decode cX10_figure 54 = .ok (.ireturn, 1) := by decide +kernel
theorem dX10_figure_55 : decode cX10_figure 55 = .ok (.aload_n 0, 1) := by decide +kernel
theorem dX10_figure_56 : decode cX10_figure 56 = .ok (.getfield 25, 3) := by decide +kernel
theorem dX10_figure_59 : decode cX10_figure 59 = .ok (.ireturn, 1) := by decide +kernel
theorem dX10_figure_60 : decode cX10_figure 60 = .ok (.aload_n 0, 1) := by decide +kernel
theorem dX10_figure_61 : decode cX10_figure 61 = .ok (.getfield 28, 3) := by decide +kernel
theorem dX10_figure_64 : decode cX10_figure 64 = .ok (.invokestatic 35, 3) := by decide +kernel
theorem dX10_figure_67 : decode cX10_figure 67 = .ok (.ireturn, 1) := by decide +kernel
theorem dX10_figure_68 : decode cX10_figure 68 = .ok (.aload_n 0, 1) := by decide +kernel
theorem dX10_figure_69 : decode cX10_figure 69 = .ok (.getfield 32, 3) := by decide +kernel
theorem dX10_figure_72 : decode cX10_figure 72 = .ok (.invokestatic 35, 3) := by decide +kernel
theorem dX10_figure_75 : decode cX10_figure 75 = .ok (.ireturn, 1) := by decide +kernel
theorem dX10_figure_76 : decode cX10_figure 76 = .ok (.aload_n 0, 1) := by decide +kernel
theorem dX10_figure_77 : decode cX10_figure 77 = .ok (.getfield 9, 3) := by decide +kernel
theorem dX10_figure_80 : decode cX10_figure 80 = .ok (.invokevirtual 39, 3) := by decide +kernel
theorem dX10_figure_83 : decode cX10_figure 83 = .ok (.ireturn, 1) := by decide +kernel
theorem dX10_mostOf_0 : decode cX10_mostOf 0 = .ok (.iload_n 0, 1) := by decide +kernel
theorem dX10_mostOf_1 : decode cX10_mostOf 1 = .ok (.tableswitch 37 1 3 #[27, 30, 33], 27) := by decide +kernel
theorem dX10_mostOf_28 : decode cX10_mostOf 28 = .ok (.bipush 19, 2) := by decide +kernel
theorem dX10_mostOf_30 : decode cX10_mostOf 30 = .ok (.ireturn, 1) := by decide +kernel
theorem dX10_mostOf_31 : decode cX10_mostOf 31 = .ok (.bipush 9, 2) := by decide +kernel
theorem dX10_mostOf_33 : decode cX10_mostOf 33 = .ok (.ireturn, 1) := by decide +kernel
theorem dX10_mostOf_34 : decode cX10_mostOf 34 = .ok (.sipush 9999, 3) := by decide +kernel
theorem dX10_mostOf_37 : decode cX10_mostOf 37 = .ok (.ireturn, 1) := by decide +kernel
theorem dX10_mostOf_38 : decode cX10_mostOf 38 = .ok (.bipush 99, 2) := by decide +kernel
theorem dX10_mostOf_40 : decode cX10_mostOf 40 = .ok (.ireturn, 1) := by decide +kernel
theorem dX10_put_0 : decode cX10_put 0 = .ok (.iload_n 1, 1) := by decide +kernel
theorem dX10_put_1 : decode cX10_put 1 = .ok (.tableswitch 61 1 3 #[27, 45, 53], 27) := by decide +kernel
theorem dX10_put_28 : decode cX10_put 28 = .ok (.aload_n 0, 1) := by decide +kernel
theorem dX10_put_29 : decode cX10_put 29 = .ok (.iload_n 2, 1) := by decide +kernel
theorem dX10_put_30 : decode cX10_put 30 = .ok (.putfield 15, 3) := by decide +kernel
theorem dX10_put_33 : decode cX10_put 33 = .ok (.aload_n 0, 1) := by decide +kernel
theorem dX10_put_34 : decode cX10_put 34 = .ok (.iconst 0, 1) := by decide +kernel
theorem dX10_put_35 : decode cX10_put 35 = .ok (.putfield 28, 3) := by decide +kernel
theorem dX10_put_38 : decode cX10_put 38 = .ok (.aload_n 0, 1) := by decide +kernel
theorem dX10_put_39 : decode cX10_put 39 = .ok (.iconst 0, 1) := by decide +kernel
theorem dX10_put_40 : decode cX10_put 40 = .ok (.putfield 32, 3) := by decide +kernel
theorem dX10_put_43 : decode cX10_put 43 = .ok (.goto 24, 3) := by decide +kernel
theorem dX10_put_46 : decode cX10_put 46 = .ok (.aload_n 0, 1) := by decide +kernel
theorem dX10_put_47 : decode cX10_put 47 = .ok (.iload_n 2, 1) := by decide +kernel
theorem dX10_put_48 : decode cX10_put 48 = .ok (.putfield 19, 3) := by decide +kernel
theorem dX10_put_51 : decode cX10_put 51 = .ok (.goto 16, 3) := by decide +kernel
theorem dX10_put_54 : decode cX10_put 54 = .ok (.aload_n 0, 1) := by decide +kernel
theorem dX10_put_55 : decode cX10_put 55 = .ok (.iload_n 2, 1) := by decide +kernel
theorem dX10_put_56 : decode cX10_put 56 = .ok (.putfield 22, 3) := by decide +kernel
theorem dX10_put_59 : decode cX10_put 59 = .ok (.goto 8, 3) := by decide +kernel
theorem dX10_put_62 : decode cX10_put 62 = .ok (.aload_n 0, 1) := by decide +kernel
theorem dX10_put_63 : decode cX10_put 63 = .ok (.iload_n 2, 1) := by decide +kernel
theorem dX10_put_64 : decode cX10_put 64 = .ok (.putfield 25, 3) := by decide +kernel
theorem dX10_put_67 : decode cX10_put 67 = .ok (.return_, 1) := by decide +kernel
theorem dX10_pay_0 : decode cX10_pay 0 = .ok (.aload_n 0, 1) := by decide +kernel
theorem dX10_pay_1 : decode cX10_pay 1 = .ok (.aload_n 0, 1) := by decide +kernel
theorem dX10_pay_2 : decode cX10_pay 2 = .ok (.getfield 22, 3) := by decide +kernel
theorem dX10_pay_5 : decode cX10_pay 5 = .ok (.iconst 1, 1) := by decide +kernel
theorem dX10_pay_6 : decode cX10_pay 6 = .ok (.iadd, 1) := by decide +kernel
theorem dX10_pay_7 : decode cX10_pay 7 = .ok (.sipush 9999, 3) := by decide +kernel
theorem dX10_pay_10 : decode cX10_pay 10 = .ok (.invokestatic 45, 3) := by decide +kernel
theorem dX10_pay_13 : decode cX10_pay 13 = .ok (.putfield 22, 3) := by decide +kernel
theorem dX10_pay_16 : decode cX10_pay 16 = .ok (.return_, 1) := by decide +kernel
theorem dJ6_bitCount_0f7a4_0 : decode cJ6_bitCount_0f7a4 0 = .ok (.iload_n 0, 1) := by decide +kernel
theorem dJ6_bitCount_0f7a4_1 : decode cJ6_bitCount_0f7a4 1 = .ok (.iload_n 0, 1) := by decide +kernel
theorem dJ6_bitCount_0f7a4_2 : decode cJ6_bitCount_0f7a4 2 = .ok (.iconst 1, 1) := by decide +kernel
theorem dJ6_bitCount_0f7a4_3 : decode cJ6_bitCount_0f7a4 3 = .ok (.iushr, 1) := by decide +kernel
theorem dJ6_bitCount_0f7a4_4 : decode cJ6_bitCount_0f7a4 4 = .ok (.ldc_w 265, 3) := by decide +kernel
theorem dJ6_bitCount_0f7a4_7 : decode cJ6_bitCount_0f7a4 7 = .ok (.iand, 1) := by decide +kernel
theorem dJ6_bitCount_0f7a4_8 : decode cJ6_bitCount_0f7a4 8 = .ok (.isub, 1) := by decide +kernel
theorem dJ6_bitCount_0f7a4_9 : decode cJ6_bitCount_0f7a4 9 = .ok (.istore_n 0, 1) := by decide +kernel
theorem dJ6_bitCount_0f7a4_10 : decode cJ6_bitCount_0f7a4 10 = .ok (.iload_n 0, 1) := by decide +kernel
theorem dJ6_bitCount_0f7a4_11 : decode cJ6_bitCount_0f7a4 11 = .ok (.ldc_w 266, 3) := by decide +kernel
theorem dJ6_bitCount_0f7a4_14 : decode cJ6_bitCount_0f7a4 14 = .ok (.iand, 1) := by decide +kernel
theorem dJ6_bitCount_0f7a4_15 : decode cJ6_bitCount_0f7a4 15 = .ok (.iload_n 0, 1) := by decide +kernel
theorem dJ6_bitCount_0f7a4_16 : decode cJ6_bitCount_0f7a4 16 = .ok (.iconst 2, 1) := by decide +kernel
theorem dJ6_bitCount_0f7a4_17 : decode cJ6_bitCount_0f7a4 17 = .ok (.iushr, 1) := by decide +kernel
theorem dJ6_bitCount_0f7a4_18 : decode cJ6_bitCount_0f7a4 18 = .ok (.ldc_w 266, 3) := by decide +kernel
theorem dJ6_bitCount_0f7a4_21 : decode cJ6_bitCount_0f7a4 21 = .ok (.iand, 1) := by decide +kernel
theorem dJ6_bitCount_0f7a4_22 : decode cJ6_bitCount_0f7a4 22 = .ok (.iadd, 1) := by decide +kernel
theorem dJ6_bitCount_0f7a4_23 : decode cJ6_bitCount_0f7a4 23 = .ok (.istore_n 0, 1) := by decide +kernel
theorem dJ6_bitCount_0f7a4_24 : decode cJ6_bitCount_0f7a4 24 = .ok (.iload_n 0, 1) := by decide +kernel
theorem dJ6_bitCount_0f7a4_25 : decode cJ6_bitCount_0f7a4 25 = .ok (.iload_n 0, 1) := by decide +kernel
theorem dJ6_bitCount_0f7a4_26 : decode cJ6_bitCount_0f7a4 26 = .ok (.iconst 4, 1) := by decide +kernel
theorem dJ6_bitCount_0f7a4_27 : decode cJ6_bitCount_0f7a4 27 = .ok (.iushr, 1) := by decide +kernel
theorem dJ6_bitCount_0f7a4_28 : decode cJ6_bitCount_0f7a4 28 = .ok (.iadd, 1) := by decide +kernel
theorem dJ6_bitCount_0f7a4_29 : decode cJ6_bitCount_0f7a4 29 = .ok (.ldc_w 267, 3) := by decide +kernel
theorem dJ6_bitCount_0f7a4_32 : decode cJ6_bitCount_0f7a4 32 = .ok (.iand, 1) := by decide +kernel
theorem dJ6_bitCount_0f7a4_33 : decode cJ6_bitCount_0f7a4 33 = .ok (.istore_n 0, 1) := by decide +kernel
theorem dJ6_bitCount_0f7a4_34 : decode cJ6_bitCount_0f7a4 34 = .ok (.iload_n 0, 1) := by decide +kernel
theorem dJ6_bitCount_0f7a4_35 : decode cJ6_bitCount_0f7a4 35 = .ok (.iload_n 0, 1) := by decide +kernel
theorem dJ6_bitCount_0f7a4_36 : decode cJ6_bitCount_0f7a4 36 = .ok (.bipush 8, 2) := by decide +kernel
theorem dJ6_bitCount_0f7a4_38 : decode cJ6_bitCount_0f7a4 38 = .ok (.iushr, 1) := by decide +kernel
theorem dJ6_bitCount_0f7a4_39 : decode cJ6_bitCount_0f7a4 39 = .ok (.iadd, 1) := by decide +kernel
theorem dJ6_bitCount_0f7a4_40 : decode cJ6_bitCount_0f7a4 40 = .ok (.istore_n 0, 1) := by decide +kernel
theorem dJ6_bitCount_0f7a4_41 : decode cJ6_bitCount_0f7a4 41 = .ok (.iload_n 0, 1) := by decide +kernel
theorem dJ6_bitCount_0f7a4_42 : decode cJ6_bitCount_0f7a4 42 = .ok (.iload_n 0, 1) := by decide +kernel
theorem dJ6_bitCount_0f7a4_43 : decode cJ6_bitCount_0f7a4 43 = .ok (.bipush 16, 2) := by decide +kernel
theorem dJ6_bitCount_0f7a4_45 : decode cJ6_bitCount_0f7a4 45 = .ok (.iushr, 1) := by decide +kernel
theorem dJ6_bitCount_0f7a4_46 : decode cJ6_bitCount_0f7a4 46 = .ok (.iadd, 1) := by decide +kernel
theorem dJ6_bitCount_0f7a4_47 : decode cJ6_bitCount_0f7a4 47 = .ok (.istore_n 0, 1) := by decide +kernel
theorem dJ6_bitCount_0f7a4_48 : decode cJ6_bitCount_0f7a4 48 = .ok (.iload_n 0, 1) := by decide +kernel
theorem dJ6_bitCount_0f7a4_49 : decode cJ6_bitCount_0f7a4 49 = .ok (.bipush 63, 2) := by decide +kernel
theorem dJ6_bitCount_0f7a4_51 : decode cJ6_bitCount_0f7a4 51 = .ok (.iand, 1) := by decide +kernel
theorem dJ6_bitCount_0f7a4_52 : decode cJ6_bitCount_0f7a4 52 = .ok (.ireturn, 1) := by decide +kernel
theorem dJ9_abs_0f7a4_0 : decode cJ9_abs_0f7a4 0 = .ok (.iload_n 0, 1) := by decide +kernel
theorem dJ9_abs_0f7a4_1 : decode cJ9_abs_0f7a4 1 = .ok (.ifCond .ge 8, 3) := by decide +kernel
theorem dJ9_abs_0f7a4_4 : decode cJ9_abs_0f7a4 4 = .ok (.iload_n 0, 1) := by decide +kernel
theorem dJ9_abs_0f7a4_5 : decode cJ9_abs_0f7a4 5 = .ok (.ineg, 1) := by decide +kernel
theorem dJ9_abs_0f7a4_6 : decode cJ9_abs_0f7a4 6 = .ok (.goto 4, 3) := by decide +kernel
theorem dJ9_abs_0f7a4_9 : decode cJ9_abs_0f7a4 9 = .ok (.iload_n 0, 1) := by decide +kernel
theorem dJ9_abs_0f7a4_10 : decode cJ9_abs_0f7a4 10 = .ok (.ireturn, 1) := by decide +kernel
theorem dJ9_max_7cf53_0 : decode cJ9_max_7cf53 0 = .ok (.iload_n 0, 1) := by decide +kernel
theorem dJ9_max_7cf53_1 : decode cJ9_max_7cf53 1 = .ok (.iload_n 1, 1) := by decide +kernel
theorem dJ9_max_7cf53_2 : decode cJ9_max_7cf53 2 = .ok (.if_icmp .lt 7, 3) := by decide +kernel
theorem dJ9_max_7cf53_5 : decode cJ9_max_7cf53 5 = .ok (.iload_n 0, 1) := by decide +kernel
theorem dJ9_max_7cf53_6 : decode cJ9_max_7cf53 6 = .ok (.goto 4, 3) := by decide +kernel
theorem dJ9_max_7cf53_9 : decode cJ9_max_7cf53 9 = .ok (.iload_n 1, 1) := by decide +kernel
theorem dJ9_max_7cf53_10 : decode cJ9_max_7cf53 10 = .ok (.ireturn, 1) := by decide +kernel
theorem dJ9_min_7cf53_0 : decode cJ9_min_7cf53 0 = .ok (.iload_n 0, 1) := by decide +kernel
theorem dJ9_min_7cf53_1 : decode cJ9_min_7cf53 1 = .ok (.iload_n 1, 1) := by decide +kernel
theorem dJ9_min_7cf53_2 : decode cJ9_min_7cf53 2 = .ok (.if_icmp .gt 7, 3) := by decide +kernel
theorem dJ9_min_7cf53_5 : decode cJ9_min_7cf53 5 = .ok (.iload_n 0, 1) := by decide +kernel
theorem dJ9_min_7cf53_6 : decode cJ9_min_7cf53 6 = .ok (.goto 4, 3) := by decide +kernel
theorem dJ9_min_7cf53_9 : decode cJ9_min_7cf53 9 = .ok (.iload_n 1, 1) := by decide +kernel
theorem dJ9_min_7cf53_10 : decode cJ9_min_7cf53 10 = .ok (.ireturn, 1) := by decide +kernel
theorem dJ0_length_8abf5_0 : decode cJ0_length_8abf5 0 = .ok (.aload_n 0, 1) := by decide +kernel
theorem dJ0_length_8abf5_1 : decode cJ0_length_8abf5 1 = .ok (.getfield 9, 3) := by decide +kernel
theorem dJ0_length_8abf5_4 : decode cJ0_length_8abf5 4 = .ok (.arraylength, 1) := by decide +kernel
theorem dJ0_length_8abf5_5 : decode cJ0_length_8abf5 5 = .ok (.aload_n 0, 1) := by decide +kernel
theorem dJ0_length_8abf5_6 : decode cJ0_length_8abf5 6 = .ok (.invokevirtual 335, 3) := by decide +kernel
theorem dJ0_length_8abf5_9 : decode cJ0_length_8abf5 9 = .ok (.ishr, 1) := by decide +kernel
theorem dJ0_length_8abf5_10 : decode cJ0_length_8abf5 10 = .ok (.ireturn, 1) := by decide +kernel
theorem dJ0_charAt_5068e_0 : decode cJ0_charAt_5068e 0 = .ok (.aload_n 0, 1) := by decide +kernel
theorem dJ0_charAt_5068e_1 : decode cJ0_charAt_5068e 1 = .ok (.invokevirtual 492, 3) := by decide +kernel
theorem dJ0_charAt_5068e_4 : decode cJ0_charAt_5068e 4 = .ok (.ifCond .eq 12, 3) := by decide +kernel
theorem dJ0_charAt_5068e_7 : decode cJ0_charAt_5068e 7 = .ok (.aload_n 0, 1) := by decide +kernel
theorem dJ0_charAt_5068e_8 : decode cJ0_charAt_5068e 8 = .ok (.getfield 9, 3) := by decide +kernel
theorem dJ0_charAt_5068e_11 : decode cJ0_charAt_5068e 11 = .ok (.iload_n 1, 1) := by decide +kernel
theorem dJ0_charAt_5068e_12 : decode cJ0_charAt_5068e 12 = .ok (.invokestatic 495, 3) := by decide +kernel
theorem dJ0_charAt_5068e_15 : decode cJ0_charAt_5068e 15 = .ok (.ireturn, 1) := by decide +kernel
theorem dJ0_charAt_5068e_16 : decode cJ0_charAt_5068e 16 = .ok (.aload_n 0, 1) := by decide +kernel
theorem dJ0_charAt_5068e_17 : decode cJ0_charAt_5068e 17 = .ok (.getfield 9, 3) := by decide +kernel
theorem dJ0_charAt_5068e_20 : decode cJ0_charAt_5068e 20 = .ok (.iload_n 1, 1) := by decide +kernel
theorem dJ0_charAt_5068e_21 : decode cJ0_charAt_5068e 21 = .ok (.invokestatic 498, 3) := by decide +kernel
theorem dJ0_charAt_5068e_24 : decode cJ0_charAt_5068e 24 = .ok (.ireturn, 1) := by decide +kernel
theorem dJ0_coder_7d493_0 : decode cJ0_coder_7d493 0 = .ok (.getstatic 38, 3) := by decide +kernel
theorem dJ0_coder_7d493_3 : decode cJ0_coder_7d493 3 = .ok (.ifCond .eq 10, 3) := by decide +kernel
theorem dJ0_coder_7d493_6 : decode cJ0_coder_7d493 6 = .ok (.aload_n 0, 1) := by decide +kernel
theorem dJ0_coder_7d493_7 : decode cJ0_coder_7d493 7 = .ok (.getfield 15, 3) := by decide +kernel
theorem dJ0_coder_7d493_10 : decode cJ0_coder_7d493 10 = .ok (.goto 4, 3) := by decide +kernel
theorem dJ0_coder_7d493_13 : decode cJ0_coder_7d493 13 = .ok (.iconst 1, 1) := by decide +kernel
theorem dJ0_coder_7d493_14 : decode cJ0_coder_7d493 14 = .ok (.ireturn, 1) := by decide +kernel
theorem dJ0_isLatin1_aae02_0 : decode cJ0_isLatin1_aae02 0 = .ok (.getstatic 38, 3) := by decide +kernel
theorem dJ0_isLatin1_aae02_3 : decode cJ0_isLatin1_aae02 3 = .ok (.ifCond .eq 14, 3) := by decide +kernel
theorem dJ0_isLatin1_aae02_6 : decode cJ0_isLatin1_aae02 6 = .ok (.aload_n 0, 1) := by decide +kernel
theorem dJ0_isLatin1_aae02_7 : decode cJ0_isLatin1_aae02 7 = .ok (.getfield 15, 3) := by decide +kernel
theorem dJ0_isLatin1_aae02_10 : decode cJ0_isLatin1_aae02 10 = .ok (.ifCond .ne 7, 3) := by decide +kernel
theorem dJ0_isLatin1_aae02_13 : decode cJ0_isLatin1_aae02 13 = .ok (.iconst 1, 1) := by decide +kernel
theorem dJ0_isLatin1_aae02_14 : decode cJ0_isLatin1_aae02 14 = .ok (.goto 4, 3) := by decide +kernel
theorem dJ0_isLatin1_aae02_17 : decode cJ0_isLatin1_aae02 17 = .ok (.iconst 0, 1) := by decide +kernel
theorem dJ0_isLatin1_aae02_18 : decode cJ0_isLatin1_aae02 18 = .ok (.ireturn, 1) := by decide +kernel
theorem dJ0_checkIndex_df160_0 : decode cJ0_checkIndex_df160 0 = .ok (.iload_n 0, 1) := by decide +kernel
theorem dJ0_checkIndex_df160_1 : decode cJ0_checkIndex_df160 1 = .ok (.iload_n 1, 1) := by decide +kernel
theorem dJ0_checkIndex_df160_2 : decode cJ0_checkIndex_df160 2 = .ok (.getstatic 1053, 3) := by decide +kernel
theorem dJ0_checkIndex_df160_5 : decode cJ0_checkIndex_df160 5 = .ok (.invokestatic 1059, 3) := by decide +kernel
theorem dJ0_checkIndex_df160_8 : decode cJ0_checkIndex_df160 8 = .ok (.pop, 1) := by decide +kernel
theorem dJ0_checkIndex_df160_9 : decode cJ0_checkIndex_df160 9 = .ok (.return_, 1) := by decide +kernel
theorem dJ1_charAt_3b067_0 : decode cJ1_charAt_3b067 0 = .ok (.iload_n 1, 1) := by decide +kernel
theorem dJ1_charAt_3b067_1 : decode cJ1_charAt_3b067 1 = .ok (.aload_n 0, 1) := by decide +kernel
theorem dJ1_charAt_3b067_2 : decode cJ1_charAt_3b067 2 = .ok (.arraylength, 1) := by decide +kernel
theorem dJ1_charAt_3b067_3 : decode cJ1_charAt_3b067 3 = .ok (.invokestatic 9, 3) := by decide +kernel
theorem dJ1_charAt_3b067_6 : decode cJ1_charAt_3b067 6 = .ok (.aload_n 0, 1) := by decide +kernel
theorem dJ1_charAt_3b067_7 : decode cJ1_charAt_3b067 7 = .ok (.iload_n 1, 1) := by decide +kernel
theorem dJ1_charAt_3b067_8 : decode cJ1_charAt_3b067 8 = .ok (.baload, 1) := by decide +kernel
theorem dJ1_charAt_3b067_9 : decode cJ1_charAt_3b067 9 = .ok (.sipush 255, 3) := by decide +kernel
theorem dJ1_charAt_3b067_12 : decode cJ1_charAt_3b067 12 = .ok (.iand, 1) := by decide +kernel
theorem dJ1_charAt_3b067_13 : decode cJ1_charAt_3b067 13 = .ok (.i2c, 1) := by decide +kernel
theorem dJ1_charAt_3b067_14 : decode cJ1_charAt_3b067 14 = .ok (.ireturn, 1) := by decide +kernel
theorem dJ2_getChar_3b067_0 : decode cJ2_getChar_3b067 0 = .ok (.getstatic 44, 3) := by decide +kernel
theorem dJ2_getChar_3b067_3 : decode cJ2_getChar_3b067 3 = .ok (.ifCond .ne 25, 3) := by decide +kernel
theorem dJ2_getChar_3b067_6 : decode cJ2_getChar_3b067 6 = .ok (.iload_n 1, 1) := by decide +kernel
theorem dJ2_getChar_3b067_7 : decode cJ2_getChar_3b067 7 = .ok (.ifCond .lt 11, 3) := by decide +kernel
theorem dJ2_getChar_3b067_10 : decode cJ2_getChar_3b067 10 = .ok (.iload_n 1, 1) := by decide +kernel
theorem dJ2_getChar_3b067_11 : decode cJ2_getChar_3b067 11 = .ok (.aload_n 0, 1) := by decide +kernel
theorem dJ2_getChar_3b067_12 : decode cJ2_getChar_3b067 12 = .ok (.invokestatic 48, 3) := by decide +kernel
theorem dJ2_getChar_3b067_15 : decode cJ2_getChar_3b067 15 = .ok (.if_icmp .lt 13, 3) := by decide +kernel
theorem dJ2_getChar_3b067_18 : decode cJ2_getChar_3b067 18 = .ok (.new 52, 3) := by decide +kernel
theorem dJ2_getChar_3b067_21 : decode cJ2_getChar_3b067 21 = .ok (.dup, 1) := by decide +kernel
theorem dJ2_getChar_3b067_22 : decode cJ2_getChar_3b067 22 = .ok (.ldc 54, 2) := by decide +kernel
theorem dJ2_getChar_3b067_24 : decode cJ2_getChar_3b067 24 = .ok (.invokespecial 56, 3) := by decide +kernel
theorem dJ2_getChar_3b067_27 : decode cJ2_getChar_3b067 27 = .ok (.athrow, 1) := by decide +kernel
theorem dJ2_getChar_3b067_28 : decode cJ2_getChar_3b067 28 = .ok (.iload_n 1, 1) := by decide +kernel
theorem dJ2_getChar_3b067_29 : decode cJ2_getChar_3b067 29 = .ok (.iconst 1, 1) := by decide +kernel
theorem dJ2_getChar_3b067_30 : decode cJ2_getChar_3b067 30 = .ok (.ishl, 1) := by decide +kernel
theorem dJ2_getChar_3b067_31 : decode cJ2_getChar_3b067 31 = .ok (.istore_n 1, 1) := by decide +kernel
theorem dJ2_getChar_3b067_32 : decode cJ2_getChar_3b067 32 = .ok (.aload_n 0, 1) := by decide +kernel
theorem dJ2_getChar_3b067_33 : decode cJ2_getChar_3b067 33 = .ok (.iload_n 1, 1) := by decide +kernel
theorem dJ2_getChar_3b067_34 : decode cJ2_getChar_3b067 34 = .ok (.iinc 1 1, 3) := by decide +kernel
theorem dJ2_getChar_3b067_37 : decode cJ2_getChar_3b067 37 = .ok (.baload, 1) := by decide +kernel
theorem dJ2_getChar_3b067_38 : decode cJ2_getChar_3b067 38 = .ok (.sipush 255, 3) := by decide +kernel
theorem dJ2_getChar_3b067_41 : decode cJ2_getChar_3b067 41 = .ok (.iand, 1) := by decide +kernel
theorem dJ2_getChar_3b067_42 : decode cJ2_getChar_3b067 42 = .ok (.getstatic 59, 3) := by decide +kernel
theorem dJ2_getChar_3b067_45 : decode cJ2_getChar_3b067 45 = .ok (.ishl, 1) := by decide +kernel
theorem dJ2_getChar_3b067_46 : decode cJ2_getChar_3b067 46 = .ok (.aload_n 0, 1) := by decide +kernel
theorem dJ2_getChar_3b067_47 : decode cJ2_getChar_3b067 47 = .ok (.iload_n 1, 1) := by decide +kernel
theorem dJ2_getChar_3b067_48 : decode cJ2_getChar_3b067 48 = .ok (.baload, 1) := by decide +kernel
theorem dJ2_getChar_3b067_49 : decode cJ2_getChar_3b067 49 = .ok (.sipush 255, 3) := by decide +kernel
theorem dJ2_getChar_3b067_52 : decode cJ2_getChar_3b067 52 = .ok (.iand, 1) := by decide +kernel
theorem dJ2_getChar_3b067_53 : decode cJ2_getChar_3b067 53 = .ok (.getstatic 63, 3) := by decide +kernel
theorem dJ2_getChar_3b067_56 : decode cJ2_getChar_3b067 56 = .ok (.ishl, 1) := by decide +kernel
theorem dJ2_getChar_3b067_57 : decode cJ2_getChar_3b067 57 = .ok (.ior, 1) := by decide +kernel
theorem dJ2_getChar_3b067_58 : decode cJ2_getChar_3b067 58 = .ok (.i2c, 1) := by decide +kernel
theorem dJ2_getChar_3b067_59 : decode cJ2_getChar_3b067 59 = .ok (.ireturn, 1) := by decide +kernel
theorem dJ2_length_9d52b_0 : decode cJ2_length_9d52b 0 = .ok (.aload_n 0, 1) := by decide +kernel
theorem dJ2_length_9d52b_1 : decode cJ2_length_9d52b 1 = .ok (.arraylength, 1) := by decide +kernel
theorem dJ2_length_9d52b_2 : decode cJ2_length_9d52b 2 = .ok (.iconst 1, 1) := by decide +kernel
theorem dJ2_length_9d52b_3 : decode cJ2_length_9d52b 3 = .ok (.ishr, 1) := by decide +kernel
theorem dJ2_length_9d52b_4 : decode cJ2_length_9d52b 4 = .ok (.ireturn, 1) := by decide +kernel
theorem dJ2_charAt_3b067_0 : decode cJ2_charAt_3b067 0 = .ok (.iload_n 1, 1) := by decide +kernel
theorem dJ2_charAt_3b067_1 : decode cJ2_charAt_3b067 1 = .ok (.aload_n 0, 1) := by decide +kernel
theorem dJ2_charAt_3b067_2 : decode cJ2_charAt_3b067 2 = .ok (.invokestatic 67, 3) := by decide +kernel
theorem dJ2_charAt_3b067_5 : decode cJ2_charAt_3b067 5 = .ok (.aload_n 0, 1) := by decide +kernel
theorem dJ2_charAt_3b067_6 : decode cJ2_charAt_3b067 6 = .ok (.iload_n 1, 1) := by decide +kernel
theorem dJ2_charAt_3b067_7 : decode cJ2_charAt_3b067 7 = .ok (.invokestatic 71, 3) := by decide +kernel
theorem dJ2_charAt_3b067_10 : decode cJ2_charAt_3b067 10 = .ok (.ireturn, 1) := by decide +kernel
theorem dJ2_checkIndex_2214a_0 : decode cJ2_checkIndex_2214a 0 = .ok (.iload_n 0, 1) := by decide +kernel
theorem dJ2_checkIndex_2214a_1 : decode cJ2_checkIndex_2214a 1 = .ok (.aload_n 1, 1) := by decide +kernel
theorem dJ2_checkIndex_2214a_2 : decode cJ2_checkIndex_2214a 2 = .ok (.invokestatic 48, 3) := by decide +kernel
theorem dJ2_checkIndex_2214a_5 : decode cJ2_checkIndex_2214a 5 = .ok (.invokestatic 414, 3) := by decide +kernel
theorem dJ2_checkIndex_2214a_8 : decode cJ2_checkIndex_2214a 8 = .ok (.return_, 1) := by decide +kernel
theorem dJ3_checkIndex_8e157_0 : decode cJ3_checkIndex_8e157 0 = .ok (.iload_n 0, 1) := by decide +kernel
theorem dJ3_checkIndex_8e157_1 : decode cJ3_checkIndex_8e157 1 = .ok (.ifCond .lt 8, 3) := by decide +kernel
theorem dJ3_checkIndex_8e157_4 : decode cJ3_checkIndex_8e157 4 = .ok (.iload_n 0, 1) := by decide +kernel
theorem dJ3_checkIndex_8e157_5 : decode cJ3_checkIndex_8e157 5 = .ok (.iload_n 1, 1) := by decide +kernel
theorem dJ3_checkIndex_8e157_6 : decode cJ3_checkIndex_8e157 6 = .ok (.if_icmp .lt 10, 3) := by decide +kernel
theorem dJ3_checkIndex_8e157_9 : decode cJ3_checkIndex_8e157 9 = .ok (.aload_n 2, 1) := by decide +kernel
theorem dJ3_checkIndex_8e157_10 : decode cJ3_checkIndex_8e157 10 = .ok (.iload_n 0, 1) := by decide +kernel
theorem dJ3_checkIndex_8e157_11 : decode cJ3_checkIndex_8e157 11 = .ok (.iload_n 1, 1) := by decide +kernel
theorem dJ3_checkIndex_8e157_12 : decode cJ3_checkIndex_8e157 12 = .ok (.invokestatic 95, 3) := by decide +kernel
theorem dJ3_checkIndex_8e157_15 : decode cJ3_checkIndex_8e157 15 = .ok (.athrow, 1) := by decide +kernel
theorem dJ3_checkIndex_8e157_16 : decode cJ3_checkIndex_8e157 16 = .ok (.iload_n 0, 1) := by decide +kernel
theorem dJ3_checkIndex_8e157_17 : decode cJ3_checkIndex_8e157 17 = .ok (.ireturn, 1) := by decide +kernel

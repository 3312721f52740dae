theorem dX12_init_0 : decode cX12_init 0 = .ok (.aload_n 0, 1) := by decide +kernel
theorem dX12_init_1 : decode cX12_init 1 = .ok (.invokespecial 1, 3) := by decide +kernel
theorem dX12_init_4 : decode cX12_init 4 = .ok (.aload_n 0, 1) := by decide +kernel
theorem dX12_init_5 : decode cX12_init 5 = .ok (.bipush 48, 2) := by decide +kernel
theorem dX12_init_7 : decode cX12_init 7 = .ok (.newarray .int, 2) := by decide +kernel
theorem dX12_init_9 : decode cX12_init 9 = .ok (.putfield 7, 3) := by decide +kernel
theorem dX12_init_12 : decode cX12_init 12 = .ok (.aload_n 0, 1) := by decide +kernel
theorem dX12_init_13 : decode cX12_init 13 = .ok (.bipush 7, 2) := by decide +kernel
theorem dX12_init_15 : decode cX12_init 15 = .ok (.newarray .int, 2) := by decide +kernel
theorem dX12_init_17 : decode cX12_init 17 = .ok (.putfield 13, 3) := by decide +kernel
theorem dX12_init_20 : decode cX12_init 20 = .ok (.aload_n 0, 1) := by decide +kernel
theorem dX12_init_21 : decode cX12_init 21 = .ok (.bipush 48, 2) := by decide +kernel
theorem dX12_init_23 : decode cX12_init 23 = .ok (.newarray .int, 2) := by decide +kernel
theorem dX12_init_25 : decode cX12_init 25 = .ok (.putfield 16, 3) := by decide +kernel
theorem dX12_init_28 : decode cX12_init 28 = .ok (.aload_n 0, 1) := by decide +kernel
theorem dX12_init_29 : decode cX12_init 29 = .ok (.bipush 48, 2) := by decide +kernel
theorem dX12_init_31 : decode cX12_init 31 = .ok (.newarray .int, 2) := by decide +kernel
theorem dX12_init_33 : decode cX12_init 33 = .ok (.putfield 19, 3) := by decide +kernel
theorem dX12_init_36 : decode cX12_init 36 = .ok (.aload_n 0, 1) := by decide +kernel
theorem dX12_init_37 : decode cX12_init 37 = .ok (.bipush 120, 2) := by decide +kernel
theorem dX12_init_39 : decode cX12_init 39 = .ok (.newarray .int, 2) := by decide +kernel
theorem dX12_init_41 : decode cX12_init 41 = .ok (.putfield 22, 3) := by decide +kernel
theorem dX12_init_44 : decode cX12_init 44 = .ok (.aload_n 0, 1) := by decide +kernel
theorem dX12_init_45 : decode cX12_init 45 = .ok (.iconst 4, 1) := by decide +kernel
theorem dX12_init_46 : decode cX12_init 46 = .ok (.newarray .int, 2) := by decide +kernel
theorem dX12_init_48 : decode cX12_init 48 = .ok (.putfield 25, 3) := by decide +kernel
theorem dX12_init_51 : decode cX12_init 51 = .ok (.aload_n 0, 1) := by decide +kernel
theorem dX12_init_52 : decode cX12_init 52 = .ok (.iconst 4, 1) := by decide +kernel
theorem dX12_init_53 : decode cX12_init 53 = .ok (.newarray .int, 2) := by decide +kernel
theorem dX12_init_55 : decode cX12_init 55 = .ok (.putfield 28, 3) := by decide +kernel
theorem dX12_init_58 : decode cX12_init 58 = .ok (.aload_n 0, 1) := by decide +kernel
theorem dX12_init_59 : decode cX12_init 59 = .ok (.sipush 160, 3) := by decide +kernel
theorem dX12_init_62 : decode cX12_init 62 = .ok (.newarray .long, 2) := by decide +kernel
theorem dX12_init_64 : decode cX12_init 64 = .ok (.putfield 31, 3) := by decide +kernel
theorem dX12_init_67 : decode cX12_init 67 = .ok (.aload_n 0, 1) := by decide +kernel
theorem dX12_init_68 : decode cX12_init 68 = .ok (.bipush 40, 2) := by decide +kernel
theorem dX12_init_70 : decode cX12_init 70 = .ok (.newarray .long, 2) := by decide +kernel
theorem dX12_init_72 : decode cX12_init 72 = .ok (.putfield 35, 3) := by decide +kernel
theorem dX12_init_75 : decode cX12_init 75 = .ok (.aload_n 0, 1) := by decide +kernel
theorem dX12_init_76 : decode cX12_init 76 = .ok (.bipush 48, 2) := by decide +kernel
theorem dX12_init_78 : decode cX12_init 78 = .ok (.newarray .int, 2) := by decide +kernel
theorem dX12_init_80 : decode cX12_init 80 = .ok (.putfield 38, 3) := by decide +kernel
theorem dX12_init_83 : decode cX12_init 83 = .ok (.aload_n 0, 1) := by decide +kernel
theorem dX12_init_84 : decode cX12_init 84 = .ok (.bipush 48, 2) := by decide +kernel
theorem dX12_init_86 : decode cX12_init 86 = .ok (.newarray .int, 2) := by decide +kernel
theorem dX12_init_88 : decode cX12_init 88 = .ok (.putfield 41, 3) := by decide +kernel
theorem dX12_init_91 : decode cX12_init 91 = .ok (.aload_n 0, 1) := by decide +kernel
theorem dX12_init_92 : decode cX12_init 92 = .ok (.getfield 7, 3) := by decide +kernel
theorem dX12_init_95 : decode cX12_init 95 = .ok (.iconst 1, 1) := by decide +kernel
theorem dX12_init_96 : decode cX12_init 96 = .ok (.bipush 10, 2) := by decide +kernel
theorem dX12_init_98 : decode cX12_init 98 = .ok (.iastore, 1) := by decide +kernel
theorem dX12_init_99 : decode cX12_init 99 = .ok (.aload_n 0, 1) := by decide +kernel
theorem dX12_init_100 : decode cX12_init 100 = .ok (.getfield 7, 3) := by decide +kernel
theorem dX12_init_103 : decode cX12_init 103 = .ok (.iconst 2, 1) := by decide +kernel
theorem dX12_init_104 : decode cX12_init 104 = .ok (.iconst 5, 1) := by decide +kernel
theorem dX12_init_105 : decode cX12_init 105 = .ok (.iastore, 1) := by decide +kernel
theorem dX12_init_106 : decode cX12_init 106 = .ok (.aload_n 0, 1) := by decide +kernel
theorem dX12_init_107 : decode cX12_init 107 = .ok (.getfield 7, 3) := by decide +kernel
theorem dX12_init_110 : decode cX12_init 110 = .ok (.iconst 3, 1) := by decide +kernel
theorem dX12_init_111 : decode cX12_init 111 = .ok (.sipush 4032, 3) := by decide +kernel
theorem dX12_init_114 : decode cX12_init 114 = .ok (.iastore, 1) := by decide +kernel
theorem dX12_init_115 : decode cX12_init 115 = .ok (.aload_n 0, 1) := by decide +kernel
theorem dX12_init_116 : decode cX12_init 116 = .ok (.getfield 7, 3) := by decide +kernel
theorem dX12_init_119 : decode cX12_init 119 = .ok (.iconst 4, 1) := by decide +kernel
theorem dX12_init_120 : decode cX12_init 120 = .ok (.iconst 4, 1) := by decide +kernel
theorem dX12_init_121 : decode cX12_init 121 = .ok (.iastore, 1) := by decide +kernel
theorem dX12_init_122 : decode cX12_init 122 = .ok (.return_, 1) := by decide +kernel
theorem dX12_in_0 : decode cX12_in 0 = .ok (.iload_n 0, 1) := by decide +kernel
theorem dX12_in_1 : decode cX12_in 1 = .ok (.iload_n 1, 1) := by decide +kernel
theorem dX12_in_2 : decode cX12_in 2 = .ok (.if_icmp .lt 12, 3) := by decide +kernel
theorem dX12_in_5 : decode cX12_in 5 = .ok (.iload_n 0, 1) := by decide +kernel
theorem dX12_in_6 : decode cX12_in 6 = .ok (.iload_n 2, 1) := by decide +kernel
theorem dX12_in_7 : decode cX12_in 7 = .ok (.if_icmp .gt 7, 3) := by decide +kernel
theorem dX12_in_10 : decode cX12_in 10 = .ok (.iconst 1, 1) := by decide +kernel
theorem dX12_in_11 : decode cX12_in 11 = .ok (.goto 4, 3) := by decide +kernel
theorem dX12_in_14 : decode cX12_in 14 = .ok (.iconst 0, 1) := by decide +kernel
theorem dX12_in_15 : decode cX12_in 15 = .ok (.ireturn, 1) := by decide +kernel
theorem dX12_finds_0 : decode cX12_finds 0 = .ok (.aload_n 0, 1) := by decide +kernel
theorem dX12_finds_1 : decode cX12_finds 1 = .ok (.getfield 13, 3) := by decide +kernel
theorem dX12_finds_4 : decode cX12_finds 4 = .ok (.ldc 44, 2) := by decide +kernel
theorem dX12_finds_6 : decode cX12_finds 6 = .ok (.iload_n 1, 1) := by decide +kernel
theorem dX12_finds_7 : decode cX12_finds 7 = .ok (.isub, 1) := by decide +kernel
theorem dX12_finds_8 : decode cX12_finds 8 = .ok (.dup2, 1) := by decide +kernel
theorem dX12_finds_9 : decode cX12_finds 9 = .ok (.iaload, 1) := by decide +kernel
theorem dX12_finds_10 : decode cX12_finds 10 = .ok (.iconst 1, 1) := by decide +kernel
theorem dX12_finds_11 : decode cX12_finds 11 = .ok (.iadd, 1) := by decide +kernel
theorem dX12_finds_12 : decode cX12_finds 12 = .ok (.iastore, 1) := by decide +kernel
theorem dX12_finds_13 : decode cX12_finds 13 = .ok (.iload_n 1, 1) := by decide +kernel
theorem dX12_finds_14 : decode cX12_finds 14 = .ok (.ireturn, 1) := by decide +kernel
theorem dX12_held_0 : decode cX12_held 0 = .ok (.iload_n 0, 1) := by decide +kernel
theorem dX12_held_1 : decode cX12_held 1 = .ok (.iload_n 1, 1) := by decide +kernel
theorem dX12_held_2 : decode cX12_held 2 = .ok (.if_icmp .ge 7, 3) := by decide +kernel
theorem dX12_held_5 : decode cX12_held 5 = .ok (.iload_n 1, 1) := by decide +kernel
theorem dX12_held_6 : decode cX12_held 6 = .ok (.goto 13, 3) := by decide +kernel
theorem dX12_held_9 : decode cX12_held 9 = .ok (.iload_n 0, 1) := by decide +kernel
theorem dX12_held_10 : decode cX12_held 10 = .ok (.iload_n 2, 1) := by decide +kernel
theorem dX12_held_11 : decode cX12_held 11 = .ok (.if_icmp .le 7, 3) := by decide +kernel
theorem dX12_held_14 : decode cX12_held 14 = .ok (.iload_n 2, 1) := by decide +kernel
theorem dX12_held_15 : decode cX12_held 15 = .ok (.goto 4, 3) := by decide +kernel
theorem dX12_held_18 : decode cX12_held 18 = .ok (.iload_n 0, 1) := by decide +kernel
theorem dX12_held_19 : decode cX12_held 19 = .ok (.ireturn, 1) := by decide +kernel
theorem dX12_its_0 : decode cX12_its 0 = .ok (.aload_n 0, 1) := by decide +kernel
theorem dX12_its_1 : decode cX12_its 1 = .ok (.getfield 7, 3) := by decide +kernel
theorem dX12_its_4 : decode cX12_its 4 = .ok (.bipush 6, 2) := by decide +kernel
theorem dX12_its_6 : decode cX12_its 6 = .ok (.bipush 7, 2) := by decide +kernel
theorem dX12_its_8 : decode cX12_its 8 = .ok (.iload_n 1, 1) := by decide +kernel
theorem dX12_its_9 : decode cX12_its 9 = .ok (.imul, 1) := by decide +kernel
theorem dX12_its_10 : decode cX12_its 10 = .ok (.iadd, 1) := by decide +kernel
theorem dX12_its_11 : decode cX12_its 11 = .ok (.iload_n 2, 1) := by decide +kernel
theorem dX12_its_12 : decode cX12_its 12 = .ok (.iadd, 1) := by decide +kernel
theorem dX12_its_13 : decode cX12_its 13 = .ok (.iaload, 1) := by decide +kernel
theorem dX12_its_14 : decode cX12_its 14 = .ok (.ireturn, 1) := by decide +kernel
theorem dX12_puts_0 : decode cX12_puts 0 = .ok (.aload_n 0, 1) := by decide +kernel
theorem dX12_puts_1 : decode cX12_puts 1 = .ok (.getfield 7, 3) := by decide +kernel
theorem dX12_puts_4 : decode cX12_puts 4 = .ok (.bipush 6, 2) := by decide +kernel
theorem dX12_puts_6 : decode cX12_puts 6 = .ok (.bipush 7, 2) := by decide +kernel
theorem dX12_puts_8 : decode cX12_puts 8 = .ok (.iload_n 1, 1) := by decide +kernel
theorem dX12_puts_9 : decode cX12_puts 9 = .ok (.imul, 1) := by decide +kernel
theorem dX12_puts_10 : decode cX12_puts 10 = .ok (.iadd, 1) := by decide +kernel
theorem dX12_puts_11 : decode cX12_puts 11 = .ok (.iload_n 2, 1) := by decide +kernel
theorem dX12_puts_12 : decode cX12_puts 12 = .ok (.iadd, 1) := by decide +kernel
theorem dX12_puts_13 : decode cX12_puts 13 = .ok (.iload_n 3, 1) := by decide +kernel
theorem dX12_puts_14 : decode cX12_puts 14 = .ok (.iastore, 1) := by decide +kernel
theorem dX12_puts_15 : decode cX12_puts 15 = .ok (.return_, 1) := by decide +kernel
theorem dX12_becomes_0 : decode cX12_becomes 0 = .ok (.aload_n 0, 1) := by decide +kernel
theorem dX12_becomes_1 : decode cX12_becomes 1 = .ok (.getfield 7, 3) := by decide +kernel
theorem dX12_becomes_4 : decode cX12_becomes 4 = .ok (.iload_n 1, 1) := by decide +kernel
theorem dX12_becomes_5 : decode cX12_becomes 5 = .ok (.iaload, 1) := by decide +kernel
theorem dX12_becomes_6 : decode cX12_becomes 6 = .ok (.istore_n 3, 1) := by decide +kernel
theorem dX12_becomes_7 : decode cX12_becomes 7 = .ok (.aload_n 0, 1) := by decide +kernel
theorem dX12_becomes_8 : decode cX12_becomes 8 = .ok (.getfield 7, 3) := by decide +kernel
theorem dX12_becomes_11 : decode cX12_becomes 11 = .ok (.iload_n 1, 1) := by decide +kernel
theorem dX12_becomes_12 : decode cX12_becomes 12 = .ok (.iload_n 2, 1) := by decide +kernel
theorem dX12_becomes_13 : decode cX12_becomes 13 = .ok (.iastore, 1) := by decide +kernel
theorem dX12_becomes_14 : decode cX12_becomes 14 = .ok (.iload_n 3, 1) := by decide +kernel
theorem dX12_becomes_15 : decode cX12_becomes 15 = .ok (.ireturn, 1) := by decide +kernel
theorem dX12_isOne_0 : decode cX12_isOne 0 = .ok (.iload_n 1, 1) := by decide +kernel
theorem dX12_isOne_1 : decode cX12_isOne 1 = .ok (.iconst 0, 1) := by decide +kernel
theorem dX12_isOne_2 : decode cX12_isOne 2 = .ok (.aload_n 0, 1) := by decide +kernel
theorem dX12_isOne_3 : decode cX12_isOne 3 = .ok (.getfield 7, 3) := by decide +kernel
theorem dX12_isOne_6 : decode cX12_isOne 6 = .ok (.iconst 5, 1) := by decide +kernel
theorem dX12_isOne_7 : decode cX12_isOne 7 = .ok (.iaload, 1) := by decide +kernel
theorem dX12_isOne_8 : decode cX12_isOne 8 = .ok (.iconst 1, 1) := by decide +kernel
theorem dX12_isOne_9 : decode cX12_isOne 9 = .ok (.isub, 1) := by decide +kernel
theorem dX12_isOne_10 : decode cX12_isOne 10 = .ok (.invokestatic 45, 3) := by decide +kernel
theorem dX12_isOne_13 : decode cX12_isOne 13 = .ok (.ireturn, 1) := by decide +kernel
theorem dX12_isKind_0 : decode cX12_isKind 0 = .ok (.iload_n 0, 1) := by decide +kernel
theorem dX12_isKind_1 : decode cX12_isKind 1 = .ok (.iconst 0, 1) := by decide +kernel
theorem dX12_isKind_2 : decode cX12_isKind 2 = .ok (.iconst 5, 1) := by decide +kernel
theorem dX12_isKind_3 : decode cX12_isKind 3 = .ok (.invokestatic 45, 3) := by decide +kernel
theorem dX12_isKind_6 : decode cX12_isKind 6 = .ok (.ireturn, 1) := by decide +kernel
theorem dX12_isRow_0 : decode cX12_isRow 0 = .ok (.iload_n 0, 1) := by decide +kernel
theorem dX12_isRow_1 : decode cX12_isRow 1 = .ok (.iconst 0, 1) := by decide +kernel
theorem dX12_isRow_2 : decode cX12_isRow 2 = .ok (.bipush 9, 2) := by decide +kernel
theorem dX12_isRow_4 : decode cX12_isRow 4 = .ok (.invokestatic 45, 3) := by decide +kernel
theorem dX12_isRow_7 : decode cX12_isRow 7 = .ok (.ireturn, 1) := by decide +kernel
theorem dX12_bits_0 : decode cX12_bits 0 = .ok (.iconst 0, 1) := by decide +kernel
theorem dX12_bits_1 : decode cX12_bits 1 = .ok (.istore_n 1, 1) := by decide +kernel
theorem dX12_bits_2 : decode cX12_bits 2 = .ok (.iload_n 0, 1) := by decide +kernel
theorem dX12_bits_3 : decode cX12_bits 3 = .ok (.istore_n 2, 1) := by decide +kernel
theorem dX12_bits_4 : decode cX12_bits 4 = .ok (.iload_n 2, 1) := by decide +kernel
theorem dX12_bits_5 : decode cX12_bits 5 = .ok (.ifCond .eq 15, 3) := by decide +kernel
theorem dX12_bits_8 : decode cX12_bits 8 = .ok (.iinc 1 1, 3) := by decide +kernel
theorem dX12_bits_11 : decode cX12_bits 11 = .ok (.iload_n 2, 1) := by decide +kernel
theorem dX12_bits_12 : decode cX12_bits 12 = .ok (.iload_n 2, 1) := by decide +kernel
theorem dX12_bits_13 : decode cX12_bits 13 = .ok (.iconst 1, 1) := by decide +kernel
theorem dX12_bits_14 : decode cX12_bits 14 = .ok (.isub, 1) := by decide +kernel
theorem dX12_bits_15 : decode cX12_bits 15 = .ok (.iand, 1) := by decide +kernel
theorem dX12_bits_16 : decode cX12_bits 16 = .ok (.istore_n 2, 1) := by decide +kernel
theorem dX12_bits_17 : decode cX12_bits 17 = .ok (.goto (-13), 3) := by decide +kernel
theorem dX12_bits_20 : decode cX12_bits 20 = .ok (.iload_n 1, 1) := by decide +kernel
theorem dX12_bits_21 : decode cX12_bits 21 = .ok (.ireturn, 1) := by decide +kernel
theorem dX12_isNight_0 : decode cX12_isNight 0 = .ok (.aload_n 0, 1) := by decide +kernel
theorem dX12_isNight_1 : decode cX12_isNight 1 = .ok (.getfield 7, 3) := by decide +kernel
theorem dX12_isNight_4 : decode cX12_isNight 4 = .ok (.iconst 0, 1) := by decide +kernel
theorem dX12_isNight_5 : decode cX12_isNight 5 = .ok (.iaload, 1) := by decide +kernel
theorem dX12_isNight_6 : decode cX12_isNight 6 = .ok (.bipush 12, 2) := by decide +kernel
theorem dX12_isNight_8 : decode cX12_isNight 8 = .ok (.irem, 1) := by decide +kernel
theorem dX12_isNight_9 : decode cX12_isNight 9 = .ok (.bipush 6, 2) := by decide +kernel
theorem dX12_isNight_11 : decode cX12_isNight 11 = .ok (.if_icmp .lt 7, 3) := by decide +kernel
theorem dX12_isNight_14 : decode cX12_isNight 14 = .ok (.iconst 1, 1) := by decide +kernel
theorem dX12_isNight_15 : decode cX12_isNight 15 = .ok (.goto 4, 3) := by decide +kernel
theorem dX12_isNight_18 : decode cX12_isNight 18 = .ok (.iconst 0, 1) := by decide +kernel
theorem dX12_isNight_19 : decode cX12_isNight 19 = .ok (.ireturn, 1) := by decide +kernel
theorem dX12_isBurning_0 : decode cX12_isBurning 0 = .ok (.aload_n 0, 1) := by decide +kernel
theorem dX12_isBurning_1 : decode cX12_isBurning 1 = .ok (.getfield 7, 3) := by decide +kernel
theorem dX12_isBurning_4 : decode cX12_isBurning 4 = .ok (.iconst 3, 1) := by decide +kernel
theorem dX12_isBurning_5 : decode cX12_isBurning 5 = .ok (.iaload, 1) := by decide +kernel
theorem dX12_isBurning_6 : decode cX12_isBurning 6 = .ok (.aload_n 0, 1) := by decide +kernel
theorem dX12_isBurning_7 : decode cX12_isBurning 7 = .ok (.getfield 7, 3) := by decide +kernel
theorem dX12_isBurning_10 : decode cX12_isBurning 10 = .ok (.iconst 0, 1) := by decide +kernel
theorem dX12_isBurning_11 : decode cX12_isBurning 11 = .ok (.iaload, 1) := by decide +kernel
theorem dX12_isBurning_12 : decode cX12_isBurning 12 = .ok (.bipush 12, 2) := by decide +kernel
theorem dX12_isBurning_14 : decode cX12_isBurning 14 = .ok (.irem, 1) := by decide +kernel
theorem dX12_isBurning_15 : decode cX12_isBurning 15 = .ok (.ishr, 1) := by decide +kernel
theorem dX12_isBurning_16 : decode cX12_isBurning 16 = .ok (.iconst 1, 1) := by decide +kernel
theorem dX12_isBurning_17 : decode cX12_isBurning 17 = .ok (.iand, 1) := by decide +kernel
theorem dX12_isBurning_18 : decode cX12_isBurning 18 = .ok (.iconst 1, 1) := by decide +kernel
theorem dX12_isBurning_19 : decode cX12_isBurning 19 = .ok (.if_icmp .ne 7, 3) := by decide +kernel
theorem dX12_isBurning_22 : decode cX12_isBurning 22 = .ok (.iconst 1, 1) := by decide +kernel
theorem dX12_isBurning_23 : decode cX12_isBurning 23 = .ok (.goto 4, 3) := by decide +kernel
theorem dX12_isBurning_26 : decode cX12_isBurning 26 = .ok (.iconst 0, 1) := by decide +kernel
theorem dX12_isBurning_27 : decode cX12_isBurning 27 = .ok (.ireturn, 1) := by decide +kernel
theorem dX12_place_0 : decode cX12_place 0 = .ok (.bipush 10, 2) := by decide +kernel
theorem dX12_place_2 : decode cX12_place 2 = .ok (.aload_n 0, 1) := by decide +kernel
theorem dX12_place_3 : decode cX12_place 3 = .ok (.getfield 7, 3) := by decide +kernel
theorem dX12_place_6 : decode cX12_place 6 = .ok (.iconst 1, 1) := by decide +kernel
theorem dX12_place_7 : decode cX12_place 7 = .ok (.iaload, 1) := by decide +kernel
theorem dX12_place_8 : decode cX12_place 8 = .ok (.imul, 1) := by decide +kernel
theorem dX12_place_9 : decode cX12_place 9 = .ok (.aload_n 0, 1) := by decide +kernel
theorem dX12_place_10 : decode cX12_place 10 = .ok (.getfield 7, 3) := by decide +kernel
theorem dX12_place_13 : decode cX12_place 13 = .ok (.iconst 2, 1) := by decide +kernel
theorem dX12_place_14 : decode cX12_place 14 = .ok (.iaload, 1) := by decide +kernel
theorem dX12_place_15 : decode cX12_place 15 = .ok (.iadd, 1) := by decide +kernel
theorem dX12_place_16 : decode cX12_place 16 = .ok (.ireturn, 1) := by decide +kernel
theorem dX12_stands_0 : decode cX12_stands 0 = .ok (.aload_n 0, 1) := by decide +kernel
theorem dX12_stands_1 : decode cX12_stands 1 = .ok (.getfield 7, 3) := by decide +kernel
theorem dX12_stands_4 : decode cX12_stands 4 = .ok (.iconst 1, 1) := by decide +kernel
theorem dX12_stands_5 : decode cX12_stands 5 = .ok (.iload_n 1, 1) := by decide +kernel
theorem dX12_stands_6 : decode cX12_stands 6 = .ok (.bipush 10, 2) := by decide +kernel
theorem dX12_stands_8 : decode cX12_stands 8 = .ok (.idiv, 1) := by decide +kernel
theorem dX12_stands_9 : decode cX12_stands 9 = .ok (.iastore, 1) := by decide +kernel
theorem dX12_stands_10 : decode cX12_stands 10 = .ok (.aload_n 0, 1) := by decide +kernel
theorem dX12_stands_11 : decode cX12_stands 11 = .ok (.getfield 7, 3) := by decide +kernel
theorem dX12_stands_14 : decode cX12_stands 14 = .ok (.iconst 2, 1) := by decide +kernel
theorem dX12_stands_15 : decode cX12_stands 15 = .ok (.iload_n 1, 1) := by decide +kernel
theorem dX12_stands_16 : decode cX12_stands 16 = .ok (.bipush 10, 2) := by decide +kernel
theorem dX12_stands_18 : decode cX12_stands 18 = .ok (.irem, 1) := by decide +kernel
theorem dX12_stands_19 : decode cX12_stands 19 = .ok (.iastore, 1) := by decide +kernel
theorem dX12_stands_20 : decode cX12_stands 20 = .ok (.return_, 1) := by decide +kernel
theorem dX12_tower_0 : decode cX12_tower 0 = .ok (.iload_n 1, 1) := by decide +kernel
theorem dX12_tower_1 : decode cX12_tower 1 = .ok (.iconst 0, 1) := by decide +kernel
theorem dX12_tower_2 : decode cX12_tower 2 = .ok (.bipush 19, 2) := by decide +kernel
theorem dX12_tower_4 : decode cX12_tower 4 = .ok (.invokestatic 45, 3) := by decide +kernel
theorem dX12_tower_7 : decode cX12_tower 7 = .ok (.ifCond .eq 10, 3) := by decide +kernel
theorem dX12_tower_10 : decode cX12_tower 10 = .ok (.iload_n 2, 1) := by decide +kernel
theorem dX12_tower_11 : decode cX12_tower 11 = .ok (.invokestatic 49, 3) := by decide +kernel
theorem dX12_tower_14 : decode cX12_tower 14 = .ok (.ifCond .ne 10, 3) := by decide +kernel
theorem dX12_tower_17 : decode cX12_tower 17 = .ok (.aload_n 0, 1) := by decide +kernel
theorem dX12_tower_18 : decode cX12_tower 18 = .ok (.ldc 44, 2) := by decide +kernel
theorem dX12_tower_20 : decode cX12_tower 20 = .ok (.invokevirtual 53, 3) := by decide +kernel
theorem dX12_tower_23 : decode cX12_tower 23 = .ok (.ireturn, 1) := by decide +kernel
theorem dX12_tower_24 : decode cX12_tower 24 = .ok (.aload_n 0, 1) := by decide +kernel
theorem dX12_tower_25 : decode cX12_tower 25 = .ok (.invokevirtual 57, 3) := by decide +kernel
theorem dX12_tower_28 : decode cX12_tower 28 = .ok (.istore_n 3, 1) := by decide +kernel
theorem dX12_tower_29 : decode cX12_tower 29 = .ok (.aload_n 0, 1) := by decide +kernel
theorem dX12_tower_30 : decode cX12_tower 30 = .ok (.bipush 10, 2) := by decide +kernel
theorem dX12_tower_32 : decode cX12_tower 32 = .ok (.iload_n 1, 1) := by decide +kernel
theorem dX12_tower_33 : decode cX12_tower 33 = .ok (.imul, 1) := by decide +kernel
theorem dX12_tower_34 : decode cX12_tower 34 = .ok (.iload_n 2, 1) := by decide +kernel
theorem dX12_tower_35 : decode cX12_tower 35 = .ok (.iadd, 1) := by decide +kernel
theorem dX12_tower_36 : decode cX12_tower 36 = .ok (.invokevirtual 61, 3) := by decide +kernel
theorem dX12_tower_39 : decode cX12_tower 39 = .ok (.iload_n 3, 1) := by decide +kernel
theorem dX12_tower_40 : decode cX12_tower 40 = .ok (.ireturn, 1) := by decide +kernel
theorem dX12_lamp_0 : decode cX12_lamp 0 = .ok (.iload_n 1, 1) := by decide +kernel
theorem dX12_lamp_1 : decode cX12_lamp 1 = .ok (.iconst 0, 1) := by decide +kernel
theorem dX12_lamp_2 : decode cX12_lamp 2 = .ok (.sipush 4095, 3) := by decide +kernel
theorem dX12_lamp_5 : decode cX12_lamp 5 = .ok (.invokestatic 45, 3) := by decide +kernel
theorem dX12_lamp_8 : decode cX12_lamp 8 = .ok (.ifCond .eq 12, 3) := by decide +kernel
theorem dX12_lamp_11 : decode cX12_lamp 11 = .ok (.aload_n 0, 1) := by decide +kernel
theorem dX12_lamp_12 : decode cX12_lamp 12 = .ok (.iconst 3, 1) := by decide +kernel
theorem dX12_lamp_13 : decode cX12_lamp 13 = .ok (.iload_n 1, 1) := by decide +kernel
theorem dX12_lamp_14 : decode cX12_lamp 14 = .ok (.invokevirtual 65, 3) := by decide +kernel
theorem dX12_lamp_17 : decode cX12_lamp 17 = .ok (.goto 9, 3) := by decide +kernel
theorem dX12_lamp_20 : decode cX12_lamp 20 = .ok (.aload_n 0, 1) := by decide +kernel
theorem dX12_lamp_21 : decode cX12_lamp 21 = .ok (.ldc 44, 2) := by decide +kernel
theorem dX12_lamp_23 : decode cX12_lamp 23 = .ok (.invokevirtual 53, 3) := by decide +kernel
theorem dX12_lamp_26 : decode cX12_lamp 26 = .ok (.ireturn, 1) := by decide +kernel
theorem dX12_reach_0 : decode cX12_reach 0 = .ok (.iload_n 1, 1) := by decide +kernel
theorem dX12_reach_1 : decode cX12_reach 1 = .ok (.iconst 0, 1) := by decide +kernel
theorem dX12_reach_2 : decode cX12_reach 2 = .ok (.bipush 9, 2) := by decide +kernel
theorem dX12_reach_4 : decode cX12_reach 4 = .ok (.invokestatic 45, 3) := by decide +kernel
theorem dX12_reach_7 : decode cX12_reach 7 = .ok (.ifCond .eq 12, 3) := by decide +kernel
theorem dX12_reach_10 : decode cX12_reach 10 = .ok (.aload_n 0, 1) := by decide +kernel
theorem dX12_reach_11 : decode cX12_reach 11 = .ok (.iconst 4, 1) := by decide +kernel
theorem dX12_reach_12 : decode cX12_reach 12 = .ok (.iload_n 1, 1) := by decide +kernel
theorem dX12_reach_13 : decode cX12_reach 13 = .ok (.invokevirtual 65, 3) := by decide +kernel
theorem dX12_reach_16 : decode cX12_reach 16 = .ok (.goto 9, 3) := by decide +kernel
theorem dX12_reach_19 : decode cX12_reach 19 = .ok (.aload_n 0, 1) := by decide +kernel
theorem dX12_reach_20 : decode cX12_reach 20 = .ok (.ldc 44, 2) := by decide +kernel
theorem dX12_reach_22 : decode cX12_reach 22 = .ok (.invokevirtual 53, 3) := by decide +kernel
theorem dX12_reach_25 : decode cX12_reach 25 = .ok (.ireturn, 1) := by decide +kernel
theorem dX12_setOf_0 : decode cX12_setOf 0 = .ok (.iconst 0, 1) := by decide +kernel
theorem dX12_setOf_1 : decode cX12_setOf 1 = .ok (.istore_n 2, 1) := by decide +kernel
theorem dX12_setOf_2 : decode cX12_setOf 2 = .ok (.iconst 0, 1) := by decide +kernel
theorem dX12_setOf_3 : decode cX12_setOf 3 = .ok (.istore_n 3, 1) := by decide +kernel
theorem dX12_setOf_4 : decode cX12_setOf 4 = .ok (.iload_n 3, 1) := by decide +kernel
theorem dX12_setOf_5 : decode cX12_setOf 5 = .ok (.aload_n 0, 1) := by decide +kernel
theorem dX12_setOf_6 : decode cX12_setOf 6 = .ok (.getfield 7, 3) := by decide +kernel
theorem dX12_setOf_9 : decode cX12_setOf 9 = .ok (.iconst 5, 1) := by decide +kernel
theorem dX12_setOf_10 : decode cX12_setOf 10 = .ok (.iaload, 1) := by decide +kernel
theorem dX12_setOf_11 : decode cX12_setOf 11 = .ok (.if_icmp .ge 20, 3) := by decide +kernel
theorem dX12_setOf_14 : decode cX12_setOf 14 = .ok (.iload_n 2, 1) := by decide +kernel
theorem dX12_setOf_15 : decode cX12_setOf 15 = .ok (.aload_n 0, 1) := by decide +kernel
theorem dX12_setOf_16 : decode cX12_setOf 16 = .ok (.iload_n 3, 1) := by decide +kernel
theorem dX12_setOf_17 : decode cX12_setOf 17 = .ok (.iload_n 1, 1) := by decide +kernel
theorem dX12_setOf_18 : decode cX12_setOf 18 = .ok (.invokevirtual 69, 3) := by decide +kernel
theorem dX12_setOf_21 : decode cX12_setOf 21 = .ok (.iload_n 3, 1) := by decide +kernel
theorem dX12_setOf_22 : decode cX12_setOf 22 = .ok (.ishl, 1) := by decide +kernel
theorem dX12_setOf_23 : decode cX12_setOf 23 = .ok (.ior, 1) := by decide +kernel
theorem dX12_setOf_24 : decode cX12_setOf 24 = .ok (.istore_n 2, 1) := by decide +kernel
theorem dX12_setOf_25 : decode cX12_setOf 25 = .ok (.iinc 3 1, 3) := by decide +kernel
theorem dX12_setOf_28 : decode cX12_setOf 28 = .ok (.goto (-24), 3) := by decide +kernel
theorem dX12_setOf_31 : decode cX12_setOf 31 = .ok (.iload_n 2, 1) := by decide +kernel
theorem dX12_setOf_32 : decode cX12_setOf 32 = .ok (.ireturn, 1) := by decide +kernel
theorem dX12_costOfAll_0 : decode cX12_costOfAll 0 = .ok (.iconst 0, 1) := by decide +kernel
theorem dX12_costOfAll_1 : decode cX12_costOfAll 1 = .ok (.istore_n 1, 1) := by decide +kernel
theorem dX12_costOfAll_2 : decode cX12_costOfAll 2 = .ok (.iconst 0, 1) := by decide +kernel
theorem dX12_costOfAll_3 : decode cX12_costOfAll 3 = .ok (.istore_n 2, 1) := by decide +kernel
theorem dX12_costOfAll_4 : decode cX12_costOfAll 4 = .ok (.iload_n 2, 1) := by decide +kernel
theorem dX12_costOfAll_5 : decode cX12_costOfAll 5 = .ok (.aload_n 0, 1) := by decide +kernel
theorem dX12_costOfAll_6 : decode cX12_costOfAll 6 = .ok (.getfield 7, 3) := by decide +kernel
theorem dX12_costOfAll_9 : decode cX12_costOfAll 9 = .ok (.iconst 5, 1) := by decide +kernel
theorem dX12_costOfAll_10 : decode cX12_costOfAll 10 = .ok (.iaload, 1) := by decide +kernel
theorem dX12_costOfAll_11 : decode cX12_costOfAll 11 = .ok (.if_icmp .ge 18, 3) := by decide +kernel
theorem dX12_costOfAll_14 : decode cX12_costOfAll 14 = .ok (.iload_n 1, 1) := by decide +kernel
theorem dX12_costOfAll_15 : decode cX12_costOfAll 15 = .ok (.aload_n 0, 1) := by decide +kernel
theorem dX12_costOfAll_16 : decode cX12_costOfAll 16 = .ok (.iload_n 2, 1) := by decide +kernel
theorem dX12_costOfAll_17 : decode cX12_costOfAll 17 = .ok (.iconst 3, 1) := by decide +kernel
theorem dX12_costOfAll_18 : decode cX12_costOfAll 18 = .ok (.invokevirtual 69, 3) := by decide +kernel
theorem dX12_costOfAll_21 : decode cX12_costOfAll 21 = .ok (.iadd, 1) := by decide +kernel
theorem dX12_costOfAll_22 : decode cX12_costOfAll 22 = .ok (.istore_n 1, 1) := by decide +kernel
theorem dX12_costOfAll_23 : decode cX12_costOfAll 23 = .ok (.iinc 2 1, 3) := by decide +kernel
theorem dX12_costOfAll_26 : decode cX12_costOfAll 26 = .ok (.goto (-22), 3) := by decide +kernel
theorem dX12_costOfAll_29 : decode cX12_costOfAll 29 = .ok (.iload_n 1, 1) := by decide +kernel
theorem dX12_costOfAll_30 : decode cX12_costOfAll 30 = .ok (.ireturn, 1) := by decide +kernel
theorem dX12_now_0 : decode cX12_now 0 = .ok (.iload_n 1, 1) := by decide +kernel
theorem dX12_now_1 : decode cX12_now 1 = .ok (.tableswitch 115 0 7 #[47, 54, 64, 77, 90, 95, 102, 108], 47) := by decide +kernel
theorem dX12_now_48 : decode cX12_now 48 = .ok (.aload_n 0, 1) := by decide +kernel
theorem dX12_now_49 : decode cX12_now 49 = .ok (.getfield 7, 3) := by decide +kernel
theorem dX12_now_52 : decode cX12_now 52 = .ok (.iconst 0, 1) := by decide +kernel
theorem dX12_now_53 : decode cX12_now 53 = .ok (.iaload, 1) := by decide +kernel
theorem dX12_now_54 : decode cX12_now 54 = .ok (.ireturn, 1) := by decide +kernel
theorem dX12_now_55 : decode cX12_now 55 = .ok (.aload_n 0, 1) := by decide +kernel
theorem dX12_now_56 : decode cX12_now 56 = .ok (.getfield 7, 3) := by decide +kernel
theorem dX12_now_59 : decode cX12_now 59 = .ok (.iconst 0, 1) := by decide +kernel
theorem dX12_now_60 : decode cX12_now 60 = .ok (.iaload, 1) := by decide +kernel
theorem dX12_now_61 : decode cX12_now 61 = .ok (.bipush 12, 2) := by decide +kernel
theorem dX12_now_63 : decode cX12_now 63 = .ok (.irem, 1) := by decide +kernel
theorem dX12_now_64 : decode cX12_now 64 = .ok (.ireturn, 1) := by decide +kernel
theorem dX12_now_65 : decode cX12_now 65 = .ok (.aload_n 0, 1) := by decide +kernel
theorem dX12_now_66 : decode cX12_now 66 = .ok (.invokevirtual 72, 3) := by decide +kernel
theorem dX12_now_69 : decode cX12_now 69 = .ok (.ifCond .eq 7, 3) := by decide +kernel
theorem dX12_now_72 : decode cX12_now 72 = .ok (.iconst 1, 1) := by decide +kernel
theorem dX12_now_73 : decode cX12_now 73 = .ok (.goto 4, 3) := by decide +kernel
theorem dX12_now_76 : decode cX12_now 76 = .ok (.iconst 0, 1) := by decide +kernel
theorem dX12_now_77 : decode cX12_now 77 = .ok (.ireturn, 1) := by decide +kernel
theorem dX12_now_78 : decode cX12_now 78 = .ok (.aload_n 0, 1) := by decide +kernel
theorem dX12_now_79 : decode cX12_now 79 = .ok (.invokevirtual 76, 3) := by decide +kernel
theorem dX12_now_82 : decode cX12_now 82 = .ok (.ifCond .eq 7, 3) := by decide +kernel
theorem dX12_now_85 : decode cX12_now 85 = .ok (.iconst 1, 1) := by decide +kernel
theorem dX12_now_86 : decode cX12_now 86 = .ok (.goto 4, 3) := by decide +kernel
theorem dX12_now_89 : decode cX12_now 89 = .ok (.iconst 0, 1) := by decide +kernel
theorem dX12_now_90 : decode cX12_now 90 = .ok (.ireturn, 1) := by decide +kernel
theorem dX12_now_91 : decode cX12_now 91 = .ok (.aload_n 0, 1) := by decide +kernel
theorem dX12_now_92 : decode cX12_now 92 = .ok (.invokevirtual 57, 3) := by decide +kernel
theorem dX12_now_95 : decode cX12_now 95 = .ok (.ireturn, 1) := by decide +kernel
theorem dX12_now_96 : decode cX12_now 96 = .ok (.aload_n 0, 1) := by decide +kernel
theorem dX12_now_97 : decode cX12_now 97 = .ok (.getfield 7, 3) := by decide +kernel
theorem dX12_now_100 : decode cX12_now 100 = .ok (.iconst 4, 1) := by decide +kernel
theorem dX12_now_101 : decode cX12_now 101 = .ok (.iaload, 1) := by decide +kernel
theorem dX12_now_102 : decode cX12_now 102 = .ok (.ireturn, 1) := by decide +kernel
theorem dX12_now_103 : decode cX12_now 103 = .ok (.aload_n 0, 1) := by decide +kernel
theorem dX12_now_104 : decode cX12_now 104 = .ok (.iconst 5, 1) := by decide +kernel
theorem dX12_now_105 : decode cX12_now 105 = .ok (.invokevirtual 79, 3) := by decide +kernel
theorem dX12_now_108 : decode cX12_now 108 = .ok (.ireturn, 1) := by decide +kernel
theorem dX12_now_109 : decode cX12_now 109 = .ok (.aload_n 0, 1) := by decide +kernel
theorem dX12_now_110 : decode cX12_now 110 = .ok (.bipush 6, 2) := by decide +kernel
theorem dX12_now_112 : decode cX12_now 112 = .ok (.invokevirtual 79, 3) := by decide +kernel
theorem dX12_now_115 : decode cX12_now 115 = .ok (.ireturn, 1) := by decide +kernel
theorem dX12_now_116 : decode cX12_now 116 = .ok (.aload_n 0, 1) := by decide +kernel
theorem dX12_now_117 : decode cX12_now 117 = .ok (.ldc 44, 2) := by decide +kernel
theorem dX12_now_119 : decode cX12_now 119 = .ok (.invokevirtual 53, 3) := by decide +kernel
theorem dX12_now_122 : decode cX12_now 122 = .ok (.ireturn, 1) := by decide +kernel
theorem dX12_apart_0 : decode cX12_apart 0 = .ok (.iload_n 0, 1) := by decide +kernel
theorem dX12_apart_1 : decode cX12_apart 1 = .ok (.iload_n 1, 1) := by decide +kernel
theorem dX12_apart_2 : decode cX12_apart 2 = .ok (.if_icmp .le 9, 3) := by decide +kernel
theorem dX12_apart_5 : decode cX12_apart 5 = .ok (.iload_n 0, 1) := by decide +kernel
theorem dX12_apart_6 : decode cX12_apart 6 = .ok (.iload_n 1, 1) := by decide +kernel
theorem dX12_apart_7 : decode cX12_apart 7 = .ok (.isub, 1) := by decide +kernel
theorem dX12_apart_8 : decode cX12_apart 8 = .ok (.goto 6, 3) := by decide +kernel
theorem dX12_apart_11 : decode cX12_apart 11 = .ok (.iload_n 1, 1) := by decide +kernel
theorem dX12_apart_12 : decode cX12_apart 12 = .ok (.iload_n 0, 1) := by decide +kernel
theorem dX12_apart_13 : decode cX12_apart 13 = .ok (.isub, 1) := by decide +kernel
theorem dX12_apart_14 : decode cX12_apart 14 = .ok (.ireturn, 1) := by decide +kernel
theorem dX12_distance_0 : decode cX12_distance 0 = .ok (.aload_n 0, 1) := by decide +kernel
theorem dX12_distance_1 : decode cX12_distance 1 = .ok (.iload_n 1, 1) := by decide +kernel
theorem dX12_distance_2 : decode cX12_distance 2 = .ok (.iconst 1, 1) := by decide +kernel
theorem dX12_distance_3 : decode cX12_distance 3 = .ok (.invokevirtual 69, 3) := by decide +kernel
theorem dX12_distance_6 : decode cX12_distance 6 = .ok (.aload_n 0, 1) := by decide +kernel
theorem dX12_distance_7 : decode cX12_distance 7 = .ok (.getfield 7, 3) := by decide +kernel
theorem dX12_distance_10 : decode cX12_distance 10 = .ok (.iconst 1, 1) := by decide +kernel
theorem dX12_distance_11 : decode cX12_distance 11 = .ok (.iaload, 1) := by decide +kernel
theorem dX12_distance_12 : decode cX12_distance 12 = .ok (.invokestatic 82, 3) := by decide +kernel
theorem dX12_distance_15 : decode cX12_distance 15 = .ok (.istore_n 2, 1) := by decide +kernel
theorem dX12_distance_16 : decode cX12_distance 16 = .ok (.aload_n 0, 1) := by decide +kernel
theorem dX12_distance_17 : decode cX12_distance 17 = .ok (.iload_n 1, 1) := by decide +kernel
theorem dX12_distance_18 : decode cX12_distance 18 = .ok (.iconst 2, 1) := by decide +kernel
theorem dX12_distance_19 : decode cX12_distance 19 = .ok (.invokevirtual 69, 3) := by decide +kernel
theorem dX12_distance_22 : decode cX12_distance 22 = .ok (.aload_n 0, 1) := by decide +kernel
theorem dX12_distance_23 : decode cX12_distance 23 = .ok (.getfield 7, 3) := by decide +kernel
theorem dX12_distance_26 : decode cX12_distance 26 = .ok (.iconst 2, 1) := by decide +kernel
theorem dX12_distance_27 : decode cX12_distance 27 = .ok (.iaload, 1) := by decide +kernel
theorem dX12_distance_28 : decode cX12_distance 28 = .ok (.invokestatic 82, 3) := by decide +kernel
theorem dX12_distance_31 : decode cX12_distance 31 = .ok (.istore_n 3, 1) := by decide +kernel
theorem dX12_distance_32 : decode cX12_distance 32 = .ok (.iload_n 2, 1) := by decide +kernel
theorem dX12_distance_33 : decode cX12_distance 33 = .ok (.iload_n 3, 1) := by decide +kernel
theorem dX12_distance_34 : decode cX12_distance 34 = .ok (.if_icmp .le 7, 3) := by decide +kernel
theorem dX12_distance_37 : decode cX12_distance 37 = .ok (.iload_n 2, 1) := by decide +kernel
theorem dX12_distance_38 : decode cX12_distance 38 = .ok (.goto 4, 3) := by decide +kernel
theorem dX12_distance_41 : decode cX12_distance 41 = .ok (.iload_n 3, 1) := by decide +kernel
theorem dX12_distance_42 : decode cX12_distance 42 = .ok (.ireturn, 1) := by decide +kernel
theorem dX12_isSeeing_0 : decode cX12_isSeeing 0 = .ok (.aload_n 0, 1) := by decide +kernel
theorem dX12_isSeeing_1 : decode cX12_isSeeing 1 = .ok (.iload_n 1, 1) := by decide +kernel
theorem dX12_isSeeing_2 : decode cX12_isSeeing 2 = .ok (.invokevirtual 85, 3) := by decide +kernel
theorem dX12_isSeeing_5 : decode cX12_isSeeing 5 = .ok (.istore_n 2, 1) := by decide +kernel
theorem dX12_isSeeing_6 : decode cX12_isSeeing 6 = .ok (.aload_n 0, 1) := by decide +kernel
theorem dX12_isSeeing_7 : decode cX12_isSeeing 7 = .ok (.invokevirtual 72, 3) := by decide +kernel
theorem dX12_isSeeing_10 : decode cX12_isSeeing 10 = .ok (.istore_n 3, 1) := by decide +kernel
theorem dX12_isSeeing_11 : decode cX12_isSeeing 11 = .ok (.aload_n 0, 1) := by decide +kernel
theorem dX12_isSeeing_12 : decode cX12_isSeeing 12 = .ok (.invokevirtual 76, 3) := by decide +kernel
theorem dX12_isSeeing_15 : decode cX12_isSeeing 15 = .ok (.istore 4, 2) := by decide +kernel
theorem dX12_isSeeing_17 : decode cX12_isSeeing 17 = .ok (.aload_n 0, 1) := by decide +kernel
theorem dX12_isSeeing_18 : decode cX12_isSeeing 18 = .ok (.iload_n 1, 1) := by decide +kernel
theorem dX12_isSeeing_19 : decode cX12_isSeeing 19 = .ok (.iconst 0, 1) := by decide +kernel
theorem dX12_isSeeing_20 : decode cX12_isSeeing 20 = .ok (.invokevirtual 69, 3) := by decide +kernel
theorem dX12_isSeeing_23 : decode cX12_isSeeing 23 = .ok (.tableswitch 156 1 5 #[33, 111, 154, 71, 139], 33) := by decide +kernel
theorem dX12_isSeeing_56 : decode cX12_isSeeing 56 = .ok (.iload_n 2, 1) := by decide +kernel
theorem dX12_isSeeing_57 : decode cX12_isSeeing 57 = .ok (.iconst 1, 1) := by decide +kernel
theorem dX12_isSeeing_58 : decode cX12_isSeeing 58 = .ok (.if_icmp .eq 30, 3) := by decide +kernel
theorem dX12_isSeeing_61 : decode cX12_isSeeing 61 = .ok (.iload_n 3, 1) := by decide +kernel
theorem dX12_isSeeing_62 : decode cX12_isSeeing 62 = .ok (.ifCond .eq 21, 3) := by decide +kernel
theorem dX12_isSeeing_65 : decode cX12_isSeeing 65 = .ok (.iload 4, 2) := by decide +kernel
theorem dX12_isSeeing_67 : decode cX12_isSeeing 67 = .ok (.ifCond .eq 25, 3) := by decide +kernel
theorem dX12_isSeeing_70 : decode cX12_isSeeing 70 = .ok (.iload_n 2, 1) := by decide +kernel
theorem dX12_isSeeing_71 : decode cX12_isSeeing 71 = .ok (.aload_n 0, 1) := by decide +kernel
theorem dX12_isSeeing_72 : decode cX12_isSeeing 72 = .ok (.getfield 7, 3) := by decide +kernel
theorem dX12_isSeeing_75 : decode cX12_isSeeing 75 = .ok (.iconst 4, 1) := by decide +kernel
theorem dX12_isSeeing_76 : decode cX12_isSeeing 76 = .ok (.iaload, 1) := by decide +kernel
theorem dX12_isSeeing_77 : decode cX12_isSeeing 77 = .ok (.if_icmp .gt 15, 3) := by decide +kernel
theorem dX12_isSeeing_80 : decode cX12_isSeeing 80 = .ok (.goto 8, 3) := by decide +kernel
theorem dX12_isSeeing_83 : decode cX12_isSeeing 83 = .ok (.iload_n 2, 1) := by decide +kernel
theorem dX12_isSeeing_84 : decode cX12_isSeeing 84 = .ok (.iconst 3, 1) := by decide +kernel
theorem dX12_isSeeing_85 : decode cX12_isSeeing 85 = .ok (.if_icmp .gt 7, 3) := by decide +kernel
theorem dX12_isSeeing_88 : decode cX12_isSeeing 88 = .ok (.iconst 1, 1) := by decide +kernel
theorem dX12_isSeeing_89 : decode cX12_isSeeing 89 = .ok (.goto 4, 3) := by decide +kernel
theorem dX12_isSeeing_92 : decode cX12_isSeeing 92 = .ok (.iconst 0, 1) := by decide +kernel
theorem dX12_isSeeing_93 : decode cX12_isSeeing 93 = .ok (.ireturn, 1) := by decide +kernel
theorem dX12_isSeeing_94 : decode cX12_isSeeing 94 = .ok (.iload_n 2, 1) := by decide +kernel
theorem dX12_isSeeing_95 : decode cX12_isSeeing 95 = .ok (.iconst 1, 1) := by decide +kernel
theorem dX12_isSeeing_96 : decode cX12_isSeeing 96 = .ok (.if_icmp .eq 32, 3) := by decide +kernel
theorem dX12_isSeeing_99 : decode cX12_isSeeing 99 = .ok (.iload_n 3, 1) := by decide +kernel
theorem dX12_isSeeing_100 : decode cX12_isSeeing 100 = .ok (.ifCond .eq 23, 3) := by decide +kernel
theorem dX12_isSeeing_103 : decode cX12_isSeeing 103 = .ok (.iload 4, 2) := by decide +kernel
theorem dX12_isSeeing_105 : decode cX12_isSeeing 105 = .ok (.ifCond .eq 27, 3) := by decide +kernel
theorem dX12_isSeeing_108 : decode cX12_isSeeing 108 = .ok (.iload_n 2, 1) := by decide +kernel
theorem dX12_isSeeing_109 : decode cX12_isSeeing 109 = .ok (.aload_n 0, 1) := by decide +kernel
theorem dX12_isSeeing_110 : decode cX12_isSeeing 110 = .ok (.getfield 7, 3) := by decide +kernel
theorem dX12_isSeeing_113 : decode cX12_isSeeing 113 = .ok (.iconst 4, 1) := by decide +kernel
theorem dX12_isSeeing_114 : decode cX12_isSeeing 114 = .ok (.iaload, 1) := by decide +kernel
theorem dX12_isSeeing_115 : decode cX12_isSeeing 115 = .ok (.iconst 2, 1) := by decide +kernel
theorem dX12_isSeeing_116 : decode cX12_isSeeing 116 = .ok (.iadd, 1) := by decide +kernel
theorem dX12_isSeeing_117 : decode cX12_isSeeing 117 = .ok (.if_icmp .gt 15, 3) := by decide +kernel
theorem dX12_isSeeing_120 : decode cX12_isSeeing 120 = .ok (.goto 8, 3) := by decide +kernel
theorem dX12_isSeeing_123 : decode cX12_isSeeing 123 = .ok (.iload_n 2, 1) := by decide +kernel
theorem dX12_isSeeing_124 : decode cX12_isSeeing 124 = .ok (.iconst 3, 1) := by decide +kernel
theorem dX12_isSeeing_125 : decode cX12_isSeeing 125 = .ok (.if_icmp .gt 7, 3) := by decide +kernel
theorem dX12_isSeeing_128 : decode cX12_isSeeing 128 = .ok (.iconst 1, 1) := by decide +kernel
theorem dX12_isSeeing_129 : decode cX12_isSeeing 129 = .ok (.goto 4, 3) := by decide +kernel
theorem dX12_isSeeing_132 : decode cX12_isSeeing 132 = .ok (.iconst 0, 1) := by decide +kernel
theorem dX12_isSeeing_133 : decode cX12_isSeeing 133 = .ok (.ireturn, 1) := by decide +kernel
theorem dX12_isSeeing_134 : decode cX12_isSeeing 134 = .ok (.iload_n 3, 1) := by decide +kernel
theorem dX12_isSeeing_135 : decode cX12_isSeeing 135 = .ok (.ifCond .eq 16, 3) := by decide +kernel
theorem dX12_isSeeing_138 : decode cX12_isSeeing 138 = .ok (.iload_n 2, 1) := by decide +kernel
theorem dX12_isSeeing_139 : decode cX12_isSeeing 139 = .ok (.iconst 2, 1) := by decide +kernel
theorem dX12_isSeeing_140 : decode cX12_isSeeing 140 = .ok (.if_icmp .gt 7, 3) := by decide +kernel
theorem dX12_isSeeing_143 : decode cX12_isSeeing 143 = .ok (.iconst 1, 1) := by decide +kernel
theorem dX12_isSeeing_144 : decode cX12_isSeeing 144 = .ok (.goto 17, 3) := by decide +kernel
theorem dX12_isSeeing_147 : decode cX12_isSeeing 147 = .ok (.iconst 0, 1) := by decide +kernel
theorem dX12_isSeeing_148 : decode cX12_isSeeing 148 = .ok (.goto 13, 3) := by decide +kernel
theorem dX12_isSeeing_151 : decode cX12_isSeeing 151 = .ok (.iload_n 2, 1) := by decide +kernel
theorem dX12_isSeeing_152 : decode cX12_isSeeing 152 = .ok (.iconst 3, 1) := by decide +kernel
theorem dX12_isSeeing_153 : decode cX12_isSeeing 153 = .ok (.if_icmp .gt 7, 3) := by decide +kernel
theorem dX12_isSeeing_156 : decode cX12_isSeeing 156 = .ok (.iconst 1, 1) := by decide +kernel
theorem dX12_isSeeing_157 : decode cX12_isSeeing 157 = .ok (.goto 4, 3) := by decide +kernel
theorem dX12_isSeeing_160 : decode cX12_isSeeing 160 = .ok (.iconst 0, 1) := by decide +kernel
theorem dX12_isSeeing_161 : decode cX12_isSeeing 161 = .ok (.ireturn, 1) := by decide +kernel
theorem dX12_isSeeing_162 : decode cX12_isSeeing 162 = .ok (.iload_n 3, 1) := by decide +kernel
theorem dX12_isSeeing_163 : decode cX12_isSeeing 163 = .ok (.ifCond .eq 8, 3) := by decide +kernel
theorem dX12_isSeeing_166 : decode cX12_isSeeing 166 = .ok (.iload_n 2, 1) := by decide +kernel
theorem dX12_isSeeing_167 : decode cX12_isSeeing 167 = .ok (.iconst 2, 1) := by decide +kernel
theorem dX12_isSeeing_168 : decode cX12_isSeeing 168 = .ok (.if_icmp .gt 7, 3) := by decide +kernel
theorem dX12_isSeeing_171 : decode cX12_isSeeing 171 = .ok (.iconst 1, 1) := by decide +kernel
theorem dX12_isSeeing_172 : decode cX12_isSeeing 172 = .ok (.goto 4, 3) := by decide +kernel
theorem dX12_isSeeing_175 : decode cX12_isSeeing 175 = .ok (.iconst 0, 1) := by decide +kernel
theorem dX12_isSeeing_176 : decode cX12_isSeeing 176 = .ok (.ireturn, 1) := by decide +kernel
theorem dX12_isSeeing_177 : decode cX12_isSeeing 177 = .ok (.iconst 0, 1) := by decide +kernel
theorem dX12_isSeeing_178 : decode cX12_isSeeing 178 = .ok (.ireturn, 1) := by decide +kernel
theorem dX12_isSeeing_179 : decode cX12_isSeeing 179 = .ok (.iload_n 3, 1) := by decide +kernel
theorem dX12_isSeeing_180 : decode cX12_isSeeing 180 = .ok (.ifCond .eq 26, 3) := by decide +kernel
theorem dX12_isSeeing_183 : decode cX12_isSeeing 183 = .ok (.iload 4, 2) := by decide +kernel
theorem dX12_isSeeing_185 : decode cX12_isSeeing 185 = .ok (.ifCond .eq 17, 3) := by decide +kernel
theorem dX12_isSeeing_188 : decode cX12_isSeeing 188 = .ok (.iload_n 2, 1) := by decide +kernel
theorem dX12_isSeeing_189 : decode cX12_isSeeing 189 = .ok (.aload_n 0, 1) := by decide +kernel
theorem dX12_isSeeing_190 : decode cX12_isSeeing 190 = .ok (.getfield 7, 3) := by decide +kernel
theorem dX12_isSeeing_193 : decode cX12_isSeeing 193 = .ok (.iconst 4, 1) := by decide +kernel
theorem dX12_isSeeing_194 : decode cX12_isSeeing 194 = .ok (.iaload, 1) := by decide +kernel
theorem dX12_isSeeing_195 : decode cX12_isSeeing 195 = .ok (.if_icmp .gt 7, 3) := by decide +kernel
theorem dX12_isSeeing_198 : decode cX12_isSeeing 198 = .ok (.iconst 1, 1) := by decide +kernel
theorem dX12_isSeeing_199 : decode cX12_isSeeing 199 = .ok (.goto 17, 3) := by decide +kernel
theorem dX12_isSeeing_202 : decode cX12_isSeeing 202 = .ok (.iconst 0, 1) := by decide +kernel
theorem dX12_isSeeing_203 : decode cX12_isSeeing 203 = .ok (.goto 13, 3) := by decide +kernel
theorem dX12_isSeeing_206 : decode cX12_isSeeing 206 = .ok (.iload_n 2, 1) := by decide +kernel
theorem dX12_isSeeing_207 : decode cX12_isSeeing 207 = .ok (.iconst 3, 1) := by decide +kernel
theorem dX12_isSeeing_208 : decode cX12_isSeeing 208 = .ok (.if_icmp .gt 7, 3) := by decide +kernel
theorem dX12_isSeeing_211 : decode cX12_isSeeing 211 = .ok (.iconst 1, 1) := by decide +kernel
theorem dX12_isSeeing_212 : decode cX12_isSeeing 212 = .ok (.goto 4, 3) := by decide +kernel
theorem dX12_isSeeing_215 : decode cX12_isSeeing 215 = .ok (.iconst 0, 1) := by decide +kernel
theorem dX12_isSeeing_216 : decode cX12_isSeeing 216 = .ok (.ireturn, 1) := by decide +kernel
theorem dX12_speed_0 : decode cX12_speed 0 = .ok (.aload_n 0, 1) := by decide +kernel
theorem dX12_speed_1 : decode cX12_speed 1 = .ok (.iload_n 1, 1) := by decide +kernel
theorem dX12_speed_2 : decode cX12_speed 2 = .ok (.iconst 0, 1) := by decide +kernel
theorem dX12_speed_3 : decode cX12_speed 3 = .ok (.invokevirtual 69, 3) := by decide +kernel
theorem dX12_speed_6 : decode cX12_speed 6 = .ok (.tableswitch 71 1 5 #[34, 71, 38, 36, 58], 34) := by decide +kernel
theorem dX12_speed_40 : decode cX12_speed 40 = .ok (.iconst 2, 1) := by decide +kernel
theorem dX12_speed_41 : decode cX12_speed 41 = .ok (.ireturn, 1) := by decide +kernel
theorem dX12_speed_42 : decode cX12_speed 42 = .ok (.iconst 3, 1) := by decide +kernel
theorem dX12_speed_43 : decode cX12_speed 43 = .ok (.ireturn, 1) := by decide +kernel
theorem dX12_speed_44 : decode cX12_speed 44 = .ok (.aload_n 0, 1) := by decide +kernel
theorem dX12_speed_45 : decode cX12_speed 45 = .ok (.getfield 7, 3) := by decide +kernel
theorem dX12_speed_48 : decode cX12_speed 48 = .ok (.iconst 0, 1) := by decide +kernel
theorem dX12_speed_49 : decode cX12_speed 49 = .ok (.iaload, 1) := by decide +kernel
theorem dX12_speed_50 : decode cX12_speed 50 = .ok (.bipush 12, 2) := by decide +kernel
theorem dX12_speed_52 : decode cX12_speed 52 = .ok (.irem, 1) := by decide +kernel
theorem dX12_speed_53 : decode cX12_speed 53 = .ok (.iconst 2, 1) := by decide +kernel
theorem dX12_speed_54 : decode cX12_speed 54 = .ok (.irem, 1) := by decide +kernel
theorem dX12_speed_55 : decode cX12_speed 55 = .ok (.ifCond .ne 7, 3) := by decide +kernel
theorem dX12_speed_58 : decode cX12_speed 58 = .ok (.iconst 1, 1) := by decide +kernel
theorem dX12_speed_59 : decode cX12_speed 59 = .ok (.goto 4, 3) := by decide +kernel
theorem dX12_speed_62 : decode cX12_speed 62 = .ok (.iconst 0, 1) := by decide +kernel
theorem dX12_speed_63 : decode cX12_speed 63 = .ok (.ireturn, 1) := by decide +kernel
theorem dX12_speed_64 : decode cX12_speed 64 = .ok (.aload_n 0, 1) := by decide +kernel
theorem dX12_speed_65 : decode cX12_speed 65 = .ok (.invokevirtual 72, 3) := by decide +kernel
theorem dX12_speed_68 : decode cX12_speed 68 = .ok (.ifCond .eq 7, 3) := by decide +kernel
theorem dX12_speed_71 : decode cX12_speed 71 = .ok (.iconst 1, 1) := by decide +kernel
theorem dX12_speed_72 : decode cX12_speed 72 = .ok (.goto 4, 3) := by decide +kernel
theorem dX12_speed_75 : decode cX12_speed 75 = .ok (.iconst 2, 1) := by decide +kernel
theorem dX12_speed_76 : decode cX12_speed 76 = .ok (.ireturn, 1) := by decide +kernel
theorem dX12_speed_77 : decode cX12_speed 77 = .ok (.iconst 1, 1) := by decide +kernel
theorem dX12_speed_78 : decode cX12_speed 78 = .ok (.ireturn, 1) := by decide +kernel
theorem dX12_keepsOff_0 : decode cX12_keepsOff 0 = .ok (.aload_n 0, 1) := by decide +kernel
theorem dX12_keepsOff_1 : decode cX12_keepsOff 1 = .ok (.iload_n 1, 1) := by decide +kernel
theorem dX12_keepsOff_2 : decode cX12_keepsOff 2 = .ok (.iconst 0, 1) := by decide +kernel
theorem dX12_keepsOff_3 : decode cX12_keepsOff 3 = .ok (.invokevirtual 69, 3) := by decide +kernel
theorem dX12_keepsOff_6 : decode cX12_keepsOff 6 = .ok (.tableswitch 51 2 5 #[30, 32, 34, 49], 30) := by decide +kernel
theorem dX12_keepsOff_36 : decode cX12_keepsOff 36 = .ok (.iconst 2, 1) := by decide +kernel
theorem dX12_keepsOff_37 : decode cX12_keepsOff 37 = .ok (.ireturn, 1) := by decide +kernel
theorem dX12_keepsOff_38 : decode cX12_keepsOff 38 = .ok (.iconst 0, 1) := by decide +kernel
theorem dX12_keepsOff_39 : decode cX12_keepsOff 39 = .ok (.ireturn, 1) := by decide +kernel
theorem dX12_keepsOff_40 : decode cX12_keepsOff 40 = .ok (.aload_n 0, 1) := by decide +kernel
theorem dX12_keepsOff_41 : decode cX12_keepsOff 41 = .ok (.iload_n 1, 1) := by decide +kernel
theorem dX12_keepsOff_42 : decode cX12_keepsOff 42 = .ok (.invokevirtual 85, 3) := by decide +kernel
theorem dX12_keepsOff_45 : decode cX12_keepsOff 45 = .ok (.iconst 3, 1) := by decide +kernel
theorem dX12_keepsOff_46 : decode cX12_keepsOff 46 = .ok (.if_icmp .le 7, 3) := by decide +kernel
theorem dX12_keepsOff_49 : decode cX12_keepsOff 49 = .ok (.iconst 0, 1) := by decide +kernel
theorem dX12_keepsOff_50 : decode cX12_keepsOff 50 = .ok (.goto 4, 3) := by decide +kernel
theorem dX12_keepsOff_53 : decode cX12_keepsOff 53 = .ok (.iconst 1, 1) := by decide +kernel
theorem dX12_keepsOff_54 : decode cX12_keepsOff 54 = .ok (.ireturn, 1) := by decide +kernel
theorem dX12_keepsOff_55 : decode cX12_keepsOff 55 = .ok (.iconst (-1), 1) := by decide +kernel
theorem dX12_keepsOff_56 : decode cX12_keepsOff 56 = .ok (.ireturn, 1) := by decide +kernel
theorem dX12_keepsOff_57 : decode cX12_keepsOff 57 = .ok (.iconst 1, 1) := by decide +kernel
theorem dX12_keepsOff_58 : decode cX12_keepsOff 58 = .ok (.ireturn, 1) := by decide +kernel
theorem dX12_isStanding_0 : decode cX12_isStanding 0 = .ok (.aload_n 0, 1) := by decide +kernel
theorem dX12_isStanding_1 : decode cX12_isStanding 1 = .ok (.iload_n 1, 1) := by decide +kernel
theorem dX12_isStanding_2 : decode cX12_isStanding 2 = .ok (.iconst 0, 1) := by decide +kernel
theorem dX12_isStanding_3 : decode cX12_isStanding 3 = .ok (.invokevirtual 69, 3) := by decide +kernel
theorem dX12_isStanding_6 : decode cX12_isStanding 6 = .ok (.istore_n 2, 1) := by decide +kernel
theorem dX12_isStanding_7 : decode cX12_isStanding 7 = .ok (.iload_n 2, 1) := by decide +kernel
theorem dX12_isStanding_8 : decode cX12_isStanding 8 = .ok (.iconst 1, 1) := by decide +kernel
theorem dX12_isStanding_9 : decode cX12_isStanding 9 = .ok (.if_icmp .eq 18, 3) := by decide +kernel
theorem dX12_isStanding_12 : decode cX12_isStanding 12 = .ok (.iload_n 2, 1) := by decide +kernel
theorem dX12_isStanding_13 : decode cX12_isStanding 13 = .ok (.iconst 4, 1) := by decide +kernel
theorem dX12_isStanding_14 : decode cX12_isStanding 14 = .ok (.if_icmp .ne 17, 3) := by decide +kernel
theorem dX12_isStanding_17 : decode cX12_isStanding 17 = .ok (.aload_n 0, 1) := by decide +kernel
theorem dX12_isStanding_18 : decode cX12_isStanding 18 = .ok (.iload_n 1, 1) := by decide +kernel
theorem dX12_isStanding_19 : decode cX12_isStanding 19 = .ok (.iconst 3, 1) := by decide +kernel
theorem dX12_isStanding_20 : decode cX12_isStanding 20 = .ok (.invokevirtual 69, 3) := by decide +kernel
theorem dX12_isStanding_23 : decode cX12_isStanding 23 = .ok (.iconst 5, 1) := by decide +kernel
theorem dX12_isStanding_24 : decode cX12_isStanding 24 = .ok (.if_icmp .ge 7, 3) := by decide +kernel
theorem dX12_isStanding_27 : decode cX12_isStanding 27 = .ok (.iconst 1, 1) := by decide +kernel
theorem dX12_isStanding_28 : decode cX12_isStanding 28 = .ok (.goto 4, 3) := by decide +kernel
theorem dX12_isStanding_31 : decode cX12_isStanding 31 = .ok (.iconst 0, 1) := by decide +kernel
theorem dX12_isStanding_32 : decode cX12_isStanding 32 = .ok (.istore_n 3, 1) := by decide +kernel
theorem dX12_isStanding_33 : decode cX12_isStanding 33 = .ok (.iload_n 3, 1) := by decide +kernel
theorem dX12_isStanding_34 : decode cX12_isStanding 34 = .ok (.ifCond .eq 23, 3) := by decide +kernel
theorem dX12_isStanding_37 : decode cX12_isStanding 37 = .ok (.aload_n 0, 1) := by decide +kernel
theorem dX12_isStanding_38 : decode cX12_isStanding 38 = .ok (.invokevirtual 72, 3) := by decide +kernel
theorem dX12_isStanding_41 : decode cX12_isStanding 41 = .ok (.ifCond .eq 16, 3) := by decide +kernel
theorem dX12_isStanding_44 : decode cX12_isStanding 44 = .ok (.aload_n 0, 1) := by decide +kernel
theorem dX12_isStanding_45 : decode cX12_isStanding 45 = .ok (.iload_n 1, 1) := by decide +kernel
theorem dX12_isStanding_46 : decode cX12_isStanding 46 = .ok (.invokevirtual 85, 3) := by decide +kernel
theorem dX12_isStanding_49 : decode cX12_isStanding 49 = .ok (.iconst 1, 1) := by decide +kernel
theorem dX12_isStanding_50 : decode cX12_isStanding 50 = .ok (.if_icmp .ne 7, 3) := by decide +kernel
theorem dX12_isStanding_53 : decode cX12_isStanding 53 = .ok (.iconst 1, 1) := by decide +kernel
theorem dX12_isStanding_54 : decode cX12_isStanding 54 = .ok (.goto 4, 3) := by decide +kernel
theorem dX12_isStanding_57 : decode cX12_isStanding 57 = .ok (.iconst 0, 1) := by decide +kernel
theorem dX12_isStanding_58 : decode cX12_isStanding 58 = .ok (.ireturn, 1) := by decide +kernel
theorem dX12_adds_0 : decode cX12_adds 0 = .ok (.aload_n 0, 1) := by decide +kernel
theorem dX12_adds_1 : decode cX12_adds 1 = .ok (.getfield 7, 3) := by decide +kernel
theorem dX12_adds_4 : decode cX12_adds 4 = .ok (.iconst 5, 1) := by decide +kernel
theorem dX12_adds_5 : decode cX12_adds 5 = .ok (.iaload, 1) := by decide +kernel
theorem dX12_adds_6 : decode cX12_adds 6 = .ok (.istore 4, 2) := by decide +kernel
theorem dX12_adds_8 : decode cX12_adds 8 = .ok (.aload_n 0, 1) := by decide +kernel
theorem dX12_adds_9 : decode cX12_adds 9 = .ok (.iload 4, 2) := by decide +kernel
theorem dX12_adds_11 : decode cX12_adds 11 = .ok (.iconst 0, 1) := by decide +kernel
theorem dX12_adds_12 : decode cX12_adds 12 = .ok (.iload_n 1, 1) := by decide +kernel
theorem dX12_adds_13 : decode cX12_adds 13 = .ok (.invokevirtual 88, 3) := by decide +kernel
theorem dX12_adds_16 : decode cX12_adds 16 = .ok (.aload_n 0, 1) := by decide +kernel
theorem dX12_adds_17 : decode cX12_adds 17 = .ok (.iload 4, 2) := by decide +kernel
theorem dX12_adds_19 : decode cX12_adds 19 = .ok (.iconst 1, 1) := by decide +kernel
theorem dX12_adds_20 : decode cX12_adds 20 = .ok (.iload_n 2, 1) := by decide +kernel
theorem dX12_adds_21 : decode cX12_adds 21 = .ok (.invokevirtual 88, 3) := by decide +kernel
theorem dX12_adds_24 : decode cX12_adds 24 = .ok (.aload_n 0, 1) := by decide +kernel
theorem dX12_adds_25 : decode cX12_adds 25 = .ok (.iload 4, 2) := by decide +kernel
theorem dX12_adds_27 : decode cX12_adds 27 = .ok (.iconst 2, 1) := by decide +kernel
theorem dX12_adds_28 : decode cX12_adds 28 = .ok (.iload_n 3, 1) := by decide +kernel
theorem dX12_adds_29 : decode cX12_adds 29 = .ok (.invokevirtual 88, 3) := by decide +kernel
theorem dX12_adds_32 : decode cX12_adds 32 = .ok (.aload_n 0, 1) := by decide +kernel
theorem dX12_adds_33 : decode cX12_adds 33 = .ok (.iload 4, 2) := by decide +kernel
theorem dX12_adds_35 : decode cX12_adds 35 = .ok (.iconst 3, 1) := by decide +kernel
theorem dX12_adds_36 : decode cX12_adds 36 = .ok (.iconst 0, 1) := by decide +kernel
theorem dX12_adds_37 : decode cX12_adds 37 = .ok (.invokevirtual 88, 3) := by decide +kernel
theorem dX12_adds_40 : decode cX12_adds 40 = .ok (.aload_n 0, 1) := by decide +kernel
theorem dX12_adds_41 : decode cX12_adds 41 = .ok (.iload 4, 2) := by decide +kernel
theorem dX12_adds_43 : decode cX12_adds 43 = .ok (.iconst 4, 1) := by decide +kernel
theorem dX12_adds_44 : decode cX12_adds 44 = .ok (.bipush 99, 2) := by decide +kernel
theorem dX12_adds_46 : decode cX12_adds 46 = .ok (.invokevirtual 88, 3) := by decide +kernel
theorem dX12_adds_49 : decode cX12_adds 49 = .ok (.aload_n 0, 1) := by decide +kernel
theorem dX12_adds_50 : decode cX12_adds 50 = .ok (.iload 4, 2) := by decide +kernel
theorem dX12_adds_52 : decode cX12_adds 52 = .ok (.iconst 5, 1) := by decide +kernel
theorem dX12_adds_53 : decode cX12_adds 53 = .ok (.iconst 0, 1) := by decide +kernel
theorem dX12_adds_54 : decode cX12_adds 54 = .ok (.invokevirtual 88, 3) := by decide +kernel
theorem dX12_adds_57 : decode cX12_adds 57 = .ok (.aload_n 0, 1) := by decide +kernel
theorem dX12_adds_58 : decode cX12_adds 58 = .ok (.iload 4, 2) := by decide +kernel
theorem dX12_adds_60 : decode cX12_adds 60 = .ok (.bipush 6, 2) := by decide +kernel
theorem dX12_adds_62 : decode cX12_adds 62 = .ok (.iconst 0, 1) := by decide +kernel
theorem dX12_adds_63 : decode cX12_adds 63 = .ok (.invokevirtual 88, 3) := by decide +kernel
theorem dX12_adds_66 : decode cX12_adds 66 = .ok (.aload_n 0, 1) := by decide +kernel
theorem dX12_adds_67 : decode cX12_adds 67 = .ok (.getfield 7, 3) := by decide +kernel
theorem dX12_adds_70 : decode cX12_adds 70 = .ok (.iconst 5, 1) := by decide +kernel
theorem dX12_adds_71 : decode cX12_adds 71 = .ok (.dup2, 1) := by decide +kernel
theorem dX12_adds_72 : decode cX12_adds 72 = .ok (.iaload, 1) := by decide +kernel
theorem dX12_adds_73 : decode cX12_adds 73 = .ok (.iconst 1, 1) := by decide +kernel
theorem dX12_adds_74 : decode cX12_adds 74 = .ok (.iadd, 1) := by decide +kernel
theorem dX12_adds_75 : decode cX12_adds 75 = .ok (.iastore, 1) := by decide +kernel
theorem dX12_adds_76 : decode cX12_adds 76 = .ok (.return_, 1) := by decide +kernel
theorem dX12_ship_0 : decode cX12_ship 0 = .ok (.iload_n 1, 1) := by decide +kernel
theorem dX12_ship_1 : decode cX12_ship 1 = .ok (.invokestatic 92, 3) := by decide +kernel
theorem dX12_ship_4 : decode cX12_ship 4 = .ok (.ifCond .eq 10, 3) := by decide +kernel
theorem dX12_ship_7 : decode cX12_ship 7 = .ok (.iload_n 2, 1) := by decide +kernel
theorem dX12_ship_8 : decode cX12_ship 8 = .ok (.invokestatic 49, 3) := by decide +kernel
theorem dX12_ship_11 : decode cX12_ship 11 = .ok (.ifCond .ne 10, 3) := by decide +kernel
theorem dX12_ship_14 : decode cX12_ship 14 = .ok (.aload_n 0, 1) := by decide +kernel
theorem dX12_ship_15 : decode cX12_ship 15 = .ok (.ldc 44, 2) := by decide +kernel
theorem dX12_ship_17 : decode cX12_ship 17 = .ok (.invokevirtual 53, 3) := by decide +kernel
theorem dX12_ship_20 : decode cX12_ship 20 = .ok (.ireturn, 1) := by decide +kernel
theorem dX12_ship_21 : decode cX12_ship 21 = .ok (.aload_n 0, 1) := by decide +kernel
theorem dX12_ship_22 : decode cX12_ship 22 = .ok (.getfield 7, 3) := by decide +kernel
theorem dX12_ship_25 : decode cX12_ship 25 = .ok (.iconst 5, 1) := by decide +kernel
theorem dX12_ship_26 : decode cX12_ship 26 = .ok (.iaload, 1) := by decide +kernel
theorem dX12_ship_27 : decode cX12_ship 27 = .ok (.bipush 6, 2) := by decide +kernel
theorem dX12_ship_29 : decode cX12_ship 29 = .ok (.if_icmp .ne 10, 3) := by decide +kernel
theorem dX12_ship_32 : decode cX12_ship 32 = .ok (.aload_n 0, 1) := by decide +kernel
theorem dX12_ship_33 : decode cX12_ship 33 = .ok (.ldc 95, 2) := by decide +kernel
theorem dX12_ship_35 : decode cX12_ship 35 = .ok (.invokevirtual 53, 3) := by decide +kernel
theorem dX12_ship_38 : decode cX12_ship 38 = .ok (.ireturn, 1) := by decide +kernel
theorem dX12_ship_39 : decode cX12_ship 39 = .ok (.aload_n 0, 1) := by decide +kernel
theorem dX12_ship_40 : decode cX12_ship 40 = .ok (.iload_n 1, 1) := by decide +kernel
theorem dX12_ship_41 : decode cX12_ship 41 = .ok (.iconst 0, 1) := by decide +kernel
theorem dX12_ship_42 : decode cX12_ship 42 = .ok (.iload_n 2, 1) := by decide +kernel
theorem dX12_ship_43 : decode cX12_ship 43 = .ok (.invokevirtual 96, 3) := by decide +kernel
theorem dX12_ship_46 : decode cX12_ship 46 = .ok (.aload_n 0, 1) := by decide +kernel
theorem dX12_ship_47 : decode cX12_ship 47 = .ok (.getfield 7, 3) := by decide +kernel
theorem dX12_ship_50 : decode cX12_ship 50 = .ok (.iconst 5, 1) := by decide +kernel
theorem dX12_ship_51 : decode cX12_ship 51 = .ok (.iaload, 1) := by decide +kernel
theorem dX12_ship_52 : decode cX12_ship 52 = .ok (.iconst 1, 1) := by decide +kernel
theorem dX12_ship_53 : decode cX12_ship 53 = .ok (.isub, 1) := by decide +kernel
theorem dX12_ship_54 : decode cX12_ship 54 = .ok (.ireturn, 1) := by decide +kernel
theorem dX12_of_0 : decode cX12_of 0 = .ok (.aload_n 0, 1) := by decide +kernel
theorem dX12_of_1 : decode cX12_of 1 = .ok (.iload_n 1, 1) := by decide +kernel
theorem dX12_of_2 : decode cX12_of 2 = .ok (.invokevirtual 99, 3) := by decide +kernel
theorem dX12_of_5 : decode cX12_of 5 = .ok (.ifCond .eq 13, 3) := by decide +kernel
theorem dX12_of_8 : decode cX12_of 8 = .ok (.iload_n 2, 1) := by decide +kernel
theorem dX12_of_9 : decode cX12_of 9 = .ok (.iconst 0, 1) := by decide +kernel
theorem dX12_of_10 : decode cX12_of 10 = .ok (.bipush 11, 2) := by decide +kernel
theorem dX12_of_12 : decode cX12_of 12 = .ok (.invokestatic 45, 3) := by decide +kernel
theorem dX12_of_15 : decode cX12_of 15 = .ok (.ifCond .ne 10, 3) := by decide +kernel
theorem dX12_of_18 : decode cX12_of 18 = .ok (.aload_n 0, 1) := by decide +kernel
theorem dX12_of_19 : decode cX12_of 19 = .ok (.ldc 44, 2) := by decide +kernel
theorem dX12_of_21 : decode cX12_of 21 = .ok (.invokevirtual 53, 3) := by decide +kernel
theorem dX12_of_24 : decode cX12_of 24 = .ok (.ireturn, 1) := by decide +kernel
theorem dX12_of_25 : decode cX12_of 25 = .ok (.iload_n 2, 1) := by decide +kernel
theorem dX12_of_26 : decode cX12_of 26 = .ok (.tableswitch 83 7 11 #[34, 40, 54, 60, 69], 34) := by decide +kernel
theorem dX12_of_60 : decode cX12_of 60 = .ok (.aload_n 0, 1) := by decide +kernel
theorem dX12_of_61 : decode cX12_of 61 = .ok (.iload_n 1, 1) := by decide +kernel
theorem dX12_of_62 : decode cX12_of 62 = .ok (.invokevirtual 85, 3) := by decide +kernel
theorem dX12_of_65 : decode cX12_of 65 = .ok (.ireturn, 1) := by decide +kernel
theorem dX12_of_66 : decode cX12_of 66 = .ok (.aload_n 0, 1) := by decide +kernel
theorem dX12_of_67 : decode cX12_of 67 = .ok (.iload_n 1, 1) := by decide +kernel
theorem dX12_of_68 : decode cX12_of 68 = .ok (.invokevirtual 102, 3) := by decide +kernel
theorem dX12_of_71 : decode cX12_of 71 = .ok (.ifCond .eq 7, 3) := by decide +kernel
theorem dX12_of_74 : decode cX12_of 74 = .ok (.iconst 1, 1) := by decide +kernel
theorem dX12_of_75 : decode cX12_of 75 = .ok (.goto 4, 3) := by decide +kernel
theorem dX12_of_78 : decode cX12_of 78 = .ok (.iconst 0, 1) := by decide +kernel
theorem dX12_of_79 : decode cX12_of 79 = .ok (.ireturn, 1) := by decide +kernel
theorem dX12_of_80 : decode cX12_of 80 = .ok (.aload_n 0, 1) := by decide +kernel
theorem dX12_of_81 : decode cX12_of 81 = .ok (.iload_n 1, 1) := by decide +kernel
theorem dX12_of_82 : decode cX12_of 82 = .ok (.invokevirtual 105, 3) := by decide +kernel
theorem dX12_of_85 : decode cX12_of 85 = .ok (.ireturn, 1) := by decide +kernel
theorem dX12_of_86 : decode cX12_of 86 = .ok (.bipush 100, 2) := by decide +kernel
theorem dX12_of_88 : decode cX12_of 88 = .ok (.aload_n 0, 1) := by decide +kernel
theorem dX12_of_89 : decode cX12_of 89 = .ok (.iload_n 1, 1) := by decide +kernel
theorem dX12_of_90 : decode cX12_of 90 = .ok (.invokevirtual 108, 3) := by decide +kernel
theorem dX12_of_93 : decode cX12_of 93 = .ok (.iadd, 1) := by decide +kernel
theorem dX12_of_94 : decode cX12_of 94 = .ok (.ireturn, 1) := by decide +kernel
theorem dX12_of_95 : decode cX12_of 95 = .ok (.aload_n 0, 1) := by decide +kernel
theorem dX12_of_96 : decode cX12_of 96 = .ok (.iload_n 1, 1) := by decide +kernel
theorem dX12_of_97 : decode cX12_of 97 = .ok (.invokevirtual 111, 3) := by decide +kernel
theorem dX12_of_100 : decode cX12_of 100 = .ok (.ifCond .eq 7, 3) := by decide +kernel
theorem dX12_of_103 : decode cX12_of 103 = .ok (.iconst 1, 1) := by decide +kernel
theorem dX12_of_104 : decode cX12_of 104 = .ok (.goto 4, 3) := by decide +kernel
theorem dX12_of_107 : decode cX12_of 107 = .ok (.iconst 0, 1) := by decide +kernel
theorem dX12_of_108 : decode cX12_of 108 = .ok (.ireturn, 1) := by decide +kernel
theorem dX12_of_109 : decode cX12_of 109 = .ok (.aload_n 0, 1) := by decide +kernel
theorem dX12_of_110 : decode cX12_of 110 = .ok (.iload_n 1, 1) := by decide +kernel
theorem dX12_of_111 : decode cX12_of 111 = .ok (.iload_n 2, 1) := by decide +kernel
theorem dX12_of_112 : decode cX12_of 112 = .ok (.invokevirtual 69, 3) := by decide +kernel
theorem dX12_of_115 : decode cX12_of 115 = .ok (.ireturn, 1) := by decide +kernel
theorem dX12_isPart_0 : decode cX12_isPart 0 = .ok (.iload_n 0, 1) := by decide +kernel
theorem dX12_isPart_1 : decode cX12_isPart 1 = .ok (.tableswitch 49 1 3 #[27, 35, 40], 27) := by decide +kernel
theorem dX12_isPart_28 : decode cX12_isPart 28 = .ok (.iload_n 1, 1) := by decide +kernel
theorem dX12_isPart_29 : decode cX12_isPart 29 = .ok (.iconst 0, 1) := by decide +kernel
theorem dX12_isPart_30 : decode cX12_isPart 30 = .ok (.bipush 19, 2) := by decide +kernel
theorem dX12_isPart_32 : decode cX12_isPart 32 = .ok (.invokestatic 45, 3) := by decide +kernel
theorem dX12_isPart_35 : decode cX12_isPart 35 = .ok (.ireturn, 1) := by decide +kernel
theorem dX12_isPart_36 : decode cX12_isPart 36 = .ok (.iload_n 1, 1) := by decide +kernel
theorem dX12_isPart_37 : decode cX12_isPart 37 = .ok (.invokestatic 49, 3) := by decide +kernel
theorem dX12_isPart_40 : decode cX12_isPart 40 = .ok (.ireturn, 1) := by decide +kernel
theorem dX12_isPart_41 : decode cX12_isPart 41 = .ok (.iload_n 1, 1) := by decide +kernel
theorem dX12_isPart_42 : decode cX12_isPart 42 = .ok (.iconst 0, 1) := by decide +kernel
theorem dX12_isPart_43 : decode cX12_isPart 43 = .ok (.sipush 9999, 3) := by decide +kernel
theorem dX12_isPart_46 : decode cX12_isPart 46 = .ok (.invokestatic 45, 3) := by decide +kernel
theorem dX12_isPart_49 : decode cX12_isPart 49 = .ok (.ireturn, 1) := by decide +kernel
theorem dX12_isPart_50 : decode cX12_isPart 50 = .ok (.iload_n 0, 1) := by decide +kernel
theorem dX12_isPart_51 : decode cX12_isPart 51 = .ok (.iconst 4, 1) := by decide +kernel
theorem dX12_isPart_52 : decode cX12_isPart 52 = .ok (.if_icmp .ne 17, 3) := by decide +kernel
theorem dX12_isPart_55 : decode cX12_isPart 55 = .ok (.iload_n 1, 1) := by decide +kernel
theorem dX12_isPart_56 : decode cX12_isPart 56 = .ok (.iconst 0, 1) := by decide +kernel
theorem dX12_isPart_57 : decode cX12_isPart 57 = .ok (.bipush 99, 2) := by decide +kernel
theorem dX12_isPart_59 : decode cX12_isPart 59 = .ok (.invokestatic 45, 3) := by decide +kernel
theorem dX12_isPart_62 : decode cX12_isPart 62 = .ok (.ifCond .eq 7, 3) := by decide +kernel
theorem dX12_isPart_65 : decode cX12_isPart 65 = .ok (.iconst 1, 1) := by decide +kernel
theorem dX12_isPart_66 : decode cX12_isPart 66 = .ok (.goto 4, 3) := by decide +kernel
theorem dX12_isPart_69 : decode cX12_isPart 69 = .ok (.iconst 0, 1) := by decide +kernel
theorem dX12_isPart_70 : decode cX12_isPart 70 = .ok (.ireturn, 1) := by decide +kernel
theorem dX12_set_0 : decode cX12_set 0 = .ok (.aload_n 0, 1) := by decide +kernel
theorem dX12_set_1 : decode cX12_set 1 = .ok (.iload_n 1, 1) := by decide +kernel
theorem dX12_set_2 : decode cX12_set 2 = .ok (.invokevirtual 99, 3) := by decide +kernel
theorem dX12_set_5 : decode cX12_set 5 = .ok (.ifCond .eq 11, 3) := by decide +kernel
theorem dX12_set_8 : decode cX12_set 8 = .ok (.iload_n 2, 1) := by decide +kernel
theorem dX12_set_9 : decode cX12_set 9 = .ok (.iload_n 3, 1) := by decide +kernel
theorem dX12_set_10 : decode cX12_set 10 = .ok (.invokestatic 114, 3) := by decide +kernel
theorem dX12_set_13 : decode cX12_set 13 = .ok (.ifCond .ne 10, 3) := by decide +kernel
theorem dX12_set_16 : decode cX12_set 16 = .ok (.aload_n 0, 1) := by decide +kernel
theorem dX12_set_17 : decode cX12_set 17 = .ok (.ldc 44, 2) := by decide +kernel
theorem dX12_set_19 : decode cX12_set 19 = .ok (.invokevirtual 53, 3) := by decide +kernel
theorem dX12_set_22 : decode cX12_set 22 = .ok (.ireturn, 1) := by decide +kernel
theorem dX12_set_23 : decode cX12_set 23 = .ok (.iload_n 2, 1) := by decide +kernel
theorem dX12_set_24 : decode cX12_set 24 = .ok (.iconst 1, 1) := by decide +kernel
theorem dX12_set_25 : decode cX12_set 25 = .ok (.if_icmp .ne 18, 3) := by decide +kernel
theorem dX12_set_28 : decode cX12_set 28 = .ok (.aload_n 0, 1) := by decide +kernel
theorem dX12_set_29 : decode cX12_set 29 = .ok (.iload_n 1, 1) := by decide +kernel
theorem dX12_set_30 : decode cX12_set 30 = .ok (.iconst 5, 1) := by decide +kernel
theorem dX12_set_31 : decode cX12_set 31 = .ok (.iconst 0, 1) := by decide +kernel
theorem dX12_set_32 : decode cX12_set 32 = .ok (.invokevirtual 88, 3) := by decide +kernel
theorem dX12_set_35 : decode cX12_set 35 = .ok (.aload_n 0, 1) := by decide +kernel
theorem dX12_set_36 : decode cX12_set 36 = .ok (.iload_n 1, 1) := by decide +kernel
theorem dX12_set_37 : decode cX12_set 37 = .ok (.bipush 6, 2) := by decide +kernel
theorem dX12_set_39 : decode cX12_set 39 = .ok (.iconst 0, 1) := by decide +kernel
theorem dX12_set_40 : decode cX12_set 40 = .ok (.invokevirtual 88, 3) := by decide +kernel
theorem dX12_set_43 : decode cX12_set 43 = .ok (.aload_n 0, 1) := by decide +kernel
theorem dX12_set_44 : decode cX12_set 44 = .ok (.bipush 6, 2) := by decide +kernel
theorem dX12_set_46 : decode cX12_set 46 = .ok (.bipush 7, 2) := by decide +kernel
theorem dX12_set_48 : decode cX12_set 48 = .ok (.iload_n 1, 1) := by decide +kernel
theorem dX12_set_49 : decode cX12_set 49 = .ok (.imul, 1) := by decide +kernel
theorem dX12_set_50 : decode cX12_set 50 = .ok (.iadd, 1) := by decide +kernel
theorem dX12_set_51 : decode cX12_set 51 = .ok (.iload_n 2, 1) := by decide +kernel
theorem dX12_set_52 : decode cX12_set 52 = .ok (.iadd, 1) := by decide +kernel
theorem dX12_set_53 : decode cX12_set 53 = .ok (.iload_n 3, 1) := by decide +kernel
theorem dX12_set_54 : decode cX12_set 54 = .ok (.invokevirtual 65, 3) := by decide +kernel
theorem dX12_set_57 : decode cX12_set 57 = .ok (.ireturn, 1) := by decide +kernel
theorem dX12_turn_0 : decode cX12_turn 0 = .ok (.aload_n 0, 1) := by decide +kernel
theorem dX12_turn_1 : decode cX12_turn 1 = .ok (.iload_n 1, 1) := by decide +kernel
theorem dX12_turn_2 : decode cX12_turn 2 = .ok (.invokevirtual 99, 3) := by decide +kernel
theorem dX12_turn_5 : decode cX12_turn 5 = .ok (.ifCond .eq 25, 3) := by decide +kernel
theorem dX12_turn_8 : decode cX12_turn 8 = .ok (.iload_n 2, 1) := by decide +kernel
theorem dX12_turn_9 : decode cX12_turn 9 = .ok (.invokestatic 92, 3) := by decide +kernel
theorem dX12_turn_12 : decode cX12_turn 12 = .ok (.ifCond .eq 18, 3) := by decide +kernel
theorem dX12_turn_15 : decode cX12_turn 15 = .ok (.aload_n 0, 1) := by decide +kernel
theorem dX12_turn_16 : decode cX12_turn 16 = .ok (.bipush 6, 2) := by decide +kernel
theorem dX12_turn_18 : decode cX12_turn 18 = .ok (.bipush 7, 2) := by decide +kernel
theorem dX12_turn_20 : decode cX12_turn 20 = .ok (.iload_n 1, 1) := by decide +kernel
theorem dX12_turn_21 : decode cX12_turn 21 = .ok (.imul, 1) := by decide +kernel
theorem dX12_turn_22 : decode cX12_turn 22 = .ok (.iadd, 1) := by decide +kernel
theorem dX12_turn_23 : decode cX12_turn 23 = .ok (.iload_n 2, 1) := by decide +kernel
theorem dX12_turn_24 : decode cX12_turn 24 = .ok (.invokevirtual 65, 3) := by decide +kernel
theorem dX12_turn_27 : decode cX12_turn 27 = .ok (.goto 9, 3) := by decide +kernel
theorem dX12_turn_30 : decode cX12_turn 30 = .ok (.aload_n 0, 1) := by decide +kernel
theorem dX12_turn_31 : decode cX12_turn 31 = .ok (.ldc 44, 2) := by decide +kernel
theorem dX12_turn_33 : decode cX12_turn 33 = .ok (.invokevirtual 53, 3) := by decide +kernel
theorem dX12_turn_36 : decode cX12_turn 36 = .ok (.ireturn, 1) := by decide +kernel
theorem dX12_as_0 : decode cX12_as 0 = .ok (.aload_n 0, 1) := by decide +kernel
theorem dX12_as_1 : decode cX12_as 1 = .ok (.iload_n 1, 1) := by decide +kernel
theorem dX12_as_2 : decode cX12_as 2 = .ok (.invokevirtual 99, 3) := by decide +kernel
theorem dX12_as_5 : decode cX12_as 5 = .ok (.ifCond .eq 10, 3) := by decide +kernel
theorem dX12_as_8 : decode cX12_as 8 = .ok (.iload_n 2, 1) := by decide +kernel
theorem dX12_as_9 : decode cX12_as 9 = .ok (.invokestatic 92, 3) := by decide +kernel
theorem dX12_as_12 : decode cX12_as 12 = .ok (.ifCond .ne 10, 3) := by decide +kernel
theorem dX12_as_15 : decode cX12_as 15 = .ok (.aload_n 0, 1) := by decide +kernel
theorem dX12_as_16 : decode cX12_as 16 = .ok (.ldc 44, 2) := by decide +kernel
theorem dX12_as_18 : decode cX12_as 18 = .ok (.invokevirtual 53, 3) := by decide +kernel
theorem dX12_as_21 : decode cX12_as 21 = .ok (.ireturn, 1) := by decide +kernel
theorem dX12_as_22 : decode cX12_as 22 = .ok (.aload_n 0, 1) := by decide +kernel
theorem dX12_as_23 : decode cX12_as 23 = .ok (.iload_n 1, 1) := by decide +kernel
theorem dX12_as_24 : decode cX12_as 24 = .ok (.iconst 0, 1) := by decide +kernel
theorem dX12_as_25 : decode cX12_as 25 = .ok (.invokevirtual 69, 3) := by decide +kernel
theorem dX12_as_28 : decode cX12_as 28 = .ok (.istore_n 3, 1) := by decide +kernel
theorem dX12_as_29 : decode cX12_as 29 = .ok (.iload_n 2, 1) := by decide +kernel
theorem dX12_as_30 : decode cX12_as 30 = .ok (.ifCond .eq 28, 3) := by decide +kernel
theorem dX12_as_33 : decode cX12_as 33 = .ok (.iload_n 2, 1) := by decide +kernel
theorem dX12_as_34 : decode cX12_as 34 = .ok (.iload_n 3, 1) := by decide +kernel
theorem dX12_as_35 : decode cX12_as 35 = .ok (.if_icmp .eq 23, 3) := by decide +kernel
theorem dX12_as_38 : decode cX12_as 38 = .ok (.iload_n 2, 1) := by decide +kernel
theorem dX12_as_39 : decode cX12_as 39 = .ok (.iconst 1, 1) := by decide +kernel
theorem dX12_as_40 : decode cX12_as 40 = .ok (.if_icmp .ne 8, 3) := by decide +kernel
theorem dX12_as_43 : decode cX12_as 43 = .ok (.iload_n 3, 1) := by decide +kernel
theorem dX12_as_44 : decode cX12_as 44 = .ok (.iconst 4, 1) := by decide +kernel
theorem dX12_as_45 : decode cX12_as 45 = .ok (.if_icmp .eq 13, 3) := by decide +kernel
theorem dX12_as_48 : decode cX12_as 48 = .ok (.iload_n 2, 1) := by decide +kernel
theorem dX12_as_49 : decode cX12_as 49 = .ok (.iconst 2, 1) := by decide +kernel
theorem dX12_as_50 : decode cX12_as 50 = .ok (.if_icmp .ne 12, 3) := by decide +kernel
theorem dX12_as_53 : decode cX12_as 53 = .ok (.iload_n 3, 1) := by decide +kernel
theorem dX12_as_54 : decode cX12_as 54 = .ok (.iconst 5, 1) := by decide +kernel
theorem dX12_as_55 : decode cX12_as 55 = .ok (.if_icmp .ne 7, 3) := by decide +kernel
theorem dX12_as_58 : decode cX12_as 58 = .ok (.iconst 1, 1) := by decide +kernel
theorem dX12_as_59 : decode cX12_as 59 = .ok (.goto 4, 3) := by decide +kernel
theorem dX12_as_62 : decode cX12_as 62 = .ok (.iconst 0, 1) := by decide +kernel
theorem dX12_as_63 : decode cX12_as 63 = .ok (.istore 4, 2) := by decide +kernel
theorem dX12_as_65 : decode cX12_as 65 = .ok (.iload 4, 2) := by decide +kernel
theorem dX12_as_67 : decode cX12_as 67 = .ok (.ifCond .eq 12, 3) := by decide +kernel
theorem dX12_as_70 : decode cX12_as 70 = .ok (.aload_n 0, 1) := by decide +kernel
theorem dX12_as_71 : decode cX12_as 71 = .ok (.iload_n 1, 1) := by decide +kernel
theorem dX12_as_72 : decode cX12_as 72 = .ok (.iconst 3, 1) := by decide +kernel
theorem dX12_as_73 : decode cX12_as 73 = .ok (.invokevirtual 69, 3) := by decide +kernel
theorem dX12_as_76 : decode cX12_as 76 = .ok (.goto 9, 3) := by decide +kernel
theorem dX12_as_79 : decode cX12_as 79 = .ok (.aload_n 0, 1) := by decide +kernel
theorem dX12_as_80 : decode cX12_as 80 = .ok (.ldc 118, 2) := by decide +kernel
theorem dX12_as_82 : decode cX12_as 82 = .ok (.invokevirtual 53, 3) := by decide +kernel
theorem dX12_as_85 : decode cX12_as 85 = .ok (.ireturn, 1) := by decide +kernel
theorem dX12_costs_0 : decode cX12_costs 0 = .ok (.aload_n 0, 1) := by decide +kernel
theorem dX12_costs_1 : decode cX12_costs 1 = .ok (.iload_n 1, 1) := by decide +kernel
theorem dX12_costs_2 : decode cX12_costs 2 = .ok (.iconst 3, 1) := by decide +kernel
theorem dX12_costs_3 : decode cX12_costs 3 = .ok (.aload_n 0, 1) := by decide +kernel
theorem dX12_costs_4 : decode cX12_costs 4 = .ok (.iload_n 1, 1) := by decide +kernel
theorem dX12_costs_5 : decode cX12_costs 5 = .ok (.iconst 3, 1) := by decide +kernel
theorem dX12_costs_6 : decode cX12_costs 6 = .ok (.invokevirtual 69, 3) := by decide +kernel
theorem dX12_costs_9 : decode cX12_costs 9 = .ok (.iconst 1, 1) := by decide +kernel
theorem dX12_costs_10 : decode cX12_costs 10 = .ok (.iadd, 1) := by decide +kernel
theorem dX12_costs_11 : decode cX12_costs 11 = .ok (.iconst 0, 1) := by decide +kernel
theorem dX12_costs_12 : decode cX12_costs 12 = .ok (.sipush 9999, 3) := by decide +kernel
theorem dX12_costs_15 : decode cX12_costs 15 = .ok (.invokestatic 119, 3) := by decide +kernel
theorem dX12_costs_18 : decode cX12_costs 18 = .ok (.invokevirtual 88, 3) := by decide +kernel
theorem dX12_costs_21 : decode cX12_costs 21 = .ok (.return_, 1) := by decide +kernel
theorem dX12_turnsOff_0 : decode cX12_turnsOff 0 = .ok (.aload_n 0, 1) := by decide +kernel
theorem dX12_turnsOff_1 : decode cX12_turnsOff 1 = .ok (.iload_n 1, 1) := by decide +kernel
theorem dX12_turnsOff_2 : decode cX12_turnsOff 2 = .ok (.invokevirtual 108, 3) := by decide +kernel
theorem dX12_turnsOff_5 : decode cX12_turnsOff 5 = .ok (.istore_n 2, 1) := by decide +kernel
theorem dX12_turnsOff_6 : decode cX12_turnsOff 6 = .ok (.aload_n 0, 1) := by decide +kernel
theorem dX12_turnsOff_7 : decode cX12_turnsOff 7 = .ok (.iload_n 1, 1) := by decide +kernel
theorem dX12_turnsOff_8 : decode cX12_turnsOff 8 = .ok (.iconst 2, 1) := by decide +kernel
theorem dX12_turnsOff_9 : decode cX12_turnsOff 9 = .ok (.invokevirtual 69, 3) := by decide +kernel
theorem dX12_turnsOff_12 : decode cX12_turnsOff 12 = .ok (.istore_n 3, 1) := by decide +kernel
theorem dX12_turnsOff_13 : decode cX12_turnsOff 13 = .ok (.aload_n 0, 1) := by decide +kernel
theorem dX12_turnsOff_14 : decode cX12_turnsOff 14 = .ok (.getfield 7, 3) := by decide +kernel
theorem dX12_turnsOff_17 : decode cX12_turnsOff 17 = .ok (.iconst 2, 1) := by decide +kernel
theorem dX12_turnsOff_18 : decode cX12_turnsOff 18 = .ok (.iaload, 1) := by decide +kernel
theorem dX12_turnsOff_19 : decode cX12_turnsOff 19 = .ok (.istore 4, 2) := by decide +kernel
theorem dX12_turnsOff_21 : decode cX12_turnsOff 21 = .ok (.aload_n 0, 1) := by decide +kernel
theorem dX12_turnsOff_22 : decode cX12_turnsOff 22 = .ok (.iload_n 1, 1) := by decide +kernel
theorem dX12_turnsOff_23 : decode cX12_turnsOff 23 = .ok (.iconst 2, 1) := by decide +kernel
theorem dX12_turnsOff_24 : decode cX12_turnsOff 24 = .ok (.iload_n 3, 1) := by decide +kernel
theorem dX12_turnsOff_25 : decode cX12_turnsOff 25 = .ok (.iload 4, 2) := by decide +kernel
theorem dX12_turnsOff_27 : decode cX12_turnsOff 27 = .ok (.if_icmp .gt 15, 3) := by decide +kernel
theorem dX12_turnsOff_30 : decode cX12_turnsOff 30 = .ok (.iload_n 3, 1) := by decide +kernel
theorem dX12_turnsOff_31 : decode cX12_turnsOff 31 = .ok (.iload_n 2, 1) := by decide +kernel
theorem dX12_turnsOff_32 : decode cX12_turnsOff 32 = .ok (.isub, 1) := by decide +kernel
theorem dX12_turnsOff_33 : decode cX12_turnsOff 33 = .ok (.iconst 0, 1) := by decide +kernel
theorem dX12_turnsOff_34 : decode cX12_turnsOff 34 = .ok (.iload 4, 2) := by decide +kernel
theorem dX12_turnsOff_36 : decode cX12_turnsOff 36 = .ok (.invokestatic 119, 3) := by decide +kernel
theorem dX12_turnsOff_39 : decode cX12_turnsOff 39 = .ok (.goto 13, 3) := by decide +kernel
theorem dX12_turnsOff_42 : decode cX12_turnsOff 42 = .ok (.iload_n 3, 1) := by decide +kernel
theorem dX12_turnsOff_43 : decode cX12_turnsOff 43 = .ok (.iload_n 2, 1) := by decide +kernel
theorem dX12_turnsOff_44 : decode cX12_turnsOff 44 = .ok (.iadd, 1) := by decide +kernel
theorem dX12_turnsOff_45 : decode cX12_turnsOff 45 = .ok (.iload 4, 2) := by decide +kernel
theorem dX12_turnsOff_47 : decode cX12_turnsOff 47 = .ok (.bipush 9, 2) := by decide +kernel
theorem dX12_turnsOff_49 : decode cX12_turnsOff 49 = .ok (.invokestatic 119, 3) := by decide +kernel
theorem dX12_turnsOff_52 : decode cX12_turnsOff 52 = .ok (.invokevirtual 88, 3) := by decide +kernel
theorem dX12_turnsOff_55 : decode cX12_turnsOff 55 = .ok (.aload_n 0, 1) := by decide +kernel
theorem dX12_turnsOff_56 : decode cX12_turnsOff 56 = .ok (.iload_n 1, 1) := by decide +kernel
theorem dX12_turnsOff_57 : decode cX12_turnsOff 57 = .ok (.iconst 2, 1) := by decide +kernel
theorem dX12_turnsOff_58 : decode cX12_turnsOff 58 = .ok (.invokevirtual 69, 3) := by decide +kernel
theorem dX12_turnsOff_61 : decode cX12_turnsOff 61 = .ok (.iload_n 3, 1) := by decide +kernel
theorem dX12_turnsOff_62 : decode cX12_turnsOff 62 = .ok (.if_icmp .eq 8, 3) := by decide +kernel
theorem dX12_turnsOff_65 : decode cX12_turnsOff 65 = .ok (.aload_n 0, 1) := by decide +kernel
theorem dX12_turnsOff_66 : decode cX12_turnsOff 66 = .ok (.iload_n 1, 1) := by decide +kernel
theorem dX12_turnsOff_67 : decode cX12_turnsOff 67 = .ok (.invokevirtual 123, 3) := by decide +kernel
theorem dX12_turnsOff_70 : decode cX12_turnsOff 70 = .ok (.return_, 1) := by decide +kernel
theorem dX12_goesOn_0 : decode cX12_goesOn 0 = .ok (.aload_n 0, 1) := by decide +kernel
theorem dX12_goesOn_1 : decode cX12_goesOn 1 = .ok (.iload_n 1, 1) := by decide +kernel
theorem dX12_goesOn_2 : decode cX12_goesOn 2 = .ok (.invokevirtual 105, 3) := by decide +kernel
theorem dX12_goesOn_5 : decode cX12_goesOn 5 = .ok (.istore_n 2, 1) := by decide +kernel
theorem dX12_goesOn_6 : decode cX12_goesOn 6 = .ok (.iload_n 2, 1) := by decide +kernel
theorem dX12_goesOn_7 : decode cX12_goesOn 7 = .ok (.ifCond .le 109, 3) := by decide +kernel
theorem dX12_goesOn_10 : decode cX12_goesOn 10 = .ok (.aload_n 0, 1) := by decide +kernel
theorem dX12_goesOn_11 : decode cX12_goesOn 11 = .ok (.iload_n 1, 1) := by decide +kernel
theorem dX12_goesOn_12 : decode cX12_goesOn 12 = .ok (.iconst 5, 1) := by decide +kernel
theorem dX12_goesOn_13 : decode cX12_goesOn 13 = .ok (.invokevirtual 69, 3) := by decide +kernel
theorem dX12_goesOn_16 : decode cX12_goesOn 16 = .ok (.aload_n 0, 1) := by decide +kernel
theorem dX12_goesOn_17 : decode cX12_goesOn 17 = .ok (.iload_n 1, 1) := by decide +kernel
theorem dX12_goesOn_18 : decode cX12_goesOn 18 = .ok (.bipush 6, 2) := by decide +kernel
theorem dX12_goesOn_20 : decode cX12_goesOn 20 = .ok (.invokevirtual 69, 3) := by decide +kernel
theorem dX12_goesOn_23 : decode cX12_goesOn 23 = .ok (.iadd, 1) := by decide +kernel
theorem dX12_goesOn_24 : decode cX12_goesOn 24 = .ok (.ifCond .ne 92, 3) := by decide +kernel
theorem dX12_goesOn_27 : decode cX12_goesOn 27 = .ok (.aload_n 0, 1) := by decide +kernel
theorem dX12_goesOn_28 : decode cX12_goesOn 28 = .ok (.iload_n 1, 1) := by decide +kernel
theorem dX12_goesOn_29 : decode cX12_goesOn 29 = .ok (.iconst 1, 1) := by decide +kernel
theorem dX12_goesOn_30 : decode cX12_goesOn 30 = .ok (.aload_n 0, 1) := by decide +kernel
theorem dX12_goesOn_31 : decode cX12_goesOn 31 = .ok (.iload_n 1, 1) := by decide +kernel
theorem dX12_goesOn_32 : decode cX12_goesOn 32 = .ok (.iconst 1, 1) := by decide +kernel
theorem dX12_goesOn_33 : decode cX12_goesOn 33 = .ok (.invokevirtual 69, 3) := by decide +kernel
theorem dX12_goesOn_36 : decode cX12_goesOn 36 = .ok (.iconst 1, 1) := by decide +kernel
theorem dX12_goesOn_37 : decode cX12_goesOn 37 = .ok (.iadd, 1) := by decide +kernel
theorem dX12_goesOn_38 : decode cX12_goesOn 38 = .ok (.invokevirtual 88, 3) := by decide +kernel
theorem dX12_goesOn_41 : decode cX12_goesOn 41 = .ok (.aload_n 0, 1) := by decide +kernel
theorem dX12_goesOn_42 : decode cX12_goesOn 42 = .ok (.iload_n 1, 1) := by decide +kernel
theorem dX12_goesOn_43 : decode cX12_goesOn 43 = .ok (.iconst 1, 1) := by decide +kernel
theorem dX12_goesOn_44 : decode cX12_goesOn 44 = .ok (.invokevirtual 69, 3) := by decide +kernel
theorem dX12_goesOn_47 : decode cX12_goesOn 47 = .ok (.bipush 20, 2) := by decide +kernel
theorem dX12_goesOn_49 : decode cX12_goesOn 49 = .ok (.if_icmp .ne 14, 3) := by decide +kernel
theorem dX12_goesOn_52 : decode cX12_goesOn 52 = .ok (.aload_n 0, 1) := by decide +kernel
theorem dX12_goesOn_53 : decode cX12_goesOn 53 = .ok (.iload_n 1, 1) := by decide +kernel
theorem dX12_goesOn_54 : decode cX12_goesOn 54 = .ok (.bipush 6, 2) := by decide +kernel
theorem dX12_goesOn_56 : decode cX12_goesOn 56 = .ok (.iconst 1, 1) := by decide +kernel
theorem dX12_goesOn_57 : decode cX12_goesOn 57 = .ok (.invokevirtual 88, 3) := by decide +kernel
theorem dX12_goesOn_60 : decode cX12_goesOn 60 = .ok (.goto 50, 3) := by decide +kernel
theorem dX12_goesOn_63 : decode cX12_goesOn 63 = .ok (.aload_n 0, 1) := by decide +kernel
theorem dX12_goesOn_64 : decode cX12_goesOn 64 = .ok (.iload_n 1, 1) := by decide +kernel
theorem dX12_goesOn_65 : decode cX12_goesOn 65 = .ok (.invokevirtual 85, 3) := by decide +kernel
theorem dX12_goesOn_68 : decode cX12_goesOn 68 = .ok (.istore_n 3, 1) := by decide +kernel
theorem dX12_goesOn_69 : decode cX12_goesOn 69 = .ok (.aload_n 0, 1) := by decide +kernel
theorem dX12_goesOn_70 : decode cX12_goesOn 70 = .ok (.iload_n 1, 1) := by decide +kernel
theorem dX12_goesOn_71 : decode cX12_goesOn 71 = .ok (.iconst 4, 1) := by decide +kernel
theorem dX12_goesOn_72 : decode cX12_goesOn 72 = .ok (.iload_n 3, 1) := by decide +kernel
theorem dX12_goesOn_73 : decode cX12_goesOn 73 = .ok (.aload_n 0, 1) := by decide +kernel
theorem dX12_goesOn_74 : decode cX12_goesOn 74 = .ok (.iload_n 1, 1) := by decide +kernel
theorem dX12_goesOn_75 : decode cX12_goesOn 75 = .ok (.iconst 4, 1) := by decide +kernel
theorem dX12_goesOn_76 : decode cX12_goesOn 76 = .ok (.invokevirtual 69, 3) := by decide +kernel
theorem dX12_goesOn_79 : decode cX12_goesOn 79 = .ok (.if_icmp .ge 7, 3) := by decide +kernel
theorem dX12_goesOn_82 : decode cX12_goesOn 82 = .ok (.iload_n 3, 1) := by decide +kernel
theorem dX12_goesOn_83 : decode cX12_goesOn 83 = .ok (.goto 9, 3) := by decide +kernel
theorem dX12_goesOn_86 : decode cX12_goesOn 86 = .ok (.aload_n 0, 1) := by decide +kernel
theorem dX12_goesOn_87 : decode cX12_goesOn 87 = .ok (.iload_n 1, 1) := by decide +kernel
theorem dX12_goesOn_88 : decode cX12_goesOn 88 = .ok (.iconst 4, 1) := by decide +kernel
theorem dX12_goesOn_89 : decode cX12_goesOn 89 = .ok (.invokevirtual 69, 3) := by decide +kernel
theorem dX12_goesOn_92 : decode cX12_goesOn 92 = .ok (.invokevirtual 88, 3) := by decide +kernel
theorem dX12_goesOn_95 : decode cX12_goesOn 95 = .ok (.aload_n 0, 1) := by decide +kernel
theorem dX12_goesOn_96 : decode cX12_goesOn 96 = .ok (.iload_n 1, 1) := by decide +kernel
theorem dX12_goesOn_97 : decode cX12_goesOn 97 = .ok (.iconst 5, 1) := by decide +kernel
theorem dX12_goesOn_98 : decode cX12_goesOn 98 = .ok (.iload_n 3, 1) := by decide +kernel
theorem dX12_goesOn_99 : decode cX12_goesOn 99 = .ok (.ifCond .ne 7, 3) := by decide +kernel
theorem dX12_goesOn_102 : decode cX12_goesOn 102 = .ok (.iconst 1, 1) := by decide +kernel
theorem dX12_goesOn_103 : decode cX12_goesOn 103 = .ok (.goto 4, 3) := by decide +kernel
theorem dX12_goesOn_106 : decode cX12_goesOn 106 = .ok (.iconst 0, 1) := by decide +kernel
theorem dX12_goesOn_107 : decode cX12_goesOn 107 = .ok (.invokevirtual 88, 3) := by decide +kernel
theorem dX12_goesOn_110 : decode cX12_goesOn 110 = .ok (.iinc 2 (-1), 3) := by decide +kernel
theorem dX12_goesOn_113 : decode cX12_goesOn 113 = .ok (.goto (-107), 3) := by decide +kernel
theorem dX12_goesOn_116 : decode cX12_goesOn 116 = .ok (.return_, 1) := by decide +kernel
theorem dX12_sails_0 : decode cX12_sails 0 = .ok (.aload_n 0, 1) := by decide +kernel
theorem dX12_sails_1 : decode cX12_sails 1 = .ok (.iload_n 1, 1) := by decide +kernel
theorem dX12_sails_2 : decode cX12_sails 2 = .ok (.invokevirtual 102, 3) := by decide +kernel
theorem dX12_sails_5 : decode cX12_sails 5 = .ok (.ifCond .eq 22, 3) := by decide +kernel
theorem dX12_sails_8 : decode cX12_sails 8 = .ok (.aload_n 0, 1) := by decide +kernel
theorem dX12_sails_9 : decode cX12_sails 9 = .ok (.getfield 7, 3) := by decide +kernel
theorem dX12_sails_12 : decode cX12_sails 12 = .ok (.iconst 1, 1) := by decide +kernel
theorem dX12_sails_13 : decode cX12_sails 13 = .ok (.iaload, 1) := by decide +kernel
theorem dX12_sails_14 : decode cX12_sails 14 = .ok (.aload_n 0, 1) := by decide +kernel
theorem dX12_sails_15 : decode cX12_sails 15 = .ok (.iload_n 1, 1) := by decide +kernel
theorem dX12_sails_16 : decode cX12_sails 16 = .ok (.iconst 1, 1) := by decide +kernel
theorem dX12_sails_17 : decode cX12_sails 17 = .ok (.invokevirtual 69, 3) := by decide +kernel
theorem dX12_sails_20 : decode cX12_sails 20 = .ok (.if_icmp .lt 7, 3) := by decide +kernel
theorem dX12_sails_23 : decode cX12_sails 23 = .ok (.iconst 1, 1) := by decide +kernel
theorem dX12_sails_24 : decode cX12_sails 24 = .ok (.goto 4, 3) := by decide +kernel
theorem dX12_sails_27 : decode cX12_sails 27 = .ok (.iconst 0, 1) := by decide +kernel
theorem dX12_sails_28 : decode cX12_sails 28 = .ok (.istore_n 2, 1) := by decide +kernel
theorem dX12_sails_29 : decode cX12_sails 29 = .ok (.iload_n 2, 1) := by decide +kernel
theorem dX12_sails_30 : decode cX12_sails 30 = .ok (.ifCond .eq 17, 3) := by decide +kernel
theorem dX12_sails_33 : decode cX12_sails 33 = .ok (.aload_n 0, 1) := by decide +kernel
theorem dX12_sails_34 : decode cX12_sails 34 = .ok (.iload_n 1, 1) := by decide +kernel
theorem dX12_sails_35 : decode cX12_sails 35 = .ok (.invokevirtual 111, 3) := by decide +kernel
theorem dX12_sails_38 : decode cX12_sails 38 = .ok (.ifCond .eq 9, 3) := by decide +kernel
theorem dX12_sails_41 : decode cX12_sails 41 = .ok (.aload_n 0, 1) := by decide +kernel
theorem dX12_sails_42 : decode cX12_sails 42 = .ok (.iload_n 1, 1) := by decide +kernel
theorem dX12_sails_43 : decode cX12_sails 43 = .ok (.invokevirtual 123, 3) := by decide +kernel
theorem dX12_sails_46 : decode cX12_sails 46 = .ok (.return_, 1) := by decide +kernel
theorem dX12_sails_47 : decode cX12_sails 47 = .ok (.iload_n 2, 1) := by decide +kernel
theorem dX12_sails_48 : decode cX12_sails 48 = .ok (.ifCond .eq 8, 3) := by decide +kernel
theorem dX12_sails_51 : decode cX12_sails 51 = .ok (.aload_n 0, 1) := by decide +kernel
theorem dX12_sails_52 : decode cX12_sails 52 = .ok (.iload_n 1, 1) := by decide +kernel
theorem dX12_sails_53 : decode cX12_sails 53 = .ok (.invokevirtual 126, 3) := by decide +kernel
theorem dX12_sails_56 : decode cX12_sails 56 = .ok (.aload_n 0, 1) := by decide +kernel
theorem dX12_sails_57 : decode cX12_sails 57 = .ok (.iload_n 1, 1) := by decide +kernel
theorem dX12_sails_58 : decode cX12_sails 58 = .ok (.invokevirtual 129, 3) := by decide +kernel
theorem dX12_sails_61 : decode cX12_sails 61 = .ok (.return_, 1) := by decide +kernel
theorem dX12_oneHour_0 : decode cX12_oneHour 0 = .ok (.iconst 0, 1) := by decide +kernel
theorem dX12_oneHour_1 : decode cX12_oneHour 1 = .ok (.istore_n 1, 1) := by decide +kernel
theorem dX12_oneHour_2 : decode cX12_oneHour 2 = .ok (.iload_n 1, 1) := by decide +kernel
theorem dX12_oneHour_3 : decode cX12_oneHour 3 = .ok (.aload_n 0, 1) := by decide +kernel
theorem dX12_oneHour_4 : decode cX12_oneHour 4 = .ok (.getfield 7, 3) := by decide +kernel
theorem dX12_oneHour_7 : decode cX12_oneHour 7 = .ok (.iconst 5, 1) := by decide +kernel
theorem dX12_oneHour_8 : decode cX12_oneHour 8 = .ok (.iaload, 1) := by decide +kernel
theorem dX12_oneHour_9 : decode cX12_oneHour 9 = .ok (.if_icmp .ge 31, 3) := by decide +kernel
theorem dX12_oneHour_12 : decode cX12_oneHour 12 = .ok (.aload_n 0, 1) := by decide +kernel
theorem dX12_oneHour_13 : decode cX12_oneHour 13 = .ok (.iload_n 1, 1) := by decide +kernel
theorem dX12_oneHour_14 : decode cX12_oneHour 14 = .ok (.iconst 5, 1) := by decide +kernel
theorem dX12_oneHour_15 : decode cX12_oneHour 15 = .ok (.invokevirtual 69, 3) := by decide +kernel
theorem dX12_oneHour_18 : decode cX12_oneHour 18 = .ok (.aload_n 0, 1) := by decide +kernel
theorem dX12_oneHour_19 : decode cX12_oneHour 19 = .ok (.iload_n 1, 1) := by decide +kernel
theorem dX12_oneHour_20 : decode cX12_oneHour 20 = .ok (.bipush 6, 2) := by decide +kernel
theorem dX12_oneHour_22 : decode cX12_oneHour 22 = .ok (.invokevirtual 69, 3) := by decide +kernel
theorem dX12_oneHour_25 : decode cX12_oneHour 25 = .ok (.iadd, 1) := by decide +kernel
theorem dX12_oneHour_26 : decode cX12_oneHour 26 = .ok (.ifCond .ne 8, 3) := by decide +kernel
theorem dX12_oneHour_29 : decode cX12_oneHour 29 = .ok (.aload_n 0, 1) := by decide +kernel
theorem dX12_oneHour_30 : decode cX12_oneHour 30 = .ok (.iload_n 1, 1) := by decide +kernel
theorem dX12_oneHour_31 : decode cX12_oneHour 31 = .ok (.invokevirtual 132, 3) := by decide +kernel
theorem dX12_oneHour_34 : decode cX12_oneHour 34 = .ok (.iinc 1 1, 3) := by decide +kernel
theorem dX12_oneHour_37 : decode cX12_oneHour 37 = .ok (.goto (-35), 3) := by decide +kernel
theorem dX12_oneHour_40 : decode cX12_oneHour 40 = .ok (.aload_n 0, 1) := by decide +kernel
theorem dX12_oneHour_41 : decode cX12_oneHour 41 = .ok (.getfield 7, 3) := by decide +kernel
theorem dX12_oneHour_44 : decode cX12_oneHour 44 = .ok (.iconst 0, 1) := by decide +kernel
theorem dX12_oneHour_45 : decode cX12_oneHour 45 = .ok (.dup2, 1) := by decide +kernel
theorem dX12_oneHour_46 : decode cX12_oneHour 46 = .ok (.iaload, 1) := by decide +kernel
theorem dX12_oneHour_47 : decode cX12_oneHour 47 = .ok (.iconst 1, 1) := by decide +kernel
theorem dX12_oneHour_48 : decode cX12_oneHour 48 = .ok (.iadd, 1) := by decide +kernel
theorem dX12_oneHour_49 : decode cX12_oneHour 49 = .ok (.iastore, 1) := by decide +kernel
theorem dX12_oneHour_50 : decode cX12_oneHour 50 = .ok (.return_, 1) := by decide +kernel
theorem dX12_passes_0 : decode cX12_passes 0 = .ok (.iconst 0, 1) := by decide +kernel
theorem dX12_passes_1 : decode cX12_passes 1 = .ok (.istore_n 2, 1) := by decide +kernel
theorem dX12_passes_2 : decode cX12_passes 2 = .ok (.iload_n 2, 1) := by decide +kernel
theorem dX12_passes_3 : decode cX12_passes 3 = .ok (.iload_n 1, 1) := by decide +kernel
theorem dX12_passes_4 : decode cX12_passes 4 = .ok (.if_icmp .ge 13, 3) := by decide +kernel
theorem dX12_passes_7 : decode cX12_passes 7 = .ok (.aload_n 0, 1) := by decide +kernel
theorem dX12_passes_8 : decode cX12_passes 8 = .ok (.invokevirtual 135, 3) := by decide +kernel
theorem dX12_passes_11 : decode cX12_passes 11 = .ok (.iinc 2 1, 3) := by decide +kernel
theorem dX12_passes_14 : decode cX12_passes 14 = .ok (.goto (-12), 3) := by decide +kernel
theorem dX12_passes_17 : decode cX12_passes 17 = .ok (.return_, 1) := by decide +kernel
theorem dX12_hours_0 : decode cX12_hours 0 = .ok (.iload_n 1, 1) := by decide +kernel
theorem dX12_hours_1 : decode cX12_hours 1 = .ok (.iconst 1, 1) := by decide +kernel
theorem dX12_hours_2 : decode cX12_hours 2 = .ok (.bipush 100, 2) := by decide +kernel
theorem dX12_hours_4 : decode cX12_hours 4 = .ok (.invokestatic 45, 3) := by decide +kernel
theorem dX12_hours_7 : decode cX12_hours 7 = .ok (.ifCond .ne 10, 3) := by decide +kernel
theorem dX12_hours_10 : decode cX12_hours 10 = .ok (.aload_n 0, 1) := by decide +kernel
theorem dX12_hours_11 : decode cX12_hours 11 = .ok (.ldc 44, 2) := by decide +kernel
theorem dX12_hours_13 : decode cX12_hours 13 = .ok (.invokevirtual 53, 3) := by decide +kernel
theorem dX12_hours_16 : decode cX12_hours 16 = .ok (.ireturn, 1) := by decide +kernel
theorem dX12_hours_17 : decode cX12_hours 17 = .ok (.aload_n 0, 1) := by decide +kernel
theorem dX12_hours_18 : decode cX12_hours 18 = .ok (.getfield 7, 3) := by decide +kernel
theorem dX12_hours_21 : decode cX12_hours 21 = .ok (.iconst 0, 1) := by decide +kernel
theorem dX12_hours_22 : decode cX12_hours 22 = .ok (.iaload, 1) := by decide +kernel
theorem dX12_hours_23 : decode cX12_hours 23 = .ok (.iload_n 1, 1) := by decide +kernel
theorem dX12_hours_24 : decode cX12_hours 24 = .ok (.iadd, 1) := by decide +kernel
theorem dX12_hours_25 : decode cX12_hours 25 = .ok (.ldc 138, 2) := by decide +kernel
theorem dX12_hours_27 : decode cX12_hours 27 = .ok (.if_icmp .le 10, 3) := by decide +kernel
theorem dX12_hours_30 : decode cX12_hours 30 = .ok (.aload_n 0, 1) := by decide +kernel
theorem dX12_hours_31 : decode cX12_hours 31 = .ok (.ldc 139, 2) := by decide +kernel
theorem dX12_hours_33 : decode cX12_hours 33 = .ok (.invokevirtual 53, 3) := by decide +kernel
theorem dX12_hours_36 : decode cX12_hours 36 = .ok (.ireturn, 1) := by decide +kernel
theorem dX12_hours_37 : decode cX12_hours 37 = .ok (.aload_n 0, 1) := by decide +kernel
theorem dX12_hours_38 : decode cX12_hours 38 = .ok (.iload_n 1, 1) := by decide +kernel
theorem dX12_hours_39 : decode cX12_hours 39 = .ok (.invokevirtual 140, 3) := by decide +kernel
theorem dX12_hours_42 : decode cX12_hours 42 = .ok (.aload_n 0, 1) := by decide +kernel
theorem dX12_hours_43 : decode cX12_hours 43 = .ok (.bipush 6, 2) := by decide +kernel
theorem dX12_hours_45 : decode cX12_hours 45 = .ok (.invokevirtual 79, 3) := by decide +kernel
theorem dX12_hours_48 : decode cX12_hours 48 = .ok (.ireturn, 1) := by decide +kernel
theorem dX12_on_0 : decode cX12_on 0 = .ok (.aload_n 0, 1) := by decide +kernel
theorem dX12_on_1 : decode cX12_on 1 = .ok (.iload_n 1, 1) := by decide +kernel
theorem dX12_on_2 : decode cX12_on 2 = .ok (.invokevirtual 99, 3) := by decide +kernel
theorem dX12_on_5 : decode cX12_on 5 = .ok (.ifCond .eq 22, 3) := by decide +kernel
theorem dX12_on_8 : decode cX12_on 8 = .ok (.iload_n 2, 1) := by decide +kernel
theorem dX12_on_9 : decode cX12_on 9 = .ok (.iconst 0, 1) := by decide +kernel
theorem dX12_on_10 : decode cX12_on 10 = .ok (.bipush 100, 2) := by decide +kernel
theorem dX12_on_12 : decode cX12_on 12 = .ok (.invokestatic 45, 3) := by decide +kernel
theorem dX12_on_15 : decode cX12_on 15 = .ok (.ifCond .eq 12, 3) := by decide +kernel
theorem dX12_on_18 : decode cX12_on 18 = .ok (.iload_n 3, 1) := by decide +kernel
theorem dX12_on_19 : decode cX12_on 19 = .ok (.iconst 0, 1) := by decide +kernel
theorem dX12_on_20 : decode cX12_on 20 = .ok (.iconst 3, 1) := by decide +kernel
theorem dX12_on_21 : decode cX12_on 21 = .ok (.invokestatic 45, 3) := by decide +kernel
theorem dX12_on_24 : decode cX12_on 24 = .ok (.ifCond .ne 10, 3) := by decide +kernel
theorem dX12_on_27 : decode cX12_on 27 = .ok (.aload_n 0, 1) := by decide +kernel
theorem dX12_on_28 : decode cX12_on 28 = .ok (.ldc 44, 2) := by decide +kernel
theorem dX12_on_30 : decode cX12_on 30 = .ok (.invokevirtual 53, 3) := by decide +kernel
theorem dX12_on_33 : decode cX12_on 33 = .ok (.ireturn, 1) := by decide +kernel
theorem dX12_on_34 : decode cX12_on 34 = .ok (.aload_n 0, 1) := by decide +kernel
theorem dX12_on_35 : decode cX12_on 35 = .ok (.iconst 1, 1) := by decide +kernel
theorem dX12_on_36 : decode cX12_on 36 = .ok (.aload_n 0, 1) := by decide +kernel
theorem dX12_on_37 : decode cX12_on 37 = .ok (.getfield 16, 3) := by decide +kernel
theorem dX12_on_40 : decode cX12_on 40 = .ok (.invokevirtual 143, 3) := by decide +kernel
theorem dX12_on_43 : decode cX12_on 43 = .ok (.aload_n 0, 1) := by decide +kernel
theorem dX12_on_44 : decode cX12_on 44 = .ok (.iload_n 2, 1) := by decide +kernel
theorem dX12_on_45 : decode cX12_on 45 = .ok (.invokevirtual 140, 3) := by decide +kernel
theorem dX12_on_48 : decode cX12_on 48 = .ok (.aload_n 0, 1) := by decide +kernel
theorem dX12_on_49 : decode cX12_on 49 = .ok (.iload_n 1, 1) := by decide +kernel
theorem dX12_on_50 : decode cX12_on 50 = .ok (.iconst 1, 1) := by decide +kernel
theorem dX12_on_51 : decode cX12_on 51 = .ok (.iload_n 3, 1) := by decide +kernel
theorem dX12_on_52 : decode cX12_on 52 = .ok (.iadd, 1) := by decide +kernel
theorem dX12_on_53 : decode cX12_on 53 = .ok (.invokevirtual 69, 3) := by decide +kernel
theorem dX12_on_56 : decode cX12_on 56 = .ok (.istore 4, 2) := by decide +kernel
theorem dX12_on_58 : decode cX12_on 58 = .ok (.aload_n 0, 1) := by decide +kernel
theorem dX12_on_59 : decode cX12_on 59 = .ok (.iconst 0, 1) := by decide +kernel
theorem dX12_on_60 : decode cX12_on 60 = .ok (.aload_n 0, 1) := by decide +kernel
theorem dX12_on_61 : decode cX12_on 61 = .ok (.getfield 16, 3) := by decide +kernel
theorem dX12_on_64 : decode cX12_on 64 = .ok (.invokevirtual 143, 3) := by decide +kernel
theorem dX12_on_67 : decode cX12_on 67 = .ok (.iload 4, 2) := by decide +kernel
theorem dX12_on_69 : decode cX12_on 69 = .ok (.ireturn, 1) := by decide +kernel
theorem dX12_then_0 : decode cX12_then 0 = .ok (.iload_n 1, 1) := by decide +kernel
theorem dX12_then_1 : decode cX12_then 1 = .ok (.iconst 0, 1) := by decide +kernel
theorem dX12_then_2 : decode cX12_then 2 = .ok (.bipush 100, 2) := by decide +kernel
theorem dX12_then_4 : decode cX12_then 4 = .ok (.invokestatic 45, 3) := by decide +kernel
theorem dX12_then_7 : decode cX12_then 7 = .ok (.ifCond .eq 12, 3) := by decide +kernel
theorem dX12_then_10 : decode cX12_then 10 = .ok (.iload_n 2, 1) := by decide +kernel
theorem dX12_then_11 : decode cX12_then 11 = .ok (.iconst 0, 1) := by decide +kernel
theorem dX12_then_12 : decode cX12_then 12 = .ok (.iconst 1, 1) := by decide +kernel
theorem dX12_then_13 : decode cX12_then 13 = .ok (.invokestatic 45, 3) := by decide +kernel
theorem dX12_then_16 : decode cX12_then 16 = .ok (.ifCond .ne 10, 3) := by decide +kernel
theorem dX12_then_19 : decode cX12_then 19 = .ok (.aload_n 0, 1) := by decide +kernel
theorem dX12_then_20 : decode cX12_then 20 = .ok (.ldc 44, 2) := by decide +kernel
theorem dX12_then_22 : decode cX12_then 22 = .ok (.invokevirtual 53, 3) := by decide +kernel
theorem dX12_then_25 : decode cX12_then 25 = .ok (.ireturn, 1) := by decide +kernel
theorem dX12_then_26 : decode cX12_then 26 = .ok (.aload_n 0, 1) := by decide +kernel
theorem dX12_then_27 : decode cX12_then 27 = .ok (.iconst 1, 1) := by decide +kernel
theorem dX12_then_28 : decode cX12_then 28 = .ok (.aload_n 0, 1) := by decide +kernel
theorem dX12_then_29 : decode cX12_then 29 = .ok (.getfield 16, 3) := by decide +kernel
theorem dX12_then_32 : decode cX12_then 32 = .ok (.invokevirtual 143, 3) := by decide +kernel
theorem dX12_then_35 : decode cX12_then 35 = .ok (.aload_n 0, 1) := by decide +kernel
theorem dX12_then_36 : decode cX12_then 36 = .ok (.iload_n 1, 1) := by decide +kernel
theorem dX12_then_37 : decode cX12_then 37 = .ok (.invokevirtual 140, 3) := by decide +kernel
theorem dX12_then_40 : decode cX12_then 40 = .ok (.aload_n 0, 1) := by decide +kernel
theorem dX12_then_41 : decode cX12_then 41 = .ok (.iconst 5, 1) := by decide +kernel
theorem dX12_then_42 : decode cX12_then 42 = .ok (.iload_n 2, 1) := by decide +kernel
theorem dX12_then_43 : decode cX12_then 43 = .ok (.iadd, 1) := by decide +kernel
theorem dX12_then_44 : decode cX12_then 44 = .ok (.invokevirtual 79, 3) := by decide +kernel
theorem dX12_then_47 : decode cX12_then 47 = .ok (.istore_n 3, 1) := by decide +kernel
theorem dX12_then_48 : decode cX12_then 48 = .ok (.aload_n 0, 1) := by decide +kernel
theorem dX12_then_49 : decode cX12_then 49 = .ok (.iconst 0, 1) := by decide +kernel
theorem dX12_then_50 : decode cX12_then 50 = .ok (.aload_n 0, 1) := by decide +kernel
theorem dX12_then_51 : decode cX12_then 51 = .ok (.getfield 16, 3) := by decide +kernel
theorem dX12_then_54 : decode cX12_then 54 = .ok (.invokevirtual 143, 3) := by decide +kernel
theorem dX12_then_57 : decode cX12_then 57 = .ok (.iload_n 3, 1) := by decide +kernel
theorem dX12_then_58 : decode cX12_then 58 = .ok (.ireturn, 1) := by decide +kernel
theorem dX12_soonest_0 : decode cX12_soonest 0 = .ok (.iconst 0, 1) := by decide +kernel
theorem dX12_soonest_1 : decode cX12_soonest 1 = .ok (.istore_n 3, 1) := by decide +kernel
theorem dX12_soonest_2 : decode cX12_soonest 2 = .ok (.iload_n 3, 1) := by decide +kernel
theorem dX12_soonest_3 : decode cX12_soonest 3 = .ok (.bipush 100, 2) := by decide +kernel
theorem dX12_soonest_5 : decode cX12_soonest 5 = .ok (.if_icmp .gt 22, 3) := by decide +kernel
theorem dX12_soonest_8 : decode cX12_soonest 8 = .ok (.aload_n 0, 1) := by decide +kernel
theorem dX12_soonest_9 : decode cX12_soonest 9 = .ok (.iload_n 1, 1) := by decide +kernel
theorem dX12_soonest_10 : decode cX12_soonest 10 = .ok (.iload_n 2, 1) := by decide +kernel
theorem dX12_soonest_11 : decode cX12_soonest 11 = .ok (.invokevirtual 69, 3) := by decide +kernel
theorem dX12_soonest_14 : decode cX12_soonest 14 = .ok (.ifCond .ne 13, 3) := by decide +kernel
theorem dX12_soonest_17 : decode cX12_soonest 17 = .ok (.aload_n 0, 1) := by decide +kernel
theorem dX12_soonest_18 : decode cX12_soonest 18 = .ok (.invokevirtual 135, 3) := by decide +kernel
theorem dX12_soonest_21 : decode cX12_soonest 21 = .ok (.iinc 3 1, 3) := by decide +kernel
theorem dX12_soonest_24 : decode cX12_soonest 24 = .ok (.goto (-22), 3) := by decide +kernel
theorem dX12_soonest_27 : decode cX12_soonest 27 = .ok (.aload_n 0, 1) := by decide +kernel
theorem dX12_soonest_28 : decode cX12_soonest 28 = .ok (.iconst 0, 1) := by decide +kernel
theorem dX12_soonest_29 : decode cX12_soonest 29 = .ok (.aload_n 0, 1) := by decide +kernel
theorem dX12_soonest_30 : decode cX12_soonest 30 = .ok (.getfield 16, 3) := by decide +kernel
theorem dX12_soonest_33 : decode cX12_soonest 33 = .ok (.invokevirtual 143, 3) := by decide +kernel
theorem dX12_soonest_36 : decode cX12_soonest 36 = .ok (.iload_n 3, 1) := by decide +kernel
theorem dX12_soonest_37 : decode cX12_soonest 37 = .ok (.ireturn, 1) := by decide +kernel
theorem dX12_whenFirst_0 : decode cX12_whenFirst 0 = .ok (.aload_n 0, 1) := by decide +kernel
theorem dX12_whenFirst_1 : decode cX12_whenFirst 1 = .ok (.iconst 1, 1) := by decide +kernel
theorem dX12_whenFirst_2 : decode cX12_whenFirst 2 = .ok (.aload_n 0, 1) := by decide +kernel
theorem dX12_whenFirst_3 : decode cX12_whenFirst 3 = .ok (.getfield 16, 3) := by decide +kernel
theorem dX12_whenFirst_6 : decode cX12_whenFirst 6 = .ok (.invokevirtual 143, 3) := by decide +kernel
theorem dX12_whenFirst_9 : decode cX12_whenFirst 9 = .ok (.aload_n 0, 1) := by decide +kernel
theorem dX12_whenFirst_10 : decode cX12_whenFirst 10 = .ok (.iload_n 1, 1) := by decide +kernel
theorem dX12_whenFirst_11 : decode cX12_whenFirst 11 = .ok (.iload_n 2, 1) := by decide +kernel
theorem dX12_whenFirst_12 : decode cX12_whenFirst 12 = .ok (.invokevirtual 147, 3) := by decide +kernel
theorem dX12_whenFirst_15 : decode cX12_whenFirst 15 = .ok (.istore_n 3, 1) := by decide +kernel
theorem dX12_whenFirst_16 : decode cX12_whenFirst 16 = .ok (.iload_n 3, 1) := by decide +kernel
theorem dX12_whenFirst_17 : decode cX12_whenFirst 17 = .ok (.bipush 100, 2) := by decide +kernel
theorem dX12_whenFirst_19 : decode cX12_whenFirst 19 = .ok (.if_icmp .le 12, 3) := by decide +kernel
theorem dX12_whenFirst_22 : decode cX12_whenFirst 22 = .ok (.aload_n 0, 1) := by decide +kernel
theorem dX12_whenFirst_23 : decode cX12_whenFirst 23 = .ok (.ldc 150, 2) := by decide +kernel
theorem dX12_whenFirst_25 : decode cX12_whenFirst 25 = .ok (.invokevirtual 53, 3) := by decide +kernel
theorem dX12_whenFirst_28 : decode cX12_whenFirst 28 = .ok (.goto 4, 3) := by decide +kernel
theorem dX12_whenFirst_31 : decode cX12_whenFirst 31 = .ok (.iload_n 3, 1) := by decide +kernel
theorem dX12_whenFirst_32 : decode cX12_whenFirst 32 = .ok (.ireturn, 1) := by decide +kernel
theorem dX12_comes_0 : decode cX12_comes 0 = .ok (.aload_n 0, 1) := by decide +kernel
theorem dX12_comes_1 : decode cX12_comes 1 = .ok (.iload_n 1, 1) := by decide +kernel
theorem dX12_comes_2 : decode cX12_comes 2 = .ok (.invokevirtual 99, 3) := by decide +kernel
theorem dX12_comes_5 : decode cX12_comes 5 = .ok (.ifCond .eq 13, 3) := by decide +kernel
theorem dX12_comes_8 : decode cX12_comes 8 = .ok (.aload_n 0, 1) := by decide +kernel
theorem dX12_comes_9 : decode cX12_comes 9 = .ok (.iload_n 1, 1) := by decide +kernel
theorem dX12_comes_10 : decode cX12_comes 10 = .ok (.bipush 6, 2) := by decide +kernel
theorem dX12_comes_12 : decode cX12_comes 12 = .ok (.invokevirtual 151, 3) := by decide +kernel
theorem dX12_comes_15 : decode cX12_comes 15 = .ok (.goto 9, 3) := by decide +kernel
theorem dX12_comes_18 : decode cX12_comes 18 = .ok (.aload_n 0, 1) := by decide +kernel
theorem dX12_comes_19 : decode cX12_comes 19 = .ok (.ldc 44, 2) := by decide +kernel
theorem dX12_comes_21 : decode cX12_comes 21 = .ok (.invokevirtual 53, 3) := by decide +kernel
theorem dX12_comes_24 : decode cX12_comes 24 = .ok (.ireturn, 1) := by decide +kernel
theorem dX12_wrecks_0 : decode cX12_wrecks 0 = .ok (.aload_n 0, 1) := by decide +kernel
theorem dX12_wrecks_1 : decode cX12_wrecks 1 = .ok (.iload_n 1, 1) := by decide +kernel
theorem dX12_wrecks_2 : decode cX12_wrecks 2 = .ok (.invokevirtual 99, 3) := by decide +kernel
theorem dX12_wrecks_5 : decode cX12_wrecks 5 = .ok (.ifCond .eq 12, 3) := by decide +kernel
theorem dX12_wrecks_8 : decode cX12_wrecks 8 = .ok (.aload_n 0, 1) := by decide +kernel
theorem dX12_wrecks_9 : decode cX12_wrecks 9 = .ok (.iload_n 1, 1) := by decide +kernel
theorem dX12_wrecks_10 : decode cX12_wrecks 10 = .ok (.iconst 5, 1) := by decide +kernel
theorem dX12_wrecks_11 : decode cX12_wrecks 11 = .ok (.invokevirtual 151, 3) := by decide +kernel
theorem dX12_wrecks_14 : decode cX12_wrecks 14 = .ok (.goto 9, 3) := by decide +kernel
theorem dX12_wrecks_17 : decode cX12_wrecks 17 = .ok (.aload_n 0, 1) := by decide +kernel
theorem dX12_wrecks_18 : decode cX12_wrecks 18 = .ok (.ldc 44, 2) := by decide +kernel
theorem dX12_wrecks_20 : decode cX12_wrecks 20 = .ok (.invokevirtual 53, 3) := by decide +kernel
theorem dX12_wrecks_23 : decode cX12_wrecks 23 = .ok (.ireturn, 1) := by decide +kernel
theorem dX12_bestOf_0 : decode cX12_bestOf 0 = .ok (.aload_n 0, 1) := by decide +kernel
theorem dX12_bestOf_1 : decode cX12_bestOf 1 = .ok (.iload_n 1, 1) := by decide +kernel
theorem dX12_bestOf_2 : decode cX12_bestOf 2 = .ok (.invokevirtual 99, 3) := by decide +kernel
theorem dX12_bestOf_5 : decode cX12_bestOf 5 = .ok (.ifCond .ne 10, 3) := by decide +kernel
theorem dX12_bestOf_8 : decode cX12_bestOf 8 = .ok (.aload_n 0, 1) := by decide +kernel
theorem dX12_bestOf_9 : decode cX12_bestOf 9 = .ok (.ldc 44, 2) := by decide +kernel
theorem dX12_bestOf_11 : decode cX12_bestOf 11 = .ok (.invokevirtual 53, 3) := by decide +kernel
theorem dX12_bestOf_14 : decode cX12_bestOf 14 = .ok (.ireturn, 1) := by decide +kernel
theorem dX12_bestOf_15 : decode cX12_bestOf 15 = .ok (.aload_n 0, 1) := by decide +kernel
theorem dX12_bestOf_16 : decode cX12_bestOf 16 = .ok (.iload_n 1, 1) := by decide +kernel
theorem dX12_bestOf_17 : decode cX12_bestOf 17 = .ok (.iconst 5, 1) := by decide +kernel
theorem dX12_bestOf_18 : decode cX12_bestOf 18 = .ok (.invokevirtual 69, 3) := by decide +kernel
theorem dX12_bestOf_21 : decode cX12_bestOf 21 = .ok (.aload_n 0, 1) := by decide +kernel
theorem dX12_bestOf_22 : decode cX12_bestOf 22 = .ok (.iload_n 1, 1) := by decide +kernel
theorem dX12_bestOf_23 : decode cX12_bestOf 23 = .ok (.bipush 6, 2) := by decide +kernel
theorem dX12_bestOf_25 : decode cX12_bestOf 25 = .ok (.invokevirtual 69, 3) := by decide +kernel
theorem dX12_bestOf_28 : decode cX12_bestOf 28 = .ok (.iadd, 1) := by decide +kernel
theorem dX12_bestOf_29 : decode cX12_bestOf 29 = .ok (.ifCond .le 10, 3) := by decide +kernel
theorem dX12_bestOf_32 : decode cX12_bestOf 32 = .ok (.aload_n 0, 1) := by decide +kernel
theorem dX12_bestOf_33 : decode cX12_bestOf 33 = .ok (.ldc 139, 2) := by decide +kernel
theorem dX12_bestOf_35 : decode cX12_bestOf 35 = .ok (.invokevirtual 53, 3) := by decide +kernel
theorem dX12_bestOf_38 : decode cX12_bestOf 38 = .ok (.ireturn, 1) := by decide +kernel
theorem dX12_bestOf_39 : decode cX12_bestOf 39 = .ok (.aload_n 0, 1) := by decide +kernel
theorem dX12_bestOf_40 : decode cX12_bestOf 40 = .ok (.iconst 1, 1) := by decide +kernel
theorem dX12_bestOf_41 : decode cX12_bestOf 41 = .ok (.aload_n 0, 1) := by decide +kernel
theorem dX12_bestOf_42 : decode cX12_bestOf 42 = .ok (.getfield 16, 3) := by decide +kernel
theorem dX12_bestOf_45 : decode cX12_bestOf 45 = .ok (.invokevirtual 143, 3) := by decide +kernel
theorem dX12_bestOf_48 : decode cX12_bestOf 48 = .ok (.iconst (-1), 1) := by decide +kernel
theorem dX12_bestOf_49 : decode cX12_bestOf 49 = .ok (.istore 4, 2) := by decide +kernel
theorem dX12_bestOf_51 : decode cX12_bestOf 51 = .ok (.bipush 101, 2) := by decide +kernel
theorem dX12_bestOf_53 : decode cX12_bestOf 53 = .ok (.istore 5, 2) := by decide +kernel
theorem dX12_bestOf_55 : decode cX12_bestOf 55 = .ok (.iconst 0, 1) := by decide +kernel
theorem dX12_bestOf_56 : decode cX12_bestOf 56 = .ok (.istore 6, 2) := by decide +kernel
theorem dX12_bestOf_58 : decode cX12_bestOf 58 = .ok (.iload 6, 2) := by decide +kernel
theorem dX12_bestOf_60 : decode cX12_bestOf 60 = .ok (.iload_n 3, 1) := by decide +kernel
theorem dX12_bestOf_61 : decode cX12_bestOf 61 = .ok (.if_icmp .gt 58, 3) := by decide +kernel
theorem dX12_bestOf_64 : decode cX12_bestOf 64 = .ok (.aload_n 0, 1) := by decide +kernel
theorem dX12_bestOf_65 : decode cX12_bestOf 65 = .ok (.iload_n 1, 1) := by decide +kernel
theorem dX12_bestOf_66 : decode cX12_bestOf 66 = .ok (.iload_n 2, 1) := by decide +kernel
theorem dX12_bestOf_67 : decode cX12_bestOf 67 = .ok (.iload 6, 2) := by decide +kernel
theorem dX12_bestOf_69 : decode cX12_bestOf 69 = .ok (.invokevirtual 88, 3) := by decide +kernel
theorem dX12_bestOf_72 : decode cX12_bestOf 72 = .ok (.aload_n 0, 1) := by decide +kernel
theorem dX12_bestOf_73 : decode cX12_bestOf 73 = .ok (.iload_n 1, 1) := by decide +kernel
theorem dX12_bestOf_74 : decode cX12_bestOf 74 = .ok (.bipush 6, 2) := by decide +kernel
theorem dX12_bestOf_76 : decode cX12_bestOf 76 = .ok (.invokevirtual 147, 3) := by decide +kernel
theorem dX12_bestOf_79 : decode cX12_bestOf 79 = .ok (.istore 7, 2) := by decide +kernel
theorem dX12_bestOf_81 : decode cX12_bestOf 81 = .ok (.iload 7, 2) := by decide +kernel
theorem dX12_bestOf_83 : decode cX12_bestOf 83 = .ok (.iload 5, 2) := by decide +kernel
theorem dX12_bestOf_85 : decode cX12_bestOf 85 = .ok (.if_icmp .ge 8, 3) := by decide +kernel
theorem dX12_bestOf_88 : decode cX12_bestOf 88 = .ok (.iload 6, 2) := by decide +kernel
theorem dX12_bestOf_90 : decode cX12_bestOf 90 = .ok (.goto 5, 3) := by decide +kernel
theorem dX12_bestOf_93 : decode cX12_bestOf 93 = .ok (.iload 4, 2) := by decide +kernel
theorem dX12_bestOf_95 : decode cX12_bestOf 95 = .ok (.istore 4, 2) := by decide +kernel
theorem dX12_bestOf_97 : decode cX12_bestOf 97 = .ok (.iload 7, 2) := by decide +kernel
theorem dX12_bestOf_99 : decode cX12_bestOf 99 = .ok (.iload 5, 2) := by decide +kernel
theorem dX12_bestOf_101 : decode cX12_bestOf 101 = .ok (.if_icmp .ge 8, 3) := by decide +kernel
theorem dX12_bestOf_104 : decode cX12_bestOf 104 = .ok (.iload 7, 2) := by decide +kernel
theorem dX12_bestOf_106 : decode cX12_bestOf 106 = .ok (.goto 5, 3) := by decide +kernel
theorem dX12_bestOf_109 : decode cX12_bestOf 109 = .ok (.iload 5, 2) := by decide +kernel
theorem dX12_bestOf_111 : decode cX12_bestOf 111 = .ok (.istore 5, 2) := by decide +kernel
theorem dX12_bestOf_113 : decode cX12_bestOf 113 = .ok (.iinc 6 1, 3) := by decide +kernel
theorem dX12_bestOf_116 : decode cX12_bestOf 116 = .ok (.goto (-58), 3) := by decide +kernel
theorem dX12_bestOf_119 : decode cX12_bestOf 119 = .ok (.iload 4, 2) := by decide +kernel
theorem dX12_bestOf_121 : decode cX12_bestOf 121 = .ok (.ifCond .ge 12, 3) := by decide +kernel
theorem dX12_bestOf_124 : decode cX12_bestOf 124 = .ok (.aload_n 0, 1) := by decide +kernel
theorem dX12_bestOf_125 : decode cX12_bestOf 125 = .ok (.ldc 150, 2) := by decide +kernel
theorem dX12_bestOf_127 : decode cX12_bestOf 127 = .ok (.invokevirtual 53, 3) := by decide +kernel
theorem dX12_bestOf_130 : decode cX12_bestOf 130 = .ok (.goto 5, 3) := by decide +kernel
theorem dX12_bestOf_133 : decode cX12_bestOf 133 = .ok (.iload 4, 2) := by decide +kernel
theorem dX12_bestOf_135 : decode cX12_bestOf 135 = .ok (.ireturn, 1) := by decide +kernel
theorem dX12_row_0 : decode cX12_row 0 = .ok (.aload_n 0, 1) := by decide +kernel
theorem dX12_row_1 : decode cX12_row 1 = .ok (.iload_n 1, 1) := by decide +kernel
theorem dX12_row_2 : decode cX12_row 2 = .ok (.iconst 2, 1) := by decide +kernel
theorem dX12_row_3 : decode cX12_row 3 = .ok (.bipush 9, 2) := by decide +kernel
theorem dX12_row_5 : decode cX12_row 5 = .ok (.invokevirtual 154, 3) := by decide +kernel
theorem dX12_row_8 : decode cX12_row 8 = .ok (.ireturn, 1) := by decide +kernel
theorem dX12_kind_0 : decode cX12_kind 0 = .ok (.aload_n 0, 1) := by decide +kernel
theorem dX12_kind_1 : decode cX12_kind 1 = .ok (.iload_n 1, 1) := by decide +kernel
theorem dX12_kind_2 : decode cX12_kind 2 = .ok (.iconst 0, 1) := by decide +kernel
theorem dX12_kind_3 : decode cX12_kind 3 = .ok (.iconst 5, 1) := by decide +kernel
theorem dX12_kind_4 : decode cX12_kind 4 = .ok (.invokevirtual 154, 3) := by decide +kernel
theorem dX12_kind_7 : decode cX12_kind 7 = .ok (.ireturn, 1) := by decide +kernel
theorem dX12_shine_0 : decode cX12_shine 0 = .ok (.iload_n 1, 1) := by decide +kernel
theorem dX12_shine_1 : decode cX12_shine 1 = .ok (.iconst 1, 1) := by decide +kernel
theorem dX12_shine_2 : decode cX12_shine 2 = .ok (.bipush 60, 2) := by decide +kernel
theorem dX12_shine_4 : decode cX12_shine 4 = .ok (.invokestatic 45, 3) := by decide +kernel
theorem dX12_shine_7 : decode cX12_shine 7 = .ok (.ifCond .ne 10, 3) := by decide +kernel
theorem dX12_shine_10 : decode cX12_shine 10 = .ok (.aload_n 0, 1) := by decide +kernel
theorem dX12_shine_11 : decode cX12_shine 11 = .ok (.ldc 44, 2) := by decide +kernel
theorem dX12_shine_13 : decode cX12_shine 13 = .ok (.invokevirtual 53, 3) := by decide +kernel
theorem dX12_shine_16 : decode cX12_shine 16 = .ok (.ireturn, 1) := by decide +kernel
theorem dX12_shine_17 : decode cX12_shine 17 = .ok (.aload_n 0, 1) := by decide +kernel
theorem dX12_shine_18 : decode cX12_shine 18 = .ok (.iconst 1, 1) := by decide +kernel
theorem dX12_shine_19 : decode cX12_shine 19 = .ok (.aload_n 0, 1) := by decide +kernel
theorem dX12_shine_20 : decode cX12_shine 20 = .ok (.getfield 16, 3) := by decide +kernel
theorem dX12_shine_23 : decode cX12_shine 23 = .ok (.invokevirtual 143, 3) := by decide +kernel
theorem dX12_shine_26 : decode cX12_shine 26 = .ok (.iconst 0, 1) := by decide +kernel
theorem dX12_shine_27 : decode cX12_shine 27 = .ok (.istore_n 2, 1) := by decide +kernel
theorem dX12_shine_28 : decode cX12_shine 28 = .ok (.bipush 7, 2) := by decide +kernel
theorem dX12_shine_30 : decode cX12_shine 30 = .ok (.istore_n 3, 1) := by decide +kernel
theorem dX12_shine_31 : decode cX12_shine 31 = .ok (.iconst 0, 1) := by decide +kernel
theorem dX12_shine_32 : decode cX12_shine 32 = .ok (.istore 4, 2) := by decide +kernel
theorem dX12_shine_34 : decode cX12_shine 34 = .ok (.iload 4, 2) := by decide +kernel
theorem dX12_shine_36 : decode cX12_shine 36 = .ok (.bipush 10, 2) := by decide +kernel
theorem dX12_shine_38 : decode cX12_shine 38 = .ok (.if_icmp .ge 67, 3) := by decide +kernel
theorem dX12_shine_41 : decode cX12_shine 41 = .ok (.aload_n 0, 1) := by decide +kernel
theorem dX12_shine_42 : decode cX12_shine 42 = .ok (.getfield 7, 3) := by decide +kernel
theorem dX12_shine_45 : decode cX12_shine 45 = .ok (.iconst 4, 1) := by decide +kernel
theorem dX12_shine_46 : decode cX12_shine 46 = .ok (.iload 4, 2) := by decide +kernel
theorem dX12_shine_48 : decode cX12_shine 48 = .ok (.iastore, 1) := by decide +kernel
theorem dX12_shine_49 : decode cX12_shine 49 = .ok (.aload_n 0, 1) := by decide +kernel
theorem dX12_shine_50 : decode cX12_shine 50 = .ok (.iload_n 1, 1) := by decide +kernel
theorem dX12_shine_51 : decode cX12_shine 51 = .ok (.invokevirtual 140, 3) := by decide +kernel
theorem dX12_shine_54 : decode cX12_shine 54 = .ok (.aload_n 0, 1) := by decide +kernel
theorem dX12_shine_55 : decode cX12_shine 55 = .ok (.iconst 5, 1) := by decide +kernel
theorem dX12_shine_56 : decode cX12_shine 56 = .ok (.invokevirtual 79, 3) := by decide +kernel
theorem dX12_shine_59 : decode cX12_shine 59 = .ok (.invokestatic 157, 3) := by decide +kernel
theorem dX12_shine_62 : decode cX12_shine 62 = .ok (.istore 5, 2) := by decide +kernel
theorem dX12_shine_64 : decode cX12_shine 64 = .ok (.aload_n 0, 1) := by decide +kernel
theorem dX12_shine_65 : decode cX12_shine 65 = .ok (.iconst 0, 1) := by decide +kernel
theorem dX12_shine_66 : decode cX12_shine 66 = .ok (.aload_n 0, 1) := by decide +kernel
theorem dX12_shine_67 : decode cX12_shine 67 = .ok (.getfield 16, 3) := by decide +kernel
theorem dX12_shine_70 : decode cX12_shine 70 = .ok (.invokevirtual 143, 3) := by decide +kernel
theorem dX12_shine_73 : decode cX12_shine 73 = .ok (.iload 5, 2) := by decide +kernel
theorem dX12_shine_75 : decode cX12_shine 75 = .ok (.iload_n 3, 1) := by decide +kernel
theorem dX12_shine_76 : decode cX12_shine 76 = .ok (.if_icmp .ge 8, 3) := by decide +kernel
theorem dX12_shine_79 : decode cX12_shine 79 = .ok (.iload 4, 2) := by decide +kernel
theorem dX12_shine_81 : decode cX12_shine 81 = .ok (.goto 4, 3) := by decide +kernel
theorem dX12_shine_84 : decode cX12_shine 84 = .ok (.iload_n 2, 1) := by decide +kernel
theorem dX12_shine_85 : decode cX12_shine 85 = .ok (.istore_n 2, 1) := by decide +kernel
theorem dX12_shine_86 : decode cX12_shine 86 = .ok (.iload 5, 2) := by decide +kernel
theorem dX12_shine_88 : decode cX12_shine 88 = .ok (.iload_n 3, 1) := by decide +kernel
theorem dX12_shine_89 : decode cX12_shine 89 = .ok (.if_icmp .ge 8, 3) := by decide +kernel
theorem dX12_shine_92 : decode cX12_shine 92 = .ok (.iload 5, 2) := by decide +kernel
theorem dX12_shine_94 : decode cX12_shine 94 = .ok (.goto 4, 3) := by decide +kernel
theorem dX12_shine_97 : decode cX12_shine 97 = .ok (.iload_n 3, 1) := by decide +kernel
theorem dX12_shine_98 : decode cX12_shine 98 = .ok (.istore_n 3, 1) := by decide +kernel
theorem dX12_shine_99 : decode cX12_shine 99 = .ok (.iinc 4 1, 3) := by decide +kernel
theorem dX12_shine_102 : decode cX12_shine 102 = .ok (.goto (-68), 3) := by decide +kernel
theorem dX12_shine_105 : decode cX12_shine 105 = .ok (.iload_n 2, 1) := by decide +kernel
theorem dX12_shine_106 : decode cX12_shine 106 = .ok (.ireturn, 1) := by decide +kernel
theorem dX12_hour_0 : decode cX12_hour 0 = .ok (.iload_n 1, 1) := by decide +kernel
theorem dX12_hour_1 : decode cX12_hour 1 = .ok (.iconst 1, 1) := by decide +kernel
theorem dX12_hour_2 : decode cX12_hour 2 = .ok (.bipush 60, 2) := by decide +kernel
theorem dX12_hour_4 : decode cX12_hour 4 = .ok (.invokestatic 45, 3) := by decide +kernel
theorem dX12_hour_7 : decode cX12_hour 7 = .ok (.ifCond .ne 10, 3) := by decide +kernel
theorem dX12_hour_10 : decode cX12_hour 10 = .ok (.aload_n 0, 1) := by decide +kernel
theorem dX12_hour_11 : decode cX12_hour 11 = .ok (.ldc 44, 2) := by decide +kernel
theorem dX12_hour_13 : decode cX12_hour 13 = .ok (.invokevirtual 53, 3) := by decide +kernel
theorem dX12_hour_16 : decode cX12_hour 16 = .ok (.ireturn, 1) := by decide +kernel
theorem dX12_hour_17 : decode cX12_hour 17 = .ok (.aload_n 0, 1) := by decide +kernel
theorem dX12_hour_18 : decode cX12_hour 18 = .ok (.iconst 1, 1) := by decide +kernel
theorem dX12_hour_19 : decode cX12_hour 19 = .ok (.aload_n 0, 1) := by decide +kernel
theorem dX12_hour_20 : decode cX12_hour 20 = .ok (.getfield 16, 3) := by decide +kernel
theorem dX12_hour_23 : decode cX12_hour 23 = .ok (.invokevirtual 143, 3) := by decide +kernel
theorem dX12_hour_26 : decode cX12_hour 26 = .ok (.iconst (-1), 1) := by decide +kernel
theorem dX12_hour_27 : decode cX12_hour 27 = .ok (.istore_n 2, 1) := by decide +kernel
theorem dX12_hour_28 : decode cX12_hour 28 = .ok (.iconst 0, 1) := by decide +kernel
theorem dX12_hour_29 : decode cX12_hour 29 = .ok (.istore_n 3, 1) := by decide +kernel
theorem dX12_hour_30 : decode cX12_hour 30 = .ok (.iconst 0, 1) := by decide +kernel
theorem dX12_hour_31 : decode cX12_hour 31 = .ok (.istore 4, 2) := by decide +kernel
theorem dX12_hour_33 : decode cX12_hour 33 = .ok (.iload 4, 2) := by decide +kernel
theorem dX12_hour_35 : decode cX12_hour 35 = .ok (.bipush 12, 2) := by decide +kernel
theorem dX12_hour_37 : decode cX12_hour 37 = .ok (.if_icmp .ge 83, 3) := by decide +kernel
theorem dX12_hour_40 : decode cX12_hour 40 = .ok (.aload_n 0, 1) := by decide +kernel
theorem dX12_hour_41 : decode cX12_hour 41 = .ok (.getfield 7, 3) := by decide +kernel
theorem dX12_hour_44 : decode cX12_hour 44 = .ok (.iconst 3, 1) := by decide +kernel
theorem dX12_hour_45 : decode cX12_hour 45 = .ok (.dup2, 1) := by decide +kernel
theorem dX12_hour_46 : decode cX12_hour 46 = .ok (.iaload, 1) := by decide +kernel
theorem dX12_hour_47 : decode cX12_hour 47 = .ok (.iconst 1, 1) := by decide +kernel
theorem dX12_hour_48 : decode cX12_hour 48 = .ok (.iload 4, 2) := by decide +kernel
theorem dX12_hour_50 : decode cX12_hour 50 = .ok (.ishl, 1) := by decide +kernel
theorem dX12_hour_51 : decode cX12_hour 51 = .ok (.ixor, 1) := by decide +kernel
theorem dX12_hour_52 : decode cX12_hour 52 = .ok (.iastore, 1) := by decide +kernel
theorem dX12_hour_53 : decode cX12_hour 53 = .ok (.aload_n 0, 1) := by decide +kernel
theorem dX12_hour_54 : decode cX12_hour 54 = .ok (.iload_n 1, 1) := by decide +kernel
theorem dX12_hour_55 : decode cX12_hour 55 = .ok (.invokevirtual 140, 3) := by decide +kernel
theorem dX12_hour_58 : decode cX12_hour 58 = .ok (.aload_n 0, 1) := by decide +kernel
theorem dX12_hour_59 : decode cX12_hour 59 = .ok (.invokevirtual 160, 3) := by decide +kernel
theorem dX12_hour_62 : decode cX12_hour 62 = .ok (.istore 5, 2) := by decide +kernel
theorem dX12_hour_64 : decode cX12_hour 64 = .ok (.aload_n 0, 1) := by decide +kernel
theorem dX12_hour_65 : decode cX12_hour 65 = .ok (.iconst 0, 1) := by decide +kernel
theorem dX12_hour_66 : decode cX12_hour 66 = .ok (.aload_n 0, 1) := by decide +kernel
theorem dX12_hour_67 : decode cX12_hour 67 = .ok (.getfield 16, 3) := by decide +kernel
theorem dX12_hour_70 : decode cX12_hour 70 = .ok (.invokevirtual 143, 3) := by decide +kernel
theorem dX12_hour_73 : decode cX12_hour 73 = .ok (.iload_n 2, 1) := by decide +kernel
theorem dX12_hour_74 : decode cX12_hour 74 = .ok (.ifCond .lt 9, 3) := by decide +kernel
theorem dX12_hour_77 : decode cX12_hour 77 = .ok (.iload 5, 2) := by decide +kernel
theorem dX12_hour_79 : decode cX12_hour 79 = .ok (.iload_n 3, 1) := by decide +kernel
theorem dX12_hour_80 : decode cX12_hour 80 = .ok (.if_icmp .ge 7, 3) := by decide +kernel
theorem dX12_hour_83 : decode cX12_hour 83 = .ok (.iconst 1, 1) := by decide +kernel
theorem dX12_hour_84 : decode cX12_hour 84 = .ok (.goto 4, 3) := by decide +kernel
theorem dX12_hour_87 : decode cX12_hour 87 = .ok (.iconst 0, 1) := by decide +kernel
theorem dX12_hour_88 : decode cX12_hour 88 = .ok (.istore 6, 2) := by decide +kernel
theorem dX12_hour_90 : decode cX12_hour 90 = .ok (.iload 6, 2) := by decide +kernel
theorem dX12_hour_92 : decode cX12_hour 92 = .ok (.ifCond .eq 8, 3) := by decide +kernel
theorem dX12_hour_95 : decode cX12_hour 95 = .ok (.iload 4, 2) := by decide +kernel
theorem dX12_hour_97 : decode cX12_hour 97 = .ok (.goto 4, 3) := by decide +kernel
theorem dX12_hour_100 : decode cX12_hour 100 = .ok (.iload_n 2, 1) := by decide +kernel
theorem dX12_hour_101 : decode cX12_hour 101 = .ok (.istore_n 2, 1) := by decide +kernel
theorem dX12_hour_102 : decode cX12_hour 102 = .ok (.iload 6, 2) := by decide +kernel
theorem dX12_hour_104 : decode cX12_hour 104 = .ok (.ifCond .eq 8, 3) := by decide +kernel
theorem dX12_hour_107 : decode cX12_hour 107 = .ok (.iload 5, 2) := by decide +kernel
theorem dX12_hour_109 : decode cX12_hour 109 = .ok (.goto 4, 3) := by decide +kernel
theorem dX12_hour_112 : decode cX12_hour 112 = .ok (.iload_n 3, 1) := by decide +kernel
theorem dX12_hour_113 : decode cX12_hour 113 = .ok (.istore_n 3, 1) := by decide +kernel
theorem dX12_hour_114 : decode cX12_hour 114 = .ok (.iinc 4 1, 3) := by decide +kernel
theorem dX12_hour_117 : decode cX12_hour 117 = .ok (.goto (-84), 3) := by decide +kernel
theorem dX12_hour_120 : decode cX12_hour 120 = .ok (.iload_n 2, 1) := by decide +kernel
theorem dX12_hour_121 : decode cX12_hour 121 = .ok (.ireturn, 1) := by decide +kernel
theorem dX12_site_0 : decode cX12_site 0 = .ok (.iload_n 1, 1) := by decide +kernel
theorem dX12_site_1 : decode cX12_site 1 = .ok (.iconst 1, 1) := by decide +kernel
theorem dX12_site_2 : decode cX12_site 2 = .ok (.bipush 40, 2) := by decide +kernel
theorem dX12_site_4 : decode cX12_site 4 = .ok (.invokestatic 45, 3) := by decide +kernel
theorem dX12_site_7 : decode cX12_site 7 = .ok (.ifCond .ne 10, 3) := by decide +kernel
theorem dX12_site_10 : decode cX12_site 10 = .ok (.aload_n 0, 1) := by decide +kernel
theorem dX12_site_11 : decode cX12_site 11 = .ok (.ldc 44, 2) := by decide +kernel
theorem dX12_site_13 : decode cX12_site 13 = .ok (.invokevirtual 53, 3) := by decide +kernel
theorem dX12_site_16 : decode cX12_site 16 = .ok (.ireturn, 1) := by decide +kernel
theorem dX12_site_17 : decode cX12_site 17 = .ok (.aload_n 0, 1) := by decide +kernel
theorem dX12_site_18 : decode cX12_site 18 = .ok (.iconst 1, 1) := by decide +kernel
theorem dX12_site_19 : decode cX12_site 19 = .ok (.aload_n 0, 1) := by decide +kernel
theorem dX12_site_20 : decode cX12_site 20 = .ok (.getfield 16, 3) := by decide +kernel
theorem dX12_site_23 : decode cX12_site 23 = .ok (.invokevirtual 143, 3) := by decide +kernel
theorem dX12_site_26 : decode cX12_site 26 = .ok (.iconst (-1), 1) := by decide +kernel
theorem dX12_site_27 : decode cX12_site 27 = .ok (.istore_n 2, 1) := by decide +kernel
theorem dX12_site_28 : decode cX12_site 28 = .ok (.iconst 0, 1) := by decide +kernel
theorem dX12_site_29 : decode cX12_site 29 = .ok (.istore_n 3, 1) := by decide +kernel
theorem dX12_site_30 : decode cX12_site 30 = .ok (.iconst 0, 1) := by decide +kernel
theorem dX12_site_31 : decode cX12_site 31 = .ok (.istore 4, 2) := by decide +kernel
theorem dX12_site_33 : decode cX12_site 33 = .ok (.iload 4, 2) := by decide +kernel
theorem dX12_site_35 : decode cX12_site 35 = .ok (.sipush 200, 3) := by decide +kernel
theorem dX12_site_38 : decode cX12_site 38 = .ok (.if_icmp .ge 88, 3) := by decide +kernel
theorem dX12_site_41 : decode cX12_site 41 = .ok (.aload_n 0, 1) := by decide +kernel
theorem dX12_site_42 : decode cX12_site 42 = .ok (.iload 4, 2) := by decide +kernel
theorem dX12_site_44 : decode cX12_site 44 = .ok (.invokevirtual 61, 3) := by decide +kernel
theorem dX12_site_47 : decode cX12_site 47 = .ok (.aload_n 0, 1) := by decide +kernel
theorem dX12_site_48 : decode cX12_site 48 = .ok (.iload_n 1, 1) := by decide +kernel
theorem dX12_site_49 : decode cX12_site 49 = .ok (.invokevirtual 140, 3) := by decide +kernel
theorem dX12_site_52 : decode cX12_site 52 = .ok (.ldc 163, 2) := by decide +kernel
theorem dX12_site_54 : decode cX12_site 54 = .ok (.aload_n 0, 1) := by decide +kernel
theorem dX12_site_55 : decode cX12_site 55 = .ok (.iconst 5, 1) := by decide +kernel
theorem dX12_site_56 : decode cX12_site 56 = .ok (.invokevirtual 79, 3) := by decide +kernel
theorem dX12_site_59 : decode cX12_site 59 = .ok (.invokestatic 157, 3) := by decide +kernel
theorem dX12_site_62 : decode cX12_site 62 = .ok (.imul, 1) := by decide +kernel
theorem dX12_site_63 : decode cX12_site 63 = .ok (.aload_n 0, 1) := by decide +kernel
theorem dX12_site_64 : decode cX12_site 64 = .ok (.invokevirtual 160, 3) := by decide +kernel
theorem dX12_site_67 : decode cX12_site 67 = .ok (.iadd, 1) := by decide +kernel
theorem dX12_site_68 : decode cX12_site 68 = .ok (.istore 5, 2) := by decide +kernel
theorem dX12_site_70 : decode cX12_site 70 = .ok (.aload_n 0, 1) := by decide +kernel
theorem dX12_site_71 : decode cX12_site 71 = .ok (.iconst 0, 1) := by decide +kernel
theorem dX12_site_72 : decode cX12_site 72 = .ok (.aload_n 0, 1) := by decide +kernel
theorem dX12_site_73 : decode cX12_site 73 = .ok (.getfield 16, 3) := by decide +kernel
theorem dX12_site_76 : decode cX12_site 76 = .ok (.invokevirtual 143, 3) := by decide +kernel
theorem dX12_site_79 : decode cX12_site 79 = .ok (.iload_n 2, 1) := by decide +kernel
theorem dX12_site_80 : decode cX12_site 80 = .ok (.ifCond .lt 9, 3) := by decide +kernel
theorem dX12_site_83 : decode cX12_site 83 = .ok (.iload 5, 2) := by decide +kernel
theorem dX12_site_85 : decode cX12_site 85 = .ok (.iload_n 3, 1) := by decide +kernel
theorem dX12_site_86 : decode cX12_site 86 = .ok (.if_icmp .ge 7, 3) := by decide +kernel
theorem dX12_site_89 : decode cX12_site 89 = .ok (.iconst 1, 1) := by decide +kernel
theorem dX12_site_90 : decode cX12_site 90 = .ok (.goto 4, 3) := by decide +kernel
theorem dX12_site_93 : decode cX12_site 93 = .ok (.iconst 0, 1) := by decide +kernel
theorem dX12_site_94 : decode cX12_site 94 = .ok (.istore 6, 2) := by decide +kernel
theorem dX12_site_96 : decode cX12_site 96 = .ok (.iload 6, 2) := by decide +kernel
theorem dX12_site_98 : decode cX12_site 98 = .ok (.ifCond .eq 8, 3) := by decide +kernel
theorem dX12_site_101 : decode cX12_site 101 = .ok (.iload 4, 2) := by decide +kernel
theorem dX12_site_103 : decode cX12_site 103 = .ok (.goto 4, 3) := by decide +kernel
theorem dX12_site_106 : decode cX12_site 106 = .ok (.iload_n 2, 1) := by decide +kernel
theorem dX12_site_107 : decode cX12_site 107 = .ok (.istore_n 2, 1) := by decide +kernel
theorem dX12_site_108 : decode cX12_site 108 = .ok (.iload 6, 2) := by decide +kernel
theorem dX12_site_110 : decode cX12_site 110 = .ok (.ifCond .eq 8, 3) := by decide +kernel
theorem dX12_site_113 : decode cX12_site 113 = .ok (.iload 5, 2) := by decide +kernel
theorem dX12_site_115 : decode cX12_site 115 = .ok (.goto 4, 3) := by decide +kernel
theorem dX12_site_118 : decode cX12_site 118 = .ok (.iload_n 3, 1) := by decide +kernel
theorem dX12_site_119 : decode cX12_site 119 = .ok (.istore_n 3, 1) := by decide +kernel
theorem dX12_site_120 : decode cX12_site 120 = .ok (.iinc 4 1, 3) := by decide +kernel
theorem dX12_site_123 : decode cX12_site 123 = .ok (.goto (-90), 3) := by decide +kernel
theorem dX12_site_126 : decode cX12_site 126 = .ok (.iload_n 2, 1) := by decide +kernel
theorem dX12_site_127 : decode cX12_site 127 = .ok (.ireturn, 1) := by decide +kernel
theorem dX12_nearest_0 : decode cX12_nearest 0 = .ok (.iload_n 1, 1) := by decide +kernel
theorem dX12_nearest_1 : decode cX12_nearest 1 = .ok (.iconst 0, 1) := by decide +kernel
theorem dX12_nearest_2 : decode cX12_nearest 2 = .ok (.bipush 100, 2) := by decide +kernel
theorem dX12_nearest_4 : decode cX12_nearest 4 = .ok (.invokestatic 45, 3) := by decide +kernel
theorem dX12_nearest_7 : decode cX12_nearest 7 = .ok (.ifCond .ne 10, 3) := by decide +kernel
theorem dX12_nearest_10 : decode cX12_nearest 10 = .ok (.aload_n 0, 1) := by decide +kernel
theorem dX12_nearest_11 : decode cX12_nearest 11 = .ok (.ldc 44, 2) := by decide +kernel
theorem dX12_nearest_13 : decode cX12_nearest 13 = .ok (.invokevirtual 53, 3) := by decide +kernel
theorem dX12_nearest_16 : decode cX12_nearest 16 = .ok (.ireturn, 1) := by decide +kernel
theorem dX12_nearest_17 : decode cX12_nearest 17 = .ok (.aload_n 0, 1) := by decide +kernel
theorem dX12_nearest_18 : decode cX12_nearest 18 = .ok (.iconst 1, 1) := by decide +kernel
theorem dX12_nearest_19 : decode cX12_nearest 19 = .ok (.aload_n 0, 1) := by decide +kernel
theorem dX12_nearest_20 : decode cX12_nearest 20 = .ok (.getfield 16, 3) := by decide +kernel
theorem dX12_nearest_23 : decode cX12_nearest 23 = .ok (.invokevirtual 143, 3) := by decide +kernel
theorem dX12_nearest_26 : decode cX12_nearest 26 = .ok (.aload_n 0, 1) := by decide +kernel
theorem dX12_nearest_27 : decode cX12_nearest 27 = .ok (.iload_n 1, 1) := by decide +kernel
theorem dX12_nearest_28 : decode cX12_nearest 28 = .ok (.invokevirtual 140, 3) := by decide +kernel
theorem dX12_nearest_31 : decode cX12_nearest 31 = .ok (.iconst (-1), 1) := by decide +kernel
theorem dX12_nearest_32 : decode cX12_nearest 32 = .ok (.istore_n 2, 1) := by decide +kernel
theorem dX12_nearest_33 : decode cX12_nearest 33 = .ok (.iconst 0, 1) := by decide +kernel
theorem dX12_nearest_34 : decode cX12_nearest 34 = .ok (.istore_n 3, 1) := by decide +kernel
theorem dX12_nearest_35 : decode cX12_nearest 35 = .ok (.iload_n 3, 1) := by decide +kernel
theorem dX12_nearest_36 : decode cX12_nearest 36 = .ok (.aload_n 0, 1) := by decide +kernel
theorem dX12_nearest_37 : decode cX12_nearest 37 = .ok (.getfield 7, 3) := by decide +kernel
theorem dX12_nearest_40 : decode cX12_nearest 40 = .ok (.iconst 5, 1) := by decide +kernel
theorem dX12_nearest_41 : decode cX12_nearest 41 = .ok (.iaload, 1) := by decide +kernel
theorem dX12_nearest_42 : decode cX12_nearest 42 = .ok (.if_icmp .ge 34, 3) := by decide +kernel
theorem dX12_nearest_45 : decode cX12_nearest 45 = .ok (.iload_n 2, 1) := by decide +kernel
theorem dX12_nearest_46 : decode cX12_nearest 46 = .ok (.ifCond .lt 18, 3) := by decide +kernel
theorem dX12_nearest_49 : decode cX12_nearest 49 = .ok (.aload_n 0, 1) := by decide +kernel
theorem dX12_nearest_50 : decode cX12_nearest 50 = .ok (.iload_n 3, 1) := by decide +kernel
theorem dX12_nearest_51 : decode cX12_nearest 51 = .ok (.iconst 4, 1) := by decide +kernel
theorem dX12_nearest_52 : decode cX12_nearest 52 = .ok (.invokevirtual 69, 3) := by decide +kernel
theorem dX12_nearest_55 : decode cX12_nearest 55 = .ok (.aload_n 0, 1) := by decide +kernel
theorem dX12_nearest_56 : decode cX12_nearest 56 = .ok (.iload_n 2, 1) := by decide +kernel
theorem dX12_nearest_57 : decode cX12_nearest 57 = .ok (.iconst 4, 1) := by decide +kernel
theorem dX12_nearest_58 : decode cX12_nearest 58 = .ok (.invokevirtual 69, 3) := by decide +kernel
theorem dX12_nearest_61 : decode cX12_nearest 61 = .ok (.if_icmp .ge 7, 3) := by decide +kernel
theorem dX12_nearest_64 : decode cX12_nearest 64 = .ok (.iload_n 3, 1) := by decide +kernel
theorem dX12_nearest_65 : decode cX12_nearest 65 = .ok (.goto 4, 3) := by decide +kernel
theorem dX12_nearest_68 : decode cX12_nearest 68 = .ok (.iload_n 2, 1) := by decide +kernel
theorem dX12_nearest_69 : decode cX12_nearest 69 = .ok (.istore_n 2, 1) := by decide +kernel
theorem dX12_nearest_70 : decode cX12_nearest 70 = .ok (.iinc 3 1, 3) := by decide +kernel
theorem dX12_nearest_73 : decode cX12_nearest 73 = .ok (.goto (-38), 3) := by decide +kernel
theorem dX12_nearest_76 : decode cX12_nearest 76 = .ok (.aload_n 0, 1) := by decide +kernel
theorem dX12_nearest_77 : decode cX12_nearest 77 = .ok (.iconst 0, 1) := by decide +kernel
theorem dX12_nearest_78 : decode cX12_nearest 78 = .ok (.aload_n 0, 1) := by decide +kernel
theorem dX12_nearest_79 : decode cX12_nearest 79 = .ok (.getfield 16, 3) := by decide +kernel
theorem dX12_nearest_82 : decode cX12_nearest 82 = .ok (.invokevirtual 143, 3) := by decide +kernel
theorem dX12_nearest_85 : decode cX12_nearest 85 = .ok (.iload_n 2, 1) := by decide +kernel
theorem dX12_nearest_86 : decode cX12_nearest 86 = .ok (.ifCond .ge 12, 3) := by decide +kernel
theorem dX12_nearest_89 : decode cX12_nearest 89 = .ok (.aload_n 0, 1) := by decide +kernel
theorem dX12_nearest_90 : decode cX12_nearest 90 = .ok (.ldc 150, 2) := by decide +kernel
theorem dX12_nearest_92 : decode cX12_nearest 92 = .ok (.invokevirtual 53, 3) := by decide +kernel
theorem dX12_nearest_95 : decode cX12_nearest 95 = .ok (.goto 4, 3) := by decide +kernel
theorem dX12_nearest_98 : decode cX12_nearest 98 = .ok (.iload_n 2, 1) := by decide +kernel
theorem dX12_nearest_99 : decode cX12_nearest 99 = .ok (.ireturn, 1) := by decide +kernel
theorem dX12_feed_0 : decode cX12_feed 0 = .ok (.iload_n 2, 1) := by decide +kernel
theorem dX12_feed_1 : decode cX12_feed 1 = .ok (.iconst 1, 1) := by decide +kernel
theorem dX12_feed_2 : decode cX12_feed 2 = .ok (.iconst 4, 1) := by decide +kernel
theorem dX12_feed_3 : decode cX12_feed 3 = .ok (.invokestatic 45, 3) := by decide +kernel
theorem dX12_feed_6 : decode cX12_feed 6 = .ok (.ifCond .ne 10, 3) := by decide +kernel
theorem dX12_feed_9 : decode cX12_feed 9 = .ok (.aload_n 0, 1) := by decide +kernel
theorem dX12_feed_10 : decode cX12_feed 10 = .ok (.ldc 44, 2) := by decide +kernel
theorem dX12_feed_12 : decode cX12_feed 12 = .ok (.invokevirtual 53, 3) := by decide +kernel
theorem dX12_feed_15 : decode cX12_feed 15 = .ok (.ireturn, 1) := by decide +kernel
theorem dX12_feed_16 : decode cX12_feed 16 = .ok (.aload_n 0, 1) := by decide +kernel
theorem dX12_feed_17 : decode cX12_feed 17 = .ok (.getfield 164, 3) := by decide +kernel
theorem dX12_feed_20 : decode cX12_feed 20 = .ok (.iload_n 2, 1) := by decide +kernel
theorem dX12_feed_21 : decode cX12_feed 21 = .ok (.iadd, 1) := by decide +kernel
theorem dX12_feed_22 : decode cX12_feed 22 = .ok (.bipush 120, 2) := by decide +kernel
theorem dX12_feed_24 : decode cX12_feed 24 = .ok (.if_icmp .le 10, 3) := by decide +kernel
theorem dX12_feed_27 : decode cX12_feed 27 = .ok (.aload_n 0, 1) := by decide +kernel
theorem dX12_feed_28 : decode cX12_feed 28 = .ok (.ldc 95, 2) := by decide +kernel
theorem dX12_feed_30 : decode cX12_feed 30 = .ok (.invokevirtual 53, 3) := by decide +kernel
theorem dX12_feed_33 : decode cX12_feed 33 = .ok (.ireturn, 1) := by decide +kernel
theorem dX12_feed_34 : decode cX12_feed 34 = .ok (.iload_n 2, 1) := by decide +kernel
theorem dX12_feed_35 : decode cX12_feed 35 = .ok (.iconst 1, 1) := by decide +kernel
theorem dX12_feed_36 : decode cX12_feed 36 = .ok (.isub, 1) := by decide +kernel
theorem dX12_feed_37 : decode cX12_feed 37 = .ok (.istore_n 3, 1) := by decide +kernel
theorem dX12_feed_38 : decode cX12_feed 38 = .ok (.iload_n 3, 1) := by decide +kernel
theorem dX12_feed_39 : decode cX12_feed 39 = .ok (.ifCond .lt 38, 3) := by decide +kernel
theorem dX12_feed_42 : decode cX12_feed 42 = .ok (.aload_n 0, 1) := by decide +kernel
theorem dX12_feed_43 : decode cX12_feed 43 = .ok (.getfield 22, 3) := by decide +kernel
theorem dX12_feed_46 : decode cX12_feed 46 = .ok (.aload_n 0, 1) := by decide +kernel
theorem dX12_feed_47 : decode cX12_feed 47 = .ok (.getfield 164, 3) := by decide +kernel
theorem dX12_feed_50 : decode cX12_feed 50 = .ok (.iload_n 1, 1) := by decide +kernel
theorem dX12_feed_51 : decode cX12_feed 51 = .ok (.bipush 8, 2) := by decide +kernel
theorem dX12_feed_53 : decode cX12_feed 53 = .ok (.iload_n 3, 1) := by decide +kernel
theorem dX12_feed_54 : decode cX12_feed 54 = .ok (.imul, 1) := by decide +kernel
theorem dX12_feed_55 : decode cX12_feed 55 = .ok (.ishr, 1) := by decide +kernel
theorem dX12_feed_56 : decode cX12_feed 56 = .ok (.sipush 255, 3) := by decide +kernel
theorem dX12_feed_59 : decode cX12_feed 59 = .ok (.iand, 1) := by decide +kernel
theorem dX12_feed_60 : decode cX12_feed 60 = .ok (.iastore, 1) := by decide +kernel
theorem dX12_feed_61 : decode cX12_feed 61 = .ok (.aload_n 0, 1) := by decide +kernel
theorem dX12_feed_62 : decode cX12_feed 62 = .ok (.dup, 1) := by decide +kernel
theorem dX12_feed_63 : decode cX12_feed 63 = .ok (.getfield 164, 3) := by decide +kernel
theorem dX12_feed_66 : decode cX12_feed 66 = .ok (.iconst 1, 1) := by decide +kernel
theorem dX12_feed_67 : decode cX12_feed 67 = .ok (.iadd, 1) := by decide +kernel
theorem dX12_feed_68 : decode cX12_feed 68 = .ok (.putfield 164, 3) := by decide +kernel
theorem dX12_feed_71 : decode cX12_feed 71 = .ok (.iinc 3 (-1), 3) := by decide +kernel
theorem dX12_feed_74 : decode cX12_feed 74 = .ok (.goto (-36), 3) := by decide +kernel
theorem dX12_feed_77 : decode cX12_feed 77 = .ok (.aload_n 0, 1) := by decide +kernel
theorem dX12_feed_78 : decode cX12_feed 78 = .ok (.getfield 164, 3) := by decide +kernel
theorem dX12_feed_81 : decode cX12_feed 81 = .ok (.ireturn, 1) := by decide +kernel
theorem dX12_wipe_0 : decode cX12_wipe 0 = .ok (.aload_n 0, 1) := by decide +kernel
theorem dX12_wipe_1 : decode cX12_wipe 1 = .ok (.getfield 164, 3) := by decide +kernel
theorem dX12_wipe_4 : decode cX12_wipe 4 = .ok (.istore_n 1, 1) := by decide +kernel
theorem dX12_wipe_5 : decode cX12_wipe 5 = .ok (.aload_n 0, 1) := by decide +kernel
theorem dX12_wipe_6 : decode cX12_wipe 6 = .ok (.iconst 0, 1) := by decide +kernel
theorem dX12_wipe_7 : decode cX12_wipe 7 = .ok (.putfield 164, 3) := by decide +kernel
theorem dX12_wipe_10 : decode cX12_wipe 10 = .ok (.iload_n 1, 1) := by decide +kernel
theorem dX12_wipe_11 : decode cX12_wipe 11 = .ok (.ireturn, 1) := by decide +kernel
theorem dX12_byteAt_0 : decode cX12_byteAt 0 = .ok (.iload_n 1, 1) := by decide +kernel
theorem dX12_byteAt_1 : decode cX12_byteAt 1 = .ok (.aload_n 0, 1) := by decide +kernel
theorem dX12_byteAt_2 : decode cX12_byteAt 2 = .ok (.getfield 164, 3) := by decide +kernel
theorem dX12_byteAt_5 : decode cX12_byteAt 5 = .ok (.if_icmp .ge 12, 3) := by decide +kernel
theorem dX12_byteAt_8 : decode cX12_byteAt 8 = .ok (.aload_n 0, 1) := by decide +kernel
theorem dX12_byteAt_9 : decode cX12_byteAt 9 = .ok (.getfield 22, 3) := by decide +kernel
theorem dX12_byteAt_12 : decode cX12_byteAt 12 = .ok (.iload_n 1, 1) := by decide +kernel
theorem dX12_byteAt_13 : decode cX12_byteAt 13 = .ok (.iaload, 1) := by decide +kernel
theorem dX12_byteAt_14 : decode cX12_byteAt 14 = .ok (.goto 4, 3) := by decide +kernel
theorem dX12_byteAt_17 : decode cX12_byteAt 17 = .ok (.iconst (-1), 1) := by decide +kernel
theorem dX12_byteAt_18 : decode cX12_byteAt 18 = .ok (.ireturn, 1) := by decide +kernel
theorem dX12_isLetter_0 : decode cX12_isLetter 0 = .ok (.iload_n 0, 1) := by decide +kernel
theorem dX12_isLetter_1 : decode cX12_isLetter 1 = .ok (.bipush 97, 2) := by decide +kernel
theorem dX12_isLetter_3 : decode cX12_isLetter 3 = .ok (.bipush 122, 2) := by decide +kernel
theorem dX12_isLetter_5 : decode cX12_isLetter 5 = .ok (.invokestatic 45, 3) := by decide +kernel
theorem dX12_isLetter_8 : decode cX12_isLetter 8 = .ok (.ireturn, 1) := by decide +kernel
theorem dX12_isDigit_0 : decode cX12_isDigit 0 = .ok (.iload_n 0, 1) := by decide +kernel
theorem dX12_isDigit_1 : decode cX12_isDigit 1 = .ok (.bipush 48, 2) := by decide +kernel
theorem dX12_isDigit_3 : decode cX12_isDigit 3 = .ok (.bipush 57, 2) := by decide +kernel
theorem dX12_isDigit_5 : decode cX12_isDigit 5 = .ok (.invokestatic 45, 3) := by decide +kernel
theorem dX12_isDigit_8 : decode cX12_isDigit 8 = .ok (.ireturn, 1) := by decide +kernel
theorem dX12_advance_0 : decode cX12_advance 0 = .ok (.aload_n 0, 1) := by decide +kernel
theorem dX12_advance_1 : decode cX12_advance 1 = .ok (.aload_n 0, 1) := by decide +kernel
theorem dX12_advance_2 : decode cX12_advance 2 = .ok (.getfield 168, 3) := by decide +kernel
theorem dX12_advance_5 : decode cX12_advance 5 = .ok (.putfield 171, 3) := by decide +kernel
theorem dX12_advance_8 : decode cX12_advance 8 = .ok (.aload_n 0, 1) := by decide +kernel
theorem dX12_advance_9 : decode cX12_advance 9 = .ok (.aload_n 0, 1) := by decide +kernel
theorem dX12_advance_10 : decode cX12_advance 10 = .ok (.getfield 171, 3) := by decide +kernel
theorem dX12_advance_13 : decode cX12_advance 13 = .ok (.invokevirtual 174, 3) := by decide +kernel
theorem dX12_advance_16 : decode cX12_advance 16 = .ok (.bipush 32, 2) := by decide +kernel
theorem dX12_advance_18 : decode cX12_advance 18 = .ok (.if_icmp .ne 16, 3) := by decide +kernel
theorem dX12_advance_21 : decode cX12_advance 21 = .ok (.aload_n 0, 1) := by decide +kernel
theorem dX12_advance_22 : decode cX12_advance 22 = .ok (.dup, 1) := by decide +kernel
theorem dX12_advance_23 : decode cX12_advance 23 = .ok (.getfield 171, 3) := by decide +kernel
theorem dX12_advance_26 : decode cX12_advance 26 = .ok (.iconst 1, 1) := by decide +kernel
theorem dX12_advance_27 : decode cX12_advance 27 = .ok (.iadd, 1) := by decide +kernel
theorem dX12_advance_28 : decode cX12_advance 28 = .ok (.putfield 171, 3) := by decide +kernel
theorem dX12_advance_31 : decode cX12_advance 31 = .ok (.goto (-23), 3) := by decide +kernel
theorem dX12_advance_34 : decode cX12_advance 34 = .ok (.aload_n 0, 1) := by decide +kernel
theorem dX12_advance_35 : decode cX12_advance 35 = .ok (.aload_n 0, 1) := by decide +kernel
theorem dX12_advance_36 : decode cX12_advance 36 = .ok (.getfield 171, 3) := by decide +kernel
theorem dX12_advance_39 : decode cX12_advance 39 = .ok (.putfield 168, 3) := by decide +kernel
theorem dX12_advance_42 : decode cX12_advance 42 = .ok (.aload_n 0, 1) := by decide +kernel
theorem dX12_advance_43 : decode cX12_advance 43 = .ok (.aload_n 0, 1) := by decide +kernel
theorem dX12_advance_44 : decode cX12_advance 44 = .ok (.getfield 171, 3) := by decide +kernel
theorem dX12_advance_47 : decode cX12_advance 47 = .ok (.invokevirtual 174, 3) := by decide +kernel
theorem dX12_advance_50 : decode cX12_advance 50 = .ok (.istore_n 1, 1) := by decide +kernel
theorem dX12_advance_51 : decode cX12_advance 51 = .ok (.aload_n 0, 1) := by decide +kernel
theorem dX12_advance_52 : decode cX12_advance 52 = .ok (.iload_n 1, 1) := by decide +kernel
theorem dX12_advance_53 : decode cX12_advance 53 = .ok (.ifCond .ge 7, 3) := by decide +kernel
theorem dX12_advance_56 : decode cX12_advance 56 = .ok (.iconst 0, 1) := by decide +kernel
theorem dX12_advance_57 : decode cX12_advance 57 = .ok (.goto 26, 3) := by decide +kernel
theorem dX12_advance_60 : decode cX12_advance 60 = .ok (.iload_n 1, 1) := by decide +kernel
theorem dX12_advance_61 : decode cX12_advance 61 = .ok (.invokestatic 177, 3) := by decide +kernel
theorem dX12_advance_64 : decode cX12_advance 64 = .ok (.ifCond .eq 7, 3) := by decide +kernel
theorem dX12_advance_67 : decode cX12_advance 67 = .ok (.iconst 1, 1) := by decide +kernel
theorem dX12_advance_68 : decode cX12_advance 68 = .ok (.goto 15, 3) := by decide +kernel
theorem dX12_advance_71 : decode cX12_advance 71 = .ok (.iload_n 1, 1) := by decide +kernel
theorem dX12_advance_72 : decode cX12_advance 72 = .ok (.invokestatic 180, 3) := by decide +kernel
theorem dX12_advance_75 : decode cX12_advance 75 = .ok (.ifCond .eq 7, 3) := by decide +kernel
theorem dX12_advance_78 : decode cX12_advance 78 = .ok (.iconst 2, 1) := by decide +kernel
theorem dX12_advance_79 : decode cX12_advance 79 = .ok (.goto 4, 3) := by decide +kernel
theorem dX12_advance_82 : decode cX12_advance 82 = .ok (.iconst 3, 1) := by decide +kernel
theorem dX12_advance_83 : decode cX12_advance 83 = .ok (.putfield 183, 3) := by decide +kernel
theorem dX12_advance_86 : decode cX12_advance 86 = .ok (.aload_n 0, 1) := by decide +kernel
theorem dX12_advance_87 : decode cX12_advance 87 = .ok (.lconst 0, 1) := by decide +kernel
theorem dX12_advance_88 : decode cX12_advance 88 = .ok (.putfield 186, 3) := by decide +kernel
theorem dX12_advance_91 : decode cX12_advance 91 = .ok (.aload_n 0, 1) := by decide +kernel
theorem dX12_advance_92 : decode cX12_advance 92 = .ok (.aload_n 0, 1) := by decide +kernel
theorem dX12_advance_93 : decode cX12_advance 93 = .ok (.getfield 183, 3) := by decide +kernel
theorem dX12_advance_96 : decode cX12_advance 96 = .ok (.iconst 2, 1) := by decide +kernel
theorem dX12_advance_97 : decode cX12_advance 97 = .ok (.if_icmp .ne 7, 3) := by decide +kernel
theorem dX12_advance_100 : decode cX12_advance 100 = .ok (.iconst 0, 1) := by decide +kernel
theorem dX12_advance_101 : decode cX12_advance 101 = .ok (.goto 4, 3) := by decide +kernel
theorem dX12_advance_104 : decode cX12_advance 104 = .ok (.iload_n 1, 1) := by decide +kernel
theorem dX12_advance_105 : decode cX12_advance 105 = .ok (.putfield 190, 3) := by decide +kernel
theorem dX12_advance_108 : decode cX12_advance 108 = .ok (.aload_n 0, 1) := by decide +kernel
theorem dX12_advance_109 : decode cX12_advance 109 = .ok (.getfield 183, 3) := by decide +kernel
theorem dX12_advance_112 : decode cX12_advance 112 = .ok (.iconst 3, 1) := by decide +kernel
theorem dX12_advance_113 : decode cX12_advance 113 = .ok (.if_icmp .ne 13, 3) := by decide +kernel
theorem dX12_advance_116 : decode cX12_advance 116 = .ok (.aload_n 0, 1) := by decide +kernel
theorem dX12_advance_117 : decode cX12_advance 117 = .ok (.dup, 1) := by decide +kernel
theorem dX12_advance_118 : decode cX12_advance 118 = .ok (.getfield 168, 3) := by decide +kernel
theorem dX12_advance_121 : decode cX12_advance 121 = .ok (.iconst 1, 1) := by decide +kernel
theorem dX12_advance_122 : decode cX12_advance 122 = .ok (.iadd, 1) := by decide +kernel
theorem dX12_advance_123 : decode cX12_advance 123 = .ok (.putfield 168, 3) := by decide +kernel
theorem dX12_advance_126 : decode cX12_advance 126 = .ok (.aload_n 0, 1) := by decide +kernel
theorem dX12_advance_127 : decode cX12_advance 127 = .ok (.getfield 183, 3) := by decide +kernel
theorem dX12_advance_130 : decode cX12_advance 130 = .ok (.iconst 1, 1) := by decide +kernel
theorem dX12_advance_131 : decode cX12_advance 131 = .ok (.if_icmp .ne 76, 3) := by decide +kernel
theorem dX12_advance_134 : decode cX12_advance 134 = .ok (.aload_n 0, 1) := by decide +kernel
theorem dX12_advance_135 : decode cX12_advance 135 = .ok (.aload_n 0, 1) := by decide +kernel
theorem dX12_advance_136 : decode cX12_advance 136 = .ok (.getfield 168, 3) := by decide +kernel
theorem dX12_advance_139 : decode cX12_advance 139 = .ok (.invokevirtual 174, 3) := by decide +kernel
theorem dX12_advance_142 : decode cX12_advance 142 = .ok (.invokestatic 177, 3) := by decide +kernel
theorem dX12_advance_145 : decode cX12_advance 145 = .ok (.ifCond .eq 62, 3) := by decide +kernel
theorem dX12_advance_148 : decode cX12_advance 148 = .ok (.aload_n 0, 1) := by decide +kernel
theorem dX12_advance_149 : decode cX12_advance 149 = .ok (.aload_n 0, 1) := by decide +kernel
theorem dX12_advance_150 : decode cX12_advance 150 = .ok (.getfield 168, 3) := by decide +kernel
theorem dX12_advance_153 : decode cX12_advance 153 = .ok (.aload_n 0, 1) := by decide +kernel
theorem dX12_advance_154 : decode cX12_advance 154 = .ok (.getfield 171, 3) := by decide +kernel
theorem dX12_advance_157 : decode cX12_advance 157 = .ok (.isub, 1) := by decide +kernel
theorem dX12_advance_158 : decode cX12_advance 158 = .ok (.bipush 12, 2) := by decide +kernel
theorem dX12_advance_160 : decode cX12_advance 160 = .ok (.if_icmp .ge 28, 3) := by decide +kernel
theorem dX12_advance_163 : decode cX12_advance 163 = .ok (.ldc2_w 193, 3) := by decide +kernel
theorem dX12_advance_166 : decode cX12_advance 166 = .ok (.aload_n 0, 1) := by decide +kernel
theorem dX12_advance_167 : decode cX12_advance 167 = .ok (.getfield 186, 3) := by decide +kernel
theorem dX12_advance_170 : decode cX12_advance 170 = .ok (.lmul, 1) := by decide +kernel
theorem dX12_advance_171 : decode cX12_advance 171 = .ok (.aload_n 0, 1) := by decide +kernel
theorem dX12_advance_172 : decode cX12_advance 172 = .ok (.aload_n 0, 1) := by decide +kernel
theorem dX12_advance_173 : decode cX12_advance 173 = .ok (.getfield 168, 3) := by decide +kernel
theorem dX12_advance_176 : decode cX12_advance 176 = .ok (.invokevirtual 174, 3) := by decide +kernel
theorem dX12_advance_179 : decode cX12_advance 179 = .ok (.i2l, 1) := by decide +kernel
theorem dX12_advance_180 : decode cX12_advance 180 = .ok (.ladd, 1) := by decide +kernel
theorem dX12_advance_181 : decode cX12_advance 181 = .ok (.ldc2_w 195, 3) := by decide +kernel
theorem dX12_advance_184 : decode cX12_advance 184 = .ok (.lsub, 1) := by decide +kernel
theorem dX12_advance_185 : decode cX12_advance 185 = .ok (.goto 6, 3) := by decide +kernel
theorem dX12_advance_188 : decode cX12_advance 188 = .ok (.ldc2_w 197, 3) := by decide +kernel
theorem dX12_advance_191 : decode cX12_advance 191 = .ok (.putfield 186, 3) := by decide +kernel
theorem dX12_advance_194 : decode cX12_advance 194 = .ok (.aload_n 0, 1) := by decide +kernel
theorem dX12_advance_195 : decode cX12_advance 195 = .ok (.dup, 1) := by decide +kernel
theorem dX12_advance_196 : decode cX12_advance 196 = .ok (.getfield 168, 3) := by decide +kernel
theorem dX12_advance_199 : decode cX12_advance 199 = .ok (.iconst 1, 1) := by decide +kernel
theorem dX12_advance_200 : decode cX12_advance 200 = .ok (.iadd, 1) := by decide +kernel
theorem dX12_advance_201 : decode cX12_advance 201 = .ok (.putfield 168, 3) := by decide +kernel
theorem dX12_advance_204 : decode cX12_advance 204 = .ok (.goto (-78), 3) := by decide +kernel
theorem dX12_advance_207 : decode cX12_advance 207 = .ok (.aload_n 0, 1) := by decide +kernel
theorem dX12_advance_208 : decode cX12_advance 208 = .ok (.getfield 183, 3) := by decide +kernel
theorem dX12_advance_211 : decode cX12_advance 211 = .ok (.iconst 2, 1) := by decide +kernel
theorem dX12_advance_212 : decode cX12_advance 212 = .ok (.if_icmp .ne 69, 3) := by decide +kernel
theorem dX12_advance_215 : decode cX12_advance 215 = .ok (.aload_n 0, 1) := by decide +kernel
theorem dX12_advance_216 : decode cX12_advance 216 = .ok (.aload_n 0, 1) := by decide +kernel
theorem dX12_advance_217 : decode cX12_advance 217 = .ok (.getfield 168, 3) := by decide +kernel
theorem dX12_advance_220 : decode cX12_advance 220 = .ok (.invokevirtual 174, 3) := by decide +kernel
theorem dX12_advance_223 : decode cX12_advance 223 = .ok (.invokestatic 180, 3) := by decide +kernel
theorem dX12_advance_226 : decode cX12_advance 226 = .ok (.ifCond .eq 55, 3) := by decide +kernel
theorem dX12_advance_229 : decode cX12_advance 229 = .ok (.aload_n 0, 1) := by decide +kernel
theorem dX12_advance_230 : decode cX12_advance 230 = .ok (.aload_n 0, 1) := by decide +kernel
theorem dX12_advance_231 : decode cX12_advance 231 = .ok (.getfield 190, 3) := by decide +kernel
theorem dX12_advance_234 : decode cX12_advance 234 = .ok (.sipush 999, 3) := by decide +kernel
theorem dX12_advance_237 : decode cX12_advance 237 = .ok (.if_icmp .le 9, 3) := by decide +kernel
theorem dX12_advance_240 : decode cX12_advance 240 = .ok (.sipush 10000, 3) := by decide +kernel
theorem dX12_advance_243 : decode cX12_advance 243 = .ok (.goto 22, 3) := by decide +kernel
theorem dX12_advance_246 : decode cX12_advance 246 = .ok (.bipush 10, 2) := by decide +kernel
theorem dX12_advance_248 : decode cX12_advance 248 = .ok (.aload_n 0, 1) := by decide +kernel
theorem dX12_advance_249 : decode cX12_advance 249 = .ok (.getfield 190, 3) := by decide +kernel
theorem dX12_advance_252 : decode cX12_advance 252 = .ok (.imul, 1) := by decide +kernel
theorem dX12_advance_253 : decode cX12_advance 253 = .ok (.aload_n 0, 1) := by decide +kernel
theorem dX12_advance_254 : decode cX12_advance 254 = .ok (.aload_n 0, 1) := by decide +kernel
theorem dX12_advance_255 : decode cX12_advance 255 = .ok (.getfield 168, 3) := by decide +kernel
theorem dX12_advance_258 : decode cX12_advance 258 = .ok (.invokevirtual 174, 3) := by decide +kernel
theorem dX12_advance_261 : decode cX12_advance 261 = .ok (.iadd, 1) := by decide +kernel
theorem dX12_advance_262 : decode cX12_advance 262 = .ok (.bipush 48, 2) := by decide +kernel
theorem dX12_advance_264 : decode cX12_advance 264 = .ok (.isub, 1) := by decide +kernel
theorem dX12_advance_265 : decode cX12_advance 265 = .ok (.putfield 190, 3) := by decide +kernel
theorem dX12_advance_268 : decode cX12_advance 268 = .ok (.aload_n 0, 1) := by decide +kernel
theorem dX12_advance_269 : decode cX12_advance 269 = .ok (.dup, 1) := by decide +kernel
theorem dX12_advance_270 : decode cX12_advance 270 = .ok (.getfield 168, 3) := by decide +kernel
theorem dX12_advance_273 : decode cX12_advance 273 = .ok (.iconst 1, 1) := by decide +kernel
theorem dX12_advance_274 : decode cX12_advance 274 = .ok (.iadd, 1) := by decide +kernel
theorem dX12_advance_275 : decode cX12_advance 275 = .ok (.putfield 168, 3) := by decide +kernel
theorem dX12_advance_278 : decode cX12_advance 278 = .ok (.goto (-71), 3) := by decide +kernel
theorem dX12_advance_281 : decode cX12_advance 281 = .ok (.return_, 1) := by decide +kernel
theorem dX12_isWord_0 : decode cX12_isWord 0 = .ok (.aload_n 0, 1) := by decide +kernel
theorem dX12_isWord_1 : decode cX12_isWord 1 = .ok (.getfield 183, 3) := by decide +kernel
theorem dX12_isWord_4 : decode cX12_isWord 4 = .ok (.iconst 1, 1) := by decide +kernel
theorem dX12_isWord_5 : decode cX12_isWord 5 = .ok (.if_icmp .ne 16, 3) := by decide +kernel
theorem dX12_isWord_8 : decode cX12_isWord 8 = .ok (.aload_n 0, 1) := by decide +kernel
theorem dX12_isWord_9 : decode cX12_isWord 9 = .ok (.getfield 186, 3) := by decide +kernel
theorem dX12_isWord_12 : decode cX12_isWord 12 = .ok (.lload_n 1, 1) := by decide +kernel
theorem dX12_isWord_13 : decode cX12_isWord 13 = .ok (.lcmp, 1) := by decide +kernel
theorem dX12_isWord_14 : decode cX12_isWord 14 = .ok (.ifCond .ne 7, 3) := by decide +kernel
theorem dX12_isWord_17 : decode cX12_isWord 17 = .ok (.iconst 1, 1) := by decide +kernel
theorem dX12_isWord_18 : decode cX12_isWord 18 = .ok (.goto 4, 3) := by decide +kernel
theorem dX12_isWord_21 : decode cX12_isWord 21 = .ok (.iconst 0, 1) := by decide +kernel
theorem dX12_isWord_22 : decode cX12_isWord 22 = .ok (.ireturn, 1) := by decide +kernel
theorem dX12_kindHere_0 : decode cX12_kindHere 0 = .ok (.aload_n 0, 1) := by decide +kernel
theorem dX12_kindHere_1 : decode cX12_kindHere 1 = .ok (.ldc2_w 199, 3) := by decide +kernel
theorem dX12_kindHere_4 : decode cX12_kindHere 4 = .ok (.invokevirtual 201, 3) := by decide +kernel
theorem dX12_kindHere_7 : decode cX12_kindHere 7 = .ok (.ifCond .eq 7, 3) := by decide +kernel
theorem dX12_kindHere_10 : decode cX12_kindHere 10 = .ok (.iconst 0, 1) := by decide +kernel
theorem dX12_kindHere_11 : decode cX12_kindHere 11 = .ok (.goto 74, 3) := by decide +kernel
theorem dX12_kindHere_14 : decode cX12_kindHere 14 = .ok (.aload_n 0, 1) := by decide +kernel
theorem dX12_kindHere_15 : decode cX12_kindHere 15 = .ok (.ldc2_w 205, 3) := by decide +kernel
theorem dX12_kindHere_18 : decode cX12_kindHere 18 = .ok (.invokevirtual 201, 3) := by decide +kernel
theorem dX12_kindHere_21 : decode cX12_kindHere 21 = .ok (.ifCond .eq 7, 3) := by decide +kernel
theorem dX12_kindHere_24 : decode cX12_kindHere 24 = .ok (.iconst 1, 1) := by decide +kernel
theorem dX12_kindHere_25 : decode cX12_kindHere 25 = .ok (.goto 60, 3) := by decide +kernel
theorem dX12_kindHere_28 : decode cX12_kindHere 28 = .ok (.aload_n 0, 1) := by decide +kernel
theorem dX12_kindHere_29 : decode cX12_kindHere 29 = .ok (.ldc2_w 207, 3) := by decide +kernel
theorem dX12_kindHere_32 : decode cX12_kindHere 32 = .ok (.invokevirtual 201, 3) := by decide +kernel
theorem dX12_kindHere_35 : decode cX12_kindHere 35 = .ok (.ifCond .eq 7, 3) := by decide +kernel
theorem dX12_kindHere_38 : decode cX12_kindHere 38 = .ok (.iconst 2, 1) := by decide +kernel
theorem dX12_kindHere_39 : decode cX12_kindHere 39 = .ok (.goto 46, 3) := by decide +kernel
theorem dX12_kindHere_42 : decode cX12_kindHere 42 = .ok (.aload_n 0, 1) := by decide +kernel
theorem dX12_kindHere_43 : decode cX12_kindHere 43 = .ok (.ldc2_w 209, 3) := by decide +kernel
theorem dX12_kindHere_46 : decode cX12_kindHere 46 = .ok (.invokevirtual 201, 3) := by decide +kernel
theorem dX12_kindHere_49 : decode cX12_kindHere 49 = .ok (.ifCond .eq 7, 3) := by decide +kernel
theorem dX12_kindHere_52 : decode cX12_kindHere 52 = .ok (.iconst 3, 1) := by decide +kernel
theorem dX12_kindHere_53 : decode cX12_kindHere 53 = .ok (.goto 32, 3) := by decide +kernel
theorem dX12_kindHere_56 : decode cX12_kindHere 56 = .ok (.aload_n 0, 1) := by decide +kernel
theorem dX12_kindHere_57 : decode cX12_kindHere 57 = .ok (.ldc2_w 211, 3) := by decide +kernel
theorem dX12_kindHere_60 : decode cX12_kindHere 60 = .ok (.invokevirtual 201, 3) := by decide +kernel
theorem dX12_kindHere_63 : decode cX12_kindHere 63 = .ok (.ifCond .eq 7, 3) := by decide +kernel
theorem dX12_kindHere_66 : decode cX12_kindHere 66 = .ok (.iconst 4, 1) := by decide +kernel
theorem dX12_kindHere_67 : decode cX12_kindHere 67 = .ok (.goto 18, 3) := by decide +kernel
theorem dX12_kindHere_70 : decode cX12_kindHere 70 = .ok (.aload_n 0, 1) := by decide +kernel
theorem dX12_kindHere_71 : decode cX12_kindHere 71 = .ok (.ldc2_w 213, 3) := by decide +kernel
theorem dX12_kindHere_74 : decode cX12_kindHere 74 = .ok (.invokevirtual 201, 3) := by decide +kernel
theorem dX12_kindHere_77 : decode cX12_kindHere 77 = .ok (.ifCond .eq 7, 3) := by decide +kernel
theorem dX12_kindHere_80 : decode cX12_kindHere 80 = .ok (.iconst 5, 1) := by decide +kernel
theorem dX12_kindHere_81 : decode cX12_kindHere 81 = .ok (.goto 4, 3) := by decide +kernel
theorem dX12_kindHere_84 : decode cX12_kindHere 84 = .ok (.iconst (-1), 1) := by decide +kernel
theorem dX12_kindHere_85 : decode cX12_kindHere 85 = .ok (.ireturn, 1) := by decide +kernel
theorem dX12_wantNumber_0 : decode cX12_wantNumber 0 = .ok (.aload_n 0, 1) := by decide +kernel
theorem dX12_wantNumber_1 : decode cX12_wantNumber 1 = .ok (.getfield 190, 3) := by decide +kernel
theorem dX12_wantNumber_4 : decode cX12_wantNumber 4 = .ok (.istore_n 3, 1) := by decide +kernel
theorem dX12_wantNumber_5 : decode cX12_wantNumber 5 = .ok (.aload_n 0, 1) := by decide +kernel
theorem dX12_wantNumber_6 : decode cX12_wantNumber 6 = .ok (.aload_n 0, 1) := by decide +kernel
theorem dX12_wantNumber_7 : decode cX12_wantNumber 7 = .ok (.getfield 215, 3) := by decide +kernel
theorem dX12_wantNumber_10 : decode cX12_wantNumber 10 = .ok (.ifCond .eq 24, 3) := by decide +kernel
theorem dX12_wantNumber_13 : decode cX12_wantNumber 13 = .ok (.aload_n 0, 1) := by decide +kernel
theorem dX12_wantNumber_14 : decode cX12_wantNumber 14 = .ok (.getfield 183, 3) := by decide +kernel
theorem dX12_wantNumber_17 : decode cX12_wantNumber 17 = .ok (.iconst 2, 1) := by decide +kernel
theorem dX12_wantNumber_18 : decode cX12_wantNumber 18 = .ok (.if_icmp .ne 16, 3) := by decide +kernel
theorem dX12_wantNumber_21 : decode cX12_wantNumber 21 = .ok (.iload_n 3, 1) := by decide +kernel
theorem dX12_wantNumber_22 : decode cX12_wantNumber 22 = .ok (.iload_n 1, 1) := by decide +kernel
theorem dX12_wantNumber_23 : decode cX12_wantNumber 23 = .ok (.iload_n 2, 1) := by decide +kernel
theorem dX12_wantNumber_24 : decode cX12_wantNumber 24 = .ok (.invokestatic 45, 3) := by decide +kernel
theorem dX12_wantNumber_27 : decode cX12_wantNumber 27 = .ok (.ifCond .eq 7, 3) := by decide +kernel
theorem dX12_wantNumber_30 : decode cX12_wantNumber 30 = .ok (.iconst 1, 1) := by decide +kernel
theorem dX12_wantNumber_31 : decode cX12_wantNumber 31 = .ok (.goto 4, 3) := by decide +kernel
theorem dX12_wantNumber_34 : decode cX12_wantNumber 34 = .ok (.iconst 0, 1) := by decide +kernel
theorem dX12_wantNumber_35 : decode cX12_wantNumber 35 = .ok (.putfield 215, 3) := by decide +kernel
theorem dX12_wantNumber_38 : decode cX12_wantNumber 38 = .ok (.aload_n 0, 1) := by decide +kernel
theorem dX12_wantNumber_39 : decode cX12_wantNumber 39 = .ok (.getfield 215, 3) := by decide +kernel
theorem dX12_wantNumber_42 : decode cX12_wantNumber 42 = .ok (.ifCond .eq 7, 3) := by decide +kernel
theorem dX12_wantNumber_45 : decode cX12_wantNumber 45 = .ok (.aload_n 0, 1) := by decide +kernel
theorem dX12_wantNumber_46 : decode cX12_wantNumber 46 = .ok (.invokevirtual 219, 3) := by decide +kernel
theorem dX12_wantNumber_49 : decode cX12_wantNumber 49 = .ok (.iload_n 3, 1) := by decide +kernel
theorem dX12_wantNumber_50 : decode cX12_wantNumber 50 = .ok (.ireturn, 1) := by decide +kernel
theorem dX12_mayWant_0 : decode cX12_mayWant 0 = .ok (.aload_n 0, 1) := by decide +kernel
theorem dX12_mayWant_1 : decode cX12_mayWant 1 = .ok (.getfield 215, 3) := by decide +kernel
theorem dX12_mayWant_4 : decode cX12_mayWant 4 = .ok (.ifCond .eq 11, 3) := by decide +kernel
theorem dX12_mayWant_7 : decode cX12_mayWant 7 = .ok (.aload_n 0, 1) := by decide +kernel
theorem dX12_mayWant_8 : decode cX12_mayWant 8 = .ok (.lload_n 1, 1) := by decide +kernel
theorem dX12_mayWant_9 : decode cX12_mayWant 9 = .ok (.invokevirtual 201, 3) := by decide +kernel
theorem dX12_mayWant_12 : decode cX12_mayWant 12 = .ok (.ifCond .ne 6, 3) := by decide +kernel
theorem dX12_mayWant_15 : decode cX12_mayWant 15 = .ok (.iload 5, 2) := by decide +kernel
theorem dX12_mayWant_17 : decode cX12_mayWant 17 = .ok (.ireturn, 1) := by decide +kernel
theorem dX12_mayWant_18 : decode cX12_mayWant 18 = .ok (.aload_n 0, 1) := by decide +kernel
theorem dX12_mayWant_19 : decode cX12_mayWant 19 = .ok (.invokevirtual 219, 3) := by decide +kernel
theorem dX12_mayWant_22 : decode cX12_mayWant 22 = .ok (.aload_n 0, 1) := by decide +kernel
theorem dX12_mayWant_23 : decode cX12_mayWant 23 = .ok (.iload_n 3, 1) := by decide +kernel
theorem dX12_mayWant_24 : decode cX12_mayWant 24 = .ok (.iload 4, 2) := by decide +kernel
theorem dX12_mayWant_26 : decode cX12_mayWant 26 = .ok (.invokevirtual 222, 3) := by decide +kernel
theorem dX12_mayWant_29 : decode cX12_mayWant 29 = .ok (.ireturn, 1) := by decide +kernel
theorem dX12_wantOne_0 : decode cX12_wantOne 0 = .ok (.aload_n 0, 1) := by decide +kernel
theorem dX12_wantOne_1 : decode cX12_wantOne 1 = .ok (.aload_n 0, 1) := by decide +kernel
theorem dX12_wantOne_2 : decode cX12_wantOne 2 = .ok (.getfield 7, 3) := by decide +kernel
theorem dX12_wantOne_5 : decode cX12_wantOne 5 = .ok (.iconst 5, 1) := by decide +kernel
theorem dX12_wantOne_6 : decode cX12_wantOne 6 = .ok (.iaload, 1) := by decide +kernel
theorem dX12_wantOne_7 : decode cX12_wantOne 7 = .ok (.bipush 6, 2) := by decide +kernel
theorem dX12_wantOne_9 : decode cX12_wantOne 9 = .ok (.if_icmp .ge 7, 3) := by decide +kernel
theorem dX12_wantOne_12 : decode cX12_wantOne 12 = .ok (.iconst 1, 1) := by decide +kernel
theorem dX12_wantOne_13 : decode cX12_wantOne 13 = .ok (.goto 4, 3) := by decide +kernel
theorem dX12_wantOne_16 : decode cX12_wantOne 16 = .ok (.iconst 0, 1) := by decide +kernel
theorem dX12_wantOne_17 : decode cX12_wantOne 17 = .ok (.putfield 215, 3) := by decide +kernel
theorem dX12_wantOne_20 : decode cX12_wantOne 20 = .ok (.aload_n 0, 1) := by decide +kernel
theorem dX12_wantOne_21 : decode cX12_wantOne 21 = .ok (.getfield 215, 3) := by decide +kernel
theorem dX12_wantOne_24 : decode cX12_wantOne 24 = .ok (.ifCond .ne 4, 3) := by decide +kernel
theorem dX12_wantOne_27 : decode cX12_wantOne 27 = .ok (.return_, 1) := by decide +kernel
theorem dX12_wantOne_28 : decode cX12_wantOne 28 = .ok (.aload_n 0, 1) := by decide +kernel
theorem dX12_wantOne_29 : decode cX12_wantOne 29 = .ok (.invokevirtual 219, 3) := by decide +kernel
theorem dX12_wantOne_32 : decode cX12_wantOne 32 = .ok (.aload_n 0, 1) := by decide +kernel
theorem dX12_wantOne_33 : decode cX12_wantOne 33 = .ok (.iconst 0, 1) := by decide +kernel
theorem dX12_wantOne_34 : decode cX12_wantOne 34 = .ok (.bipush 9, 2) := by decide +kernel
theorem dX12_wantOne_36 : decode cX12_wantOne 36 = .ok (.invokevirtual 222, 3) := by decide +kernel
theorem dX12_wantOne_39 : decode cX12_wantOne 39 = .ok (.istore_n 2, 1) := by decide +kernel
theorem dX12_wantOne_40 : decode cX12_wantOne 40 = .ok (.aload_n 0, 1) := by decide +kernel
theorem dX12_wantOne_41 : decode cX12_wantOne 41 = .ok (.ldc2_w 225, 3) := by decide +kernel
theorem dX12_wantOne_44 : decode cX12_wantOne 44 = .ok (.iconst 0, 1) := by decide +kernel
theorem dX12_wantOne_45 : decode cX12_wantOne 45 = .ok (.bipush 19, 2) := by decide +kernel
theorem dX12_wantOne_47 : decode cX12_wantOne 47 = .ok (.iconst 0, 1) := by decide +kernel
theorem dX12_wantOne_48 : decode cX12_wantOne 48 = .ok (.invokevirtual 227, 3) := by decide +kernel
theorem dX12_wantOne_51 : decode cX12_wantOne 51 = .ok (.istore_n 3, 1) := by decide +kernel
theorem dX12_wantOne_52 : decode cX12_wantOne 52 = .ok (.aload_n 0, 1) := by decide +kernel
theorem dX12_wantOne_53 : decode cX12_wantOne 53 = .ok (.getfield 215, 3) := by decide +kernel
theorem dX12_wantOne_56 : decode cX12_wantOne 56 = .ok (.ifCond .eq 10, 3) := by decide +kernel
theorem dX12_wantOne_59 : decode cX12_wantOne 59 = .ok (.aload_n 0, 1) := by decide +kernel
theorem dX12_wantOne_60 : decode cX12_wantOne 60 = .ok (.iload_n 1, 1) := by decide +kernel
theorem dX12_wantOne_61 : decode cX12_wantOne 61 = .ok (.iload_n 3, 1) := by decide +kernel
theorem dX12_wantOne_62 : decode cX12_wantOne 62 = .ok (.iload_n 2, 1) := by decide +kernel
theorem dX12_wantOne_63 : decode cX12_wantOne 63 = .ok (.invokevirtual 96, 3) := by decide +kernel
theorem dX12_wantOne_66 : decode cX12_wantOne 66 = .ok (.return_, 1) := by decide +kernel
theorem dX12_wantTower_0 : decode cX12_wantTower 0 = .ok (.aload_n 0, 1) := by decide +kernel
theorem dX12_wantTower_1 : decode cX12_wantTower 1 = .ok (.invokevirtual 219, 3) := by decide +kernel
theorem dX12_wantTower_4 : decode cX12_wantTower 4 = .ok (.aload_n 0, 1) := by decide +kernel
theorem dX12_wantTower_5 : decode cX12_wantTower 5 = .ok (.iconst 0, 1) := by decide +kernel
theorem dX12_wantTower_6 : decode cX12_wantTower 6 = .ok (.bipush 19, 2) := by decide +kernel
theorem dX12_wantTower_8 : decode cX12_wantTower 8 = .ok (.invokevirtual 222, 3) := by decide +kernel
theorem dX12_wantTower_11 : decode cX12_wantTower 11 = .ok (.istore_n 1, 1) := by decide +kernel
theorem dX12_wantTower_12 : decode cX12_wantTower 12 = .ok (.aload_n 0, 1) := by decide +kernel
theorem dX12_wantTower_13 : decode cX12_wantTower 13 = .ok (.getfield 215, 3) := by decide +kernel
theorem dX12_wantTower_16 : decode cX12_wantTower 16 = .ok (.ifCond .eq 13, 3) := by decide +kernel
theorem dX12_wantTower_19 : decode cX12_wantTower 19 = .ok (.aload_n 0, 1) := by decide +kernel
theorem dX12_wantTower_20 : decode cX12_wantTower 20 = .ok (.iconst 0, 1) := by decide +kernel
theorem dX12_wantTower_21 : decode cX12_wantTower 21 = .ok (.bipush 9, 2) := by decide +kernel
theorem dX12_wantTower_23 : decode cX12_wantTower 23 = .ok (.invokevirtual 222, 3) := by decide +kernel
theorem dX12_wantTower_26 : decode cX12_wantTower 26 = .ok (.goto 4, 3) := by decide +kernel
theorem dX12_wantTower_29 : decode cX12_wantTower 29 = .ok (.iconst 0, 1) := by decide +kernel
theorem dX12_wantTower_30 : decode cX12_wantTower 30 = .ok (.istore_n 2, 1) := by decide +kernel
theorem dX12_wantTower_31 : decode cX12_wantTower 31 = .ok (.aload_n 0, 1) := by decide +kernel
theorem dX12_wantTower_32 : decode cX12_wantTower 32 = .ok (.getfield 215, 3) := by decide +kernel
theorem dX12_wantTower_35 : decode cX12_wantTower 35 = .ok (.ifCond .eq 13, 3) := by decide +kernel
theorem dX12_wantTower_38 : decode cX12_wantTower 38 = .ok (.aload_n 0, 1) := by decide +kernel
theorem dX12_wantTower_39 : decode cX12_wantTower 39 = .ok (.bipush 10, 2) := by decide +kernel
theorem dX12_wantTower_41 : decode cX12_wantTower 41 = .ok (.iload_n 1, 1) := by decide +kernel
theorem dX12_wantTower_42 : decode cX12_wantTower 42 = .ok (.imul, 1) := by decide +kernel
theorem dX12_wantTower_43 : decode cX12_wantTower 43 = .ok (.iload_n 2, 1) := by decide +kernel
theorem dX12_wantTower_44 : decode cX12_wantTower 44 = .ok (.iadd, 1) := by decide +kernel
theorem dX12_wantTower_45 : decode cX12_wantTower 45 = .ok (.invokevirtual 61, 3) := by decide +kernel
theorem dX12_wantTower_48 : decode cX12_wantTower 48 = .ok (.return_, 1) := by decide +kernel
theorem dX12_wantLamp_0 : decode cX12_wantLamp 0 = .ok (.aload_n 0, 1) := by decide +kernel
theorem dX12_wantLamp_1 : decode cX12_wantLamp 1 = .ok (.invokevirtual 219, 3) := by decide +kernel
theorem dX12_wantLamp_4 : decode cX12_wantLamp 4 = .ok (.aload_n 0, 1) := by decide +kernel
theorem dX12_wantLamp_5 : decode cX12_wantLamp 5 = .ok (.iconst 0, 1) := by decide +kernel
theorem dX12_wantLamp_6 : decode cX12_wantLamp 6 = .ok (.bipush 11, 2) := by decide +kernel
theorem dX12_wantLamp_8 : decode cX12_wantLamp 8 = .ok (.invokevirtual 222, 3) := by decide +kernel
theorem dX12_wantLamp_11 : decode cX12_wantLamp 11 = .ok (.istore_n 2, 1) := by decide +kernel
theorem dX12_wantLamp_12 : decode cX12_wantLamp 12 = .ok (.aload_n 0, 1) := by decide +kernel
theorem dX12_wantLamp_13 : decode cX12_wantLamp 13 = .ok (.getfield 215, 3) := by decide +kernel
theorem dX12_wantLamp_16 : decode cX12_wantLamp 16 = .ok (.ifCond .eq 25, 3) := by decide +kernel
theorem dX12_wantLamp_19 : decode cX12_wantLamp 19 = .ok (.aload_n 0, 1) := by decide +kernel
theorem dX12_wantLamp_20 : decode cX12_wantLamp 20 = .ok (.getfield 7, 3) := by decide +kernel
theorem dX12_wantLamp_23 : decode cX12_wantLamp 23 = .ok (.iconst 3, 1) := by decide +kernel
theorem dX12_wantLamp_24 : decode cX12_wantLamp 24 = .ok (.aload_n 0, 1) := by decide +kernel
theorem dX12_wantLamp_25 : decode cX12_wantLamp 25 = .ok (.getfield 7, 3) := by decide +kernel
theorem dX12_wantLamp_28 : decode cX12_wantLamp 28 = .ok (.iconst 3, 1) := by decide +kernel
theorem dX12_wantLamp_29 : decode cX12_wantLamp 29 = .ok (.iaload, 1) := by decide +kernel
theorem dX12_wantLamp_30 : decode cX12_wantLamp 30 = .ok (.iconst 1, 1) := by decide +kernel
theorem dX12_wantLamp_31 : decode cX12_wantLamp 31 = .ok (.iload_n 2, 1) := by decide +kernel
theorem dX12_wantLamp_32 : decode cX12_wantLamp 32 = .ok (.ishl, 1) := by decide +kernel
theorem dX12_wantLamp_33 : decode cX12_wantLamp 33 = .ok (.iconst (-1), 1) := by decide +kernel
theorem dX12_wantLamp_34 : decode cX12_wantLamp 34 = .ok (.ixor, 1) := by decide +kernel
theorem dX12_wantLamp_35 : decode cX12_wantLamp 35 = .ok (.iand, 1) := by decide +kernel
theorem dX12_wantLamp_36 : decode cX12_wantLamp 36 = .ok (.iload_n 1, 1) := by decide +kernel
theorem dX12_wantLamp_37 : decode cX12_wantLamp 37 = .ok (.iload_n 2, 1) := by decide +kernel
theorem dX12_wantLamp_38 : decode cX12_wantLamp 38 = .ok (.ishl, 1) := by decide +kernel
theorem dX12_wantLamp_39 : decode cX12_wantLamp 39 = .ok (.ior, 1) := by decide +kernel
theorem dX12_wantLamp_40 : decode cX12_wantLamp 40 = .ok (.iastore, 1) := by decide +kernel
theorem dX12_wantLamp_41 : decode cX12_wantLamp 41 = .ok (.return_, 1) := by decide +kernel
theorem dX12_wantItem_0 : decode cX12_wantItem 0 = .ok (.aload_n 0, 1) := by decide +kernel
theorem dX12_wantItem_1 : decode cX12_wantItem 1 = .ok (.invokevirtual 231, 3) := by decide +kernel
theorem dX12_wantItem_4 : decode cX12_wantItem 4 = .ok (.ifCond .lt 14, 3) := by decide +kernel
theorem dX12_wantItem_7 : decode cX12_wantItem 7 = .ok (.aload_n 0, 1) := by decide +kernel
theorem dX12_wantItem_8 : decode cX12_wantItem 8 = .ok (.aload_n 0, 1) := by decide +kernel
theorem dX12_wantItem_9 : decode cX12_wantItem 9 = .ok (.invokevirtual 231, 3) := by decide +kernel
theorem dX12_wantItem_12 : decode cX12_wantItem 12 = .ok (.invokevirtual 234, 3) := by decide +kernel
theorem dX12_wantItem_15 : decode cX12_wantItem 15 = .ok (.goto 109, 3) := by decide +kernel
theorem dX12_wantItem_18 : decode cX12_wantItem 18 = .ok (.aload_n 0, 1) := by decide +kernel
theorem dX12_wantItem_19 : decode cX12_wantItem 19 = .ok (.ldc2_w 237, 3) := by decide +kernel
theorem dX12_wantItem_22 : decode cX12_wantItem 22 = .ok (.invokevirtual 201, 3) := by decide +kernel
theorem dX12_wantItem_25 : decode cX12_wantItem 25 = .ok (.ifCond .eq 10, 3) := by decide +kernel
theorem dX12_wantItem_28 : decode cX12_wantItem 28 = .ok (.aload_n 0, 1) := by decide +kernel
theorem dX12_wantItem_29 : decode cX12_wantItem 29 = .ok (.invokevirtual 239, 3) := by decide +kernel
theorem dX12_wantItem_32 : decode cX12_wantItem 32 = .ok (.goto 92, 3) := by decide +kernel
theorem dX12_wantItem_35 : decode cX12_wantItem 35 = .ok (.aload_n 0, 1) := by decide +kernel
theorem dX12_wantItem_36 : decode cX12_wantItem 36 = .ok (.ldc2_w 242, 3) := by decide +kernel
theorem dX12_wantItem_39 : decode cX12_wantItem 39 = .ok (.invokevirtual 201, 3) := by decide +kernel
theorem dX12_wantItem_42 : decode cX12_wantItem 42 = .ok (.ifCond .eq 11, 3) := by decide +kernel
theorem dX12_wantItem_45 : decode cX12_wantItem 45 = .ok (.aload_n 0, 1) := by decide +kernel
theorem dX12_wantItem_46 : decode cX12_wantItem 46 = .ok (.iconst 1, 1) := by decide +kernel
theorem dX12_wantItem_47 : decode cX12_wantItem 47 = .ok (.invokevirtual 244, 3) := by decide +kernel
theorem dX12_wantItem_50 : decode cX12_wantItem 50 = .ok (.goto 74, 3) := by decide +kernel
theorem dX12_wantItem_53 : decode cX12_wantItem 53 = .ok (.aload_n 0, 1) := by decide +kernel
theorem dX12_wantItem_54 : decode cX12_wantItem 54 = .ok (.ldc2_w 247, 3) := by decide +kernel
theorem dX12_wantItem_57 : decode cX12_wantItem 57 = .ok (.invokevirtual 201, 3) := by decide +kernel
theorem dX12_wantItem_60 : decode cX12_wantItem 60 = .ok (.ifCond .eq 11, 3) := by decide +kernel
theorem dX12_wantItem_63 : decode cX12_wantItem 63 = .ok (.aload_n 0, 1) := by decide +kernel
theorem dX12_wantItem_64 : decode cX12_wantItem 64 = .ok (.iconst 0, 1) := by decide +kernel
theorem dX12_wantItem_65 : decode cX12_wantItem 65 = .ok (.invokevirtual 244, 3) := by decide +kernel
theorem dX12_wantItem_68 : decode cX12_wantItem 68 = .ok (.goto 56, 3) := by decide +kernel
theorem dX12_wantItem_71 : decode cX12_wantItem 71 = .ok (.aload_n 0, 1) := by decide +kernel
theorem dX12_wantItem_72 : decode cX12_wantItem 72 = .ok (.ldc2_w 249, 3) := by decide +kernel
theorem dX12_wantItem_75 : decode cX12_wantItem 75 = .ok (.invokevirtual 201, 3) := by decide +kernel
theorem dX12_wantItem_78 : decode cX12_wantItem 78 = .ok (.ifCond .eq 41, 3) := by decide +kernel
theorem dX12_wantItem_81 : decode cX12_wantItem 81 = .ok (.aload_n 0, 1) := by decide +kernel
theorem dX12_wantItem_82 : decode cX12_wantItem 82 = .ok (.invokevirtual 219, 3) := by decide +kernel
theorem dX12_wantItem_85 : decode cX12_wantItem 85 = .ok (.aload_n 0, 1) := by decide +kernel
theorem dX12_wantItem_86 : decode cX12_wantItem 86 = .ok (.iconst 0, 1) := by decide +kernel
theorem dX12_wantItem_87 : decode cX12_wantItem 87 = .ok (.bipush 9, 2) := by decide +kernel
theorem dX12_wantItem_89 : decode cX12_wantItem 89 = .ok (.invokevirtual 222, 3) := by decide +kernel
theorem dX12_wantItem_92 : decode cX12_wantItem 92 = .ok (.istore_n 1, 1) := by decide +kernel
theorem dX12_wantItem_93 : decode cX12_wantItem 93 = .ok (.aload_n 0, 1) := by decide +kernel
theorem dX12_wantItem_94 : decode cX12_wantItem 94 = .ok (.getfield 7, 3) := by decide +kernel
theorem dX12_wantItem_97 : decode cX12_wantItem 97 = .ok (.iconst 4, 1) := by decide +kernel
theorem dX12_wantItem_98 : decode cX12_wantItem 98 = .ok (.aload_n 0, 1) := by decide +kernel
theorem dX12_wantItem_99 : decode cX12_wantItem 99 = .ok (.getfield 215, 3) := by decide +kernel
theorem dX12_wantItem_102 : decode cX12_wantItem 102 = .ok (.ifCond .eq 7, 3) := by decide +kernel
theorem dX12_wantItem_105 : decode cX12_wantItem 105 = .ok (.iload_n 1, 1) := by decide +kernel
theorem dX12_wantItem_106 : decode cX12_wantItem 106 = .ok (.goto 9, 3) := by decide +kernel
theorem dX12_wantItem_109 : decode cX12_wantItem 109 = .ok (.aload_n 0, 1) := by decide +kernel
theorem dX12_wantItem_110 : decode cX12_wantItem 110 = .ok (.getfield 7, 3) := by decide +kernel
theorem dX12_wantItem_113 : decode cX12_wantItem 113 = .ok (.iconst 4, 1) := by decide +kernel
theorem dX12_wantItem_114 : decode cX12_wantItem 114 = .ok (.iaload, 1) := by decide +kernel
theorem dX12_wantItem_115 : decode cX12_wantItem 115 = .ok (.iastore, 1) := by decide +kernel
theorem dX12_wantItem_116 : decode cX12_wantItem 116 = .ok (.goto 8, 3) := by decide +kernel
theorem dX12_wantItem_119 : decode cX12_wantItem 119 = .ok (.aload_n 0, 1) := by decide +kernel
theorem dX12_wantItem_120 : decode cX12_wantItem 120 = .ok (.iconst 0, 1) := by decide +kernel
theorem dX12_wantItem_121 : decode cX12_wantItem 121 = .ok (.putfield 215, 3) := by decide +kernel
theorem dX12_wantItem_124 : decode cX12_wantItem 124 = .ok (.return_, 1) := by decide +kernel
theorem dX12_sea_0 : decode cX12_sea 0 = .ok (.aload_n 0, 1) := by decide +kernel
theorem dX12_sea_1 : decode cX12_sea 1 = .ok (.iconst 1, 1) := by decide +kernel
theorem dX12_sea_2 : decode cX12_sea 2 = .ok (.aload_n 0, 1) := by decide +kernel
theorem dX12_sea_3 : decode cX12_sea 3 = .ok (.getfield 41, 3) := by decide +kernel
theorem dX12_sea_6 : decode cX12_sea 6 = .ok (.invokevirtual 143, 3) := by decide +kernel
theorem dX12_sea_9 : decode cX12_sea 9 = .ok (.aload_n 0, 1) := by decide +kernel
theorem dX12_sea_10 : decode cX12_sea 10 = .ok (.iconst 0, 1) := by decide +kernel
theorem dX12_sea_11 : decode cX12_sea 11 = .ok (.putfield 168, 3) := by decide +kernel
theorem dX12_sea_14 : decode cX12_sea 14 = .ok (.aload_n 0, 1) := by decide +kernel
theorem dX12_sea_15 : decode cX12_sea 15 = .ok (.iconst 1, 1) := by decide +kernel
theorem dX12_sea_16 : decode cX12_sea 16 = .ok (.putfield 215, 3) := by decide +kernel
theorem dX12_sea_19 : decode cX12_sea 19 = .ok (.iconst 0, 1) := by decide +kernel
theorem dX12_sea_20 : decode cX12_sea 20 = .ok (.istore_n 1, 1) := by decide +kernel
theorem dX12_sea_21 : decode cX12_sea 21 = .ok (.iconst 1, 1) := by decide +kernel
theorem dX12_sea_22 : decode cX12_sea 22 = .ok (.istore_n 2, 1) := by decide +kernel
theorem dX12_sea_23 : decode cX12_sea 23 = .ok (.iload_n 2, 1) := by decide +kernel
theorem dX12_sea_24 : decode cX12_sea 24 = .ok (.ifCond .eq 47, 3) := by decide +kernel
theorem dX12_sea_27 : decode cX12_sea 27 = .ok (.aload_n 0, 1) := by decide +kernel
theorem dX12_sea_28 : decode cX12_sea 28 = .ok (.invokevirtual 219, 3) := by decide +kernel
theorem dX12_sea_31 : decode cX12_sea 31 = .ok (.aload_n 0, 1) := by decide +kernel
theorem dX12_sea_32 : decode cX12_sea 32 = .ok (.invokevirtual 251, 3) := by decide +kernel
theorem dX12_sea_35 : decode cX12_sea 35 = .ok (.iinc 1 1, 3) := by decide +kernel
theorem dX12_sea_38 : decode cX12_sea 38 = .ok (.aload_n 0, 1) := by decide +kernel
theorem dX12_sea_39 : decode cX12_sea 39 = .ok (.getfield 215, 3) := by decide +kernel
theorem dX12_sea_42 : decode cX12_sea 42 = .ok (.ifCond .eq 24, 3) := by decide +kernel
theorem dX12_sea_45 : decode cX12_sea 45 = .ok (.aload_n 0, 1) := by decide +kernel
theorem dX12_sea_46 : decode cX12_sea 46 = .ok (.getfield 183, 3) := by decide +kernel
theorem dX12_sea_49 : decode cX12_sea 49 = .ok (.iconst 3, 1) := by decide +kernel
theorem dX12_sea_50 : decode cX12_sea 50 = .ok (.if_icmp .ne 16, 3) := by decide +kernel
theorem dX12_sea_53 : decode cX12_sea 53 = .ok (.aload_n 0, 1) := by decide +kernel
theorem dX12_sea_54 : decode cX12_sea 54 = .ok (.getfield 190, 3) := by decide +kernel
theorem dX12_sea_57 : decode cX12_sea 57 = .ok (.bipush 59, 2) := by decide +kernel
theorem dX12_sea_59 : decode cX12_sea 59 = .ok (.if_icmp .ne 7, 3) := by decide +kernel
theorem dX12_sea_62 : decode cX12_sea 62 = .ok (.iconst 1, 1) := by decide +kernel
theorem dX12_sea_63 : decode cX12_sea 63 = .ok (.goto 4, 3) := by decide +kernel
theorem dX12_sea_66 : decode cX12_sea 66 = .ok (.iconst 0, 1) := by decide +kernel
theorem dX12_sea_67 : decode cX12_sea 67 = .ok (.istore_n 2, 1) := by decide +kernel
theorem dX12_sea_68 : decode cX12_sea 68 = .ok (.goto (-45), 3) := by decide +kernel
theorem dX12_sea_71 : decode cX12_sea 71 = .ok (.aload_n 0, 1) := by decide +kernel
theorem dX12_sea_72 : decode cX12_sea 72 = .ok (.aload_n 0, 1) := by decide +kernel
theorem dX12_sea_73 : decode cX12_sea 73 = .ok (.getfield 215, 3) := by decide +kernel
theorem dX12_sea_76 : decode cX12_sea 76 = .ok (.ifCond .eq 14, 3) := by decide +kernel
theorem dX12_sea_79 : decode cX12_sea 79 = .ok (.aload_n 0, 1) := by decide +kernel
theorem dX12_sea_80 : decode cX12_sea 80 = .ok (.getfield 183, 3) := by decide +kernel
theorem dX12_sea_83 : decode cX12_sea 83 = .ok (.ifCond .ne 7, 3) := by decide +kernel
theorem dX12_sea_86 : decode cX12_sea 86 = .ok (.iconst 1, 1) := by decide +kernel
theorem dX12_sea_87 : decode cX12_sea 87 = .ok (.goto 4, 3) := by decide +kernel
theorem dX12_sea_90 : decode cX12_sea 90 = .ok (.iconst 0, 1) := by decide +kernel
theorem dX12_sea_91 : decode cX12_sea 91 = .ok (.putfield 215, 3) := by decide +kernel
theorem dX12_sea_94 : decode cX12_sea 94 = .ok (.aload_n 0, 1) := by decide +kernel
theorem dX12_sea_95 : decode cX12_sea 95 = .ok (.iconst 0, 1) := by decide +kernel
theorem dX12_sea_96 : decode cX12_sea 96 = .ok (.putfield 164, 3) := by decide +kernel
theorem dX12_sea_99 : decode cX12_sea 99 = .ok (.aload_n 0, 1) := by decide +kernel
theorem dX12_sea_100 : decode cX12_sea 100 = .ok (.getfield 215, 3) := by decide +kernel
theorem dX12_sea_103 : decode cX12_sea 103 = .ok (.ifCond .ne 19, 3) := by decide +kernel
theorem dX12_sea_106 : decode cX12_sea 106 = .ok (.aload_n 0, 1) := by decide +kernel
theorem dX12_sea_107 : decode cX12_sea 107 = .ok (.iconst 0, 1) := by decide +kernel
theorem dX12_sea_108 : decode cX12_sea 108 = .ok (.aload_n 0, 1) := by decide +kernel
theorem dX12_sea_109 : decode cX12_sea 109 = .ok (.getfield 41, 3) := by decide +kernel
theorem dX12_sea_112 : decode cX12_sea 112 = .ok (.invokevirtual 143, 3) := by decide +kernel
theorem dX12_sea_115 : decode cX12_sea 115 = .ok (.iconst (-1), 1) := by decide +kernel
theorem dX12_sea_116 : decode cX12_sea 116 = .ok (.aload_n 0, 1) := by decide +kernel
theorem dX12_sea_117 : decode cX12_sea 117 = .ok (.getfield 171, 3) := by decide +kernel
theorem dX12_sea_120 : decode cX12_sea 120 = .ok (.isub, 1) := by decide +kernel
theorem dX12_sea_121 : decode cX12_sea 121 = .ok (.ireturn, 1) := by decide +kernel
theorem dX12_sea_122 : decode cX12_sea 122 = .ok (.iload_n 1, 1) := by decide +kernel
theorem dX12_sea_123 : decode cX12_sea 123 = .ok (.ireturn, 1) := by decide +kernel
theorem dX12_isSheet_0 : decode cX12_isSheet 0 = .ok (.iload_n 0, 1) := by decide +kernel
theorem dX12_isSheet_1 : decode cX12_isSheet 1 = .ok (.iconst 0, 1) := by decide +kernel
theorem dX12_isSheet_2 : decode cX12_isSheet 2 = .ok (.iconst 3, 1) := by decide +kernel
theorem dX12_isSheet_3 : decode cX12_isSheet 3 = .ok (.invokestatic 45, 3) := by decide +kernel
theorem dX12_isSheet_6 : decode cX12_isSheet 6 = .ok (.ireturn, 1) := by decide +kernel
theorem dX12_narrow_0 : decode cX12_narrow 0 = .ok (.iload_n 0, 1) := by decide +kernel
theorem dX12_narrow_1 : decode cX12_narrow 1 = .ok (.bipush 8, 2) := by decide +kernel
theorem dX12_narrow_3 : decode cX12_narrow 3 = .ok (.if_icmp .ne 13, 3) := by decide +kernel
theorem dX12_narrow_6 : decode cX12_narrow 6 = .ok (.lload_n 1, 1) := by decide +kernel
theorem dX12_narrow_7 : decode cX12_narrow 7 = .ok (.bipush 56, 2) := by decide +kernel
theorem dX12_narrow_9 : decode cX12_narrow 9 = .ok (.lshl, 1) := by decide +kernel
theorem dX12_narrow_10 : decode cX12_narrow 10 = .ok (.bipush 56, 2) := by decide +kernel
theorem dX12_narrow_12 : decode cX12_narrow 12 = .ok (.lshr, 1) := by decide +kernel
theorem dX12_narrow_13 : decode cX12_narrow 13 = .ok (.goto 20, 3) := by decide +kernel
theorem dX12_narrow_16 : decode cX12_narrow 16 = .ok (.iload_n 0, 1) := by decide +kernel
theorem dX12_narrow_17 : decode cX12_narrow 17 = .ok (.bipush 16, 2) := by decide +kernel
theorem dX12_narrow_19 : decode cX12_narrow 19 = .ok (.if_icmp .ne 13, 3) := by decide +kernel
theorem dX12_narrow_22 : decode cX12_narrow 22 = .ok (.lload_n 1, 1) := by decide +kernel
theorem dX12_narrow_23 : decode cX12_narrow 23 = .ok (.bipush 48, 2) := by decide +kernel
theorem dX12_narrow_25 : decode cX12_narrow 25 = .ok (.lshl, 1) := by decide +kernel
theorem dX12_narrow_26 : decode cX12_narrow 26 = .ok (.bipush 48, 2) := by decide +kernel
theorem dX12_narrow_28 : decode cX12_narrow 28 = .ok (.lshr, 1) := by decide +kernel
theorem dX12_narrow_29 : decode cX12_narrow 29 = .ok (.goto 4, 3) := by decide +kernel
theorem dX12_narrow_32 : decode cX12_narrow 32 = .ok (.lload_n 1, 1) := by decide +kernel
theorem dX12_narrow_33 : decode cX12_narrow 33 = .ok (.lreturn, 1) := by decide +kernel
theorem dX12_sheet_0 : decode cX12_sheet 0 = .ok (.iload_n 1, 1) := by decide +kernel
theorem dX12_sheet_1 : decode cX12_sheet 1 = .ok (.invokestatic 254, 3) := by decide +kernel
theorem dX12_sheet_4 : decode cX12_sheet 4 = .ok (.ifCond .eq 25, 3) := by decide +kernel
theorem dX12_sheet_7 : decode cX12_sheet 7 = .ok (.iload_n 2, 1) := by decide +kernel
theorem dX12_sheet_8 : decode cX12_sheet 8 = .ok (.ifCond .eq 28, 3) := by decide +kernel
theorem dX12_sheet_11 : decode cX12_sheet 11 = .ok (.iload_n 2, 1) := by decide +kernel
theorem dX12_sheet_12 : decode cX12_sheet 12 = .ok (.bipush 8, 2) := by decide +kernel
theorem dX12_sheet_14 : decode cX12_sheet 14 = .ok (.if_icmp .eq 22, 3) := by decide +kernel
theorem dX12_sheet_17 : decode cX12_sheet 17 = .ok (.iload_n 2, 1) := by decide +kernel
theorem dX12_sheet_18 : decode cX12_sheet 18 = .ok (.bipush 16, 2) := by decide +kernel
theorem dX12_sheet_20 : decode cX12_sheet 20 = .ok (.if_icmp .eq 16, 3) := by decide +kernel
theorem dX12_sheet_23 : decode cX12_sheet 23 = .ok (.iload_n 2, 1) := by decide +kernel
theorem dX12_sheet_24 : decode cX12_sheet 24 = .ok (.bipush 64, 2) := by decide +kernel
theorem dX12_sheet_26 : decode cX12_sheet 26 = .ok (.if_icmp .eq 10, 3) := by decide +kernel
theorem dX12_sheet_29 : decode cX12_sheet 29 = .ok (.aload_n 0, 1) := by decide +kernel
theorem dX12_sheet_30 : decode cX12_sheet 30 = .ok (.ldc 44, 2) := by decide +kernel
theorem dX12_sheet_32 : decode cX12_sheet 32 = .ok (.invokevirtual 53, 3) := by decide +kernel
theorem dX12_sheet_35 : decode cX12_sheet 35 = .ok (.ireturn, 1) := by decide +kernel
theorem dX12_sheet_36 : decode cX12_sheet 36 = .ok (.iload_n 3, 1) := by decide +kernel
theorem dX12_sheet_37 : decode cX12_sheet 37 = .ok (.ifCond .ge 11, 3) := by decide +kernel
theorem dX12_sheet_40 : decode cX12_sheet 40 = .ok (.aload_n 0, 1) := by decide +kernel
theorem dX12_sheet_41 : decode cX12_sheet 41 = .ok (.ldc_w 257, 3) := by decide +kernel
theorem dX12_sheet_44 : decode cX12_sheet 44 = .ok (.invokevirtual 53, 3) := by decide +kernel
theorem dX12_sheet_47 : decode cX12_sheet 47 = .ok (.ireturn, 1) := by decide +kernel
theorem dX12_sheet_48 : decode cX12_sheet 48 = .ok (.iload_n 3, 1) := by decide +kernel
theorem dX12_sheet_49 : decode cX12_sheet 49 = .ok (.bipush 40, 2) := by decide +kernel
theorem dX12_sheet_51 : decode cX12_sheet 51 = .ok (.if_icmp .le 10, 3) := by decide +kernel
theorem dX12_sheet_54 : decode cX12_sheet 54 = .ok (.aload_n 0, 1) := by decide +kernel
theorem dX12_sheet_55 : decode cX12_sheet 55 = .ok (.ldc 44, 2) := by decide +kernel
theorem dX12_sheet_57 : decode cX12_sheet 57 = .ok (.invokevirtual 53, 3) := by decide +kernel
theorem dX12_sheet_60 : decode cX12_sheet 60 = .ok (.ireturn, 1) := by decide +kernel
theorem dX12_sheet_61 : decode cX12_sheet 61 = .ok (.aload_n 0, 1) := by decide +kernel
theorem dX12_sheet_62 : decode cX12_sheet 62 = .ok (.getfield 25, 3) := by decide +kernel
theorem dX12_sheet_65 : decode cX12_sheet 65 = .ok (.iload_n 1, 1) := by decide +kernel
theorem dX12_sheet_66 : decode cX12_sheet 66 = .ok (.iload_n 2, 1) := by decide +kernel
theorem dX12_sheet_67 : decode cX12_sheet 67 = .ok (.iastore, 1) := by decide +kernel
theorem dX12_sheet_68 : decode cX12_sheet 68 = .ok (.aload_n 0, 1) := by decide +kernel
theorem dX12_sheet_69 : decode cX12_sheet 69 = .ok (.getfield 28, 3) := by decide +kernel
theorem dX12_sheet_72 : decode cX12_sheet 72 = .ok (.iload_n 1, 1) := by decide +kernel
theorem dX12_sheet_73 : decode cX12_sheet 73 = .ok (.iload_n 2, 1) := by decide +kernel
theorem dX12_sheet_74 : decode cX12_sheet 74 = .ok (.ifCond .ne 7, 3) := by decide +kernel
theorem dX12_sheet_77 : decode cX12_sheet 77 = .ok (.iconst 0, 1) := by decide +kernel
theorem dX12_sheet_78 : decode cX12_sheet 78 = .ok (.goto 4, 3) := by decide +kernel
theorem dX12_sheet_81 : decode cX12_sheet 81 = .ok (.iload_n 3, 1) := by decide +kernel
theorem dX12_sheet_82 : decode cX12_sheet 82 = .ok (.iastore, 1) := by decide +kernel
theorem dX12_sheet_83 : decode cX12_sheet 83 = .ok (.iconst 0, 1) := by decide +kernel
theorem dX12_sheet_84 : decode cX12_sheet 84 = .ok (.istore 4, 2) := by decide +kernel
theorem dX12_sheet_86 : decode cX12_sheet 86 = .ok (.iload 4, 2) := by decide +kernel
theorem dX12_sheet_88 : decode cX12_sheet 88 = .ok (.bipush 40, 2) := by decide +kernel
theorem dX12_sheet_90 : decode cX12_sheet 90 = .ok (.if_icmp .ge 22, 3) := by decide +kernel
theorem dX12_sheet_93 : decode cX12_sheet 93 = .ok (.aload_n 0, 1) := by decide +kernel
theorem dX12_sheet_94 : decode cX12_sheet 94 = .ok (.getfield 31, 3) := by decide +kernel
theorem dX12_sheet_97 : decode cX12_sheet 97 = .ok (.bipush 40, 2) := by decide +kernel
theorem dX12_sheet_99 : decode cX12_sheet 99 = .ok (.iload_n 1, 1) := by decide +kernel
theorem dX12_sheet_100 : decode cX12_sheet 100 = .ok (.imul, 1) := by decide +kernel
theorem dX12_sheet_101 : decode cX12_sheet 101 = .ok (.iload 4, 2) := by decide +kernel
theorem dX12_sheet_103 : decode cX12_sheet 103 = .ok (.iadd, 1) := by decide +kernel
theorem dX12_sheet_104 : decode cX12_sheet 104 = .ok (.lconst 0, 1) := by decide +kernel
theorem dX12_sheet_105 : decode cX12_sheet 105 = .ok (.lastore, 1) := by decide +kernel
theorem dX12_sheet_106 : decode cX12_sheet 106 = .ok (.iinc 4 1, 3) := by decide +kernel
theorem dX12_sheet_109 : decode cX12_sheet 109 = .ok (.goto (-23), 3) := by decide +kernel
theorem dX12_sheet_112 : decode cX12_sheet 112 = .ok (.aload_n 0, 1) := by decide +kernel
theorem dX12_sheet_113 : decode cX12_sheet 113 = .ok (.getfield 28, 3) := by decide +kernel
theorem dX12_sheet_116 : decode cX12_sheet 116 = .ok (.iload_n 1, 1) := by decide +kernel
theorem dX12_sheet_117 : decode cX12_sheet 117 = .ok (.iaload, 1) := by decide +kernel
theorem dX12_sheet_118 : decode cX12_sheet 118 = .ok (.ireturn, 1) := by decide +kernel
theorem dX12_write_0 : decode cX12_write 0 = .ok (.iload_n 1, 1) := by decide +kernel
theorem dX12_write_1 : decode cX12_write 1 = .ok (.invokestatic 254, 3) := by decide +kernel
theorem dX12_write_4 : decode cX12_write 4 = .ok (.ifCond .ne 11, 3) := by decide +kernel
theorem dX12_write_7 : decode cX12_write 7 = .ok (.aload_n 0, 1) := by decide +kernel
theorem dX12_write_8 : decode cX12_write 8 = .ok (.ldc 44, 2) := by decide +kernel
theorem dX12_write_10 : decode cX12_write 10 = .ok (.invokevirtual 53, 3) := by decide +kernel
theorem dX12_write_13 : decode cX12_write 13 = .ok (.i2l, 1) := by decide +kernel
theorem dX12_write_14 : decode cX12_write 14 = .ok (.lreturn, 1) := by decide +kernel
theorem dX12_write_15 : decode cX12_write 15 = .ok (.aload_n 0, 1) := by decide +kernel
theorem dX12_write_16 : decode cX12_write 16 = .ok (.getfield 25, 3) := by decide +kernel
theorem dX12_write_19 : decode cX12_write 19 = .ok (.iload_n 1, 1) := by decide +kernel
theorem dX12_write_20 : decode cX12_write 20 = .ok (.iaload, 1) := by decide +kernel
theorem dX12_write_21 : decode cX12_write 21 = .ok (.ifCond .ne 12, 3) := by decide +kernel
theorem dX12_write_24 : decode cX12_write 24 = .ok (.aload_n 0, 1) := by decide +kernel
theorem dX12_write_25 : decode cX12_write 25 = .ok (.ldc_w 258, 3) := by decide +kernel
theorem dX12_write_28 : decode cX12_write 28 = .ok (.invokevirtual 53, 3) := by decide +kernel
theorem dX12_write_31 : decode cX12_write 31 = .ok (.i2l, 1) := by decide +kernel
theorem dX12_write_32 : decode cX12_write 32 = .ok (.lreturn, 1) := by decide +kernel
theorem dX12_write_33 : decode cX12_write 33 = .ok (.iload_n 2, 1) := by decide +kernel
theorem dX12_write_34 : decode cX12_write 34 = .ok (.iconst 0, 1) := by decide +kernel
theorem dX12_write_35 : decode cX12_write 35 = .ok (.aload_n 0, 1) := by decide +kernel
theorem dX12_write_36 : decode cX12_write 36 = .ok (.getfield 28, 3) := by decide +kernel
theorem dX12_write_39 : decode cX12_write 39 = .ok (.iload_n 1, 1) := by decide +kernel
theorem dX12_write_40 : decode cX12_write 40 = .ok (.iaload, 1) := by decide +kernel
theorem dX12_write_41 : decode cX12_write 41 = .ok (.iconst 1, 1) := by decide +kernel
theorem dX12_write_42 : decode cX12_write 42 = .ok (.isub, 1) := by decide +kernel
theorem dX12_write_43 : decode cX12_write 43 = .ok (.invokestatic 45, 3) := by decide +kernel
theorem dX12_write_46 : decode cX12_write 46 = .ok (.ifCond .ne 11, 3) := by decide +kernel
theorem dX12_write_49 : decode cX12_write 49 = .ok (.aload_n 0, 1) := by decide +kernel
theorem dX12_write_50 : decode cX12_write 50 = .ok (.ldc 44, 2) := by decide +kernel
theorem dX12_write_52 : decode cX12_write 52 = .ok (.invokevirtual 53, 3) := by decide +kernel
theorem dX12_write_55 : decode cX12_write 55 = .ok (.i2l, 1) := by decide +kernel
theorem dX12_write_56 : decode cX12_write 56 = .ok (.lreturn, 1) := by decide +kernel
theorem dX12_write_57 : decode cX12_write 57 = .ok (.aload_n 0, 1) := by decide +kernel
theorem dX12_write_58 : decode cX12_write 58 = .ok (.getfield 31, 3) := by decide +kernel
theorem dX12_write_61 : decode cX12_write 61 = .ok (.bipush 40, 2) := by decide +kernel
theorem dX12_write_63 : decode cX12_write 63 = .ok (.iload_n 1, 1) := by decide +kernel
theorem dX12_write_64 : decode cX12_write 64 = .ok (.imul, 1) := by decide +kernel
theorem dX12_write_65 : decode cX12_write 65 = .ok (.iload_n 2, 1) := by decide +kernel
theorem dX12_write_66 : decode cX12_write 66 = .ok (.iadd, 1) := by decide +kernel
theorem dX12_write_67 : decode cX12_write 67 = .ok (.laload, 1) := by decide +kernel
theorem dX12_write_68 : decode cX12_write 68 = .ok (.lstore 5, 2) := by decide +kernel
theorem dX12_write_70 : decode cX12_write 70 = .ok (.aload_n 0, 1) := by decide +kernel
theorem dX12_write_71 : decode cX12_write 71 = .ok (.getfield 31, 3) := by decide +kernel
theorem dX12_write_74 : decode cX12_write 74 = .ok (.bipush 40, 2) := by decide +kernel
theorem dX12_write_76 : decode cX12_write 76 = .ok (.iload_n 1, 1) := by decide +kernel
theorem dX12_write_77 : decode cX12_write 77 = .ok (.imul, 1) := by decide +kernel
theorem dX12_write_78 : decode cX12_write 78 = .ok (.iload_n 2, 1) := by decide +kernel
theorem dX12_write_79 : decode cX12_write 79 = .ok (.iadd, 1) := by decide +kernel
theorem dX12_write_80 : decode cX12_write 80 = .ok (.aload_n 0, 1) := by decide +kernel
theorem dX12_write_81 : decode cX12_write 81 = .ok (.getfield 25, 3) := by decide +kernel
theorem dX12_write_84 : decode cX12_write 84 = .ok (.iload_n 1, 1) := by decide +kernel
theorem dX12_write_85 : decode cX12_write 85 = .ok (.iaload, 1) := by decide +kernel
theorem dX12_write_86 : decode cX12_write 86 = .ok (.lload_n 3, 1) := by decide +kernel
theorem dX12_write_87 : decode cX12_write 87 = .ok (.invokestatic 259, 3) := by decide +kernel
theorem dX12_write_90 : decode cX12_write 90 = .ok (.lastore, 1) := by decide +kernel
theorem dX12_write_91 : decode cX12_write 91 = .ok (.lload 5, 2) := by decide +kernel
theorem dX12_write_93 : decode cX12_write 93 = .ok (.lreturn, 1) := by decide +kernel
theorem dX12_isPart__0 : decode cX12_isPart_ 0 = .ok (.iload_n 2, 1) := by decide +kernel
theorem dX12_isPart__1 : decode cX12_isPart_ 1 = .ok (.ifCond .lt 33, 3) := by decide +kernel
theorem dX12_isPart__4 : decode cX12_isPart_ 4 = .ok (.iload_n 3, 1) := by decide +kernel
theorem dX12_isPart__5 : decode cX12_isPart_ 5 = .ok (.ifCond .lt 29, 3) := by decide +kernel
theorem dX12_isPart__8 : decode cX12_isPart_ 8 = .ok (.iload_n 3, 1) := by decide +kernel
theorem dX12_isPart__9 : decode cX12_isPart_ 9 = .ok (.aload_n 0, 1) := by decide +kernel
theorem dX12_isPart__10 : decode cX12_isPart_ 10 = .ok (.getfield 28, 3) := by decide +kernel
theorem dX12_isPart__13 : decode cX12_isPart_ 13 = .ok (.iload_n 1, 1) := by decide +kernel
theorem dX12_isPart__14 : decode cX12_isPart_ 14 = .ok (.iaload, 1) := by decide +kernel
theorem dX12_isPart__15 : decode cX12_isPart_ 15 = .ok (.if_icmp .gt 19, 3) := by decide +kernel
theorem dX12_isPart__18 : decode cX12_isPart_ 18 = .ok (.iload_n 2, 1) := by decide +kernel
theorem dX12_isPart__19 : decode cX12_isPart_ 19 = .ok (.aload_n 0, 1) := by decide +kernel
theorem dX12_isPart__20 : decode cX12_isPart_ 20 = .ok (.getfield 28, 3) := by decide +kernel
theorem dX12_isPart__23 : decode cX12_isPart_ 23 = .ok (.iload_n 1, 1) := by decide +kernel
theorem dX12_isPart__24 : decode cX12_isPart_ 24 = .ok (.iaload, 1) := by decide +kernel
theorem dX12_isPart__25 : decode cX12_isPart_ 25 = .ok (.iload_n 3, 1) := by decide +kernel
theorem dX12_isPart__26 : decode cX12_isPart_ 26 = .ok (.isub, 1) := by decide +kernel
theorem dX12_isPart__27 : decode cX12_isPart_ 27 = .ok (.if_icmp .gt 7, 3) := by decide +kernel
theorem dX12_isPart__30 : decode cX12_isPart_ 30 = .ok (.iconst 1, 1) := by decide +kernel
theorem dX12_isPart__31 : decode cX12_isPart_ 31 = .ok (.goto 4, 3) := by decide +kernel
theorem dX12_isPart__34 : decode cX12_isPart_ 34 = .ok (.iconst 0, 1) := by decide +kernel
theorem dX12_isPart__35 : decode cX12_isPart_ 35 = .ok (.ireturn, 1) := by decide +kernel
theorem dX12_copy_0 : decode cX12_copy 0 = .ok (.iload_n 1, 1) := by decide +kernel
theorem dX12_copy_1 : decode cX12_copy 1 = .ok (.invokestatic 254, 3) := by decide +kernel
theorem dX12_copy_4 : decode cX12_copy 4 = .ok (.ifCond .eq 10, 3) := by decide +kernel
theorem dX12_copy_7 : decode cX12_copy 7 = .ok (.iload_n 3, 1) := by decide +kernel
theorem dX12_copy_8 : decode cX12_copy 8 = .ok (.invokestatic 254, 3) := by decide +kernel
theorem dX12_copy_11 : decode cX12_copy 11 = .ok (.ifCond .ne 10, 3) := by decide +kernel
theorem dX12_copy_14 : decode cX12_copy 14 = .ok (.aload_n 0, 1) := by decide +kernel
theorem dX12_copy_15 : decode cX12_copy 15 = .ok (.ldc 44, 2) := by decide +kernel
theorem dX12_copy_17 : decode cX12_copy 17 = .ok (.invokevirtual 53, 3) := by decide +kernel
theorem dX12_copy_20 : decode cX12_copy 20 = .ok (.ireturn, 1) := by decide +kernel
theorem dX12_copy_21 : decode cX12_copy 21 = .ok (.aload_n 0, 1) := by decide +kernel
theorem dX12_copy_22 : decode cX12_copy 22 = .ok (.getfield 25, 3) := by decide +kernel
theorem dX12_copy_25 : decode cX12_copy 25 = .ok (.iload_n 1, 1) := by decide +kernel
theorem dX12_copy_26 : decode cX12_copy 26 = .ok (.iaload, 1) := by decide +kernel
theorem dX12_copy_27 : decode cX12_copy 27 = .ok (.ifCond .eq 12, 3) := by decide +kernel
theorem dX12_copy_30 : decode cX12_copy 30 = .ok (.aload_n 0, 1) := by decide +kernel
theorem dX12_copy_31 : decode cX12_copy 31 = .ok (.getfield 25, 3) := by decide +kernel
theorem dX12_copy_34 : decode cX12_copy 34 = .ok (.iload_n 3, 1) := by decide +kernel
theorem dX12_copy_35 : decode cX12_copy 35 = .ok (.iaload, 1) := by decide +kernel
theorem dX12_copy_36 : decode cX12_copy 36 = .ok (.ifCond .ne 11, 3) := by decide +kernel
theorem dX12_copy_39 : decode cX12_copy 39 = .ok (.aload_n 0, 1) := by decide +kernel
theorem dX12_copy_40 : decode cX12_copy 40 = .ok (.ldc_w 258, 3) := by decide +kernel
theorem dX12_copy_43 : decode cX12_copy 43 = .ok (.invokevirtual 53, 3) := by decide +kernel
theorem dX12_copy_46 : decode cX12_copy 46 = .ok (.ireturn, 1) := by decide +kernel
theorem dX12_copy_47 : decode cX12_copy 47 = .ok (.aload_n 0, 1) := by decide +kernel
theorem dX12_copy_48 : decode cX12_copy 48 = .ok (.getfield 25, 3) := by decide +kernel
theorem dX12_copy_51 : decode cX12_copy 51 = .ok (.iload_n 1, 1) := by decide +kernel
theorem dX12_copy_52 : decode cX12_copy 52 = .ok (.iaload, 1) := by decide +kernel
theorem dX12_copy_53 : decode cX12_copy 53 = .ok (.aload_n 0, 1) := by decide +kernel
theorem dX12_copy_54 : decode cX12_copy 54 = .ok (.getfield 25, 3) := by decide +kernel
theorem dX12_copy_57 : decode cX12_copy 57 = .ok (.iload_n 3, 1) := by decide +kernel
theorem dX12_copy_58 : decode cX12_copy 58 = .ok (.iaload, 1) := by decide +kernel
theorem dX12_copy_59 : decode cX12_copy 59 = .ok (.if_icmp .eq 10, 3) := by decide +kernel
theorem dX12_copy_62 : decode cX12_copy 62 = .ok (.aload_n 0, 1) := by decide +kernel
theorem dX12_copy_63 : decode cX12_copy 63 = .ok (.ldc 118, 2) := by decide +kernel
theorem dX12_copy_65 : decode cX12_copy 65 = .ok (.invokevirtual 53, 3) := by decide +kernel
theorem dX12_copy_68 : decode cX12_copy 68 = .ok (.ireturn, 1) := by decide +kernel
theorem dX12_copy_69 : decode cX12_copy 69 = .ok (.aload_n 0, 1) := by decide +kernel
theorem dX12_copy_70 : decode cX12_copy 70 = .ok (.iload_n 1, 1) := by decide +kernel
theorem dX12_copy_71 : decode cX12_copy 71 = .ok (.iload_n 2, 1) := by decide +kernel
theorem dX12_copy_72 : decode cX12_copy 72 = .ok (.iload 5, 2) := by decide +kernel
theorem dX12_copy_74 : decode cX12_copy 74 = .ok (.invokevirtual 263, 3) := by decide +kernel
theorem dX12_copy_77 : decode cX12_copy 77 = .ok (.ifCond .eq 15, 3) := by decide +kernel
theorem dX12_copy_80 : decode cX12_copy 80 = .ok (.aload_n 0, 1) := by decide +kernel
theorem dX12_copy_81 : decode cX12_copy 81 = .ok (.iload_n 3, 1) := by decide +kernel
theorem dX12_copy_82 : decode cX12_copy 82 = .ok (.iload 4, 2) := by decide +kernel
theorem dX12_copy_84 : decode cX12_copy 84 = .ok (.iload 5, 2) := by decide +kernel
theorem dX12_copy_86 : decode cX12_copy 86 = .ok (.invokevirtual 263, 3) := by decide +kernel
theorem dX12_copy_89 : decode cX12_copy 89 = .ok (.ifCond .ne 10, 3) := by decide +kernel
theorem dX12_copy_92 : decode cX12_copy 92 = .ok (.aload_n 0, 1) := by decide +kernel
theorem dX12_copy_93 : decode cX12_copy 93 = .ok (.ldc 44, 2) := by decide +kernel
theorem dX12_copy_95 : decode cX12_copy 95 = .ok (.invokevirtual 53, 3) := by decide +kernel
theorem dX12_copy_98 : decode cX12_copy 98 = .ok (.ireturn, 1) := by decide +kernel
theorem dX12_copy_99 : decode cX12_copy 99 = .ok (.iconst 0, 1) := by decide +kernel
theorem dX12_copy_100 : decode cX12_copy 100 = .ok (.istore 6, 2) := by decide +kernel
theorem dX12_copy_102 : decode cX12_copy 102 = .ok (.iload 6, 2) := by decide +kernel
theorem dX12_copy_104 : decode cX12_copy 104 = .ok (.iload 5, 2) := by decide +kernel
theorem dX12_copy_106 : decode cX12_copy 106 = .ok (.if_icmp .ge 30, 3) := by decide +kernel
theorem dX12_copy_109 : decode cX12_copy 109 = .ok (.aload_n 0, 1) := by decide +kernel
theorem dX12_copy_110 : decode cX12_copy 110 = .ok (.getfield 35, 3) := by decide +kernel
theorem dX12_copy_113 : decode cX12_copy 113 = .ok (.iload 6, 2) := by decide +kernel
theorem dX12_copy_115 : decode cX12_copy 115 = .ok (.aload_n 0, 1) := by decide +kernel
theorem dX12_copy_116 : decode cX12_copy 116 = .ok (.getfield 31, 3) := by decide +kernel
theorem dX12_copy_119 : decode cX12_copy 119 = .ok (.bipush 40, 2) := by decide +kernel
theorem dX12_copy_121 : decode cX12_copy 121 = .ok (.iload_n 1, 1) := by decide +kernel
theorem dX12_copy_122 : decode cX12_copy 122 = .ok (.imul, 1) := by decide +kernel
theorem dX12_copy_123 : decode cX12_copy 123 = .ok (.iload_n 2, 1) := by decide +kernel
theorem dX12_copy_124 : decode cX12_copy 124 = .ok (.iadd, 1) := by decide +kernel
theorem dX12_copy_125 : decode cX12_copy 125 = .ok (.iload 6, 2) := by decide +kernel
theorem dX12_copy_127 : decode cX12_copy 127 = .ok (.iadd, 1) := by decide +kernel
theorem dX12_copy_128 : decode cX12_copy 128 = .ok (.laload, 1) := by decide +kernel
theorem dX12_copy_129 : decode cX12_copy 129 = .ok (.lastore, 1) := by decide +kernel
theorem dX12_copy_130 : decode cX12_copy 130 = .ok (.iinc 6 1, 3) := by decide +kernel
theorem dX12_copy_133 : decode cX12_copy 133 = .ok (.goto (-31), 3) := by decide +kernel
theorem dX12_copy_136 : decode cX12_copy 136 = .ok (.iconst 0, 1) := by decide +kernel
theorem dX12_copy_137 : decode cX12_copy 137 = .ok (.istore 6, 2) := by decide +kernel
theorem dX12_copy_139 : decode cX12_copy 139 = .ok (.iload 6, 2) := by decide +kernel
theorem dX12_copy_141 : decode cX12_copy 141 = .ok (.iload 5, 2) := by decide +kernel
theorem dX12_copy_143 : decode cX12_copy 143 = .ok (.if_icmp .ge 31, 3) := by decide +kernel
theorem dX12_copy_146 : decode cX12_copy 146 = .ok (.aload_n 0, 1) := by decide +kernel
theorem dX12_copy_147 : decode cX12_copy 147 = .ok (.getfield 31, 3) := by decide +kernel
theorem dX12_copy_150 : decode cX12_copy 150 = .ok (.bipush 40, 2) := by decide +kernel
theorem dX12_copy_152 : decode cX12_copy 152 = .ok (.iload_n 3, 1) := by decide +kernel
theorem dX12_copy_153 : decode cX12_copy 153 = .ok (.imul, 1) := by decide +kernel
theorem dX12_copy_154 : decode cX12_copy 154 = .ok (.iload 4, 2) := by decide +kernel
theorem dX12_copy_156 : decode cX12_copy 156 = .ok (.iadd, 1) := by decide +kernel
theorem dX12_copy_157 : decode cX12_copy 157 = .ok (.iload 6, 2) := by decide +kernel
theorem dX12_copy_159 : decode cX12_copy 159 = .ok (.iadd, 1) := by decide +kernel
theorem dX12_copy_160 : decode cX12_copy 160 = .ok (.aload_n 0, 1) := by decide +kernel
theorem dX12_copy_161 : decode cX12_copy 161 = .ok (.getfield 35, 3) := by decide +kernel
theorem dX12_copy_164 : decode cX12_copy 164 = .ok (.iload 6, 2) := by decide +kernel
theorem dX12_copy_166 : decode cX12_copy 166 = .ok (.laload, 1) := by decide +kernel
theorem dX12_copy_167 : decode cX12_copy 167 = .ok (.lastore, 1) := by decide +kernel
theorem dX12_copy_168 : decode cX12_copy 168 = .ok (.iinc 6 1, 3) := by decide +kernel
theorem dX12_copy_171 : decode cX12_copy 171 = .ok (.goto (-32), 3) := by decide +kernel
theorem dX12_copy_174 : decode cX12_copy 174 = .ok (.iload 5, 2) := by decide +kernel
theorem dX12_copy_176 : decode cX12_copy 176 = .ok (.ireturn, 1) := by decide +kernel
theorem dX12_badSheet_0 : decode cX12_badSheet 0 = .ok (.iload_n 1, 1) := by decide +kernel
theorem dX12_badSheet_1 : decode cX12_badSheet 1 = .ok (.invokestatic 254, 3) := by decide +kernel
theorem dX12_badSheet_4 : decode cX12_badSheet 4 = .ok (.ifCond .ne 8, 3) := by decide +kernel
theorem dX12_badSheet_7 : decode cX12_badSheet 7 = .ok (.ldc 44, 2) := by decide +kernel
theorem dX12_badSheet_9 : decode cX12_badSheet 9 = .ok (.goto 19, 3) := by decide +kernel
theorem dX12_badSheet_12 : decode cX12_badSheet 12 = .ok (.aload_n 0, 1) := by decide +kernel
theorem dX12_badSheet_13 : decode cX12_badSheet 13 = .ok (.getfield 25, 3) := by decide +kernel
theorem dX12_badSheet_16 : decode cX12_badSheet 16 = .ok (.iload_n 1, 1) := by decide +kernel
theorem dX12_badSheet_17 : decode cX12_badSheet 17 = .ok (.iaload, 1) := by decide +kernel
theorem dX12_badSheet_18 : decode cX12_badSheet 18 = .ok (.ifCond .ne 9, 3) := by decide +kernel
theorem dX12_badSheet_21 : decode cX12_badSheet 21 = .ok (.ldc_w 258, 3) := by decide +kernel
theorem dX12_badSheet_24 : decode cX12_badSheet 24 = .ok (.goto 4, 3) := by decide +kernel
theorem dX12_badSheet_27 : decode cX12_badSheet 27 = .ok (.iconst 0, 1) := by decide +kernel
theorem dX12_badSheet_28 : decode cX12_badSheet 28 = .ok (.ireturn, 1) := by decide +kernel
theorem dX12_lays_0 : decode cX12_lays 0 = .ok (.aload_n 0, 1) := by decide +kernel
theorem dX12_lays_1 : decode cX12_lays 1 = .ok (.iload_n 1, 1) := by decide +kernel
theorem dX12_lays_2 : decode cX12_lays 2 = .ok (.invokevirtual 265, 3) := by decide +kernel
theorem dX12_lays_5 : decode cX12_lays 5 = .ok (.istore_n 2, 1) := by decide +kernel
theorem dX12_lays_6 : decode cX12_lays 6 = .ok (.iload_n 2, 1) := by decide +kernel
theorem dX12_lays_7 : decode cX12_lays 7 = .ok (.ifCond .eq 9, 3) := by decide +kernel
theorem dX12_lays_10 : decode cX12_lays 10 = .ok (.aload_n 0, 1) := by decide +kernel
theorem dX12_lays_11 : decode cX12_lays 11 = .ok (.iload_n 2, 1) := by decide +kernel
theorem dX12_lays_12 : decode cX12_lays 12 = .ok (.invokevirtual 53, 3) := by decide +kernel
theorem dX12_lays_15 : decode cX12_lays 15 = .ok (.ireturn, 1) := by decide +kernel
theorem dX12_lays_16 : decode cX12_lays 16 = .ok (.iconst 0, 1) := by decide +kernel
theorem dX12_lays_17 : decode cX12_lays 17 = .ok (.istore_n 3, 1) := by decide +kernel
theorem dX12_lays_18 : decode cX12_lays 18 = .ok (.iconst 0, 1) := by decide +kernel
theorem dX12_lays_19 : decode cX12_lays 19 = .ok (.istore 4, 2) := by decide +kernel
theorem dX12_lays_21 : decode cX12_lays 21 = .ok (.iload 4, 2) := by decide +kernel
theorem dX12_lays_23 : decode cX12_lays 23 = .ok (.aload_n 0, 1) := by decide +kernel
theorem dX12_lays_24 : decode cX12_lays 24 = .ok (.getfield 28, 3) := by decide +kernel
theorem dX12_lays_27 : decode cX12_lays 27 = .ok (.iload_n 1, 1) := by decide +kernel
theorem dX12_lays_28 : decode cX12_lays 28 = .ok (.iaload, 1) := by decide +kernel
theorem dX12_lays_29 : decode cX12_lays 29 = .ok (.if_icmp .ge 63, 3) := by decide +kernel
theorem dX12_lays_32 : decode cX12_lays 32 = .ok (.iload 4, 2) := by decide +kernel
theorem dX12_lays_34 : decode cX12_lays 34 = .ok (.aload_n 0, 1) := by decide +kernel
theorem dX12_lays_35 : decode cX12_lays 35 = .ok (.getfield 7, 3) := by decide +kernel
theorem dX12_lays_38 : decode cX12_lays 38 = .ok (.iconst 5, 1) := by decide +kernel
theorem dX12_lays_39 : decode cX12_lays 39 = .ok (.iaload, 1) := by decide +kernel
theorem dX12_lays_40 : decode cX12_lays 40 = .ok (.if_icmp .ge 52, 3) := by decide +kernel
theorem dX12_lays_43 : decode cX12_lays 43 = .ok (.aload_n 0, 1) := by decide +kernel
theorem dX12_lays_44 : decode cX12_lays 44 = .ok (.getfield 31, 3) := by decide +kernel
theorem dX12_lays_47 : decode cX12_lays 47 = .ok (.bipush 40, 2) := by decide +kernel
theorem dX12_lays_49 : decode cX12_lays 49 = .ok (.iload_n 1, 1) := by decide +kernel
theorem dX12_lays_50 : decode cX12_lays 50 = .ok (.imul, 1) := by decide +kernel
theorem dX12_lays_51 : decode cX12_lays 51 = .ok (.iload 4, 2) := by decide +kernel
theorem dX12_lays_53 : decode cX12_lays 53 = .ok (.iadd, 1) := by decide +kernel
theorem dX12_lays_54 : decode cX12_lays 54 = .ok (.laload, 1) := by decide +kernel
theorem dX12_lays_55 : decode cX12_lays 55 = .ok (.lstore 5, 2) := by decide +kernel
theorem dX12_lays_57 : decode cX12_lays 57 = .ok (.lload 5, 2) := by decide +kernel
theorem dX12_lays_59 : decode cX12_lays 59 = .ok (.lconst 0, 1) := by decide +kernel
theorem dX12_lays_60 : decode cX12_lays 60 = .ok (.lcmp, 1) := by decide +kernel
theorem dX12_lays_61 : decode cX12_lays 61 = .ok (.ifCond .lt 25, 3) := by decide +kernel
theorem dX12_lays_64 : decode cX12_lays 64 = .ok (.lload 5, 2) := by decide +kernel
theorem dX12_lays_66 : decode cX12_lays 66 = .ok (.ldc2_w 268, 3) := by decide +kernel
theorem dX12_lays_69 : decode cX12_lays 69 = .ok (.lcmp, 1) := by decide +kernel
theorem dX12_lays_70 : decode cX12_lays 70 = .ok (.ifCond .ge 16, 3) := by decide +kernel
theorem dX12_lays_73 : decode cX12_lays 73 = .ok (.aload_n 0, 1) := by decide +kernel
theorem dX12_lays_74 : decode cX12_lays 74 = .ok (.iload 4, 2) := by decide +kernel
theorem dX12_lays_76 : decode cX12_lays 76 = .ok (.iconst 2, 1) := by decide +kernel
theorem dX12_lays_77 : decode cX12_lays 77 = .ok (.lload 5, 2) := by decide +kernel
theorem dX12_lays_79 : decode cX12_lays 79 = .ok (.l2i, 1) := by decide +kernel
theorem dX12_lays_80 : decode cX12_lays 80 = .ok (.invokevirtual 88, 3) := by decide +kernel
theorem dX12_lays_83 : decode cX12_lays 83 = .ok (.iinc 3 1, 3) := by decide +kernel
theorem dX12_lays_86 : decode cX12_lays 86 = .ok (.iinc 4 1, 3) := by decide +kernel
theorem dX12_lays_89 : decode cX12_lays 89 = .ok (.goto (-68), 3) := by decide +kernel
theorem dX12_lays_92 : decode cX12_lays 92 = .ok (.iload_n 3, 1) := by decide +kernel
theorem dX12_lays_93 : decode cX12_lays 93 = .ok (.ireturn, 1) := by decide +kernel
theorem dX12_book_0 : decode cX12_book 0 = .ok (.aload_n 0, 1) := by decide +kernel
theorem dX12_book_1 : decode cX12_book 1 = .ok (.iload_n 1, 1) := by decide +kernel
theorem dX12_book_2 : decode cX12_book 2 = .ok (.invokevirtual 265, 3) := by decide +kernel
theorem dX12_book_5 : decode cX12_book 5 = .ok (.istore_n 3, 1) := by decide +kernel
theorem dX12_book_6 : decode cX12_book 6 = .ok (.iload_n 3, 1) := by decide +kernel
theorem dX12_book_7 : decode cX12_book 7 = .ok (.ifCond .eq 9, 3) := by decide +kernel
theorem dX12_book_10 : decode cX12_book 10 = .ok (.aload_n 0, 1) := by decide +kernel
theorem dX12_book_11 : decode cX12_book 11 = .ok (.iload_n 3, 1) := by decide +kernel
theorem dX12_book_12 : decode cX12_book 12 = .ok (.invokevirtual 53, 3) := by decide +kernel
theorem dX12_book_15 : decode cX12_book 15 = .ok (.ireturn, 1) := by decide +kernel
theorem dX12_book_16 : decode cX12_book 16 = .ok (.aload_n 0, 1) := by decide +kernel
theorem dX12_book_17 : decode cX12_book 17 = .ok (.iload_n 2, 1) := by decide +kernel
theorem dX12_book_18 : decode cX12_book 18 = .ok (.invokevirtual 99, 3) := by decide +kernel
theorem dX12_book_21 : decode cX12_book 21 = .ok (.ifCond .ne 10, 3) := by decide +kernel
theorem dX12_book_24 : decode cX12_book 24 = .ok (.aload_n 0, 1) := by decide +kernel
theorem dX12_book_25 : decode cX12_book 25 = .ok (.ldc 44, 2) := by decide +kernel
theorem dX12_book_27 : decode cX12_book 27 = .ok (.invokevirtual 53, 3) := by decide +kernel
theorem dX12_book_30 : decode cX12_book 30 = .ok (.ireturn, 1) := by decide +kernel
theorem dX12_book_31 : decode cX12_book 31 = .ok (.aload_n 0, 1) := by decide +kernel
theorem dX12_book_32 : decode cX12_book 32 = .ok (.iconst 1, 1) := by decide +kernel
theorem dX12_book_33 : decode cX12_book 33 = .ok (.aload_n 0, 1) := by decide +kernel
theorem dX12_book_34 : decode cX12_book 34 = .ok (.getfield 16, 3) := by decide +kernel
theorem dX12_book_37 : decode cX12_book 37 = .ok (.invokevirtual 143, 3) := by decide +kernel
theorem dX12_book_40 : decode cX12_book 40 = .ok (.iconst 0, 1) := by decide +kernel
theorem dX12_book_41 : decode cX12_book 41 = .ok (.istore 4, 2) := by decide +kernel
theorem dX12_book_43 : decode cX12_book 43 = .ok (.iload 4, 2) := by decide +kernel
theorem dX12_book_45 : decode cX12_book 45 = .ok (.aload_n 0, 1) := by decide +kernel
theorem dX12_book_46 : decode cX12_book 46 = .ok (.getfield 28, 3) := by decide +kernel
theorem dX12_book_49 : decode cX12_book 49 = .ok (.iload_n 1, 1) := by decide +kernel
theorem dX12_book_50 : decode cX12_book 50 = .ok (.iaload, 1) := by decide +kernel
theorem dX12_book_51 : decode cX12_book 51 = .ok (.if_icmp .ge 32, 3) := by decide +kernel
theorem dX12_book_54 : decode cX12_book 54 = .ok (.aload_n 0, 1) := by decide +kernel
theorem dX12_book_55 : decode cX12_book 55 = .ok (.getfield 31, 3) := by decide +kernel
theorem dX12_book_58 : decode cX12_book 58 = .ok (.bipush 40, 2) := by decide +kernel
theorem dX12_book_60 : decode cX12_book 60 = .ok (.iload_n 1, 1) := by decide +kernel
theorem dX12_book_61 : decode cX12_book 61 = .ok (.imul, 1) := by decide +kernel
theorem dX12_book_62 : decode cX12_book 62 = .ok (.iload 4, 2) := by decide +kernel
theorem dX12_book_64 : decode cX12_book 64 = .ok (.iadd, 1) := by decide +kernel
theorem dX12_book_65 : decode cX12_book 65 = .ok (.aload_n 0, 1) := by decide +kernel
theorem dX12_book_66 : decode cX12_book 66 = .ok (.iload_n 2, 1) := by decide +kernel
theorem dX12_book_67 : decode cX12_book 67 = .ok (.iconst 2, 1) := by decide +kernel
theorem dX12_book_68 : decode cX12_book 68 = .ok (.invokevirtual 69, 3) := by decide +kernel
theorem dX12_book_71 : decode cX12_book 71 = .ok (.i2l, 1) := by decide +kernel
theorem dX12_book_72 : decode cX12_book 72 = .ok (.lastore, 1) := by decide +kernel
theorem dX12_book_73 : decode cX12_book 73 = .ok (.aload_n 0, 1) := by decide +kernel
theorem dX12_book_74 : decode cX12_book 74 = .ok (.invokevirtual 135, 3) := by decide +kernel
theorem dX12_book_77 : decode cX12_book 77 = .ok (.iinc 4 1, 3) := by decide +kernel
theorem dX12_book_80 : decode cX12_book 80 = .ok (.goto (-37), 3) := by decide +kernel
theorem dX12_book_83 : decode cX12_book 83 = .ok (.aload_n 0, 1) := by decide +kernel
theorem dX12_book_84 : decode cX12_book 84 = .ok (.iconst 0, 1) := by decide +kernel
theorem dX12_book_85 : decode cX12_book 85 = .ok (.aload_n 0, 1) := by decide +kernel
theorem dX12_book_86 : decode cX12_book 86 = .ok (.getfield 16, 3) := by decide +kernel
theorem dX12_book_89 : decode cX12_book 89 = .ok (.invokevirtual 143, 3) := by decide +kernel
theorem dX12_book_92 : decode cX12_book 92 = .ok (.aload_n 0, 1) := by decide +kernel
theorem dX12_book_93 : decode cX12_book 93 = .ok (.getfield 28, 3) := by decide +kernel
theorem dX12_book_96 : decode cX12_book 96 = .ok (.iload_n 1, 1) := by decide +kernel
theorem dX12_book_97 : decode cX12_book 97 = .ok (.iaload, 1) := by decide +kernel
theorem dX12_book_98 : decode cX12_book 98 = .ok (.ireturn, 1) := by decide +kernel
theorem dX12_isSo_0 : decode cX12_isSo 0 = .ok (.iconst 1, 1) := by decide +kernel
theorem dX12_isSo_1 : decode cX12_isSo 1 = .ok (.istore_n 3, 1) := by decide +kernel
theorem dX12_isSo_2 : decode cX12_isSo 2 = .ok (.iconst 0, 1) := by decide +kernel
theorem dX12_isSo_3 : decode cX12_isSo 3 = .ok (.istore 4, 2) := by decide +kernel
theorem dX12_isSo_5 : decode cX12_isSo 5 = .ok (.iload 4, 2) := by decide +kernel
theorem dX12_isSo_7 : decode cX12_isSo 7 = .ok (.aload_n 0, 1) := by decide +kernel
theorem dX12_isSo_8 : decode cX12_isSo 8 = .ok (.getfield 28, 3) := by decide +kernel
theorem dX12_isSo_11 : decode cX12_isSo 11 = .ok (.iload_n 1, 1) := by decide +kernel
theorem dX12_isSo_12 : decode cX12_isSo 12 = .ok (.iaload, 1) := by decide +kernel
theorem dX12_isSo_13 : decode cX12_isSo 13 = .ok (.if_icmp .ge 46, 3) := by decide +kernel
theorem dX12_isSo_16 : decode cX12_isSo 16 = .ok (.iload_n 3, 1) := by decide +kernel
theorem dX12_isSo_17 : decode cX12_isSo 17 = .ok (.ifCond .eq 42, 3) := by decide +kernel
theorem dX12_isSo_20 : decode cX12_isSo 20 = .ok (.aload_n 0, 1) := by decide +kernel
theorem dX12_isSo_21 : decode cX12_isSo 21 = .ok (.getfield 31, 3) := by decide +kernel
theorem dX12_isSo_24 : decode cX12_isSo 24 = .ok (.bipush 40, 2) := by decide +kernel
theorem dX12_isSo_26 : decode cX12_isSo 26 = .ok (.iload_n 1, 1) := by decide +kernel
theorem dX12_isSo_27 : decode cX12_isSo 27 = .ok (.imul, 1) := by decide +kernel
theorem dX12_isSo_28 : decode cX12_isSo 28 = .ok (.iload 4, 2) := by decide +kernel
theorem dX12_isSo_30 : decode cX12_isSo 30 = .ok (.iadd, 1) := by decide +kernel
theorem dX12_isSo_31 : decode cX12_isSo 31 = .ok (.laload, 1) := by decide +kernel
theorem dX12_isSo_32 : decode cX12_isSo 32 = .ok (.aload_n 0, 1) := by decide +kernel
theorem dX12_isSo_33 : decode cX12_isSo 33 = .ok (.iload_n 2, 1) := by decide +kernel
theorem dX12_isSo_34 : decode cX12_isSo 34 = .ok (.iconst 2, 1) := by decide +kernel
theorem dX12_isSo_35 : decode cX12_isSo 35 = .ok (.invokevirtual 69, 3) := by decide +kernel
theorem dX12_isSo_38 : decode cX12_isSo 38 = .ok (.i2l, 1) := by decide +kernel
theorem dX12_isSo_39 : decode cX12_isSo 39 = .ok (.lcmp, 1) := by decide +kernel
theorem dX12_isSo_40 : decode cX12_isSo 40 = .ok (.ifCond .ne 7, 3) := by decide +kernel
theorem dX12_isSo_43 : decode cX12_isSo 43 = .ok (.iconst 1, 1) := by decide +kernel
theorem dX12_isSo_44 : decode cX12_isSo 44 = .ok (.goto 4, 3) := by decide +kernel
theorem dX12_isSo_47 : decode cX12_isSo 47 = .ok (.iconst 0, 1) := by decide +kernel
theorem dX12_isSo_48 : decode cX12_isSo 48 = .ok (.istore_n 3, 1) := by decide +kernel
theorem dX12_isSo_49 : decode cX12_isSo 49 = .ok (.aload_n 0, 1) := by decide +kernel
theorem dX12_isSo_50 : decode cX12_isSo 50 = .ok (.invokevirtual 135, 3) := by decide +kernel
theorem dX12_isSo_53 : decode cX12_isSo 53 = .ok (.iinc 4 1, 3) := by decide +kernel
theorem dX12_isSo_56 : decode cX12_isSo 56 = .ok (.goto (-51), 3) := by decide +kernel
theorem dX12_isSo_59 : decode cX12_isSo 59 = .ok (.iload_n 3, 1) := by decide +kernel
theorem dX12_isSo_60 : decode cX12_isSo 60 = .ok (.ireturn, 1) := by decide +kernel
theorem dX12_read_0 : decode cX12_read 0 = .ok (.aload_n 0, 1) := by decide +kernel
theorem dX12_read_1 : decode cX12_read 1 = .ok (.iload_n 1, 1) := by decide +kernel
theorem dX12_read_2 : decode cX12_read 2 = .ok (.invokevirtual 265, 3) := by decide +kernel
theorem dX12_read_5 : decode cX12_read 5 = .ok (.istore_n 3, 1) := by decide +kernel
theorem dX12_read_6 : decode cX12_read 6 = .ok (.iload_n 3, 1) := by decide +kernel
theorem dX12_read_7 : decode cX12_read 7 = .ok (.ifCond .eq 9, 3) := by decide +kernel
theorem dX12_read_10 : decode cX12_read 10 = .ok (.aload_n 0, 1) := by decide +kernel
theorem dX12_read_11 : decode cX12_read 11 = .ok (.iload_n 3, 1) := by decide +kernel
theorem dX12_read_12 : decode cX12_read 12 = .ok (.invokevirtual 53, 3) := by decide +kernel
theorem dX12_read_15 : decode cX12_read 15 = .ok (.ireturn, 1) := by decide +kernel
theorem dX12_read_16 : decode cX12_read 16 = .ok (.aload_n 0, 1) := by decide +kernel
theorem dX12_read_17 : decode cX12_read 17 = .ok (.iload_n 2, 1) := by decide +kernel
theorem dX12_read_18 : decode cX12_read 18 = .ok (.invokevirtual 99, 3) := by decide +kernel
theorem dX12_read_21 : decode cX12_read 21 = .ok (.ifCond .ne 10, 3) := by decide +kernel
theorem dX12_read_24 : decode cX12_read 24 = .ok (.aload_n 0, 1) := by decide +kernel
theorem dX12_read_25 : decode cX12_read 25 = .ok (.ldc 44, 2) := by decide +kernel
theorem dX12_read_27 : decode cX12_read 27 = .ok (.invokevirtual 53, 3) := by decide +kernel
theorem dX12_read_30 : decode cX12_read 30 = .ok (.ireturn, 1) := by decide +kernel
theorem dX12_read_31 : decode cX12_read 31 = .ok (.iconst 0, 1) := by decide +kernel
theorem dX12_read_32 : decode cX12_read 32 = .ok (.istore 4, 2) := by decide +kernel
theorem dX12_read_34 : decode cX12_read 34 = .ok (.aload_n 0, 1) := by decide +kernel
theorem dX12_read_35 : decode cX12_read 35 = .ok (.iconst 1, 1) := by decide +kernel
theorem dX12_read_36 : decode cX12_read 36 = .ok (.aload_n 0, 1) := by decide +kernel
theorem dX12_read_37 : decode cX12_read 37 = .ok (.getfield 19, 3) := by decide +kernel
theorem dX12_read_40 : decode cX12_read 40 = .ok (.invokevirtual 143, 3) := by decide +kernel
theorem dX12_read_43 : decode cX12_read 43 = .ok (.iconst 0, 1) := by decide +kernel
theorem dX12_read_44 : decode cX12_read 44 = .ok (.istore 5, 2) := by decide +kernel
theorem dX12_read_46 : decode cX12_read 46 = .ok (.iload 5, 2) := by decide +kernel
theorem dX12_read_48 : decode cX12_read 48 = .ok (.bipush 60, 2) := by decide +kernel
theorem dX12_read_50 : decode cX12_read 50 = .ok (.if_icmp .ge 59, 3) := by decide +kernel
theorem dX12_read_53 : decode cX12_read 53 = .ok (.aload_n 0, 1) := by decide +kernel
theorem dX12_read_54 : decode cX12_read 54 = .ok (.iload_n 2, 1) := by decide +kernel
theorem dX12_read_55 : decode cX12_read 55 = .ok (.iconst 0, 1) := by decide +kernel
theorem dX12_read_56 : decode cX12_read 56 = .ok (.iload 5, 2) := by decide +kernel
theorem dX12_read_58 : decode cX12_read 58 = .ok (.bipush 10, 2) := by decide +kernel
theorem dX12_read_60 : decode cX12_read 60 = .ok (.idiv, 1) := by decide +kernel
theorem dX12_read_61 : decode cX12_read 61 = .ok (.invokevirtual 88, 3) := by decide +kernel
theorem dX12_read_64 : decode cX12_read 64 = .ok (.aload_n 0, 1) := by decide +kernel
theorem dX12_read_65 : decode cX12_read 65 = .ok (.getfield 7, 3) := by decide +kernel
theorem dX12_read_68 : decode cX12_read 68 = .ok (.iconst 4, 1) := by decide +kernel
theorem dX12_read_69 : decode cX12_read 69 = .ok (.iload 5, 2) := by decide +kernel
theorem dX12_read_71 : decode cX12_read 71 = .ok (.bipush 10, 2) := by decide +kernel
theorem dX12_read_73 : decode cX12_read 73 = .ok (.irem, 1) := by decide +kernel
theorem dX12_read_74 : decode cX12_read 74 = .ok (.iastore, 1) := by decide +kernel
theorem dX12_read_75 : decode cX12_read 75 = .ok (.iload 4, 2) := by decide +kernel
theorem dX12_read_77 : decode cX12_read 77 = .ok (.aload_n 0, 1) := by decide +kernel
theorem dX12_read_78 : decode cX12_read 78 = .ok (.iload_n 1, 1) := by decide +kernel
theorem dX12_read_79 : decode cX12_read 79 = .ok (.iload_n 2, 1) := by decide +kernel
theorem dX12_read_80 : decode cX12_read 80 = .ok (.invokevirtual 270, 3) := by decide +kernel
theorem dX12_read_83 : decode cX12_read 83 = .ok (.ifCond .eq 7, 3) := by decide +kernel
theorem dX12_read_86 : decode cX12_read 86 = .ok (.iconst 1, 1) := by decide +kernel
theorem dX12_read_87 : decode cX12_read 87 = .ok (.goto 4, 3) := by decide +kernel
theorem dX12_read_90 : decode cX12_read 90 = .ok (.iconst 0, 1) := by decide +kernel
theorem dX12_read_91 : decode cX12_read 91 = .ok (.iadd, 1) := by decide +kernel
theorem dX12_read_92 : decode cX12_read 92 = .ok (.istore 4, 2) := by decide +kernel
theorem dX12_read_94 : decode cX12_read 94 = .ok (.aload_n 0, 1) := by decide +kernel
theorem dX12_read_95 : decode cX12_read 95 = .ok (.iconst 0, 1) := by decide +kernel
theorem dX12_read_96 : decode cX12_read 96 = .ok (.aload_n 0, 1) := by decide +kernel
theorem dX12_read_97 : decode cX12_read 97 = .ok (.getfield 19, 3) := by decide +kernel
theorem dX12_read_100 : decode cX12_read 100 = .ok (.invokevirtual 143, 3) := by decide +kernel
theorem dX12_read_103 : decode cX12_read 103 = .ok (.iinc 5 1, 3) := by decide +kernel
theorem dX12_read_106 : decode cX12_read 106 = .ok (.goto (-60), 3) := by decide +kernel
theorem dX12_read_109 : decode cX12_read 109 = .ok (.iload 4, 2) := by decide +kernel
theorem dX12_read_111 : decode cX12_read 111 = .ok (.ireturn, 1) := by decide +kernel
theorem dX12_moveAll_0 : decode cX12_moveAll 0 = .ok (.iconst 0, 1) := by decide +kernel
theorem dX12_moveAll_1 : decode cX12_moveAll 1 = .ok (.istore_n 3, 1) := by decide +kernel
theorem dX12_moveAll_2 : decode cX12_moveAll 2 = .ok (.iload_n 3, 1) := by decide +kernel
theorem dX12_moveAll_3 : decode cX12_moveAll 3 = .ok (.bipush 48, 2) := by decide +kernel
theorem dX12_moveAll_5 : decode cX12_moveAll 5 = .ok (.if_icmp .ge 34, 3) := by decide +kernel
theorem dX12_moveAll_8 : decode cX12_moveAll 8 = .ok (.iload_n 1, 1) := by decide +kernel
theorem dX12_moveAll_9 : decode cX12_moveAll 9 = .ok (.ifCond .eq 15, 3) := by decide +kernel
theorem dX12_moveAll_12 : decode cX12_moveAll 12 = .ok (.aload_n 2, 1) := by decide +kernel
theorem dX12_moveAll_13 : decode cX12_moveAll 13 = .ok (.iload_n 3, 1) := by decide +kernel
theorem dX12_moveAll_14 : decode cX12_moveAll 14 = .ok (.aload_n 0, 1) := by decide +kernel
theorem dX12_moveAll_15 : decode cX12_moveAll 15 = .ok (.getfield 7, 3) := by decide +kernel
theorem dX12_moveAll_18 : decode cX12_moveAll 18 = .ok (.iload_n 3, 1) := by decide +kernel
theorem dX12_moveAll_19 : decode cX12_moveAll 19 = .ok (.iaload, 1) := by decide +kernel
theorem dX12_moveAll_20 : decode cX12_moveAll 20 = .ok (.iastore, 1) := by decide +kernel
theorem dX12_moveAll_21 : decode cX12_moveAll 21 = .ok (.goto 12, 3) := by decide +kernel
theorem dX12_moveAll_24 : decode cX12_moveAll 24 = .ok (.aload_n 0, 1) := by decide +kernel
theorem dX12_moveAll_25 : decode cX12_moveAll 25 = .ok (.getfield 7, 3) := by decide +kernel
theorem dX12_moveAll_28 : decode cX12_moveAll 28 = .ok (.iload_n 3, 1) := by decide +kernel
theorem dX12_moveAll_29 : decode cX12_moveAll 29 = .ok (.aload_n 2, 1) := by decide +kernel
theorem dX12_moveAll_30 : decode cX12_moveAll 30 = .ok (.iload_n 3, 1) := by decide +kernel
theorem dX12_moveAll_31 : decode cX12_moveAll 31 = .ok (.iaload, 1) := by decide +kernel
theorem dX12_moveAll_32 : decode cX12_moveAll 32 = .ok (.iastore, 1) := by decide +kernel
theorem dX12_moveAll_33 : decode cX12_moveAll 33 = .ok (.iinc 3 1, 3) := by decide +kernel
theorem dX12_moveAll_36 : decode cX12_moveAll 36 = .ok (.goto (-34), 3) := by decide +kernel
theorem dX12_moveAll_39 : decode cX12_moveAll 39 = .ok (.return_, 1) := by decide +kernel
theorem dX12_image_0 : decode cX12_image 0 = .ok (.aload_n 0, 1) := by decide +kernel
theorem dX12_image_1 : decode cX12_image 1 = .ok (.iconst 1, 1) := by decide +kernel
theorem dX12_image_2 : decode cX12_image 2 = .ok (.aload_n 0, 1) := by decide +kernel
theorem dX12_image_3 : decode cX12_image 3 = .ok (.getfield 38, 3) := by decide +kernel
theorem dX12_image_6 : decode cX12_image 6 = .ok (.invokevirtual 143, 3) := by decide +kernel
theorem dX12_image_9 : decode cX12_image 9 = .ok (.aload_n 0, 1) := by decide +kernel
theorem dX12_image_10 : decode cX12_image 10 = .ok (.iconst 1, 1) := by decide +kernel
theorem dX12_image_11 : decode cX12_image 11 = .ok (.putfield 273, 3) := by decide +kernel
theorem dX12_image_14 : decode cX12_image 14 = .ok (.iconst 1, 1) := by decide +kernel
theorem dX12_image_15 : decode cX12_image 15 = .ok (.ireturn, 1) := by decide +kernel
theorem dX12_undo_0 : decode cX12_undo 0 = .ok (.aload_n 0, 1) := by decide +kernel
theorem dX12_undo_1 : decode cX12_undo 1 = .ok (.getfield 273, 3) := by decide +kernel
theorem dX12_undo_4 : decode cX12_undo 4 = .ok (.ifCond .ne 10, 3) := by decide +kernel
theorem dX12_undo_7 : decode cX12_undo 7 = .ok (.aload_n 0, 1) := by decide +kernel
theorem dX12_undo_8 : decode cX12_undo 8 = .ok (.ldc 150, 2) := by decide +kernel
theorem dX12_undo_10 : decode cX12_undo 10 = .ok (.invokevirtual 53, 3) := by decide +kernel
theorem dX12_undo_13 : decode cX12_undo 13 = .ok (.ireturn, 1) := by decide +kernel
theorem dX12_undo_14 : decode cX12_undo 14 = .ok (.aload_n 0, 1) := by decide +kernel
theorem dX12_undo_15 : decode cX12_undo 15 = .ok (.iconst 0, 1) := by decide +kernel
theorem dX12_undo_16 : decode cX12_undo 16 = .ok (.aload_n 0, 1) := by decide +kernel
theorem dX12_undo_17 : decode cX12_undo 17 = .ok (.getfield 38, 3) := by decide +kernel
theorem dX12_undo_20 : decode cX12_undo 20 = .ok (.invokevirtual 143, 3) := by decide +kernel
theorem dX12_undo_23 : decode cX12_undo 23 = .ok (.aload_n 0, 1) := by decide +kernel
theorem dX12_undo_24 : decode cX12_undo 24 = .ok (.getfield 7, 3) := by decide +kernel
theorem dX12_undo_27 : decode cX12_undo 27 = .ok (.iconst 5, 1) := by decide +kernel
theorem dX12_undo_28 : decode cX12_undo 28 = .ok (.iaload, 1) := by decide +kernel
theorem dX12_undo_29 : decode cX12_undo 29 = .ok (.ireturn, 1) := by decide +kernel
theorem dX12_tear_0 : decode cX12_tear 0 = .ok (.aload_n 0, 1) := by decide +kernel
theorem dX12_tear_1 : decode cX12_tear 1 = .ok (.getfield 273, 3) := by decide +kernel
theorem dX12_tear_4 : decode cX12_tear 4 = .ok (.ifCond .eq 7, 3) := by decide +kernel
theorem dX12_tear_7 : decode cX12_tear 7 = .ok (.iconst 1, 1) := by decide +kernel
theorem dX12_tear_8 : decode cX12_tear 8 = .ok (.goto 4, 3) := by decide +kernel
theorem dX12_tear_11 : decode cX12_tear 11 = .ok (.iconst 0, 1) := by decide +kernel
theorem dX12_tear_12 : decode cX12_tear 12 = .ok (.istore_n 1, 1) := by decide +kernel
theorem dX12_tear_13 : decode cX12_tear 13 = .ok (.aload_n 0, 1) := by decide +kernel
theorem dX12_tear_14 : decode cX12_tear 14 = .ok (.iconst 0, 1) := by decide +kernel
theorem dX12_tear_15 : decode cX12_tear 15 = .ok (.putfield 273, 3) := by decide +kernel
theorem dX12_tear_18 : decode cX12_tear 18 = .ok (.iload_n 1, 1) := by decide +kernel
theorem dX12_tear_19 : decode cX12_tear 19 = .ok (.ireturn, 1) := by decide +kernel
theorem dX12_count_0 : decode cX12_count 0 = .ok (.iload_n 1, 1) := by decide +kernel
theorem dX12_count_1 : decode cX12_count 1 = .ok (.tableswitch 58 0 3 #[31, 38, 43, 53], 31) := by decide +kernel
theorem dX12_count_32 : decode cX12_count 32 = .ok (.aload_n 0, 1) := by decide +kernel
theorem dX12_count_33 : decode cX12_count 33 = .ok (.getfield 7, 3) := by decide +kernel
theorem dX12_count_36 : decode cX12_count 36 = .ok (.iconst 5, 1) := by decide +kernel
theorem dX12_count_37 : decode cX12_count 37 = .ok (.iaload, 1) := by decide +kernel
theorem dX12_count_38 : decode cX12_count 38 = .ok (.ireturn, 1) := by decide +kernel
theorem dX12_count_39 : decode cX12_count 39 = .ok (.aload_n 0, 1) := by decide +kernel
theorem dX12_count_40 : decode cX12_count 40 = .ok (.getfield 164, 3) := by decide +kernel
theorem dX12_count_43 : decode cX12_count 43 = .ok (.ireturn, 1) := by decide +kernel
theorem dX12_count_44 : decode cX12_count 44 = .ok (.aload_n 0, 1) := by decide +kernel
theorem dX12_count_45 : decode cX12_count 45 = .ok (.getfield 7, 3) := by decide +kernel
theorem dX12_count_48 : decode cX12_count 48 = .ok (.iconst 3, 1) := by decide +kernel
theorem dX12_count_49 : decode cX12_count 49 = .ok (.iaload, 1) := by decide +kernel
theorem dX12_count_50 : decode cX12_count 50 = .ok (.invokestatic 157, 3) := by decide +kernel
theorem dX12_count_53 : decode cX12_count 53 = .ok (.ireturn, 1) := by decide +kernel
theorem dX12_count_54 : decode cX12_count 54 = .ok (.aload_n 0, 1) := by decide +kernel
theorem dX12_count_55 : decode cX12_count 55 = .ok (.invokevirtual 160, 3) := by decide +kernel
theorem dX12_count_58 : decode cX12_count 58 = .ok (.ireturn, 1) := by decide +kernel
theorem dX12_count_59 : decode cX12_count 59 = .ok (.aload_n 0, 1) := by decide +kernel
theorem dX12_count_60 : decode cX12_count 60 = .ok (.ldc 44, 2) := by decide +kernel
theorem dX12_count_62 : decode cX12_count 62 = .ok (.invokevirtual 53, 3) := by decide +kernel
theorem dX12_count_65 : decode cX12_count 65 = .ok (.ireturn, 1) := by decide +kernel
theorem dX12_status_0 : decode cX12_status 0 = .ok (.iload_n 1, 1) := by decide +kernel
theorem dX12_status_1 : decode cX12_status 1 = .ok (.iconst (-1), 1) := by decide +kernel
theorem dX12_status_2 : decode cX12_status 2 = .ok (.bipush 6, 2) := by decide +kernel
theorem dX12_status_4 : decode cX12_status 4 = .ok (.invokestatic 45, 3) := by decide +kernel
theorem dX12_status_7 : decode cX12_status 7 = .ok (.ifCond .ne 10, 3) := by decide +kernel
theorem dX12_status_10 : decode cX12_status 10 = .ok (.aload_n 0, 1) := by decide +kernel
theorem dX12_status_11 : decode cX12_status 11 = .ok (.ldc 44, 2) := by decide +kernel
theorem dX12_status_13 : decode cX12_status 13 = .ok (.invokevirtual 53, 3) := by decide +kernel
theorem dX12_status_16 : decode cX12_status 16 = .ok (.ireturn, 1) := by decide +kernel
theorem dX12_status_17 : decode cX12_status 17 = .ok (.iconst 0, 1) := by decide +kernel
theorem dX12_status_18 : decode cX12_status 18 = .ok (.istore_n 2, 1) := by decide +kernel
theorem dX12_status_19 : decode cX12_status 19 = .ok (.iconst 0, 1) := by decide +kernel
theorem dX12_status_20 : decode cX12_status 20 = .ok (.istore_n 3, 1) := by decide +kernel
theorem dX12_status_21 : decode cX12_status 21 = .ok (.iload_n 3, 1) := by decide +kernel
theorem dX12_status_22 : decode cX12_status 22 = .ok (.bipush 7, 2) := by decide +kernel
theorem dX12_status_24 : decode cX12_status 24 = .ok (.if_icmp .ge 18, 3) := by decide +kernel
theorem dX12_status_27 : decode cX12_status 27 = .ok (.iload_n 2, 1) := by decide +kernel
theorem dX12_status_28 : decode cX12_status 28 = .ok (.aload_n 0, 1) := by decide +kernel
theorem dX12_status_29 : decode cX12_status 29 = .ok (.getfield 13, 3) := by decide +kernel
theorem dX12_status_32 : decode cX12_status 32 = .ok (.iload_n 3, 1) := by decide +kernel
theorem dX12_status_33 : decode cX12_status 33 = .ok (.iaload, 1) := by decide +kernel
theorem dX12_status_34 : decode cX12_status 34 = .ok (.iadd, 1) := by decide +kernel
theorem dX12_status_35 : decode cX12_status 35 = .ok (.istore_n 2, 1) := by decide +kernel
theorem dX12_status_36 : decode cX12_status 36 = .ok (.iinc 3 1, 3) := by decide +kernel
theorem dX12_status_39 : decode cX12_status 39 = .ok (.goto (-18), 3) := by decide +kernel
theorem dX12_status_42 : decode cX12_status 42 = .ok (.iload_n 1, 1) := by decide +kernel
theorem dX12_status_43 : decode cX12_status 43 = .ok (.ifCond .ge 7, 3) := by decide +kernel
theorem dX12_status_46 : decode cX12_status 46 = .ok (.iload_n 2, 1) := by decide +kernel
theorem dX12_status_47 : decode cX12_status 47 = .ok (.goto 17, 3) := by decide +kernel
theorem dX12_status_50 : decode cX12_status 50 = .ok (.aload_n 0, 1) := by decide +kernel
theorem dX12_status_51 : decode cX12_status 51 = .ok (.getfield 13, 3) := by decide +kernel
theorem dX12_status_54 : decode cX12_status 54 = .ok (.iload_n 1, 1) := by decide +kernel
theorem dX12_status_55 : decode cX12_status 55 = .ok (.ifCond .ge 7, 3) := by decide +kernel
theorem dX12_status_58 : decode cX12_status 58 = .ok (.iconst 0, 1) := by decide +kernel
theorem dX12_status_59 : decode cX12_status 59 = .ok (.goto 4, 3) := by decide +kernel
theorem dX12_status_62 : decode cX12_status 62 = .ok (.iload_n 1, 1) := by decide +kernel
theorem dX12_status_63 : decode cX12_status 63 = .ok (.iaload, 1) := by decide +kernel
theorem dX12_status_64 : decode cX12_status 64 = .ok (.ireturn, 1) := by decide +kernel

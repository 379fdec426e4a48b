theorem dX0_init_0 : decode cX0_init 0 = .ok (.aload_n 0, 1) := by decide +kernel
theorem dX0_init_1 : decode cX0_init 1 = .ok (.invokespecial 3, 3) := by decide +kernel
theorem dX0_init_4 : decode cX0_init 4 = .ok (.aload_n 0, 1) := by decide +kernel
theorem dX0_init_5 : decode cX0_init 5 = .ok (.bipush 6, 2) := by decide +kernel
theorem dX0_init_7 : decode cX0_init 7 = .ok (.newarray .int, 2) := by decide +kernel
theorem dX0_init_9 : decode cX0_init 9 = .ok (.putfield 9, 3) := by decide +kernel
theorem dX0_init_12 : decode cX0_init 12 = .ok (.aload_n 0, 1) := by decide +kernel
theorem dX0_init_13 : decode cX0_init 13 = .ok (.bipush 6, 2) := by decide +kernel
theorem dX0_init_15 : decode cX0_init 15 = .ok (.newarray .int, 2) := by decide +kernel
theorem dX0_init_17 : decode cX0_init 17 = .ok (.putfield 15, 3) := by decide +kernel
theorem dX0_init_20 : decode cX0_init 20 = .ok (.aload_n 0, 1) := by decide +kernel
theorem dX0_init_21 : decode cX0_init 21 = .ok (.bipush 6, 2) := by decide +kernel
theorem dX0_init_23 : decode cX0_init 23 = .ok (.newarray .int, 2) := by decide +kernel
theorem dX0_init_25 : decode cX0_init 25 = .ok (.putfield 18, 3) := by decide +kernel
theorem dX0_init_28 : decode cX0_init 28 = .ok (.aload_n 0, 1) := by decide +kernel
theorem dX0_init_29 : decode cX0_init 29 = .ok (.bipush 6, 2) := by decide +kernel
theorem dX0_init_31 : decode cX0_init 31 = .ok (.newarray .int, 2) := by decide +kernel
theorem dX0_init_33 : decode cX0_init 33 = .ok (.putfield 21, 3) := by decide +kernel
theorem dX0_init_36 : decode cX0_init 36 = .ok (.aload_n 0, 1) := by decide +kernel
theorem dX0_init_37 : decode cX0_init 37 = .ok (.bipush 6, 2) := by decide +kernel
theorem dX0_init_39 : decode cX0_init 39 = .ok (.newarray .int, 2) := by decide +kernel
theorem dX0_init_41 : decode cX0_init 41 = .ok (.putfield 24, 3) := by decide +kernel
theorem dX0_init_44 : decode cX0_init 44 = .ok (.aload_n 0, 1) := by decide +kernel
theorem dX0_init_45 : decode cX0_init 45 = .ok (.bipush 6, 2) := by decide +kernel
theorem dX0_init_47 : decode cX0_init 47 = .ok (.newarray .int, 2) := by decide +kernel
theorem dX0_init_49 : decode cX0_init 49 = .ok (.putfield 27, 3) := by decide +kernel
theorem dX0_init_52 : decode cX0_init 52 = .ok (.aload_n 0, 1) := by decide +kernel
theorem dX0_init_53 : decode cX0_init 53 = .ok (.bipush 6, 2) := by decide +kernel
theorem dX0_init_55 : decode cX0_init 55 = .ok (.newarray .boolean, 2) := by decide +kernel
theorem dX0_init_57 : decode cX0_init 57 = .ok (.putfield 30, 3) := by decide +kernel
theorem dX0_init_60 : decode cX0_init 60 = .ok (.return_, 1) := by decide +kernel
theorem dX0_addSeen_0 : decode cX0_addSeen 0 = .ok (.aload_n 0, 1) := by decide +kernel
theorem dX0_addSeen_1 : decode cX0_addSeen 1 = .ok (.getfield 34, 3) := by decide +kernel
theorem dX0_addSeen_4 : decode cX0_addSeen 4 = .ok (.bipush 6, 2) := by decide +kernel
theorem dX0_addSeen_6 : decode cX0_addSeen 6 = .ok (.if_icmp .lt 5, 3) := by decide +kernel
theorem dX0_addSeen_9 : decode cX0_addSeen 9 = .ok (.iconst 0, 1) := by decide +kernel
theorem dX0_addSeen_10 : decode cX0_addSeen 10 = .ok (.ireturn, 1) := by decide +kernel
theorem dX0_addSeen_11 : decode cX0_addSeen 11 = .ok (.aload_n 0, 1) := by decide +kernel
theorem dX0_addSeen_12 : decode cX0_addSeen 12 = .ok (.getfield 9, 3) := by decide +kernel
theorem dX0_addSeen_15 : decode cX0_addSeen 15 = .ok (.aload_n 0, 1) := by decide +kernel
theorem dX0_addSeen_16 : decode cX0_addSeen 16 = .ok (.getfield 34, 3) := by decide +kernel
theorem dX0_addSeen_19 : decode cX0_addSeen 19 = .ok (.iload_n 1, 1) := by decide +kernel
theorem dX0_addSeen_20 : decode cX0_addSeen 20 = .ok (.iastore, 1) := by decide +kernel
theorem dX0_addSeen_21 : decode cX0_addSeen 21 = .ok (.aload_n 0, 1) := by decide +kernel
theorem dX0_addSeen_22 : decode cX0_addSeen 22 = .ok (.getfield 15, 3) := by decide +kernel
theorem dX0_addSeen_25 : decode cX0_addSeen 25 = .ok (.aload_n 0, 1) := by decide +kernel
theorem dX0_addSeen_26 : decode cX0_addSeen 26 = .ok (.getfield 34, 3) := by decide +kernel
theorem dX0_addSeen_29 : decode cX0_addSeen 29 = .ok (.iload_n 2, 1) := by decide +kernel
theorem dX0_addSeen_30 : decode cX0_addSeen 30 = .ok (.iastore, 1) := by decide +kernel
theorem dX0_addSeen_31 : decode cX0_addSeen 31 = .ok (.aload_n 0, 1) := by decide +kernel
theorem dX0_addSeen_32 : decode cX0_addSeen 32 = .ok (.getfield 18, 3) := by decide +kernel
theorem dX0_addSeen_35 : decode cX0_addSeen 35 = .ok (.aload_n 0, 1) := by decide +kernel
theorem dX0_addSeen_36 : decode cX0_addSeen 36 = .ok (.getfield 34, 3) := by decide +kernel
theorem dX0_addSeen_39 : decode cX0_addSeen 39 = .ok (.iload_n 3, 1) := by decide +kernel
theorem dX0_addSeen_40 : decode cX0_addSeen 40 = .ok (.iastore, 1) := by decide +kernel
theorem dX0_addSeen_41 : decode cX0_addSeen 41 = .ok (.aload_n 0, 1) := by decide +kernel
theorem dX0_addSeen_42 : decode cX0_addSeen 42 = .ok (.dup, 1) := by decide +kernel
theorem dX0_addSeen_43 : decode cX0_addSeen 43 = .ok (.getfield 34, 3) := by decide +kernel
theorem dX0_addSeen_46 : decode cX0_addSeen 46 = .ok (.iconst 1, 1) := by decide +kernel
theorem dX0_addSeen_47 : decode cX0_addSeen 47 = .ok (.iadd, 1) := by decide +kernel
theorem dX0_addSeen_48 : decode cX0_addSeen 48 = .ok (.putfield 34, 3) := by decide +kernel
theorem dX0_addSeen_51 : decode cX0_addSeen 51 = .ok (.iconst 1, 1) := by decide +kernel
theorem dX0_addSeen_52 : decode cX0_addSeen 52 = .ok (.ireturn, 1) := by decide +kernel
theorem dX0_addHeard_0 : decode cX0_addHeard 0 = .ok (.aload_n 0, 1) := by decide +kernel
theorem dX0_addHeard_1 : decode cX0_addHeard 1 = .ok (.getfield 38, 3) := by decide +kernel
theorem dX0_addHeard_4 : decode cX0_addHeard 4 = .ok (.bipush 6, 2) := by decide +kernel
theorem dX0_addHeard_6 : decode cX0_addHeard 6 = .ok (.if_icmp .lt 5, 3) := by decide +kernel
theorem dX0_addHeard_9 : decode cX0_addHeard 9 = .ok (.iconst 0, 1) := by decide +kernel
theorem dX0_addHeard_10 : decode cX0_addHeard 10 = .ok (.ireturn, 1) := by decide +kernel
theorem dX0_addHeard_11 : decode cX0_addHeard 11 = .ok (.aload_n 0, 1) := by decide +kernel
theorem dX0_addHeard_12 : decode cX0_addHeard 12 = .ok (.getfield 21, 3) := by decide +kernel
theorem dX0_addHeard_15 : decode cX0_addHeard 15 = .ok (.aload_n 0, 1) := by decide +kernel
theorem dX0_addHeard_16 : decode cX0_addHeard 16 = .ok (.getfield 38, 3) := by decide +kernel
theorem dX0_addHeard_19 : decode cX0_addHeard 19 = .ok (.iload_n 1, 1) := by decide +kernel
theorem dX0_addHeard_20 : decode cX0_addHeard 20 = .ok (.iastore, 1) := by decide +kernel
theorem dX0_addHeard_21 : decode cX0_addHeard 21 = .ok (.aload_n 0, 1) := by decide +kernel
theorem dX0_addHeard_22 : decode cX0_addHeard 22 = .ok (.getfield 24, 3) := by decide +kernel
theorem dX0_addHeard_25 : decode cX0_addHeard 25 = .ok (.aload_n 0, 1) := by decide +kernel
theorem dX0_addHeard_26 : decode cX0_addHeard 26 = .ok (.getfield 38, 3) := by decide +kernel
theorem dX0_addHeard_29 : decode cX0_addHeard 29 = .ok (.iload_n 2, 1) := by decide +kernel
theorem dX0_addHeard_30 : decode cX0_addHeard 30 = .ok (.iastore, 1) := by decide +kernel
theorem dX0_addHeard_31 : decode cX0_addHeard 31 = .ok (.aload_n 0, 1) := by decide +kernel
theorem dX0_addHeard_32 : decode cX0_addHeard 32 = .ok (.getfield 30, 3) := by decide +kernel
theorem dX0_addHeard_35 : decode cX0_addHeard 35 = .ok (.aload_n 0, 1) := by decide +kernel
theorem dX0_addHeard_36 : decode cX0_addHeard 36 = .ok (.getfield 38, 3) := by decide +kernel
theorem dX0_addHeard_39 : decode cX0_addHeard 39 = .ok (.iload_n 3, 1) := by decide +kernel
theorem dX0_addHeard_40 : decode cX0_addHeard 40 = .ok (.bastore, 1) := by decide +kernel
theorem dX0_addHeard_41 : decode cX0_addHeard 41 = .ok (.aload_n 0, 1) := by decide +kernel
theorem dX0_addHeard_42 : decode cX0_addHeard 42 = .ok (.getfield 27, 3) := by decide +kernel
theorem dX0_addHeard_45 : decode cX0_addHeard 45 = .ok (.aload_n 0, 1) := by decide +kernel
theorem dX0_addHeard_46 : decode cX0_addHeard 46 = .ok (.getfield 38, 3) := by decide +kernel
theorem dX0_addHeard_49 : decode cX0_addHeard 49 = .ok (.iload 4, 2) := by decide +kernel
theorem dX0_addHeard_51 : decode cX0_addHeard 51 = .ok (.iastore, 1) := by decide +kernel
theorem dX0_addHeard_52 : decode cX0_addHeard 52 = .ok (.aload_n 0, 1) := by decide +kernel
theorem dX0_addHeard_53 : decode cX0_addHeard 53 = .ok (.dup, 1) := by decide +kernel
theorem dX0_addHeard_54 : decode cX0_addHeard 54 = .ok (.getfield 38, 3) := by decide +kernel
theorem dX0_addHeard_57 : decode cX0_addHeard 57 = .ok (.iconst 1, 1) := by decide +kernel
theorem dX0_addHeard_58 : decode cX0_addHeard 58 = .ok (.iadd, 1) := by decide +kernel
theorem dX0_addHeard_59 : decode cX0_addHeard 59 = .ok (.putfield 38, 3) := by decide +kernel
theorem dX0_addHeard_62 : decode cX0_addHeard 62 = .ok (.iconst 1, 1) := by decide +kernel
theorem dX0_addHeard_63 : decode cX0_addHeard 63 = .ok (.ireturn, 1) := by decide +kernel
theorem dX0_clear_0 : decode cX0_clear 0 = .ok (.aload_n 0, 1) := by decide +kernel
theorem dX0_clear_1 : decode cX0_clear 1 = .ok (.iconst 0, 1) := by decide +kernel
theorem dX0_clear_2 : decode cX0_clear 2 = .ok (.putfield 34, 3) := by decide +kernel
theorem dX0_clear_5 : decode cX0_clear 5 = .ok (.aload_n 0, 1) := by decide +kernel
theorem dX0_clear_6 : decode cX0_clear 6 = .ok (.iconst 0, 1) := by decide +kernel
theorem dX0_clear_7 : decode cX0_clear 7 = .ok (.putfield 38, 3) := by decide +kernel
theorem dX0_clear_10 : decode cX0_clear 10 = .ok (.return_, 1) := by decide +kernel
theorem dX1_init_0 : decode cX1_init 0 = .ok (.aload_n 0, 1) := by decide +kernel
theorem dX1_init_1 : decode cX1_init 1 = .ok (.invokespecial 3, 3) := by decide +kernel
theorem dX1_init_4 : decode cX1_init 4 = .ok (.aload_n 0, 1) := by decide +kernel
theorem dX1_init_5 : decode cX1_init 5 = .ok (.bipush 8, 2) := by decide +kernel
theorem dX1_init_7 : decode cX1_init 7 = .ok (.newarray .int, 2) := by decide +kernel
theorem dX1_init_9 : decode cX1_init 9 = .ok (.putfield 9, 3) := by decide +kernel
theorem dX1_init_12 : decode cX1_init 12 = .ok (.aload_n 0, 1) := by decide +kernel
theorem dX1_init_13 : decode cX1_init 13 = .ok (.bipush 8, 2) := by decide +kernel
theorem dX1_init_15 : decode cX1_init 15 = .ok (.newarray .int, 2) := by decide +kernel
theorem dX1_init_17 : decode cX1_init 17 = .ok (.putfield 15, 3) := by decide +kernel
theorem dX1_init_20 : decode cX1_init 20 = .ok (.aload_n 0, 1) := by decide +kernel
theorem dX1_init_21 : decode cX1_init 21 = .ok (.bipush 8, 2) := by decide +kernel
theorem dX1_init_23 : decode cX1_init 23 = .ok (.newarray .int, 2) := by decide +kernel
theorem dX1_init_25 : decode cX1_init 25 = .ok (.putfield 18, 3) := by decide +kernel
theorem dX1_init_28 : decode cX1_init 28 = .ok (.aload_n 0, 1) := by decide +kernel
theorem dX1_init_29 : decode cX1_init 29 = .ok (.bipush 6, 2) := by decide +kernel
theorem dX1_init_31 : decode cX1_init 31 = .ok (.newarray .int, 2) := by decide +kernel
theorem dX1_init_33 : decode cX1_init 33 = .ok (.putfield 21, 3) := by decide +kernel
theorem dX1_init_36 : decode cX1_init 36 = .ok (.aload_n 0, 1) := by decide +kernel
theorem dX1_init_37 : decode cX1_init 37 = .ok (.invokevirtual 24, 3) := by decide +kernel
theorem dX1_init_40 : decode cX1_init 40 = .ok (.return_, 1) := by decide +kernel
theorem dX1_beginAsAtFirst_0 : decode cX1_beginAsAtFirst 0 = .ok (.aload_n 0, 1) := by decide +kernel
theorem dX1_beginAsAtFirst_1 : decode cX1_beginAsAtFirst 1 = .ok (.iconst 0, 1) := by decide +kernel
theorem dX1_beginAsAtFirst_2 : decode cX1_beginAsAtFirst 2 = .ok (.putfield 27, 3) := by decide +kernel
theorem dX1_beginAsAtFirst_5 : decode cX1_beginAsAtFirst 5 = .ok (.aload_n 0, 1) := by decide +kernel
theorem dX1_beginAsAtFirst_6 : decode cX1_beginAsAtFirst 6 = .ok (.iconst 0, 1) := by decide +kernel
theorem dX1_beginAsAtFirst_7 : decode cX1_beginAsAtFirst 7 = .ok (.putfield 31, 3) := by decide +kernel
theorem dX1_beginAsAtFirst_10 : decode cX1_beginAsAtFirst 10 = .ok (.aload_n 0, 1) := by decide +kernel
theorem dX1_beginAsAtFirst_11 : decode cX1_beginAsAtFirst 11 = .ok (.iconst 0, 1) := by decide +kernel
theorem dX1_beginAsAtFirst_12 : decode cX1_beginAsAtFirst 12 = .ok (.putfield 34, 3) := by decide +kernel
theorem dX1_beginAsAtFirst_15 : decode cX1_beginAsAtFirst 15 = .ok (.aload_n 0, 1) := by decide +kernel
theorem dX1_beginAsAtFirst_16 : decode cX1_beginAsAtFirst 16 = .ok (.iconst 1, 1) := by decide +kernel
theorem dX1_beginAsAtFirst_17 : decode cX1_beginAsAtFirst 17 = .ok (.putfield 37, 3) := by decide +kernel
theorem dX1_beginAsAtFirst_20 : decode cX1_beginAsAtFirst 20 = .ok (.aload_n 0, 1) := by decide +kernel
theorem dX1_beginAsAtFirst_21 : decode cX1_beginAsAtFirst 21 = .ok (.iconst 0, 1) := by decide +kernel
theorem dX1_beginAsAtFirst_22 : decode cX1_beginAsAtFirst 22 = .ok (.putfield 40, 3) := by decide +kernel
theorem dX1_beginAsAtFirst_25 : decode cX1_beginAsAtFirst 25 = .ok (.return_, 1) := by decide +kernel
theorem dX1_tell_0 : decode cX1_tell 0 = .ok (.iload_n 1, 1) := by decide +kernel
theorem dX1_tell_1 : decode cX1_tell 1 = .ok (.tableswitch 130 0 8 #[51, 58, 68, 78, 88, 98, 106, 114, 122], 51) := by decide +kernel
theorem dX1_tell_52 : decode cX1_tell 52 = .ok (.aload_n 0, 1) := by decide +kernel
theorem dX1_tell_53 : decode cX1_tell 53 = .ok (.invokevirtual 24, 3) := by decide +kernel
theorem dX1_tell_56 : decode cX1_tell 56 = .ok (.goto 75, 3) := by decide +kernel
theorem dX1_tell_59 : decode cX1_tell 59 = .ok (.aload_n 0, 1) := by decide +kernel
theorem dX1_tell_60 : decode cX1_tell 60 = .ok (.iconst 0, 1) := by decide +kernel
theorem dX1_tell_61 : decode cX1_tell 61 = .ok (.iload_n 2, 1) := by decide +kernel
theorem dX1_tell_62 : decode cX1_tell 62 = .ok (.iload_n 3, 1) := by decide +kernel
theorem dX1_tell_63 : decode cX1_tell 63 = .ok (.invokevirtual 43, 3) := by decide +kernel
theorem dX1_tell_66 : decode cX1_tell 66 = .ok (.goto 65, 3) := by decide +kernel
theorem dX1_tell_69 : decode cX1_tell 69 = .ok (.aload_n 0, 1) := by decide +kernel
theorem dX1_tell_70 : decode cX1_tell 70 = .ok (.iconst 1, 1) := by decide +kernel
theorem dX1_tell_71 : decode cX1_tell 71 = .ok (.iload_n 2, 1) := by decide +kernel
theorem dX1_tell_72 : decode cX1_tell 72 = .ok (.iload_n 3, 1) := by decide +kernel
theorem dX1_tell_73 : decode cX1_tell 73 = .ok (.invokevirtual 43, 3) := by decide +kernel
theorem dX1_tell_76 : decode cX1_tell 76 = .ok (.goto 55, 3) := by decide +kernel
theorem dX1_tell_79 : decode cX1_tell 79 = .ok (.aload_n 0, 1) := by decide +kernel
theorem dX1_tell_80 : decode cX1_tell 80 = .ok (.iconst 2, 1) := by decide +kernel
theorem dX1_tell_81 : decode cX1_tell 81 = .ok (.iload_n 2, 1) := by decide +kernel
theorem dX1_tell_82 : decode cX1_tell 82 = .ok (.iload_n 3, 1) := by decide +kernel
theorem dX1_tell_83 : decode cX1_tell 83 = .ok (.invokevirtual 43, 3) := by decide +kernel
theorem dX1_tell_86 : decode cX1_tell 86 = .ok (.goto 45, 3) := by decide +kernel
theorem dX1_tell_89 : decode cX1_tell 89 = .ok (.aload_n 0, 1) := by decide +kernel
theorem dX1_tell_90 : decode cX1_tell 90 = .ok (.iconst 3, 1) := by decide +kernel
theorem dX1_tell_91 : decode cX1_tell 91 = .ok (.iload_n 2, 1) := by decide +kernel
theorem dX1_tell_92 : decode cX1_tell 92 = .ok (.iload_n 3, 1) := by decide +kernel
theorem dX1_tell_93 : decode cX1_tell 93 = .ok (.invokevirtual 43, 3) := by decide +kernel
theorem dX1_tell_96 : decode cX1_tell 96 = .ok (.goto 35, 3) := by decide +kernel
theorem dX1_tell_99 : decode cX1_tell 99 = .ok (.aload_n 0, 1) := by decide +kernel
theorem dX1_tell_100 : decode cX1_tell 100 = .ok (.iload_n 2, 1) := by decide +kernel
theorem dX1_tell_101 : decode cX1_tell 101 = .ok (.invokevirtual 47, 3) := by decide +kernel
theorem dX1_tell_104 : decode cX1_tell 104 = .ok (.goto 27, 3) := by decide +kernel
theorem dX1_tell_107 : decode cX1_tell 107 = .ok (.aload_n 0, 1) := by decide +kernel
theorem dX1_tell_108 : decode cX1_tell 108 = .ok (.iload_n 2, 1) := by decide +kernel
theorem dX1_tell_109 : decode cX1_tell 109 = .ok (.putfield 34, 3) := by decide +kernel
theorem dX1_tell_112 : decode cX1_tell 112 = .ok (.goto 19, 3) := by decide +kernel
theorem dX1_tell_115 : decode cX1_tell 115 = .ok (.aload_n 0, 1) := by decide +kernel
theorem dX1_tell_116 : decode cX1_tell 116 = .ok (.iload_n 2, 1) := by decide +kernel
theorem dX1_tell_117 : decode cX1_tell 117 = .ok (.putfield 37, 3) := by decide +kernel
theorem dX1_tell_120 : decode cX1_tell 120 = .ok (.goto 11, 3) := by decide +kernel
theorem dX1_tell_123 : decode cX1_tell 123 = .ok (.aload_n 0, 1) := by decide +kernel
theorem dX1_tell_124 : decode cX1_tell 124 = .ok (.iload_n 2, 1) := by decide +kernel
theorem dX1_tell_125 : decode cX1_tell 125 = .ok (.putfield 40, 3) := by decide +kernel
theorem dX1_tell_128 : decode cX1_tell 128 = .ok (.goto 3, 3) := by decide +kernel
theorem dX1_tell_131 : decode cX1_tell 131 = .ok (.return_, 1) := by decide +kernel
theorem dX1_addPart_0 : decode cX1_addPart 0 = .ok (.aload_n 0, 1) := by decide +kernel
theorem dX1_addPart_1 : decode cX1_addPart 1 = .ok (.getfield 27, 3) := by decide +kernel
theorem dX1_addPart_4 : decode cX1_addPart 4 = .ok (.bipush 8, 2) := by decide +kernel
theorem dX1_addPart_6 : decode cX1_addPart 6 = .ok (.if_icmp .ge 43, 3) := by decide +kernel
theorem dX1_addPart_9 : decode cX1_addPart 9 = .ok (.aload_n 0, 1) := by decide +kernel
theorem dX1_addPart_10 : decode cX1_addPart 10 = .ok (.getfield 9, 3) := by decide +kernel
theorem dX1_addPart_13 : decode cX1_addPart 13 = .ok (.aload_n 0, 1) := by decide +kernel
theorem dX1_addPart_14 : decode cX1_addPart 14 = .ok (.getfield 27, 3) := by decide +kernel
theorem dX1_addPart_17 : decode cX1_addPart 17 = .ok (.iload_n 1, 1) := by decide +kernel
theorem dX1_addPart_18 : decode cX1_addPart 18 = .ok (.iastore, 1) := by decide +kernel
theorem dX1_addPart_19 : decode cX1_addPart 19 = .ok (.aload_n 0, 1) := by decide +kernel
theorem dX1_addPart_20 : decode cX1_addPart 20 = .ok (.getfield 15, 3) := by decide +kernel
theorem dX1_addPart_23 : decode cX1_addPart 23 = .ok (.aload_n 0, 1) := by decide +kernel
theorem dX1_addPart_24 : decode cX1_addPart 24 = .ok (.getfield 27, 3) := by decide +kernel
theorem dX1_addPart_27 : decode cX1_addPart 27 = .ok (.iload_n 2, 1) := by decide +kernel
theorem dX1_addPart_28 : decode cX1_addPart 28 = .ok (.iastore, 1) := by decide +kernel
theorem dX1_addPart_29 : decode cX1_addPart 29 = .ok (.aload_n 0, 1) := by decide +kernel
theorem dX1_addPart_30 : decode cX1_addPart 30 = .ok (.getfield 18, 3) := by decide +kernel
theorem dX1_addPart_33 : decode cX1_addPart 33 = .ok (.aload_n 0, 1) := by decide +kernel
theorem dX1_addPart_34 : decode cX1_addPart 34 = .ok (.getfield 27, 3) := by decide +kernel
theorem dX1_addPart_37 : decode cX1_addPart 37 = .ok (.iload_n 3, 1) := by decide +kernel
theorem dX1_addPart_38 : decode cX1_addPart 38 = .ok (.iastore, 1) := by decide +kernel
theorem dX1_addPart_39 : decode cX1_addPart 39 = .ok (.aload_n 0, 1) := by decide +kernel
theorem dX1_addPart_40 : decode cX1_addPart 40 = .ok (.dup, 1) := by decide +kernel
theorem dX1_addPart_41 : decode cX1_addPart 41 = .ok (.getfield 27, 3) := by decide +kernel
theorem dX1_addPart_44 : decode cX1_addPart 44 = .ok (.iconst 1, 1) := by decide +kernel
theorem dX1_addPart_45 : decode cX1_addPart 45 = .ok (.iadd, 1) := by decide +kernel
theorem dX1_addPart_46 : decode cX1_addPart 46 = .ok (.putfield 27, 3) := by decide +kernel
theorem dX1_addPart_49 : decode cX1_addPart 49 = .ok (.return_, 1) := by decide +kernel
theorem dX1_addSoul_0 : decode cX1_addSoul 0 = .ok (.aload_n 0, 1) := by decide +kernel
theorem dX1_addSoul_1 : decode cX1_addSoul 1 = .ok (.getfield 31, 3) := by decide +kernel
theorem dX1_addSoul_4 : decode cX1_addSoul 4 = .ok (.bipush 6, 2) := by decide +kernel
theorem dX1_addSoul_6 : decode cX1_addSoul 6 = .ok (.if_icmp .ge 23, 3) := by decide +kernel
theorem dX1_addSoul_9 : decode cX1_addSoul 9 = .ok (.aload_n 0, 1) := by decide +kernel
theorem dX1_addSoul_10 : decode cX1_addSoul 10 = .ok (.getfield 21, 3) := by decide +kernel
theorem dX1_addSoul_13 : decode cX1_addSoul 13 = .ok (.aload_n 0, 1) := by decide +kernel
theorem dX1_addSoul_14 : decode cX1_addSoul 14 = .ok (.getfield 31, 3) := by decide +kernel
theorem dX1_addSoul_17 : decode cX1_addSoul 17 = .ok (.iload_n 1, 1) := by decide +kernel
theorem dX1_addSoul_18 : decode cX1_addSoul 18 = .ok (.iastore, 1) := by decide +kernel
theorem dX1_addSoul_19 : decode cX1_addSoul 19 = .ok (.aload_n 0, 1) := by decide +kernel
theorem dX1_addSoul_20 : decode cX1_addSoul 20 = .ok (.dup, 1) := by decide +kernel
theorem dX1_addSoul_21 : decode cX1_addSoul 21 = .ok (.getfield 31, 3) := by decide +kernel
theorem dX1_addSoul_24 : decode cX1_addSoul 24 = .ok (.iconst 1, 1) := by decide +kernel
theorem dX1_addSoul_25 : decode cX1_addSoul 25 = .ok (.iadd, 1) := by decide +kernel
theorem dX1_addSoul_26 : decode cX1_addSoul 26 = .ok (.putfield 31, 3) := by decide +kernel
theorem dX1_addSoul_29 : decode cX1_addSoul 29 = .ok (.return_, 1) := by decide +kernel
theorem dX1_ouncesOfSet_0 : decode cX1_ouncesOfSet 0 = .ok (.iconst 0, 1) := by decide +kernel
theorem dX1_ouncesOfSet_1 : decode cX1_ouncesOfSet 1 = .ok (.istore_n 3, 1) := by decide +kernel
theorem dX1_ouncesOfSet_2 : decode cX1_ouncesOfSet 2 = .ok (.iconst 0, 1) := by decide +kernel
theorem dX1_ouncesOfSet_3 : decode cX1_ouncesOfSet 3 = .ok (.istore 4, 2) := by decide +kernel
theorem dX1_ouncesOfSet_5 : decode cX1_ouncesOfSet 5 = .ok (.iload 4, 2) := by decide +kernel
theorem dX1_ouncesOfSet_7 : decode cX1_ouncesOfSet 7 = .ok (.aload_n 0, 1) := by decide +kernel
theorem dX1_ouncesOfSet_8 : decode cX1_ouncesOfSet 8 = .ok (.getfield 27, 3) := by decide +kernel
theorem dX1_ouncesOfSet_11 : decode cX1_ouncesOfSet 11 = .ok (.if_icmp .ge 39, 3) := by decide +kernel
theorem dX1_ouncesOfSet_14 : decode cX1_ouncesOfSet 14 = .ok (.iload 4, 2) := by decide +kernel
theorem dX1_ouncesOfSet_16 : decode cX1_ouncesOfSet 16 = .ok (.iload_n 1, 1) := by decide +kernel
theorem dX1_ouncesOfSet_17 : decode cX1_ouncesOfSet 17 = .ok (.invokestatic 51, 3) := by decide +kernel
theorem dX1_ouncesOfSet_20 : decode cX1_ouncesOfSet 20 = .ok (.ifCond .eq 24, 3) := by decide +kernel
theorem dX1_ouncesOfSet_23 : decode cX1_ouncesOfSet 23 = .ok (.iload_n 3, 1) := by decide +kernel
theorem dX1_ouncesOfSet_24 : decode cX1_ouncesOfSet 24 = .ok (.aload_n 0, 1) := by decide +kernel
theorem dX1_ouncesOfSet_25 : decode cX1_ouncesOfSet 25 = .ok (.getfield 9, 3) := by decide +kernel
theorem dX1_ouncesOfSet_28 : decode cX1_ouncesOfSet 28 = .ok (.iload 4, 2) := by decide +kernel
theorem dX1_ouncesOfSet_30 : decode cX1_ouncesOfSet 30 = .ok (.iaload, 1) := by decide +kernel
theorem dX1_ouncesOfSet_31 : decode cX1_ouncesOfSet 31 = .ok (.aload_n 0, 1) := by decide +kernel
theorem dX1_ouncesOfSet_32 : decode cX1_ouncesOfSet 32 = .ok (.getfield 15, 3) := by decide +kernel
theorem dX1_ouncesOfSet_35 : decode cX1_ouncesOfSet 35 = .ok (.iload 4, 2) := by decide +kernel
theorem dX1_ouncesOfSet_37 : decode cX1_ouncesOfSet 37 = .ok (.iaload, 1) := by decide +kernel
theorem dX1_ouncesOfSet_38 : decode cX1_ouncesOfSet 38 = .ok (.iload_n 2, 1) := by decide +kernel
theorem dX1_ouncesOfSet_39 : decode cX1_ouncesOfSet 39 = .ok (.invokestatic 55, 3) := by decide +kernel
theorem dX1_ouncesOfSet_42 : decode cX1_ouncesOfSet 42 = .ok (.iadd, 1) := by decide +kernel
theorem dX1_ouncesOfSet_43 : decode cX1_ouncesOfSet 43 = .ok (.istore_n 3, 1) := by decide +kernel
theorem dX1_ouncesOfSet_44 : decode cX1_ouncesOfSet 44 = .ok (.iinc 4 1, 3) := by decide +kernel
theorem dX1_ouncesOfSet_47 : decode cX1_ouncesOfSet 47 = .ok (.goto (-42), 3) := by decide +kernel
theorem dX1_ouncesOfSet_50 : decode cX1_ouncesOfSet 50 = .ok (.iload_n 3, 1) := by decide +kernel
theorem dX1_ouncesOfSet_51 : decode cX1_ouncesOfSet 51 = .ok (.ireturn, 1) := by decide +kernel
theorem dX1_minutesOf_0 : decode cX1_minutesOf 0 = .ok (.iconst 0, 1) := by decide +kernel
theorem dX1_minutesOf_1 : decode cX1_minutesOf 1 = .ok (.istore_n 2, 1) := by decide +kernel
theorem dX1_minutesOf_2 : decode cX1_minutesOf 2 = .ok (.iconst 0, 1) := by decide +kernel
theorem dX1_minutesOf_3 : decode cX1_minutesOf 3 = .ok (.istore_n 3, 1) := by decide +kernel
theorem dX1_minutesOf_4 : decode cX1_minutesOf 4 = .ok (.iload_n 3, 1) := by decide +kernel
theorem dX1_minutesOf_5 : decode cX1_minutesOf 5 = .ok (.aload_n 0, 1) := by decide +kernel
theorem dX1_minutesOf_6 : decode cX1_minutesOf 6 = .ok (.getfield 27, 3) := by decide +kernel
theorem dX1_minutesOf_9 : decode cX1_minutesOf 9 = .ok (.if_icmp .ge 26, 3) := by decide +kernel
theorem dX1_minutesOf_12 : decode cX1_minutesOf 12 = .ok (.iload_n 3, 1) := by decide +kernel
theorem dX1_minutesOf_13 : decode cX1_minutesOf 13 = .ok (.iload_n 1, 1) := by decide +kernel
theorem dX1_minutesOf_14 : decode cX1_minutesOf 14 = .ok (.invokestatic 51, 3) := by decide +kernel
theorem dX1_minutesOf_17 : decode cX1_minutesOf 17 = .ok (.ifCond .eq 12, 3) := by decide +kernel
theorem dX1_minutesOf_20 : decode cX1_minutesOf 20 = .ok (.iload_n 2, 1) := by decide +kernel
theorem dX1_minutesOf_21 : decode cX1_minutesOf 21 = .ok (.aload_n 0, 1) := by decide +kernel
theorem dX1_minutesOf_22 : decode cX1_minutesOf 22 = .ok (.getfield 18, 3) := by decide +kernel
theorem dX1_minutesOf_25 : decode cX1_minutesOf 25 = .ok (.iload_n 3, 1) := by decide +kernel
theorem dX1_minutesOf_26 : decode cX1_minutesOf 26 = .ok (.iaload, 1) := by decide +kernel
theorem dX1_minutesOf_27 : decode cX1_minutesOf 27 = .ok (.iadd, 1) := by decide +kernel
theorem dX1_minutesOf_28 : decode cX1_minutesOf 28 = .ok (.istore_n 2, 1) := by decide +kernel
theorem dX1_minutesOf_29 : decode cX1_minutesOf 29 = .ok (.iinc 3 1, 3) := by decide +kernel
theorem dX1_minutesOf_32 : decode cX1_minutesOf 32 = .ok (.goto (-28), 3) := by decide +kernel
theorem dX1_minutesOf_35 : decode cX1_minutesOf 35 = .ok (.iload_n 2, 1) := by decide +kernel
theorem dX1_minutesOf_36 : decode cX1_minutesOf 36 = .ok (.ireturn, 1) := by decide +kernel
theorem dX2_init_0 : decode cX2_init 0 = .ok (.aload_n 0, 1) := by decide +kernel
theorem dX2_init_1 : decode cX2_init 1 = .ok (.invokespecial 3, 3) := by decide +kernel
theorem dX2_init_4 : decode cX2_init 4 = .ok (.aload_n 0, 1) := by decide +kernel
theorem dX2_init_5 : decode cX2_init 5 = .ok (.sipush 160, 3) := by decide +kernel
theorem dX2_init_8 : decode cX2_init 8 = .ok (.newarray .int, 2) := by decide +kernel
theorem dX2_init_10 : decode cX2_init 10 = .ok (.putfield 9, 3) := by decide +kernel
theorem dX2_init_13 : decode cX2_init 13 = .ok (.aload_n 0, 1) := by decide +kernel
theorem dX2_init_14 : decode cX2_init 14 = .ok (.bipush 14, 2) := by decide +kernel
theorem dX2_init_16 : decode cX2_init 16 = .ok (.newarray .int, 2) := by decide +kernel
theorem dX2_init_18 : decode cX2_init 18 = .ok (.putfield 15, 3) := by decide +kernel
theorem dX2_init_21 : decode cX2_init 21 = .ok (.aload_n 0, 1) := by decide +kernel
theorem dX2_init_22 : decode cX2_init 22 = .ok (.bipush 14, 2) := by decide +kernel
theorem dX2_init_24 : decode cX2_init 24 = .ok (.newarray .int, 2) := by decide +kernel
theorem dX2_init_26 : decode cX2_init 26 = .ok (.putfield 18, 3) := by decide +kernel
theorem dX2_init_29 : decode cX2_init 29 = .ok (.aload_n 0, 1) := by decide +kernel
theorem dX2_init_30 : decode cX2_init 30 = .ok (.bipush 14, 2) := by decide +kernel
theorem dX2_init_32 : decode cX2_init 32 = .ok (.newarray .int, 2) := by decide +kernel
theorem dX2_init_34 : decode cX2_init 34 = .ok (.putfield 21, 3) := by decide +kernel
theorem dX2_init_37 : decode cX2_init 37 = .ok (.return_, 1) := by decide +kernel
theorem dX2_add_0 : decode cX2_add 0 = .ok (.aload_n 0, 1) := by decide +kernel
theorem dX2_add_1 : decode cX2_add 1 = .ok (.getfield 24, 3) := by decide +kernel
theorem dX2_add_4 : decode cX2_add 4 = .ok (.sipush 160, 3) := by decide +kernel
theorem dX2_add_7 : decode cX2_add 7 = .ok (.if_icmp .lt 5, 3) := by decide +kernel
theorem dX2_add_10 : decode cX2_add 10 = .ok (.iconst 0, 1) := by decide +kernel
theorem dX2_add_11 : decode cX2_add 11 = .ok (.ireturn, 1) := by decide +kernel
theorem dX2_add_12 : decode cX2_add 12 = .ok (.aload_n 0, 1) := by decide +kernel
theorem dX2_add_13 : decode cX2_add 13 = .ok (.getfield 9, 3) := by decide +kernel
theorem dX2_add_16 : decode cX2_add 16 = .ok (.aload_n 0, 1) := by decide +kernel
theorem dX2_add_17 : decode cX2_add 17 = .ok (.getfield 24, 3) := by decide +kernel
theorem dX2_add_20 : decode cX2_add 20 = .ok (.iload_n 1, 1) := by decide +kernel
theorem dX2_add_21 : decode cX2_add 21 = .ok (.iastore, 1) := by decide +kernel
theorem dX2_add_22 : decode cX2_add 22 = .ok (.aload_n 0, 1) := by decide +kernel
theorem dX2_add_23 : decode cX2_add 23 = .ok (.dup, 1) := by decide +kernel
theorem dX2_add_24 : decode cX2_add 24 = .ok (.getfield 24, 3) := by decide +kernel
theorem dX2_add_27 : decode cX2_add 27 = .ok (.iconst 1, 1) := by decide +kernel
theorem dX2_add_28 : decode cX2_add 28 = .ok (.iadd, 1) := by decide +kernel
theorem dX2_add_29 : decode cX2_add 29 = .ok (.putfield 24, 3) := by decide +kernel
theorem dX2_add_32 : decode cX2_add 32 = .ok (.iconst 1, 1) := by decide +kernel
theorem dX2_add_33 : decode cX2_add 33 = .ok (.ireturn, 1) := by decide +kernel
theorem dX2_firstFault_0 : decode cX2_firstFault 0 = .ok (.aload_n 0, 1) := by decide +kernel
theorem dX2_firstFault_1 : decode cX2_firstFault 1 = .ok (.iload_n 1, 1) := by decide +kernel
theorem dX2_firstFault_2 : decode cX2_firstFault 2 = .ok (.putfield 28, 3) := by decide +kernel
theorem dX2_firstFault_5 : decode cX2_firstFault 5 = .ok (.aload_n 0, 1) := by decide +kernel
theorem dX2_firstFault_6 : decode cX2_firstFault 6 = .ok (.iload_n 2, 1) := by decide +kernel
theorem dX2_firstFault_7 : decode cX2_firstFault 7 = .ok (.putfield 31, 3) := by decide +kernel
theorem dX2_firstFault_10 : decode cX2_firstFault 10 = .ok (.aload_n 0, 1) := by decide +kernel
theorem dX2_firstFault_11 : decode cX2_firstFault 11 = .ok (.iconst 0, 1) := by decide +kernel
theorem dX2_firstFault_12 : decode cX2_firstFault 12 = .ok (.putfield 34, 3) := by decide +kernel
theorem dX2_firstFault_15 : decode cX2_firstFault 15 = .ok (.aload_n 0, 1) := by decide +kernel
theorem dX2_firstFault_16 : decode cX2_firstFault 16 = .ok (.iconst 0, 1) := by decide +kernel
theorem dX2_firstFault_17 : decode cX2_firstFault 17 = .ok (.putfield 37, 3) := by decide +kernel
theorem dX2_firstFault_20 : decode cX2_firstFault 20 = .ok (.iconst 0, 1) := by decide +kernel
theorem dX2_firstFault_21 : decode cX2_firstFault 21 = .ok (.istore_n 3, 1) := by decide +kernel
theorem dX2_firstFault_22 : decode cX2_firstFault 22 = .ok (.iload_n 3, 1) := by decide +kernel
theorem dX2_firstFault_23 : decode cX2_firstFault 23 = .ok (.bipush 14, 2) := by decide +kernel
theorem dX2_firstFault_25 : decode cX2_firstFault 25 = .ok (.if_icmp .ge 65, 3) := by decide +kernel
theorem dX2_firstFault_28 : decode cX2_firstFault 28 = .ok (.aload_n 0, 1) := by decide +kernel
theorem dX2_firstFault_29 : decode cX2_firstFault 29 = .ok (.iload_n 3, 1) := by decide +kernel
theorem dX2_firstFault_30 : decode cX2_firstFault 30 = .ok (.invokevirtual 40, 3) := by decide +kernel
theorem dX2_firstFault_33 : decode cX2_firstFault 33 = .ok (.ifCond .ne 8, 3) := by decide +kernel
theorem dX2_firstFault_36 : decode cX2_firstFault 36 = .ok (.aload_n 0, 1) := by decide +kernel
theorem dX2_firstFault_37 : decode cX2_firstFault 37 = .ok (.getfield 44, 3) := by decide +kernel
theorem dX2_firstFault_40 : decode cX2_firstFault 40 = .ok (.ireturn, 1) := by decide +kernel
theorem dX2_firstFault_41 : decode cX2_firstFault 41 = .ok (.aload_n 0, 1) := by decide +kernel
theorem dX2_firstFault_42 : decode cX2_firstFault 42 = .ok (.iload_n 3, 1) := by decide +kernel
theorem dX2_firstFault_43 : decode cX2_firstFault 43 = .ok (.iconst 1, 1) := by decide +kernel
theorem dX2_firstFault_44 : decode cX2_firstFault 44 = .ok (.iadd, 1) := by decide +kernel
theorem dX2_firstFault_45 : decode cX2_firstFault 45 = .ok (.putfield 37, 3) := by decide +kernel
theorem dX2_firstFault_48 : decode cX2_firstFault 48 = .ok (.aload_n 0, 1) := by decide +kernel
theorem dX2_firstFault_49 : decode cX2_firstFault 49 = .ok (.invokevirtual 47, 3) := by decide +kernel
theorem dX2_firstFault_52 : decode cX2_firstFault 52 = .ok (.aload_n 0, 1) := by decide +kernel
theorem dX2_firstFault_53 : decode cX2_firstFault 53 = .ok (.getfield 44, 3) := by decide +kernel
theorem dX2_firstFault_56 : decode cX2_firstFault 56 = .ok (.aload_n 0, 1) := by decide +kernel
theorem dX2_firstFault_57 : decode cX2_firstFault 57 = .ok (.getfield 24, 3) := by decide +kernel
theorem dX2_firstFault_60 : decode cX2_firstFault 60 = .ok (.if_icmp .lt 5, 3) := by decide +kernel
theorem dX2_firstFault_63 : decode cX2_firstFault 63 = .ok (.iconst (-1), 1) := by decide +kernel
theorem dX2_firstFault_64 : decode cX2_firstFault 64 = .ok (.ireturn, 1) := by decide +kernel
theorem dX2_firstFault_65 : decode cX2_firstFault 65 = .ok (.aload_n 0, 1) := by decide +kernel
theorem dX2_firstFault_66 : decode cX2_firstFault 66 = .ok (.getfield 9, 3) := by decide +kernel
theorem dX2_firstFault_69 : decode cX2_firstFault 69 = .ok (.aload_n 0, 1) := by decide +kernel
theorem dX2_firstFault_70 : decode cX2_firstFault 70 = .ok (.getfield 44, 3) := by decide +kernel
theorem dX2_firstFault_73 : decode cX2_firstFault 73 = .ok (.iaload, 1) := by decide +kernel
theorem dX2_firstFault_74 : decode cX2_firstFault 74 = .ok (.bipush 59, 2) := by decide +kernel
theorem dX2_firstFault_76 : decode cX2_firstFault 76 = .ok (.if_icmp .eq 8, 3) := by decide +kernel
theorem dX2_firstFault_79 : decode cX2_firstFault 79 = .ok (.aload_n 0, 1) := by decide +kernel
theorem dX2_firstFault_80 : decode cX2_firstFault 80 = .ok (.getfield 44, 3) := by decide +kernel
theorem dX2_firstFault_83 : decode cX2_firstFault 83 = .ok (.ireturn, 1) := by decide +kernel
theorem dX2_firstFault_84 : decode cX2_firstFault 84 = .ok (.iinc 3 1, 3) := by decide +kernel
theorem dX2_firstFault_87 : decode cX2_firstFault 87 = .ok (.goto (-65), 3) := by decide +kernel
theorem dX2_firstFault_90 : decode cX2_firstFault 90 = .ok (.aload_n 0, 1) := by decide +kernel
theorem dX2_firstFault_91 : decode cX2_firstFault 91 = .ok (.getfield 44, 3) := by decide +kernel
theorem dX2_firstFault_94 : decode cX2_firstFault 94 = .ok (.ireturn, 1) := by decide +kernel
theorem dX2_readClause_0 : decode cX2_readClause 0 = .ok (.aload_n 0, 1) := by decide +kernel
theorem dX2_readClause_1 : decode cX2_readClause 1 = .ok (.invokevirtual 47, 3) := by decide +kernel
theorem dX2_readClause_4 : decode cX2_readClause 4 = .ok (.aload_n 0, 1) := by decide +kernel
theorem dX2_readClause_5 : decode cX2_readClause 5 = .ok (.invokevirtual 50, 3) := by decide +kernel
theorem dX2_readClause_8 : decode cX2_readClause 8 = .ok (.istore_n 2, 1) := by decide +kernel
theorem dX2_readClause_9 : decode cX2_readClause 9 = .ok (.aload_n 0, 1) := by decide +kernel
theorem dX2_readClause_10 : decode cX2_readClause 10 = .ok (.getfield 15, 3) := by decide +kernel
theorem dX2_readClause_13 : decode cX2_readClause 13 = .ok (.iload_n 1, 1) := by decide +kernel
theorem dX2_readClause_14 : decode cX2_readClause 14 = .ok (.iload_n 2, 1) := by decide +kernel
theorem dX2_readClause_15 : decode cX2_readClause 15 = .ok (.iastore, 1) := by decide +kernel
theorem dX2_readClause_16 : decode cX2_readClause 16 = .ok (.aload_n 0, 1) := by decide +kernel
theorem dX2_readClause_17 : decode cX2_readClause 17 = .ok (.getfield 18, 3) := by decide +kernel
theorem dX2_readClause_20 : decode cX2_readClause 20 = .ok (.iload_n 1, 1) := by decide +kernel
theorem dX2_readClause_21 : decode cX2_readClause 21 = .ok (.iconst 0, 1) := by decide +kernel
theorem dX2_readClause_22 : decode cX2_readClause 22 = .ok (.iastore, 1) := by decide +kernel
theorem dX2_readClause_23 : decode cX2_readClause 23 = .ok (.aload_n 0, 1) := by decide +kernel
theorem dX2_readClause_24 : decode cX2_readClause 24 = .ok (.getfield 21, 3) := by decide +kernel
theorem dX2_readClause_27 : decode cX2_readClause 27 = .ok (.iload_n 1, 1) := by decide +kernel
theorem dX2_readClause_28 : decode cX2_readClause 28 = .ok (.iconst 0, 1) := by decide +kernel
theorem dX2_readClause_29 : decode cX2_readClause 29 = .ok (.iastore, 1) := by decide +kernel
theorem dX2_readClause_30 : decode cX2_readClause 30 = .ok (.iload_n 2, 1) := by decide +kernel
theorem dX2_readClause_31 : decode cX2_readClause 31 = .ok (.iconst (-1), 1) := by decide +kernel
theorem dX2_readClause_32 : decode cX2_readClause 32 = .ok (.if_icmp .ne 5, 3) := by decide +kernel
theorem dX2_readClause_35 : decode cX2_readClause 35 = .ok (.iconst 0, 1) := by decide +kernel
theorem dX2_readClause_36 : decode cX2_readClause 36 = .ok (.ireturn, 1) := by decide +kernel
theorem dX2_readClause_37 : decode cX2_readClause 37 = .ok (.aload_n 0, 1) := by decide +kernel
theorem dX2_readClause_38 : decode cX2_readClause 38 = .ok (.iload_n 2, 1) := by decide +kernel
theorem dX2_readClause_39 : decode cX2_readClause 39 = .ok (.invokevirtual 54, 3) := by decide +kernel
theorem dX2_readClause_42 : decode cX2_readClause 42 = .ok (.aload_n 0, 1) := by decide +kernel
theorem dX2_readClause_43 : decode cX2_readClause 43 = .ok (.getfield 28, 3) := by decide +kernel
theorem dX2_readClause_46 : decode cX2_readClause 46 = .ok (.bipush 8, 2) := by decide +kernel
theorem dX2_readClause_48 : decode cX2_readClause 48 = .ok (.if_icmp .gt 12, 3) := by decide +kernel
theorem dX2_readClause_51 : decode cX2_readClause 51 = .ok (.aload_n 0, 1) := by decide +kernel
theorem dX2_readClause_52 : decode cX2_readClause 52 = .ok (.getfield 31, 3) := by decide +kernel
theorem dX2_readClause_55 : decode cX2_readClause 55 = .ok (.bipush 6, 2) := by decide +kernel
theorem dX2_readClause_57 : decode cX2_readClause 57 = .ok (.if_icmp .le 5, 3) := by decide +kernel
theorem dX2_readClause_60 : decode cX2_readClause 60 = .ok (.iconst 0, 1) := by decide +kernel
theorem dX2_readClause_61 : decode cX2_readClause 61 = .ok (.ireturn, 1) := by decide +kernel
theorem dX2_readClause_62 : decode cX2_readClause 62 = .ok (.iload_n 2, 1) := by decide +kernel
theorem dX2_readClause_63 : decode cX2_readClause 63 = .ok (.ifCond .ne 5, 3) := by decide +kernel
theorem dX2_readClause_66 : decode cX2_readClause 66 = .ok (.iconst 1, 1) := by decide +kernel
theorem dX2_readClause_67 : decode cX2_readClause 67 = .ok (.ireturn, 1) := by decide +kernel
theorem dX2_readClause_68 : decode cX2_readClause 68 = .ok (.aload_n 0, 1) := by decide +kernel
theorem dX2_readClause_69 : decode cX2_readClause 69 = .ok (.invokevirtual 47, 3) := by decide +kernel
theorem dX2_readClause_72 : decode cX2_readClause 72 = .ok (.aload_n 0, 1) := by decide +kernel
theorem dX2_readClause_73 : decode cX2_readClause 73 = .ok (.getfield 18, 3) := by decide +kernel
theorem dX2_readClause_76 : decode cX2_readClause 76 = .ok (.iload_n 1, 1) := by decide +kernel
theorem dX2_readClause_77 : decode cX2_readClause 77 = .ok (.aload_n 0, 1) := by decide +kernel
theorem dX2_readClause_78 : decode cX2_readClause 78 = .ok (.invokevirtual 58, 3) := by decide +kernel
theorem dX2_readClause_81 : decode cX2_readClause 81 = .ok (.iastore, 1) := by decide +kernel
theorem dX2_readClause_82 : decode cX2_readClause 82 = .ok (.aload_n 0, 1) := by decide +kernel
theorem dX2_readClause_83 : decode cX2_readClause 83 = .ok (.getfield 18, 3) := by decide +kernel
theorem dX2_readClause_86 : decode cX2_readClause 86 = .ok (.iload_n 1, 1) := by decide +kernel
theorem dX2_readClause_87 : decode cX2_readClause 87 = .ok (.iaload, 1) := by decide +kernel
theorem dX2_readClause_88 : decode cX2_readClause 88 = .ok (.iconst 0, 1) := by decide +kernel
theorem dX2_readClause_89 : decode cX2_readClause 89 = .ok (.iload_n 2, 1) := by decide +kernel
theorem dX2_readClause_90 : decode cX2_readClause 90 = .ok (.invokestatic 61, 3) := by decide +kernel
theorem dX2_readClause_93 : decode cX2_readClause 93 = .ok (.invokestatic 65, 3) := by decide +kernel
theorem dX2_readClause_96 : decode cX2_readClause 96 = .ok (.ifCond .ne 5, 3) := by decide +kernel
theorem dX2_readClause_99 : decode cX2_readClause 99 = .ok (.iconst 0, 1) := by decide +kernel
theorem dX2_readClause_100 : decode cX2_readClause 100 = .ok (.ireturn, 1) := by decide +kernel
theorem dX2_readClause_101 : decode cX2_readClause 101 = .ok (.iload_n 2, 1) := by decide +kernel
theorem dX2_readClause_102 : decode cX2_readClause 102 = .ok (.invokestatic 69, 3) := by decide +kernel
theorem dX2_readClause_105 : decode cX2_readClause 105 = .ok (.ifCond .ne 5, 3) := by decide +kernel
theorem dX2_readClause_108 : decode cX2_readClause 108 = .ok (.iconst 1, 1) := by decide +kernel
theorem dX2_readClause_109 : decode cX2_readClause 109 = .ok (.ireturn, 1) := by decide +kernel
theorem dX2_readClause_110 : decode cX2_readClause 110 = .ok (.aload_n 0, 1) := by decide +kernel
theorem dX2_readClause_111 : decode cX2_readClause 111 = .ok (.invokevirtual 47, 3) := by decide +kernel
theorem dX2_readClause_114 : decode cX2_readClause 114 = .ok (.aload_n 0, 1) := by decide +kernel
theorem dX2_readClause_115 : decode cX2_readClause 115 = .ok (.getfield 21, 3) := by decide +kernel
theorem dX2_readClause_118 : decode cX2_readClause 118 = .ok (.iload_n 1, 1) := by decide +kernel
theorem dX2_readClause_119 : decode cX2_readClause 119 = .ok (.aload_n 0, 1) := by decide +kernel
theorem dX2_readClause_120 : decode cX2_readClause 120 = .ok (.invokevirtual 58, 3) := by decide +kernel
theorem dX2_readClause_123 : decode cX2_readClause 123 = .ok (.iastore, 1) := by decide +kernel
theorem dX2_readClause_124 : decode cX2_readClause 124 = .ok (.aload_n 0, 1) := by decide +kernel
theorem dX2_readClause_125 : decode cX2_readClause 125 = .ok (.getfield 21, 3) := by decide +kernel
theorem dX2_readClause_128 : decode cX2_readClause 128 = .ok (.iload_n 1, 1) := by decide +kernel
theorem dX2_readClause_129 : decode cX2_readClause 129 = .ok (.iaload, 1) := by decide +kernel
theorem dX2_readClause_130 : decode cX2_readClause 130 = .ok (.iconst 1, 1) := by decide +kernel
theorem dX2_readClause_131 : decode cX2_readClause 131 = .ok (.bipush 30, 2) := by decide +kernel
theorem dX2_readClause_133 : decode cX2_readClause 133 = .ok (.invokestatic 65, 3) := by decide +kernel
theorem dX2_readClause_136 : decode cX2_readClause 136 = .ok (.ireturn, 1) := by decide +kernel
theorem dX2_countPartsAndSouls_0 : decode cX2_countPartsAndSouls 0 = .ok (.iload_n 1, 1) := by decide +kernel
theorem dX2_countPartsAndSouls_1 : decode cX2_countPartsAndSouls 1 = .ok (.ifCond .ne 16, 3) := by decide +kernel
theorem dX2_countPartsAndSouls_4 : decode cX2_countPartsAndSouls 4 = .ok (.aload_n 0, 1) := by decide +kernel
theorem dX2_countPartsAndSouls_5 : decode cX2_countPartsAndSouls 5 = .ok (.iconst 0, 1) := by decide +kernel
theorem dX2_countPartsAndSouls_6 : decode cX2_countPartsAndSouls 6 = .ok (.putfield 28, 3) := by decide +kernel
theorem dX2_countPartsAndSouls_9 : decode cX2_countPartsAndSouls 9 = .ok (.aload_n 0, 1) := by decide +kernel
theorem dX2_countPartsAndSouls_10 : decode cX2_countPartsAndSouls 10 = .ok (.iconst 0, 1) := by decide +kernel
theorem dX2_countPartsAndSouls_11 : decode cX2_countPartsAndSouls 11 = .ok (.putfield 31, 3) := by decide +kernel
theorem dX2_countPartsAndSouls_14 : decode cX2_countPartsAndSouls 14 = .ok (.goto 38, 3) := by decide +kernel
theorem dX2_countPartsAndSouls_17 : decode cX2_countPartsAndSouls 17 = .ok (.iload_n 1, 1) := by decide +kernel
theorem dX2_countPartsAndSouls_18 : decode cX2_countPartsAndSouls 18 = .ok (.iconst 5, 1) := by decide +kernel
theorem dX2_countPartsAndSouls_19 : decode cX2_countPartsAndSouls 19 = .ok (.if_icmp .ne 16, 3) := by decide +kernel
theorem dX2_countPartsAndSouls_22 : decode cX2_countPartsAndSouls 22 = .ok (.aload_n 0, 1) := by decide +kernel
theorem dX2_countPartsAndSouls_23 : decode cX2_countPartsAndSouls 23 = .ok (.dup, 1) := by decide +kernel
theorem dX2_countPartsAndSouls_24 : decode cX2_countPartsAndSouls 24 = .ok (.getfield 31, 3) := by decide +kernel
theorem dX2_countPartsAndSouls_27 : decode cX2_countPartsAndSouls 27 = .ok (.iconst 1, 1) := by decide +kernel
theorem dX2_countPartsAndSouls_28 : decode cX2_countPartsAndSouls 28 = .ok (.iadd, 1) := by decide +kernel
theorem dX2_countPartsAndSouls_29 : decode cX2_countPartsAndSouls 29 = .ok (.putfield 31, 3) := by decide +kernel
theorem dX2_countPartsAndSouls_32 : decode cX2_countPartsAndSouls 32 = .ok (.goto 20, 3) := by decide +kernel
theorem dX2_countPartsAndSouls_35 : decode cX2_countPartsAndSouls 35 = .ok (.iload_n 1, 1) := by decide +kernel
theorem dX2_countPartsAndSouls_36 : decode cX2_countPartsAndSouls 36 = .ok (.invokestatic 69, 3) := by decide +kernel
theorem dX2_countPartsAndSouls_39 : decode cX2_countPartsAndSouls 39 = .ok (.ifCond .eq 13, 3) := by decide +kernel
theorem dX2_countPartsAndSouls_42 : decode cX2_countPartsAndSouls 42 = .ok (.aload_n 0, 1) := by decide +kernel
theorem dX2_countPartsAndSouls_43 : decode cX2_countPartsAndSouls 43 = .ok (.dup, 1) := by decide +kernel
theorem dX2_countPartsAndSouls_44 : decode cX2_countPartsAndSouls 44 = .ok (.getfield 28, 3) := by decide +kernel
theorem dX2_countPartsAndSouls_47 : decode cX2_countPartsAndSouls 47 = .ok (.iconst 1, 1) := by decide +kernel
theorem dX2_countPartsAndSouls_48 : decode cX2_countPartsAndSouls 48 = .ok (.iadd, 1) := by decide +kernel
theorem dX2_countPartsAndSouls_49 : decode cX2_countPartsAndSouls 49 = .ok (.putfield 28, 3) := by decide +kernel
theorem dX2_countPartsAndSouls_52 : decode cX2_countPartsAndSouls 52 = .ok (.return_, 1) := by decide +kernel
theorem dX2_isOfPart_0 : decode cX2_isOfPart 0 = .ok (.iload_n 0, 1) := by decide +kernel
theorem dX2_isOfPart_1 : decode cX2_isOfPart 1 = .ok (.iconst 1, 1) := by decide +kernel
theorem dX2_isOfPart_2 : decode cX2_isOfPart 2 = .ok (.iconst 4, 1) := by decide +kernel
theorem dX2_isOfPart_3 : decode cX2_isOfPart 3 = .ok (.invokestatic 65, 3) := by decide +kernel
theorem dX2_isOfPart_6 : decode cX2_isOfPart 6 = .ok (.ireturn, 1) := by decide +kernel
theorem dX2_mostFirst_0 : decode cX2_mostFirst 0 = .ok (.iload_n 0, 1) := by decide +kernel
theorem dX2_mostFirst_1 : decode cX2_mostFirst 1 = .ok (.tableswitch 42 5 8 #[31, 34, 37, 39], 31) := by decide +kernel
theorem dX2_mostFirst_32 : decode cX2_mostFirst 32 = .ok (.bipush 40, 2) := by decide +kernel
theorem dX2_mostFirst_34 : decode cX2_mostFirst 34 = .ok (.ireturn, 1) := by decide +kernel
theorem dX2_mostFirst_35 : decode cX2_mostFirst 35 = .ok (.bipush 9, 2) := by decide +kernel
theorem dX2_mostFirst_37 : decode cX2_mostFirst 37 = .ok (.ireturn, 1) := by decide +kernel
theorem dX2_mostFirst_38 : decode cX2_mostFirst 38 = .ok (.iconst 5, 1) := by decide +kernel
theorem dX2_mostFirst_39 : decode cX2_mostFirst 39 = .ok (.ireturn, 1) := by decide +kernel
theorem dX2_mostFirst_40 : decode cX2_mostFirst 40 = .ok (.bipush 9, 2) := by decide +kernel
theorem dX2_mostFirst_42 : decode cX2_mostFirst 42 = .ok (.ireturn, 1) := by decide +kernel
theorem dX2_mostFirst_43 : decode cX2_mostFirst 43 = .ok (.bipush 20, 2) := by decide +kernel
theorem dX2_mostFirst_45 : decode cX2_mostFirst 45 = .ok (.ireturn, 1) := by decide +kernel
theorem dX2_nextToken_0 : decode cX2_nextToken 0 = .ok (.aload_n 0, 1) := by decide +kernel
theorem dX2_nextToken_1 : decode cX2_nextToken 1 = .ok (.aload_n 0, 1) := by decide +kernel
theorem dX2_nextToken_2 : decode cX2_nextToken 2 = .ok (.aload_n 0, 1) := by decide +kernel
theorem dX2_nextToken_3 : decode cX2_nextToken 3 = .ok (.getfield 34, 3) := by decide +kernel
theorem dX2_nextToken_6 : decode cX2_nextToken 6 = .ok (.bipush 32, 2) := by decide +kernel
theorem dX2_nextToken_8 : decode cX2_nextToken 8 = .ok (.bipush 32, 2) := by decide +kernel
theorem dX2_nextToken_10 : decode cX2_nextToken 10 = .ok (.invokevirtual 72, 3) := by decide +kernel
theorem dX2_nextToken_13 : decode cX2_nextToken 13 = .ok (.putfield 44, 3) := by decide +kernel
theorem dX2_nextToken_16 : decode cX2_nextToken 16 = .ok (.aload_n 0, 1) := by decide +kernel
theorem dX2_nextToken_17 : decode cX2_nextToken 17 = .ok (.aload_n 0, 1) := by decide +kernel
theorem dX2_nextToken_18 : decode cX2_nextToken 18 = .ok (.aload_n 0, 1) := by decide +kernel
theorem dX2_nextToken_19 : decode cX2_nextToken 19 = .ok (.getfield 44, 3) := by decide +kernel
theorem dX2_nextToken_22 : decode cX2_nextToken 22 = .ok (.bipush 97, 2) := by decide +kernel
theorem dX2_nextToken_24 : decode cX2_nextToken 24 = .ok (.bipush 122, 2) := by decide +kernel
theorem dX2_nextToken_26 : decode cX2_nextToken 26 = .ok (.invokevirtual 72, 3) := by decide +kernel
theorem dX2_nextToken_29 : decode cX2_nextToken 29 = .ok (.putfield 34, 3) := by decide +kernel
theorem dX2_nextToken_32 : decode cX2_nextToken 32 = .ok (.aload_n 0, 1) := by decide +kernel
theorem dX2_nextToken_33 : decode cX2_nextToken 33 = .ok (.getfield 34, 3) := by decide +kernel
theorem dX2_nextToken_36 : decode cX2_nextToken 36 = .ok (.aload_n 0, 1) := by decide +kernel
theorem dX2_nextToken_37 : decode cX2_nextToken 37 = .ok (.getfield 44, 3) := by decide +kernel
theorem dX2_nextToken_40 : decode cX2_nextToken 40 = .ok (.if_icmp .ne 19, 3) := by decide +kernel
theorem dX2_nextToken_43 : decode cX2_nextToken 43 = .ok (.aload_n 0, 1) := by decide +kernel
theorem dX2_nextToken_44 : decode cX2_nextToken 44 = .ok (.aload_n 0, 1) := by decide +kernel
theorem dX2_nextToken_45 : decode cX2_nextToken 45 = .ok (.aload_n 0, 1) := by decide +kernel
theorem dX2_nextToken_46 : decode cX2_nextToken 46 = .ok (.getfield 44, 3) := by decide +kernel
theorem dX2_nextToken_49 : decode cX2_nextToken 49 = .ok (.bipush 48, 2) := by decide +kernel
theorem dX2_nextToken_51 : decode cX2_nextToken 51 = .ok (.bipush 57, 2) := by decide +kernel
theorem dX2_nextToken_53 : decode cX2_nextToken 53 = .ok (.invokevirtual 72, 3) := by decide +kernel
theorem dX2_nextToken_56 : decode cX2_nextToken 56 = .ok (.putfield 34, 3) := by decide +kernel
theorem dX2_nextToken_59 : decode cX2_nextToken 59 = .ok (.aload_n 0, 1) := by decide +kernel
theorem dX2_nextToken_60 : decode cX2_nextToken 60 = .ok (.getfield 34, 3) := by decide +kernel
theorem dX2_nextToken_63 : decode cX2_nextToken 63 = .ok (.aload_n 0, 1) := by decide +kernel
theorem dX2_nextToken_64 : decode cX2_nextToken 64 = .ok (.getfield 44, 3) := by decide +kernel
theorem dX2_nextToken_67 : decode cX2_nextToken 67 = .ok (.if_icmp .ne 24, 3) := by decide +kernel
theorem dX2_nextToken_70 : decode cX2_nextToken 70 = .ok (.aload_n 0, 1) := by decide +kernel
theorem dX2_nextToken_71 : decode cX2_nextToken 71 = .ok (.getfield 44, 3) := by decide +kernel
theorem dX2_nextToken_74 : decode cX2_nextToken 74 = .ok (.aload_n 0, 1) := by decide +kernel
theorem dX2_nextToken_75 : decode cX2_nextToken 75 = .ok (.getfield 24, 3) := by decide +kernel
theorem dX2_nextToken_78 : decode cX2_nextToken 78 = .ok (.if_icmp .ge 13, 3) := by decide +kernel
theorem dX2_nextToken_81 : decode cX2_nextToken 81 = .ok (.aload_n 0, 1) := by decide +kernel
theorem dX2_nextToken_82 : decode cX2_nextToken 82 = .ok (.dup, 1) := by decide +kernel
theorem dX2_nextToken_83 : decode cX2_nextToken 83 = .ok (.getfield 34, 3) := by decide +kernel
theorem dX2_nextToken_86 : decode cX2_nextToken 86 = .ok (.iconst 1, 1) := by decide +kernel
theorem dX2_nextToken_87 : decode cX2_nextToken 87 = .ok (.iadd, 1) := by decide +kernel
theorem dX2_nextToken_88 : decode cX2_nextToken 88 = .ok (.putfield 34, 3) := by decide +kernel
theorem dX2_nextToken_91 : decode cX2_nextToken 91 = .ok (.return_, 1) := by decide +kernel
theorem dX2_endOfRow_0 : decode cX2_endOfRow 0 = .ok (.iload_n 1, 1) := by decide +kernel
theorem dX2_endOfRow_1 : decode cX2_endOfRow 1 = .ok (.istore 4, 2) := by decide +kernel
theorem dX2_endOfRow_3 : decode cX2_endOfRow 3 = .ok (.iload 4, 2) := by decide +kernel
theorem dX2_endOfRow_5 : decode cX2_endOfRow 5 = .ok (.aload_n 0, 1) := by decide +kernel
theorem dX2_endOfRow_6 : decode cX2_endOfRow 6 = .ok (.getfield 24, 3) := by decide +kernel
theorem dX2_endOfRow_9 : decode cX2_endOfRow 9 = .ok (.if_icmp .ge 24, 3) := by decide +kernel
theorem dX2_endOfRow_12 : decode cX2_endOfRow 12 = .ok (.aload_n 0, 1) := by decide +kernel
theorem dX2_endOfRow_13 : decode cX2_endOfRow 13 = .ok (.getfield 9, 3) := by decide +kernel
theorem dX2_endOfRow_16 : decode cX2_endOfRow 16 = .ok (.iload 4, 2) := by decide +kernel
theorem dX2_endOfRow_18 : decode cX2_endOfRow 18 = .ok (.iaload, 1) := by decide +kernel
theorem dX2_endOfRow_19 : decode cX2_endOfRow 19 = .ok (.iload_n 2, 1) := by decide +kernel
theorem dX2_endOfRow_20 : decode cX2_endOfRow 20 = .ok (.iload_n 3, 1) := by decide +kernel
theorem dX2_endOfRow_21 : decode cX2_endOfRow 21 = .ok (.invokestatic 65, 3) := by decide +kernel
theorem dX2_endOfRow_24 : decode cX2_endOfRow 24 = .ok (.ifCond .eq 9, 3) := by decide +kernel
theorem dX2_endOfRow_27 : decode cX2_endOfRow 27 = .ok (.iinc 4 1, 3) := by decide +kernel
theorem dX2_endOfRow_30 : decode cX2_endOfRow 30 = .ok (.goto (-27), 3) := by decide +kernel
theorem dX2_endOfRow_33 : decode cX2_endOfRow 33 = .ok (.iload 4, 2) := by decide +kernel
theorem dX2_endOfRow_35 : decode cX2_endOfRow 35 = .ok (.ireturn, 1) := by decide +kernel
theorem dX2_tokenNumber_0 : decode cX2_tokenNumber 0 = .ok (.aload_n 0, 1) := by decide +kernel
theorem dX2_tokenNumber_1 : decode cX2_tokenNumber 1 = .ok (.getfield 34, 3) := by decide +kernel
theorem dX2_tokenNumber_4 : decode cX2_tokenNumber 4 = .ok (.aload_n 0, 1) := by decide +kernel
theorem dX2_tokenNumber_5 : decode cX2_tokenNumber 5 = .ok (.getfield 44, 3) := by decide +kernel
theorem dX2_tokenNumber_8 : decode cX2_tokenNumber 8 = .ok (.isub, 1) := by decide +kernel
theorem dX2_tokenNumber_9 : decode cX2_tokenNumber 9 = .ok (.istore_n 1, 1) := by decide +kernel
theorem dX2_tokenNumber_10 : decode cX2_tokenNumber 10 = .ok (.iload_n 1, 1) := by decide +kernel
theorem dX2_tokenNumber_11 : decode cX2_tokenNumber 11 = .ok (.iconst 1, 1) := by decide +kernel
theorem dX2_tokenNumber_12 : decode cX2_tokenNumber 12 = .ok (.if_icmp .lt 27, 3) := by decide +kernel
theorem dX2_tokenNumber_15 : decode cX2_tokenNumber 15 = .ok (.iload_n 1, 1) := by decide +kernel
theorem dX2_tokenNumber_16 : decode cX2_tokenNumber 16 = .ok (.iconst 2, 1) := by decide +kernel
theorem dX2_tokenNumber_17 : decode cX2_tokenNumber 17 = .ok (.if_icmp .gt 22, 3) := by decide +kernel
theorem dX2_tokenNumber_20 : decode cX2_tokenNumber 20 = .ok (.aload_n 0, 1) := by decide +kernel
theorem dX2_tokenNumber_21 : decode cX2_tokenNumber 21 = .ok (.getfield 9, 3) := by decide +kernel
theorem dX2_tokenNumber_24 : decode cX2_tokenNumber 24 = .ok (.aload_n 0, 1) := by decide +kernel
theorem dX2_tokenNumber_25 : decode cX2_tokenNumber 25 = .ok (.getfield 44, 3) := by decide +kernel
theorem dX2_tokenNumber_28 : decode cX2_tokenNumber 28 = .ok (.iaload, 1) := by decide +kernel
theorem dX2_tokenNumber_29 : decode cX2_tokenNumber 29 = .ok (.bipush 48, 2) := by decide +kernel
theorem dX2_tokenNumber_31 : decode cX2_tokenNumber 31 = .ok (.bipush 57, 2) := by decide +kernel
theorem dX2_tokenNumber_33 : decode cX2_tokenNumber 33 = .ok (.invokestatic 65, 3) := by decide +kernel
theorem dX2_tokenNumber_36 : decode cX2_tokenNumber 36 = .ok (.ifCond .ne 5, 3) := by decide +kernel
theorem dX2_tokenNumber_39 : decode cX2_tokenNumber 39 = .ok (.iconst (-1), 1) := by decide +kernel
theorem dX2_tokenNumber_40 : decode cX2_tokenNumber 40 = .ok (.ireturn, 1) := by decide +kernel
theorem dX2_tokenNumber_41 : decode cX2_tokenNumber 41 = .ok (.iconst 0, 1) := by decide +kernel
theorem dX2_tokenNumber_42 : decode cX2_tokenNumber 42 = .ok (.istore_n 2, 1) := by decide +kernel
theorem dX2_tokenNumber_43 : decode cX2_tokenNumber 43 = .ok (.aload_n 0, 1) := by decide +kernel
theorem dX2_tokenNumber_44 : decode cX2_tokenNumber 44 = .ok (.getfield 44, 3) := by decide +kernel
theorem dX2_tokenNumber_47 : decode cX2_tokenNumber 47 = .ok (.istore_n 3, 1) := by decide +kernel
theorem dX2_tokenNumber_48 : decode cX2_tokenNumber 48 = .ok (.iload_n 3, 1) := by decide +kernel
theorem dX2_tokenNumber_49 : decode cX2_tokenNumber 49 = .ok (.aload_n 0, 1) := by decide +kernel
theorem dX2_tokenNumber_50 : decode cX2_tokenNumber 50 = .ok (.getfield 34, 3) := by decide +kernel
theorem dX2_tokenNumber_53 : decode cX2_tokenNumber 53 = .ok (.if_icmp .ge 24, 3) := by decide +kernel
theorem dX2_tokenNumber_56 : decode cX2_tokenNumber 56 = .ok (.iload_n 2, 1) := by decide +kernel
theorem dX2_tokenNumber_57 : decode cX2_tokenNumber 57 = .ok (.bipush 10, 2) := by decide +kernel
theorem dX2_tokenNumber_59 : decode cX2_tokenNumber 59 = .ok (.imul, 1) := by decide +kernel
theorem dX2_tokenNumber_60 : decode cX2_tokenNumber 60 = .ok (.aload_n 0, 1) := by decide +kernel
theorem dX2_tokenNumber_61 : decode cX2_tokenNumber 61 = .ok (.getfield 9, 3) := by decide +kernel
theorem dX2_tokenNumber_64 : decode cX2_tokenNumber 64 = .ok (.iload_n 3, 1) := by decide +kernel
theorem dX2_tokenNumber_65 : decode cX2_tokenNumber 65 = .ok (.iaload, 1) := by decide +kernel
theorem dX2_tokenNumber_66 : decode cX2_tokenNumber 66 = .ok (.iadd, 1) := by decide +kernel
theorem dX2_tokenNumber_67 : decode cX2_tokenNumber 67 = .ok (.bipush 48, 2) := by decide +kernel
theorem dX2_tokenNumber_69 : decode cX2_tokenNumber 69 = .ok (.isub, 1) := by decide +kernel
theorem dX2_tokenNumber_70 : decode cX2_tokenNumber 70 = .ok (.istore_n 2, 1) := by decide +kernel
theorem dX2_tokenNumber_71 : decode cX2_tokenNumber 71 = .ok (.iinc 3 1, 3) := by decide +kernel
theorem dX2_tokenNumber_74 : decode cX2_tokenNumber 74 = .ok (.goto (-26), 3) := by decide +kernel
theorem dX2_tokenNumber_77 : decode cX2_tokenNumber 77 = .ok (.iload_n 2, 1) := by decide +kernel
theorem dX2_tokenNumber_78 : decode cX2_tokenNumber 78 = .ok (.ireturn, 1) := by decide +kernel
theorem dX2_tokenWord_0 : decode cX2_tokenWord 0 = .ok (.iconst 0, 1) := by decide +kernel
theorem dX2_tokenWord_1 : decode cX2_tokenWord 1 = .ok (.istore_n 1, 1) := by decide +kernel
theorem dX2_tokenWord_2 : decode cX2_tokenWord 2 = .ok (.iload_n 1, 1) := by decide +kernel
theorem dX2_tokenWord_3 : decode cX2_tokenWord 3 = .ok (.bipush 8, 2) := by decide +kernel
theorem dX2_tokenWord_5 : decode cX2_tokenWord 5 = .ok (.if_icmp .gt 22, 3) := by decide +kernel
theorem dX2_tokenWord_8 : decode cX2_tokenWord 8 = .ok (.aload_n 0, 1) := by decide +kernel
theorem dX2_tokenWord_9 : decode cX2_tokenWord 9 = .ok (.iload_n 1, 1) := by decide +kernel
theorem dX2_tokenWord_10 : decode cX2_tokenWord 10 = .ok (.invokestatic 76, 3) := by decide +kernel
theorem dX2_tokenWord_13 : decode cX2_tokenWord 13 = .ok (.invokevirtual 80, 3) := by decide +kernel
theorem dX2_tokenWord_16 : decode cX2_tokenWord 16 = .ok (.ifCond .eq 5, 3) := by decide +kernel
theorem dX2_tokenWord_19 : decode cX2_tokenWord 19 = .ok (.iload_n 1, 1) := by decide +kernel
theorem dX2_tokenWord_20 : decode cX2_tokenWord 20 = .ok (.ireturn, 1) := by decide +kernel
theorem dX2_tokenWord_21 : decode cX2_tokenWord 21 = .ok (.iinc 1 1, 3) := by decide +kernel
theorem dX2_tokenWord_24 : decode cX2_tokenWord 24 = .ok (.goto (-22), 3) := by decide +kernel
theorem dX2_tokenWord_27 : decode cX2_tokenWord 27 = .ok (.iconst (-1), 1) := by decide +kernel
theorem dX2_tokenWord_28 : decode cX2_tokenWord 28 = .ok (.ireturn, 1) := by decide +kernel
theorem dX2_tokenIs_0 : decode cX2_tokenIs 0 = .ok (.aload_n 1, 1) := by decide +kernel
theorem dX2_tokenIs_1 : decode cX2_tokenIs 1 = .ok (.invokevirtual 84, 3) := by decide +kernel
theorem dX2_tokenIs_4 : decode cX2_tokenIs 4 = .ok (.aload_n 0, 1) := by decide +kernel
theorem dX2_tokenIs_5 : decode cX2_tokenIs 5 = .ok (.getfield 34, 3) := by decide +kernel
theorem dX2_tokenIs_8 : decode cX2_tokenIs 8 = .ok (.aload_n 0, 1) := by decide +kernel
theorem dX2_tokenIs_9 : decode cX2_tokenIs 9 = .ok (.getfield 44, 3) := by decide +kernel
theorem dX2_tokenIs_12 : decode cX2_tokenIs 12 = .ok (.isub, 1) := by decide +kernel
theorem dX2_tokenIs_13 : decode cX2_tokenIs 13 = .ok (.if_icmp .eq 5, 3) := by decide +kernel
theorem dX2_tokenIs_16 : decode cX2_tokenIs 16 = .ok (.iconst 0, 1) := by decide +kernel
theorem dX2_tokenIs_17 : decode cX2_tokenIs 17 = .ok (.ireturn, 1) := by decide +kernel
theorem dX2_tokenIs_18 : decode cX2_tokenIs 18 = .ok (.iconst 0, 1) := by decide +kernel
theorem dX2_tokenIs_19 : decode cX2_tokenIs 19 = .ok (.istore_n 2, 1) := by decide +kernel
theorem dX2_tokenIs_20 : decode cX2_tokenIs 20 = .ok (.iload_n 2, 1) := by decide +kernel
theorem dX2_tokenIs_21 : decode cX2_tokenIs 21 = .ok (.aload_n 1, 1) := by decide +kernel
theorem dX2_tokenIs_22 : decode cX2_tokenIs 22 = .ok (.invokevirtual 84, 3) := by decide +kernel
theorem dX2_tokenIs_25 : decode cX2_tokenIs 25 = .ok (.if_icmp .ge 30, 3) := by decide +kernel
theorem dX2_tokenIs_28 : decode cX2_tokenIs 28 = .ok (.aload_n 0, 1) := by decide +kernel
theorem dX2_tokenIs_29 : decode cX2_tokenIs 29 = .ok (.getfield 9, 3) := by decide +kernel
theorem dX2_tokenIs_32 : decode cX2_tokenIs 32 = .ok (.aload_n 0, 1) := by decide +kernel
theorem dX2_tokenIs_33 : decode cX2_tokenIs 33 = .ok (.getfield 44, 3) := by decide +kernel
theorem dX2_tokenIs_36 : decode cX2_tokenIs 36 = .ok (.iload_n 2, 1) := by decide +kernel
theorem dX2_tokenIs_37 : decode cX2_tokenIs 37 = .ok (.iadd, 1) := by decide +kernel
theorem dX2_tokenIs_38 : decode cX2_tokenIs 38 = .ok (.iaload, 1) := by decide +kernel
theorem dX2_tokenIs_39 : decode cX2_tokenIs 39 = .ok (.aload_n 1, 1) := by decide +kernel
theorem dX2_tokenIs_40 : decode cX2_tokenIs 40 = .ok (.iload_n 2, 1) := by decide +kernel
theorem dX2_tokenIs_41 : decode cX2_tokenIs 41 = .ok (.invokevirtual 88, 3) := by decide +kernel
theorem dX2_tokenIs_44 : decode cX2_tokenIs 44 = .ok (.if_icmp .eq 5, 3) := by decide +kernel
theorem dX2_tokenIs_47 : decode cX2_tokenIs 47 = .ok (.iconst 0, 1) := by decide +kernel
theorem dX2_tokenIs_48 : decode cX2_tokenIs 48 = .ok (.ireturn, 1) := by decide +kernel
theorem dX2_tokenIs_49 : decode cX2_tokenIs 49 = .ok (.iinc 2 1, 3) := by decide +kernel
theorem dX2_tokenIs_52 : decode cX2_tokenIs 52 = .ok (.goto (-32), 3) := by decide +kernel
theorem dX2_tokenIs_55 : decode cX2_tokenIs 55 = .ok (.iconst 1, 1) := by decide +kernel
theorem dX2_tokenIs_56 : decode cX2_tokenIs 56 = .ok (.ireturn, 1) := by decide +kernel
theorem dX2_nameOf_0 : decode cX2_nameOf 0 = .ok (.iload_n 0, 1) := by decide +kernel
theorem dX2_nameOf_1 : decode cX2_nameOf 1 = .ok (.tableswitch 71 0 7 #[47, 50, 53, 56, 59, 62, 65, 68], 47) := by decide +kernel
theorem dX2_nameOf_48 : decode cX2_nameOf 48 = .ok (.ldc 92, 2) := by decide +kernel
theorem dX2_nameOf_50 : decode cX2_nameOf 50 = .ok (.areturn, 1) := by decide +kernel
theorem dX2_nameOf_51 : decode cX2_nameOf 51 = .ok (.ldc 94, 2) := by decide +kernel
theorem dX2_nameOf_53 : decode cX2_nameOf 53 = .ok (.areturn, 1) := by decide +kernel
theorem dX2_nameOf_54 : decode cX2_nameOf 54 = .ok (.ldc 95, 2) := by decide +kernel
theorem dX2_nameOf_56 : decode cX2_nameOf 56 = .ok (.areturn, 1) := by decide +kernel
theorem dX2_nameOf_57 : decode cX2_nameOf 57 = .ok (.ldc 97, 2) := by decide +kernel
theorem dX2_nameOf_59 : decode cX2_nameOf 59 = .ok (.areturn, 1) := by decide +kernel
theorem dX2_nameOf_60 : decode cX2_nameOf 60 = .ok (.ldc 99, 2) := by decide +kernel
theorem dX2_nameOf_62 : decode cX2_nameOf 62 = .ok (.areturn, 1) := by decide +kernel
theorem dX2_nameOf_63 : decode cX2_nameOf 63 = .ok (.ldc 101, 2) := by decide +kernel
theorem dX2_nameOf_65 : decode cX2_nameOf 65 = .ok (.areturn, 1) := by decide +kernel
theorem dX2_nameOf_66 : decode cX2_nameOf 66 = .ok (.ldc 103, 2) := by decide +kernel
theorem dX2_nameOf_68 : decode cX2_nameOf 68 = .ok (.areturn, 1) := by decide +kernel
theorem dX2_nameOf_69 : decode cX2_nameOf 69 = .ok (.ldc 105, 2) := by decide +kernel
theorem dX2_nameOf_71 : decode cX2_nameOf 71 = .ok (.areturn, 1) := by decide +kernel
theorem dX2_nameOf_72 : decode cX2_nameOf 72 = .ok (.ldc 107, 2) := by decide +kernel
theorem dX2_nameOf_74 : decode cX2_nameOf 74 = .ok (.areturn, 1) := by decide +kernel
theorem dX3_init_0 : decode cX3_init 0 = .ok (.aload_n 0, 1) := by decide +kernel
theorem dX3_init_1 : decode cX3_init 1 = .ok (.invokespecial 3, 3) := by decide +kernel
theorem dX3_init_4 : decode cX3_init 4 = .ok (.aload_n 0, 1) := by decide +kernel
theorem dX3_init_5 : decode cX3_init 5 = .ok (.bipush 6, 2) := by decide +kernel
theorem dX3_init_7 : decode cX3_init 7 = .ok (.newarray .int, 2) := by decide +kernel
theorem dX3_init_9 : decode cX3_init 9 = .ok (.putfield 9, 3) := by decide +kernel
theorem dX3_init_12 : decode cX3_init 12 = .ok (.return_, 1) := by decide +kernel
theorem dX3_beginAsTold_0 : decode cX3_beginAsTold 0 = .ok (.aload_n 1, 1) := by decide +kernel
theorem dX3_beginAsTold_1 : decode cX3_beginAsTold 1 = .ok (.getfield 15, 3) := by decide +kernel
theorem dX3_beginAsTold_4 : decode cX3_beginAsTold 4 = .ok (.iconst 0, 1) := by decide +kernel
theorem dX3_beginAsTold_5 : decode cX3_beginAsTold 5 = .ok (.aload_n 0, 1) := by decide +kernel
theorem dX3_beginAsTold_6 : decode cX3_beginAsTold 6 = .ok (.getfield 9, 3) := by decide +kernel
theorem dX3_beginAsTold_9 : decode cX3_beginAsTold 9 = .ok (.iconst 0, 1) := by decide +kernel
theorem dX3_beginAsTold_10 : decode cX3_beginAsTold 10 = .ok (.bipush 6, 2) := by decide +kernel
theorem dX3_beginAsTold_12 : decode cX3_beginAsTold 12 = .ok (.invokestatic 20, 3) := by decide +kernel
theorem dX3_beginAsTold_15 : decode cX3_beginAsTold 15 = .ok (.aload_n 0, 1) := by decide +kernel
theorem dX3_beginAsTold_16 : decode cX3_beginAsTold 16 = .ok (.iconst 0, 1) := by decide +kernel
theorem dX3_beginAsTold_17 : decode cX3_beginAsTold 17 = .ok (.putfield 26, 3) := by decide +kernel
theorem dX3_beginAsTold_20 : decode cX3_beginAsTold 20 = .ok (.aload_n 0, 1) := by decide +kernel
theorem dX3_beginAsTold_21 : decode cX3_beginAsTold 21 = .ok (.iconst 0, 1) := by decide +kernel
theorem dX3_beginAsTold_22 : decode cX3_beginAsTold 22 = .ok (.putfield 30, 3) := by decide +kernel
theorem dX3_beginAsTold_25 : decode cX3_beginAsTold 25 = .ok (.aload_n 0, 1) := by decide +kernel
theorem dX3_beginAsTold_26 : decode cX3_beginAsTold 26 = .ok (.aload_n 1, 1) := by decide +kernel
theorem dX3_beginAsTold_27 : decode cX3_beginAsTold 27 = .ok (.getfield 33, 3) := by decide +kernel
theorem dX3_beginAsTold_30 : decode cX3_beginAsTold 30 = .ok (.putfield 36, 3) := by decide +kernel
theorem dX3_beginAsTold_33 : decode cX3_beginAsTold 33 = .ok (.aload_n 0, 1) := by decide +kernel
theorem dX3_beginAsTold_34 : decode cX3_beginAsTold 34 = .ok (.iconst 0, 1) := by decide +kernel
theorem dX3_beginAsTold_35 : decode cX3_beginAsTold 35 = .ok (.putfield 39, 3) := by decide +kernel
theorem dX3_beginAsTold_38 : decode cX3_beginAsTold 38 = .ok (.aload_n 0, 1) := by decide +kernel
theorem dX3_beginAsTold_39 : decode cX3_beginAsTold 39 = .ok (.iconst 0, 1) := by decide +kernel
theorem dX3_beginAsTold_40 : decode cX3_beginAsTold 40 = .ok (.putfield 42, 3) := by decide +kernel
theorem dX3_beginAsTold_43 : decode cX3_beginAsTold 43 = .ok (.aload_n 0, 1) := by decide +kernel
theorem dX3_beginAsTold_44 : decode cX3_beginAsTold 44 = .ok (.iconst 0, 1) := by decide +kernel
theorem dX3_beginAsTold_45 : decode cX3_beginAsTold 45 = .ok (.putfield 45, 3) := by decide +kernel
theorem dX3_beginAsTold_48 : decode cX3_beginAsTold 48 = .ok (.return_, 1) := by decide +kernel
theorem dX3_end_0 : decode cX3_end 0 = .ok (.iconst 0, 1) := by decide +kernel
theorem dX3_end_1 : decode cX3_end 1 = .ok (.istore_n 2, 1) := by decide +kernel
theorem dX3_end_2 : decode cX3_end 2 = .ok (.iload_n 2, 1) := by decide +kernel
theorem dX3_end_3 : decode cX3_end 3 = .ok (.bipush 6, 2) := by decide +kernel
theorem dX3_end_5 : decode cX3_end 5 = .ok (.if_icmp .ge 31, 3) := by decide +kernel
theorem dX3_end_8 : decode cX3_end 8 = .ok (.aload_n 0, 1) := by decide +kernel
theorem dX3_end_9 : decode cX3_end 9 = .ok (.getfield 9, 3) := by decide +kernel
theorem dX3_end_12 : decode cX3_end 12 = .ok (.iload_n 2, 1) := by decide +kernel
theorem dX3_end_13 : decode cX3_end 13 = .ok (.iload_n 1, 1) := by decide +kernel
theorem dX3_end_14 : decode cX3_end 14 = .ok (.ifCond .eq 7, 3) := by decide +kernel
theorem dX3_end_17 : decode cX3_end 17 = .ok (.iconst 0, 1) := by decide +kernel
theorem dX3_end_18 : decode cX3_end 18 = .ok (.goto 11, 3) := by decide +kernel
theorem dX3_end_21 : decode cX3_end 21 = .ok (.aload_n 0, 1) := by decide +kernel
theorem dX3_end_22 : decode cX3_end 22 = .ok (.getfield 9, 3) := by decide +kernel
theorem dX3_end_25 : decode cX3_end 25 = .ok (.iload_n 2, 1) := by decide +kernel
theorem dX3_end_26 : decode cX3_end 26 = .ok (.iaload, 1) := by decide +kernel
theorem dX3_end_27 : decode cX3_end 27 = .ok (.iconst 2, 1) := by decide +kernel
theorem dX3_end_28 : decode cX3_end 28 = .ok (.idiv, 1) := by decide +kernel
theorem dX3_end_29 : decode cX3_end 29 = .ok (.iastore, 1) := by decide +kernel
theorem dX3_end_30 : decode cX3_end 30 = .ok (.iinc 2 1, 3) := by decide +kernel
theorem dX3_end_33 : decode cX3_end 33 = .ok (.goto (-31), 3) := by decide +kernel
theorem dX3_end_36 : decode cX3_end 36 = .ok (.aload_n 0, 1) := by decide +kernel
theorem dX3_end_37 : decode cX3_end 37 = .ok (.iconst 0, 1) := by decide +kernel
theorem dX3_end_38 : decode cX3_end 38 = .ok (.putfield 26, 3) := by decide +kernel
theorem dX3_end_41 : decode cX3_end 41 = .ok (.aload_n 0, 1) := by decide +kernel
theorem dX3_end_42 : decode cX3_end 42 = .ok (.iconst 0, 1) := by decide +kernel
theorem dX3_end_43 : decode cX3_end 43 = .ok (.putfield 30, 3) := by decide +kernel
theorem dX3_end_46 : decode cX3_end 46 = .ok (.aload_n 0, 1) := by decide +kernel
theorem dX3_end_47 : decode cX3_end 47 = .ok (.dup, 1) := by decide +kernel
theorem dX3_end_48 : decode cX3_end 48 = .ok (.getfield 39, 3) := by decide +kernel
theorem dX3_end_51 : decode cX3_end 51 = .ok (.iconst 1, 1) := by decide +kernel
theorem dX3_end_52 : decode cX3_end 52 = .ok (.iadd, 1) := by decide +kernel
theorem dX3_end_53 : decode cX3_end 53 = .ok (.putfield 39, 3) := by decide +kernel
theorem dX3_end_56 : decode cX3_end 56 = .ok (.aload_n 0, 1) := by decide +kernel
theorem dX3_end_57 : decode cX3_end 57 = .ok (.dup, 1) := by decide +kernel
theorem dX3_end_58 : decode cX3_end 58 = .ok (.getfield 45, 3) := by decide +kernel
theorem dX3_end_61 : decode cX3_end 61 = .ok (.iload_n 1, 1) := by decide +kernel
theorem dX3_end_62 : decode cX3_end 62 = .ok (.ifCond .eq 7, 3) := by decide +kernel
theorem dX3_end_65 : decode cX3_end 65 = .ok (.iconst 1, 1) := by decide +kernel
theorem dX3_end_66 : decode cX3_end 66 = .ok (.goto 4, 3) := by decide +kernel
theorem dX3_end_69 : decode cX3_end 69 = .ok (.iconst 0, 1) := by decide +kernel
theorem dX3_end_70 : decode cX3_end 70 = .ok (.iadd, 1) := by decide +kernel
theorem dX3_end_71 : decode cX3_end 71 = .ok (.putfield 45, 3) := by decide +kernel
theorem dX3_end_74 : decode cX3_end 74 = .ok (.return_, 1) := by decide +kernel
theorem dX3_becomeLike_0 : decode cX3_becomeLike 0 = .ok (.aload_n 1, 1) := by decide +kernel
theorem dX3_becomeLike_1 : decode cX3_becomeLike 1 = .ok (.getfield 9, 3) := by decide +kernel
theorem dX3_becomeLike_4 : decode cX3_becomeLike 4 = .ok (.iconst 0, 1) := by decide +kernel
theorem dX3_becomeLike_5 : decode cX3_becomeLike 5 = .ok (.aload_n 0, 1) := by decide +kernel
theorem dX3_becomeLike_6 : decode cX3_becomeLike 6 = .ok (.getfield 9, 3) := by decide +kernel
theorem dX3_becomeLike_9 : decode cX3_becomeLike 9 = .ok (.iconst 0, 1) := by decide +kernel
theorem dX3_becomeLike_10 : decode cX3_becomeLike 10 = .ok (.bipush 6, 2) := by decide +kernel
theorem dX3_becomeLike_12 : decode cX3_becomeLike 12 = .ok (.invokestatic 20, 3) := by decide +kernel
theorem dX3_becomeLike_15 : decode cX3_becomeLike 15 = .ok (.aload_n 0, 1) := by decide +kernel
theorem dX3_becomeLike_16 : decode cX3_becomeLike 16 = .ok (.aload_n 1, 1) := by decide +kernel
theorem dX3_becomeLike_17 : decode cX3_becomeLike 17 = .ok (.getfield 26, 3) := by decide +kernel
theorem dX3_becomeLike_20 : decode cX3_becomeLike 20 = .ok (.putfield 26, 3) := by decide +kernel
theorem dX3_becomeLike_23 : decode cX3_becomeLike 23 = .ok (.aload_n 0, 1) := by decide +kernel
theorem dX3_becomeLike_24 : decode cX3_becomeLike 24 = .ok (.aload_n 1, 1) := by decide +kernel
theorem dX3_becomeLike_25 : decode cX3_becomeLike 25 = .ok (.getfield 30, 3) := by decide +kernel
theorem dX3_becomeLike_28 : decode cX3_becomeLike 28 = .ok (.putfield 30, 3) := by decide +kernel
theorem dX3_becomeLike_31 : decode cX3_becomeLike 31 = .ok (.aload_n 0, 1) := by decide +kernel
theorem dX3_becomeLike_32 : decode cX3_becomeLike 32 = .ok (.aload_n 1, 1) := by decide +kernel
theorem dX3_becomeLike_33 : decode cX3_becomeLike 33 = .ok (.getfield 36, 3) := by decide +kernel
theorem dX3_becomeLike_36 : decode cX3_becomeLike 36 = .ok (.putfield 36, 3) := by decide +kernel
theorem dX3_becomeLike_39 : decode cX3_becomeLike 39 = .ok (.aload_n 0, 1) := by decide +kernel
theorem dX3_becomeLike_40 : decode cX3_becomeLike 40 = .ok (.aload_n 1, 1) := by decide +kernel
theorem dX3_becomeLike_41 : decode cX3_becomeLike 41 = .ok (.getfield 39, 3) := by decide +kernel
theorem dX3_becomeLike_44 : decode cX3_becomeLike 44 = .ok (.putfield 39, 3) := by decide +kernel
theorem dX3_becomeLike_47 : decode cX3_becomeLike 47 = .ok (.aload_n 0, 1) := by decide +kernel
theorem dX3_becomeLike_48 : decode cX3_becomeLike 48 = .ok (.aload_n 1, 1) := by decide +kernel
theorem dX3_becomeLike_49 : decode cX3_becomeLike 49 = .ok (.getfield 42, 3) := by decide +kernel
theorem dX3_becomeLike_52 : decode cX3_becomeLike 52 = .ok (.putfield 42, 3) := by decide +kernel
theorem dX3_becomeLike_55 : decode cX3_becomeLike 55 = .ok (.aload_n 0, 1) := by decide +kernel
theorem dX3_becomeLike_56 : decode cX3_becomeLike 56 = .ok (.aload_n 1, 1) := by decide +kernel
theorem dX3_becomeLike_57 : decode cX3_becomeLike 57 = .ok (.getfield 45, 3) := by decide +kernel
theorem dX3_becomeLike_60 : decode cX3_becomeLike 60 = .ok (.putfield 45, 3) := by decide +kernel
theorem dX3_becomeLike_63 : decode cX3_becomeLike 63 = .ok (.return_, 1) := by decide +kernel
theorem dX4_init_0 : decode cX4_init 0 = .ok (.aload_n 0, 1) := by decide +kernel
theorem dX4_init_1 : decode cX4_init 1 = .ok (.invokespecial 1, 3) := by decide +kernel
theorem dX4_init_4 : decode cX4_init 4 = .ok (.aload_n 0, 1) := by decide +kernel
theorem dX4_init_5 : decode cX4_init 5 = .ok (.new 7, 3) := by decide +kernel
theorem dX4_init_8 : decode cX4_init 8 = .ok (.dup, 1) := by decide +kernel
theorem dX4_init_9 : decode cX4_init 9 = .ok (.invokespecial 9, 3) := by decide +kernel
theorem dX4_init_12 : decode cX4_init 12 = .ok (.putfield 10, 3) := by decide +kernel
theorem dX4_init_15 : decode cX4_init 15 = .ok (.aload_n 0, 1) := by decide +kernel
theorem dX4_init_16 : decode cX4_init 16 = .ok (.new 16, 3) := by decide +kernel
theorem dX4_init_19 : decode cX4_init 19 = .ok (.dup, 1) := by decide +kernel
theorem dX4_init_20 : decode cX4_init 20 = .ok (.invokespecial 18, 3) := by decide +kernel
theorem dX4_init_23 : decode cX4_init 23 = .ok (.putfield 19, 3) := by decide +kernel
theorem dX4_init_26 : decode cX4_init 26 = .ok (.aload_n 0, 1) := by decide +kernel
theorem dX4_init_27 : decode cX4_init 27 = .ok (.new 23, 3) := by decide +kernel
theorem dX4_init_30 : decode cX4_init 30 = .ok (.dup, 1) := by decide +kernel
theorem dX4_init_31 : decode cX4_init 31 = .ok (.invokespecial 25, 3) := by decide +kernel
theorem dX4_init_34 : decode cX4_init 34 = .ok (.putfield 26, 3) := by decide +kernel
theorem dX4_init_37 : decode cX4_init 37 = .ok (.aload_n 0, 1) := by decide +kernel
theorem dX4_init_38 : decode cX4_init 38 = .ok (.bipush 8, 2) := by decide +kernel
theorem dX4_init_40 : decode cX4_init 40 = .ok (.invokestatic 30, 3) := by decide +kernel
theorem dX4_init_43 : decode cX4_init 43 = .ok (.putfield 34, 3) := by decide +kernel
theorem dX4_init_46 : decode cX4_init 46 = .ok (.aload_n 0, 1) := by decide +kernel
theorem dX4_init_47 : decode cX4_init 47 = .ok (.iconst 2, 1) := by decide +kernel
theorem dX4_init_48 : decode cX4_init 48 = .ok (.invokestatic 30, 3) := by decide +kernel
theorem dX4_init_51 : decode cX4_init 51 = .ok (.putfield 38, 3) := by decide +kernel
theorem dX4_init_54 : decode cX4_init 54 = .ok (.aload_n 0, 1) := by decide +kernel
theorem dX4_init_55 : decode cX4_init 55 = .ok (.iconst 2, 1) := by decide +kernel
theorem dX4_init_56 : decode cX4_init 56 = .ok (.newarray .boolean, 2) := by decide +kernel
theorem dX4_init_58 : decode cX4_init 58 = .ok (.putfield 41, 3) := by decide +kernel
theorem dX4_init_61 : decode cX4_init 61 = .ok (.aload_n 0, 1) := by decide +kernel
theorem dX4_init_62 : decode cX4_init 62 = .ok (.new 45, 3) := by decide +kernel
theorem dX4_init_65 : decode cX4_init 65 = .ok (.dup, 1) := by decide +kernel
theorem dX4_init_66 : decode cX4_init 66 = .ok (.invokespecial 47, 3) := by decide +kernel
theorem dX4_init_69 : decode cX4_init 69 = .ok (.putfield 48, 3) := by decide +kernel
theorem dX4_init_72 : decode cX4_init 72 = .ok (.return_, 1) := by decide +kernel
theorem dX4_newWeeks_0 : decode cX4_newWeeks 0 = .ok (.iload_n 0, 1) := by decide +kernel
theorem dX4_newWeeks_1 : decode cX4_newWeeks 1 = .ok (.anewarray 23, 3) := by decide +kernel
theorem dX4_newWeeks_4 : decode cX4_newWeeks 4 = .ok (.astore_n 1, 1) := by decide +kernel
theorem dX4_newWeeks_5 : decode cX4_newWeeks 5 = .ok (.iconst 0, 1) := by decide +kernel
theorem dX4_newWeeks_6 : decode cX4_newWeeks 6 = .ok (.istore_n 2, 1) := by decide +kernel
theorem dX4_newWeeks_7 : decode cX4_newWeeks 7 = .ok (.iload_n 2, 1) := by decide +kernel
theorem dX4_newWeeks_8 : decode cX4_newWeeks 8 = .ok (.aload_n 1, 1) := by decide +kernel
theorem dX4_newWeeks_9 : decode cX4_newWeeks 9 = .ok (.arraylength, 1) := by decide +kernel
theorem dX4_newWeeks_10 : decode cX4_newWeeks 10 = .ok (.if_icmp .ge 19, 3) := by decide +kernel
theorem dX4_newWeeks_13 : decode cX4_newWeeks 13 = .ok (.aload_n 1, 1) := by decide +kernel
theorem dX4_newWeeks_14 : decode cX4_newWeeks 14 = .ok (.iload_n 2, 1) := by decide +kernel
theorem dX4_newWeeks_15 : decode cX4_newWeeks 15 = .ok (.new 23, 3) := by decide +kernel
theorem dX4_newWeeks_18 : decode cX4_newWeeks 18 = .ok (.dup, 1) := by decide +kernel
theorem dX4_newWeeks_19 : decode cX4_newWeeks 19 = .ok (.invokespecial 25, 3) := by decide +kernel
theorem dX4_newWeeks_22 : decode cX4_newWeeks 22 = .ok (.aastore, 1) := by decide +kernel
theorem dX4_newWeeks_23 : decode cX4_newWeeks 23 = .ok (.iinc 2 1, 3) := by decide +kernel
theorem dX4_newWeeks_26 : decode cX4_newWeeks 26 = .ok (.goto (-19), 3) := by decide +kernel
theorem dX4_newWeeks_29 : decode cX4_newWeeks 29 = .ok (.aload_n 1, 1) := by decide +kernel
theorem dX4_newWeeks_30 : decode cX4_newWeeks 30 = .ok (.areturn, 1) := by decide +kernel
theorem dX4_write_0 : decode cX4_write 0 = .ok (.iload_n 1, 1) := by decide +kernel
theorem dX4_write_1 : decode cX4_write 1 = .ok (.iconst 0, 1) := by decide +kernel
theorem dX4_write_2 : decode cX4_write 2 = .ok (.sipush 255, 3) := by decide +kernel
theorem dX4_write_5 : decode cX4_write 5 = .ok (.invokestatic 52, 3) := by decide +kernel
theorem dX4_write_8 : decode cX4_write 8 = .ok (.ifCond .ne 6, 3) := by decide +kernel
theorem dX4_write_11 : decode cX4_write 11 = .ok (.bipush (-3), 2) := by decide +kernel
theorem dX4_write_13 : decode cX4_write 13 = .ok (.ireturn, 1) := by decide +kernel
theorem dX4_write_14 : decode cX4_write 14 = .ok (.aload_n 0, 1) := by decide +kernel
theorem dX4_write_15 : decode cX4_write 15 = .ok (.getfield 10, 3) := by decide +kernel
theorem dX4_write_18 : decode cX4_write 18 = .ok (.iload_n 1, 1) := by decide +kernel
theorem dX4_write_19 : decode cX4_write 19 = .ok (.invokevirtual 56, 3) := by decide +kernel
theorem dX4_write_22 : decode cX4_write 22 = .ok (.ifCond .eq 13, 3) := by decide +kernel
theorem dX4_write_25 : decode cX4_write 25 = .ok (.aload_n 0, 1) := by decide +kernel
theorem dX4_write_26 : decode cX4_write 26 = .ok (.getfield 10, 3) := by decide +kernel
theorem dX4_write_29 : decode cX4_write 29 = .ok (.getfield 60, 3) := by decide +kernel
theorem dX4_write_32 : decode cX4_write 32 = .ok (.goto 5, 3) := by decide +kernel
theorem dX4_write_35 : decode cX4_write 35 = .ok (.bipush (-5), 2) := by decide +kernel
theorem dX4_write_37 : decode cX4_write 37 = .ok (.ireturn, 1) := by decide +kernel
theorem dX4_erase_0 : decode cX4_erase 0 = .ok (.aload_n 0, 1) := by decide +kernel
theorem dX4_erase_1 : decode cX4_erase 1 = .ok (.getfield 10, 3) := by decide +kernel
theorem dX4_erase_4 : decode cX4_erase 4 = .ok (.getfield 60, 3) := by decide +kernel
theorem dX4_erase_7 : decode cX4_erase 7 = .ok (.istore_n 1, 1) := by decide +kernel
theorem dX4_erase_8 : decode cX4_erase 8 = .ok (.aload_n 0, 1) := by decide +kernel
theorem dX4_erase_9 : decode cX4_erase 9 = .ok (.getfield 10, 3) := by decide +kernel
theorem dX4_erase_12 : decode cX4_erase 12 = .ok (.iconst 0, 1) := by decide +kernel
theorem dX4_erase_13 : decode cX4_erase 13 = .ok (.putfield 60, 3) := by decide +kernel
theorem dX4_erase_16 : decode cX4_erase 16 = .ok (.iload_n 1, 1) := by decide +kernel
theorem dX4_erase_17 : decode cX4_erase 17 = .ok (.ireturn, 1) := by decide +kernel
theorem dX4_fault_0 : decode cX4_fault 0 = .ok (.aload_n 0, 1) := by decide +kernel
theorem dX4_fault_1 : decode cX4_fault 1 = .ok (.getfield 10, 3) := by decide +kernel
theorem dX4_fault_4 : decode cX4_fault 4 = .ok (.aload_n 0, 1) := by decide +kernel
theorem dX4_fault_5 : decode cX4_fault 5 = .ok (.getfield 19, 3) := by decide +kernel
theorem dX4_fault_8 : decode cX4_fault 8 = .ok (.getfield 64, 3) := by decide +kernel
theorem dX4_fault_11 : decode cX4_fault 11 = .ok (.aload_n 0, 1) := by decide +kernel
theorem dX4_fault_12 : decode cX4_fault 12 = .ok (.getfield 19, 3) := by decide +kernel
theorem dX4_fault_15 : decode cX4_fault 15 = .ok (.getfield 67, 3) := by decide +kernel
theorem dX4_fault_18 : decode cX4_fault 18 = .ok (.invokevirtual 70, 3) := by decide +kernel
theorem dX4_fault_21 : decode cX4_fault 21 = .ok (.ireturn, 1) := by decide +kernel
theorem dX4_kirk_0 : decode cX4_kirk 0 = .ok (.aload_n 0, 1) := by decide +kernel
theorem dX4_kirk_1 : decode cX4_kirk 1 = .ok (.getfield 10, 3) := by decide +kernel
theorem dX4_kirk_4 : decode cX4_kirk 4 = .ok (.aload_n 0, 1) := by decide +kernel
theorem dX4_kirk_5 : decode cX4_kirk 5 = .ok (.getfield 19, 3) := by decide +kernel
theorem dX4_kirk_8 : decode cX4_kirk 8 = .ok (.getfield 64, 3) := by decide +kernel
theorem dX4_kirk_11 : decode cX4_kirk 11 = .ok (.aload_n 0, 1) := by decide +kernel
theorem dX4_kirk_12 : decode cX4_kirk 12 = .ok (.getfield 19, 3) := by decide +kernel
theorem dX4_kirk_15 : decode cX4_kirk 15 = .ok (.getfield 67, 3) := by decide +kernel
theorem dX4_kirk_18 : decode cX4_kirk 18 = .ok (.invokevirtual 70, 3) := by decide +kernel
theorem dX4_kirk_21 : decode cX4_kirk 21 = .ok (.iconst (-1), 1) := by decide +kernel
theorem dX4_kirk_22 : decode cX4_kirk 22 = .ok (.if_icmp .eq 6, 3) := by decide +kernel
theorem dX4_kirk_25 : decode cX4_kirk 25 = .ok (.bipush (-4), 2) := by decide +kernel
theorem dX4_kirk_27 : decode cX4_kirk 27 = .ok (.ireturn, 1) := by decide +kernel
theorem dX4_kirk_28 : decode cX4_kirk 28 = .ok (.aload_n 0, 1) := by decide +kernel
theorem dX4_kirk_29 : decode cX4_kirk 29 = .ok (.getfield 10, 3) := by decide +kernel
theorem dX4_kirk_32 : decode cX4_kirk 32 = .ok (.getfield 74, 3) := by decide +kernel
theorem dX4_kirk_35 : decode cX4_kirk 35 = .ok (.istore_n 1, 1) := by decide +kernel
theorem dX4_kirk_36 : decode cX4_kirk 36 = .ok (.iconst 0, 1) := by decide +kernel
theorem dX4_kirk_37 : decode cX4_kirk 37 = .ok (.istore_n 2, 1) := by decide +kernel
theorem dX4_kirk_38 : decode cX4_kirk 38 = .ok (.iload_n 2, 1) := by decide +kernel
theorem dX4_kirk_39 : decode cX4_kirk 39 = .ok (.iload_n 1, 1) := by decide +kernel
theorem dX4_kirk_40 : decode cX4_kirk 40 = .ok (.if_icmp .ge 43, 3) := by decide +kernel
theorem dX4_kirk_43 : decode cX4_kirk 43 = .ok (.aload_n 0, 1) := by decide +kernel
theorem dX4_kirk_44 : decode cX4_kirk 44 = .ok (.getfield 19, 3) := by decide +kernel
theorem dX4_kirk_47 : decode cX4_kirk 47 = .ok (.aload_n 0, 1) := by decide +kernel
theorem dX4_kirk_48 : decode cX4_kirk 48 = .ok (.getfield 10, 3) := by decide +kernel
theorem dX4_kirk_51 : decode cX4_kirk 51 = .ok (.getfield 77, 3) := by decide +kernel
theorem dX4_kirk_54 : decode cX4_kirk 54 = .ok (.iload_n 2, 1) := by decide +kernel
theorem dX4_kirk_55 : decode cX4_kirk 55 = .ok (.iaload, 1) := by decide +kernel
theorem dX4_kirk_56 : decode cX4_kirk 56 = .ok (.aload_n 0, 1) := by decide +kernel
theorem dX4_kirk_57 : decode cX4_kirk 57 = .ok (.getfield 10, 3) := by decide +kernel
theorem dX4_kirk_60 : decode cX4_kirk 60 = .ok (.getfield 81, 3) := by decide +kernel
theorem dX4_kirk_63 : decode cX4_kirk 63 = .ok (.iload_n 2, 1) := by decide +kernel
theorem dX4_kirk_64 : decode cX4_kirk 64 = .ok (.iaload, 1) := by decide +kernel
theorem dX4_kirk_65 : decode cX4_kirk 65 = .ok (.aload_n 0, 1) := by decide +kernel
theorem dX4_kirk_66 : decode cX4_kirk 66 = .ok (.getfield 10, 3) := by decide +kernel
theorem dX4_kirk_69 : decode cX4_kirk 69 = .ok (.getfield 84, 3) := by decide +kernel
theorem dX4_kirk_72 : decode cX4_kirk 72 = .ok (.iload_n 2, 1) := by decide +kernel
theorem dX4_kirk_73 : decode cX4_kirk 73 = .ok (.iaload, 1) := by decide +kernel
theorem dX4_kirk_74 : decode cX4_kirk 74 = .ok (.invokevirtual 87, 3) := by decide +kernel
theorem dX4_kirk_77 : decode cX4_kirk 77 = .ok (.iinc 2 1, 3) := by decide +kernel
theorem dX4_kirk_80 : decode cX4_kirk 80 = .ok (.goto (-42), 3) := by decide +kernel
theorem dX4_kirk_83 : decode cX4_kirk 83 = .ok (.aload_n 0, 1) := by decide +kernel
theorem dX4_kirk_84 : decode cX4_kirk 84 = .ok (.getfield 10, 3) := by decide +kernel
theorem dX4_kirk_87 : decode cX4_kirk 87 = .ok (.iconst 0, 1) := by decide +kernel
theorem dX4_kirk_88 : decode cX4_kirk 88 = .ok (.putfield 60, 3) := by decide +kernel
theorem dX4_kirk_91 : decode cX4_kirk 91 = .ok (.aload_n 0, 1) := by decide +kernel
theorem dX4_kirk_92 : decode cX4_kirk 92 = .ok (.invokevirtual 91, 3) := by decide +kernel
theorem dX4_kirk_95 : decode cX4_kirk 95 = .ok (.iload_n 1, 1) := by decide +kernel
theorem dX4_kirk_96 : decode cX4_kirk 96 = .ok (.ireturn, 1) := by decide +kernel
theorem dX4_beginAnew_0 : decode cX4_beginAnew 0 = .ok (.aload_n 0, 1) := by decide +kernel
theorem dX4_beginAnew_1 : decode cX4_beginAnew 1 = .ok (.getfield 26, 3) := by decide +kernel
theorem dX4_beginAnew_4 : decode cX4_beginAnew 4 = .ok (.aload_n 0, 1) := by decide +kernel
theorem dX4_beginAnew_5 : decode cX4_beginAnew 5 = .ok (.getfield 19, 3) := by decide +kernel
theorem dX4_beginAnew_8 : decode cX4_beginAnew 8 = .ok (.invokevirtual 94, 3) := by decide +kernel
theorem dX4_beginAnew_11 : decode cX4_beginAnew 11 = .ok (.aload_n 0, 1) := by decide +kernel
theorem dX4_beginAnew_12 : decode cX4_beginAnew 12 = .ok (.getfield 48, 3) := by decide +kernel
theorem dX4_beginAnew_15 : decode cX4_beginAnew 15 = .ok (.invokevirtual 98, 3) := by decide +kernel
theorem dX4_beginAnew_18 : decode cX4_beginAnew 18 = .ok (.iconst 0, 1) := by decide +kernel
theorem dX4_beginAnew_19 : decode cX4_beginAnew 19 = .ok (.istore_n 1, 1) := by decide +kernel
theorem dX4_beginAnew_20 : decode cX4_beginAnew 20 = .ok (.iload_n 1, 1) := by decide +kernel
theorem dX4_beginAnew_21 : decode cX4_beginAnew 21 = .ok (.iconst 2, 1) := by decide +kernel
theorem dX4_beginAnew_22 : decode cX4_beginAnew 22 = .ok (.if_icmp .ge 16, 3) := by decide +kernel
theorem dX4_beginAnew_25 : decode cX4_beginAnew 25 = .ok (.aload_n 0, 1) := by decide +kernel
theorem dX4_beginAnew_26 : decode cX4_beginAnew 26 = .ok (.getfield 41, 3) := by decide +kernel
theorem dX4_beginAnew_29 : decode cX4_beginAnew 29 = .ok (.iload_n 1, 1) := by decide +kernel
theorem dX4_beginAnew_30 : decode cX4_beginAnew 30 = .ok (.iconst 0, 1) := by decide +kernel
theorem dX4_beginAnew_31 : decode cX4_beginAnew 31 = .ok (.bastore, 1) := by decide +kernel
theorem dX4_beginAnew_32 : decode cX4_beginAnew 32 = .ok (.iinc 1 1, 3) := by decide +kernel
theorem dX4_beginAnew_35 : decode cX4_beginAnew 35 = .ok (.goto (-15), 3) := by decide +kernel
theorem dX4_beginAnew_38 : decode cX4_beginAnew 38 = .ok (.aload_n 0, 1) := by decide +kernel
theorem dX4_beginAnew_39 : decode cX4_beginAnew 39 = .ok (.iconst 0, 1) := by decide +kernel
theorem dX4_beginAnew_40 : decode cX4_beginAnew 40 = .ok (.putfield 101, 3) := by decide +kernel
theorem dX4_beginAnew_43 : decode cX4_beginAnew 43 = .ok (.return_, 1) := by decide +kernel
theorem dX4_part_0 : decode cX4_part 0 = .ok (.aload_n 0, 1) := by decide +kernel
theorem dX4_part_1 : decode cX4_part 1 = .ok (.iload_n 1, 1) := by decide +kernel
theorem dX4_part_2 : decode cX4_part 2 = .ok (.invokevirtual 104, 3) := by decide +kernel
theorem dX4_part_5 : decode cX4_part 5 = .ok (.ifCond .ne 6, 3) := by decide +kernel
theorem dX4_part_8 : decode cX4_part 8 = .ok (.bipush (-2), 2) := by decide +kernel
theorem dX4_part_10 : decode cX4_part 10 = .ok (.ireturn, 1) := by decide +kernel
theorem dX4_part_11 : decode cX4_part 11 = .ok (.iload_n 2, 1) := by decide +kernel
theorem dX4_part_12 : decode cX4_part 12 = .ok (.tableswitch 115 0 4 #[36, 46, 56, 66, 95], 36) := by decide +kernel
theorem dX4_part_48 : decode cX4_part 48 = .ok (.aload_n 0, 1) := by decide +kernel
theorem dX4_part_49 : decode cX4_part 49 = .ok (.getfield 19, 3) := by decide +kernel
theorem dX4_part_52 : decode cX4_part 52 = .ok (.getfield 107, 3) := by decide +kernel
theorem dX4_part_55 : decode cX4_part 55 = .ok (.iload_n 1, 1) := by decide +kernel
theorem dX4_part_56 : decode cX4_part 56 = .ok (.iaload, 1) := by decide +kernel
theorem dX4_part_57 : decode cX4_part 57 = .ok (.ireturn, 1) := by decide +kernel
theorem dX4_part_58 : decode cX4_part 58 = .ok (.aload_n 0, 1) := by decide +kernel
theorem dX4_part_59 : decode cX4_part 59 = .ok (.getfield 19, 3) := by decide +kernel
theorem dX4_part_62 : decode cX4_part 62 = .ok (.getfield 110, 3) := by decide +kernel
theorem dX4_part_65 : decode cX4_part 65 = .ok (.iload_n 1, 1) := by decide +kernel
theorem dX4_part_66 : decode cX4_part 66 = .ok (.iaload, 1) := by decide +kernel
theorem dX4_part_67 : decode cX4_part 67 = .ok (.ireturn, 1) := by decide +kernel
theorem dX4_part_68 : decode cX4_part 68 = .ok (.aload_n 0, 1) := by decide +kernel
theorem dX4_part_69 : decode cX4_part 69 = .ok (.getfield 19, 3) := by decide +kernel
theorem dX4_part_72 : decode cX4_part 72 = .ok (.getfield 113, 3) := by decide +kernel
theorem dX4_part_75 : decode cX4_part 75 = .ok (.iload_n 1, 1) := by decide +kernel
theorem dX4_part_76 : decode cX4_part 76 = .ok (.iaload, 1) := by decide +kernel
theorem dX4_part_77 : decode cX4_part 77 = .ok (.ireturn, 1) := by decide +kernel
theorem dX4_part_78 : decode cX4_part 78 = .ok (.aload_n 0, 1) := by decide +kernel
theorem dX4_part_79 : decode cX4_part 79 = .ok (.getfield 19, 3) := by decide +kernel
theorem dX4_part_82 : decode cX4_part 82 = .ok (.getfield 107, 3) := by decide +kernel
theorem dX4_part_85 : decode cX4_part 85 = .ok (.iload_n 1, 1) := by decide +kernel
theorem dX4_part_86 : decode cX4_part 86 = .ok (.iaload, 1) := by decide +kernel
theorem dX4_part_87 : decode cX4_part 87 = .ok (.aload_n 0, 1) := by decide +kernel
theorem dX4_part_88 : decode cX4_part 88 = .ok (.getfield 19, 3) := by decide +kernel
theorem dX4_part_91 : decode cX4_part 91 = .ok (.getfield 110, 3) := by decide +kernel
theorem dX4_part_94 : decode cX4_part 94 = .ok (.iload_n 1, 1) := by decide +kernel
theorem dX4_part_95 : decode cX4_part 95 = .ok (.iaload, 1) := by decide +kernel
theorem dX4_part_96 : decode cX4_part 96 = .ok (.aload_n 0, 1) := by decide +kernel
theorem dX4_part_97 : decode cX4_part 97 = .ok (.getfield 26, 3) := by decide +kernel
theorem dX4_part_100 : decode cX4_part 100 = .ok (.getfield 116, 3) := by decide +kernel
theorem dX4_part_103 : decode cX4_part 103 = .ok (.invokestatic 119, 3) := by decide +kernel
theorem dX4_part_106 : decode cX4_part 106 = .ok (.ireturn, 1) := by decide +kernel
theorem dX4_part_107 : decode cX4_part 107 = .ok (.iload_n 1, 1) := by decide +kernel
theorem dX4_part_108 : decode cX4_part 108 = .ok (.aload_n 0, 1) := by decide +kernel
theorem dX4_part_109 : decode cX4_part 109 = .ok (.getfield 26, 3) := by decide +kernel
theorem dX4_part_112 : decode cX4_part 112 = .ok (.getfield 123, 3) := by decide +kernel
theorem dX4_part_115 : decode cX4_part 115 = .ok (.invokestatic 126, 3) := by decide +kernel
theorem dX4_part_118 : decode cX4_part 118 = .ok (.ifCond .eq 7, 3) := by decide +kernel
theorem dX4_part_121 : decode cX4_part 121 = .ok (.iconst 1, 1) := by decide +kernel
theorem dX4_part_122 : decode cX4_part 122 = .ok (.goto 4, 3) := by decide +kernel
theorem dX4_part_125 : decode cX4_part 125 = .ok (.iconst 0, 1) := by decide +kernel
theorem dX4_part_126 : decode cX4_part 126 = .ok (.ireturn, 1) := by decide +kernel
theorem dX4_part_127 : decode cX4_part 127 = .ok (.bipush (-3), 2) := by decide +kernel
theorem dX4_part_129 : decode cX4_part 129 = .ok (.ireturn, 1) := by decide +kernel
theorem dX4_sins_0 : decode cX4_sins 0 = .ok (.aload_n 0, 1) := by decide +kernel
theorem dX4_sins_1 : decode cX4_sins 1 = .ok (.iload_n 1, 1) := by decide +kernel
theorem dX4_sins_2 : decode cX4_sins 2 = .ok (.invokevirtual 130, 3) := by decide +kernel
theorem dX4_sins_5 : decode cX4_sins 5 = .ok (.ifCond .eq 15, 3) := by decide +kernel
theorem dX4_sins_8 : decode cX4_sins 8 = .ok (.aload_n 0, 1) := by decide +kernel
theorem dX4_sins_9 : decode cX4_sins 9 = .ok (.getfield 26, 3) := by decide +kernel
theorem dX4_sins_12 : decode cX4_sins 12 = .ok (.getfield 133, 3) := by decide +kernel
theorem dX4_sins_15 : decode cX4_sins 15 = .ok (.iload_n 1, 1) := by decide +kernel
theorem dX4_sins_16 : decode cX4_sins 16 = .ok (.iaload, 1) := by decide +kernel
theorem dX4_sins_17 : decode cX4_sins 17 = .ok (.goto 5, 3) := by decide +kernel
theorem dX4_sins_20 : decode cX4_sins 20 = .ok (.bipush (-2), 2) := by decide +kernel
theorem dX4_sins_22 : decode cX4_sins 22 = .ok (.ireturn, 1) := by decide +kernel
theorem dX4_as_0 : decode cX4_as 0 = .ok (.aload_n 0, 1) := by decide +kernel
theorem dX4_as_1 : decode cX4_as 1 = .ok (.iload_n 1, 1) := by decide +kernel
theorem dX4_as_2 : decode cX4_as 2 = .ok (.invokevirtual 104, 3) := by decide +kernel
theorem dX4_as_5 : decode cX4_as 5 = .ok (.ifCond .ne 6, 3) := by decide +kernel
theorem dX4_as_8 : decode cX4_as 8 = .ok (.bipush (-2), 2) := by decide +kernel
theorem dX4_as_10 : decode cX4_as 10 = .ok (.ireturn, 1) := by decide +kernel
theorem dX4_as_11 : decode cX4_as 11 = .ok (.iload_n 2, 1) := by decide +kernel
theorem dX4_as_12 : decode cX4_as 12 = .ok (.iconst 0, 1) := by decide +kernel
theorem dX4_as_13 : decode cX4_as 13 = .ok (.iconst 4, 1) := by decide +kernel
theorem dX4_as_14 : decode cX4_as 14 = .ok (.invokestatic 52, 3) := by decide +kernel
theorem dX4_as_17 : decode cX4_as 17 = .ok (.ifCond .ne 6, 3) := by decide +kernel
theorem dX4_as_20 : decode cX4_as 20 = .ok (.bipush (-3), 2) := by decide +kernel
theorem dX4_as_22 : decode cX4_as 22 = .ok (.ireturn, 1) := by decide +kernel
theorem dX4_as_23 : decode cX4_as 23 = .ok (.aload_n 0, 1) := by decide +kernel
theorem dX4_as_24 : decode cX4_as 24 = .ok (.getfield 19, 3) := by decide +kernel
theorem dX4_as_27 : decode cX4_as 27 = .ok (.getfield 107, 3) := by decide +kernel
theorem dX4_as_30 : decode cX4_as 30 = .ok (.iload_n 1, 1) := by decide +kernel
theorem dX4_as_31 : decode cX4_as 31 = .ok (.iaload, 1) := by decide +kernel
theorem dX4_as_32 : decode cX4_as 32 = .ok (.iload_n 2, 1) := by decide +kernel
theorem dX4_as_33 : decode cX4_as 33 = .ok (.invokestatic 136, 3) := by decide +kernel
theorem dX4_as_36 : decode cX4_as 36 = .ok (.ifCond .ne 6, 3) := by decide +kernel
theorem dX4_as_39 : decode cX4_as 39 = .ok (.bipush (-4), 2) := by decide +kernel
theorem dX4_as_41 : decode cX4_as 41 = .ok (.ireturn, 1) := by decide +kernel
theorem dX4_as_42 : decode cX4_as 42 = .ok (.aload_n 0, 1) := by decide +kernel
theorem dX4_as_43 : decode cX4_as 43 = .ok (.getfield 19, 3) := by decide +kernel
theorem dX4_as_46 : decode cX4_as 46 = .ok (.getfield 107, 3) := by decide +kernel
theorem dX4_as_49 : decode cX4_as 49 = .ok (.iload_n 1, 1) := by decide +kernel
theorem dX4_as_50 : decode cX4_as 50 = .ok (.iaload, 1) := by decide +kernel
theorem dX4_as_51 : decode cX4_as 51 = .ok (.aload_n 0, 1) := by decide +kernel
theorem dX4_as_52 : decode cX4_as 52 = .ok (.getfield 19, 3) := by decide +kernel
theorem dX4_as_55 : decode cX4_as 55 = .ok (.getfield 110, 3) := by decide +kernel
theorem dX4_as_58 : decode cX4_as 58 = .ok (.iload_n 1, 1) := by decide +kernel
theorem dX4_as_59 : decode cX4_as 59 = .ok (.iaload, 1) := by decide +kernel
theorem dX4_as_60 : decode cX4_as 60 = .ok (.bipush 9, 2) := by decide +kernel
theorem dX4_as_62 : decode cX4_as 62 = .ok (.invokestatic 119, 3) := by decide +kernel
theorem dX4_as_65 : decode cX4_as 65 = .ok (.ireturn, 1) := by decide +kernel
theorem dX4_isTakenAs_0 : decode cX4_isTakenAs 0 = .ok (.iload_n 1, 1) := by decide +kernel
theorem dX4_isTakenAs_1 : decode cX4_isTakenAs 1 = .ok (.ifCond .ne 7, 3) := by decide +kernel
theorem dX4_isTakenAs_4 : decode cX4_isTakenAs 4 = .ok (.iconst 1, 1) := by decide +kernel
theorem dX4_isTakenAs_5 : decode cX4_isTakenAs 5 = .ok (.goto 4, 3) := by decide +kernel
theorem dX4_isTakenAs_8 : decode cX4_isTakenAs 8 = .ok (.iconst 0, 1) := by decide +kernel
theorem dX4_isTakenAs_9 : decode cX4_isTakenAs 9 = .ok (.istore_n 2, 1) := by decide +kernel
theorem dX4_isTakenAs_10 : decode cX4_isTakenAs 10 = .ok (.iload_n 1, 1) := by decide +kernel
theorem dX4_isTakenAs_11 : decode cX4_isTakenAs 11 = .ok (.iconst 1, 1) := by decide +kernel
theorem dX4_isTakenAs_12 : decode cX4_isTakenAs 12 = .ok (.if_icmp .ne 12, 3) := by decide +kernel
theorem dX4_isTakenAs_15 : decode cX4_isTakenAs 15 = .ok (.iload_n 0, 1) := by decide +kernel
theorem dX4_isTakenAs_16 : decode cX4_isTakenAs 16 = .ok (.iconst 3, 1) := by decide +kernel
theorem dX4_isTakenAs_17 : decode cX4_isTakenAs 17 = .ok (.if_icmp .eq 7, 3) := by decide +kernel
theorem dX4_isTakenAs_20 : decode cX4_isTakenAs 20 = .ok (.iconst 1, 1) := by decide +kernel
theorem dX4_isTakenAs_21 : decode cX4_isTakenAs 21 = .ok (.goto 4, 3) := by decide +kernel
theorem dX4_isTakenAs_24 : decode cX4_isTakenAs 24 = .ok (.iconst 0, 1) := by decide +kernel
theorem dX4_isTakenAs_25 : decode cX4_isTakenAs 25 = .ok (.istore_n 3, 1) := by decide +kernel
theorem dX4_isTakenAs_26 : decode cX4_isTakenAs 26 = .ok (.iload_n 2, 1) := by decide +kernel
theorem dX4_isTakenAs_27 : decode cX4_isTakenAs 27 = .ok (.ifCond .ne 14, 3) := by decide +kernel
theorem dX4_isTakenAs_30 : decode cX4_isTakenAs 30 = .ok (.iload_n 3, 1) := by decide +kernel
theorem dX4_isTakenAs_31 : decode cX4_isTakenAs 31 = .ok (.ifCond .ne 10, 3) := by decide +kernel
theorem dX4_isTakenAs_34 : decode cX4_isTakenAs 34 = .ok (.iload_n 1, 1) := by decide +kernel
theorem dX4_isTakenAs_35 : decode cX4_isTakenAs 35 = .ok (.iload_n 0, 1) := by decide +kernel
theorem dX4_isTakenAs_36 : decode cX4_isTakenAs 36 = .ok (.iconst 1, 1) := by decide +kernel
theorem dX4_isTakenAs_37 : decode cX4_isTakenAs 37 = .ok (.iadd, 1) := by decide +kernel
theorem dX4_isTakenAs_38 : decode cX4_isTakenAs 38 = .ok (.if_icmp .ne 7, 3) := by decide +kernel
theorem dX4_isTakenAs_41 : decode cX4_isTakenAs 41 = .ok (.iconst 1, 1) := by decide +kernel
theorem dX4_isTakenAs_42 : decode cX4_isTakenAs 42 = .ok (.goto 4, 3) := by decide +kernel
theorem dX4_isTakenAs_45 : decode cX4_isTakenAs 45 = .ok (.iconst 0, 1) := by decide +kernel
theorem dX4_isTakenAs_46 : decode cX4_isTakenAs 46 = .ok (.ireturn, 1) := by decide +kernel
theorem dX4_preach_0 : decode cX4_preach 0 = .ok (.aload_n 0, 1) := by decide +kernel
theorem dX4_preach_1 : decode cX4_preach 1 = .ok (.iload_n 1, 1) := by decide +kernel
theorem dX4_preach_2 : decode cX4_preach 2 = .ok (.invokevirtual 104, 3) := by decide +kernel
theorem dX4_preach_5 : decode cX4_preach 5 = .ok (.ifCond .ne 6, 3) := by decide +kernel
theorem dX4_preach_8 : decode cX4_preach 8 = .ok (.bipush (-2), 2) := by decide +kernel
theorem dX4_preach_10 : decode cX4_preach 10 = .ok (.ireturn, 1) := by decide +kernel
theorem dX4_preach_11 : decode cX4_preach 11 = .ok (.iload_n 1, 1) := by decide +kernel
theorem dX4_preach_12 : decode cX4_preach 12 = .ok (.aload_n 0, 1) := by decide +kernel
theorem dX4_preach_13 : decode cX4_preach 13 = .ok (.getfield 26, 3) := by decide +kernel
theorem dX4_preach_16 : decode cX4_preach 16 = .ok (.getfield 123, 3) := by decide +kernel
theorem dX4_preach_19 : decode cX4_preach 19 = .ok (.invokestatic 126, 3) := by decide +kernel
theorem dX4_preach_22 : decode cX4_preach 22 = .ok (.ifCond .ne 10, 3) := by decide +kernel
theorem dX4_preach_25 : decode cX4_preach 25 = .ok (.aload_n 0, 1) := by decide +kernel
theorem dX4_preach_26 : decode cX4_preach 26 = .ok (.invokevirtual 139, 3) := by decide +kernel
theorem dX4_preach_29 : decode cX4_preach 29 = .ok (.ifCond .eq 6, 3) := by decide +kernel
theorem dX4_preach_32 : decode cX4_preach 32 = .ok (.bipush (-4), 2) := by decide +kernel
theorem dX4_preach_34 : decode cX4_preach 34 = .ok (.ireturn, 1) := by decide +kernel
theorem dX4_preach_35 : decode cX4_preach 35 = .ok (.aload_n 0, 1) := by decide +kernel
theorem dX4_preach_36 : decode cX4_preach 36 = .ok (.invokevirtual 143, 3) := by decide +kernel
theorem dX4_preach_39 : decode cX4_preach 39 = .ok (.aload_n 0, 1) := by decide +kernel
theorem dX4_preach_40 : decode cX4_preach 40 = .ok (.getfield 26, 3) := by decide +kernel
theorem dX4_preach_43 : decode cX4_preach 43 = .ok (.dup, 1) := by decide +kernel
theorem dX4_preach_44 : decode cX4_preach 44 = .ok (.getfield 123, 3) := by decide +kernel
theorem dX4_preach_47 : decode cX4_preach 47 = .ok (.iconst 1, 1) := by decide +kernel
theorem dX4_preach_48 : decode cX4_preach 48 = .ok (.iload_n 1, 1) := by decide +kernel
theorem dX4_preach_49 : decode cX4_preach 49 = .ok (.ishl, 1) := by decide +kernel
theorem dX4_preach_50 : decode cX4_preach 50 = .ok (.ior, 1) := by decide +kernel
theorem dX4_preach_51 : decode cX4_preach 51 = .ok (.putfield 123, 3) := by decide +kernel
theorem dX4_preach_54 : decode cX4_preach 54 = .ok (.aload_n 0, 1) := by decide +kernel
theorem dX4_preach_55 : decode cX4_preach 55 = .ok (.getfield 26, 3) := by decide +kernel
theorem dX4_preach_58 : decode cX4_preach 58 = .ok (.dup, 1) := by decide +kernel
theorem dX4_preach_59 : decode cX4_preach 59 = .ok (.getfield 146, 3) := by decide +kernel
theorem dX4_preach_62 : decode cX4_preach 62 = .ok (.aload_n 0, 1) := by decide +kernel
theorem dX4_preach_63 : decode cX4_preach 63 = .ok (.getfield 19, 3) := by decide +kernel
theorem dX4_preach_66 : decode cX4_preach 66 = .ok (.getfield 113, 3) := by decide +kernel
theorem dX4_preach_69 : decode cX4_preach 69 = .ok (.iload_n 1, 1) := by decide +kernel
theorem dX4_preach_70 : decode cX4_preach 70 = .ok (.iaload, 1) := by decide +kernel
theorem dX4_preach_71 : decode cX4_preach 71 = .ok (.iadd, 1) := by decide +kernel
theorem dX4_preach_72 : decode cX4_preach 72 = .ok (.putfield 146, 3) := by decide +kernel
theorem dX4_preach_75 : decode cX4_preach 75 = .ok (.aload_n 0, 1) := by decide +kernel
theorem dX4_preach_76 : decode cX4_preach 76 = .ok (.aload_n 0, 1) := by decide +kernel
theorem dX4_preach_77 : decode cX4_preach 77 = .ok (.getfield 26, 3) := by decide +kernel
theorem dX4_preach_80 : decode cX4_preach 80 = .ok (.getfield 123, 3) := by decide +kernel
theorem dX4_preach_83 : decode cX4_preach 83 = .ok (.invokevirtual 148, 3) := by decide +kernel
theorem dX4_preach_86 : decode cX4_preach 86 = .ok (.aload_n 0, 1) := by decide +kernel
theorem dX4_preach_87 : decode cX4_preach 87 = .ok (.invokevirtual 152, 3) := by decide +kernel
theorem dX4_preach_90 : decode cX4_preach 90 = .ok (.isub, 1) := by decide +kernel
theorem dX4_preach_91 : decode cX4_preach 91 = .ok (.sipush 9999, 3) := by decide +kernel
theorem dX4_preach_94 : decode cX4_preach 94 = .ok (.iadd, 1) := by decide +kernel
theorem dX4_preach_95 : decode cX4_preach 95 = .ok (.ireturn, 1) := by decide +kernel
theorem dX4_sin_0 : decode cX4_sin 0 = .ok (.aload_n 0, 1) := by decide +kernel
theorem dX4_sin_1 : decode cX4_sin 1 = .ok (.iload_n 1, 1) := by decide +kernel
theorem dX4_sin_2 : decode cX4_sin 2 = .ok (.invokevirtual 130, 3) := by decide +kernel
theorem dX4_sin_5 : decode cX4_sin 5 = .ok (.ifCond .ne 6, 3) := by decide +kernel
theorem dX4_sin_8 : decode cX4_sin 8 = .ok (.bipush (-2), 2) := by decide +kernel
theorem dX4_sin_10 : decode cX4_sin 10 = .ok (.ireturn, 1) := by decide +kernel
theorem dX4_sin_11 : decode cX4_sin 11 = .ok (.iload_n 2, 1) := by decide +kernel
theorem dX4_sin_12 : decode cX4_sin 12 = .ok (.iconst 1, 1) := by decide +kernel
theorem dX4_sin_13 : decode cX4_sin 13 = .ok (.bipush 20, 2) := by decide +kernel
theorem dX4_sin_15 : decode cX4_sin 15 = .ok (.invokestatic 52, 3) := by decide +kernel
theorem dX4_sin_18 : decode cX4_sin 18 = .ok (.ifCond .ne 6, 3) := by decide +kernel
theorem dX4_sin_21 : decode cX4_sin 21 = .ok (.bipush (-3), 2) := by decide +kernel
theorem dX4_sin_23 : decode cX4_sin 23 = .ok (.ireturn, 1) := by decide +kernel
theorem dX4_sin_24 : decode cX4_sin 24 = .ok (.aload_n 0, 1) := by decide +kernel
theorem dX4_sin_25 : decode cX4_sin 25 = .ok (.invokevirtual 143, 3) := by decide +kernel
theorem dX4_sin_28 : decode cX4_sin 28 = .ok (.aload_n 0, 1) := by decide +kernel
theorem dX4_sin_29 : decode cX4_sin 29 = .ok (.getfield 26, 3) := by decide +kernel
theorem dX4_sin_32 : decode cX4_sin 32 = .ok (.getfield 133, 3) := by decide +kernel
theorem dX4_sin_35 : decode cX4_sin 35 = .ok (.iload_n 1, 1) := by decide +kernel
theorem dX4_sin_36 : decode cX4_sin 36 = .ok (.aload_n 0, 1) := by decide +kernel
theorem dX4_sin_37 : decode cX4_sin 37 = .ok (.getfield 26, 3) := by decide +kernel
theorem dX4_sin_40 : decode cX4_sin 40 = .ok (.getfield 133, 3) := by decide +kernel
theorem dX4_sin_43 : decode cX4_sin 43 = .ok (.iload_n 1, 1) := by decide +kernel
theorem dX4_sin_44 : decode cX4_sin 44 = .ok (.iaload, 1) := by decide +kernel
theorem dX4_sin_45 : decode cX4_sin 45 = .ok (.iload_n 2, 1) := by decide +kernel
theorem dX4_sin_46 : decode cX4_sin 46 = .ok (.iadd, 1) := by decide +kernel
theorem dX4_sin_47 : decode cX4_sin 47 = .ok (.bipush 99, 2) := by decide +kernel
theorem dX4_sin_49 : decode cX4_sin 49 = .ok (.invokestatic 156, 3) := by decide +kernel
theorem dX4_sin_52 : decode cX4_sin 52 = .ok (.iastore, 1) := by decide +kernel
theorem dX4_sin_53 : decode cX4_sin 53 = .ok (.aload_n 0, 1) := by decide +kernel
theorem dX4_sin_54 : decode cX4_sin 54 = .ok (.getfield 26, 3) := by decide +kernel
theorem dX4_sin_57 : decode cX4_sin 57 = .ok (.getfield 133, 3) := by decide +kernel
theorem dX4_sin_60 : decode cX4_sin 60 = .ok (.iload_n 1, 1) := by decide +kernel
theorem dX4_sin_61 : decode cX4_sin 61 = .ok (.iaload, 1) := by decide +kernel
theorem dX4_sin_62 : decode cX4_sin 62 = .ok (.ireturn, 1) := by decide +kernel
theorem dX4_ballast_0 : decode cX4_ballast 0 = .ok (.iload_n 1, 1) := by decide +kernel
theorem dX4_ballast_1 : decode cX4_ballast 1 = .ok (.iconst 1, 1) := by decide +kernel
theorem dX4_ballast_2 : decode cX4_ballast 2 = .ok (.bipush 20, 2) := by decide +kernel
theorem dX4_ballast_4 : decode cX4_ballast 4 = .ok (.invokestatic 52, 3) := by decide +kernel
theorem dX4_ballast_7 : decode cX4_ballast 7 = .ok (.ifCond .ne 6, 3) := by decide +kernel
theorem dX4_ballast_10 : decode cX4_ballast 10 = .ok (.bipush (-3), 2) := by decide +kernel
theorem dX4_ballast_12 : decode cX4_ballast 12 = .ok (.ireturn, 1) := by decide +kernel
theorem dX4_ballast_13 : decode cX4_ballast 13 = .ok (.aload_n 0, 1) := by decide +kernel
theorem dX4_ballast_14 : decode cX4_ballast 14 = .ok (.invokevirtual 143, 3) := by decide +kernel
theorem dX4_ballast_17 : decode cX4_ballast 17 = .ok (.aload_n 0, 1) := by decide +kernel
theorem dX4_ballast_18 : decode cX4_ballast 18 = .ok (.getfield 26, 3) := by decide +kernel
theorem dX4_ballast_21 : decode cX4_ballast 21 = .ok (.aload_n 0, 1) := by decide +kernel
theorem dX4_ballast_22 : decode cX4_ballast 22 = .ok (.getfield 26, 3) := by decide +kernel
theorem dX4_ballast_25 : decode cX4_ballast 25 = .ok (.getfield 161, 3) := by decide +kernel
theorem dX4_ballast_28 : decode cX4_ballast 28 = .ok (.iload_n 1, 1) := by decide +kernel
theorem dX4_ballast_29 : decode cX4_ballast 29 = .ok (.iadd, 1) := by decide +kernel
theorem dX4_ballast_30 : decode cX4_ballast 30 = .ok (.bipush 99, 2) := by decide +kernel
theorem dX4_ballast_32 : decode cX4_ballast 32 = .ok (.invokestatic 156, 3) := by decide +kernel
theorem dX4_ballast_35 : decode cX4_ballast 35 = .ok (.putfield 161, 3) := by decide +kernel
theorem dX4_ballast_38 : decode cX4_ballast 38 = .ok (.aload_n 0, 1) := by decide +kernel
theorem dX4_ballast_39 : decode cX4_ballast 39 = .ok (.getfield 26, 3) := by decide +kernel
theorem dX4_ballast_42 : decode cX4_ballast 42 = .ok (.getfield 161, 3) := by decide +kernel
theorem dX4_ballast_45 : decode cX4_ballast 45 = .ok (.ireturn, 1) := by decide +kernel
theorem dX4_rain_0 : decode cX4_rain 0 = .ok (.iload_n 1, 1) := by decide +kernel
theorem dX4_rain_1 : decode cX4_rain 1 = .ok (.iconst 0, 1) := by decide +kernel
theorem dX4_rain_2 : decode cX4_rain 2 = .ok (.bipush 9, 2) := by decide +kernel
theorem dX4_rain_4 : decode cX4_rain 4 = .ok (.invokestatic 52, 3) := by decide +kernel
theorem dX4_rain_7 : decode cX4_rain 7 = .ok (.ifCond .ne 6, 3) := by decide +kernel
theorem dX4_rain_10 : decode cX4_rain 10 = .ok (.bipush (-3), 2) := by decide +kernel
theorem dX4_rain_12 : decode cX4_rain 12 = .ok (.ireturn, 1) := by decide +kernel
theorem dX4_rain_13 : decode cX4_rain 13 = .ok (.aload_n 0, 1) := by decide +kernel
theorem dX4_rain_14 : decode cX4_rain 14 = .ok (.invokevirtual 143, 3) := by decide +kernel
theorem dX4_rain_17 : decode cX4_rain 17 = .ok (.aload_n 0, 1) := by decide +kernel
theorem dX4_rain_18 : decode cX4_rain 18 = .ok (.getfield 26, 3) := by decide +kernel
theorem dX4_rain_21 : decode cX4_rain 21 = .ok (.getfield 116, 3) := by decide +kernel
theorem dX4_rain_24 : decode cX4_rain 24 = .ok (.istore_n 2, 1) := by decide +kernel
theorem dX4_rain_25 : decode cX4_rain 25 = .ok (.aload_n 0, 1) := by decide +kernel
theorem dX4_rain_26 : decode cX4_rain 26 = .ok (.getfield 26, 3) := by decide +kernel
theorem dX4_rain_29 : decode cX4_rain 29 = .ok (.iload_n 1, 1) := by decide +kernel
theorem dX4_rain_30 : decode cX4_rain 30 = .ok (.putfield 116, 3) := by decide +kernel
theorem dX4_rain_33 : decode cX4_rain 33 = .ok (.iload_n 2, 1) := by decide +kernel
theorem dX4_rain_34 : decode cX4_rain 34 = .ok (.ireturn, 1) := by decide +kernel
theorem dX4_sunday_0 : decode cX4_sunday 0 = .ok (.aload_n 0, 1) := by decide +kernel
theorem dX4_sunday_1 : decode cX4_sunday 1 = .ok (.getfield 26, 3) := by decide +kernel
theorem dX4_sunday_4 : decode cX4_sunday 4 = .ok (.getfield 164, 3) := by decide +kernel
theorem dX4_sunday_7 : decode cX4_sunday 7 = .ok (.sipush 999, 3) := by decide +kernel
theorem dX4_sunday_10 : decode cX4_sunday 10 = .ok (.if_icmp .lt 6, 3) := by decide +kernel
theorem dX4_sunday_13 : decode cX4_sunday 13 = .ok (.bipush (-5), 2) := by decide +kernel
theorem dX4_sunday_15 : decode cX4_sunday 15 = .ok (.ireturn, 1) := by decide +kernel
theorem dX4_sunday_16 : decode cX4_sunday 16 = .ok (.aload_n 0, 1) := by decide +kernel
theorem dX4_sunday_17 : decode cX4_sunday 17 = .ok (.invokevirtual 139, 3) := by decide +kernel
theorem dX4_sunday_20 : decode cX4_sunday 20 = .ok (.istore_n 1, 1) := by decide +kernel
theorem dX4_sunday_21 : decode cX4_sunday 21 = .ok (.aload_n 0, 1) := by decide +kernel
theorem dX4_sunday_22 : decode cX4_sunday 22 = .ok (.invokevirtual 143, 3) := by decide +kernel
theorem dX4_sunday_25 : decode cX4_sunday 25 = .ok (.aload_n 0, 1) := by decide +kernel
theorem dX4_sunday_26 : decode cX4_sunday 26 = .ok (.getfield 26, 3) := by decide +kernel
theorem dX4_sunday_29 : decode cX4_sunday 29 = .ok (.iload_n 1, 1) := by decide +kernel
theorem dX4_sunday_30 : decode cX4_sunday 30 = .ok (.invokevirtual 167, 3) := by decide +kernel
theorem dX4_sunday_33 : decode cX4_sunday 33 = .ok (.iload_n 1, 1) := by decide +kernel
theorem dX4_sunday_34 : decode cX4_sunday 34 = .ok (.ifCond .eq 7, 3) := by decide +kernel
theorem dX4_sunday_37 : decode cX4_sunday 37 = .ok (.iconst 1, 1) := by decide +kernel
theorem dX4_sunday_38 : decode cX4_sunday 38 = .ok (.goto 4, 3) := by decide +kernel
theorem dX4_sunday_41 : decode cX4_sunday 41 = .ok (.iconst 0, 1) := by decide +kernel
theorem dX4_sunday_42 : decode cX4_sunday 42 = .ok (.ireturn, 1) := by decide +kernel
theorem dX4_undo_0 : decode cX4_undo 0 = .ok (.aload_n 0, 1) := by decide +kernel
theorem dX4_undo_1 : decode cX4_undo 1 = .ok (.getfield 101, 3) := by decide +kernel
theorem dX4_undo_4 : decode cX4_undo 4 = .ok (.ifCond .gt 6, 3) := by decide +kernel
theorem dX4_undo_7 : decode cX4_undo 7 = .ok (.bipush (-4), 2) := by decide +kernel
theorem dX4_undo_9 : decode cX4_undo 9 = .ok (.ireturn, 1) := by decide +kernel
theorem dX4_undo_10 : decode cX4_undo 10 = .ok (.aload_n 0, 1) := by decide +kernel
theorem dX4_undo_11 : decode cX4_undo 11 = .ok (.dup, 1) := by decide +kernel
theorem dX4_undo_12 : decode cX4_undo 12 = .ok (.getfield 101, 3) := by decide +kernel
theorem dX4_undo_15 : decode cX4_undo 15 = .ok (.iconst 1, 1) := by decide +kernel
theorem dX4_undo_16 : decode cX4_undo 16 = .ok (.isub, 1) := by decide +kernel
theorem dX4_undo_17 : decode cX4_undo 17 = .ok (.putfield 101, 3) := by decide +kernel
theorem dX4_undo_20 : decode cX4_undo 20 = .ok (.aload_n 0, 1) := by decide +kernel
theorem dX4_undo_21 : decode cX4_undo 21 = .ok (.aload_n 0, 1) := by decide +kernel
theorem dX4_undo_22 : decode cX4_undo 22 = .ok (.getfield 171, 3) := by decide +kernel
theorem dX4_undo_25 : decode cX4_undo 25 = .ok (.bipush 8, 2) := by decide +kernel
theorem dX4_undo_27 : decode cX4_undo 27 = .ok (.iadd, 1) := by decide +kernel
theorem dX4_undo_28 : decode cX4_undo 28 = .ok (.iconst 1, 1) := by decide +kernel
theorem dX4_undo_29 : decode cX4_undo 29 = .ok (.isub, 1) := by decide +kernel
theorem dX4_undo_30 : decode cX4_undo 30 = .ok (.bipush 8, 2) := by decide +kernel
theorem dX4_undo_32 : decode cX4_undo 32 = .ok (.irem, 1) := by decide +kernel
theorem dX4_undo_33 : decode cX4_undo 33 = .ok (.putfield 171, 3) := by decide +kernel
theorem dX4_undo_36 : decode cX4_undo 36 = .ok (.aload_n 0, 1) := by decide +kernel
theorem dX4_undo_37 : decode cX4_undo 37 = .ok (.getfield 26, 3) := by decide +kernel
theorem dX4_undo_40 : decode cX4_undo 40 = .ok (.aload_n 0, 1) := by decide +kernel
theorem dX4_undo_41 : decode cX4_undo 41 = .ok (.getfield 34, 3) := by decide +kernel
theorem dX4_undo_44 : decode cX4_undo 44 = .ok (.aload_n 0, 1) := by decide +kernel
theorem dX4_undo_45 : decode cX4_undo 45 = .ok (.getfield 171, 3) := by decide +kernel
theorem dX4_undo_48 : decode cX4_undo 48 = .ok (.aaload, 1) := by decide +kernel
theorem dX4_undo_49 : decode cX4_undo 49 = .ok (.invokevirtual 174, 3) := by decide +kernel
theorem dX4_undo_52 : decode cX4_undo 52 = .ok (.aload_n 0, 1) := by decide +kernel
theorem dX4_undo_53 : decode cX4_undo 53 = .ok (.getfield 101, 3) := by decide +kernel
theorem dX4_undo_56 : decode cX4_undo 56 = .ok (.ireturn, 1) := by decide +kernel
theorem dX4_rememberWeek_0 : decode cX4_rememberWeek 0 = .ok (.aload_n 0, 1) := by decide +kernel
theorem dX4_rememberWeek_1 : decode cX4_rememberWeek 1 = .ok (.getfield 34, 3) := by decide +kernel
theorem dX4_rememberWeek_4 : decode cX4_rememberWeek 4 = .ok (.aload_n 0, 1) := by decide +kernel
theorem dX4_rememberWeek_5 : decode cX4_rememberWeek 5 = .ok (.getfield 171, 3) := by decide +kernel
theorem dX4_rememberWeek_8 : decode cX4_rememberWeek 8 = .ok (.aaload, 1) := by decide +kernel
theorem dX4_rememberWeek_9 : decode cX4_rememberWeek 9 = .ok (.aload_n 0, 1) := by decide +kernel
theorem dX4_rememberWeek_10 : decode cX4_rememberWeek 10 = .ok (.getfield 26, 3) := by decide +kernel
theorem dX4_rememberWeek_13 : decode cX4_rememberWeek 13 = .ok (.invokevirtual 174, 3) := by decide +kernel
theorem dX4_rememberWeek_16 : decode cX4_rememberWeek 16 = .ok (.aload_n 0, 1) := by decide +kernel
theorem dX4_rememberWeek_17 : decode cX4_rememberWeek 17 = .ok (.aload_n 0, 1) := by decide +kernel
theorem dX4_rememberWeek_18 : decode cX4_rememberWeek 18 = .ok (.getfield 171, 3) := by decide +kernel
theorem dX4_rememberWeek_21 : decode cX4_rememberWeek 21 = .ok (.iconst 1, 1) := by decide +kernel
theorem dX4_rememberWeek_22 : decode cX4_rememberWeek 22 = .ok (.iadd, 1) := by decide +kernel
theorem dX4_rememberWeek_23 : decode cX4_rememberWeek 23 = .ok (.bipush 8, 2) := by decide +kernel
theorem dX4_rememberWeek_25 : decode cX4_rememberWeek 25 = .ok (.irem, 1) := by decide +kernel
theorem dX4_rememberWeek_26 : decode cX4_rememberWeek 26 = .ok (.putfield 171, 3) := by decide +kernel
theorem dX4_rememberWeek_29 : decode cX4_rememberWeek 29 = .ok (.aload_n 0, 1) := by decide +kernel
theorem dX4_rememberWeek_30 : decode cX4_rememberWeek 30 = .ok (.aload_n 0, 1) := by decide +kernel
theorem dX4_rememberWeek_31 : decode cX4_rememberWeek 31 = .ok (.getfield 101, 3) := by decide +kernel
theorem dX4_rememberWeek_34 : decode cX4_rememberWeek 34 = .ok (.iconst 1, 1) := by decide +kernel
theorem dX4_rememberWeek_35 : decode cX4_rememberWeek 35 = .ok (.iadd, 1) := by decide +kernel
theorem dX4_rememberWeek_36 : decode cX4_rememberWeek 36 = .ok (.bipush 8, 2) := by decide +kernel
theorem dX4_rememberWeek_38 : decode cX4_rememberWeek 38 = .ok (.invokestatic 156, 3) := by decide +kernel
theorem dX4_rememberWeek_41 : decode cX4_rememberWeek 41 = .ok (.putfield 101, 3) := by decide +kernel
theorem dX4_rememberWeek_44 : decode cX4_rememberWeek 44 = .ok (.return_, 1) := by decide +kernel
theorem dX4_keep_0 : decode cX4_keep 0 = .ok (.iload_n 1, 1) := by decide +kernel
theorem dX4_keep_1 : decode cX4_keep 1 = .ok (.iconst 0, 1) := by decide +kernel
theorem dX4_keep_2 : decode cX4_keep 2 = .ok (.iconst 1, 1) := by decide +kernel
theorem dX4_keep_3 : decode cX4_keep 3 = .ok (.invokestatic 52, 3) := by decide +kernel
theorem dX4_keep_6 : decode cX4_keep 6 = .ok (.ifCond .ne 6, 3) := by decide +kernel
theorem dX4_keep_9 : decode cX4_keep 9 = .ok (.bipush (-2), 2) := by decide +kernel
theorem dX4_keep_11 : decode cX4_keep 11 = .ok (.ireturn, 1) := by decide +kernel
theorem dX4_keep_12 : decode cX4_keep 12 = .ok (.aload_n 0, 1) := by decide +kernel
theorem dX4_keep_13 : decode cX4_keep 13 = .ok (.getfield 38, 3) := by decide +kernel
theorem dX4_keep_16 : decode cX4_keep 16 = .ok (.iload_n 1, 1) := by decide +kernel
theorem dX4_keep_17 : decode cX4_keep 17 = .ok (.aaload, 1) := by decide +kernel
theorem dX4_keep_18 : decode cX4_keep 18 = .ok (.aload_n 0, 1) := by decide +kernel
theorem dX4_keep_19 : decode cX4_keep 19 = .ok (.getfield 26, 3) := by decide +kernel
theorem dX4_keep_22 : decode cX4_keep 22 = .ok (.invokevirtual 174, 3) := by decide +kernel
theorem dX4_keep_25 : decode cX4_keep 25 = .ok (.aload_n 0, 1) := by decide +kernel
theorem dX4_keep_26 : decode cX4_keep 26 = .ok (.getfield 41, 3) := by decide +kernel
theorem dX4_keep_29 : decode cX4_keep 29 = .ok (.iload_n 1, 1) := by decide +kernel
theorem dX4_keep_30 : decode cX4_keep 30 = .ok (.iconst 1, 1) := by decide +kernel
theorem dX4_keep_31 : decode cX4_keep 31 = .ok (.bastore, 1) := by decide +kernel
theorem dX4_keep_32 : decode cX4_keep 32 = .ok (.aload_n 0, 1) := by decide +kernel
theorem dX4_keep_33 : decode cX4_keep 33 = .ok (.getfield 26, 3) := by decide +kernel
theorem dX4_keep_36 : decode cX4_keep 36 = .ok (.getfield 164, 3) := by decide +kernel
theorem dX4_keep_39 : decode cX4_keep 39 = .ok (.ireturn, 1) := by decide +kernel
theorem dX4_back_0 : decode cX4_back 0 = .ok (.iload_n 1, 1) := by decide +kernel
theorem dX4_back_1 : decode cX4_back 1 = .ok (.iconst 0, 1) := by decide +kernel
theorem dX4_back_2 : decode cX4_back 2 = .ok (.iconst 1, 1) := by decide +kernel
theorem dX4_back_3 : decode cX4_back 3 = .ok (.invokestatic 52, 3) := by decide +kernel
theorem dX4_back_6 : decode cX4_back 6 = .ok (.ifCond .ne 6, 3) := by decide +kernel
theorem dX4_back_9 : decode cX4_back 9 = .ok (.bipush (-2), 2) := by decide +kernel
theorem dX4_back_11 : decode cX4_back 11 = .ok (.ireturn, 1) := by decide +kernel
theorem dX4_back_12 : decode cX4_back 12 = .ok (.aload_n 0, 1) := by decide +kernel
theorem dX4_back_13 : decode cX4_back 13 = .ok (.getfield 41, 3) := by decide +kernel
theorem dX4_back_16 : decode cX4_back 16 = .ok (.iload_n 1, 1) := by decide +kernel
theorem dX4_back_17 : decode cX4_back 17 = .ok (.baload, 1) := by decide +kernel
theorem dX4_back_18 : decode cX4_back 18 = .ok (.ifCond .ne 6, 3) := by decide +kernel
theorem dX4_back_21 : decode cX4_back 21 = .ok (.bipush (-4), 2) := by decide +kernel
theorem dX4_back_23 : decode cX4_back 23 = .ok (.ireturn, 1) := by decide +kernel
theorem dX4_back_24 : decode cX4_back 24 = .ok (.aload_n 0, 1) := by decide +kernel
theorem dX4_back_25 : decode cX4_back 25 = .ok (.getfield 26, 3) := by decide +kernel
theorem dX4_back_28 : decode cX4_back 28 = .ok (.aload_n 0, 1) := by decide +kernel
theorem dX4_back_29 : decode cX4_back 29 = .ok (.getfield 38, 3) := by decide +kernel
theorem dX4_back_32 : decode cX4_back 32 = .ok (.iload_n 1, 1) := by decide +kernel
theorem dX4_back_33 : decode cX4_back 33 = .ok (.aaload, 1) := by decide +kernel
theorem dX4_back_34 : decode cX4_back 34 = .ok (.invokevirtual 174, 3) := by decide +kernel
theorem dX4_back_37 : decode cX4_back 37 = .ok (.aload_n 0, 1) := by decide +kernel
theorem dX4_back_38 : decode cX4_back 38 = .ok (.iconst 0, 1) := by decide +kernel
theorem dX4_back_39 : decode cX4_back 39 = .ok (.putfield 101, 3) := by decide +kernel
theorem dX4_back_42 : decode cX4_back 42 = .ok (.aload_n 0, 1) := by decide +kernel
theorem dX4_back_43 : decode cX4_back 43 = .ok (.getfield 26, 3) := by decide +kernel
theorem dX4_back_46 : decode cX4_back 46 = .ok (.getfield 164, 3) := by decide +kernel
theorem dX4_back_49 : decode cX4_back 49 = .ok (.ireturn, 1) := by decide +kernel
theorem dX4_stops_0 : decode cX4_stops 0 = .ok (.aload_n 0, 1) := by decide +kernel
theorem dX4_stops_1 : decode cX4_stops 1 = .ok (.invokevirtual 152, 3) := by decide +kernel
theorem dX4_stops_4 : decode cX4_stops 4 = .ok (.istore_n 1, 1) := by decide +kernel
theorem dX4_stops_5 : decode cX4_stops 5 = .ok (.aload_n 0, 1) := by decide +kernel
theorem dX4_stops_6 : decode cX4_stops 6 = .ok (.getfield 26, 3) := by decide +kernel
theorem dX4_stops_9 : decode cX4_stops 9 = .ok (.getfield 123, 3) := by decide +kernel
theorem dX4_stops_12 : decode cX4_stops 12 = .ok (.istore_n 2, 1) := by decide +kernel
theorem dX4_stops_13 : decode cX4_stops 13 = .ok (.iconst 0, 1) := by decide +kernel
theorem dX4_stops_14 : decode cX4_stops 14 = .ok (.istore_n 3, 1) := by decide +kernel
theorem dX4_stops_15 : decode cX4_stops 15 = .ok (.aload_n 0, 1) := by decide +kernel
theorem dX4_stops_16 : decode cX4_stops 16 = .ok (.aload_n 0, 1) := by decide +kernel
theorem dX4_stops_17 : decode cX4_stops 17 = .ok (.iload_n 2, 1) := by decide +kernel
theorem dX4_stops_18 : decode cX4_stops 18 = .ok (.invokevirtual 148, 3) := by decide +kernel
theorem dX4_stops_21 : decode cX4_stops 21 = .ok (.iload_n 1, 1) := by decide +kernel
theorem dX4_stops_22 : decode cX4_stops 22 = .ok (.invokevirtual 178, 3) := by decide +kernel
theorem dX4_stops_25 : decode cX4_stops 25 = .ok (.ifCond .eq 5, 3) := by decide +kernel
theorem dX4_stops_28 : decode cX4_stops 28 = .ok (.iload_n 3, 1) := by decide +kernel
theorem dX4_stops_29 : decode cX4_stops 29 = .ok (.ireturn, 1) := by decide +kernel
theorem dX4_stops_30 : decode cX4_stops 30 = .ok (.iconst 0, 1) := by decide +kernel
theorem dX4_stops_31 : decode cX4_stops 31 = .ok (.istore 4, 2) := by decide +kernel
theorem dX4_stops_33 : decode cX4_stops 33 = .ok (.iload 4, 2) := by decide +kernel
theorem dX4_stops_35 : decode cX4_stops 35 = .ok (.aload_n 0, 1) := by decide +kernel
theorem dX4_stops_36 : decode cX4_stops 36 = .ok (.getfield 19, 3) := by decide +kernel
theorem dX4_stops_39 : decode cX4_stops 39 = .ok (.getfield 64, 3) := by decide +kernel
theorem dX4_stops_42 : decode cX4_stops 42 = .ok (.if_icmp .ge 52, 3) := by decide +kernel
theorem dX4_stops_45 : decode cX4_stops 45 = .ok (.iload 4, 2) := by decide +kernel
theorem dX4_stops_47 : decode cX4_stops 47 = .ok (.aload_n 0, 1) := by decide +kernel
theorem dX4_stops_48 : decode cX4_stops 48 = .ok (.getfield 26, 3) := by decide +kernel
theorem dX4_stops_51 : decode cX4_stops 51 = .ok (.getfield 123, 3) := by decide +kernel
theorem dX4_stops_54 : decode cX4_stops 54 = .ok (.invokestatic 126, 3) := by decide +kernel
theorem dX4_stops_57 : decode cX4_stops 57 = .ok (.ifCond .eq 6, 3) := by decide +kernel
theorem dX4_stops_60 : decode cX4_stops 60 = .ok (.goto 28, 3) := by decide +kernel
theorem dX4_stops_63 : decode cX4_stops 63 = .ok (.iload_n 2, 1) := by decide +kernel
theorem dX4_stops_64 : decode cX4_stops 64 = .ok (.iconst 1, 1) := by decide +kernel
theorem dX4_stops_65 : decode cX4_stops 65 = .ok (.iload 4, 2) := by decide +kernel
theorem dX4_stops_67 : decode cX4_stops 67 = .ok (.ishl, 1) := by decide +kernel
theorem dX4_stops_68 : decode cX4_stops 68 = .ok (.ior, 1) := by decide +kernel
theorem dX4_stops_69 : decode cX4_stops 69 = .ok (.istore_n 2, 1) := by decide +kernel
theorem dX4_stops_70 : decode cX4_stops 70 = .ok (.iinc 3 1, 3) := by decide +kernel
theorem dX4_stops_73 : decode cX4_stops 73 = .ok (.aload_n 0, 1) := by decide +kernel
theorem dX4_stops_74 : decode cX4_stops 74 = .ok (.aload_n 0, 1) := by decide +kernel
theorem dX4_stops_75 : decode cX4_stops 75 = .ok (.iload_n 2, 1) := by decide +kernel
theorem dX4_stops_76 : decode cX4_stops 76 = .ok (.invokevirtual 148, 3) := by decide +kernel
theorem dX4_stops_79 : decode cX4_stops 79 = .ok (.iload_n 1, 1) := by decide +kernel
theorem dX4_stops_80 : decode cX4_stops 80 = .ok (.invokevirtual 178, 3) := by decide +kernel
theorem dX4_stops_83 : decode cX4_stops 83 = .ok (.ifCond .eq 5, 3) := by decide +kernel
theorem dX4_stops_86 : decode cX4_stops 86 = .ok (.iload_n 3, 1) := by decide +kernel
theorem dX4_stops_87 : decode cX4_stops 87 = .ok (.ireturn, 1) := by decide +kernel
theorem dX4_stops_88 : decode cX4_stops 88 = .ok (.iinc 4 1, 3) := by decide +kernel
theorem dX4_stops_91 : decode cX4_stops 91 = .ok (.goto (-58), 3) := by decide +kernel
theorem dX4_stops_94 : decode cX4_stops 94 = .ok (.iconst (-1), 1) := by decide +kernel
theorem dX4_stops_95 : decode cX4_stops 95 = .ok (.ireturn, 1) := by decide +kernel
theorem dX4_soonest_0 : decode cX4_soonest 0 = .ok (.iload_n 1, 1) := by decide +kernel
theorem dX4_soonest_1 : decode cX4_soonest 1 = .ok (.iconst 0, 1) := by decide +kernel
theorem dX4_soonest_2 : decode cX4_soonest 2 = .ok (.iconst 1, 1) := by decide +kernel
theorem dX4_soonest_3 : decode cX4_soonest 3 = .ok (.invokestatic 52, 3) := by decide +kernel
theorem dX4_soonest_6 : decode cX4_soonest 6 = .ok (.ifCond .ne 6, 3) := by decide +kernel
theorem dX4_soonest_9 : decode cX4_soonest 9 = .ok (.bipush (-3), 2) := by decide +kernel
theorem dX4_soonest_11 : decode cX4_soonest 11 = .ok (.ireturn, 1) := by decide +kernel
theorem dX4_soonest_12 : decode cX4_soonest 12 = .ok (.aload_n 0, 1) := by decide +kernel
theorem dX4_soonest_13 : decode cX4_soonest 13 = .ok (.invokevirtual 181, 3) := by decide +kernel
theorem dX4_soonest_16 : decode cX4_soonest 16 = .ok (.istore_n 2, 1) := by decide +kernel
theorem dX4_soonest_17 : decode cX4_soonest 17 = .ok (.iload_n 2, 1) := by decide +kernel
theorem dX4_soonest_18 : decode cX4_soonest 18 = .ok (.iconst (-1), 1) := by decide +kernel
theorem dX4_soonest_19 : decode cX4_soonest 19 = .ok (.if_icmp .ne 5, 3) := by decide +kernel
theorem dX4_soonest_22 : decode cX4_soonest 22 = .ok (.iconst (-1), 1) := by decide +kernel
theorem dX4_soonest_23 : decode cX4_soonest 23 = .ok (.ireturn, 1) := by decide +kernel
theorem dX4_soonest_24 : decode cX4_soonest 24 = .ok (.iload_n 1, 1) := by decide +kernel
theorem dX4_soonest_25 : decode cX4_soonest 25 = .ok (.ifCond .ne 7, 3) := by decide +kernel
theorem dX4_soonest_28 : decode cX4_soonest 28 = .ok (.iload_n 2, 1) := by decide +kernel
theorem dX4_soonest_29 : decode cX4_soonest 29 = .ok (.goto 11, 3) := by decide +kernel
theorem dX4_soonest_32 : decode cX4_soonest 32 = .ok (.aload_n 0, 1) := by decide +kernel
theorem dX4_soonest_33 : decode cX4_soonest 33 = .ok (.getfield 19, 3) := by decide +kernel
theorem dX4_soonest_36 : decode cX4_soonest 36 = .ok (.iload_n 2, 1) := by decide +kernel
theorem dX4_soonest_37 : decode cX4_soonest 37 = .ok (.invokevirtual 184, 3) := by decide +kernel
theorem dX4_soonest_40 : decode cX4_soonest 40 = .ok (.ireturn, 1) := by decide +kernel
theorem dX4_soonestSet_0 : decode cX4_soonestSet 0 = .ok (.aload_n 0, 1) := by decide +kernel
theorem dX4_soonestSet_1 : decode cX4_soonestSet 1 = .ok (.invokevirtual 152, 3) := by decide +kernel
theorem dX4_soonestSet_4 : decode cX4_soonestSet 4 = .ok (.istore_n 1, 1) := by decide +kernel
theorem dX4_soonestSet_5 : decode cX4_soonestSet 5 = .ok (.iconst (-1), 1) := by decide +kernel
theorem dX4_soonestSet_6 : decode cX4_soonestSet 6 = .ok (.istore_n 2, 1) := by decide +kernel
theorem dX4_soonestSet_7 : decode cX4_soonestSet 7 = .ok (.iconst 0, 1) := by decide +kernel
theorem dX4_soonestSet_8 : decode cX4_soonestSet 8 = .ok (.istore_n 3, 1) := by decide +kernel
theorem dX4_soonestSet_9 : decode cX4_soonestSet 9 = .ok (.iload_n 3, 1) := by decide +kernel
theorem dX4_soonestSet_10 : decode cX4_soonestSet 10 = .ok (.iconst 1, 1) := by decide +kernel
theorem dX4_soonestSet_11 : decode cX4_soonestSet 11 = .ok (.aload_n 0, 1) := by decide +kernel
theorem dX4_soonestSet_12 : decode cX4_soonestSet 12 = .ok (.getfield 19, 3) := by decide +kernel
theorem dX4_soonestSet_15 : decode cX4_soonestSet 15 = .ok (.getfield 64, 3) := by decide +kernel
theorem dX4_soonestSet_18 : decode cX4_soonestSet 18 = .ok (.ishl, 1) := by decide +kernel
theorem dX4_soonestSet_19 : decode cX4_soonestSet 19 = .ok (.if_icmp .ge 34, 3) := by decide +kernel
theorem dX4_soonestSet_22 : decode cX4_soonestSet 22 = .ok (.aload_n 0, 1) := by decide +kernel
theorem dX4_soonestSet_23 : decode cX4_soonestSet 23 = .ok (.iload_n 3, 1) := by decide +kernel
theorem dX4_soonestSet_24 : decode cX4_soonestSet 24 = .ok (.iload_n 1, 1) := by decide +kernel
theorem dX4_soonestSet_25 : decode cX4_soonestSet 25 = .ok (.invokevirtual 187, 3) := by decide +kernel
theorem dX4_soonestSet_28 : decode cX4_soonestSet 28 = .ok (.ifCond .eq 19, 3) := by decide +kernel
theorem dX4_soonestSet_31 : decode cX4_soonestSet 31 = .ok (.iload_n 2, 1) := by decide +kernel
theorem dX4_soonestSet_32 : decode cX4_soonestSet 32 = .ok (.iconst (-1), 1) := by decide +kernel
theorem dX4_soonestSet_33 : decode cX4_soonestSet 33 = .ok (.if_icmp .eq 12, 3) := by decide +kernel
theorem dX4_soonestSet_36 : decode cX4_soonestSet 36 = .ok (.aload_n 0, 1) := by decide +kernel
theorem dX4_soonestSet_37 : decode cX4_soonestSet 37 = .ok (.iload_n 3, 1) := by decide +kernel
theorem dX4_soonestSet_38 : decode cX4_soonestSet 38 = .ok (.iload_n 2, 1) := by decide +kernel
theorem dX4_soonestSet_39 : decode cX4_soonestSet 39 = .ok (.invokevirtual 190, 3) := by decide +kernel
theorem dX4_soonestSet_42 : decode cX4_soonestSet 42 = .ok (.ifCond .eq 5, 3) := by decide +kernel
theorem dX4_soonestSet_45 : decode cX4_soonestSet 45 = .ok (.iload_n 3, 1) := by decide +kernel
theorem dX4_soonestSet_46 : decode cX4_soonestSet 46 = .ok (.istore_n 2, 1) := by decide +kernel
theorem dX4_soonestSet_47 : decode cX4_soonestSet 47 = .ok (.iinc 3 1, 3) := by decide +kernel
theorem dX4_soonestSet_50 : decode cX4_soonestSet 50 = .ok (.goto (-41), 3) := by decide +kernel
theorem dX4_soonestSet_53 : decode cX4_soonestSet 53 = .ok (.iload_n 2, 1) := by decide +kernel
theorem dX4_soonestSet_54 : decode cX4_soonestSet 54 = .ok (.ireturn, 1) := by decide +kernel
theorem dX4_isSooner_0 : decode cX4_isSooner 0 = .ok (.aload_n 0, 1) := by decide +kernel
theorem dX4_isSooner_1 : decode cX4_isSooner 1 = .ok (.getfield 19, 3) := by decide +kernel
theorem dX4_isSooner_4 : decode cX4_isSooner 4 = .ok (.iload_n 1, 1) := by decide +kernel
theorem dX4_isSooner_5 : decode cX4_isSooner 5 = .ok (.invokevirtual 184, 3) := by decide +kernel
theorem dX4_isSooner_8 : decode cX4_isSooner 8 = .ok (.istore_n 3, 1) := by decide +kernel
theorem dX4_isSooner_9 : decode cX4_isSooner 9 = .ok (.aload_n 0, 1) := by decide +kernel
theorem dX4_isSooner_10 : decode cX4_isSooner 10 = .ok (.getfield 19, 3) := by decide +kernel
theorem dX4_isSooner_13 : decode cX4_isSooner 13 = .ok (.iload_n 2, 1) := by decide +kernel
theorem dX4_isSooner_14 : decode cX4_isSooner 14 = .ok (.invokevirtual 184, 3) := by decide +kernel
theorem dX4_isSooner_17 : decode cX4_isSooner 17 = .ok (.istore 4, 2) := by decide +kernel
theorem dX4_isSooner_19 : decode cX4_isSooner 19 = .ok (.iload_n 3, 1) := by decide +kernel
theorem dX4_isSooner_20 : decode cX4_isSooner 20 = .ok (.iload 4, 2) := by decide +kernel
theorem dX4_isSooner_22 : decode cX4_isSooner 22 = .ok (.if_icmp .eq 15, 3) := by decide +kernel
theorem dX4_isSooner_25 : decode cX4_isSooner 25 = .ok (.iload_n 3, 1) := by decide +kernel
theorem dX4_isSooner_26 : decode cX4_isSooner 26 = .ok (.iload 4, 2) := by decide +kernel
theorem dX4_isSooner_28 : decode cX4_isSooner 28 = .ok (.if_icmp .ge 7, 3) := by decide +kernel
theorem dX4_isSooner_31 : decode cX4_isSooner 31 = .ok (.iconst 1, 1) := by decide +kernel
theorem dX4_isSooner_32 : decode cX4_isSooner 32 = .ok (.goto 4, 3) := by decide +kernel
theorem dX4_isSooner_35 : decode cX4_isSooner 35 = .ok (.iconst 0, 1) := by decide +kernel
theorem dX4_isSooner_36 : decode cX4_isSooner 36 = .ok (.ireturn, 1) := by decide +kernel
theorem dX4_isSooner_37 : decode cX4_isSooner 37 = .ok (.iload_n 1, 1) := by decide +kernel
theorem dX4_isSooner_38 : decode cX4_isSooner 38 = .ok (.invokestatic 193, 3) := by decide +kernel
theorem dX4_isSooner_41 : decode cX4_isSooner 41 = .ok (.iload_n 2, 1) := by decide +kernel
theorem dX4_isSooner_42 : decode cX4_isSooner 42 = .ok (.invokestatic 193, 3) := by decide +kernel
theorem dX4_isSooner_45 : decode cX4_isSooner 45 = .ok (.if_icmp .ge 7, 3) := by decide +kernel
theorem dX4_isSooner_48 : decode cX4_isSooner 48 = .ok (.iconst 1, 1) := by decide +kernel
theorem dX4_isSooner_49 : decode cX4_isSooner 49 = .ok (.goto 4, 3) := by decide +kernel
theorem dX4_isSooner_52 : decode cX4_isSooner 52 = .ok (.iconst 0, 1) := by decide +kernel
theorem dX4_isSooner_53 : decode cX4_isSooner 53 = .ok (.ireturn, 1) := by decide +kernel
theorem dX4_never_0 : decode cX4_never 0 = .ok (.iload_n 1, 1) := by decide +kernel
theorem dX4_never_1 : decode cX4_never 1 = .ok (.iconst 0, 1) := by decide +kernel
theorem dX4_never_2 : decode cX4_never 2 = .ok (.bipush 99, 2) := by decide +kernel
theorem dX4_never_4 : decode cX4_never 4 = .ok (.invokestatic 52, 3) := by decide +kernel
theorem dX4_never_7 : decode cX4_never 7 = .ok (.ifCond .ne 6, 3) := by decide +kernel
theorem dX4_never_10 : decode cX4_never 10 = .ok (.bipush (-3), 2) := by decide +kernel
theorem dX4_never_12 : decode cX4_never 12 = .ok (.ireturn, 1) := by decide +kernel
theorem dX4_never_13 : decode cX4_never 13 = .ok (.iconst 0, 1) := by decide +kernel
theorem dX4_never_14 : decode cX4_never 14 = .ok (.istore_n 2, 1) := by decide +kernel
theorem dX4_never_15 : decode cX4_never 15 = .ok (.iload_n 2, 1) := by decide +kernel
theorem dX4_never_16 : decode cX4_never 16 = .ok (.iconst 1, 1) := by decide +kernel
theorem dX4_never_17 : decode cX4_never 17 = .ok (.aload_n 0, 1) := by decide +kernel
theorem dX4_never_18 : decode cX4_never 18 = .ok (.getfield 19, 3) := by decide +kernel
theorem dX4_never_21 : decode cX4_never 21 = .ok (.getfield 64, 3) := by decide +kernel
theorem dX4_never_24 : decode cX4_never 24 = .ok (.ishl, 1) := by decide +kernel
theorem dX4_never_25 : decode cX4_never 25 = .ok (.if_icmp .ge 20, 3) := by decide +kernel
theorem dX4_never_28 : decode cX4_never 28 = .ok (.aload_n 0, 1) := by decide +kernel
theorem dX4_never_29 : decode cX4_never 29 = .ok (.iload_n 2, 1) := by decide +kernel
theorem dX4_never_30 : decode cX4_never 30 = .ok (.iload_n 1, 1) := by decide +kernel
theorem dX4_never_31 : decode cX4_never 31 = .ok (.invokevirtual 187, 3) := by decide +kernel
theorem dX4_never_34 : decode cX4_never 34 = .ok (.ifCond .eq 5, 3) := by decide +kernel
theorem dX4_never_37 : decode cX4_never 37 = .ok (.iconst 0, 1) := by decide +kernel
theorem dX4_never_38 : decode cX4_never 38 = .ok (.ireturn, 1) := by decide +kernel
theorem dX4_never_39 : decode cX4_never 39 = .ok (.iinc 2 1, 3) := by decide +kernel
theorem dX4_never_42 : decode cX4_never 42 = .ok (.goto (-27), 3) := by decide +kernel
theorem dX4_never_45 : decode cX4_never 45 = .ok (.iconst 1, 1) := by decide +kernel
theorem dX4_never_46 : decode cX4_never 46 = .ok (.ireturn, 1) := by decide +kernel
theorem dX4_levels_0 : decode cX4_levels 0 = .ok (.iload_n 1, 1) := by decide +kernel
theorem dX4_levels_1 : decode cX4_levels 1 = .ok (.aload_n 0, 1) := by decide +kernel
theorem dX4_levels_2 : decode cX4_levels 2 = .ok (.getfield 26, 3) := by decide +kernel
theorem dX4_levels_5 : decode cX4_levels 5 = .ok (.getfield 123, 3) := by decide +kernel
theorem dX4_levels_8 : decode cX4_levels 8 = .ok (.iand, 1) := by decide +kernel
theorem dX4_levels_9 : decode cX4_levels 9 = .ok (.ifCond .ne 28, 3) := by decide +kernel
theorem dX4_levels_12 : decode cX4_levels 12 = .ok (.aload_n 0, 1) := by decide +kernel
theorem dX4_levels_13 : decode cX4_levels 13 = .ok (.aload_n 0, 1) := by decide +kernel
theorem dX4_levels_14 : decode cX4_levels 14 = .ok (.aload_n 0, 1) := by decide +kernel
theorem dX4_levels_15 : decode cX4_levels 15 = .ok (.getfield 26, 3) := by decide +kernel
theorem dX4_levels_18 : decode cX4_levels 18 = .ok (.getfield 123, 3) := by decide +kernel
theorem dX4_levels_21 : decode cX4_levels 21 = .ok (.iload_n 1, 1) := by decide +kernel
theorem dX4_levels_22 : decode cX4_levels 22 = .ok (.ior, 1) := by decide +kernel
theorem dX4_levels_23 : decode cX4_levels 23 = .ok (.invokevirtual 148, 3) := by decide +kernel
theorem dX4_levels_26 : decode cX4_levels 26 = .ok (.iload_n 2, 1) := by decide +kernel
theorem dX4_levels_27 : decode cX4_levels 27 = .ok (.invokevirtual 178, 3) := by decide +kernel
theorem dX4_levels_30 : decode cX4_levels 30 = .ok (.ifCond .eq 7, 3) := by decide +kernel
theorem dX4_levels_33 : decode cX4_levels 33 = .ok (.iconst 1, 1) := by decide +kernel
theorem dX4_levels_34 : decode cX4_levels 34 = .ok (.goto 4, 3) := by decide +kernel
theorem dX4_levels_37 : decode cX4_levels 37 = .ok (.iconst 0, 1) := by decide +kernel
theorem dX4_levels_38 : decode cX4_levels 38 = .ok (.ireturn, 1) := by decide +kernel
theorem dX4_seen_0 : decode cX4_seen 0 = .ok (.aload_n 0, 1) := by decide +kernel
theorem dX4_seen_1 : decode cX4_seen 1 = .ok (.iload_n 1, 1) := by decide +kernel
theorem dX4_seen_2 : decode cX4_seen 2 = .ok (.invokevirtual 198, 3) := by decide +kernel
theorem dX4_seen_5 : decode cX4_seen 5 = .ok (.ifCond .ne 6, 3) := by decide +kernel
theorem dX4_seen_8 : decode cX4_seen 8 = .ok (.bipush (-2), 2) := by decide +kernel
theorem dX4_seen_10 : decode cX4_seen 10 = .ok (.ireturn, 1) := by decide +kernel
theorem dX4_seen_11 : decode cX4_seen 11 = .ok (.iload_n 2, 1) := by decide +kernel
theorem dX4_seen_12 : decode cX4_seen 12 = .ok (.iconst 0, 1) := by decide +kernel
theorem dX4_seen_13 : decode cX4_seen 13 = .ok (.bipush 9, 2) := by decide +kernel
theorem dX4_seen_15 : decode cX4_seen 15 = .ok (.invokestatic 52, 3) := by decide +kernel
theorem dX4_seen_18 : decode cX4_seen 18 = .ok (.ifCond .eq 14, 3) := by decide +kernel
theorem dX4_seen_21 : decode cX4_seen 21 = .ok (.iload_n 3, 1) := by decide +kernel
theorem dX4_seen_22 : decode cX4_seen 22 = .ok (.iconst 0, 1) := by decide +kernel
theorem dX4_seen_23 : decode cX4_seen 23 = .ok (.sipush 255, 3) := by decide +kernel
theorem dX4_seen_26 : decode cX4_seen 26 = .ok (.invokestatic 52, 3) := by decide +kernel
theorem dX4_seen_29 : decode cX4_seen 29 = .ok (.ifCond .ne 6, 3) := by decide +kernel
theorem dX4_seen_32 : decode cX4_seen 32 = .ok (.bipush (-3), 2) := by decide +kernel
theorem dX4_seen_34 : decode cX4_seen 34 = .ok (.ireturn, 1) := by decide +kernel
theorem dX4_seen_35 : decode cX4_seen 35 = .ok (.aload_n 0, 1) := by decide +kernel
theorem dX4_seen_36 : decode cX4_seen 36 = .ok (.getfield 48, 3) := by decide +kernel
theorem dX4_seen_39 : decode cX4_seen 39 = .ok (.iload_n 1, 1) := by decide +kernel
theorem dX4_seen_40 : decode cX4_seen 40 = .ok (.iload_n 2, 1) := by decide +kernel
theorem dX4_seen_41 : decode cX4_seen 41 = .ok (.iload_n 3, 1) := by decide +kernel
theorem dX4_seen_42 : decode cX4_seen 42 = .ok (.invokevirtual 201, 3) := by decide +kernel
theorem dX4_seen_45 : decode cX4_seen 45 = .ok (.ifCond .eq 13, 3) := by decide +kernel
theorem dX4_seen_48 : decode cX4_seen 48 = .ok (.aload_n 0, 1) := by decide +kernel
theorem dX4_seen_49 : decode cX4_seen 49 = .ok (.getfield 48, 3) := by decide +kernel
theorem dX4_seen_52 : decode cX4_seen 52 = .ok (.getfield 204, 3) := by decide +kernel
theorem dX4_seen_55 : decode cX4_seen 55 = .ok (.goto 5, 3) := by decide +kernel
theorem dX4_seen_58 : decode cX4_seen 58 = .ok (.bipush (-5), 2) := by decide +kernel
theorem dX4_seen_60 : decode cX4_seen 60 = .ok (.ireturn, 1) := by decide +kernel
theorem dX4_heard_0 : decode cX4_heard 0 = .ok (.aload_n 0, 1) := by decide +kernel
theorem dX4_heard_1 : decode cX4_heard 1 = .ok (.iload_n 1, 1) := by decide +kernel
theorem dX4_heard_2 : decode cX4_heard 2 = .ok (.invokevirtual 198, 3) := by decide +kernel
theorem dX4_heard_5 : decode cX4_heard 5 = .ok (.ifCond .ne 6, 3) := by decide +kernel
theorem dX4_heard_8 : decode cX4_heard 8 = .ok (.bipush (-2), 2) := by decide +kernel
theorem dX4_heard_10 : decode cX4_heard 10 = .ok (.ireturn, 1) := by decide +kernel
theorem dX4_heard_11 : decode cX4_heard 11 = .ok (.iload_n 2, 1) := by decide +kernel
theorem dX4_heard_12 : decode cX4_heard 12 = .ok (.iconst 0, 1) := by decide +kernel
theorem dX4_heard_13 : decode cX4_heard 13 = .ok (.bipush 99, 2) := by decide +kernel
theorem dX4_heard_15 : decode cX4_heard 15 = .ok (.invokestatic 52, 3) := by decide +kernel
theorem dX4_heard_18 : decode cX4_heard 18 = .ok (.ifCond .eq 12, 3) := by decide +kernel
theorem dX4_heard_21 : decode cX4_heard 21 = .ok (.iload_n 3, 1) := by decide +kernel
theorem dX4_heard_22 : decode cX4_heard 22 = .ok (.iconst 0, 1) := by decide +kernel
theorem dX4_heard_23 : decode cX4_heard 23 = .ok (.iconst 1, 1) := by decide +kernel
theorem dX4_heard_24 : decode cX4_heard 24 = .ok (.invokestatic 52, 3) := by decide +kernel
theorem dX4_heard_27 : decode cX4_heard 27 = .ok (.ifCond .ne 6, 3) := by decide +kernel
theorem dX4_heard_30 : decode cX4_heard 30 = .ok (.bipush (-3), 2) := by decide +kernel
theorem dX4_heard_32 : decode cX4_heard 32 = .ok (.ireturn, 1) := by decide +kernel
theorem dX4_heard_33 : decode cX4_heard 33 = .ok (.aload_n 0, 1) := by decide +kernel
theorem dX4_heard_34 : decode cX4_heard 34 = .ok (.getfield 48, 3) := by decide +kernel
theorem dX4_heard_37 : decode cX4_heard 37 = .ok (.iload_n 1, 1) := by decide +kernel
theorem dX4_heard_38 : decode cX4_heard 38 = .ok (.iload_n 2, 1) := by decide +kernel
theorem dX4_heard_39 : decode cX4_heard 39 = .ok (.iload_n 3, 1) := by decide +kernel
theorem dX4_heard_40 : decode cX4_heard 40 = .ok (.iconst 1, 1) := by decide +kernel
theorem dX4_heard_41 : decode cX4_heard 41 = .ok (.if_icmp .ne 7, 3) := by decide +kernel
theorem dX4_heard_44 : decode cX4_heard 44 = .ok (.iconst 1, 1) := by decide +kernel
theorem dX4_heard_45 : decode cX4_heard 45 = .ok (.goto 4, 3) := by decide +kernel
theorem dX4_heard_48 : decode cX4_heard 48 = .ok (.iconst 0, 1) := by decide +kernel
theorem dX4_heard_49 : decode cX4_heard 49 = .ok (.aload_n 0, 1) := by decide +kernel
theorem dX4_heard_50 : decode cX4_heard 50 = .ok (.getfield 26, 3) := by decide +kernel
theorem dX4_heard_53 : decode cX4_heard 53 = .ok (.getfield 116, 3) := by decide +kernel
theorem dX4_heard_56 : decode cX4_heard 56 = .ok (.invokevirtual 207, 3) := by decide +kernel
theorem dX4_heard_59 : decode cX4_heard 59 = .ok (.ifCond .eq 13, 3) := by decide +kernel
theorem dX4_heard_62 : decode cX4_heard 62 = .ok (.aload_n 0, 1) := by decide +kernel
theorem dX4_heard_63 : decode cX4_heard 63 = .ok (.getfield 48, 3) := by decide +kernel
theorem dX4_heard_66 : decode cX4_heard 66 = .ok (.getfield 211, 3) := by decide +kernel
theorem dX4_heard_69 : decode cX4_heard 69 = .ok (.goto 5, 3) := by decide +kernel
theorem dX4_heard_72 : decode cX4_heard 72 = .ok (.bipush (-5), 2) := by decide +kernel
theorem dX4_heard_74 : decode cX4_heard 74 = .ok (.ireturn, 1) := by decide +kernel
theorem dX4_forget_0 : decode cX4_forget 0 = .ok (.aload_n 0, 1) := by decide +kernel
theorem dX4_forget_1 : decode cX4_forget 1 = .ok (.getfield 48, 3) := by decide +kernel
theorem dX4_forget_4 : decode cX4_forget 4 = .ok (.getfield 204, 3) := by decide +kernel
theorem dX4_forget_7 : decode cX4_forget 7 = .ok (.aload_n 0, 1) := by decide +kernel
theorem dX4_forget_8 : decode cX4_forget 8 = .ok (.getfield 48, 3) := by decide +kernel
theorem dX4_forget_11 : decode cX4_forget 11 = .ok (.getfield 211, 3) := by decide +kernel
theorem dX4_forget_14 : decode cX4_forget 14 = .ok (.iadd, 1) := by decide +kernel
theorem dX4_forget_15 : decode cX4_forget 15 = .ok (.istore_n 1, 1) := by decide +kernel
theorem dX4_forget_16 : decode cX4_forget 16 = .ok (.aload_n 0, 1) := by decide +kernel
theorem dX4_forget_17 : decode cX4_forget 17 = .ok (.getfield 48, 3) := by decide +kernel
theorem dX4_forget_20 : decode cX4_forget 20 = .ok (.invokevirtual 98, 3) := by decide +kernel
theorem dX4_forget_23 : decode cX4_forget 23 = .ok (.iload_n 1, 1) := by decide +kernel
theorem dX4_forget_24 : decode cX4_forget 24 = .ok (.ireturn, 1) := by decide +kernel
theorem dX4_weights_0 : decode cX4_weights 0 = .ok (.aload_n 0, 1) := by decide +kernel
theorem dX4_weights_1 : decode cX4_weights 1 = .ok (.iload_n 1, 1) := by decide +kernel
theorem dX4_weights_2 : decode cX4_weights 2 = .ok (.invokevirtual 104, 3) := by decide +kernel
theorem dX4_weights_5 : decode cX4_weights 5 = .ok (.ifCond .ne 6, 3) := by decide +kernel
theorem dX4_weights_8 : decode cX4_weights 8 = .ok (.bipush (-2), 2) := by decide +kernel
theorem dX4_weights_10 : decode cX4_weights 10 = .ok (.ireturn, 1) := by decide +kernel
theorem dX4_weights_11 : decode cX4_weights 11 = .ok (.iconst 0, 1) := by decide +kernel
theorem dX4_weights_12 : decode cX4_weights 12 = .ok (.istore_n 2, 1) := by decide +kernel
theorem dX4_weights_13 : decode cX4_weights 13 = .ok (.iconst 0, 1) := by decide +kernel
theorem dX4_weights_14 : decode cX4_weights 14 = .ok (.istore_n 3, 1) := by decide +kernel
theorem dX4_weights_15 : decode cX4_weights 15 = .ok (.iload_n 3, 1) := by decide +kernel
theorem dX4_weights_16 : decode cX4_weights 16 = .ok (.bipush 20, 2) := by decide +kernel
theorem dX4_weights_18 : decode cX4_weights 18 = .ok (.if_icmp .gt 24, 3) := by decide +kernel
theorem dX4_weights_21 : decode cX4_weights 21 = .ok (.aload_n 0, 1) := by decide +kernel
theorem dX4_weights_22 : decode cX4_weights 22 = .ok (.iload_n 1, 1) := by decide +kernel
theorem dX4_weights_23 : decode cX4_weights 23 = .ok (.iload_n 3, 1) := by decide +kernel
theorem dX4_weights_24 : decode cX4_weights 24 = .ok (.invokevirtual 214, 3) := by decide +kernel
theorem dX4_weights_27 : decode cX4_weights 27 = .ok (.ifCond .eq 9, 3) := by decide +kernel
theorem dX4_weights_30 : decode cX4_weights 30 = .ok (.iload_n 2, 1) := by decide +kernel
theorem dX4_weights_31 : decode cX4_weights 31 = .ok (.iconst 1, 1) := by decide +kernel
theorem dX4_weights_32 : decode cX4_weights 32 = .ok (.iload_n 3, 1) := by decide +kernel
theorem dX4_weights_33 : decode cX4_weights 33 = .ok (.ishl, 1) := by decide +kernel
theorem dX4_weights_34 : decode cX4_weights 34 = .ok (.ior, 1) := by decide +kernel
theorem dX4_weights_35 : decode cX4_weights 35 = .ok (.istore_n 2, 1) := by decide +kernel
theorem dX4_weights_36 : decode cX4_weights 36 = .ok (.iinc 3 1, 3) := by decide +kernel
theorem dX4_weights_39 : decode cX4_weights 39 = .ok (.goto (-24), 3) := by decide +kernel
theorem dX4_weights_42 : decode cX4_weights 42 = .ok (.iload_n 2, 1) := by decide +kernel
theorem dX4_weights_43 : decode cX4_weights 43 = .ok (.ireturn, 1) := by decide +kernel
theorem dX4_fitsAllSeen_0 : decode cX4_fitsAllSeen 0 = .ok (.iconst 0, 1) := by decide +kernel
theorem dX4_fitsAllSeen_1 : decode cX4_fitsAllSeen 1 = .ok (.istore_n 3, 1) := by decide +kernel
theorem dX4_fitsAllSeen_2 : decode cX4_fitsAllSeen 2 = .ok (.iload_n 3, 1) := by decide +kernel
theorem dX4_fitsAllSeen_3 : decode cX4_fitsAllSeen 3 = .ok (.aload_n 0, 1) := by decide +kernel
theorem dX4_fitsAllSeen_4 : decode cX4_fitsAllSeen 4 = .ok (.getfield 48, 3) := by decide +kernel
theorem dX4_fitsAllSeen_7 : decode cX4_fitsAllSeen 7 = .ok (.getfield 204, 3) := by decide +kernel
theorem dX4_fitsAllSeen_10 : decode cX4_fitsAllSeen 10 = .ok (.if_icmp .ge 95, 3) := by decide +kernel
theorem dX4_fitsAllSeen_13 : decode cX4_fitsAllSeen 13 = .ok (.aload_n 0, 1) := by decide +kernel
theorem dX4_fitsAllSeen_14 : decode cX4_fitsAllSeen 14 = .ok (.getfield 48, 3) := by decide +kernel
theorem dX4_fitsAllSeen_17 : decode cX4_fitsAllSeen 17 = .ok (.getfield 217, 3) := by decide +kernel
theorem dX4_fitsAllSeen_20 : decode cX4_fitsAllSeen 20 = .ok (.iload_n 3, 1) := by decide +kernel
theorem dX4_fitsAllSeen_21 : decode cX4_fitsAllSeen 21 = .ok (.iaload, 1) := by decide +kernel
theorem dX4_fitsAllSeen_22 : decode cX4_fitsAllSeen 22 = .ok (.istore 4, 2) := by decide +kernel
theorem dX4_fitsAllSeen_24 : decode cX4_fitsAllSeen 24 = .ok (.aload_n 0, 1) := by decide +kernel
theorem dX4_fitsAllSeen_25 : decode cX4_fitsAllSeen 25 = .ok (.getfield 48, 3) := by decide +kernel
theorem dX4_fitsAllSeen_28 : decode cX4_fitsAllSeen 28 = .ok (.getfield 220, 3) := by decide +kernel
theorem dX4_fitsAllSeen_31 : decode cX4_fitsAllSeen 31 = .ok (.iload_n 3, 1) := by decide +kernel
theorem dX4_fitsAllSeen_32 : decode cX4_fitsAllSeen 32 = .ok (.iaload, 1) := by decide +kernel
theorem dX4_fitsAllSeen_33 : decode cX4_fitsAllSeen 33 = .ok (.istore 5, 2) := by decide +kernel
theorem dX4_fitsAllSeen_35 : decode cX4_fitsAllSeen 35 = .ok (.aload_n 0, 1) := by decide +kernel
theorem dX4_fitsAllSeen_36 : decode cX4_fitsAllSeen 36 = .ok (.getfield 19, 3) := by decide +kernel
theorem dX4_fitsAllSeen_39 : decode cX4_fitsAllSeen 39 = .ok (.iload 4, 2) := by decide +kernel
theorem dX4_fitsAllSeen_41 : decode cX4_fitsAllSeen 41 = .ok (.iconst 1, 1) := by decide +kernel
theorem dX4_fitsAllSeen_42 : decode cX4_fitsAllSeen 42 = .ok (.iload_n 1, 1) := by decide +kernel
theorem dX4_fitsAllSeen_43 : decode cX4_fitsAllSeen 43 = .ok (.ishl, 1) := by decide +kernel
theorem dX4_fitsAllSeen_44 : decode cX4_fitsAllSeen 44 = .ok (.iconst (-1), 1) := by decide +kernel
theorem dX4_fitsAllSeen_45 : decode cX4_fitsAllSeen 45 = .ok (.ixor, 1) := by decide +kernel
theorem dX4_fitsAllSeen_46 : decode cX4_fitsAllSeen 46 = .ok (.iand, 1) := by decide +kernel
theorem dX4_fitsAllSeen_47 : decode cX4_fitsAllSeen 47 = .ok (.iload 5, 2) := by decide +kernel
theorem dX4_fitsAllSeen_49 : decode cX4_fitsAllSeen 49 = .ok (.invokevirtual 223, 3) := by decide +kernel
theorem dX4_fitsAllSeen_52 : decode cX4_fitsAllSeen 52 = .ok (.istore 6, 2) := by decide +kernel
theorem dX4_fitsAllSeen_54 : decode cX4_fitsAllSeen 54 = .ok (.iload_n 1, 1) := by decide +kernel
theorem dX4_fitsAllSeen_55 : decode cX4_fitsAllSeen 55 = .ok (.iload 4, 2) := by decide +kernel
theorem dX4_fitsAllSeen_57 : decode cX4_fitsAllSeen 57 = .ok (.invokestatic 126, 3) := by decide +kernel
theorem dX4_fitsAllSeen_60 : decode cX4_fitsAllSeen 60 = .ok (.ifCond .eq 23, 3) := by decide +kernel
theorem dX4_fitsAllSeen_63 : decode cX4_fitsAllSeen 63 = .ok (.iload 6, 2) := by decide +kernel
theorem dX4_fitsAllSeen_65 : decode cX4_fitsAllSeen 65 = .ok (.aload_n 0, 1) := by decide +kernel
theorem dX4_fitsAllSeen_66 : decode cX4_fitsAllSeen 66 = .ok (.getfield 19, 3) := by decide +kernel
theorem dX4_fitsAllSeen_69 : decode cX4_fitsAllSeen 69 = .ok (.getfield 107, 3) := by decide +kernel
theorem dX4_fitsAllSeen_72 : decode cX4_fitsAllSeen 72 = .ok (.iload_n 1, 1) := by decide +kernel
theorem dX4_fitsAllSeen_73 : decode cX4_fitsAllSeen 73 = .ok (.iaload, 1) := by decide +kernel
theorem dX4_fitsAllSeen_74 : decode cX4_fitsAllSeen 74 = .ok (.iload_n 2, 1) := by decide +kernel
theorem dX4_fitsAllSeen_75 : decode cX4_fitsAllSeen 75 = .ok (.iload 5, 2) := by decide +kernel
theorem dX4_fitsAllSeen_77 : decode cX4_fitsAllSeen 77 = .ok (.invokestatic 119, 3) := by decide +kernel
theorem dX4_fitsAllSeen_80 : decode cX4_fitsAllSeen 80 = .ok (.iadd, 1) := by decide +kernel
theorem dX4_fitsAllSeen_81 : decode cX4_fitsAllSeen 81 = .ok (.istore 6, 2) := by decide +kernel
theorem dX4_fitsAllSeen_83 : decode cX4_fitsAllSeen 83 = .ok (.iload 6, 2) := by decide +kernel
theorem dX4_fitsAllSeen_85 : decode cX4_fitsAllSeen 85 = .ok (.aload_n 0, 1) := by decide +kernel
theorem dX4_fitsAllSeen_86 : decode cX4_fitsAllSeen 86 = .ok (.getfield 48, 3) := by decide +kernel
theorem dX4_fitsAllSeen_89 : decode cX4_fitsAllSeen 89 = .ok (.getfield 226, 3) := by decide +kernel
theorem dX4_fitsAllSeen_92 : decode cX4_fitsAllSeen 92 = .ok (.iload_n 3, 1) := by decide +kernel
theorem dX4_fitsAllSeen_93 : decode cX4_fitsAllSeen 93 = .ok (.iaload, 1) := by decide +kernel
theorem dX4_fitsAllSeen_94 : decode cX4_fitsAllSeen 94 = .ok (.if_icmp .eq 5, 3) := by decide +kernel
theorem dX4_fitsAllSeen_97 : decode cX4_fitsAllSeen 97 = .ok (.iconst 0, 1) := by decide +kernel
theorem dX4_fitsAllSeen_98 : decode cX4_fitsAllSeen 98 = .ok (.ireturn, 1) := by decide +kernel
theorem dX4_fitsAllSeen_99 : decode cX4_fitsAllSeen 99 = .ok (.iinc 3 1, 3) := by decide +kernel
theorem dX4_fitsAllSeen_102 : decode cX4_fitsAllSeen 102 = .ok (.goto (-100), 3) := by decide +kernel
theorem dX4_fitsAllSeen_105 : decode cX4_fitsAllSeen 105 = .ok (.iconst 1, 1) := by decide +kernel
theorem dX4_fitsAllSeen_106 : decode cX4_fitsAllSeen 106 = .ok (.ireturn, 1) := by decide +kernel
theorem dX4_thumbs_0 : decode cX4_thumbs 0 = .ok (.iconst 0, 1) := by decide +kernel
theorem dX4_thumbs_1 : decode cX4_thumbs 1 = .ok (.istore_n 1, 1) := by decide +kernel
theorem dX4_thumbs_2 : decode cX4_thumbs 2 = .ok (.iconst 0, 1) := by decide +kernel
theorem dX4_thumbs_3 : decode cX4_thumbs 3 = .ok (.istore_n 2, 1) := by decide +kernel
theorem dX4_thumbs_4 : decode cX4_thumbs 4 = .ok (.iload_n 2, 1) := by decide +kernel
theorem dX4_thumbs_5 : decode cX4_thumbs 5 = .ok (.bipush 9, 2) := by decide +kernel
theorem dX4_thumbs_7 : decode cX4_thumbs 7 = .ok (.if_icmp .gt 23, 3) := by decide +kernel
theorem dX4_thumbs_10 : decode cX4_thumbs 10 = .ok (.aload_n 0, 1) := by decide +kernel
theorem dX4_thumbs_11 : decode cX4_thumbs 11 = .ok (.iload_n 2, 1) := by decide +kernel
theorem dX4_thumbs_12 : decode cX4_thumbs 12 = .ok (.invokevirtual 229, 3) := by decide +kernel
theorem dX4_thumbs_15 : decode cX4_thumbs 15 = .ok (.ifCond .eq 9, 3) := by decide +kernel
theorem dX4_thumbs_18 : decode cX4_thumbs 18 = .ok (.iload_n 1, 1) := by decide +kernel
theorem dX4_thumbs_19 : decode cX4_thumbs 19 = .ok (.iconst 1, 1) := by decide +kernel
theorem dX4_thumbs_20 : decode cX4_thumbs 20 = .ok (.iload_n 2, 1) := by decide +kernel
theorem dX4_thumbs_21 : decode cX4_thumbs 21 = .ok (.ishl, 1) := by decide +kernel
theorem dX4_thumbs_22 : decode cX4_thumbs 22 = .ok (.ior, 1) := by decide +kernel
theorem dX4_thumbs_23 : decode cX4_thumbs 23 = .ok (.istore_n 1, 1) := by decide +kernel
theorem dX4_thumbs_24 : decode cX4_thumbs 24 = .ok (.iinc 2 1, 3) := by decide +kernel
theorem dX4_thumbs_27 : decode cX4_thumbs 27 = .ok (.goto (-23), 3) := by decide +kernel
theorem dX4_thumbs_30 : decode cX4_thumbs 30 = .ok (.iload_n 1, 1) := by decide +kernel
theorem dX4_thumbs_31 : decode cX4_thumbs 31 = .ok (.ireturn, 1) := by decide +kernel
theorem dX4_fitsAllHeard_0 : decode cX4_fitsAllHeard 0 = .ok (.iconst 0, 1) := by decide +kernel
theorem dX4_fitsAllHeard_1 : decode cX4_fitsAllHeard 1 = .ok (.istore_n 2, 1) := by decide +kernel
theorem dX4_fitsAllHeard_2 : decode cX4_fitsAllHeard 2 = .ok (.iload_n 2, 1) := by decide +kernel
theorem dX4_fitsAllHeard_3 : decode cX4_fitsAllHeard 3 = .ok (.aload_n 0, 1) := by decide +kernel
theorem dX4_fitsAllHeard_4 : decode cX4_fitsAllHeard 4 = .ok (.getfield 48, 3) := by decide +kernel
theorem dX4_fitsAllHeard_7 : decode cX4_fitsAllHeard 7 = .ok (.getfield 211, 3) := by decide +kernel
theorem dX4_fitsAllHeard_10 : decode cX4_fitsAllHeard 10 = .ok (.if_icmp .ge 65, 3) := by decide +kernel
theorem dX4_fitsAllHeard_13 : decode cX4_fitsAllHeard 13 = .ok (.aload_n 0, 1) := by decide +kernel
theorem dX4_fitsAllHeard_14 : decode cX4_fitsAllHeard 14 = .ok (.getfield 19, 3) := by decide +kernel
theorem dX4_fitsAllHeard_17 : decode cX4_fitsAllHeard 17 = .ok (.aload_n 0, 1) := by decide +kernel
theorem dX4_fitsAllHeard_18 : decode cX4_fitsAllHeard 18 = .ok (.getfield 48, 3) := by decide +kernel
theorem dX4_fitsAllHeard_21 : decode cX4_fitsAllHeard 21 = .ok (.getfield 232, 3) := by decide +kernel
theorem dX4_fitsAllHeard_24 : decode cX4_fitsAllHeard 24 = .ok (.iload_n 2, 1) := by decide +kernel
theorem dX4_fitsAllHeard_25 : decode cX4_fitsAllHeard 25 = .ok (.iaload, 1) := by decide +kernel
theorem dX4_fitsAllHeard_26 : decode cX4_fitsAllHeard 26 = .ok (.aload_n 0, 1) := by decide +kernel
theorem dX4_fitsAllHeard_27 : decode cX4_fitsAllHeard 27 = .ok (.getfield 48, 3) := by decide +kernel
theorem dX4_fitsAllHeard_30 : decode cX4_fitsAllHeard 30 = .ok (.getfield 235, 3) := by decide +kernel
theorem dX4_fitsAllHeard_33 : decode cX4_fitsAllHeard 33 = .ok (.iload_n 2, 1) := by decide +kernel
theorem dX4_fitsAllHeard_34 : decode cX4_fitsAllHeard 34 = .ok (.iaload, 1) := by decide +kernel
theorem dX4_fitsAllHeard_35 : decode cX4_fitsAllHeard 35 = .ok (.invokevirtual 223, 3) := by decide +kernel
theorem dX4_fitsAllHeard_38 : decode cX4_fitsAllHeard 38 = .ok (.iload_n 1, 1) := by decide +kernel
theorem dX4_fitsAllHeard_39 : decode cX4_fitsAllHeard 39 = .ok (.iadd, 1) := by decide +kernel
theorem dX4_fitsAllHeard_40 : decode cX4_fitsAllHeard 40 = .ok (.istore_n 3, 1) := by decide +kernel
theorem dX4_fitsAllHeard_41 : decode cX4_fitsAllHeard 41 = .ok (.aload_n 0, 1) := by decide +kernel
theorem dX4_fitsAllHeard_42 : decode cX4_fitsAllHeard 42 = .ok (.iload_n 3, 1) := by decide +kernel
theorem dX4_fitsAllHeard_43 : decode cX4_fitsAllHeard 43 = .ok (.aload_n 0, 1) := by decide +kernel
theorem dX4_fitsAllHeard_44 : decode cX4_fitsAllHeard 44 = .ok (.getfield 48, 3) := by decide +kernel
theorem dX4_fitsAllHeard_47 : decode cX4_fitsAllHeard 47 = .ok (.getfield 238, 3) := by decide +kernel
theorem dX4_fitsAllHeard_50 : decode cX4_fitsAllHeard 50 = .ok (.iload_n 2, 1) := by decide +kernel
theorem dX4_fitsAllHeard_51 : decode cX4_fitsAllHeard 51 = .ok (.iaload, 1) := by decide +kernel
theorem dX4_fitsAllHeard_52 : decode cX4_fitsAllHeard 52 = .ok (.invokevirtual 178, 3) := by decide +kernel
theorem dX4_fitsAllHeard_55 : decode cX4_fitsAllHeard 55 = .ok (.aload_n 0, 1) := by decide +kernel
theorem dX4_fitsAllHeard_56 : decode cX4_fitsAllHeard 56 = .ok (.getfield 48, 3) := by decide +kernel
theorem dX4_fitsAllHeard_59 : decode cX4_fitsAllHeard 59 = .ok (.getfield 241, 3) := by decide +kernel
theorem dX4_fitsAllHeard_62 : decode cX4_fitsAllHeard 62 = .ok (.iload_n 2, 1) := by decide +kernel
theorem dX4_fitsAllHeard_63 : decode cX4_fitsAllHeard 63 = .ok (.baload, 1) := by decide +kernel
theorem dX4_fitsAllHeard_64 : decode cX4_fitsAllHeard 64 = .ok (.if_icmp .eq 5, 3) := by decide +kernel
theorem dX4_fitsAllHeard_67 : decode cX4_fitsAllHeard 67 = .ok (.iconst 0, 1) := by decide +kernel
theorem dX4_fitsAllHeard_68 : decode cX4_fitsAllHeard 68 = .ok (.ireturn, 1) := by decide +kernel
theorem dX4_fitsAllHeard_69 : decode cX4_fitsAllHeard 69 = .ok (.iinc 2 1, 3) := by decide +kernel
theorem dX4_fitsAllHeard_72 : decode cX4_fitsAllHeard 72 = .ok (.goto (-70), 3) := by decide +kernel
theorem dX4_fitsAllHeard_75 : decode cX4_fitsAllHeard 75 = .ok (.iconst 1, 1) := by decide +kernel
theorem dX4_fitsAllHeard_76 : decode cX4_fitsAllHeard 76 = .ok (.ireturn, 1) := by decide +kernel
theorem dX4_confessed_0 : decode cX4_confessed 0 = .ok (.iload_n 1, 1) := by decide +kernel
theorem dX4_confessed_1 : decode cX4_confessed 1 = .ok (.iconst 0, 1) := by decide +kernel
theorem dX4_confessed_2 : decode cX4_confessed 2 = .ok (.bipush 10, 2) := by decide +kernel
theorem dX4_confessed_4 : decode cX4_confessed 4 = .ok (.invokestatic 52, 3) := by decide +kernel
theorem dX4_confessed_7 : decode cX4_confessed 7 = .ok (.ifCond .eq 12, 3) := by decide +kernel
theorem dX4_confessed_10 : decode cX4_confessed 10 = .ok (.iload_n 2, 1) := by decide +kernel
theorem dX4_confessed_11 : decode cX4_confessed 11 = .ok (.iconst 0, 1) := by decide +kernel
theorem dX4_confessed_12 : decode cX4_confessed 12 = .ok (.iconst 1, 1) := by decide +kernel
theorem dX4_confessed_13 : decode cX4_confessed 13 = .ok (.invokestatic 52, 3) := by decide +kernel
theorem dX4_confessed_16 : decode cX4_confessed 16 = .ok (.ifCond .ne 6, 3) := by decide +kernel
theorem dX4_confessed_19 : decode cX4_confessed 19 = .ok (.bipush (-3), 2) := by decide +kernel
theorem dX4_confessed_21 : decode cX4_confessed 21 = .ok (.ireturn, 1) := by decide +kernel
theorem dX4_confessed_22 : decode cX4_confessed 22 = .ok (.aload_n 0, 1) := by decide +kernel
theorem dX4_confessed_23 : decode cX4_confessed 23 = .ok (.aload_n 0, 1) := by decide +kernel
theorem dX4_confessed_24 : decode cX4_confessed 24 = .ok (.getfield 26, 3) := by decide +kernel
theorem dX4_confessed_27 : decode cX4_confessed 27 = .ok (.getfield 123, 3) := by decide +kernel
theorem dX4_confessed_30 : decode cX4_confessed 30 = .ok (.invokevirtual 148, 3) := by decide +kernel
theorem dX4_confessed_33 : decode cX4_confessed 33 = .ok (.istore_n 3, 1) := by decide +kernel
theorem dX4_confessed_34 : decode cX4_confessed 34 = .ok (.iconst 0, 1) := by decide +kernel
theorem dX4_confessed_35 : decode cX4_confessed 35 = .ok (.istore 4, 2) := by decide +kernel
theorem dX4_confessed_37 : decode cX4_confessed 37 = .ok (.iconst 0, 1) := by decide +kernel
theorem dX4_confessed_38 : decode cX4_confessed 38 = .ok (.istore 5, 2) := by decide +kernel
theorem dX4_confessed_40 : decode cX4_confessed 40 = .ok (.iconst 0, 1) := by decide +kernel
theorem dX4_confessed_41 : decode cX4_confessed 41 = .ok (.istore 6, 2) := by decide +kernel
theorem dX4_confessed_43 : decode cX4_confessed 43 = .ok (.iload 6, 2) := by decide +kernel
theorem dX4_confessed_45 : decode cX4_confessed 45 = .ok (.iconst 1, 1) := by decide +kernel
theorem dX4_confessed_46 : decode cX4_confessed 46 = .ok (.aload_n 0, 1) := by decide +kernel
theorem dX4_confessed_47 : decode cX4_confessed 47 = .ok (.getfield 19, 3) := by decide +kernel
theorem dX4_confessed_50 : decode cX4_confessed 50 = .ok (.getfield 67, 3) := by decide +kernel
theorem dX4_confessed_53 : decode cX4_confessed 53 = .ok (.ishl, 1) := by decide +kernel
theorem dX4_confessed_54 : decode cX4_confessed 54 = .ok (.if_icmp .ge 46, 3) := by decide +kernel
theorem dX4_confessed_57 : decode cX4_confessed 57 = .ok (.aload_n 0, 1) := by decide +kernel
theorem dX4_confessed_58 : decode cX4_confessed 58 = .ok (.iload 6, 2) := by decide +kernel
theorem dX4_confessed_60 : decode cX4_confessed 60 = .ok (.iload_n 1, 1) := by decide +kernel
theorem dX4_confessed_61 : decode cX4_confessed 61 = .ok (.invokevirtual 244, 3) := by decide +kernel
theorem dX4_confessed_64 : decode cX4_confessed 64 = .ok (.istore 7, 2) := by decide +kernel
theorem dX4_confessed_66 : decode cX4_confessed 66 = .ok (.iload 5, 2) := by decide +kernel
theorem dX4_confessed_68 : decode cX4_confessed 68 = .ok (.iload 7, 2) := by decide +kernel
theorem dX4_confessed_70 : decode cX4_confessed 70 = .ok (.iadd, 1) := by decide +kernel
theorem dX4_confessed_71 : decode cX4_confessed 71 = .ok (.istore 5, 2) := by decide +kernel
theorem dX4_confessed_73 : decode cX4_confessed 73 = .ok (.aload_n 0, 1) := by decide +kernel
theorem dX4_confessed_74 : decode cX4_confessed 74 = .ok (.iload_n 3, 1) := by decide +kernel
theorem dX4_confessed_75 : decode cX4_confessed 75 = .ok (.aload_n 0, 1) := by decide +kernel
theorem dX4_confessed_76 : decode cX4_confessed 76 = .ok (.iload 6, 2) := by decide +kernel
theorem dX4_confessed_78 : decode cX4_confessed 78 = .ok (.invokevirtual 247, 3) := by decide +kernel
theorem dX4_confessed_81 : decode cX4_confessed 81 = .ok (.invokevirtual 178, 3) := by decide +kernel
theorem dX4_confessed_84 : decode cX4_confessed 84 = .ok (.ifCond .eq 10, 3) := by decide +kernel
theorem dX4_confessed_87 : decode cX4_confessed 87 = .ok (.iload 4, 2) := by decide +kernel
theorem dX4_confessed_89 : decode cX4_confessed 89 = .ok (.iload 7, 2) := by decide +kernel
theorem dX4_confessed_91 : decode cX4_confessed 91 = .ok (.iadd, 1) := by decide +kernel
theorem dX4_confessed_92 : decode cX4_confessed 92 = .ok (.istore 4, 2) := by decide +kernel
theorem dX4_confessed_94 : decode cX4_confessed 94 = .ok (.iinc 6 1, 3) := by decide +kernel
theorem dX4_confessed_97 : decode cX4_confessed 97 = .ok (.goto (-54), 3) := by decide +kernel
theorem dX4_confessed_100 : decode cX4_confessed 100 = .ok (.iload 4, 2) := by decide +kernel
theorem dX4_confessed_102 : decode cX4_confessed 102 = .ok (.iload 5, 2) := by decide +kernel
theorem dX4_confessed_104 : decode cX4_confessed 104 = .ok (.invokestatic 250, 3) := by decide +kernel
theorem dX4_confessed_107 : decode cX4_confessed 107 = .ok (.iconst 1, 1) := by decide +kernel
theorem dX4_confessed_108 : decode cX4_confessed 108 = .ok (.invokestatic 253, 3) := by decide +kernel
theorem dX4_confessed_111 : decode cX4_confessed 111 = .ok (.istore 6, 2) := by decide +kernel
theorem dX4_confessed_113 : decode cX4_confessed 113 = .ok (.iload_n 2, 1) := by decide +kernel
theorem dX4_confessed_114 : decode cX4_confessed 114 = .ok (.ifCond .ne 8, 3) := by decide +kernel
theorem dX4_confessed_117 : decode cX4_confessed 117 = .ok (.iload 4, 2) := by decide +kernel
theorem dX4_confessed_119 : decode cX4_confessed 119 = .ok (.goto 5, 3) := by decide +kernel
theorem dX4_confessed_122 : decode cX4_confessed 122 = .ok (.iload 5, 2) := by decide +kernel
theorem dX4_confessed_124 : decode cX4_confessed 124 = .ok (.iload 6, 2) := by decide +kernel
theorem dX4_confessed_126 : decode cX4_confessed 126 = .ok (.idiv, 1) := by decide +kernel
theorem dX4_confessed_127 : decode cX4_confessed 127 = .ok (.ireturn, 1) := by decide +kernel
theorem dX4_waysOfConfessing_0 : decode cX4_waysOfConfessing 0 = .ok (.iconst 1, 1) := by decide +kernel
theorem dX4_waysOfConfessing_1 : decode cX4_waysOfConfessing 1 = .ok (.istore_n 3, 1) := by decide +kernel
theorem dX4_waysOfConfessing_2 : decode cX4_waysOfConfessing 2 = .ok (.iconst 0, 1) := by decide +kernel
theorem dX4_waysOfConfessing_3 : decode cX4_waysOfConfessing 3 = .ok (.istore 4, 2) := by decide +kernel
theorem dX4_waysOfConfessing_5 : decode cX4_waysOfConfessing 5 = .ok (.iload 4, 2) := by decide +kernel
theorem dX4_waysOfConfessing_7 : decode cX4_waysOfConfessing 7 = .ok (.aload_n 0, 1) := by decide +kernel
theorem dX4_waysOfConfessing_8 : decode cX4_waysOfConfessing 8 = .ok (.getfield 19, 3) := by decide +kernel
theorem dX4_waysOfConfessing_11 : decode cX4_waysOfConfessing 11 = .ok (.getfield 67, 3) := by decide +kernel
theorem dX4_waysOfConfessing_14 : decode cX4_waysOfConfessing 14 = .ok (.if_icmp .ge 29, 3) := by decide +kernel
theorem dX4_waysOfConfessing_17 : decode cX4_waysOfConfessing 17 = .ok (.iload_n 3, 1) := by decide +kernel
theorem dX4_waysOfConfessing_18 : decode cX4_waysOfConfessing 18 = .ok (.iload 4, 2) := by decide +kernel
theorem dX4_waysOfConfessing_20 : decode cX4_waysOfConfessing 20 = .ok (.iload_n 1, 1) := by decide +kernel
theorem dX4_waysOfConfessing_21 : decode cX4_waysOfConfessing 21 = .ok (.invokestatic 126, 3) := by decide +kernel
theorem dX4_waysOfConfessing_24 : decode cX4_waysOfConfessing 24 = .ok (.ifCond .eq 7, 3) := by decide +kernel
theorem dX4_waysOfConfessing_27 : decode cX4_waysOfConfessing 27 = .ok (.iload_n 2, 1) := by decide +kernel
theorem dX4_waysOfConfessing_28 : decode cX4_waysOfConfessing 28 = .ok (.goto 7, 3) := by decide +kernel
theorem dX4_waysOfConfessing_31 : decode cX4_waysOfConfessing 31 = .ok (.bipush 10, 2) := by decide +kernel
theorem dX4_waysOfConfessing_33 : decode cX4_waysOfConfessing 33 = .ok (.iload_n 2, 1) := by decide +kernel
theorem dX4_waysOfConfessing_34 : decode cX4_waysOfConfessing 34 = .ok (.isub, 1) := by decide +kernel
theorem dX4_waysOfConfessing_35 : decode cX4_waysOfConfessing 35 = .ok (.imul, 1) := by decide +kernel
theorem dX4_waysOfConfessing_36 : decode cX4_waysOfConfessing 36 = .ok (.istore_n 3, 1) := by decide +kernel
theorem dX4_waysOfConfessing_37 : decode cX4_waysOfConfessing 37 = .ok (.iinc 4 1, 3) := by decide +kernel
theorem dX4_waysOfConfessing_40 : decode cX4_waysOfConfessing 40 = .ok (.goto (-35), 3) := by decide +kernel
theorem dX4_waysOfConfessing_43 : decode cX4_waysOfConfessing 43 = .ok (.iload_n 3, 1) := by decide +kernel
theorem dX4_waysOfConfessing_44 : decode cX4_waysOfConfessing 44 = .ok (.ireturn, 1) := by decide +kernel
theorem dX4_greatestDivisor_0 : decode cX4_greatestDivisor 0 = .ok (.iload_n 0, 1) := by decide +kernel
theorem dX4_greatestDivisor_1 : decode cX4_greatestDivisor 1 = .ok (.istore_n 2, 1) := by decide +kernel
theorem dX4_greatestDivisor_2 : decode cX4_greatestDivisor 2 = .ok (.iload_n 1, 1) := by decide +kernel
theorem dX4_greatestDivisor_3 : decode cX4_greatestDivisor 3 = .ok (.istore_n 3, 1) := by decide +kernel
theorem dX4_greatestDivisor_4 : decode cX4_greatestDivisor 4 = .ok (.iconst 0, 1) := by decide +kernel
theorem dX4_greatestDivisor_5 : decode cX4_greatestDivisor 5 = .ok (.istore 4, 2) := by decide +kernel
theorem dX4_greatestDivisor_7 : decode cX4_greatestDivisor 7 = .ok (.iload 4, 2) := by decide +kernel
theorem dX4_greatestDivisor_9 : decode cX4_greatestDivisor 9 = .ok (.bipush 64, 2) := by decide +kernel
theorem dX4_greatestDivisor_11 : decode cX4_greatestDivisor 11 = .ok (.if_icmp .ge 23, 3) := by decide +kernel
theorem dX4_greatestDivisor_14 : decode cX4_greatestDivisor 14 = .ok (.iload_n 3, 1) := by decide +kernel
theorem dX4_greatestDivisor_15 : decode cX4_greatestDivisor 15 = .ok (.ifCond .eq 19, 3) := by decide +kernel
theorem dX4_greatestDivisor_18 : decode cX4_greatestDivisor 18 = .ok (.iload_n 2, 1) := by decide +kernel
theorem dX4_greatestDivisor_19 : decode cX4_greatestDivisor 19 = .ok (.iload_n 3, 1) := by decide +kernel
theorem dX4_greatestDivisor_20 : decode cX4_greatestDivisor 20 = .ok (.irem, 1) := by decide +kernel
theorem dX4_greatestDivisor_21 : decode cX4_greatestDivisor 21 = .ok (.istore 5, 2) := by decide +kernel
theorem dX4_greatestDivisor_23 : decode cX4_greatestDivisor 23 = .ok (.iload_n 3, 1) := by decide +kernel
theorem dX4_greatestDivisor_24 : decode cX4_greatestDivisor 24 = .ok (.istore_n 2, 1) := by decide +kernel
theorem dX4_greatestDivisor_25 : decode cX4_greatestDivisor 25 = .ok (.iload 5, 2) := by decide +kernel
theorem dX4_greatestDivisor_27 : decode cX4_greatestDivisor 27 = .ok (.istore_n 3, 1) := by decide +kernel
theorem dX4_greatestDivisor_28 : decode cX4_greatestDivisor 28 = .ok (.iinc 4 1, 3) := by decide +kernel
theorem dX4_greatestDivisor_31 : decode cX4_greatestDivisor 31 = .ok (.goto (-24), 3) := by decide +kernel
theorem dX4_greatestDivisor_34 : decode cX4_greatestDivisor 34 = .ok (.iload_n 2, 1) := by decide +kernel
theorem dX4_greatestDivisor_35 : decode cX4_greatestDivisor 35 = .ok (.ireturn, 1) := by decide +kernel
theorem dX4_count_0 : decode cX4_count 0 = .ok (.iload_n 1, 1) := by decide +kernel
theorem dX4_count_1 : decode cX4_count 1 = .ok (.tableswitch 198 0 14 #[75, 83, 91, 99, 111, 116, 129, 137, 145, 153, 161, 169, 177, 185, 190], 75) := by decide +kernel
theorem dX4_count_76 : decode cX4_count 76 = .ok (.aload_n 0, 1) := by decide +kernel
theorem dX4_count_77 : decode cX4_count 77 = .ok (.getfield 19, 3) := by decide +kernel
theorem dX4_count_80 : decode cX4_count 80 = .ok (.getfield 64, 3) := by decide +kernel
theorem dX4_count_83 : decode cX4_count 83 = .ok (.ireturn, 1) := by decide +kernel
theorem dX4_count_84 : decode cX4_count 84 = .ok (.aload_n 0, 1) := by decide +kernel
theorem dX4_count_85 : decode cX4_count 85 = .ok (.getfield 19, 3) := by decide +kernel
theorem dX4_count_88 : decode cX4_count 88 = .ok (.getfield 67, 3) := by decide +kernel
theorem dX4_count_91 : decode cX4_count 91 = .ok (.ireturn, 1) := by decide +kernel
theorem dX4_count_92 : decode cX4_count 92 = .ok (.aload_n 0, 1) := by decide +kernel
theorem dX4_count_93 : decode cX4_count 93 = .ok (.getfield 26, 3) := by decide +kernel
theorem dX4_count_96 : decode cX4_count 96 = .ok (.getfield 164, 3) := by decide +kernel
theorem dX4_count_99 : decode cX4_count 99 = .ok (.ireturn, 1) := by decide +kernel
theorem dX4_count_100 : decode cX4_count 100 = .ok (.aload_n 0, 1) := by decide +kernel
theorem dX4_count_101 : decode cX4_count 101 = .ok (.aload_n 0, 1) := by decide +kernel
theorem dX4_count_102 : decode cX4_count 102 = .ok (.getfield 26, 3) := by decide +kernel
theorem dX4_count_105 : decode cX4_count 105 = .ok (.getfield 123, 3) := by decide +kernel
theorem dX4_count_108 : decode cX4_count 108 = .ok (.invokevirtual 148, 3) := by decide +kernel
theorem dX4_count_111 : decode cX4_count 111 = .ok (.ireturn, 1) := by decide +kernel
theorem dX4_count_112 : decode cX4_count 112 = .ok (.aload_n 0, 1) := by decide +kernel
theorem dX4_count_113 : decode cX4_count 113 = .ok (.invokevirtual 152, 3) := by decide +kernel
theorem dX4_count_116 : decode cX4_count 116 = .ok (.ireturn, 1) := by decide +kernel
theorem dX4_count_117 : decode cX4_count 117 = .ok (.aload_n 0, 1) := by decide +kernel
theorem dX4_count_118 : decode cX4_count 118 = .ok (.invokevirtual 139, 3) := by decide +kernel
theorem dX4_count_121 : decode cX4_count 121 = .ok (.ifCond .eq 7, 3) := by decide +kernel
theorem dX4_count_124 : decode cX4_count 124 = .ok (.iconst 1, 1) := by decide +kernel
theorem dX4_count_125 : decode cX4_count 125 = .ok (.goto 4, 3) := by decide +kernel
theorem dX4_count_128 : decode cX4_count 128 = .ok (.iconst 0, 1) := by decide +kernel
theorem dX4_count_129 : decode cX4_count 129 = .ok (.ireturn, 1) := by decide +kernel
theorem dX4_count_130 : decode cX4_count 130 = .ok (.aload_n 0, 1) := by decide +kernel
theorem dX4_count_131 : decode cX4_count 131 = .ok (.getfield 26, 3) := by decide +kernel
theorem dX4_count_134 : decode cX4_count 134 = .ok (.getfield 123, 3) := by decide +kernel
theorem dX4_count_137 : decode cX4_count 137 = .ok (.ireturn, 1) := by decide +kernel
theorem dX4_count_138 : decode cX4_count 138 = .ok (.aload_n 0, 1) := by decide +kernel
theorem dX4_count_139 : decode cX4_count 139 = .ok (.getfield 26, 3) := by decide +kernel
theorem dX4_count_142 : decode cX4_count 142 = .ok (.getfield 146, 3) := by decide +kernel
theorem dX4_count_145 : decode cX4_count 145 = .ok (.ireturn, 1) := by decide +kernel
theorem dX4_count_146 : decode cX4_count 146 = .ok (.aload_n 0, 1) := by decide +kernel
theorem dX4_count_147 : decode cX4_count 147 = .ok (.getfield 26, 3) := by decide +kernel
theorem dX4_count_150 : decode cX4_count 150 = .ok (.getfield 256, 3) := by decide +kernel
theorem dX4_count_153 : decode cX4_count 153 = .ok (.ireturn, 1) := by decide +kernel
theorem dX4_count_154 : decode cX4_count 154 = .ok (.aload_n 0, 1) := by decide +kernel
theorem dX4_count_155 : decode cX4_count 155 = .ok (.getfield 26, 3) := by decide +kernel
theorem dX4_count_158 : decode cX4_count 158 = .ok (.getfield 161, 3) := by decide +kernel
theorem dX4_count_161 : decode cX4_count 161 = .ok (.ireturn, 1) := by decide +kernel
theorem dX4_count_162 : decode cX4_count 162 = .ok (.aload_n 0, 1) := by decide +kernel
theorem dX4_count_163 : decode cX4_count 163 = .ok (.getfield 26, 3) := by decide +kernel
theorem dX4_count_166 : decode cX4_count 166 = .ok (.getfield 116, 3) := by decide +kernel
theorem dX4_count_169 : decode cX4_count 169 = .ok (.ireturn, 1) := by decide +kernel
theorem dX4_count_170 : decode cX4_count 170 = .ok (.aload_n 0, 1) := by decide +kernel
theorem dX4_count_171 : decode cX4_count 171 = .ok (.getfield 48, 3) := by decide +kernel
theorem dX4_count_174 : decode cX4_count 174 = .ok (.getfield 204, 3) := by decide +kernel
theorem dX4_count_177 : decode cX4_count 177 = .ok (.ireturn, 1) := by decide +kernel
theorem dX4_count_178 : decode cX4_count 178 = .ok (.aload_n 0, 1) := by decide +kernel
theorem dX4_count_179 : decode cX4_count 179 = .ok (.getfield 48, 3) := by decide +kernel
theorem dX4_count_182 : decode cX4_count 182 = .ok (.getfield 211, 3) := by decide +kernel
theorem dX4_count_185 : decode cX4_count 185 = .ok (.ireturn, 1) := by decide +kernel
theorem dX4_count_186 : decode cX4_count 186 = .ok (.aload_n 0, 1) := by decide +kernel
theorem dX4_count_187 : decode cX4_count 187 = .ok (.getfield 101, 3) := by decide +kernel
theorem dX4_count_190 : decode cX4_count 190 = .ok (.ireturn, 1) := by decide +kernel
theorem dX4_count_191 : decode cX4_count 191 = .ok (.aload_n 0, 1) := by decide +kernel
theorem dX4_count_192 : decode cX4_count 192 = .ok (.getfield 10, 3) := by decide +kernel
theorem dX4_count_195 : decode cX4_count 195 = .ok (.getfield 60, 3) := by decide +kernel
theorem dX4_count_198 : decode cX4_count 198 = .ok (.ireturn, 1) := by decide +kernel
theorem dX4_count_199 : decode cX4_count 199 = .ok (.bipush (-3), 2) := by decide +kernel
theorem dX4_count_201 : decode cX4_count 201 = .ok (.ireturn, 1) := by decide +kernel
theorem dX4_hangsLevelNow_0 : decode cX4_hangsLevelNow 0 = .ok (.aload_n 0, 1) := by decide +kernel
theorem dX4_hangsLevelNow_1 : decode cX4_hangsLevelNow 1 = .ok (.aload_n 0, 1) := by decide +kernel
theorem dX4_hangsLevelNow_2 : decode cX4_hangsLevelNow 2 = .ok (.aload_n 0, 1) := by decide +kernel
theorem dX4_hangsLevelNow_3 : decode cX4_hangsLevelNow 3 = .ok (.getfield 26, 3) := by decide +kernel
theorem dX4_hangsLevelNow_6 : decode cX4_hangsLevelNow 6 = .ok (.getfield 123, 3) := by decide +kernel
theorem dX4_hangsLevelNow_9 : decode cX4_hangsLevelNow 9 = .ok (.invokevirtual 148, 3) := by decide +kernel
theorem dX4_hangsLevelNow_12 : decode cX4_hangsLevelNow 12 = .ok (.aload_n 0, 1) := by decide +kernel
theorem dX4_hangsLevelNow_13 : decode cX4_hangsLevelNow 13 = .ok (.invokevirtual 152, 3) := by decide +kernel
theorem dX4_hangsLevelNow_16 : decode cX4_hangsLevelNow 16 = .ok (.invokevirtual 178, 3) := by decide +kernel
theorem dX4_hangsLevelNow_19 : decode cX4_hangsLevelNow 19 = .ok (.ireturn, 1) := by decide +kernel
theorem dX4_hangsLevel_0 : decode cX4_hangsLevel 0 = .ok (.iload_n 1, 1) := by decide +kernel
theorem dX4_hangsLevel_1 : decode cX4_hangsLevel 1 = .ok (.iload_n 2, 1) := by decide +kernel
theorem dX4_hangsLevel_2 : decode cX4_hangsLevel 2 = .ok (.isub, 1) := by decide +kernel
theorem dX4_hangsLevel_3 : decode cX4_hangsLevel 3 = .ok (.invokestatic 259, 3) := by decide +kernel
theorem dX4_hangsLevel_6 : decode cX4_hangsLevel 6 = .ok (.aload_n 0, 1) := by decide +kernel
theorem dX4_hangsLevel_7 : decode cX4_hangsLevel 7 = .ok (.getfield 19, 3) := by decide +kernel
theorem dX4_hangsLevel_10 : decode cX4_hangsLevel 10 = .ok (.getfield 262, 3) := by decide +kernel
theorem dX4_hangsLevel_13 : decode cX4_hangsLevel 13 = .ok (.if_icmp .gt 7, 3) := by decide +kernel
theorem dX4_hangsLevel_16 : decode cX4_hangsLevel 16 = .ok (.iconst 1, 1) := by decide +kernel
theorem dX4_hangsLevel_17 : decode cX4_hangsLevel 17 = .ok (.goto 4, 3) := by decide +kernel
theorem dX4_hangsLevel_20 : decode cX4_hangsLevel 20 = .ok (.iconst 0, 1) := by decide +kernel
theorem dX4_hangsLevel_21 : decode cX4_hangsLevel 21 = .ok (.ireturn, 1) := by decide +kernel
theorem dX4_sermonOf_0 : decode cX4_sermonOf 0 = .ok (.aload_n 0, 1) := by decide +kernel
theorem dX4_sermonOf_1 : decode cX4_sermonOf 1 = .ok (.getfield 19, 3) := by decide +kernel
theorem dX4_sermonOf_4 : decode cX4_sermonOf 4 = .ok (.iload_n 1, 1) := by decide +kernel
theorem dX4_sermonOf_5 : decode cX4_sermonOf 5 = .ok (.aload_n 0, 1) := by decide +kernel
theorem dX4_sermonOf_6 : decode cX4_sermonOf 6 = .ok (.getfield 26, 3) := by decide +kernel
theorem dX4_sermonOf_9 : decode cX4_sermonOf 9 = .ok (.getfield 116, 3) := by decide +kernel
theorem dX4_sermonOf_12 : decode cX4_sermonOf 12 = .ok (.invokevirtual 223, 3) := by decide +kernel
theorem dX4_sermonOf_15 : decode cX4_sermonOf 15 = .ok (.aload_n 0, 1) := by decide +kernel
theorem dX4_sermonOf_16 : decode cX4_sermonOf 16 = .ok (.getfield 19, 3) := by decide +kernel
theorem dX4_sermonOf_19 : decode cX4_sermonOf 19 = .ok (.getfield 265, 3) := by decide +kernel
theorem dX4_sermonOf_22 : decode cX4_sermonOf 22 = .ok (.iadd, 1) := by decide +kernel
theorem dX4_sermonOf_23 : decode cX4_sermonOf 23 = .ok (.ireturn, 1) := by decide +kernel
theorem dX4_leadNow_0 : decode cX4_leadNow 0 = .ok (.aload_n 0, 1) := by decide +kernel
theorem dX4_leadNow_1 : decode cX4_leadNow 1 = .ok (.iconst 0, 1) := by decide +kernel
theorem dX4_leadNow_2 : decode cX4_leadNow 2 = .ok (.invokevirtual 247, 3) := by decide +kernel
theorem dX4_leadNow_5 : decode cX4_leadNow 5 = .ok (.ireturn, 1) := by decide +kernel
theorem dX4_leadWithout_0 : decode cX4_leadWithout 0 = .ok (.aload_n 0, 1) := by decide +kernel
theorem dX4_leadWithout_1 : decode cX4_leadWithout 1 = .ok (.getfield 26, 3) := by decide +kernel
theorem dX4_leadWithout_4 : decode cX4_leadWithout 4 = .ok (.getfield 161, 3) := by decide +kernel
theorem dX4_leadWithout_7 : decode cX4_leadWithout 7 = .ok (.ineg, 1) := by decide +kernel
theorem dX4_leadWithout_8 : decode cX4_leadWithout 8 = .ok (.istore_n 2, 1) := by decide +kernel
theorem dX4_leadWithout_9 : decode cX4_leadWithout 9 = .ok (.iconst 0, 1) := by decide +kernel
theorem dX4_leadWithout_10 : decode cX4_leadWithout 10 = .ok (.istore_n 3, 1) := by decide +kernel
theorem dX4_leadWithout_11 : decode cX4_leadWithout 11 = .ok (.iload_n 3, 1) := by decide +kernel
theorem dX4_leadWithout_12 : decode cX4_leadWithout 12 = .ok (.aload_n 0, 1) := by decide +kernel
theorem dX4_leadWithout_13 : decode cX4_leadWithout 13 = .ok (.getfield 19, 3) := by decide +kernel
theorem dX4_leadWithout_16 : decode cX4_leadWithout 16 = .ok (.getfield 67, 3) := by decide +kernel
theorem dX4_leadWithout_19 : decode cX4_leadWithout 19 = .ok (.if_icmp .ge 29, 3) := by decide +kernel
theorem dX4_leadWithout_22 : decode cX4_leadWithout 22 = .ok (.iload_n 3, 1) := by decide +kernel
theorem dX4_leadWithout_23 : decode cX4_leadWithout 23 = .ok (.iload_n 1, 1) := by decide +kernel
theorem dX4_leadWithout_24 : decode cX4_leadWithout 24 = .ok (.invokestatic 126, 3) := by decide +kernel
theorem dX4_leadWithout_27 : decode cX4_leadWithout 27 = .ok (.ifCond .ne 15, 3) := by decide +kernel
theorem dX4_leadWithout_30 : decode cX4_leadWithout 30 = .ok (.iload_n 2, 1) := by decide +kernel
theorem dX4_leadWithout_31 : decode cX4_leadWithout 31 = .ok (.aload_n 0, 1) := by decide +kernel
theorem dX4_leadWithout_32 : decode cX4_leadWithout 32 = .ok (.getfield 26, 3) := by decide +kernel
theorem dX4_leadWithout_35 : decode cX4_leadWithout 35 = .ok (.getfield 133, 3) := by decide +kernel
theorem dX4_leadWithout_38 : decode cX4_leadWithout 38 = .ok (.iload_n 3, 1) := by decide +kernel
theorem dX4_leadWithout_39 : decode cX4_leadWithout 39 = .ok (.iaload, 1) := by decide +kernel
theorem dX4_leadWithout_40 : decode cX4_leadWithout 40 = .ok (.iadd, 1) := by decide +kernel
theorem dX4_leadWithout_41 : decode cX4_leadWithout 41 = .ok (.istore_n 2, 1) := by decide +kernel
theorem dX4_leadWithout_42 : decode cX4_leadWithout 42 = .ok (.iinc 3 1, 3) := by decide +kernel
theorem dX4_leadWithout_45 : decode cX4_leadWithout 45 = .ok (.goto (-34), 3) := by decide +kernel
theorem dX4_leadWithout_48 : decode cX4_leadWithout 48 = .ok (.iload_n 2, 1) := by decide +kernel
theorem dX4_leadWithout_49 : decode cX4_leadWithout 49 = .ok (.iconst 0, 1) := by decide +kernel
theorem dX4_leadWithout_50 : decode cX4_leadWithout 50 = .ok (.invokestatic 253, 3) := by decide +kernel
theorem dX4_leadWithout_53 : decode cX4_leadWithout 53 = .ok (.ireturn, 1) := by decide +kernel
theorem dX4_ouncesOf_0 : decode cX4_ouncesOf 0 = .ok (.iload_n 0, 1) := by decide +kernel
theorem dX4_ouncesOf_1 : decode cX4_ouncesOf 1 = .ok (.tableswitch 37 1 3 #[27, 31, 35], 27) := by decide +kernel
theorem dX4_ouncesOf_28 : decode cX4_ouncesOf 28 = .ok (.iload_n 1, 1) := by decide +kernel
theorem dX4_ouncesOf_29 : decode cX4_ouncesOf 29 = .ok (.iload_n 2, 1) := by decide +kernel
theorem dX4_ouncesOf_30 : decode cX4_ouncesOf 30 = .ok (.iadd, 1) := by decide +kernel
theorem dX4_ouncesOf_31 : decode cX4_ouncesOf 31 = .ok (.ireturn, 1) := by decide +kernel
theorem dX4_ouncesOf_32 : decode cX4_ouncesOf 32 = .ok (.iload_n 1, 1) := by decide +kernel
theorem dX4_ouncesOf_33 : decode cX4_ouncesOf 33 = .ok (.iconst 2, 1) := by decide +kernel
theorem dX4_ouncesOf_34 : decode cX4_ouncesOf 34 = .ok (.idiv, 1) := by decide +kernel
theorem dX4_ouncesOf_35 : decode cX4_ouncesOf 35 = .ok (.ireturn, 1) := by decide +kernel
theorem dX4_ouncesOf_36 : decode cX4_ouncesOf 36 = .ok (.iconst 0, 1) := by decide +kernel
theorem dX4_ouncesOf_37 : decode cX4_ouncesOf 37 = .ok (.ireturn, 1) := by decide +kernel
theorem dX4_ouncesOf_38 : decode cX4_ouncesOf 38 = .ok (.iload_n 1, 1) := by decide +kernel
theorem dX4_ouncesOf_39 : decode cX4_ouncesOf 39 = .ok (.ireturn, 1) := by decide +kernel
theorem dX4_isPart_0 : decode cX4_isPart 0 = .ok (.iload_n 1, 1) := by decide +kernel
theorem dX4_isPart_1 : decode cX4_isPart 1 = .ok (.ifCond .lt 18, 3) := by decide +kernel
theorem dX4_isPart_4 : decode cX4_isPart 4 = .ok (.iload_n 1, 1) := by decide +kernel
theorem dX4_isPart_5 : decode cX4_isPart 5 = .ok (.aload_n 0, 1) := by decide +kernel
theorem dX4_isPart_6 : decode cX4_isPart 6 = .ok (.getfield 19, 3) := by decide +kernel
theorem dX4_isPart_9 : decode cX4_isPart 9 = .ok (.getfield 64, 3) := by decide +kernel
theorem dX4_isPart_12 : decode cX4_isPart 12 = .ok (.if_icmp .ge 7, 3) := by decide +kernel
theorem dX4_isPart_15 : decode cX4_isPart 15 = .ok (.iconst 1, 1) := by decide +kernel
theorem dX4_isPart_16 : decode cX4_isPart 16 = .ok (.goto 4, 3) := by decide +kernel
theorem dX4_isPart_19 : decode cX4_isPart 19 = .ok (.iconst 0, 1) := by decide +kernel
theorem dX4_isPart_20 : decode cX4_isPart 20 = .ok (.ireturn, 1) := by decide +kernel
theorem dX4_isSoul_0 : decode cX4_isSoul 0 = .ok (.iload_n 1, 1) := by decide +kernel
theorem dX4_isSoul_1 : decode cX4_isSoul 1 = .ok (.ifCond .lt 18, 3) := by decide +kernel
theorem dX4_isSoul_4 : decode cX4_isSoul 4 = .ok (.iload_n 1, 1) := by decide +kernel
theorem dX4_isSoul_5 : decode cX4_isSoul 5 = .ok (.aload_n 0, 1) := by decide +kernel
theorem dX4_isSoul_6 : decode cX4_isSoul 6 = .ok (.getfield 19, 3) := by decide +kernel
theorem dX4_isSoul_9 : decode cX4_isSoul 9 = .ok (.getfield 67, 3) := by decide +kernel
theorem dX4_isSoul_12 : decode cX4_isSoul 12 = .ok (.if_icmp .ge 7, 3) := by decide +kernel
theorem dX4_isSoul_15 : decode cX4_isSoul 15 = .ok (.iconst 1, 1) := by decide +kernel
theorem dX4_isSoul_16 : decode cX4_isSoul 16 = .ok (.goto 4, 3) := by decide +kernel
theorem dX4_isSoul_19 : decode cX4_isSoul 19 = .ok (.iconst 0, 1) := by decide +kernel
theorem dX4_isSoul_20 : decode cX4_isSoul 20 = .ok (.ireturn, 1) := by decide +kernel
theorem dX4_isSet_0 : decode cX4_isSet 0 = .ok (.iload_n 1, 1) := by decide +kernel
theorem dX4_isSet_1 : decode cX4_isSet 1 = .ok (.ifCond .lt 20, 3) := by decide +kernel
theorem dX4_isSet_4 : decode cX4_isSet 4 = .ok (.iload_n 1, 1) := by decide +kernel
theorem dX4_isSet_5 : decode cX4_isSet 5 = .ok (.iconst 1, 1) := by decide +kernel
theorem dX4_isSet_6 : decode cX4_isSet 6 = .ok (.aload_n 0, 1) := by decide +kernel
theorem dX4_isSet_7 : decode cX4_isSet 7 = .ok (.getfield 19, 3) := by decide +kernel
theorem dX4_isSet_10 : decode cX4_isSet 10 = .ok (.getfield 64, 3) := by decide +kernel
theorem dX4_isSet_13 : decode cX4_isSet 13 = .ok (.ishl, 1) := by decide +kernel
theorem dX4_isSet_14 : decode cX4_isSet 14 = .ok (.if_icmp .ge 7, 3) := by decide +kernel
theorem dX4_isSet_17 : decode cX4_isSet 17 = .ok (.iconst 1, 1) := by decide +kernel
theorem dX4_isSet_18 : decode cX4_isSet 18 = .ok (.goto 4, 3) := by decide +kernel
theorem dX4_isSet_21 : decode cX4_isSet 21 = .ok (.iconst 0, 1) := by decide +kernel
theorem dX4_isSet_22 : decode cX4_isSet 22 = .ok (.ireturn, 1) := by decide +kernel
theorem dX4_isIn_0 : decode cX4_isIn 0 = .ok (.iload_n 1, 1) := by decide +kernel
theorem dX4_isIn_1 : decode cX4_isIn 1 = .ok (.iload_n 0, 1) := by decide +kernel
theorem dX4_isIn_2 : decode cX4_isIn 2 = .ok (.ishr, 1) := by decide +kernel
theorem dX4_isIn_3 : decode cX4_isIn 3 = .ok (.iconst 1, 1) := by decide +kernel
theorem dX4_isIn_4 : decode cX4_isIn 4 = .ok (.iand, 1) := by decide +kernel
theorem dX4_isIn_5 : decode cX4_isIn 5 = .ok (.iconst 1, 1) := by decide +kernel
theorem dX4_isIn_6 : decode cX4_isIn 6 = .ok (.if_icmp .ne 7, 3) := by decide +kernel
theorem dX4_isIn_9 : decode cX4_isIn 9 = .ok (.iconst 1, 1) := by decide +kernel
theorem dX4_isIn_10 : decode cX4_isIn 10 = .ok (.goto 4, 3) := by decide +kernel
theorem dX4_isIn_13 : decode cX4_isIn 13 = .ok (.iconst 0, 1) := by decide +kernel
theorem dX4_isIn_14 : decode cX4_isIn 14 = .ok (.ireturn, 1) := by decide +kernel
theorem dX4_isWithin_0 : decode cX4_isWithin 0 = .ok (.iload_n 0, 1) := by decide +kernel
theorem dX4_isWithin_1 : decode cX4_isWithin 1 = .ok (.iload_n 1, 1) := by decide +kernel
theorem dX4_isWithin_2 : decode cX4_isWithin 2 = .ok (.if_icmp .lt 12, 3) := by decide +kernel
theorem dX4_isWithin_5 : decode cX4_isWithin 5 = .ok (.iload_n 0, 1) := by decide +kernel
theorem dX4_isWithin_6 : decode cX4_isWithin 6 = .ok (.iload_n 2, 1) := by decide +kernel
theorem dX4_isWithin_7 : decode cX4_isWithin 7 = .ok (.if_icmp .gt 7, 3) := by decide +kernel
theorem dX4_isWithin_10 : decode cX4_isWithin 10 = .ok (.iconst 1, 1) := by decide +kernel
theorem dX4_isWithin_11 : decode cX4_isWithin 11 = .ok (.goto 4, 3) := by decide +kernel
theorem dX4_isWithin_14 : decode cX4_isWithin 14 = .ok (.iconst 0, 1) := by decide +kernel
theorem dX4_isWithin_15 : decode cX4_isWithin 15 = .ok (.ireturn, 1) := by decide +kernel
theorem dX5_init_0 : decode cX5_init 0 = .ok (.aload_n 0, 1) := by decide +kernel
theorem dX5_init_1 : decode cX5_init 1 = .ok (.invokespecial 1, 3) := by decide +kernel
theorem dX5_init_4 : decode cX5_init 4 = .ok (.aload_n 0, 1) := by decide +kernel
theorem dX5_init_5 : decode cX5_init 5 = .ok (.sipush 160, 3) := by decide +kernel
theorem dX5_init_8 : decode cX5_init 8 = .ok (.newarray .int, 2) := by decide +kernel
theorem dX5_init_10 : decode cX5_init 10 = .ok (.putfield 7, 3) := by decide +kernel
theorem dX5_init_13 : decode cX5_init 13 = .ok (.aload_n 0, 1) := by decide +kernel
theorem dX5_init_14 : decode cX5_init 14 = .ok (.bipush 35, 2) := by decide +kernel
theorem dX5_init_16 : decode cX5_init 16 = .ok (.newarray .int, 2) := by decide +kernel
theorem dX5_init_18 : decode cX5_init 18 = .ok (.putfield 13, 3) := by decide +kernel
theorem dX5_init_21 : decode cX5_init 21 = .ok (.aload_n 0, 1) := by decide +kernel
theorem dX5_init_22 : decode cX5_init 22 = .ok (.bipush 35, 2) := by decide +kernel
theorem dX5_init_24 : decode cX5_init 24 = .ok (.newarray .int, 2) := by decide +kernel
theorem dX5_init_26 : decode cX5_init 26 = .ok (.putfield 16, 3) := by decide +kernel
theorem dX5_init_29 : decode cX5_init 29 = .ok (.aload_n 0, 1) := by decide +kernel
theorem dX5_init_30 : decode cX5_init 30 = .ok (.bipush 12, 2) := by decide +kernel
theorem dX5_init_32 : decode cX5_init 32 = .ok (.newarray .int, 2) := by decide +kernel
theorem dX5_init_34 : decode cX5_init 34 = .ok (.putfield 19, 3) := by decide +kernel
theorem dX5_init_37 : decode cX5_init 37 = .ok (.aload_n 0, 1) := by decide +kernel
theorem dX5_init_38 : decode cX5_init 38 = .ok (.bipush 96, 2) := by decide +kernel
theorem dX5_init_40 : decode cX5_init 40 = .ok (.newarray .int, 2) := by decide +kernel
theorem dX5_init_42 : decode cX5_init 42 = .ok (.putfield 22, 3) := by decide +kernel
theorem dX5_init_45 : decode cX5_init 45 = .ok (.aload_n 0, 1) := by decide +kernel
theorem dX5_init_46 : decode cX5_init 46 = .ok (.bipush 24, 2) := by decide +kernel
theorem dX5_init_48 : decode cX5_init 48 = .ok (.newarray .int, 2) := by decide +kernel
theorem dX5_init_50 : decode cX5_init 50 = .ok (.putfield 25, 3) := by decide +kernel
theorem dX5_init_53 : decode cX5_init 53 = .ok (.aload_n 0, 1) := by decide +kernel
theorem dX5_init_54 : decode cX5_init 54 = .ok (.iconst 2, 1) := by decide +kernel
theorem dX5_init_55 : decode cX5_init 55 = .ok (.newarray .boolean, 2) := by decide +kernel
theorem dX5_init_57 : decode cX5_init 57 = .ok (.putfield 28, 3) := by decide +kernel
theorem dX5_init_60 : decode cX5_init 60 = .ok (.aload_n 0, 1) := by decide +kernel
theorem dX5_init_61 : decode cX5_init 61 = .ok (.bipush 18, 2) := by decide +kernel
theorem dX5_init_63 : decode cX5_init 63 = .ok (.newarray .int, 2) := by decide +kernel
theorem dX5_init_65 : decode cX5_init 65 = .ok (.putfield 32, 3) := by decide +kernel
theorem dX5_init_68 : decode cX5_init 68 = .ok (.aload_n 0, 1) := by decide +kernel
theorem dX5_init_69 : decode cX5_init 69 = .ok (.bipush 18, 2) := by decide +kernel
theorem dX5_init_71 : decode cX5_init 71 = .ok (.newarray .int, 2) := by decide +kernel
theorem dX5_init_73 : decode cX5_init 73 = .ok (.putfield 35, 3) := by decide +kernel
theorem dX5_init_76 : decode cX5_init 76 = .ok (.aload_n 0, 1) := by decide +kernel
theorem dX5_init_77 : decode cX5_init 77 = .ok (.invokevirtual 38, 3) := by decide +kernel
theorem dX5_init_80 : decode cX5_init 80 = .ok (.iconst 0, 1) := by decide +kernel
theorem dX5_init_81 : decode cX5_init 81 = .ok (.istore_n 1, 1) := by decide +kernel
theorem dX5_init_82 : decode cX5_init 82 = .ok (.iload_n 1, 1) := by decide +kernel
theorem dX5_init_83 : decode cX5_init 83 = .ok (.bipush 35, 2) := by decide +kernel
theorem dX5_init_85 : decode cX5_init 85 = .ok (.if_icmp .ge 21, 3) := by decide +kernel
theorem dX5_init_88 : decode cX5_init 88 = .ok (.aload_n 0, 1) := by decide +kernel
theorem dX5_init_89 : decode cX5_init 89 = .ok (.getfield 13, 3) := by decide +kernel
theorem dX5_init_92 : decode cX5_init 92 = .ok (.iload_n 1, 1) := by decide +kernel
theorem dX5_init_93 : decode cX5_init 93 = .ok (.aload_n 0, 1) := by decide +kernel
theorem dX5_init_94 : decode cX5_init 94 = .ok (.getfield 16, 3) := by decide +kernel
theorem dX5_init_97 : decode cX5_init 97 = .ok (.iload_n 1, 1) := by decide +kernel
theorem dX5_init_98 : decode cX5_init 98 = .ok (.iaload, 1) := by decide +kernel
theorem dX5_init_99 : decode cX5_init 99 = .ok (.iastore, 1) := by decide +kernel
theorem dX5_init_100 : decode cX5_init 100 = .ok (.iinc 1 1, 3) := by decide +kernel
theorem dX5_init_103 : decode cX5_init 103 = .ok (.goto (-21), 3) := by decide +kernel
theorem dX5_init_106 : decode cX5_init 106 = .ok (.aload_n 0, 1) := by decide +kernel
theorem dX5_init_107 : decode cX5_init 107 = .ok (.invokevirtual 41, 3) := by decide +kernel
theorem dX5_init_110 : decode cX5_init 110 = .ok (.return_, 1) := by decide +kernel
theorem dX5_in_0 : decode cX5_in 0 = .ok (.iload_n 0, 1) := by decide +kernel
theorem dX5_in_1 : decode cX5_in 1 = .ok (.iload_n 1, 1) := by decide +kernel
theorem dX5_in_2 : decode cX5_in 2 = .ok (.if_icmp .lt 12, 3) := by decide +kernel
theorem dX5_in_5 : decode cX5_in 5 = .ok (.iload_n 0, 1) := by decide +kernel
theorem dX5_in_6 : decode cX5_in 6 = .ok (.iload_n 2, 1) := by decide +kernel
theorem dX5_in_7 : decode cX5_in 7 = .ok (.if_icmp .gt 7, 3) := by decide +kernel
theorem dX5_in_10 : decode cX5_in 10 = .ok (.iconst 1, 1) := by decide +kernel
theorem dX5_in_11 : decode cX5_in 11 = .ok (.goto 4, 3) := by decide +kernel
theorem dX5_in_14 : decode cX5_in 14 = .ok (.iconst 0, 1) := by decide +kernel
theorem dX5_in_15 : decode cX5_in 15 = .ok (.ireturn, 1) := by decide +kernel

theorem d_Dm_init_0 : decode b_Dm_init 0 = .ok (.aload_n 0, 1) := by decide +kernel
theorem d_Dm_init_1 : decode b_Dm_init 1 = .ok (.invokespecial 3, 3) := by decide +kernel
theorem d_Dm_init_4 : decode b_Dm_init 4 = .ok (.aload_n 0, 1) := by decide +kernel
theorem d_Dm_init_5 : decode b_Dm_init 5 = .ok (.new 9, 3) := by decide +kernel
theorem d_Dm_init_8 : decode b_Dm_init 8 = .ok (.dup, 1) := by decide +kernel
theorem d_Dm_init_9 : decode b_Dm_init 9 = .ok (.invokespecial 11, 3) := by decide +kernel
theorem d_Dm_init_12 : decode b_Dm_init 12 = .ok (.putfield 12, 3) := by decide +kernel
theorem d_Dm_init_15 : decode b_Dm_init 15 = .ok (.aload_n 0, 1) := by decide +kernel
theorem d_Dm_init_16 : decode b_Dm_init 16 = .ok (.new 16, 3) := by decide +kernel
theorem d_Dm_init_19 : decode b_Dm_init 19 = .ok (.dup, 1) := by decide +kernel
theorem d_Dm_init_20 : decode b_Dm_init 20 = .ok (.invokespecial 18, 3) := by decide +kernel
theorem d_Dm_init_23 : decode b_Dm_init 23 = .ok (.putfield 19, 3) := by decide +kernel
theorem d_Dm_init_26 : decode b_Dm_init 26 = .ok (.aload_n 0, 1) := by decide +kernel
theorem d_Dm_init_27 : decode b_Dm_init 27 = .ok (.new 23, 3) := by decide +kernel
theorem d_Dm_init_30 : decode b_Dm_init 30 = .ok (.dup, 1) := by decide +kernel
theorem d_Dm_init_31 : decode b_Dm_init 31 = .ok (.invokespecial 25, 3) := by decide +kernel
theorem d_Dm_init_34 : decode b_Dm_init 34 = .ok (.putfield 26, 3) := by decide +kernel
theorem d_Dm_init_37 : decode b_Dm_init 37 = .ok (.aload_n 0, 1) := by decide +kernel
theorem d_Dm_init_38 : decode b_Dm_init 38 = .ok (.new 30, 3) := by decide +kernel
theorem d_Dm_init_41 : decode b_Dm_init 41 = .ok (.dup, 1) := by decide +kernel
theorem d_Dm_init_42 : decode b_Dm_init 42 = .ok (.aload_n 0, 1) := by decide +kernel
theorem d_Dm_init_43 : decode b_Dm_init 43 = .ok (.getfield 12, 3) := by decide +kernel
theorem d_Dm_init_46 : decode b_Dm_init 46 = .ok (.aload_n 0, 1) := by decide +kernel
theorem d_Dm_init_47 : decode b_Dm_init 47 = .ok (.getfield 19, 3) := by decide +kernel
theorem d_Dm_init_50 : decode b_Dm_init 50 = .ok (.aload_n 0, 1) := by decide +kernel
theorem d_Dm_init_51 : decode b_Dm_init 51 = .ok (.getfield 26, 3) := by decide +kernel
theorem d_Dm_init_54 : decode b_Dm_init 54 = .ok (.invokespecial 32, 3) := by decide +kernel
theorem d_Dm_init_57 : decode b_Dm_init 57 = .ok (.putfield 35, 3) := by decide +kernel
theorem d_Dm_init_60 : decode b_Dm_init 60 = .ok (.aload_n 0, 1) := by decide +kernel
theorem d_Dm_init_61 : decode b_Dm_init 61 = .ok (.new 39, 3) := by decide +kernel
theorem d_Dm_init_64 : decode b_Dm_init 64 = .ok (.dup, 1) := by decide +kernel
theorem d_Dm_init_65 : decode b_Dm_init 65 = .ok (.invokespecial 41, 3) := by decide +kernel
theorem d_Dm_init_68 : decode b_Dm_init 68 = .ok (.putfield 42, 3) := by decide +kernel
theorem d_Dm_init_71 : decode b_Dm_init 71 = .ok (.aload_n 0, 1) := by decide +kernel
theorem d_Dm_init_72 : decode b_Dm_init 72 = .ok (.new 46, 3) := by decide +kernel
theorem d_Dm_init_75 : decode b_Dm_init 75 = .ok (.dup, 1) := by decide +kernel
theorem d_Dm_init_76 : decode b_Dm_init 76 = .ok (.invokespecial 48, 3) := by decide +kernel
theorem d_Dm_init_79 : decode b_Dm_init 79 = .ok (.putfield 49, 3) := by decide +kernel
theorem d_Dm_init_82 : decode b_Dm_init 82 = .ok (.aload_n 0, 1) := by decide +kernel
theorem d_Dm_init_83 : decode b_Dm_init 83 = .ok (.new 46, 3) := by decide +kernel
theorem d_Dm_init_86 : decode b_Dm_init 86 = .ok (.dup, 1) := by decide +kernel
theorem d_Dm_init_87 : decode b_Dm_init 87 = .ok (.invokespecial 48, 3) := by decide +kernel
theorem d_Dm_init_90 : decode b_Dm_init 90 = .ok (.putfield 53, 3) := by decide +kernel
theorem d_Dm_init_93 : decode b_Dm_init 93 = .ok (.return_, 1) := by decide +kernel
theorem d_Dm_order_0 : decode b_Dm_order 0 = .ok (.iload_n 1, 1) := by decide +kernel
theorem d_Dm_order_1 : decode b_Dm_order 1 = .ok (.iload_n 2, 1) := by decide +kernel
theorem d_Dm_order_2 : decode b_Dm_order 2 = .ok (.invokestatic 56, 3) := by decide +kernel
theorem d_Dm_order_5 : decode b_Dm_order 5 = .ok (.istore 4, 2) := by decide +kernel
theorem d_Dm_order_7 : decode b_Dm_order 7 = .ok (.iload 4, 2) := by decide +kernel
theorem d_Dm_order_9 : decode b_Dm_order 9 = .ok (.ifCond .lt 13, 3) := by decide +kernel
theorem d_Dm_order_12 : decode b_Dm_order 12 = .ok (.iload_n 3, 1) := by decide +kernel
theorem d_Dm_order_13 : decode b_Dm_order 13 = .ok (.ifCond .lt 9, 3) := by decide +kernel
theorem d_Dm_order_16 : decode b_Dm_order 16 = .ok (.iload_n 3, 1) := by decide +kernel
theorem d_Dm_order_17 : decode b_Dm_order 17 = .ok (.ldc 60, 2) := by decide +kernel
theorem d_Dm_order_19 : decode b_Dm_order 19 = .ok (.if_icmp .le 5, 3) := by decide +kernel
theorem d_Dm_order_22 : decode b_Dm_order 22 = .ok (.iconst 0, 1) := by decide +kernel
theorem d_Dm_order_23 : decode b_Dm_order 23 = .ok (.ireturn, 1) := by decide +kernel
theorem d_Dm_order_24 : decode b_Dm_order 24 = .ok (.aload_n 0, 1) := by decide +kernel
theorem d_Dm_order_25 : decode b_Dm_order 25 = .ok (.getfield 12, 3) := by decide +kernel
theorem d_Dm_order_28 : decode b_Dm_order 28 = .ok (.getfield 61, 3) := by decide +kernel
theorem d_Dm_order_31 : decode b_Dm_order 31 = .ok (.iload 4, 2) := by decide +kernel
theorem d_Dm_order_33 : decode b_Dm_order 33 = .ok (.iload_n 3, 1) := by decide +kernel
theorem d_Dm_order_34 : decode b_Dm_order 34 = .ok (.iastore, 1) := by decide +kernel
theorem d_Dm_order_35 : decode b_Dm_order 35 = .ok (.iconst 1, 1) := by decide +kernel
theorem d_Dm_order_36 : decode b_Dm_order 36 = .ok (.ireturn, 1) := by decide +kernel
theorem d_Dm_word_0 : decode b_Dm_word 0 = .ok (.iload_n 1, 1) := by decide +kernel
theorem d_Dm_word_1 : decode b_Dm_word 1 = .ok (.iload_n 2, 1) := by decide +kernel
theorem d_Dm_word_2 : decode b_Dm_word 2 = .ok (.invokestatic 65, 3) := by decide +kernel
theorem d_Dm_word_5 : decode b_Dm_word 5 = .ok (.istore 4, 2) := by decide +kernel
theorem d_Dm_word_7 : decode b_Dm_word 7 = .ok (.iload 4, 2) := by decide +kernel
theorem d_Dm_word_9 : decode b_Dm_word 9 = .ok (.ifCond .ge 5, 3) := by decide +kernel
theorem d_Dm_word_12 : decode b_Dm_word 12 = .ok (.iconst 0, 1) := by decide +kernel
theorem d_Dm_word_13 : decode b_Dm_word 13 = .ok (.ireturn, 1) := by decide +kernel
theorem d_Dm_word_14 : decode b_Dm_word 14 = .ok (.aload_n 0, 1) := by decide +kernel
theorem d_Dm_word_15 : decode b_Dm_word 15 = .ok (.getfield 12, 3) := by decide +kernel
theorem d_Dm_word_18 : decode b_Dm_word 18 = .ok (.getfield 68, 3) := by decide +kernel
theorem d_Dm_word_21 : decode b_Dm_word 21 = .ok (.iload 4, 2) := by decide +kernel
theorem d_Dm_word_23 : decode b_Dm_word 23 = .ok (.iload_n 3, 1) := by decide +kernel
theorem d_Dm_word_24 : decode b_Dm_word 24 = .ok (.sastore, 1) := by decide +kernel
theorem d_Dm_word_25 : decode b_Dm_word 25 = .ok (.iconst 1, 1) := by decide +kernel
theorem d_Dm_word_26 : decode b_Dm_word 26 = .ok (.ireturn, 1) := by decide +kernel
theorem d_Dm_card_0 : decode b_Dm_card 0 = .ok (.aload_n 0, 1) := by decide +kernel
theorem d_Dm_card_1 : decode b_Dm_card 1 = .ok (.getfield 19, 3) := by decide +kernel
theorem d_Dm_card_4 : decode b_Dm_card 4 = .ok (.iload_n 1, 1) := by decide +kernel
theorem d_Dm_card_5 : decode b_Dm_card 5 = .ok (.invokevirtual 72, 3) := by decide +kernel
theorem d_Dm_card_8 : decode b_Dm_card 8 = .ok (.ireturn, 1) := by decide +kernel
theorem d_Dm_start_0 : decode b_Dm_start 0 = .ok (.iload_n 1, 1) := by decide +kernel
theorem d_Dm_start_1 : decode b_Dm_start 1 = .ok (.iload_n 2, 1) := by decide +kernel
theorem d_Dm_start_2 : decode b_Dm_start 2 = .ok (.invokestatic 56, 3) := by decide +kernel
theorem d_Dm_start_5 : decode b_Dm_start 5 = .ok (.ifCond .ge 5, 3) := by decide +kernel
theorem d_Dm_start_8 : decode b_Dm_start 8 = .ok (.iconst 0, 1) := by decide +kernel
theorem d_Dm_start_9 : decode b_Dm_start 9 = .ok (.ireturn, 1) := by decide +kernel
theorem d_Dm_start_10 : decode b_Dm_start 10 = .ok (.aload_n 0, 1) := by decide +kernel
theorem d_Dm_start_11 : decode b_Dm_start 11 = .ok (.getfield 35, 3) := by decide +kernel
theorem d_Dm_start_14 : decode b_Dm_start 14 = .ok (.iload_n 1, 1) := by decide +kernel
theorem d_Dm_start_15 : decode b_Dm_start 15 = .ok (.iload_n 2, 1) := by decide +kernel
theorem d_Dm_start_16 : decode b_Dm_start 16 = .ok (.invokevirtual 76, 3) := by decide +kernel
theorem d_Dm_start_19 : decode b_Dm_start 19 = .ok (.iconst 1, 1) := by decide +kernel
theorem d_Dm_start_20 : decode b_Dm_start 20 = .ok (.ireturn, 1) := by decide +kernel
theorem d_Dm_run_0 : decode b_Dm_run 0 = .ok (.iload_n 1, 1) := by decide +kernel
theorem d_Dm_run_1 : decode b_Dm_run 1 = .ok (.ifCond .lt 10, 3) := by decide +kernel
theorem d_Dm_run_4 : decode b_Dm_run 4 = .ok (.iload_n 1, 1) := by decide +kernel
theorem d_Dm_run_5 : decode b_Dm_run 5 = .ok (.sipush 2000, 3) := by decide +kernel
theorem d_Dm_run_8 : decode b_Dm_run 8 = .ok (.if_icmp .le 5, 3) := by decide +kernel
theorem d_Dm_run_11 : decode b_Dm_run 11 = .ok (.iconst (-1), 1) := by decide +kernel
theorem d_Dm_run_12 : decode b_Dm_run 12 = .ok (.ireturn, 1) := by decide +kernel
theorem d_Dm_run_13 : decode b_Dm_run 13 = .ok (.iconst 0, 1) := by decide +kernel
theorem d_Dm_run_14 : decode b_Dm_run 14 = .ok (.istore_n 2, 1) := by decide +kernel
theorem d_Dm_run_15 : decode b_Dm_run 15 = .ok (.iload_n 2, 1) := by decide +kernel
theorem d_Dm_run_16 : decode b_Dm_run 16 = .ok (.iload_n 1, 1) := by decide +kernel
theorem d_Dm_run_17 : decode b_Dm_run 17 = .ok (.if_icmp .ge 28, 3) := by decide +kernel
theorem d_Dm_run_20 : decode b_Dm_run 20 = .ok (.aload_n 0, 1) := by decide +kernel
theorem d_Dm_run_21 : decode b_Dm_run 21 = .ok (.getfield 35, 3) := by decide +kernel
theorem d_Dm_run_24 : decode b_Dm_run 24 = .ok (.getfield 80, 3) := by decide +kernel
theorem d_Dm_run_27 : decode b_Dm_run 27 = .ok (.ifCond .ne 5, 3) := by decide +kernel
theorem d_Dm_run_30 : decode b_Dm_run 30 = .ok (.iload_n 2, 1) := by decide +kernel
theorem d_Dm_run_31 : decode b_Dm_run 31 = .ok (.ireturn, 1) := by decide +kernel
theorem d_Dm_run_32 : decode b_Dm_run 32 = .ok (.aload_n 0, 1) := by decide +kernel
theorem d_Dm_run_33 : decode b_Dm_run 33 = .ok (.getfield 35, 3) := by decide +kernel
theorem d_Dm_run_36 : decode b_Dm_run 36 = .ok (.invokevirtual 84, 3) := by decide +kernel
theorem d_Dm_run_39 : decode b_Dm_run 39 = .ok (.iinc 2 1, 3) := by decide +kernel
theorem d_Dm_run_42 : decode b_Dm_run 42 = .ok (.goto (-27), 3) := by decide +kernel
theorem d_Dm_run_45 : decode b_Dm_run 45 = .ok (.iload_n 1, 1) := by decide +kernel
theorem d_Dm_run_46 : decode b_Dm_run 46 = .ok (.ireturn, 1) := by decide +kernel
theorem d_Dm_look_0 : decode b_Dm_look 0 = .ok (.iload_n 1, 1) := by decide +kernel
theorem d_Dm_look_1 : decode b_Dm_look 1 = .ok (.tableswitch 134 0 8 #[51, 67, 75, 83, 91, 99, 107, 115, 123], 51) := by decide +kernel
theorem d_Dm_look_52 : decode b_Dm_look 52 = .ok (.aload_n 0, 1) := by decide +kernel
theorem d_Dm_look_53 : decode b_Dm_look 53 = .ok (.getfield 35, 3) := by decide +kernel
theorem d_Dm_look_56 : decode b_Dm_look 56 = .ok (.getfield 80, 3) := by decide +kernel
theorem d_Dm_look_59 : decode b_Dm_look 59 = .ok (.ifCond .eq 7, 3) := by decide +kernel
theorem d_Dm_look_62 : decode b_Dm_look 62 = .ok (.iconst 1, 1) := by decide +kernel
theorem d_Dm_look_63 : decode b_Dm_look 63 = .ok (.goto 4, 3) := by decide +kernel
theorem d_Dm_look_66 : decode b_Dm_look 66 = .ok (.iconst 0, 1) := by decide +kernel
theorem d_Dm_look_67 : decode b_Dm_look 67 = .ok (.ireturn, 1) := by decide +kernel
theorem d_Dm_look_68 : decode b_Dm_look 68 = .ok (.aload_n 0, 1) := by decide +kernel
theorem d_Dm_look_69 : decode b_Dm_look 69 = .ok (.getfield 35, 3) := by decide +kernel
theorem d_Dm_look_72 : decode b_Dm_look 72 = .ok (.getfield 87, 3) := by decide +kernel
theorem d_Dm_look_75 : decode b_Dm_look 75 = .ok (.ireturn, 1) := by decide +kernel
theorem d_Dm_look_76 : decode b_Dm_look 76 = .ok (.aload_n 0, 1) := by decide +kernel
theorem d_Dm_look_77 : decode b_Dm_look 77 = .ok (.getfield 35, 3) := by decide +kernel
theorem d_Dm_look_80 : decode b_Dm_look 80 = .ok (.getfield 91, 3) := by decide +kernel
theorem d_Dm_look_83 : decode b_Dm_look 83 = .ok (.ireturn, 1) := by decide +kernel
theorem d_Dm_look_84 : decode b_Dm_look 84 = .ok (.aload_n 0, 1) := by decide +kernel
theorem d_Dm_look_85 : decode b_Dm_look 85 = .ok (.getfield 35, 3) := by decide +kernel
theorem d_Dm_look_88 : decode b_Dm_look 88 = .ok (.getfield 94, 3) := by decide +kernel
theorem d_Dm_look_91 : decode b_Dm_look 91 = .ok (.ireturn, 1) := by decide +kernel
theorem d_Dm_look_92 : decode b_Dm_look 92 = .ok (.aload_n 0, 1) := by decide +kernel
theorem d_Dm_look_93 : decode b_Dm_look 93 = .ok (.getfield 35, 3) := by decide +kernel
theorem d_Dm_look_96 : decode b_Dm_look 96 = .ok (.getfield 97, 3) := by decide +kernel
theorem d_Dm_look_99 : decode b_Dm_look 99 = .ok (.ireturn, 1) := by decide +kernel
theorem d_Dm_look_100 : decode b_Dm_look 100 = .ok (.aload_n 0, 1) := by decide +kernel
theorem d_Dm_look_101 : decode b_Dm_look 101 = .ok (.getfield 35, 3) := by decide +kernel
theorem d_Dm_look_104 : decode b_Dm_look 104 = .ok (.getfield 100, 3) := by decide +kernel
theorem d_Dm_look_107 : decode b_Dm_look 107 = .ok (.ireturn, 1) := by decide +kernel
theorem d_Dm_look_108 : decode b_Dm_look 108 = .ok (.aload_n 0, 1) := by decide +kernel
theorem d_Dm_look_109 : decode b_Dm_look 109 = .ok (.getfield 19, 3) := by decide +kernel
theorem d_Dm_look_112 : decode b_Dm_look 112 = .ok (.invokevirtual 103, 3) := by decide +kernel
theorem d_Dm_look_115 : decode b_Dm_look 115 = .ok (.ireturn, 1) := by decide +kernel
theorem d_Dm_look_116 : decode b_Dm_look 116 = .ok (.aload_n 0, 1) := by decide +kernel
theorem d_Dm_look_117 : decode b_Dm_look 117 = .ok (.getfield 26, 3) := by decide +kernel
theorem d_Dm_look_120 : decode b_Dm_look 120 = .ok (.getfield 107, 3) := by decide +kernel
theorem d_Dm_look_123 : decode b_Dm_look 123 = .ok (.ireturn, 1) := by decide +kernel
theorem d_Dm_look_124 : decode b_Dm_look 124 = .ok (.aload_n 0, 1) := by decide +kernel
theorem d_Dm_look_125 : decode b_Dm_look 125 = .ok (.getfield 35, 3) := by decide +kernel
theorem d_Dm_look_128 : decode b_Dm_look 128 = .ok (.getfield 110, 3) := by decide +kernel
theorem d_Dm_look_131 : decode b_Dm_look 131 = .ok (.getfield 114, 3) := by decide +kernel
theorem d_Dm_look_134 : decode b_Dm_look 134 = .ok (.ireturn, 1) := by decide +kernel
theorem d_Dm_look_135 : decode b_Dm_look 135 = .ok (.iconst (-1), 1) := by decide +kernel
theorem d_Dm_look_136 : decode b_Dm_look 136 = .ok (.ireturn, 1) := by decide +kernel
theorem d_Dm_peek_0 : decode b_Dm_peek 0 = .ok (.iload_n 1, 1) := by decide +kernel
theorem d_Dm_peek_1 : decode b_Dm_peek 1 = .ok (.iload_n 2, 1) := by decide +kernel
theorem d_Dm_peek_2 : decode b_Dm_peek 2 = .ok (.invokestatic 65, 3) := by decide +kernel
theorem d_Dm_peek_5 : decode b_Dm_peek 5 = .ok (.istore_n 3, 1) := by decide +kernel
theorem d_Dm_peek_6 : decode b_Dm_peek 6 = .ok (.iload_n 3, 1) := by decide +kernel
theorem d_Dm_peek_7 : decode b_Dm_peek 7 = .ok (.ifCond .ge 7, 3) := by decide +kernel
theorem d_Dm_peek_10 : decode b_Dm_peek 10 = .ok (.iconst 0, 1) := by decide +kernel
theorem d_Dm_peek_11 : decode b_Dm_peek 11 = .ok (.goto 12, 3) := by decide +kernel
theorem d_Dm_peek_14 : decode b_Dm_peek 14 = .ok (.aload_n 0, 1) := by decide +kernel
theorem d_Dm_peek_15 : decode b_Dm_peek 15 = .ok (.getfield 12, 3) := by decide +kernel
theorem d_Dm_peek_18 : decode b_Dm_peek 18 = .ok (.getfield 68, 3) := by decide +kernel
theorem d_Dm_peek_21 : decode b_Dm_peek 21 = .ok (.iload_n 3, 1) := by decide +kernel
theorem d_Dm_peek_22 : decode b_Dm_peek 22 = .ok (.saload, 1) := by decide +kernel
theorem d_Dm_peek_23 : decode b_Dm_peek 23 = .ok (.ireturn, 1) := by decide +kernel
theorem d_Dm_read_0 : decode b_Dm_read 0 = .ok (.iload_n 1, 1) := by decide +kernel
theorem d_Dm_read_1 : decode b_Dm_read 1 = .ok (.iload_n 2, 1) := by decide +kernel
theorem d_Dm_read_2 : decode b_Dm_read 2 = .ok (.invokestatic 56, 3) := by decide +kernel
theorem d_Dm_read_5 : decode b_Dm_read 5 = .ok (.istore_n 3, 1) := by decide +kernel
theorem d_Dm_read_6 : decode b_Dm_read 6 = .ok (.iload_n 3, 1) := by decide +kernel
theorem d_Dm_read_7 : decode b_Dm_read 7 = .ok (.ifCond .ge 7, 3) := by decide +kernel
theorem d_Dm_read_10 : decode b_Dm_read 10 = .ok (.iconst (-1), 1) := by decide +kernel
theorem d_Dm_read_11 : decode b_Dm_read 11 = .ok (.goto 12, 3) := by decide +kernel
theorem d_Dm_read_14 : decode b_Dm_read 14 = .ok (.aload_n 0, 1) := by decide +kernel
theorem d_Dm_read_15 : decode b_Dm_read 15 = .ok (.getfield 12, 3) := by decide +kernel
theorem d_Dm_read_18 : decode b_Dm_read 18 = .ok (.getfield 61, 3) := by decide +kernel
theorem d_Dm_read_21 : decode b_Dm_read 21 = .ok (.iload_n 3, 1) := by decide +kernel
theorem d_Dm_read_22 : decode b_Dm_read 22 = .ok (.iaload, 1) := by decide +kernel
theorem d_Dm_read_23 : decode b_Dm_read 23 = .ok (.ireturn, 1) := by decide +kernel
theorem d_Dm_punched_0 : decode b_Dm_punched 0 = .ok (.iload_n 1, 1) := by decide +kernel
theorem d_Dm_punched_1 : decode b_Dm_punched 1 = .ok (.ifCond .lt 14, 3) := by decide +kernel
theorem d_Dm_punched_4 : decode b_Dm_punched 4 = .ok (.iload_n 1, 1) := by decide +kernel
theorem d_Dm_punched_5 : decode b_Dm_punched 5 = .ok (.aload_n 0, 1) := by decide +kernel
theorem d_Dm_punched_6 : decode b_Dm_punched 6 = .ok (.getfield 26, 3) := by decide +kernel
theorem d_Dm_punched_9 : decode b_Dm_punched 9 = .ok (.getfield 107, 3) := by decide +kernel
theorem d_Dm_punched_12 : decode b_Dm_punched 12 = .ok (.if_icmp .lt 7, 3) := by decide +kernel
theorem d_Dm_punched_15 : decode b_Dm_punched 15 = .ok (.iconst 0, 1) := by decide +kernel
theorem d_Dm_punched_16 : decode b_Dm_punched 16 = .ok (.goto 12, 3) := by decide +kernel
theorem d_Dm_punched_19 : decode b_Dm_punched 19 = .ok (.aload_n 0, 1) := by decide +kernel
theorem d_Dm_punched_20 : decode b_Dm_punched 20 = .ok (.getfield 26, 3) := by decide +kernel
theorem d_Dm_punched_23 : decode b_Dm_punched 23 = .ok (.getfield 119, 3) := by decide +kernel
theorem d_Dm_punched_26 : decode b_Dm_punched 26 = .ok (.iload_n 1, 1) := by decide +kernel
theorem d_Dm_punched_27 : decode b_Dm_punched 27 = .ok (.saload, 1) := by decide +kernel
theorem d_Dm_punched_28 : decode b_Dm_punched 28 = .ok (.ireturn, 1) := by decide +kernel
theorem d_Dm_statement_0 : decode b_Dm_statement 0 = .ok (.aload_n 0, 1) := by decide +kernel
theorem d_Dm_statement_1 : decode b_Dm_statement 1 = .ok (.getfield 42, 3) := by decide +kernel
theorem d_Dm_statement_4 : decode b_Dm_statement 4 = .ok (.iload_n 1, 1) := by decide +kernel
theorem d_Dm_statement_5 : decode b_Dm_statement 5 = .ok (.iload_n 2, 1) := by decide +kernel
theorem d_Dm_statement_6 : decode b_Dm_statement 6 = .ok (.iload_n 3, 1) := by decide +kernel
theorem d_Dm_statement_7 : decode b_Dm_statement 7 = .ok (.iload 4, 2) := by decide +kernel
theorem d_Dm_statement_9 : decode b_Dm_statement 9 = .ok (.iload 5, 2) := by decide +kernel
theorem d_Dm_statement_11 : decode b_Dm_statement 11 = .ok (.invokevirtual 122, 3) := by decide +kernel
theorem d_Dm_statement_14 : decode b_Dm_statement 14 = .ok (.ireturn, 1) := by decide +kernel
theorem d_Dm_clear_0 : decode b_Dm_clear 0 = .ok (.aload_n 0, 1) := by decide +kernel
theorem d_Dm_clear_1 : decode b_Dm_clear 1 = .ok (.getfield 42, 3) := by decide +kernel
theorem d_Dm_clear_4 : decode b_Dm_clear 4 = .ok (.iconst 0, 1) := by decide +kernel
theorem d_Dm_clear_5 : decode b_Dm_clear 5 = .ok (.putfield 126, 3) := by decide +kernel
theorem d_Dm_clear_8 : decode b_Dm_clear 8 = .ok (.return_, 1) := by decide +kernel
theorem d_Dm_assemble_0 : decode b_Dm_assemble 0 = .ok (.aload_n 0, 1) := by decide +kernel
theorem d_Dm_assemble_1 : decode b_Dm_assemble 1 = .ok (.getfield 35, 3) := by decide +kernel
theorem d_Dm_assemble_4 : decode b_Dm_assemble 4 = .ok (.getfield 80, 3) := by decide +kernel
theorem d_Dm_assemble_7 : decode b_Dm_assemble 7 = .ok (.ifCond .ne 23, 3) := by decide +kernel
theorem d_Dm_assemble_10 : decode b_Dm_assemble 10 = .ok (.aload_n 0, 1) := by decide +kernel
theorem d_Dm_assemble_11 : decode b_Dm_assemble 11 = .ok (.getfield 42, 3) := by decide +kernel
theorem d_Dm_assemble_14 : decode b_Dm_assemble 14 = .ok (.getfield 126, 3) := by decide +kernel
theorem d_Dm_assemble_17 : decode b_Dm_assemble 17 = .ok (.ifCond .eq 13, 3) := by decide +kernel
theorem d_Dm_assemble_20 : decode b_Dm_assemble 20 = .ok (.aload_n 0, 1) := by decide +kernel
theorem d_Dm_assemble_21 : decode b_Dm_assemble 21 = .ok (.getfield 42, 3) := by decide +kernel
theorem d_Dm_assemble_24 : decode b_Dm_assemble 24 = .ok (.invokevirtual 127, 3) := by decide +kernel
theorem d_Dm_assemble_27 : decode b_Dm_assemble 27 = .ok (.ifCond .ne 5, 3) := by decide +kernel
theorem d_Dm_assemble_30 : decode b_Dm_assemble 30 = .ok (.iconst (-1), 1) := by decide +kernel
theorem d_Dm_assemble_31 : decode b_Dm_assemble 31 = .ok (.ireturn, 1) := by decide +kernel
theorem d_Dm_assemble_32 : decode b_Dm_assemble 32 = .ok (.aload_n 0, 1) := by decide +kernel
theorem d_Dm_assemble_33 : decode b_Dm_assemble 33 = .ok (.getfield 53, 3) := by decide +kernel
theorem d_Dm_assemble_36 : decode b_Dm_assemble 36 = .ok (.aload_n 0, 1) := by decide +kernel
theorem d_Dm_assemble_37 : decode b_Dm_assemble 37 = .ok (.getfield 42, 3) := by decide +kernel
theorem d_Dm_assemble_40 : decode b_Dm_assemble 40 = .ok (.invokevirtual 131, 3) := by decide +kernel
theorem d_Dm_assemble_43 : decode b_Dm_assemble 43 = .ok (.ifCond .ne 5, 3) := by decide +kernel
theorem d_Dm_assemble_46 : decode b_Dm_assemble 46 = .ok (.iconst (-1), 1) := by decide +kernel
theorem d_Dm_assemble_47 : decode b_Dm_assemble 47 = .ok (.ireturn, 1) := by decide +kernel
theorem d_Dm_assemble_48 : decode b_Dm_assemble 48 = .ok (.aload_n 0, 1) := by decide +kernel
theorem d_Dm_assemble_49 : decode b_Dm_assemble 49 = .ok (.getfield 49, 3) := by decide +kernel
theorem d_Dm_assemble_52 : decode b_Dm_assemble 52 = .ok (.astore_n 1, 1) := by decide +kernel
theorem d_Dm_assemble_53 : decode b_Dm_assemble 53 = .ok (.aload_n 0, 1) := by decide +kernel
theorem d_Dm_assemble_54 : decode b_Dm_assemble 54 = .ok (.aload_n 0, 1) := by decide +kernel
theorem d_Dm_assemble_55 : decode b_Dm_assemble 55 = .ok (.getfield 53, 3) := by decide +kernel
theorem d_Dm_assemble_58 : decode b_Dm_assemble 58 = .ok (.putfield 49, 3) := by decide +kernel
theorem d_Dm_assemble_61 : decode b_Dm_assemble 61 = .ok (.aload_n 0, 1) := by decide +kernel
theorem d_Dm_assemble_62 : decode b_Dm_assemble 62 = .ok (.aload_n 1, 1) := by decide +kernel
theorem d_Dm_assemble_63 : decode b_Dm_assemble 63 = .ok (.putfield 53, 3) := by decide +kernel
theorem d_Dm_assemble_66 : decode b_Dm_assemble 66 = .ok (.aload_n 0, 1) := by decide +kernel
theorem d_Dm_assemble_67 : decode b_Dm_assemble 67 = .ok (.getfield 49, 3) := by decide +kernel
theorem d_Dm_assemble_70 : decode b_Dm_assemble 70 = .ok (.getfield 135, 3) := by decide +kernel
theorem d_Dm_assemble_73 : decode b_Dm_assemble 73 = .ok (.iconst 0, 1) := by decide +kernel
theorem d_Dm_assemble_74 : decode b_Dm_assemble 74 = .ok (.aload_n 0, 1) := by decide +kernel
theorem d_Dm_assemble_75 : decode b_Dm_assemble 75 = .ok (.getfield 12, 3) := by decide +kernel
theorem d_Dm_assemble_78 : decode b_Dm_assemble 78 = .ok (.getfield 61, 3) := by decide +kernel
theorem d_Dm_assemble_81 : decode b_Dm_assemble 81 = .ok (.iconst 0, 1) := by decide +kernel
theorem d_Dm_assemble_82 : decode b_Dm_assemble 82 = .ok (.bipush 64, 2) := by decide +kernel
theorem d_Dm_assemble_84 : decode b_Dm_assemble 84 = .ok (.invokestatic 136, 3) := by decide +kernel
theorem d_Dm_assemble_87 : decode b_Dm_assemble 87 = .ok (.aload_n 0, 1) := by decide +kernel
theorem d_Dm_assemble_88 : decode b_Dm_assemble 88 = .ok (.getfield 49, 3) := by decide +kernel
theorem d_Dm_assemble_91 : decode b_Dm_assemble 91 = .ok (.getfield 142, 3) := by decide +kernel
theorem d_Dm_assemble_94 : decode b_Dm_assemble 94 = .ok (.ireturn, 1) := by decide +kernel
theorem d_Dm_placed_0 : decode b_Dm_placed 0 = .ok (.iload_n 1, 1) := by decide +kernel
theorem d_Dm_placed_1 : decode b_Dm_placed 1 = .ok (.ifCond .lt 9, 3) := by decide +kernel
theorem d_Dm_placed_4 : decode b_Dm_placed 4 = .ok (.iload_n 1, 1) := by decide +kernel
theorem d_Dm_placed_5 : decode b_Dm_placed 5 = .ok (.bipush 12, 2) := by decide +kernel
theorem d_Dm_placed_7 : decode b_Dm_placed 7 = .ok (.if_icmp .lt 7, 3) := by decide +kernel
theorem d_Dm_placed_10 : decode b_Dm_placed 10 = .ok (.iconst (-1), 1) := by decide +kernel
theorem d_Dm_placed_11 : decode b_Dm_placed 11 = .ok (.goto 12, 3) := by decide +kernel
theorem d_Dm_placed_14 : decode b_Dm_placed 14 = .ok (.aload_n 0, 1) := by decide +kernel
theorem d_Dm_placed_15 : decode b_Dm_placed 15 = .ok (.getfield 49, 3) := by decide +kernel
theorem d_Dm_placed_18 : decode b_Dm_placed 18 = .ok (.getfield 143, 3) := by decide +kernel
theorem d_Dm_placed_21 : decode b_Dm_placed 21 = .ok (.iload_n 1, 1) := by decide +kernel
theorem d_Dm_placed_22 : decode b_Dm_placed 22 = .ok (.iaload, 1) := by decide +kernel
theorem d_Dm_placed_23 : decode b_Dm_placed 23 = .ok (.ireturn, 1) := by decide +kernel
theorem d_Dm_variable_0 : decode b_Dm_variable 0 = .ok (.iload_n 1, 1) := by decide +kernel
theorem d_Dm_variable_1 : decode b_Dm_variable 1 = .ok (.invokestatic 146, 3) := by decide +kernel
theorem d_Dm_variable_4 : decode b_Dm_variable 4 = .ok (.ifCond .eq 15, 3) := by decide +kernel
theorem d_Dm_variable_7 : decode b_Dm_variable 7 = .ok (.aload_n 0, 1) := by decide +kernel
theorem d_Dm_variable_8 : decode b_Dm_variable 8 = .ok (.getfield 49, 3) := by decide +kernel
theorem d_Dm_variable_11 : decode b_Dm_variable 11 = .ok (.getfield 150, 3) := by decide +kernel
theorem d_Dm_variable_14 : decode b_Dm_variable 14 = .ok (.iload_n 1, 1) := by decide +kernel
theorem d_Dm_variable_15 : decode b_Dm_variable 15 = .ok (.iaload, 1) := by decide +kernel
theorem d_Dm_variable_16 : decode b_Dm_variable 16 = .ok (.goto 4, 3) := by decide +kernel
theorem d_Dm_variable_19 : decode b_Dm_variable 19 = .ok (.iconst (-1), 1) := by decide +kernel
theorem d_Dm_variable_20 : decode b_Dm_variable 20 = .ok (.ireturn, 1) := by decide +kernel
theorem d_Md_init_0 : decode b_Md_init 0 = .ok (.aload_n 0, 1) := by decide +kernel
theorem d_Md_init_1 : decode b_Md_init 1 = .ok (.invokespecial 1, 3) := by decide +kernel
theorem d_Md_init_4 : decode b_Md_init 4 = .ok (.aload_n 0, 1) := by decide +kernel
theorem d_Md_init_5 : decode b_Md_init 5 = .ok (.bipush 64, 2) := by decide +kernel
theorem d_Md_init_7 : decode b_Md_init 7 = .ok (.newarray .int, 2) := by decide +kernel
theorem d_Md_init_9 : decode b_Md_init 9 = .ok (.putfield 7, 3) := by decide +kernel
theorem d_Md_init_12 : decode b_Md_init 12 = .ok (.aload_n 0, 1) := by decide +kernel
theorem d_Md_init_13 : decode b_Md_init 13 = .ok (.sipush 132, 3) := by decide +kernel
theorem d_Md_init_16 : decode b_Md_init 16 = .ok (.newarray .short, 2) := by decide +kernel
theorem d_Md_init_18 : decode b_Md_init 18 = .ok (.putfield 13, 3) := by decide +kernel
theorem d_Md_init_21 : decode b_Md_init 21 = .ok (.aload_n 0, 1) := by decide +kernel
theorem d_Md_init_22 : decode b_Md_init 22 = .ok (.bipush 48, 2) := by decide +kernel
theorem d_Md_init_24 : decode b_Md_init 24 = .ok (.newarray .short, 2) := by decide +kernel
theorem d_Md_init_26 : decode b_Md_init 26 = .ok (.putfield 17, 3) := by decide +kernel
theorem d_Md_init_29 : decode b_Md_init 29 = .ok (.aload_n 0, 1) := by decide +kernel
theorem d_Md_init_30 : decode b_Md_init 30 = .ok (.bipush 12, 2) := by decide +kernel
theorem d_Md_init_32 : decode b_Md_init 32 = .ok (.newarray .short, 2) := by decide +kernel
theorem d_Md_init_34 : decode b_Md_init 34 = .ok (.putfield 20, 3) := by decide +kernel
theorem d_Md_init_37 : decode b_Md_init 37 = .ok (.aload_n 0, 1) := by decide +kernel
theorem d_Md_init_38 : decode b_Md_init 38 = .ok (.iconst (-1), 1) := by decide +kernel
theorem d_Md_init_39 : decode b_Md_init 39 = .ok (.putfield 23, 3) := by decide +kernel
theorem d_Md_init_42 : decode b_Md_init 42 = .ok (.aload_n 0, 1) := by decide +kernel
theorem d_Md_init_43 : decode b_Md_init 43 = .ok (.bipush 60, 2) := by decide +kernel
theorem d_Md_init_45 : decode b_Md_init 45 = .ok (.newarray .short, 2) := by decide +kernel
theorem d_Md_init_47 : decode b_Md_init 47 = .ok (.putfield 27, 3) := by decide +kernel
theorem d_Md_init_50 : decode b_Md_init 50 = .ok (.aload_n 0, 1) := by decide +kernel
theorem d_Md_init_51 : decode b_Md_init 51 = .ok (.bipush (-6), 2) := by decide +kernel
theorem d_Md_init_53 : decode b_Md_init 53 = .ok (.putfield 30, 3) := by decide +kernel
theorem d_Md_init_56 : decode b_Md_init 56 = .ok (.aload_n 0, 1) := by decide +kernel
theorem d_Md_init_57 : decode b_Md_init 57 = .ok (.bipush 12, 2) := by decide +kernel
theorem d_Md_init_59 : decode b_Md_init 59 = .ok (.newarray .int, 2) := by decide +kernel
theorem d_Md_init_61 : decode b_Md_init 61 = .ok (.putfield 33, 3) := by decide +kernel
theorem d_Md_init_64 : decode b_Md_init 64 = .ok (.aload_n 0, 1) := by decide +kernel
theorem d_Md_init_65 : decode b_Md_init 65 = .ok (.bipush 12, 2) := by decide +kernel
theorem d_Md_init_67 : decode b_Md_init 67 = .ok (.newarray .int, 2) := by decide +kernel
theorem d_Md_init_69 : decode b_Md_init 69 = .ok (.putfield 36, 3) := by decide +kernel
theorem d_Md_init_72 : decode b_Md_init 72 = .ok (.aload_n 0, 1) := by decide +kernel
theorem d_Md_init_73 : decode b_Md_init 73 = .ok (.bipush 12, 2) := by decide +kernel
theorem d_Md_init_75 : decode b_Md_init 75 = .ok (.newarray .int, 2) := by decide +kernel
theorem d_Md_init_77 : decode b_Md_init 77 = .ok (.putfield 39, 3) := by decide +kernel
theorem d_Md_init_80 : decode b_Md_init 80 = .ok (.aload_n 0, 1) := by decide +kernel
theorem d_Md_init_81 : decode b_Md_init 81 = .ok (.bipush 12, 2) := by decide +kernel
theorem d_Md_init_83 : decode b_Md_init 83 = .ok (.newarray .int, 2) := by decide +kernel
theorem d_Md_init_85 : decode b_Md_init 85 = .ok (.putfield 42, 3) := by decide +kernel
theorem d_Md_init_88 : decode b_Md_init 88 = .ok (.aload_n 0, 1) := by decide +kernel
theorem d_Md_init_89 : decode b_Md_init 89 = .ok (.bipush 12, 2) := by decide +kernel
theorem d_Md_init_91 : decode b_Md_init 91 = .ok (.newarray .int, 2) := by decide +kernel
theorem d_Md_init_93 : decode b_Md_init 93 = .ok (.putfield 45, 3) := by decide +kernel
theorem d_Md_init_96 : decode b_Md_init 96 = .ok (.aload_n 0, 1) := by decide +kernel
theorem d_Md_init_97 : decode b_Md_init 97 = .ok (.bipush 64, 2) := by decide +kernel
theorem d_Md_init_99 : decode b_Md_init 99 = .ok (.newarray .int, 2) := by decide +kernel
theorem d_Md_init_101 : decode b_Md_init 101 = .ok (.putfield 48, 3) := by decide +kernel
theorem d_Md_init_104 : decode b_Md_init 104 = .ok (.aload_n 0, 1) := by decide +kernel
theorem d_Md_init_105 : decode b_Md_init 105 = .ok (.bipush 64, 2) := by decide +kernel
theorem d_Md_init_107 : decode b_Md_init 107 = .ok (.newarray .int, 2) := by decide +kernel
theorem d_Md_init_109 : decode b_Md_init 109 = .ok (.putfield 51, 3) := by decide +kernel
theorem d_Md_init_112 : decode b_Md_init 112 = .ok (.aload_n 0, 1) := by decide +kernel
theorem d_Md_init_113 : decode b_Md_init 113 = .ok (.bipush 64, 2) := by decide +kernel
theorem d_Md_init_115 : decode b_Md_init 115 = .ok (.newarray .int, 2) := by decide +kernel
theorem d_Md_init_117 : decode b_Md_init 117 = .ok (.putfield 54, 3) := by decide +kernel
theorem d_Md_init_120 : decode b_Md_init 120 = .ok (.aload_n 0, 1) := by decide +kernel
theorem d_Md_init_121 : decode b_Md_init 121 = .ok (.bipush 64, 2) := by decide +kernel
theorem d_Md_init_123 : decode b_Md_init 123 = .ok (.newarray .int, 2) := by decide +kernel
theorem d_Md_init_125 : decode b_Md_init 125 = .ok (.putfield 57, 3) := by decide +kernel
theorem d_Md_init_128 : decode b_Md_init 128 = .ok (.aload_n 0, 1) := by decide +kernel
theorem d_Md_init_129 : decode b_Md_init 129 = .ok (.bipush 64, 2) := by decide +kernel
theorem d_Md_init_131 : decode b_Md_init 131 = .ok (.newarray .int, 2) := by decide +kernel
theorem d_Md_init_133 : decode b_Md_init 133 = .ok (.putfield 60, 3) := by decide +kernel
theorem d_Md_init_136 : decode b_Md_init 136 = .ok (.aload_n 0, 1) := by decide +kernel
theorem d_Md_init_137 : decode b_Md_init 137 = .ok (.bipush 64, 2) := by decide +kernel
theorem d_Md_init_139 : decode b_Md_init 139 = .ok (.newarray .int, 2) := by decide +kernel
theorem d_Md_init_141 : decode b_Md_init 141 = .ok (.putfield 63, 3) := by decide +kernel
theorem d_Md_init_144 : decode b_Md_init 144 = .ok (.aload_n 0, 1) := by decide +kernel
theorem d_Md_init_145 : decode b_Md_init 145 = .ok (.bipush 64, 2) := by decide +kernel
theorem d_Md_init_147 : decode b_Md_init 147 = .ok (.newarray .boolean, 2) := by decide +kernel
theorem d_Md_init_149 : decode b_Md_init 149 = .ok (.putfield 66, 3) := by decide +kernel
theorem d_Md_init_152 : decode b_Md_init 152 = .ok (.aload_n 0, 1) := by decide +kernel
theorem d_Md_init_153 : decode b_Md_init 153 = .ok (.bipush 32, 2) := by decide +kernel
theorem d_Md_init_155 : decode b_Md_init 155 = .ok (.newarray .boolean, 2) := by decide +kernel
theorem d_Md_init_157 : decode b_Md_init 157 = .ok (.putfield 70, 3) := by decide +kernel
theorem d_Md_init_160 : decode b_Md_init 160 = .ok (.aload_n 0, 1) := by decide +kernel
theorem d_Md_init_161 : decode b_Md_init 161 = .ok (.bipush 16, 2) := by decide +kernel
theorem d_Md_init_163 : decode b_Md_init 163 = .ok (.newarray .int, 2) := by decide +kernel
theorem d_Md_init_165 : decode b_Md_init 165 = .ok (.putfield 73, 3) := by decide +kernel
theorem d_Md_init_168 : decode b_Md_init 168 = .ok (.aload_n 0, 1) := by decide +kernel
theorem d_Md_init_169 : decode b_Md_init 169 = .ok (.bipush 12, 2) := by decide +kernel
theorem d_Md_init_171 : decode b_Md_init 171 = .ok (.newarray .int, 2) := by decide +kernel
theorem d_Md_init_173 : decode b_Md_init 173 = .ok (.putfield 76, 3) := by decide +kernel
theorem d_Md_init_176 : decode b_Md_init 176 = .ok (.aload_n 0, 1) := by decide +kernel
theorem d_Md_init_177 : decode b_Md_init 177 = .ok (.bipush 16, 2) := by decide +kernel
theorem d_Md_init_179 : decode b_Md_init 179 = .ok (.newarray .int, 2) := by decide +kernel
theorem d_Md_init_181 : decode b_Md_init 181 = .ok (.putfield 79, 3) := by decide +kernel
theorem d_Md_init_184 : decode b_Md_init 184 = .ok (.iconst 0, 1) := by decide +kernel
theorem d_Md_init_185 : decode b_Md_init 185 = .ok (.istore_n 1, 1) := by decide +kernel
theorem d_Md_init_186 : decode b_Md_init 186 = .ok (.iload_n 1, 1) := by decide +kernel
theorem d_Md_init_187 : decode b_Md_init 187 = .ok (.bipush 16, 2) := by decide +kernel
theorem d_Md_init_189 : decode b_Md_init 189 = .ok (.if_icmp .ge 16, 3) := by decide +kernel
theorem d_Md_init_192 : decode b_Md_init 192 = .ok (.aload_n 0, 1) := by decide +kernel
theorem d_Md_init_193 : decode b_Md_init 193 = .ok (.getfield 79, 3) := by decide +kernel
theorem d_Md_init_196 : decode b_Md_init 196 = .ok (.iload_n 1, 1) := by decide +kernel
theorem d_Md_init_197 : decode b_Md_init 197 = .ok (.iconst (-1), 1) := by decide +kernel
theorem d_Md_init_198 : decode b_Md_init 198 = .ok (.iastore, 1) := by decide +kernel
theorem d_Md_init_199 : decode b_Md_init 199 = .ok (.iinc 1 1, 3) := by decide +kernel
theorem d_Md_init_202 : decode b_Md_init 202 = .ok (.goto (-16), 3) := by decide +kernel
theorem d_Md_init_205 : decode b_Md_init 205 = .ok (.return_, 1) := by decide +kernel
theorem d_Md_wordAt_0 : decode b_Md_wordAt 0 = .ok (.iload_n 0, 1) := by decide +kernel
theorem d_Md_wordAt_1 : decode b_Md_wordAt 1 = .ok (.iconst 1, 1) := by decide +kernel
theorem d_Md_wordAt_2 : decode b_Md_wordAt 2 = .ok (.if_icmp .le 32, 3) := by decide +kernel
theorem d_Md_wordAt_5 : decode b_Md_wordAt 5 = .ok (.iload_n 0, 1) := by decide +kernel
theorem d_Md_wordAt_6 : decode b_Md_wordAt 6 = .ok (.bipush 6, 2) := by decide +kernel
theorem d_Md_wordAt_8 : decode b_Md_wordAt 8 = .ok (.if_icmp .ge 26, 3) := by decide +kernel
theorem d_Md_wordAt_11 : decode b_Md_wordAt 11 = .ok (.iload_n 1, 1) := by decide +kernel
theorem d_Md_wordAt_12 : decode b_Md_wordAt 12 = .ok (.ifCond .lt 20, 3) := by decide +kernel
theorem d_Md_wordAt_15 : decode b_Md_wordAt 15 = .ok (.iload_n 1, 1) := by decide +kernel
theorem d_Md_wordAt_16 : decode b_Md_wordAt 16 = .ok (.bipush 32, 2) := by decide +kernel
theorem d_Md_wordAt_18 : decode b_Md_wordAt 18 = .ok (.if_icmp .ge 14, 3) := by decide +kernel
theorem d_Md_wordAt_21 : decode b_Md_wordAt 21 = .ok (.bipush 32, 2) := by decide +kernel
theorem d_Md_wordAt_23 : decode b_Md_wordAt 23 = .ok (.iload_n 0, 1) := by decide +kernel
theorem d_Md_wordAt_24 : decode b_Md_wordAt 24 = .ok (.iconst 2, 1) := by decide +kernel
theorem d_Md_wordAt_25 : decode b_Md_wordAt 25 = .ok (.isub, 1) := by decide +kernel
theorem d_Md_wordAt_26 : decode b_Md_wordAt 26 = .ok (.imul, 1) := by decide +kernel
theorem d_Md_wordAt_27 : decode b_Md_wordAt 27 = .ok (.iload_n 1, 1) := by decide +kernel
theorem d_Md_wordAt_28 : decode b_Md_wordAt 28 = .ok (.iadd, 1) := by decide +kernel
theorem d_Md_wordAt_29 : decode b_Md_wordAt 29 = .ok (.goto 4, 3) := by decide +kernel
theorem d_Md_wordAt_32 : decode b_Md_wordAt 32 = .ok (.iconst (-1), 1) := by decide +kernel
theorem d_Md_wordAt_33 : decode b_Md_wordAt 33 = .ok (.ireturn, 1) := by decide +kernel
theorem d_Md_wordAt_34 : decode b_Md_wordAt 34 = .ok (.iload_n 0, 1) := by decide +kernel
theorem d_Md_wordAt_35 : decode b_Md_wordAt 35 = .ok (.bipush 6, 2) := by decide +kernel
theorem d_Md_wordAt_37 : decode b_Md_wordAt 37 = .ok (.if_icmp .eq 9, 3) := by decide +kernel
theorem d_Md_wordAt_40 : decode b_Md_wordAt 40 = .ok (.iload_n 0, 1) := by decide +kernel
theorem d_Md_wordAt_41 : decode b_Md_wordAt 41 = .ok (.bipush 7, 2) := by decide +kernel
theorem d_Md_wordAt_43 : decode b_Md_wordAt 43 = .ok (.if_icmp .ne 20, 3) := by decide +kernel
theorem d_Md_wordAt_46 : decode b_Md_wordAt 46 = .ok (.iload_n 1, 1) := by decide +kernel
theorem d_Md_wordAt_47 : decode b_Md_wordAt 47 = .ok (.ifCond .ne 14, 3) := by decide +kernel
theorem d_Md_wordAt_50 : decode b_Md_wordAt 50 = .ok (.sipush 128, 3) := by decide +kernel
theorem d_Md_wordAt_53 : decode b_Md_wordAt 53 = .ok (.iload_n 0, 1) := by decide +kernel
theorem d_Md_wordAt_54 : decode b_Md_wordAt 54 = .ok (.iadd, 1) := by decide +kernel
theorem d_Md_wordAt_55 : decode b_Md_wordAt 55 = .ok (.bipush 6, 2) := by decide +kernel
theorem d_Md_wordAt_57 : decode b_Md_wordAt 57 = .ok (.isub, 1) := by decide +kernel
theorem d_Md_wordAt_58 : decode b_Md_wordAt 58 = .ok (.goto 4, 3) := by decide +kernel
theorem d_Md_wordAt_61 : decode b_Md_wordAt 61 = .ok (.iconst (-1), 1) := by decide +kernel
theorem d_Md_wordAt_62 : decode b_Md_wordAt 62 = .ok (.ireturn, 1) := by decide +kernel
theorem d_Md_wordAt_63 : decode b_Md_wordAt 63 = .ok (.iload_n 0, 1) := by decide +kernel
theorem d_Md_wordAt_64 : decode b_Md_wordAt 64 = .ok (.bipush 8, 2) := by decide +kernel
theorem d_Md_wordAt_66 : decode b_Md_wordAt 66 = .ok (.if_icmp .ne 20, 3) := by decide +kernel
theorem d_Md_wordAt_69 : decode b_Md_wordAt 69 = .ok (.iload_n 1, 1) := by decide +kernel
theorem d_Md_wordAt_70 : decode b_Md_wordAt 70 = .ok (.ifCond .eq 8, 3) := by decide +kernel
theorem d_Md_wordAt_73 : decode b_Md_wordAt 73 = .ok (.iload_n 1, 1) := by decide +kernel
theorem d_Md_wordAt_74 : decode b_Md_wordAt 74 = .ok (.iconst 1, 1) := by decide +kernel
theorem d_Md_wordAt_75 : decode b_Md_wordAt 75 = .ok (.if_icmp .ne 11, 3) := by decide +kernel
theorem d_Md_wordAt_78 : decode b_Md_wordAt 78 = .ok (.sipush 130, 3) := by decide +kernel
theorem d_Md_wordAt_81 : decode b_Md_wordAt 81 = .ok (.iload_n 1, 1) := by decide +kernel
theorem d_Md_wordAt_82 : decode b_Md_wordAt 82 = .ok (.iadd, 1) := by decide +kernel
theorem d_Md_wordAt_83 : decode b_Md_wordAt 83 = .ok (.goto 4, 3) := by decide +kernel
theorem d_Md_wordAt_86 : decode b_Md_wordAt 86 = .ok (.iconst (-1), 1) := by decide +kernel
theorem d_Md_wordAt_87 : decode b_Md_wordAt 87 = .ok (.ireturn, 1) := by decide +kernel
theorem d_Md_isOrder_0 : decode b_Md_isOrder 0 = .ok (.iload_n 0, 1) := by decide +kernel
theorem d_Md_isOrder_1 : decode b_Md_isOrder 1 = .ok (.ifCond .eq 8, 3) := by decide +kernel
theorem d_Md_isOrder_4 : decode b_Md_isOrder 4 = .ok (.iload_n 0, 1) := by decide +kernel
theorem d_Md_isOrder_5 : decode b_Md_isOrder 5 = .ok (.iconst 1, 1) := by decide +kernel
theorem d_Md_isOrder_6 : decode b_Md_isOrder 6 = .ok (.if_icmp .ne 17, 3) := by decide +kernel
theorem d_Md_isOrder_9 : decode b_Md_isOrder 9 = .ok (.iload_n 1, 1) := by decide +kernel
theorem d_Md_isOrder_10 : decode b_Md_isOrder 10 = .ok (.ifCond .lt 13, 3) := by decide +kernel
theorem d_Md_isOrder_13 : decode b_Md_isOrder 13 = .ok (.iload_n 1, 1) := by decide +kernel
theorem d_Md_isOrder_14 : decode b_Md_isOrder 14 = .ok (.bipush 32, 2) := by decide +kernel
theorem d_Md_isOrder_16 : decode b_Md_isOrder 16 = .ok (.if_icmp .ge 7, 3) := by decide +kernel
theorem d_Md_isOrder_19 : decode b_Md_isOrder 19 = .ok (.iconst 1, 1) := by decide +kernel
theorem d_Md_isOrder_20 : decode b_Md_isOrder 20 = .ok (.goto 4, 3) := by decide +kernel
theorem d_Md_isOrder_23 : decode b_Md_isOrder 23 = .ok (.iconst 0, 1) := by decide +kernel
theorem d_Md_isOrder_24 : decode b_Md_isOrder 24 = .ok (.ireturn, 1) := by decide +kernel
theorem d_Md_order_0 : decode b_Md_order 0 = .ok (.iload_n 1, 1) := by decide +kernel
theorem d_Md_order_1 : decode b_Md_order 1 = .ok (.iload_n 2, 1) := by decide +kernel
theorem d_Md_order_2 : decode b_Md_order 2 = .ok (.invokestatic 82, 3) := by decide +kernel
theorem d_Md_order_5 : decode b_Md_order 5 = .ok (.ifCond .eq 13, 3) := by decide +kernel
theorem d_Md_order_8 : decode b_Md_order 8 = .ok (.iload_n 3, 1) := by decide +kernel
theorem d_Md_order_9 : decode b_Md_order 9 = .ok (.ifCond .lt 9, 3) := by decide +kernel
theorem d_Md_order_12 : decode b_Md_order 12 = .ok (.iload_n 3, 1) := by decide +kernel
theorem d_Md_order_13 : decode b_Md_order 13 = .ok (.ldc 86, 2) := by decide +kernel
theorem d_Md_order_15 : decode b_Md_order 15 = .ok (.if_icmp .le 5, 3) := by decide +kernel
theorem d_Md_order_18 : decode b_Md_order 18 = .ok (.iconst 0, 1) := by decide +kernel
theorem d_Md_order_19 : decode b_Md_order 19 = .ok (.ireturn, 1) := by decide +kernel
theorem d_Md_order_20 : decode b_Md_order 20 = .ok (.aload_n 0, 1) := by decide +kernel
theorem d_Md_order_21 : decode b_Md_order 21 = .ok (.getfield 7, 3) := by decide +kernel
theorem d_Md_order_24 : decode b_Md_order 24 = .ok (.bipush 32, 2) := by decide +kernel
theorem d_Md_order_26 : decode b_Md_order 26 = .ok (.iload_n 1, 1) := by decide +kernel
theorem d_Md_order_27 : decode b_Md_order 27 = .ok (.imul, 1) := by decide +kernel
theorem d_Md_order_28 : decode b_Md_order 28 = .ok (.iload_n 2, 1) := by decide +kernel
theorem d_Md_order_29 : decode b_Md_order 29 = .ok (.iadd, 1) := by decide +kernel
theorem d_Md_order_30 : decode b_Md_order 30 = .ok (.iload_n 3, 1) := by decide +kernel
theorem d_Md_order_31 : decode b_Md_order 31 = .ok (.iastore, 1) := by decide +kernel
theorem d_Md_order_32 : decode b_Md_order 32 = .ok (.iconst 1, 1) := by decide +kernel
theorem d_Md_order_33 : decode b_Md_order 33 = .ok (.ireturn, 1) := by decide +kernel
theorem d_Md_word_0 : decode b_Md_word 0 = .ok (.iload_n 1, 1) := by decide +kernel
theorem d_Md_word_1 : decode b_Md_word 1 = .ok (.iload_n 2, 1) := by decide +kernel
theorem d_Md_word_2 : decode b_Md_word 2 = .ok (.invokestatic 87, 3) := by decide +kernel
theorem d_Md_word_5 : decode b_Md_word 5 = .ok (.istore 4, 2) := by decide +kernel
theorem d_Md_word_7 : decode b_Md_word 7 = .ok (.iload 4, 2) := by decide +kernel
theorem d_Md_word_9 : decode b_Md_word 9 = .ok (.ifCond .lt 11, 3) := by decide +kernel
theorem d_Md_word_12 : decode b_Md_word 12 = .ok (.aload_n 0, 1) := by decide +kernel
theorem d_Md_word_13 : decode b_Md_word 13 = .ok (.getfield 13, 3) := by decide +kernel
theorem d_Md_word_16 : decode b_Md_word 16 = .ok (.iload 4, 2) := by decide +kernel
theorem d_Md_word_18 : decode b_Md_word 18 = .ok (.iload_n 3, 1) := by decide +kernel
theorem d_Md_word_19 : decode b_Md_word 19 = .ok (.sastore, 1) := by decide +kernel
theorem d_Md_word_20 : decode b_Md_word 20 = .ok (.iload 4, 2) := by decide +kernel
theorem d_Md_word_22 : decode b_Md_word 22 = .ok (.ifCond .lt 7, 3) := by decide +kernel
theorem d_Md_word_25 : decode b_Md_word 25 = .ok (.iconst 1, 1) := by decide +kernel
theorem d_Md_word_26 : decode b_Md_word 26 = .ok (.goto 4, 3) := by decide +kernel
theorem d_Md_word_29 : decode b_Md_word 29 = .ok (.iconst 0, 1) := by decide +kernel
theorem d_Md_word_30 : decode b_Md_word 30 = .ok (.ireturn, 1) := by decide +kernel
theorem d_Md_card_0 : decode b_Md_card 0 = .ok (.aload_n 0, 1) := by decide +kernel
theorem d_Md_card_1 : decode b_Md_card 1 = .ok (.getfield 91, 3) := by decide +kernel
theorem d_Md_card_4 : decode b_Md_card 4 = .ok (.bipush 48, 2) := by decide +kernel
theorem d_Md_card_6 : decode b_Md_card 6 = .ok (.if_icmp .ne 5, 3) := by decide +kernel
theorem d_Md_card_9 : decode b_Md_card 9 = .ok (.iconst 0, 1) := by decide +kernel
theorem d_Md_card_10 : decode b_Md_card 10 = .ok (.ireturn, 1) := by decide +kernel
theorem d_Md_card_11 : decode b_Md_card 11 = .ok (.aload_n 0, 1) := by decide +kernel
theorem d_Md_card_12 : decode b_Md_card 12 = .ok (.dup, 1) := by decide +kernel
theorem d_Md_card_13 : decode b_Md_card 13 = .ok (.getfield 91, 3) := by decide +kernel
theorem d_Md_card_16 : decode b_Md_card 16 = .ok (.iconst 1, 1) := by decide +kernel
theorem d_Md_card_17 : decode b_Md_card 17 = .ok (.iadd, 1) := by decide +kernel
theorem d_Md_card_18 : decode b_Md_card 18 = .ok (.putfield 91, 3) := by decide +kernel
theorem d_Md_card_21 : decode b_Md_card 21 = .ok (.aload_n 0, 1) := by decide +kernel
theorem d_Md_card_22 : decode b_Md_card 22 = .ok (.getfield 17, 3) := by decide +kernel
theorem d_Md_card_25 : decode b_Md_card 25 = .ok (.aload_n 0, 1) := by decide +kernel
theorem d_Md_card_26 : decode b_Md_card 26 = .ok (.getfield 94, 3) := by decide +kernel
theorem d_Md_card_29 : decode b_Md_card 29 = .ok (.iload_n 1, 1) := by decide +kernel
theorem d_Md_card_30 : decode b_Md_card 30 = .ok (.sastore, 1) := by decide +kernel
theorem d_Md_card_31 : decode b_Md_card 31 = .ok (.aload_n 0, 1) := by decide +kernel
theorem d_Md_card_32 : decode b_Md_card 32 = .ok (.dup, 1) := by decide +kernel
theorem d_Md_card_33 : decode b_Md_card 33 = .ok (.getfield 94, 3) := by decide +kernel
theorem d_Md_card_36 : decode b_Md_card 36 = .ok (.iconst 1, 1) := by decide +kernel
theorem d_Md_card_37 : decode b_Md_card 37 = .ok (.iadd, 1) := by decide +kernel
theorem d_Md_card_38 : decode b_Md_card 38 = .ok (.putfield 94, 3) := by decide +kernel
theorem d_Md_card_41 : decode b_Md_card 41 = .ok (.iconst 1, 1) := by decide +kernel
theorem d_Md_card_42 : decode b_Md_card 42 = .ok (.ireturn, 1) := by decide +kernel
theorem d_Md_start_0 : decode b_Md_start 0 = .ok (.iload_n 1, 1) := by decide +kernel
theorem d_Md_start_1 : decode b_Md_start 1 = .ok (.iload_n 2, 1) := by decide +kernel
theorem d_Md_start_2 : decode b_Md_start 2 = .ok (.invokestatic 82, 3) := by decide +kernel
theorem d_Md_start_5 : decode b_Md_start 5 = .ok (.ifCond .ne 5, 3) := by decide +kernel
theorem d_Md_start_8 : decode b_Md_start 8 = .ok (.iconst 0, 1) := by decide +kernel
theorem d_Md_start_9 : decode b_Md_start 9 = .ok (.ireturn, 1) := by decide +kernel
theorem d_Md_start_10 : decode b_Md_start 10 = .ok (.aload_n 0, 1) := by decide +kernel
theorem d_Md_start_11 : decode b_Md_start 11 = .ok (.iconst 1, 1) := by decide +kernel
theorem d_Md_start_12 : decode b_Md_start 12 = .ok (.putfield 97, 3) := by decide +kernel
theorem d_Md_start_15 : decode b_Md_start 15 = .ok (.aload_n 0, 1) := by decide +kernel
theorem d_Md_start_16 : decode b_Md_start 16 = .ok (.iconst 0, 1) := by decide +kernel
theorem d_Md_start_17 : decode b_Md_start 17 = .ok (.putfield 101, 3) := by decide +kernel
theorem d_Md_start_20 : decode b_Md_start 20 = .ok (.aload_n 0, 1) := by decide +kernel
theorem d_Md_start_21 : decode b_Md_start 21 = .ok (.iconst 0, 1) := by decide +kernel
theorem d_Md_start_22 : decode b_Md_start 22 = .ok (.putfield 104, 3) := by decide +kernel
theorem d_Md_start_25 : decode b_Md_start 25 = .ok (.aload_n 0, 1) := by decide +kernel
theorem d_Md_start_26 : decode b_Md_start 26 = .ok (.iconst (-1), 1) := by decide +kernel
theorem d_Md_start_27 : decode b_Md_start 27 = .ok (.putfield 23, 3) := by decide +kernel
theorem d_Md_start_30 : decode b_Md_start 30 = .ok (.aload_n 0, 1) := by decide +kernel
theorem d_Md_start_31 : decode b_Md_start 31 = .ok (.iconst 0, 1) := by decide +kernel
theorem d_Md_start_32 : decode b_Md_start 32 = .ok (.putfield 107, 3) := by decide +kernel
theorem d_Md_start_35 : decode b_Md_start 35 = .ok (.aload_n 0, 1) := by decide +kernel
theorem d_Md_start_36 : decode b_Md_start 36 = .ok (.iconst (-1), 1) := by decide +kernel
theorem d_Md_start_37 : decode b_Md_start 37 = .ok (.putfield 110, 3) := by decide +kernel
theorem d_Md_start_40 : decode b_Md_start 40 = .ok (.aload_n 0, 1) := by decide +kernel
theorem d_Md_start_41 : decode b_Md_start 41 = .ok (.iconst (-1), 1) := by decide +kernel
theorem d_Md_start_42 : decode b_Md_start 42 = .ok (.putfield 113, 3) := by decide +kernel
theorem d_Md_start_45 : decode b_Md_start 45 = .ok (.aload_n 0, 1) := by decide +kernel
theorem d_Md_start_46 : decode b_Md_start 46 = .ok (.iconst 0, 1) := by decide +kernel
theorem d_Md_start_47 : decode b_Md_start 47 = .ok (.putfield 116, 3) := by decide +kernel
theorem d_Md_start_50 : decode b_Md_start 50 = .ok (.aload_n 0, 1) := by decide +kernel
theorem d_Md_start_51 : decode b_Md_start 51 = .ok (.iconst (-1), 1) := by decide +kernel
theorem d_Md_start_52 : decode b_Md_start 52 = .ok (.putfield 119, 3) := by decide +kernel
theorem d_Md_start_55 : decode b_Md_start 55 = .ok (.aload_n 0, 1) := by decide +kernel
theorem d_Md_start_56 : decode b_Md_start 56 = .ok (.iconst 0, 1) := by decide +kernel
theorem d_Md_start_57 : decode b_Md_start 57 = .ok (.putfield 122, 3) := by decide +kernel
theorem d_Md_start_60 : decode b_Md_start 60 = .ok (.aload_n 0, 1) := by decide +kernel
theorem d_Md_start_61 : decode b_Md_start 61 = .ok (.iconst (-1), 1) := by decide +kernel
theorem d_Md_start_62 : decode b_Md_start 62 = .ok (.putfield 125, 3) := by decide +kernel
theorem d_Md_start_65 : decode b_Md_start 65 = .ok (.aload_n 0, 1) := by decide +kernel
theorem d_Md_start_66 : decode b_Md_start 66 = .ok (.aload_n 0, 1) := by decide +kernel
theorem d_Md_start_67 : decode b_Md_start 67 = .ok (.getfield 128, 3) := by decide +kernel
theorem d_Md_start_70 : decode b_Md_start 70 = .ok (.putfield 131, 3) := by decide +kernel
theorem d_Md_start_73 : decode b_Md_start 73 = .ok (.aload_n 0, 1) := by decide +kernel
theorem d_Md_start_74 : decode b_Md_start 74 = .ok (.getfield 131, 3) := by decide +kernel
theorem d_Md_start_77 : decode b_Md_start 77 = .ok (.bipush 32, 2) := by decide +kernel
theorem d_Md_start_79 : decode b_Md_start 79 = .ok (.irem, 1) := by decide +kernel
theorem d_Md_start_80 : decode b_Md_start 80 = .ok (.iload_n 2, 1) := by decide +kernel
theorem d_Md_start_81 : decode b_Md_start 81 = .ok (.if_icmp .eq 16, 3) := by decide +kernel
theorem d_Md_start_84 : decode b_Md_start 84 = .ok (.aload_n 0, 1) := by decide +kernel
theorem d_Md_start_85 : decode b_Md_start 85 = .ok (.dup, 1) := by decide +kernel
theorem d_Md_start_86 : decode b_Md_start 86 = .ok (.getfield 131, 3) := by decide +kernel
theorem d_Md_start_89 : decode b_Md_start 89 = .ok (.iconst 1, 1) := by decide +kernel
theorem d_Md_start_90 : decode b_Md_start 90 = .ok (.iadd, 1) := by decide +kernel
theorem d_Md_start_91 : decode b_Md_start 91 = .ok (.putfield 131, 3) := by decide +kernel
theorem d_Md_start_94 : decode b_Md_start 94 = .ok (.goto (-21), 3) := by decide +kernel
theorem d_Md_start_97 : decode b_Md_start 97 = .ok (.aload_n 0, 1) := by decide +kernel
theorem d_Md_start_98 : decode b_Md_start 98 = .ok (.iload_n 1, 1) := by decide +kernel
theorem d_Md_start_99 : decode b_Md_start 99 = .ok (.putfield 134, 3) := by decide +kernel
theorem d_Md_start_102 : decode b_Md_start 102 = .ok (.iconst 1, 1) := by decide +kernel
theorem d_Md_start_103 : decode b_Md_start 103 = .ok (.ireturn, 1) := by decide +kernel
theorem d_Md_waitOf_0 : decode b_Md_waitOf 0 = .ok (.iload_n 0, 1) := by decide +kernel
theorem d_Md_waitOf_1 : decode b_Md_waitOf 1 = .ok (.bipush 10, 2) := by decide +kernel
theorem d_Md_waitOf_3 : decode b_Md_waitOf 3 = .ok (.ishr, 1) := by decide +kernel
theorem d_Md_waitOf_4 : decode b_Md_waitOf 4 = .ok (.bipush 31, 2) := by decide +kernel
theorem d_Md_waitOf_6 : decode b_Md_waitOf 6 = .ok (.iand, 1) := by decide +kernel
theorem d_Md_waitOf_7 : decode b_Md_waitOf 7 = .ok (.ireturn, 1) := by decide +kernel
theorem d_Md_gapOf_0 : decode b_Md_gapOf 0 = .ok (.iload_n 0, 1) := by decide +kernel
theorem d_Md_gapOf_1 : decode b_Md_gapOf 1 = .ok (.bipush 15, 2) := by decide +kernel
theorem d_Md_gapOf_3 : decode b_Md_gapOf 3 = .ok (.ishr, 1) := by decide +kernel
theorem d_Md_gapOf_4 : decode b_Md_gapOf 4 = .ok (.bipush 31, 2) := by decide +kernel
theorem d_Md_gapOf_6 : decode b_Md_gapOf 6 = .ok (.iand, 1) := by decide +kernel
theorem d_Md_gapOf_7 : decode b_Md_gapOf 7 = .ok (.istore_n 1, 1) := by decide +kernel
theorem d_Md_gapOf_8 : decode b_Md_gapOf 8 = .ok (.iload_n 1, 1) := by decide +kernel
theorem d_Md_gapOf_9 : decode b_Md_gapOf 9 = .ok (.iload_n 0, 1) := by decide +kernel
theorem d_Md_gapOf_10 : decode b_Md_gapOf 10 = .ok (.invokestatic 137, 3) := by decide +kernel
theorem d_Md_gapOf_13 : decode b_Md_gapOf 13 = .ok (.if_icmp .ge 10, 3) := by decide +kernel
theorem d_Md_gapOf_16 : decode b_Md_gapOf 16 = .ok (.iload_n 1, 1) := by decide +kernel
theorem d_Md_gapOf_17 : decode b_Md_gapOf 17 = .ok (.bipush 32, 2) := by decide +kernel
theorem d_Md_gapOf_19 : decode b_Md_gapOf 19 = .ok (.iadd, 1) := by decide +kernel
theorem d_Md_gapOf_20 : decode b_Md_gapOf 20 = .ok (.goto 4, 3) := by decide +kernel
theorem d_Md_gapOf_23 : decode b_Md_gapOf 23 = .ok (.iload_n 1, 1) := by decide +kernel
theorem d_Md_gapOf_24 : decode b_Md_gapOf 24 = .ok (.ireturn, 1) := by decide +kernel
theorem d_Md_read_0_0 : decode b_Md_read_0 0 = .ok (.aload_n 0, 1) := by decide +kernel
theorem d_Md_read_0_1 : decode b_Md_read_0 1 = .ok (.aload_n 0, 1) := by decide +kernel
theorem d_Md_read_0_2 : decode b_Md_read_0 2 = .ok (.getfield 141, 3) := by decide +kernel
theorem d_Md_read_0_5 : decode b_Md_read_0 5 = .ok (.putfield 144, 3) := by decide +kernel
theorem d_Md_read_0_8 : decode b_Md_read_0 8 = .ok (.aload_n 0, 1) := by decide +kernel
theorem d_Md_read_0_9 : decode b_Md_read_0 9 = .ok (.aload_n 0, 1) := by decide +kernel
theorem d_Md_read_0_10 : decode b_Md_read_0 10 = .ok (.getfield 116, 3) := by decide +kernel
theorem d_Md_read_0_13 : decode b_Md_read_0 13 = .ok (.putfield 122, 3) := by decide +kernel
theorem d_Md_read_0_16 : decode b_Md_read_0 16 = .ok (.aload_n 0, 1) := by decide +kernel
theorem d_Md_read_0_17 : decode b_Md_read_0 17 = .ok (.aload_n 0, 1) := by decide +kernel
theorem d_Md_read_0_18 : decode b_Md_read_0 18 = .ok (.getfield 119, 3) := by decide +kernel
theorem d_Md_read_0_21 : decode b_Md_read_0 21 = .ok (.putfield 125, 3) := by decide +kernel
theorem d_Md_read_0_24 : decode b_Md_read_0 24 = .ok (.aload_n 0, 1) := by decide +kernel
theorem d_Md_read_0_25 : decode b_Md_read_0 25 = .ok (.aload_n 0, 1) := by decide +kernel
theorem d_Md_read_0_26 : decode b_Md_read_0 26 = .ok (.getfield 134, 3) := by decide +kernel
theorem d_Md_read_0_29 : decode b_Md_read_0 29 = .ok (.putfield 110, 3) := by decide +kernel
theorem d_Md_read_0_32 : decode b_Md_read_0 32 = .ok (.aload_n 0, 1) := by decide +kernel
theorem d_Md_read_0_33 : decode b_Md_read_0 33 = .ok (.aload_n 0, 1) := by decide +kernel
theorem d_Md_read_0_34 : decode b_Md_read_0 34 = .ok (.getfield 128, 3) := by decide +kernel
theorem d_Md_read_0_37 : decode b_Md_read_0 37 = .ok (.bipush 32, 2) := by decide +kernel
theorem d_Md_read_0_39 : decode b_Md_read_0 39 = .ok (.irem, 1) := by decide +kernel
theorem d_Md_read_0_40 : decode b_Md_read_0 40 = .ok (.putfield 113, 3) := by decide +kernel
theorem d_Md_read_0_43 : decode b_Md_read_0 43 = .ok (.aload_n 0, 1) := by decide +kernel
theorem d_Md_read_0_44 : decode b_Md_read_0 44 = .ok (.dup, 1) := by decide +kernel
theorem d_Md_read_0_45 : decode b_Md_read_0 45 = .ok (.getfield 107, 3) := by decide +kernel
theorem d_Md_read_0_48 : decode b_Md_read_0 48 = .ok (.iconst 1, 1) := by decide +kernel
theorem d_Md_read_0_49 : decode b_Md_read_0 49 = .ok (.iadd, 1) := by decide +kernel
theorem d_Md_read_0_50 : decode b_Md_read_0 50 = .ok (.putfield 107, 3) := by decide +kernel
theorem d_Md_read_0_53 : decode b_Md_read_0 53 = .ok (.aload_n 0, 1) := by decide +kernel
theorem d_Md_read_0_54 : decode b_Md_read_0 54 = .ok (.aload_n 0, 1) := by decide +kernel
theorem d_Md_read_0_55 : decode b_Md_read_0 55 = .ok (.getfield 7, 3) := by decide +kernel
theorem d_Md_read_0_58 : decode b_Md_read_0 58 = .ok (.bipush 32, 2) := by decide +kernel
theorem d_Md_read_0_60 : decode b_Md_read_0 60 = .ok (.aload_n 0, 1) := by decide +kernel
theorem d_Md_read_0_61 : decode b_Md_read_0 61 = .ok (.getfield 110, 3) := by decide +kernel
theorem d_Md_read_0_64 : decode b_Md_read_0 64 = .ok (.imul, 1) := by decide +kernel
theorem d_Md_read_0_65 : decode b_Md_read_0 65 = .ok (.aload_n 0, 1) := by decide +kernel
theorem d_Md_read_0_66 : decode b_Md_read_0 66 = .ok (.getfield 113, 3) := by decide +kernel
theorem d_Md_read_0_69 : decode b_Md_read_0 69 = .ok (.iadd, 1) := by decide +kernel
theorem d_Md_read_0_70 : decode b_Md_read_0 70 = .ok (.iaload, 1) := by decide +kernel
theorem d_Md_read_0_71 : decode b_Md_read_0 71 = .ok (.putfield 141, 3) := by decide +kernel
theorem d_Md_read_0_74 : decode b_Md_read_0 74 = .ok (.aload_n 0, 1) := by decide +kernel
theorem d_Md_read_0_75 : decode b_Md_read_0 75 = .ok (.getfield 141, 3) := by decide +kernel
theorem d_Md_read_0_78 : decode b_Md_read_0 78 = .ok (.bipush 8, 2) := by decide +kernel
theorem d_Md_read_0_80 : decode b_Md_read_0 80 = .ok (.ishr, 1) := by decide +kernel
theorem d_Md_read_0_81 : decode b_Md_read_0 81 = .ok (.iconst 3, 1) := by decide +kernel
theorem d_Md_read_0_82 : decode b_Md_read_0 82 = .ok (.iand, 1) := by decide +kernel
theorem d_Md_read_0_83 : decode b_Md_read_0 83 = .ok (.istore_n 1, 1) := by decide +kernel
theorem d_Md_read_0_84 : decode b_Md_read_0 84 = .ok (.aload_n 0, 1) := by decide +kernel
theorem d_Md_read_0_85 : decode b_Md_read_0 85 = .ok (.aload_n 0, 1) := by decide +kernel
theorem d_Md_read_0_86 : decode b_Md_read_0 86 = .ok (.getfield 128, 3) := by decide +kernel
theorem d_Md_read_0_89 : decode b_Md_read_0 89 = .ok (.iconst 2, 1) := by decide +kernel
theorem d_Md_read_0_90 : decode b_Md_read_0 90 = .ok (.iadd, 1) := by decide +kernel
theorem d_Md_read_0_91 : decode b_Md_read_0 91 = .ok (.aload_n 0, 1) := by decide +kernel
theorem d_Md_read_0_92 : decode b_Md_read_0 92 = .ok (.getfield 141, 3) := by decide +kernel
theorem d_Md_read_0_95 : decode b_Md_read_0 95 = .ok (.invokestatic 137, 3) := by decide +kernel
theorem d_Md_read_0_98 : decode b_Md_read_0 98 = .ok (.iadd, 1) := by decide +kernel
theorem d_Md_read_0_99 : decode b_Md_read_0 99 = .ok (.putfield 116, 3) := by decide +kernel
theorem d_Md_read_0_102 : decode b_Md_read_0 102 = .ok (.aload_n 0, 1) := by decide +kernel
theorem d_Md_read_0_103 : decode b_Md_read_0 103 = .ok (.iload_n 1, 1) := by decide +kernel
theorem d_Md_read_0_104 : decode b_Md_read_0 104 = .ok (.iconst 1, 1) := by decide +kernel
theorem d_Md_read_0_105 : decode b_Md_read_0 105 = .ok (.if_icmp .ne 12, 3) := by decide +kernel
theorem d_Md_read_0_108 : decode b_Md_read_0 108 = .ok (.aload_n 0, 1) := by decide +kernel
theorem d_Md_read_0_109 : decode b_Md_read_0 109 = .ok (.getfield 116, 3) := by decide +kernel
theorem d_Md_read_0_112 : decode b_Md_read_0 112 = .ok (.iconst 1, 1) := by decide +kernel
theorem d_Md_read_0_113 : decode b_Md_read_0 113 = .ok (.iadd, 1) := by decide +kernel
theorem d_Md_read_0_114 : decode b_Md_read_0 114 = .ok (.goto 29, 3) := by decide +kernel
theorem d_Md_read_0_117 : decode b_Md_read_0 117 = .ok (.iload_n 1, 1) := by decide +kernel
theorem d_Md_read_0_118 : decode b_Md_read_0 118 = .ok (.iconst 2, 1) := by decide +kernel
theorem d_Md_read_0_119 : decode b_Md_read_0 119 = .ok (.if_icmp .ne 20, 3) := by decide +kernel
theorem d_Md_read_0_122 : decode b_Md_read_0 122 = .ok (.aload_n 0, 1) := by decide +kernel
theorem d_Md_read_0_123 : decode b_Md_read_0 123 = .ok (.getfield 128, 3) := by decide +kernel
theorem d_Md_read_0_126 : decode b_Md_read_0 126 = .ok (.iconst 2, 1) := by decide +kernel
theorem d_Md_read_0_127 : decode b_Md_read_0 127 = .ok (.iadd, 1) := by decide +kernel
theorem d_Md_read_0_128 : decode b_Md_read_0 128 = .ok (.aload_n 0, 1) := by decide +kernel
theorem d_Md_read_0_129 : decode b_Md_read_0 129 = .ok (.getfield 141, 3) := by decide +kernel
theorem d_Md_read_0_132 : decode b_Md_read_0 132 = .ok (.invokestatic 147, 3) := by decide +kernel
theorem d_Md_read_0_135 : decode b_Md_read_0 135 = .ok (.iadd, 1) := by decide +kernel
theorem d_Md_read_0_136 : decode b_Md_read_0 136 = .ok (.goto 7, 3) := by decide +kernel
theorem d_Md_read_0_139 : decode b_Md_read_0 139 = .ok (.aload_n 0, 1) := by decide +kernel
theorem d_Md_read_0_140 : decode b_Md_read_0 140 = .ok (.getfield 116, 3) := by decide +kernel
theorem d_Md_read_0_143 : decode b_Md_read_0 143 = .ok (.putfield 119, 3) := by decide +kernel
theorem d_Md_read_0_146 : decode b_Md_read_0 146 = .ok (.aload_n 0, 1) := by decide +kernel
theorem d_Md_read_0_147 : decode b_Md_read_0 147 = .ok (.aload_n 0, 1) := by decide +kernel
theorem d_Md_read_0_148 : decode b_Md_read_0 148 = .ok (.getfield 128, 3) := by decide +kernel
theorem d_Md_read_0_151 : decode b_Md_read_0 151 = .ok (.iconst 2, 1) := by decide +kernel
theorem d_Md_read_0_152 : decode b_Md_read_0 152 = .ok (.iadd, 1) := by decide +kernel
theorem d_Md_read_0_153 : decode b_Md_read_0 153 = .ok (.aload_n 0, 1) := by decide +kernel
theorem d_Md_read_0_154 : decode b_Md_read_0 154 = .ok (.getfield 141, 3) := by decide +kernel
theorem d_Md_read_0_157 : decode b_Md_read_0 157 = .ok (.invokestatic 147, 3) := by decide +kernel
theorem d_Md_read_0_160 : decode b_Md_read_0 160 = .ok (.iadd, 1) := by decide +kernel
theorem d_Md_read_0_161 : decode b_Md_read_0 161 = .ok (.putfield 131, 3) := by decide +kernel
theorem d_Md_read_0_164 : decode b_Md_read_0 164 = .ok (.aload_n 0, 1) := by decide +kernel
theorem d_Md_read_0_165 : decode b_Md_read_0 165 = .ok (.aload_n 0, 1) := by decide +kernel
theorem d_Md_read_0_166 : decode b_Md_read_0 166 = .ok (.getfield 141, 3) := by decide +kernel
theorem d_Md_read_0_169 : decode b_Md_read_0 169 = .ok (.bipush 20, 2) := by decide +kernel
theorem d_Md_read_0_171 : decode b_Md_read_0 171 = .ok (.ishr, 1) := by decide +kernel
theorem d_Md_read_0_172 : decode b_Md_read_0 172 = .ok (.putfield 134, 3) := by decide +kernel
theorem d_Md_read_0_175 : decode b_Md_read_0 175 = .ok (.aload_n 0, 1) := by decide +kernel
theorem d_Md_read_0_176 : decode b_Md_read_0 176 = .ok (.iconst 0, 1) := by decide +kernel
theorem d_Md_read_0_177 : decode b_Md_read_0 177 = .ok (.putfield 150, 3) := by decide +kernel
theorem d_Md_read_0_180 : decode b_Md_read_0 180 = .ok (.return_, 1) := by decide +kernel
theorem d_Md_row_0 : decode b_Md_row 0 = .ok (.aload_n 0, 1) := by decide +kernel
theorem d_Md_row_1 : decode b_Md_row 1 = .ok (.getfield 128, 3) := by decide +kernel
theorem d_Md_row_4 : decode b_Md_row 4 = .ok (.aload_n 0, 1) := by decide +kernel
theorem d_Md_row_5 : decode b_Md_row 5 = .ok (.getfield 23, 3) := by decide +kernel
theorem d_Md_row_8 : decode b_Md_row 8 = .ok (.isub, 1) := by decide +kernel
theorem d_Md_row_9 : decode b_Md_row 9 = .ok (.bipush 40, 2) := by decide +kernel
theorem d_Md_row_11 : decode b_Md_row 11 = .ok (.isub, 1) := by decide +kernel
theorem d_Md_row_12 : decode b_Md_row 12 = .ok (.istore_n 1, 1) := by decide +kernel
theorem d_Md_row_13 : decode b_Md_row 13 = .ok (.aload_n 0, 1) := by decide +kernel
theorem d_Md_row_14 : decode b_Md_row 14 = .ok (.getfield 23, 3) := by decide +kernel
theorem d_Md_row_17 : decode b_Md_row 17 = .ok (.ifCond .lt 24, 3) := by decide +kernel
theorem d_Md_row_20 : decode b_Md_row 20 = .ok (.iload_n 1, 1) := by decide +kernel
theorem d_Md_row_21 : decode b_Md_row 21 = .ok (.ifCond .lt 20, 3) := by decide +kernel
theorem d_Md_row_24 : decode b_Md_row 24 = .ok (.iload_n 1, 1) := by decide +kernel
theorem d_Md_row_25 : decode b_Md_row 25 = .ok (.bipush 8, 2) := by decide +kernel
theorem d_Md_row_27 : decode b_Md_row 27 = .ok (.irem, 1) := by decide +kernel
theorem d_Md_row_28 : decode b_Md_row 28 = .ok (.iconst 2, 1) := by decide +kernel
theorem d_Md_row_29 : decode b_Md_row 29 = .ok (.if_icmp .gt 12, 3) := by decide +kernel
theorem d_Md_row_32 : decode b_Md_row 32 = .ok (.iload_n 1, 1) := by decide +kernel
theorem d_Md_row_33 : decode b_Md_row 33 = .ok (.bipush 8, 2) := by decide +kernel
theorem d_Md_row_35 : decode b_Md_row 35 = .ok (.idiv, 1) := by decide +kernel
theorem d_Md_row_36 : decode b_Md_row 36 = .ok (.bipush 11, 2) := by decide +kernel
theorem d_Md_row_38 : decode b_Md_row 38 = .ok (.if_icmp .le 7, 3) := by decide +kernel
theorem d_Md_row_41 : decode b_Md_row 41 = .ok (.iconst (-1), 1) := by decide +kernel
theorem d_Md_row_42 : decode b_Md_row 42 = .ok (.goto 7, 3) := by decide +kernel
theorem d_Md_row_45 : decode b_Md_row 45 = .ok (.iload_n 1, 1) := by decide +kernel
theorem d_Md_row_46 : decode b_Md_row 46 = .ok (.bipush 8, 2) := by decide +kernel
theorem d_Md_row_48 : decode b_Md_row 48 = .ok (.idiv, 1) := by decide +kernel
theorem d_Md_row_49 : decode b_Md_row 49 = .ok (.ireturn, 1) := by decide +kernel
theorem d_Md_get_0 : decode b_Md_get 0 = .ok (.aload_n 0, 1) := by decide +kernel
theorem d_Md_get_1 : decode b_Md_get 1 = .ok (.getfield 13, 3) := by decide +kernel
theorem d_Md_get_4 : decode b_Md_get 4 = .ok (.sipush 128, 3) := by decide +kernel
theorem d_Md_get_7 : decode b_Md_get 7 = .ok (.saload, 1) := by decide +kernel
theorem d_Md_get_8 : decode b_Md_get 8 = .ok (.istore_n 2, 1) := by decide +kernel
theorem d_Md_get_9 : decode b_Md_get 9 = .ok (.aload_n 0, 1) := by decide +kernel
theorem d_Md_get_10 : decode b_Md_get 10 = .ok (.getfield 13, 3) := by decide +kernel
theorem d_Md_get_13 : decode b_Md_get 13 = .ok (.sipush 129, 3) := by decide +kernel
theorem d_Md_get_16 : decode b_Md_get 16 = .ok (.saload, 1) := by decide +kernel
theorem d_Md_get_17 : decode b_Md_get 17 = .ok (.istore_n 3, 1) := by decide +kernel
theorem d_Md_get_18 : decode b_Md_get 18 = .ok (.iload_n 1, 1) := by decide +kernel
theorem d_Md_get_19 : decode b_Md_get 19 = .ok (.tableswitch 174 0 14 #[73, 75, 77, 77, 77, 77, 97, 106, 115, 131, 136, 141, 143, 148, 169], 73) := by decide +kernel
theorem d_Md_get_92 : decode b_Md_get 92 = .ok (.iconst 0, 1) := by decide +kernel
theorem d_Md_get_93 : decode b_Md_get 93 = .ok (.ireturn, 1) := by decide +kernel
theorem d_Md_get_94 : decode b_Md_get 94 = .ok (.iconst 1, 1) := by decide +kernel
theorem d_Md_get_95 : decode b_Md_get 95 = .ok (.ireturn, 1) := by decide +kernel
theorem d_Md_get_96 : decode b_Md_get 96 = .ok (.aload_n 0, 1) := by decide +kernel
theorem d_Md_get_97 : decode b_Md_get 97 = .ok (.getfield 13, 3) := by decide +kernel
theorem d_Md_get_100 : decode b_Md_get 100 = .ok (.bipush 32, 2) := by decide +kernel
theorem d_Md_get_102 : decode b_Md_get 102 = .ok (.iload_n 1, 1) := by decide +kernel
theorem d_Md_get_103 : decode b_Md_get 103 = .ok (.iconst 2, 1) := by decide +kernel
theorem d_Md_get_104 : decode b_Md_get 104 = .ok (.isub, 1) := by decide +kernel
theorem d_Md_get_105 : decode b_Md_get 105 = .ok (.imul, 1) := by decide +kernel
theorem d_Md_get_106 : decode b_Md_get 106 = .ok (.aload_n 0, 1) := by decide +kernel
theorem d_Md_get_107 : decode b_Md_get 107 = .ok (.getfield 128, 3) := by decide +kernel
theorem d_Md_get_110 : decode b_Md_get 110 = .ok (.bipush 32, 2) := by decide +kernel
theorem d_Md_get_112 : decode b_Md_get 112 = .ok (.irem, 1) := by decide +kernel
theorem d_Md_get_113 : decode b_Md_get 113 = .ok (.iadd, 1) := by decide +kernel
theorem d_Md_get_114 : decode b_Md_get 114 = .ok (.saload, 1) := by decide +kernel
theorem d_Md_get_115 : decode b_Md_get 115 = .ok (.ireturn, 1) := by decide +kernel
theorem d_Md_get_116 : decode b_Md_get 116 = .ok (.aload_n 0, 1) := by decide +kernel
theorem d_Md_get_117 : decode b_Md_get 117 = .ok (.getfield 13, 3) := by decide +kernel
theorem d_Md_get_120 : decode b_Md_get 120 = .ok (.sipush 128, 3) := by decide +kernel
theorem d_Md_get_123 : decode b_Md_get 123 = .ok (.saload, 1) := by decide +kernel
theorem d_Md_get_124 : decode b_Md_get 124 = .ok (.ireturn, 1) := by decide +kernel
theorem d_Md_get_125 : decode b_Md_get 125 = .ok (.aload_n 0, 1) := by decide +kernel
theorem d_Md_get_126 : decode b_Md_get 126 = .ok (.getfield 13, 3) := by decide +kernel
theorem d_Md_get_129 : decode b_Md_get 129 = .ok (.sipush 129, 3) := by decide +kernel
theorem d_Md_get_132 : decode b_Md_get 132 = .ok (.saload, 1) := by decide +kernel
theorem d_Md_get_133 : decode b_Md_get 133 = .ok (.ireturn, 1) := by decide +kernel
theorem d_Md_get_134 : decode b_Md_get 134 = .ok (.aload_n 0, 1) := by decide +kernel
theorem d_Md_get_135 : decode b_Md_get 135 = .ok (.getfield 13, 3) := by decide +kernel
theorem d_Md_get_138 : decode b_Md_get 138 = .ok (.sipush 130, 3) := by decide +kernel
theorem d_Md_get_141 : decode b_Md_get 141 = .ok (.aload_n 0, 1) := by decide +kernel
theorem d_Md_get_142 : decode b_Md_get 142 = .ok (.getfield 128, 3) := by decide +kernel
theorem d_Md_get_145 : decode b_Md_get 145 = .ok (.iconst 2, 1) := by decide +kernel
theorem d_Md_get_146 : decode b_Md_get 146 = .ok (.irem, 1) := by decide +kernel
theorem d_Md_get_147 : decode b_Md_get 147 = .ok (.iadd, 1) := by decide +kernel
theorem d_Md_get_148 : decode b_Md_get 148 = .ok (.saload, 1) := by decide +kernel
theorem d_Md_get_149 : decode b_Md_get 149 = .ok (.ireturn, 1) := by decide +kernel
theorem d_Md_get_150 : decode b_Md_get 150 = .ok (.iload_n 2, 1) := by decide +kernel
theorem d_Md_get_151 : decode b_Md_get 151 = .ok (.iload_n 3, 1) := by decide +kernel
theorem d_Md_get_152 : decode b_Md_get 152 = .ok (.iand, 1) := by decide +kernel
theorem d_Md_get_153 : decode b_Md_get 153 = .ok (.i2s, 1) := by decide +kernel
theorem d_Md_get_154 : decode b_Md_get 154 = .ok (.ireturn, 1) := by decide +kernel
theorem d_Md_get_155 : decode b_Md_get 155 = .ok (.iload_n 2, 1) := by decide +kernel

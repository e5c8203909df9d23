theorem d_Pr_addStatement_21 : decode b_Pr_addStatement 21 = .ok (.ifCond .eq 22, 3) := by decide +kernel
theorem d_Pr_addStatement_24 : decode b_Pr_addStatement 24 = .ok (.iload_n 3, 1) := by decide +kernel
theorem d_Pr_addStatement_25 : decode b_Pr_addStatement 25 = .ok (.invokestatic 27, 3) := by decide +kernel
theorem d_Pr_addStatement_28 : decode b_Pr_addStatement 28 = .ok (.ifCond .eq 15, 3) := by decide +kernel
theorem d_Pr_addStatement_31 : decode b_Pr_addStatement 31 = .ok (.iload 4, 2) := by decide +kernel
theorem d_Pr_addStatement_33 : decode b_Pr_addStatement 33 = .ok (.invokestatic 27, 3) := by decide +kernel
theorem d_Pr_addStatement_36 : decode b_Pr_addStatement 36 = .ok (.ifCond .eq 7, 3) := by decide +kernel
theorem d_Pr_addStatement_39 : decode b_Pr_addStatement 39 = .ok (.iconst 1, 1) := by decide +kernel
theorem d_Pr_addStatement_40 : decode b_Pr_addStatement 40 = .ok (.goto 4, 3) := by decide +kernel
theorem d_Pr_addStatement_43 : decode b_Pr_addStatement 43 = .ok (.iconst 0, 1) := by decide +kernel
theorem d_Pr_addStatement_44 : decode b_Pr_addStatement 44 = .ok (.istore 7, 2) := by decide +kernel
theorem d_Pr_addStatement_46 : decode b_Pr_addStatement 46 = .ok (.iload_n 1, 1) := by decide +kernel
theorem d_Pr_addStatement_47 : decode b_Pr_addStatement 47 = .ok (.iconst 4, 1) := by decide +kernel
theorem d_Pr_addStatement_48 : decode b_Pr_addStatement 48 = .ok (.if_icmp .ne 15, 3) := by decide +kernel
theorem d_Pr_addStatement_51 : decode b_Pr_addStatement 51 = .ok (.iload 5, 2) := by decide +kernel
theorem d_Pr_addStatement_53 : decode b_Pr_addStatement 53 = .ok (.ifCond .lt 14, 3) := by decide +kernel
theorem d_Pr_addStatement_56 : decode b_Pr_addStatement 56 = .ok (.iload 5, 2) := by decide +kernel
theorem d_Pr_addStatement_58 : decode b_Pr_addStatement 58 = .ok (.bipush 12, 2) := by decide +kernel
theorem d_Pr_addStatement_60 : decode b_Pr_addStatement 60 = .ok (.if_icmp .ge 7, 3) := by decide +kernel
theorem d_Pr_addStatement_63 : decode b_Pr_addStatement 63 = .ok (.iconst 1, 1) := by decide +kernel
theorem d_Pr_addStatement_64 : decode b_Pr_addStatement 64 = .ok (.goto 4, 3) := by decide +kernel
theorem d_Pr_addStatement_67 : decode b_Pr_addStatement 67 = .ok (.iconst 0, 1) := by decide +kernel
theorem d_Pr_addStatement_68 : decode b_Pr_addStatement 68 = .ok (.istore 8, 2) := by decide +kernel
theorem d_Pr_addStatement_70 : decode b_Pr_addStatement 70 = .ok (.aload_n 0, 1) := by decide +kernel
theorem d_Pr_addStatement_71 : decode b_Pr_addStatement 71 = .ok (.getfield 31, 3) := by decide +kernel
theorem d_Pr_addStatement_74 : decode b_Pr_addStatement 74 = .ok (.bipush 12, 2) := by decide +kernel
theorem d_Pr_addStatement_76 : decode b_Pr_addStatement 76 = .ok (.if_icmp .ge 18, 3) := by decide +kernel
theorem d_Pr_addStatement_79 : decode b_Pr_addStatement 79 = .ok (.iload 6, 2) := by decide +kernel
theorem d_Pr_addStatement_81 : decode b_Pr_addStatement 81 = .ok (.ifCond .eq 13, 3) := by decide +kernel
theorem d_Pr_addStatement_84 : decode b_Pr_addStatement 84 = .ok (.iload 7, 2) := by decide +kernel
theorem d_Pr_addStatement_86 : decode b_Pr_addStatement 86 = .ok (.ifCond .eq 8, 3) := by decide +kernel
theorem d_Pr_addStatement_89 : decode b_Pr_addStatement 89 = .ok (.iload 8, 2) := by decide +kernel
theorem d_Pr_addStatement_91 : decode b_Pr_addStatement 91 = .ok (.ifCond .ne 5, 3) := by decide +kernel
theorem d_Pr_addStatement_94 : decode b_Pr_addStatement 94 = .ok (.iconst (-1), 1) := by decide +kernel
theorem d_Pr_addStatement_95 : decode b_Pr_addStatement 95 = .ok (.ireturn, 1) := by decide +kernel
theorem d_Pr_addStatement_96 : decode b_Pr_addStatement 96 = .ok (.aload_n 0, 1) := by decide +kernel
theorem d_Pr_addStatement_97 : decode b_Pr_addStatement 97 = .ok (.getfield 9, 3) := by decide +kernel
theorem d_Pr_addStatement_100 : decode b_Pr_addStatement 100 = .ok (.aload_n 0, 1) := by decide +kernel
theorem d_Pr_addStatement_101 : decode b_Pr_addStatement 101 = .ok (.getfield 31, 3) := by decide +kernel
theorem d_Pr_addStatement_104 : decode b_Pr_addStatement 104 = .ok (.iload_n 1, 1) := by decide +kernel
theorem d_Pr_addStatement_105 : decode b_Pr_addStatement 105 = .ok (.iastore, 1) := by decide +kernel
theorem d_Pr_addStatement_106 : decode b_Pr_addStatement 106 = .ok (.aload_n 0, 1) := by decide +kernel
theorem d_Pr_addStatement_107 : decode b_Pr_addStatement 107 = .ok (.getfield 15, 3) := by decide +kernel
theorem d_Pr_addStatement_110 : decode b_Pr_addStatement 110 = .ok (.aload_n 0, 1) := by decide +kernel
theorem d_Pr_addStatement_111 : decode b_Pr_addStatement 111 = .ok (.getfield 31, 3) := by decide +kernel
theorem d_Pr_addStatement_114 : decode b_Pr_addStatement 114 = .ok (.iload_n 2, 1) := by decide +kernel
theorem d_Pr_addStatement_115 : decode b_Pr_addStatement 115 = .ok (.iastore, 1) := by decide +kernel
theorem d_Pr_addStatement_116 : decode b_Pr_addStatement 116 = .ok (.aload_n 0, 1) := by decide +kernel
theorem d_Pr_addStatement_117 : decode b_Pr_addStatement 117 = .ok (.getfield 18, 3) := by decide +kernel
theorem d_Pr_addStatement_120 : decode b_Pr_addStatement 120 = .ok (.aload_n 0, 1) := by decide +kernel
theorem d_Pr_addStatement_121 : decode b_Pr_addStatement 121 = .ok (.getfield 31, 3) := by decide +kernel
theorem d_Pr_addStatement_124 : decode b_Pr_addStatement 124 = .ok (.iload_n 3, 1) := by decide +kernel
theorem d_Pr_addStatement_125 : decode b_Pr_addStatement 125 = .ok (.iastore, 1) := by decide +kernel
theorem d_Pr_addStatement_126 : decode b_Pr_addStatement 126 = .ok (.aload_n 0, 1) := by decide +kernel
theorem d_Pr_addStatement_127 : decode b_Pr_addStatement 127 = .ok (.getfield 21, 3) := by decide +kernel
theorem d_Pr_addStatement_130 : decode b_Pr_addStatement 130 = .ok (.aload_n 0, 1) := by decide +kernel
theorem d_Pr_addStatement_131 : decode b_Pr_addStatement 131 = .ok (.getfield 31, 3) := by decide +kernel
theorem d_Pr_addStatement_134 : decode b_Pr_addStatement 134 = .ok (.iload 4, 2) := by decide +kernel
theorem d_Pr_addStatement_136 : decode b_Pr_addStatement 136 = .ok (.iastore, 1) := by decide +kernel
theorem d_Pr_addStatement_137 : decode b_Pr_addStatement 137 = .ok (.aload_n 0, 1) := by decide +kernel
theorem d_Pr_addStatement_138 : decode b_Pr_addStatement 138 = .ok (.getfield 24, 3) := by decide +kernel
theorem d_Pr_addStatement_141 : decode b_Pr_addStatement 141 = .ok (.aload_n 0, 1) := by decide +kernel
theorem d_Pr_addStatement_142 : decode b_Pr_addStatement 142 = .ok (.getfield 31, 3) := by decide +kernel
theorem d_Pr_addStatement_145 : decode b_Pr_addStatement 145 = .ok (.iload 5, 2) := by decide +kernel
theorem d_Pr_addStatement_147 : decode b_Pr_addStatement 147 = .ok (.iastore, 1) := by decide +kernel
theorem d_Pr_addStatement_148 : decode b_Pr_addStatement 148 = .ok (.aload_n 0, 1) := by decide +kernel
theorem d_Pr_addStatement_149 : decode b_Pr_addStatement 149 = .ok (.dup, 1) := by decide +kernel
theorem d_Pr_addStatement_150 : decode b_Pr_addStatement 150 = .ok (.getfield 31, 3) := by decide +kernel
theorem d_Pr_addStatement_153 : decode b_Pr_addStatement 153 = .ok (.iconst 1, 1) := by decide +kernel
theorem d_Pr_addStatement_154 : decode b_Pr_addStatement 154 = .ok (.iadd, 1) := by decide +kernel
theorem d_Pr_addStatement_155 : decode b_Pr_addStatement 155 = .ok (.putfield 31, 3) := by decide +kernel
theorem d_Pr_addStatement_158 : decode b_Pr_addStatement 158 = .ok (.aload_n 0, 1) := by decide +kernel
theorem d_Pr_addStatement_159 : decode b_Pr_addStatement 159 = .ok (.getfield 31, 3) := by decide +kernel
theorem d_Pr_addStatement_162 : decode b_Pr_addStatement 162 = .ok (.iconst 1, 1) := by decide +kernel
theorem d_Pr_addStatement_163 : decode b_Pr_addStatement 163 = .ok (.isub, 1) := by decide +kernel
theorem d_Pr_addStatement_164 : decode b_Pr_addStatement 164 = .ok (.ireturn, 1) := by decide +kernel
theorem d_Pr_isVariable_0 : decode b_Pr_isVariable 0 = .ok (.iload_n 0, 1) := by decide +kernel
theorem d_Pr_isVariable_1 : decode b_Pr_isVariable 1 = .ok (.ifCond .lt 13, 3) := by decide +kernel
theorem d_Pr_isVariable_4 : decode b_Pr_isVariable 4 = .ok (.iload_n 0, 1) := by decide +kernel
theorem d_Pr_isVariable_5 : decode b_Pr_isVariable 5 = .ok (.bipush 16, 2) := by decide +kernel
theorem d_Pr_isVariable_7 : decode b_Pr_isVariable 7 = .ok (.if_icmp .ge 7, 3) := by decide +kernel
theorem d_Pr_isVariable_10 : decode b_Pr_isVariable 10 = .ok (.iconst 1, 1) := by decide +kernel
theorem d_Pr_isVariable_11 : decode b_Pr_isVariable 11 = .ok (.goto 4, 3) := by decide +kernel
theorem d_Pr_isVariable_14 : decode b_Pr_isVariable 14 = .ok (.iconst 0, 1) := by decide +kernel
theorem d_Pr_isVariable_15 : decode b_Pr_isVariable 15 = .ok (.ireturn, 1) := by decide +kernel
theorem d_Pr_allGotosLead_0 : decode b_Pr_allGotosLead 0 = .ok (.iconst 0, 1) := by decide +kernel
theorem d_Pr_allGotosLead_1 : decode b_Pr_allGotosLead 1 = .ok (.istore_n 1, 1) := by decide +kernel
theorem d_Pr_allGotosLead_2 : decode b_Pr_allGotosLead 2 = .ok (.iload_n 1, 1) := by decide +kernel
theorem d_Pr_allGotosLead_3 : decode b_Pr_allGotosLead 3 = .ok (.aload_n 0, 1) := by decide +kernel
theorem d_Pr_allGotosLead_4 : decode b_Pr_allGotosLead 4 = .ok (.getfield 31, 3) := by decide +kernel
theorem d_Pr_allGotosLead_7 : decode b_Pr_allGotosLead 7 = .ok (.if_icmp .ge 34, 3) := by decide +kernel
theorem d_Pr_allGotosLead_10 : decode b_Pr_allGotosLead 10 = .ok (.aload_n 0, 1) := by decide +kernel
theorem d_Pr_allGotosLead_11 : decode b_Pr_allGotosLead 11 = .ok (.getfield 9, 3) := by decide +kernel
theorem d_Pr_allGotosLead_14 : decode b_Pr_allGotosLead 14 = .ok (.iload_n 1, 1) := by decide +kernel
theorem d_Pr_allGotosLead_15 : decode b_Pr_allGotosLead 15 = .ok (.iaload, 1) := by decide +kernel
theorem d_Pr_allGotosLead_16 : decode b_Pr_allGotosLead 16 = .ok (.iconst 4, 1) := by decide +kernel
theorem d_Pr_allGotosLead_17 : decode b_Pr_allGotosLead 17 = .ok (.if_icmp .ne 18, 3) := by decide +kernel
theorem d_Pr_allGotosLead_20 : decode b_Pr_allGotosLead 20 = .ok (.aload_n 0, 1) := by decide +kernel
theorem d_Pr_allGotosLead_21 : decode b_Pr_allGotosLead 21 = .ok (.getfield 24, 3) := by decide +kernel
theorem d_Pr_allGotosLead_24 : decode b_Pr_allGotosLead 24 = .ok (.iload_n 1, 1) := by decide +kernel
theorem d_Pr_allGotosLead_25 : decode b_Pr_allGotosLead 25 = .ok (.iaload, 1) := by decide +kernel
theorem d_Pr_allGotosLead_26 : decode b_Pr_allGotosLead 26 = .ok (.aload_n 0, 1) := by decide +kernel
theorem d_Pr_allGotosLead_27 : decode b_Pr_allGotosLead 27 = .ok (.getfield 31, 3) := by decide +kernel
theorem d_Pr_allGotosLead_30 : decode b_Pr_allGotosLead 30 = .ok (.if_icmp .lt 5, 3) := by decide +kernel
theorem d_Pr_allGotosLead_33 : decode b_Pr_allGotosLead 33 = .ok (.iconst 0, 1) := by decide +kernel
theorem d_Pr_allGotosLead_34 : decode b_Pr_allGotosLead 34 = .ok (.ireturn, 1) := by decide +kernel
theorem d_Pr_allGotosLead_35 : decode b_Pr_allGotosLead 35 = .ok (.iinc 1 1, 3) := by decide +kernel
theorem d_Pr_allGotosLead_38 : decode b_Pr_allGotosLead 38 = .ok (.goto (-36), 3) := by decide +kernel
theorem d_Pr_allGotosLead_41 : decode b_Pr_allGotosLead 41 = .ok (.iconst 1, 1) := by decide +kernel
theorem d_Pr_allGotosLead_42 : decode b_Pr_allGotosLead 42 = .ok (.ireturn, 1) := by decide +kernel
theorem d_Pr_endsWithHalt_0 : decode b_Pr_endsWithHalt 0 = .ok (.aload_n 0, 1) := by decide +kernel
theorem d_Pr_endsWithHalt_1 : decode b_Pr_endsWithHalt 1 = .ok (.getfield 31, 3) := by decide +kernel
theorem d_Pr_endsWithHalt_4 : decode b_Pr_endsWithHalt 4 = .ok (.ifCond .le 23, 3) := by decide +kernel
theorem d_Pr_endsWithHalt_7 : decode b_Pr_endsWithHalt 7 = .ok (.aload_n 0, 1) := by decide +kernel
theorem d_Pr_endsWithHalt_8 : decode b_Pr_endsWithHalt 8 = .ok (.getfield 9, 3) := by decide +kernel
theorem d_Pr_endsWithHalt_11 : decode b_Pr_endsWithHalt 11 = .ok (.aload_n 0, 1) := by decide +kernel
theorem d_Pr_endsWithHalt_12 : decode b_Pr_endsWithHalt 12 = .ok (.getfield 31, 3) := by decide +kernel
theorem d_Pr_endsWithHalt_15 : decode b_Pr_endsWithHalt 15 = .ok (.iconst 1, 1) := by decide +kernel
theorem d_Pr_endsWithHalt_16 : decode b_Pr_endsWithHalt 16 = .ok (.isub, 1) := by decide +kernel
theorem d_Pr_endsWithHalt_17 : decode b_Pr_endsWithHalt 17 = .ok (.iaload, 1) := by decide +kernel
theorem d_Pr_endsWithHalt_18 : decode b_Pr_endsWithHalt 18 = .ok (.bipush 6, 2) := by decide +kernel
theorem d_Pr_endsWithHalt_20 : decode b_Pr_endsWithHalt 20 = .ok (.if_icmp .ne 7, 3) := by decide +kernel
theorem d_Pr_endsWithHalt_23 : decode b_Pr_endsWithHalt 23 = .ok (.iconst 1, 1) := by decide +kernel
theorem d_Pr_endsWithHalt_24 : decode b_Pr_endsWithHalt 24 = .ok (.goto 4, 3) := by decide +kernel
theorem d_Pr_endsWithHalt_27 : decode b_Pr_endsWithHalt 27 = .ok (.iconst 0, 1) := by decide +kernel
theorem d_Pr_endsWithHalt_28 : decode b_Pr_endsWithHalt 28 = .ok (.ireturn, 1) := by decide +kernel
theorem d_Pu_init_0 : decode b_Pu_init 0 = .ok (.aload_n 0, 1) := by decide +kernel
theorem d_Pu_init_1 : decode b_Pu_init 1 = .ok (.invokespecial 1, 3) := by decide +kernel
theorem d_Pu_init_4 : decode b_Pu_init 4 = .ok (.aload_n 0, 1) := by decide +kernel
theorem d_Pu_init_5 : decode b_Pu_init 5 = .ok (.bipush 60, 2) := by decide +kernel
theorem d_Pu_init_7 : decode b_Pu_init 7 = .ok (.newarray .short, 2) := by decide +kernel
theorem d_Pu_init_9 : decode b_Pu_init 9 = .ok (.putfield 9, 3) := by decide +kernel
theorem d_Pu_init_12 : decode b_Pu_init 12 = .ok (.return_, 1) := by decide +kernel
theorem d_Pu_take_0 : decode b_Pu_take 0 = .ok (.aload_n 0, 1) := by decide +kernel
theorem d_Pu_take_1 : decode b_Pu_take 1 = .ok (.getfield 13, 3) := by decide +kernel
theorem d_Pu_take_4 : decode b_Pu_take 4 = .ok (.ifCond .le 18, 3) := by decide +kernel
theorem d_Pu_take_7 : decode b_Pu_take 7 = .ok (.iload_n 2, 1) := by decide +kernel
theorem d_Pu_take_8 : decode b_Pu_take 8 = .ok (.aload_n 0, 1) := by decide +kernel
theorem d_Pu_take_9 : decode b_Pu_take 9 = .ok (.getfield 17, 3) := by decide +kernel
theorem d_Pu_take_12 : decode b_Pu_take 12 = .ok (.isub, 1) := by decide +kernel
theorem d_Pu_take_13 : decode b_Pu_take 13 = .ok (.bipush 6, 2) := by decide +kernel
theorem d_Pu_take_15 : decode b_Pu_take 15 = .ok (.if_icmp .ge 7, 3) := by decide +kernel
theorem d_Pu_take_18 : decode b_Pu_take 18 = .ok (.iconst 1, 1) := by decide +kernel
theorem d_Pu_take_19 : decode b_Pu_take 19 = .ok (.goto 4, 3) := by decide +kernel
theorem d_Pu_take_22 : decode b_Pu_take 22 = .ok (.iconst 0, 1) := by decide +kernel
theorem d_Pu_take_23 : decode b_Pu_take 23 = .ok (.istore_n 3, 1) := by decide +kernel
theorem d_Pu_take_24 : decode b_Pu_take 24 = .ok (.iload_n 3, 1) := by decide +kernel
theorem d_Pu_take_25 : decode b_Pu_take 25 = .ok (.ifCond .ne 12, 3) := by decide +kernel
theorem d_Pu_take_28 : decode b_Pu_take 28 = .ok (.aload_n 0, 1) := by decide +kernel
theorem d_Pu_take_29 : decode b_Pu_take 29 = .ok (.getfield 13, 3) := by decide +kernel
theorem d_Pu_take_32 : decode b_Pu_take 32 = .ok (.bipush 60, 2) := by decide +kernel
theorem d_Pu_take_34 : decode b_Pu_take 34 = .ok (.if_icmp .lt 5, 3) := by decide +kernel
theorem d_Pu_take_37 : decode b_Pu_take 37 = .ok (.iconst 0, 1) := by decide +kernel
theorem d_Pu_take_38 : decode b_Pu_take 38 = .ok (.ireturn, 1) := by decide +kernel
theorem d_Pu_take_39 : decode b_Pu_take 39 = .ok (.aload_n 0, 1) := by decide +kernel
theorem d_Pu_take_40 : decode b_Pu_take 40 = .ok (.getfield 9, 3) := by decide +kernel
theorem d_Pu_take_43 : decode b_Pu_take 43 = .ok (.aload_n 0, 1) := by decide +kernel
theorem d_Pu_take_44 : decode b_Pu_take 44 = .ok (.getfield 13, 3) := by decide +kernel
theorem d_Pu_take_47 : decode b_Pu_take 47 = .ok (.iload_n 1, 1) := by decide +kernel
theorem d_Pu_take_48 : decode b_Pu_take 48 = .ok (.sastore, 1) := by decide +kernel
theorem d_Pu_take_49 : decode b_Pu_take 49 = .ok (.aload_n 0, 1) := by decide +kernel
theorem d_Pu_take_50 : decode b_Pu_take 50 = .ok (.dup, 1) := by decide +kernel
theorem d_Pu_take_51 : decode b_Pu_take 51 = .ok (.getfield 13, 3) := by decide +kernel
theorem d_Pu_take_54 : decode b_Pu_take 54 = .ok (.iconst 1, 1) := by decide +kernel
theorem d_Pu_take_55 : decode b_Pu_take 55 = .ok (.iadd, 1) := by decide +kernel
theorem d_Pu_take_56 : decode b_Pu_take 56 = .ok (.putfield 13, 3) := by decide +kernel
theorem d_Pu_take_59 : decode b_Pu_take 59 = .ok (.aload_n 0, 1) := by decide +kernel
theorem d_Pu_take_60 : decode b_Pu_take 60 = .ok (.iload_n 2, 1) := by decide +kernel
theorem d_Pu_take_61 : decode b_Pu_take 61 = .ok (.putfield 17, 3) := by decide +kernel
theorem d_Pu_take_64 : decode b_Pu_take 64 = .ok (.iconst 1, 1) := by decide +kernel
theorem d_Pu_take_65 : decode b_Pu_take 65 = .ok (.ireturn, 1) := by decide +kernel
theorem d_Rd_init_0 : decode b_Rd_init 0 = .ok (.aload_n 0, 1) := by decide +kernel
theorem d_Rd_init_1 : decode b_Rd_init 1 = .ok (.invokespecial 5, 3) := by decide +kernel
theorem d_Rd_init_4 : decode b_Rd_init 4 = .ok (.aload_n 0, 1) := by decide +kernel
theorem d_Rd_init_5 : decode b_Rd_init 5 = .ok (.bipush 48, 2) := by decide +kernel
theorem d_Rd_init_7 : decode b_Rd_init 7 = .ok (.newarray .short, 2) := by decide +kernel
theorem d_Rd_init_9 : decode b_Rd_init 9 = .ok (.putfield 11, 3) := by decide +kernel
theorem d_Rd_init_12 : decode b_Rd_init 12 = .ok (.return_, 1) := by decide +kernel
theorem d_Rd_addRow_0 : decode b_Rd_addRow 0 = .ok (.aload_n 0, 1) := by decide +kernel
theorem d_Rd_addRow_1 : decode b_Rd_addRow 1 = .ok (.getfield 15, 3) := by decide +kernel
theorem d_Rd_addRow_4 : decode b_Rd_addRow 4 = .ok (.bipush 48, 2) := by decide +kernel
theorem d_Rd_addRow_6 : decode b_Rd_addRow 6 = .ok (.if_icmp .lt 5, 3) := by decide +kernel
theorem d_Rd_addRow_9 : decode b_Rd_addRow 9 = .ok (.iconst 0, 1) := by decide +kernel
theorem d_Rd_addRow_10 : decode b_Rd_addRow 10 = .ok (.ireturn, 1) := by decide +kernel
theorem d_Rd_addRow_11 : decode b_Rd_addRow 11 = .ok (.aload_n 0, 1) := by decide +kernel
theorem d_Rd_addRow_12 : decode b_Rd_addRow 12 = .ok (.getfield 11, 3) := by decide +kernel
theorem d_Rd_addRow_15 : decode b_Rd_addRow 15 = .ok (.aload_n 0, 1) := by decide +kernel
theorem d_Rd_addRow_16 : decode b_Rd_addRow 16 = .ok (.getfield 15, 3) := by decide +kernel
theorem d_Rd_addRow_19 : decode b_Rd_addRow 19 = .ok (.iload_n 1, 1) := by decide +kernel
theorem d_Rd_addRow_20 : decode b_Rd_addRow 20 = .ok (.sastore, 1) := by decide +kernel
theorem d_Rd_addRow_21 : decode b_Rd_addRow 21 = .ok (.aload_n 0, 1) := by decide +kernel
theorem d_Rd_addRow_22 : decode b_Rd_addRow 22 = .ok (.dup, 1) := by decide +kernel
theorem d_Rd_addRow_23 : decode b_Rd_addRow 23 = .ok (.getfield 15, 3) := by decide +kernel
theorem d_Rd_addRow_26 : decode b_Rd_addRow 26 = .ok (.iconst 1, 1) := by decide +kernel
theorem d_Rd_addRow_27 : decode b_Rd_addRow 27 = .ok (.iadd, 1) := by decide +kernel
theorem d_Rd_addRow_28 : decode b_Rd_addRow 28 = .ok (.putfield 15, 3) := by decide +kernel
theorem d_Rd_addRow_31 : decode b_Rd_addRow 31 = .ok (.iconst 1, 1) := by decide +kernel
theorem d_Rd_addRow_32 : decode b_Rd_addRow 32 = .ok (.ireturn, 1) := by decide +kernel
theorem d_Rd_rowsLeft_0 : decode b_Rd_rowsLeft 0 = .ok (.aload_n 0, 1) := by decide +kernel
theorem d_Rd_rowsLeft_1 : decode b_Rd_rowsLeft 1 = .ok (.getfield 15, 3) := by decide +kernel
theorem d_Rd_rowsLeft_4 : decode b_Rd_rowsLeft 4 = .ok (.aload_n 0, 1) := by decide +kernel
theorem d_Rd_rowsLeft_5 : decode b_Rd_rowsLeft 5 = .ok (.getfield 19, 3) := by decide +kernel
theorem d_Rd_rowsLeft_8 : decode b_Rd_rowsLeft 8 = .ok (.isub, 1) := by decide +kernel
theorem d_Rd_rowsLeft_9 : decode b_Rd_rowsLeft 9 = .ok (.ireturn, 1) := by decide +kernel
theorem d_Rd_rest_0 : decode b_Rd_rest 0 = .ok (.aload_n 0, 1) := by decide +kernel
theorem d_Rd_rest_1 : decode b_Rd_rest 1 = .ok (.iconst 0, 1) := by decide +kernel
theorem d_Rd_rest_2 : decode b_Rd_rest 2 = .ok (.putfield 22, 3) := by decide +kernel
theorem d_Rd_rest_5 : decode b_Rd_rest 5 = .ok (.aload_n 0, 1) := by decide +kernel
theorem d_Rd_rest_6 : decode b_Rd_rest 6 = .ok (.iconst 0, 1) := by decide +kernel
theorem d_Rd_rest_7 : decode b_Rd_rest 7 = .ok (.putfield 26, 3) := by decide +kernel
theorem d_Rd_rest_10 : decode b_Rd_rest 10 = .ok (.return_, 1) := by decide +kernel
theorem d_Rd_feed_0 : decode b_Rd_feed 0 = .ok (.aload_n 0, 1) := by decide +kernel
theorem d_Rd_feed_1 : decode b_Rd_feed 1 = .ok (.getfield 22, 3) := by decide +kernel
theorem d_Rd_feed_4 : decode b_Rd_feed 4 = .ok (.ifCond .ne 12, 3) := by decide +kernel
theorem d_Rd_feed_7 : decode b_Rd_feed 7 = .ok (.aload_n 0, 1) := by decide +kernel
theorem d_Rd_feed_8 : decode b_Rd_feed 8 = .ok (.invokevirtual 29, 3) := by decide +kernel
theorem d_Rd_feed_11 : decode b_Rd_feed 11 = .ok (.bipush 12, 2) := by decide +kernel
theorem d_Rd_feed_13 : decode b_Rd_feed 13 = .ok (.if_icmp .ge 5, 3) := by decide +kernel
theorem d_Rd_feed_16 : decode b_Rd_feed 16 = .ok (.iconst 0, 1) := by decide +kernel
theorem d_Rd_feed_17 : decode b_Rd_feed 17 = .ok (.ireturn, 1) := by decide +kernel
theorem d_Rd_feed_18 : decode b_Rd_feed 18 = .ok (.aload_n 0, 1) := by decide +kernel
theorem d_Rd_feed_19 : decode b_Rd_feed 19 = .ok (.dup, 1) := by decide +kernel
theorem d_Rd_feed_20 : decode b_Rd_feed 20 = .ok (.getfield 19, 3) := by decide +kernel
theorem d_Rd_feed_23 : decode b_Rd_feed 23 = .ok (.bipush 12, 2) := by decide +kernel
theorem d_Rd_feed_25 : decode b_Rd_feed 25 = .ok (.iadd, 1) := by decide +kernel
theorem d_Rd_feed_26 : decode b_Rd_feed 26 = .ok (.putfield 19, 3) := by decide +kernel
theorem d_Rd_feed_29 : decode b_Rd_feed 29 = .ok (.aload_n 0, 1) := by decide +kernel
theorem d_Rd_feed_30 : decode b_Rd_feed 30 = .ok (.iconst 1, 1) := by decide +kernel
theorem d_Rd_feed_31 : decode b_Rd_feed 31 = .ok (.putfield 22, 3) := by decide +kernel
theorem d_Rd_feed_34 : decode b_Rd_feed 34 = .ok (.aload_n 0, 1) := by decide +kernel
theorem d_Rd_feed_35 : decode b_Rd_feed 35 = .ok (.iload_n 1, 1) := by decide +kernel
theorem d_Rd_feed_36 : decode b_Rd_feed 36 = .ok (.putfield 33, 3) := by decide +kernel
theorem d_Rd_feed_39 : decode b_Rd_feed 39 = .ok (.iconst 1, 1) := by decide +kernel
theorem d_Rd_feed_40 : decode b_Rd_feed 40 = .ok (.ireturn, 1) := by decide +kernel
theorem d_Rd_offset_0 : decode b_Rd_offset 0 = .ok (.iload_n 1, 1) := by decide +kernel
theorem d_Rd_offset_1 : decode b_Rd_offset 1 = .ok (.aload_n 0, 1) := by decide +kernel
theorem d_Rd_offset_2 : decode b_Rd_offset 2 = .ok (.getfield 33, 3) := by decide +kernel
theorem d_Rd_offset_5 : decode b_Rd_offset 5 = .ok (.isub, 1) := by decide +kernel
theorem d_Rd_offset_6 : decode b_Rd_offset 6 = .ok (.bipush 40, 2) := by decide +kernel
theorem d_Rd_offset_8 : decode b_Rd_offset 8 = .ok (.isub, 1) := by decide +kernel
theorem d_Rd_offset_9 : decode b_Rd_offset 9 = .ok (.istore_n 2, 1) := by decide +kernel
theorem d_Rd_offset_10 : decode b_Rd_offset 10 = .ok (.iload_n 2, 1) := by decide +kernel
theorem d_Rd_offset_11 : decode b_Rd_offset 11 = .ok (.ifCond .lt 21, 3) := by decide +kernel
theorem d_Rd_offset_14 : decode b_Rd_offset 14 = .ok (.iload_n 2, 1) := by decide +kernel
theorem d_Rd_offset_15 : decode b_Rd_offset 15 = .ok (.bipush 90, 2) := by decide +kernel
theorem d_Rd_offset_17 : decode b_Rd_offset 17 = .ok (.if_icmp .gt 15, 3) := by decide +kernel
theorem d_Rd_offset_20 : decode b_Rd_offset 20 = .ok (.iload_n 2, 1) := by decide +kernel
theorem d_Rd_offset_21 : decode b_Rd_offset 21 = .ok (.bipush 8, 2) := by decide +kernel
theorem d_Rd_offset_23 : decode b_Rd_offset 23 = .ok (.irem, 1) := by decide +kernel
theorem d_Rd_offset_24 : decode b_Rd_offset 24 = .ok (.iconst 3, 1) := by decide +kernel
theorem d_Rd_offset_25 : decode b_Rd_offset 25 = .ok (.if_icmp .ge 7, 3) := by decide +kernel
theorem d_Rd_offset_28 : decode b_Rd_offset 28 = .ok (.iconst 1, 1) := by decide +kernel
theorem d_Rd_offset_29 : decode b_Rd_offset 29 = .ok (.goto 4, 3) := by decide +kernel
theorem d_Rd_offset_32 : decode b_Rd_offset 32 = .ok (.iconst 0, 1) := by decide +kernel
theorem d_Rd_offset_33 : decode b_Rd_offset 33 = .ok (.istore_n 3, 1) := by decide +kernel
theorem d_Rd_offset_34 : decode b_Rd_offset 34 = .ok (.aload_n 0, 1) := by decide +kernel
theorem d_Rd_offset_35 : decode b_Rd_offset 35 = .ok (.getfield 22, 3) := by decide +kernel
theorem d_Rd_offset_38 : decode b_Rd_offset 38 = .ok (.ifCond .eq 11, 3) := by decide +kernel
theorem d_Rd_offset_41 : decode b_Rd_offset 41 = .ok (.iload_n 3, 1) := by decide +kernel
theorem d_Rd_offset_42 : decode b_Rd_offset 42 = .ok (.ifCond .eq 7, 3) := by decide +kernel
theorem d_Rd_offset_45 : decode b_Rd_offset 45 = .ok (.iload_n 2, 1) := by decide +kernel
theorem d_Rd_offset_46 : decode b_Rd_offset 46 = .ok (.goto 4, 3) := by decide +kernel
theorem d_Rd_offset_49 : decode b_Rd_offset 49 = .ok (.iconst (-1), 1) := by decide +kernel
theorem d_Rd_offset_50 : decode b_Rd_offset 50 = .ok (.ireturn, 1) := by decide +kernel
theorem d_Rd_moveRow_0 : decode b_Rd_moveRow 0 = .ok (.aload_n 0, 1) := by decide +kernel
theorem d_Rd_moveRow_1 : decode b_Rd_moveRow 1 = .ok (.iload_n 1, 1) := by decide +kernel
theorem d_Rd_moveRow_2 : decode b_Rd_moveRow 2 = .ok (.invokevirtual 36, 3) := by decide +kernel
theorem d_Rd_moveRow_5 : decode b_Rd_moveRow 5 = .ok (.istore_n 2, 1) := by decide +kernel
theorem d_Rd_moveRow_6 : decode b_Rd_moveRow 6 = .ok (.iload_n 2, 1) := by decide +kernel
theorem d_Rd_moveRow_7 : decode b_Rd_moveRow 7 = .ok (.ifCond .ge 5, 3) := by decide +kernel
theorem d_Rd_moveRow_10 : decode b_Rd_moveRow 10 = .ok (.iconst 0, 1) := by decide +kernel
theorem d_Rd_moveRow_11 : decode b_Rd_moveRow 11 = .ok (.ireturn, 1) := by decide +kernel
theorem d_Rd_moveRow_12 : decode b_Rd_moveRow 12 = .ok (.aload_n 0, 1) := by decide +kernel
theorem d_Rd_moveRow_13 : decode b_Rd_moveRow 13 = .ok (.iconst 1, 1) := by decide +kernel
theorem d_Rd_moveRow_14 : decode b_Rd_moveRow 14 = .ok (.putfield 26, 3) := by decide +kernel
theorem d_Rd_moveRow_17 : decode b_Rd_moveRow 17 = .ok (.aload_n 0, 1) := by decide +kernel
theorem d_Rd_moveRow_18 : decode b_Rd_moveRow 18 = .ok (.getfield 11, 3) := by decide +kernel
theorem d_Rd_moveRow_21 : decode b_Rd_moveRow 21 = .ok (.aload_n 0, 1) := by decide +kernel
theorem d_Rd_moveRow_22 : decode b_Rd_moveRow 22 = .ok (.getfield 19, 3) := by decide +kernel
theorem d_Rd_moveRow_25 : decode b_Rd_moveRow 25 = .ok (.bipush 12, 2) := by decide +kernel
theorem d_Rd_moveRow_27 : decode b_Rd_moveRow 27 = .ok (.isub, 1) := by decide +kernel
theorem d_Rd_moveRow_28 : decode b_Rd_moveRow 28 = .ok (.iload_n 2, 1) := by decide +kernel
theorem d_Rd_moveRow_29 : decode b_Rd_moveRow 29 = .ok (.bipush 8, 2) := by decide +kernel
theorem d_Rd_moveRow_31 : decode b_Rd_moveRow 31 = .ok (.idiv, 1) := by decide +kernel
theorem d_Rd_moveRow_32 : decode b_Rd_moveRow 32 = .ok (.iadd, 1) := by decide +kernel
theorem d_Rd_moveRow_33 : decode b_Rd_moveRow 33 = .ok (.saload, 1) := by decide +kernel
theorem d_Rd_moveRow_34 : decode b_Rd_moveRow 34 = .ok (.ireturn, 1) := by decide +kernel
theorem d_Rd_endCycle_0 : decode b_Rd_endCycle 0 = .ok (.aload_n 0, 1) := by decide +kernel
theorem d_Rd_endCycle_1 : decode b_Rd_endCycle 1 = .ok (.iload_n 1, 1) := by decide +kernel
theorem d_Rd_endCycle_2 : decode b_Rd_endCycle 2 = .ok (.invokevirtual 36, 3) := by decide +kernel
theorem d_Rd_endCycle_5 : decode b_Rd_endCycle 5 = .ok (.istore_n 2, 1) := by decide +kernel
theorem d_Rd_endCycle_6 : decode b_Rd_endCycle 6 = .ok (.iload_n 2, 1) := by decide +kernel
theorem d_Rd_endCycle_7 : decode b_Rd_endCycle 7 = .ok (.ifCond .lt 11, 3) := by decide +kernel
theorem d_Rd_endCycle_10 : decode b_Rd_endCycle 10 = .ok (.iload_n 2, 1) := by decide +kernel
theorem d_Rd_endCycle_11 : decode b_Rd_endCycle 11 = .ok (.bipush 8, 2) := by decide +kernel
theorem d_Rd_endCycle_13 : decode b_Rd_endCycle 13 = .ok (.irem, 1) := by decide +kernel
theorem d_Rd_endCycle_14 : decode b_Rd_endCycle 14 = .ok (.iconst 2, 1) := by decide +kernel
theorem d_Rd_endCycle_15 : decode b_Rd_endCycle 15 = .ok (.if_icmp .eq 5, 3) := by decide +kernel
theorem d_Rd_endCycle_18 : decode b_Rd_endCycle 18 = .ok (.iconst 0, 1) := by decide +kernel
theorem d_Rd_endCycle_19 : decode b_Rd_endCycle 19 = .ok (.ireturn, 1) := by decide +kernel
theorem d_Rd_endCycle_20 : decode b_Rd_endCycle 20 = .ok (.aload_n 0, 1) := by decide +kernel
theorem d_Rd_endCycle_21 : decode b_Rd_endCycle 21 = .ok (.getfield 26, 3) := by decide +kernel
theorem d_Rd_endCycle_24 : decode b_Rd_endCycle 24 = .ok (.ifCond .ne 7, 3) := by decide +kernel
theorem d_Rd_endCycle_27 : decode b_Rd_endCycle 27 = .ok (.iconst 1, 1) := by decide +kernel
theorem d_Rd_endCycle_28 : decode b_Rd_endCycle 28 = .ok (.goto 4, 3) := by decide +kernel
theorem d_Rd_endCycle_31 : decode b_Rd_endCycle 31 = .ok (.iconst 0, 1) := by decide +kernel
theorem d_Rd_endCycle_32 : decode b_Rd_endCycle 32 = .ok (.istore_n 3, 1) := by decide +kernel
theorem d_Rd_endCycle_33 : decode b_Rd_endCycle 33 = .ok (.aload_n 0, 1) := by decide +kernel
theorem d_Rd_endCycle_34 : decode b_Rd_endCycle 34 = .ok (.iconst 0, 1) := by decide +kernel
theorem d_Rd_endCycle_35 : decode b_Rd_endCycle 35 = .ok (.putfield 26, 3) := by decide +kernel
theorem d_Rd_endCycle_38 : decode b_Rd_endCycle 38 = .ok (.iload_n 2, 1) := by decide +kernel
theorem d_Rd_endCycle_39 : decode b_Rd_endCycle 39 = .ok (.bipush 90, 2) := by decide +kernel
theorem d_Rd_endCycle_41 : decode b_Rd_endCycle 41 = .ok (.if_icmp .ne 8, 3) := by decide +kernel
theorem d_Rd_endCycle_44 : decode b_Rd_endCycle 44 = .ok (.aload_n 0, 1) := by decide +kernel
theorem d_Rd_endCycle_45 : decode b_Rd_endCycle 45 = .ok (.iconst 0, 1) := by decide +kernel
theorem d_Rd_endCycle_46 : decode b_Rd_endCycle 46 = .ok (.putfield 22, 3) := by decide +kernel
theorem d_Rd_endCycle_49 : decode b_Rd_endCycle 49 = .ok (.iload_n 3, 1) := by decide +kernel
theorem d_Rd_endCycle_50 : decode b_Rd_endCycle 50 = .ok (.ireturn, 1) := by decide +kernel
theorem d_St_init_0 : decode b_St_init 0 = .ok (.aload_n 0, 1) := by decide +kernel
theorem d_St_init_1 : decode b_St_init 1 = .ok (.invokespecial 3, 3) := by decide +kernel
theorem d_St_init_4 : decode b_St_init 4 = .ok (.aload_n 0, 1) := by decide +kernel
theorem d_St_init_5 : decode b_St_init 5 = .ok (.bipush 64, 2) := by decide +kernel
theorem d_St_init_7 : decode b_St_init 7 = .ok (.newarray .int, 2) := by decide +kernel
theorem d_St_init_9 : decode b_St_init 9 = .ok (.putfield 9, 3) := by decide +kernel
theorem d_St_init_12 : decode b_St_init 12 = .ok (.aload_n 0, 1) := by decide +kernel
theorem d_St_init_13 : decode b_St_init 13 = .ok (.sipush 132, 3) := by decide +kernel
theorem d_St_init_16 : decode b_St_init 16 = .ok (.newarray .short, 2) := by decide +kernel
theorem d_St_init_18 : decode b_St_init 18 = .ok (.putfield 15, 3) := by decide +kernel
theorem d_St_init_21 : decode b_St_init 21 = .ok (.return_, 1) := by decide +kernel
theorem d_St_orderSpot_0 : decode b_St_orderSpot 0 = .ok (.iload_n 0, 1) := by decide +kernel
theorem d_St_orderSpot_1 : decode b_St_orderSpot 1 = .ok (.ifCond .lt 22, 3) := by decide +kernel
theorem d_St_orderSpot_4 : decode b_St_orderSpot 4 = .ok (.iload_n 0, 1) := by decide +kernel
theorem d_St_orderSpot_5 : decode b_St_orderSpot 5 = .ok (.iconst 2, 1) := by decide +kernel
theorem d_St_orderSpot_6 : decode b_St_orderSpot 6 = .ok (.if_icmp .ge 17, 3) := by decide +kernel
theorem d_St_orderSpot_9 : decode b_St_orderSpot 9 = .ok (.iload_n 1, 1) := by decide +kernel
theorem d_St_orderSpot_10 : decode b_St_orderSpot 10 = .ok (.ifCond .lt 13, 3) := by decide +kernel
theorem d_St_orderSpot_13 : decode b_St_orderSpot 13 = .ok (.iload_n 1, 1) := by decide +kernel
theorem d_St_orderSpot_14 : decode b_St_orderSpot 14 = .ok (.bipush 32, 2) := by decide +kernel
theorem d_St_orderSpot_16 : decode b_St_orderSpot 16 = .ok (.if_icmp .ge 7, 3) := by decide +kernel
theorem d_St_orderSpot_19 : decode b_St_orderSpot 19 = .ok (.iconst 1, 1) := by decide +kernel
theorem d_St_orderSpot_20 : decode b_St_orderSpot 20 = .ok (.goto 4, 3) := by decide +kernel
theorem d_St_orderSpot_23 : decode b_St_orderSpot 23 = .ok (.iconst 0, 1) := by decide +kernel
theorem d_St_orderSpot_24 : decode b_St_orderSpot 24 = .ok (.istore_n 2, 1) := by decide +kernel
theorem d_St_orderSpot_25 : decode b_St_orderSpot 25 = .ok (.iload_n 2, 1) := by decide +kernel
theorem d_St_orderSpot_26 : decode b_St_orderSpot 26 = .ok (.ifCond .eq 12, 3) := by decide +kernel
theorem d_St_orderSpot_29 : decode b_St_orderSpot 29 = .ok (.iload_n 0, 1) := by decide +kernel
theorem d_St_orderSpot_30 : decode b_St_orderSpot 30 = .ok (.bipush 32, 2) := by decide +kernel
theorem d_St_orderSpot_32 : decode b_St_orderSpot 32 = .ok (.imul, 1) := by decide +kernel
theorem d_St_orderSpot_33 : decode b_St_orderSpot 33 = .ok (.iload_n 1, 1) := by decide +kernel
theorem d_St_orderSpot_34 : decode b_St_orderSpot 34 = .ok (.iadd, 1) := by decide +kernel
theorem d_St_orderSpot_35 : decode b_St_orderSpot 35 = .ok (.goto 4, 3) := by decide +kernel
theorem d_St_orderSpot_38 : decode b_St_orderSpot 38 = .ok (.iconst (-1), 1) := by decide +kernel
theorem d_St_orderSpot_39 : decode b_St_orderSpot 39 = .ok (.ireturn, 1) := by decide +kernel
theorem d_St_wordSpot_0 : decode b_St_wordSpot 0 = .ok (.iload_n 1, 1) := by decide +kernel
theorem d_St_wordSpot_1 : decode b_St_wordSpot 1 = .ok (.ifCond .lt 20, 3) := by decide +kernel
theorem d_St_wordSpot_4 : decode b_St_wordSpot 4 = .ok (.iload_n 1, 1) := by decide +kernel
theorem d_St_wordSpot_5 : decode b_St_wordSpot 5 = .ok (.iload_n 0, 1) := by decide +kernel
theorem d_St_wordSpot_6 : decode b_St_wordSpot 6 = .ok (.invokestatic 19, 3) := by decide +kernel
theorem d_St_wordSpot_9 : decode b_St_wordSpot 9 = .ok (.if_icmp .ge 12, 3) := by decide +kernel
theorem d_St_wordSpot_12 : decode b_St_wordSpot 12 = .ok (.iload_n 0, 1) := by decide +kernel
theorem d_St_wordSpot_13 : decode b_St_wordSpot 13 = .ok (.invokestatic 23, 3) := by decide +kernel
theorem d_St_wordSpot_16 : decode b_St_wordSpot 16 = .ok (.iload_n 1, 1) := by decide +kernel
theorem d_St_wordSpot_17 : decode b_St_wordSpot 17 = .ok (.iadd, 1) := by decide +kernel
theorem d_St_wordSpot_18 : decode b_St_wordSpot 18 = .ok (.goto 4, 3) := by decide +kernel
theorem d_St_wordSpot_21 : decode b_St_wordSpot 21 = .ok (.iconst (-1), 1) := by decide +kernel
theorem d_St_wordSpot_22 : decode b_St_wordSpot 22 = .ok (.ireturn, 1) := by decide +kernel
theorem d_St_presentedSpot_0 : decode b_St_presentedSpot 0 = .ok (.iload_n 0, 1) := by decide +kernel
theorem d_St_presentedSpot_1 : decode b_St_presentedSpot 1 = .ok (.invokestatic 23, 3) := by decide +kernel
theorem d_St_presentedSpot_4 : decode b_St_presentedSpot 4 = .ok (.iload_n 1, 1) := by decide +kernel
theorem d_St_presentedSpot_5 : decode b_St_presentedSpot 5 = .ok (.iload_n 0, 1) := by decide +kernel
theorem d_St_presentedSpot_6 : decode b_St_presentedSpot 6 = .ok (.invokestatic 19, 3) := by decide +kernel
theorem d_St_presentedSpot_9 : decode b_St_presentedSpot 9 = .ok (.iconst 1, 1) := by decide +kernel
theorem d_St_presentedSpot_10 : decode b_St_presentedSpot 10 = .ok (.isub, 1) := by decide +kernel
theorem d_St_presentedSpot_11 : decode b_St_presentedSpot 11 = .ok (.iand, 1) := by decide +kernel
theorem d_St_presentedSpot_12 : decode b_St_presentedSpot 12 = .ok (.iadd, 1) := by decide +kernel
theorem d_St_presentedSpot_13 : decode b_St_presentedSpot 13 = .ok (.ireturn, 1) := by decide +kernel
theorem d_St_placesOf_0 : decode b_St_placesOf 0 = .ok (.iload_n 0, 1) := by decide +kernel
theorem d_St_placesOf_1 : decode b_St_placesOf 1 = .ok (.iconst 2, 1) := by decide +kernel
theorem d_St_placesOf_2 : decode b_St_placesOf 2 = .ok (.if_icmp .lt 11, 3) := by decide +kernel
theorem d_St_placesOf_5 : decode b_St_placesOf 5 = .ok (.iload_n 0, 1) := by decide +kernel
theorem d_St_placesOf_6 : decode b_St_placesOf 6 = .ok (.iconst 5, 1) := by decide +kernel
theorem d_St_placesOf_7 : decode b_St_placesOf 7 = .ok (.if_icmp .gt 6, 3) := by decide +kernel
theorem d_St_placesOf_10 : decode b_St_placesOf 10 = .ok (.bipush 32, 2) := by decide +kernel
theorem d_St_placesOf_12 : decode b_St_placesOf 12 = .ok (.ireturn, 1) := by decide +kernel
theorem d_St_placesOf_13 : decode b_St_placesOf 13 = .ok (.iload_n 0, 1) := by decide +kernel
theorem d_St_placesOf_14 : decode b_St_placesOf 14 = .ok (.bipush 6, 2) := by decide +kernel
theorem d_St_placesOf_16 : decode b_St_placesOf 16 = .ok (.if_icmp .eq 9, 3) := by decide +kernel
theorem d_St_placesOf_19 : decode b_St_placesOf 19 = .ok (.iload_n 0, 1) := by decide +kernel
theorem d_St_placesOf_20 : decode b_St_placesOf 20 = .ok (.bipush 7, 2) := by decide +kernel
theorem d_St_placesOf_22 : decode b_St_placesOf 22 = .ok (.if_icmp .ne 5, 3) := by decide +kernel
theorem d_St_placesOf_25 : decode b_St_placesOf 25 = .ok (.iconst 1, 1) := by decide +kernel
theorem d_St_placesOf_26 : decode b_St_placesOf 26 = .ok (.ireturn, 1) := by decide +kernel
theorem d_St_placesOf_27 : decode b_St_placesOf 27 = .ok (.iload_n 0, 1) := by decide +kernel
theorem d_St_placesOf_28 : decode b_St_placesOf 28 = .ok (.bipush 8, 2) := by decide +kernel
theorem d_St_placesOf_30 : decode b_St_placesOf 30 = .ok (.if_icmp .ne 7, 3) := by decide +kernel
theorem d_St_placesOf_33 : decode b_St_placesOf 33 = .ok (.iconst 2, 1) := by decide +kernel
theorem d_St_placesOf_34 : decode b_St_placesOf 34 = .ok (.goto 4, 3) := by decide +kernel
theorem d_St_placesOf_37 : decode b_St_placesOf 37 = .ok (.iconst 0, 1) := by decide +kernel
theorem d_St_placesOf_38 : decode b_St_placesOf 38 = .ok (.ireturn, 1) := by decide +kernel
theorem d_St_firstSpot_0 : decode b_St_firstSpot 0 = .ok (.iload_n 0, 1) := by decide +kernel
theorem d_St_firstSpot_1 : decode b_St_firstSpot 1 = .ok (.tableswitch 39 6 8 #[27, 31, 35], 27) := by decide +kernel
theorem d_St_firstSpot_28 : decode b_St_firstSpot 28 = .ok (.sipush 128, 3) := by decide +kernel
theorem d_St_firstSpot_31 : decode b_St_firstSpot 31 = .ok (.ireturn, 1) := by decide +kernel
theorem d_St_firstSpot_32 : decode b_St_firstSpot 32 = .ok (.sipush 129, 3) := by decide +kernel
theorem d_St_firstSpot_35 : decode b_St_firstSpot 35 = .ok (.ireturn, 1) := by decide +kernel
theorem d_St_firstSpot_36 : decode b_St_firstSpot 36 = .ok (.sipush 130, 3) := by decide +kernel
theorem d_St_firstSpot_39 : decode b_St_firstSpot 39 = .ok (.ireturn, 1) := by decide +kernel
theorem d_St_firstSpot_40 : decode b_St_firstSpot 40 = .ok (.iload_n 0, 1) := by decide +kernel
theorem d_St_firstSpot_41 : decode b_St_firstSpot 41 = .ok (.iconst 2, 1) := by decide +kernel
theorem d_St_firstSpot_42 : decode b_St_firstSpot 42 = .ok (.isub, 1) := by decide +kernel
theorem d_St_firstSpot_43 : decode b_St_firstSpot 43 = .ok (.bipush 32, 2) := by decide +kernel
theorem d_St_firstSpot_45 : decode b_St_firstSpot 45 = .ok (.imul, 1) := by decide +kernel
theorem d_St_firstSpot_46 : decode b_St_firstSpot 46 = .ok (.ireturn, 1) := by decide +kernel
theorem d_St_product_0 : decode b_St_product 0 = .ok (.aload_n 0, 1) := by decide +kernel
theorem d_St_product_1 : decode b_St_product 1 = .ok (.getfield 15, 3) := by decide +kernel
theorem d_St_product_4 : decode b_St_product 4 = .ok (.sipush 131, 3) := by decide +kernel
theorem d_St_product_7 : decode b_St_product 7 = .ok (.saload, 1) := by decide +kernel
theorem d_St_product_8 : decode b_St_product 8 = .ok (.bipush 16, 2) := by decide +kernel
theorem d_St_product_10 : decode b_St_product 10 = .ok (.ishl, 1) := by decide +kernel
theorem d_St_product_11 : decode b_St_product 11 = .ok (.aload_n 0, 1) := by decide +kernel
theorem d_St_product_12 : decode b_St_product 12 = .ok (.getfield 15, 3) := by decide +kernel
theorem d_St_product_15 : decode b_St_product 15 = .ok (.sipush 130, 3) := by decide +kernel
theorem d_St_product_18 : decode b_St_product 18 = .ok (.saload, 1) := by decide +kernel
theorem d_St_product_19 : decode b_St_product 19 = .ok (.ldc 26, 2) := by decide +kernel
theorem d_St_product_21 : decode b_St_product 21 = .ok (.iand, 1) := by decide +kernel
theorem d_St_product_22 : decode b_St_product 22 = .ok (.ior, 1) := by decide +kernel
theorem d_St_product_23 : decode b_St_product 23 = .ok (.ireturn, 1) := by decide +kernel
theorem d_St_setProduct_0 : decode b_St_setProduct 0 = .ok (.aload_n 0, 1) := by decide +kernel
theorem d_St_setProduct_1 : decode b_St_setProduct 1 = .ok (.getfield 15, 3) := by decide +kernel
theorem d_St_setProduct_4 : decode b_St_setProduct 4 = .ok (.sipush 130, 3) := by decide +kernel
theorem d_St_setProduct_7 : decode b_St_setProduct 7 = .ok (.iload_n 1, 1) := by decide +kernel
theorem d_St_setProduct_8 : decode b_St_setProduct 8 = .ok (.i2s, 1) := by decide +kernel
theorem d_St_setProduct_9 : decode b_St_setProduct 9 = .ok (.sastore, 1) := by decide +kernel
theorem d_St_setProduct_10 : decode b_St_setProduct 10 = .ok (.aload_n 0, 1) := by decide +kernel
theorem d_St_setProduct_11 : decode b_St_setProduct 11 = .ok (.getfield 15, 3) := by decide +kernel
theorem d_St_setProduct_14 : decode b_St_setProduct 14 = .ok (.sipush 131, 3) := by decide +kernel
theorem d_St_setProduct_17 : decode b_St_setProduct 17 = .ok (.iload_n 1, 1) := by decide +kernel
theorem d_St_setProduct_18 : decode b_St_setProduct 18 = .ok (.bipush 16, 2) := by decide +kernel
theorem d_St_setProduct_20 : decode b_St_setProduct 20 = .ok (.ishr, 1) := by decide +kernel
theorem d_St_setProduct_21 : decode b_St_setProduct 21 = .ok (.i2s, 1) := by decide +kernel
theorem d_St_setProduct_22 : decode b_St_setProduct 22 = .ok (.sastore, 1) := by decide +kernel
theorem d_St_setProduct_23 : decode b_St_setProduct 23 = .ok (.return_, 1) := by decide +kernel
theorem d_Wi_init_0 : decode b_Wi_init 0 = .ok (.aload_n 0, 1) := by decide +kernel
theorem d_Wi_init_1 : decode b_Wi_init 1 = .ok (.invokespecial 3, 3) := by decide +kernel
theorem d_Wi_init_4 : decode b_Wi_init 4 = .ok (.return_, 1) := by decide +kernel
theorem d_Wi_close_0 : decode b_Wi_close 0 = .ok (.aload_n 0, 1) := by decide +kernel
theorem d_Wi_close_1 : decode b_Wi_close 1 = .ok (.iconst 1, 1) := by decide +kernel
theorem d_Wi_close_2 : decode b_Wi_close 2 = .ok (.putfield 9, 3) := by decide +kernel
theorem d_Wi_close_5 : decode b_Wi_close 5 = .ok (.aload_n 0, 1) := by decide +kernel
theorem d_Wi_close_6 : decode b_Wi_close 6 = .ok (.iconst 0, 1) := by decide +kernel
theorem d_Wi_close_7 : decode b_Wi_close 7 = .ok (.putfield 15, 3) := by decide +kernel
theorem d_Wi_close_10 : decode b_Wi_close 10 = .ok (.return_, 1) := by decide +kernel
theorem d_Wi_open_0 : decode b_Wi_open 0 = .ok (.aload_n 0, 1) := by decide +kernel
theorem d_Wi_open_1 : decode b_Wi_open 1 = .ok (.iload_n 1, 1) := by decide +kernel
theorem d_Wi_open_2 : decode b_Wi_open 2 = .ok (.bipush 15, 2) := by decide +kernel
theorem d_Wi_open_4 : decode b_Wi_open 4 = .ok (.iand, 1) := by decide +kernel
theorem d_Wi_open_5 : decode b_Wi_open 5 = .ok (.putfield 18, 3) := by decide +kernel
theorem d_Wi_open_8 : decode b_Wi_open 8 = .ok (.aload_n 0, 1) := by decide +kernel
theorem d_Wi_open_9 : decode b_Wi_open 9 = .ok (.iload_n 1, 1) := by decide +kernel
theorem d_Wi_open_10 : decode b_Wi_open 10 = .ok (.iconst 4, 1) := by decide +kernel
theorem d_Wi_open_11 : decode b_Wi_open 11 = .ok (.ishr, 1) := by decide +kernel
theorem d_Wi_open_12 : decode b_Wi_open 12 = .ok (.bipush 15, 2) := by decide +kernel
theorem d_Wi_open_14 : decode b_Wi_open 14 = .ok (.iand, 1) := by decide +kernel
theorem d_Wi_open_15 : decode b_Wi_open 15 = .ok (.putfield 21, 3) := by decide +kernel
theorem d_Wi_open_18 : decode b_Wi_open 18 = .ok (.iload_n 1, 1) := by decide +kernel
theorem d_Wi_open_19 : decode b_Wi_open 19 = .ok (.bipush 10, 2) := by decide +kernel
theorem d_Wi_open_21 : decode b_Wi_open 21 = .ok (.ishr, 1) := by decide +kernel
theorem d_Wi_open_22 : decode b_Wi_open 22 = .ok (.bipush 31, 2) := by decide +kernel
theorem d_Wi_open_24 : decode b_Wi_open 24 = .ok (.iand, 1) := by decide +kernel
theorem d_Wi_open_25 : decode b_Wi_open 25 = .ok (.istore_n 3, 1) := by decide +kernel
theorem d_Wi_open_26 : decode b_Wi_open 26 = .ok (.iload_n 1, 1) := by decide +kernel
theorem d_Wi_open_27 : decode b_Wi_open 27 = .ok (.bipush 15, 2) := by decide +kernel
theorem d_Wi_open_29 : decode b_Wi_open 29 = .ok (.ishr, 1) := by decide +kernel
theorem d_Wi_open_30 : decode b_Wi_open 30 = .ok (.bipush 31, 2) := by decide +kernel
theorem d_Wi_open_32 : decode b_Wi_open 32 = .ok (.iand, 1) := by decide +kernel
theorem d_Wi_open_33 : decode b_Wi_open 33 = .ok (.istore 4, 2) := by decide +kernel
theorem d_Wi_open_35 : decode b_Wi_open 35 = .ok (.iload 4, 2) := by decide +kernel
theorem d_Wi_open_37 : decode b_Wi_open 37 = .ok (.iload_n 3, 1) := by decide +kernel
theorem d_Wi_open_38 : decode b_Wi_open 38 = .ok (.if_icmp .ge 11, 3) := by decide +kernel
theorem d_Wi_open_41 : decode b_Wi_open 41 = .ok (.iload 4, 2) := by decide +kernel
theorem d_Wi_open_43 : decode b_Wi_open 43 = .ok (.bipush 32, 2) := by decide +kernel
theorem d_Wi_open_45 : decode b_Wi_open 45 = .ok (.iadd, 1) := by decide +kernel
theorem d_Wi_open_46 : decode b_Wi_open 46 = .ok (.goto 5, 3) := by decide +kernel
theorem d_Wi_open_49 : decode b_Wi_open 49 = .ok (.iload 4, 2) := by decide +kernel
theorem d_Wi_open_51 : decode b_Wi_open 51 = .ok (.istore 5, 2) := by decide +kernel
theorem d_Wi_open_53 : decode b_Wi_open 53 = .ok (.aload_n 0, 1) := by decide +kernel
theorem d_Wi_open_54 : decode b_Wi_open 54 = .ok (.iload_n 2, 1) := by decide +kernel
theorem d_Wi_open_55 : decode b_Wi_open 55 = .ok (.iconst 2, 1) := by decide +kernel
theorem d_Wi_open_56 : decode b_Wi_open 56 = .ok (.iadd, 1) := by decide +kernel
theorem d_Wi_open_57 : decode b_Wi_open 57 = .ok (.iload_n 3, 1) := by decide +kernel
theorem d_Wi_open_58 : decode b_Wi_open 58 = .ok (.iadd, 1) := by decide +kernel
theorem d_Wi_open_59 : decode b_Wi_open 59 = .ok (.putfield 9, 3) := by decide +kernel
theorem d_Wi_open_62 : decode b_Wi_open 62 = .ok (.aload_n 0, 1) := by decide +kernel
theorem d_Wi_open_63 : decode b_Wi_open 63 = .ok (.iload_n 2, 1) := by decide +kernel
theorem d_Wi_open_64 : decode b_Wi_open 64 = .ok (.iconst 2, 1) := by decide +kernel
theorem d_Wi_open_65 : decode b_Wi_open 65 = .ok (.iadd, 1) := by decide +kernel
theorem d_Wi_open_66 : decode b_Wi_open 66 = .ok (.iload 5, 2) := by decide +kernel
theorem d_Wi_open_68 : decode b_Wi_open 68 = .ok (.iadd, 1) := by decide +kernel
theorem d_Wi_open_69 : decode b_Wi_open 69 = .ok (.putfield 24, 3) := by decide +kernel
theorem d_Wi_open_72 : decode b_Wi_open 72 = .ok (.aload_n 0, 1) := by decide +kernel
theorem d_Wi_open_73 : decode b_Wi_open 73 = .ok (.aload_n 0, 1) := by decide +kernel
theorem d_Wi_open_74 : decode b_Wi_open 74 = .ok (.iload_n 1, 1) := by decide +kernel
theorem d_Wi_open_75 : decode b_Wi_open 75 = .ok (.bipush 8, 2) := by decide +kernel
theorem d_Wi_open_77 : decode b_Wi_open 77 = .ok (.ishr, 1) := by decide +kernel
theorem d_Wi_open_78 : decode b_Wi_open 78 = .ok (.iconst 3, 1) := by decide +kernel
theorem d_Wi_open_79 : decode b_Wi_open 79 = .ok (.iand, 1) := by decide +kernel
theorem d_Wi_open_80 : decode b_Wi_open 80 = .ok (.invokevirtual 27, 3) := by decide +kernel
theorem d_Wi_open_83 : decode b_Wi_open 83 = .ok (.putfield 15, 3) := by decide +kernel
theorem d_Wi_open_86 : decode b_Wi_open 86 = .ok (.return_, 1) := by decide +kernel
theorem d_Wi_lastOf_0 : decode b_Wi_lastOf 0 = .ok (.iload_n 1, 1) := by decide +kernel
theorem d_Wi_lastOf_1 : decode b_Wi_lastOf 1 = .ok (.iconst 2, 1) := by decide +kernel
theorem d_Wi_lastOf_2 : decode b_Wi_lastOf 2 = .ok (.if_icmp .ne 8, 3) := by decide +kernel
theorem d_Wi_lastOf_5 : decode b_Wi_lastOf 5 = .ok (.aload_n 0, 1) := by decide +kernel
theorem d_Wi_lastOf_6 : decode b_Wi_lastOf 6 = .ok (.getfield 24, 3) := by decide +kernel
theorem d_Wi_lastOf_9 : decode b_Wi_lastOf 9 = .ok (.ireturn, 1) := by decide +kernel
theorem d_Wi_lastOf_10 : decode b_Wi_lastOf 10 = .ok (.iload_n 1, 1) := by decide +kernel
theorem d_Wi_lastOf_11 : decode b_Wi_lastOf 11 = .ok (.iconst 1, 1) := by decide +kernel
theorem d_Wi_lastOf_12 : decode b_Wi_lastOf 12 = .ok (.if_icmp .ne 12, 3) := by decide +kernel
theorem d_Wi_lastOf_15 : decode b_Wi_lastOf 15 = .ok (.aload_n 0, 1) := by decide +kernel
theorem d_Wi_lastOf_16 : decode b_Wi_lastOf 16 = .ok (.getfield 9, 3) := by decide +kernel
theorem d_Wi_lastOf_19 : decode b_Wi_lastOf 19 = .ok (.iconst 1, 1) := by decide +kernel
theorem d_Wi_lastOf_20 : decode b_Wi_lastOf 20 = .ok (.iadd, 1) := by decide +kernel
theorem d_Wi_lastOf_21 : decode b_Wi_lastOf 21 = .ok (.goto 7, 3) := by decide +kernel
theorem d_Wi_lastOf_24 : decode b_Wi_lastOf 24 = .ok (.aload_n 0, 1) := by decide +kernel
theorem d_Wi_lastOf_25 : decode b_Wi_lastOf 25 = .ok (.getfield 9, 3) := by decide +kernel
theorem d_Wi_lastOf_28 : decode b_Wi_lastOf 28 = .ok (.ireturn, 1) := by decide +kernel
theorem d_Wi_covers_0 : decode b_Wi_covers 0 = .ok (.iload_n 1, 1) := by decide +kernel
theorem d_Wi_covers_1 : decode b_Wi_covers 1 = .ok (.aload_n 0, 1) := by decide +kernel
theorem d_Wi_covers_2 : decode b_Wi_covers 2 = .ok (.getfield 9, 3) := by decide +kernel
theorem d_Wi_covers_5 : decode b_Wi_covers 5 = .ok (.if_icmp .lt 15, 3) := by decide +kernel
theorem d_Wi_covers_8 : decode b_Wi_covers 8 = .ok (.iload_n 1, 1) := by decide +kernel
theorem d_Wi_covers_9 : decode b_Wi_covers 9 = .ok (.aload_n 0, 1) := by decide +kernel
theorem d_Wi_covers_10 : decode b_Wi_covers 10 = .ok (.getfield 15, 3) := by decide +kernel
theorem d_Wi_covers_13 : decode b_Wi_covers 13 = .ok (.if_icmp .gt 7, 3) := by decide +kernel
theorem d_Wi_covers_16 : decode b_Wi_covers 16 = .ok (.iconst 1, 1) := by decide +kernel
theorem d_Wi_covers_17 : decode b_Wi_covers 17 = .ok (.goto 4, 3) := by decide +kernel
theorem d_Wi_covers_20 : decode b_Wi_covers 20 = .ok (.iconst 0, 1) := by decide +kernel
theorem d_Wi_covers_21 : decode b_Wi_covers 21 = .ok (.ireturn, 1) := by decide +kernel
theorem d_Lw_law_0 : decode b_Lw_law 0 = .ok (.new 7, 3) := by decide +kernel
theorem d_Lw_law_3 : decode b_Lw_law 3 = .ok (.dup, 1) := by decide +kernel
theorem d_Lw_law_4 : decode b_Lw_law 4 = .ok (.invokespecial 9, 3) := by decide +kernel
theorem d_Lw_law_7 : decode b_Lw_law 7 = .ok (.astore_n 1, 1) := by decide +kernel
theorem d_Lw_law_8 : decode b_Lw_law 8 = .ok (.new 10, 3) := by decide +kernel
theorem d_Lw_law_11 : decode b_Lw_law 11 = .ok (.dup, 1) := by decide +kernel
theorem d_Lw_law_12 : decode b_Lw_law 12 = .ok (.invokespecial 12, 3) := by decide +kernel
theorem d_Lw_law_15 : decode b_Lw_law 15 = .ok (.astore_n 2, 1) := by decide +kernel
theorem d_Lw_law_16 : decode b_Lw_law 16 = .ok (.iconst 0, 1) := by decide +kernel
theorem d_Lw_law_17 : decode b_Lw_law 17 = .ok (.istore_n 3, 1) := by decide +kernel
theorem d_Lw_law_18 : decode b_Lw_law 18 = .ok (.iload_n 3, 1) := by decide +kernel
theorem d_Lw_law_19 : decode b_Lw_law 19 = .ok (.aload_n 0, 1) := by decide +kernel
theorem d_Lw_law_20 : decode b_Lw_law 20 = .ok (.arraylength, 1) := by decide +kernel
theorem d_Lw_law_21 : decode b_Lw_law 21 = .ok (.bipush 6, 2) := by decide +kernel
theorem d_Lw_law_23 : decode b_Lw_law 23 = .ok (.isub, 1) := by decide +kernel
theorem d_Lw_law_24 : decode b_Lw_law 24 = .ok (.if_icmp .gt 500, 3) := by decide +kernel
theorem d_Lw_law_27 : decode b_Lw_law 27 = .ok (.aload_n 0, 1) := by decide +kernel
theorem d_Lw_law_28 : decode b_Lw_law 28 = .ok (.iload_n 3, 1) := by decide +kernel
theorem d_Lw_law_29 : decode b_Lw_law 29 = .ok (.iaload, 1) := by decide +kernel
theorem d_Lw_law_30 : decode b_Lw_law 30 = .ok (.bipush 15, 2) := by decide +kernel
theorem d_Lw_law_32 : decode b_Lw_law 32 = .ok (.iand, 1) := by decide +kernel
theorem d_Lw_law_33 : decode b_Lw_law 33 = .ok (.tableswitch 485 0 13 #[71, 114, 159, 184, 217, 240, 263, 296, 329, 352, 415, 426, 439, 462], 71) := by decide +kernel
theorem d_Lw_law_104 : decode b_Lw_law 104 = .ok (.aload_n 1, 1) := by decide +kernel
theorem d_Lw_law_105 : decode b_Lw_law 105 = .ok (.aload_n 0, 1) := by decide +kernel
theorem d_Lw_law_106 : decode b_Lw_law 106 = .ok (.iload_n 3, 1) := by decide +kernel
theorem d_Lw_law_107 : decode b_Lw_law 107 = .ok (.iconst 1, 1) := by decide +kernel
theorem d_Lw_law_108 : decode b_Lw_law 108 = .ok (.iadd, 1) := by decide +kernel
theorem d_Lw_law_109 : decode b_Lw_law 109 = .ok (.iaload, 1) := by decide +kernel
theorem d_Lw_law_110 : decode b_Lw_law 110 = .ok (.aload_n 0, 1) := by decide +kernel
theorem d_Lw_law_111 : decode b_Lw_law 111 = .ok (.iload_n 3, 1) := by decide +kernel
theorem d_Lw_law_112 : decode b_Lw_law 112 = .ok (.iconst 2, 1) := by decide +kernel
theorem d_Lw_law_113 : decode b_Lw_law 113 = .ok (.iadd, 1) := by decide +kernel
theorem d_Lw_law_114 : decode b_Lw_law 114 = .ok (.iaload, 1) := by decide +kernel
theorem d_Lw_law_115 : decode b_Lw_law 115 = .ok (.aload_n 0, 1) := by decide +kernel
theorem d_Lw_law_116 : decode b_Lw_law 116 = .ok (.iload_n 3, 1) := by decide +kernel
theorem d_Lw_law_117 : decode b_Lw_law 117 = .ok (.iconst 3, 1) := by decide +kernel
theorem d_Lw_law_118 : decode b_Lw_law 118 = .ok (.iadd, 1) := by decide +kernel
theorem d_Lw_law_119 : decode b_Lw_law 119 = .ok (.iaload, 1) := by decide +kernel
theorem d_Lw_law_120 : decode b_Lw_law 120 = .ok (.invokevirtual 13, 3) := by decide +kernel
theorem d_Lw_law_123 : decode b_Lw_law 123 = .ok (.aload_n 2, 1) := by decide +kernel
theorem d_Lw_law_124 : decode b_Lw_law 124 = .ok (.aload_n 0, 1) := by decide +kernel
theorem d_Lw_law_125 : decode b_Lw_law 125 = .ok (.iload_n 3, 1) := by decide +kernel
theorem d_Lw_law_126 : decode b_Lw_law 126 = .ok (.iconst 1, 1) := by decide +kernel
theorem d_Lw_law_127 : decode b_Lw_law 127 = .ok (.iadd, 1) := by decide +kernel
theorem d_Lw_law_128 : decode b_Lw_law 128 = .ok (.iaload, 1) := by decide +kernel
theorem d_Lw_law_129 : decode b_Lw_law 129 = .ok (.aload_n 0, 1) := by decide +kernel
theorem d_Lw_law_130 : decode b_Lw_law 130 = .ok (.iload_n 3, 1) := by decide +kernel
theorem d_Lw_law_131 : decode b_Lw_law 131 = .ok (.iconst 2, 1) := by decide +kernel
theorem d_Lw_law_132 : decode b_Lw_law 132 = .ok (.iadd, 1) := by decide +kernel
theorem d_Lw_law_133 : decode b_Lw_law 133 = .ok (.iaload, 1) := by decide +kernel
theorem d_Lw_law_134 : decode b_Lw_law 134 = .ok (.aload_n 0, 1) := by decide +kernel
theorem d_Lw_law_135 : decode b_Lw_law 135 = .ok (.iload_n 3, 1) := by decide +kernel
theorem d_Lw_law_136 : decode b_Lw_law 136 = .ok (.iconst 3, 1) := by decide +kernel
theorem d_Lw_law_137 : decode b_Lw_law 137 = .ok (.iadd, 1) := by decide +kernel
theorem d_Lw_law_138 : decode b_Lw_law 138 = .ok (.iaload, 1) := by decide +kernel
theorem d_Lw_law_139 : decode b_Lw_law 139 = .ok (.invokevirtual 17, 3) := by decide +kernel
theorem d_Lw_law_142 : decode b_Lw_law 142 = .ok (.if_icmp .eq 376, 3) := by decide +kernel
theorem d_Lw_law_145 : decode b_Lw_law 145 = .ok (.iconst 0, 1) := by decide +kernel
theorem d_Lw_law_146 : decode b_Lw_law 146 = .ok (.ireturn, 1) := by decide +kernel
theorem d_Lw_law_147 : decode b_Lw_law 147 = .ok (.aload_n 1, 1) := by decide +kernel
theorem d_Lw_law_148 : decode b_Lw_law 148 = .ok (.aload_n 0, 1) := by decide +kernel
theorem d_Lw_law_149 : decode b_Lw_law 149 = .ok (.iload_n 3, 1) := by decide +kernel
theorem d_Lw_law_150 : decode b_Lw_law 150 = .ok (.iconst 1, 1) := by decide +kernel
theorem d_Lw_law_151 : decode b_Lw_law 151 = .ok (.iadd, 1) := by decide +kernel
theorem d_Lw_law_152 : decode b_Lw_law 152 = .ok (.iaload, 1) := by decide +kernel
theorem d_Lw_law_153 : decode b_Lw_law 153 = .ok (.aload_n 0, 1) := by decide +kernel
theorem d_Lw_law_154 : decode b_Lw_law 154 = .ok (.iload_n 3, 1) := by decide +kernel
theorem d_Lw_law_155 : decode b_Lw_law 155 = .ok (.iconst 2, 1) := by decide +kernel
theorem d_Lw_law_156 : decode b_Lw_law 156 = .ok (.iadd, 1) := by decide +kernel
theorem d_Lw_law_157 : decode b_Lw_law 157 = .ok (.iaload, 1) := by decide +kernel
theorem d_Lw_law_158 : decode b_Lw_law 158 = .ok (.aload_n 0, 1) := by decide +kernel
theorem d_Lw_law_159 : decode b_Lw_law 159 = .ok (.iload_n 3, 1) := by decide +kernel
theorem d_Lw_law_160 : decode b_Lw_law 160 = .ok (.iconst 3, 1) := by decide +kernel
theorem d_Lw_law_161 : decode b_Lw_law 161 = .ok (.iadd, 1) := by decide +kernel
theorem d_Lw_law_162 : decode b_Lw_law 162 = .ok (.iaload, 1) := by decide +kernel
theorem d_Lw_law_163 : decode b_Lw_law 163 = .ok (.i2s, 1) := by decide +kernel
theorem d_Lw_law_164 : decode b_Lw_law 164 = .ok (.invokevirtual 18, 3) := by decide +kernel
theorem d_Lw_law_167 : decode b_Lw_law 167 = .ok (.aload_n 2, 1) := by decide +kernel
theorem d_Lw_law_168 : decode b_Lw_law 168 = .ok (.aload_n 0, 1) := by decide +kernel
theorem d_Lw_law_169 : decode b_Lw_law 169 = .ok (.iload_n 3, 1) := by decide +kernel
theorem d_Lw_law_170 : decode b_Lw_law 170 = .ok (.iconst 1, 1) := by decide +kernel
theorem d_Lw_law_171 : decode b_Lw_law 171 = .ok (.iadd, 1) := by decide +kernel
theorem d_Lw_law_172 : decode b_Lw_law 172 = .ok (.iaload, 1) := by decide +kernel
theorem d_Lw_law_173 : decode b_Lw_law 173 = .ok (.aload_n 0, 1) := by decide +kernel
theorem d_Lw_law_174 : decode b_Lw_law 174 = .ok (.iload_n 3, 1) := by decide +kernel
theorem d_Lw_law_175 : decode b_Lw_law 175 = .ok (.iconst 2, 1) := by decide +kernel
theorem d_Lw_law_176 : decode b_Lw_law 176 = .ok (.iadd, 1) := by decide +kernel
theorem d_Lw_law_177 : decode b_Lw_law 177 = .ok (.iaload, 1) := by decide +kernel
theorem d_Lw_law_178 : decode b_Lw_law 178 = .ok (.aload_n 0, 1) := by decide +kernel
theorem d_Lw_law_179 : decode b_Lw_law 179 = .ok (.iload_n 3, 1) := by decide +kernel
theorem d_Lw_law_180 : decode b_Lw_law 180 = .ok (.iconst 3, 1) := by decide +kernel
theorem d_Lw_law_181 : decode b_Lw_law 181 = .ok (.iadd, 1) := by decide +kernel
theorem d_Lw_law_182 : decode b_Lw_law 182 = .ok (.iaload, 1) := by decide +kernel
theorem d_Lw_law_183 : decode b_Lw_law 183 = .ok (.i2s, 1) := by decide +kernel
theorem d_Lw_law_184 : decode b_Lw_law 184 = .ok (.invokevirtual 22, 3) := by decide +kernel
theorem d_Lw_law_187 : decode b_Lw_law 187 = .ok (.if_icmp .eq 331, 3) := by decide +kernel
theorem d_Lw_law_190 : decode b_Lw_law 190 = .ok (.iconst 0, 1) := by decide +kernel
theorem d_Lw_law_191 : decode b_Lw_law 191 = .ok (.ireturn, 1) := by decide +kernel
theorem d_Lw_law_192 : decode b_Lw_law 192 = .ok (.aload_n 1, 1) := by decide +kernel
theorem d_Lw_law_193 : decode b_Lw_law 193 = .ok (.aload_n 0, 1) := by decide +kernel
theorem d_Lw_law_194 : decode b_Lw_law 194 = .ok (.iload_n 3, 1) := by decide +kernel
theorem d_Lw_law_195 : decode b_Lw_law 195 = .ok (.iconst 1, 1) := by decide +kernel
theorem d_Lw_law_196 : decode b_Lw_law 196 = .ok (.iadd, 1) := by decide +kernel
theorem d_Lw_law_197 : decode b_Lw_law 197 = .ok (.iaload, 1) := by decide +kernel
theorem d_Lw_law_198 : decode b_Lw_law 198 = .ok (.i2s, 1) := by decide +kernel
theorem d_Lw_law_199 : decode b_Lw_law 199 = .ok (.invokevirtual 23, 3) := by decide +kernel
theorem d_Lw_law_202 : decode b_Lw_law 202 = .ok (.aload_n 2, 1) := by decide +kernel
theorem d_Lw_law_203 : decode b_Lw_law 203 = .ok (.aload_n 0, 1) := by decide +kernel
theorem d_Lw_law_204 : decode b_Lw_law 204 = .ok (.iload_n 3, 1) := by decide +kernel
theorem d_Lw_law_205 : decode b_Lw_law 205 = .ok (.iconst 1, 1) := by decide +kernel
theorem d_Lw_law_206 : decode b_Lw_law 206 = .ok (.iadd, 1) := by decide +kernel
theorem d_Lw_law_207 : decode b_Lw_law 207 = .ok (.iaload, 1) := by decide +kernel
theorem d_Lw_law_208 : decode b_Lw_law 208 = .ok (.i2s, 1) := by decide +kernel
theorem d_Lw_law_209 : decode b_Lw_law 209 = .ok (.invokevirtual 27, 3) := by decide +kernel
theorem d_Lw_law_212 : decode b_Lw_law 212 = .ok (.if_icmp .eq 306, 3) := by decide +kernel
theorem d_Lw_law_215 : decode b_Lw_law 215 = .ok (.iconst 0, 1) := by decide +kernel
theorem d_Lw_law_216 : decode b_Lw_law 216 = .ok (.ireturn, 1) := by decide +kernel
theorem d_Lw_law_217 : decode b_Lw_law 217 = .ok (.aload_n 1, 1) := by decide +kernel
theorem d_Lw_law_218 : decode b_Lw_law 218 = .ok (.aload_n 0, 1) := by decide +kernel
theorem d_Lw_law_219 : decode b_Lw_law 219 = .ok (.iload_n 3, 1) := by decide +kernel
theorem d_Lw_law_220 : decode b_Lw_law 220 = .ok (.iconst 1, 1) := by decide +kernel
theorem d_Lw_law_221 : decode b_Lw_law 221 = .ok (.iadd, 1) := by decide +kernel
theorem d_Lw_law_222 : decode b_Lw_law 222 = .ok (.iaload, 1) := by decide +kernel
theorem d_Lw_law_223 : decode b_Lw_law 223 = .ok (.aload_n 0, 1) := by decide +kernel
theorem d_Lw_law_224 : decode b_Lw_law 224 = .ok (.iload_n 3, 1) := by decide +kernel
theorem d_Lw_law_225 : decode b_Lw_law 225 = .ok (.iconst 2, 1) := by decide +kernel
theorem d_Lw_law_226 : decode b_Lw_law 226 = .ok (.iadd, 1) := by decide +kernel
theorem d_Lw_law_227 : decode b_Lw_law 227 = .ok (.iaload, 1) := by decide +kernel
theorem d_Lw_law_228 : decode b_Lw_law 228 = .ok (.invokevirtual 28, 3) := by decide +kernel
theorem d_Lw_law_231 : decode b_Lw_law 231 = .ok (.aload_n 2, 1) := by decide +kernel
theorem d_Lw_law_232 : decode b_Lw_law 232 = .ok (.aload_n 0, 1) := by decide +kernel
theorem d_Lw_law_233 : decode b_Lw_law 233 = .ok (.iload_n 3, 1) := by decide +kernel
theorem d_Lw_law_234 : decode b_Lw_law 234 = .ok (.iconst 1, 1) := by decide +kernel
theorem d_Lw_law_235 : decode b_Lw_law 235 = .ok (.iadd, 1) := by decide +kernel
theorem d_Lw_law_236 : decode b_Lw_law 236 = .ok (.iaload, 1) := by decide +kernel
theorem d_Lw_law_237 : decode b_Lw_law 237 = .ok (.aload_n 0, 1) := by decide +kernel
theorem d_Lw_law_238 : decode b_Lw_law 238 = .ok (.iload_n 3, 1) := by decide +kernel
theorem d_Lw_law_239 : decode b_Lw_law 239 = .ok (.iconst 2, 1) := by decide +kernel
theorem d_Lw_law_240 : decode b_Lw_law 240 = .ok (.iadd, 1) := by decide +kernel
theorem d_Lw_law_241 : decode b_Lw_law 241 = .ok (.iaload, 1) := by decide +kernel
theorem d_Lw_law_242 : decode b_Lw_law 242 = .ok (.invokevirtual 32, 3) := by decide +kernel
theorem d_Lw_law_245 : decode b_Lw_law 245 = .ok (.if_icmp .eq 273, 3) := by decide +kernel
theorem d_Lw_law_248 : decode b_Lw_law 248 = .ok (.iconst 0, 1) := by decide +kernel
theorem d_Lw_law_249 : decode b_Lw_law 249 = .ok (.ireturn, 1) := by decide +kernel
theorem d_Lw_law_250 : decode b_Lw_law 250 = .ok (.aload_n 1, 1) := by decide +kernel
theorem d_Lw_law_251 : decode b_Lw_law 251 = .ok (.aload_n 0, 1) := by decide +kernel
theorem d_Lw_law_252 : decode b_Lw_law 252 = .ok (.iload_n 3, 1) := by decide +kernel
theorem d_Lw_law_253 : decode b_Lw_law 253 = .ok (.iconst 1, 1) := by decide +kernel
theorem d_Lw_law_254 : decode b_Lw_law 254 = .ok (.iadd, 1) := by decide +kernel
theorem d_Lw_law_255 : decode b_Lw_law 255 = .ok (.iaload, 1) := by decide +kernel
theorem d_Lw_law_256 : decode b_Lw_law 256 = .ok (.invokevirtual 33, 3) := by decide +kernel
theorem d_Lw_law_259 : decode b_Lw_law 259 = .ok (.aload_n 2, 1) := by decide +kernel
theorem d_Lw_law_260 : decode b_Lw_law 260 = .ok (.aload_n 0, 1) := by decide +kernel
theorem d_Lw_law_261 : decode b_Lw_law 261 = .ok (.iload_n 3, 1) := by decide +kernel
theorem d_Lw_law_262 : decode b_Lw_law 262 = .ok (.iconst 1, 1) := by decide +kernel
theorem d_Lw_law_263 : decode b_Lw_law 263 = .ok (.iadd, 1) := by decide +kernel
theorem d_Lw_law_264 : decode b_Lw_law 264 = .ok (.iaload, 1) := by decide +kernel
theorem d_Lw_law_265 : decode b_Lw_law 265 = .ok (.invokevirtual 37, 3) := by decide +kernel
theorem d_Lw_law_268 : decode b_Lw_law 268 = .ok (.if_icmp .eq 250, 3) := by decide +kernel
theorem d_Lw_law_271 : decode b_Lw_law 271 = .ok (.iconst 0, 1) := by decide +kernel
theorem d_Lw_law_272 : decode b_Lw_law 272 = .ok (.ireturn, 1) := by decide +kernel
theorem d_Lw_law_273 : decode b_Lw_law 273 = .ok (.aload_n 1, 1) := by decide +kernel
theorem d_Lw_law_274 : decode b_Lw_law 274 = .ok (.aload_n 0, 1) := by decide +kernel
theorem d_Lw_law_275 : decode b_Lw_law 275 = .ok (.iload_n 3, 1) := by decide +kernel
theorem d_Lw_law_276 : decode b_Lw_law 276 = .ok (.iconst 1, 1) := by decide +kernel
theorem d_Lw_law_277 : decode b_Lw_law 277 = .ok (.iadd, 1) := by decide +kernel
theorem d_Lw_law_278 : decode b_Lw_law 278 = .ok (.iaload, 1) := by decide +kernel
theorem d_Lw_law_279 : decode b_Lw_law 279 = .ok (.invokevirtual 38, 3) := by decide +kernel
theorem d_Lw_law_282 : decode b_Lw_law 282 = .ok (.aload_n 2, 1) := by decide +kernel
theorem d_Lw_law_283 : decode b_Lw_law 283 = .ok (.aload_n 0, 1) := by decide +kernel
theorem d_Lw_law_284 : decode b_Lw_law 284 = .ok (.iload_n 3, 1) := by decide +kernel
theorem d_Lw_law_285 : decode b_Lw_law 285 = .ok (.iconst 1, 1) := by decide +kernel
theorem d_Lw_law_286 : decode b_Lw_law 286 = .ok (.iadd, 1) := by decide +kernel
theorem d_Lw_law_287 : decode b_Lw_law 287 = .ok (.iaload, 1) := by decide +kernel
theorem d_Lw_law_288 : decode b_Lw_law 288 = .ok (.invokevirtual 41, 3) := by decide +kernel
theorem d_Lw_law_291 : decode b_Lw_law 291 = .ok (.if_icmp .eq 227, 3) := by decide +kernel
theorem d_Lw_law_294 : decode b_Lw_law 294 = .ok (.iconst 0, 1) := by decide +kernel
theorem d_Lw_law_295 : decode b_Lw_law 295 = .ok (.ireturn, 1) := by decide +kernel
theorem d_Lw_law_296 : decode b_Lw_law 296 = .ok (.aload_n 1, 1) := by decide +kernel
theorem d_Lw_law_297 : decode b_Lw_law 297 = .ok (.aload_n 0, 1) := by decide +kernel
theorem d_Lw_law_298 : decode b_Lw_law 298 = .ok (.iload_n 3, 1) := by decide +kernel
theorem d_Lw_law_299 : decode b_Lw_law 299 = .ok (.iconst 1, 1) := by decide +kernel
theorem d_Lw_law_300 : decode b_Lw_law 300 = .ok (.iadd, 1) := by decide +kernel
theorem d_Lw_law_301 : decode b_Lw_law 301 = .ok (.iaload, 1) := by decide +kernel
theorem d_Lw_law_302 : decode b_Lw_law 302 = .ok (.aload_n 0, 1) := by decide +kernel
theorem d_Lw_law_303 : decode b_Lw_law 303 = .ok (.iload_n 3, 1) := by decide +kernel
theorem d_Lw_law_304 : decode b_Lw_law 304 = .ok (.iconst 2, 1) := by decide +kernel
theorem d_Lw_law_305 : decode b_Lw_law 305 = .ok (.iadd, 1) := by decide +kernel
theorem d_Lw_law_306 : decode b_Lw_law 306 = .ok (.iaload, 1) := by decide +kernel
theorem d_Lw_law_307 : decode b_Lw_law 307 = .ok (.invokevirtual 42, 3) := by decide +kernel
theorem d_Lw_law_310 : decode b_Lw_law 310 = .ok (.aload_n 2, 1) := by decide +kernel
theorem d_Lw_law_311 : decode b_Lw_law 311 = .ok (.aload_n 0, 1) := by decide +kernel
theorem d_Lw_law_312 : decode b_Lw_law 312 = .ok (.iload_n 3, 1) := by decide +kernel
theorem d_Lw_law_313 : decode b_Lw_law 313 = .ok (.iconst 1, 1) := by decide +kernel
theorem d_Lw_law_314 : decode b_Lw_law 314 = .ok (.iadd, 1) := by decide +kernel
theorem d_Lw_law_315 : decode b_Lw_law 315 = .ok (.iaload, 1) := by decide +kernel
theorem d_Lw_law_316 : decode b_Lw_law 316 = .ok (.aload_n 0, 1) := by decide +kernel
theorem d_Lw_law_317 : decode b_Lw_law 317 = .ok (.iload_n 3, 1) := by decide +kernel
theorem d_Lw_law_318 : decode b_Lw_law 318 = .ok (.iconst 2, 1) := by decide +kernel
theorem d_Lw_law_319 : decode b_Lw_law 319 = .ok (.iadd, 1) := by decide +kernel
theorem d_Lw_law_320 : decode b_Lw_law 320 = .ok (.iaload, 1) := by decide +kernel
theorem d_Lw_law_321 : decode b_Lw_law 321 = .ok (.invokevirtual 46, 3) := by decide +kernel
theorem d_Lw_law_324 : decode b_Lw_law 324 = .ok (.if_icmp .eq 194, 3) := by decide +kernel
theorem d_Lw_law_327 : decode b_Lw_law 327 = .ok (.iconst 0, 1) := by decide +kernel
theorem d_Lw_law_328 : decode b_Lw_law 328 = .ok (.ireturn, 1) := by decide +kernel
theorem d_Lw_law_329 : decode b_Lw_law 329 = .ok (.aload_n 1, 1) := by decide +kernel
theorem d_Lw_law_330 : decode b_Lw_law 330 = .ok (.aload_n 0, 1) := by decide +kernel
theorem d_Lw_law_331 : decode b_Lw_law 331 = .ok (.iload_n 3, 1) := by decide +kernel
theorem d_Lw_law_332 : decode b_Lw_law 332 = .ok (.iconst 1, 1) := by decide +kernel
theorem d_Lw_law_333 : decode b_Lw_law 333 = .ok (.iadd, 1) := by decide +kernel
theorem d_Lw_law_334 : decode b_Lw_law 334 = .ok (.iaload, 1) := by decide +kernel
theorem d_Lw_law_335 : decode b_Lw_law 335 = .ok (.aload_n 0, 1) := by decide +kernel
theorem d_Lw_law_336 : decode b_Lw_law 336 = .ok (.iload_n 3, 1) := by decide +kernel
theorem d_Lw_law_337 : decode b_Lw_law 337 = .ok (.iconst 2, 1) := by decide +kernel
theorem d_Lw_law_338 : decode b_Lw_law 338 = .ok (.iadd, 1) := by decide +kernel
theorem d_Lw_law_339 : decode b_Lw_law 339 = .ok (.iaload, 1) := by decide +kernel
theorem d_Lw_law_340 : decode b_Lw_law 340 = .ok (.invokevirtual 47, 3) := by decide +kernel
theorem d_Lw_law_343 : decode b_Lw_law 343 = .ok (.aload_n 2, 1) := by decide +kernel
theorem d_Lw_law_344 : decode b_Lw_law 344 = .ok (.aload_n 0, 1) := by decide +kernel
theorem d_Lw_law_345 : decode b_Lw_law 345 = .ok (.iload_n 3, 1) := by decide +kernel
theorem d_Lw_law_346 : decode b_Lw_law 346 = .ok (.iconst 1, 1) := by decide +kernel
theorem d_Lw_law_347 : decode b_Lw_law 347 = .ok (.iadd, 1) := by decide +kernel
theorem d_Lw_law_348 : decode b_Lw_law 348 = .ok (.iaload, 1) := by decide +kernel
theorem d_Lw_law_349 : decode b_Lw_law 349 = .ok (.aload_n 0, 1) := by decide +kernel
theorem d_Lw_law_350 : decode b_Lw_law 350 = .ok (.iload_n 3, 1) := by decide +kernel
theorem d_Lw_law_351 : decode b_Lw_law 351 = .ok (.iconst 2, 1) := by decide +kernel
theorem d_Lw_law_352 : decode b_Lw_law 352 = .ok (.iadd, 1) := by decide +kernel
theorem d_Lw_law_353 : decode b_Lw_law 353 = .ok (.iaload, 1) := by decide +kernel
theorem d_Lw_law_354 : decode b_Lw_law 354 = .ok (.invokevirtual 51, 3) := by decide +kernel
theorem d_Lw_law_357 : decode b_Lw_law 357 = .ok (.if_icmp .eq 161, 3) := by decide +kernel
theorem d_Lw_law_360 : decode b_Lw_law 360 = .ok (.iconst 0, 1) := by decide +kernel
theorem d_Lw_law_361 : decode b_Lw_law 361 = .ok (.ireturn, 1) := by decide +kernel
theorem d_Lw_law_362 : decode b_Lw_law 362 = .ok (.aload_n 1, 1) := by decide +kernel
theorem d_Lw_law_363 : decode b_Lw_law 363 = .ok (.aload_n 0, 1) := by decide +kernel
theorem d_Lw_law_364 : decode b_Lw_law 364 = .ok (.iload_n 3, 1) := by decide +kernel
theorem d_Lw_law_365 : decode b_Lw_law 365 = .ok (.iconst 1, 1) := by decide +kernel
theorem d_Lw_law_366 : decode b_Lw_law 366 = .ok (.iadd, 1) := by decide +kernel
theorem d_Lw_law_367 : decode b_Lw_law 367 = .ok (.iaload, 1) := by decide +kernel
theorem d_Lw_law_368 : decode b_Lw_law 368 = .ok (.invokevirtual 52, 3) := by decide +kernel
theorem d_Lw_law_371 : decode b_Lw_law 371 = .ok (.aload_n 2, 1) := by decide +kernel
theorem d_Lw_law_372 : decode b_Lw_law 372 = .ok (.aload_n 0, 1) := by decide +kernel
theorem d_Lw_law_373 : decode b_Lw_law 373 = .ok (.iload_n 3, 1) := by decide +kernel
theorem d_Lw_law_374 : decode b_Lw_law 374 = .ok (.iconst 1, 1) := by decide +kernel
theorem d_Lw_law_375 : decode b_Lw_law 375 = .ok (.iadd, 1) := by decide +kernel
theorem d_Lw_law_376 : decode b_Lw_law 376 = .ok (.iaload, 1) := by decide +kernel
theorem d_Lw_law_377 : decode b_Lw_law 377 = .ok (.invokevirtual 56, 3) := by decide +kernel
theorem d_Lw_law_380 : decode b_Lw_law 380 = .ok (.if_icmp .eq 138, 3) := by decide +kernel
theorem d_Lw_law_383 : decode b_Lw_law 383 = .ok (.iconst 0, 1) := by decide +kernel
theorem d_Lw_law_384 : decode b_Lw_law 384 = .ok (.ireturn, 1) := by decide +kernel
theorem d_Lw_law_385 : decode b_Lw_law 385 = .ok (.aload_n 1, 1) := by decide +kernel
theorem d_Lw_law_386 : decode b_Lw_law 386 = .ok (.aload_n 0, 1) := by decide +kernel
theorem d_Lw_law_387 : decode b_Lw_law 387 = .ok (.iload_n 3, 1) := by decide +kernel
theorem d_Lw_law_388 : decode b_Lw_law 388 = .ok (.iconst 1, 1) := by decide +kernel
theorem d_Lw_law_389 : decode b_Lw_law 389 = .ok (.iadd, 1) := by decide +kernel
theorem d_Lw_law_390 : decode b_Lw_law 390 = .ok (.iaload, 1) := by decide +kernel
theorem d_Lw_law_391 : decode b_Lw_law 391 = .ok (.aload_n 0, 1) := by decide +kernel
theorem d_Lw_law_392 : decode b_Lw_law 392 = .ok (.iload_n 3, 1) := by decide +kernel
theorem d_Lw_law_393 : decode b_Lw_law 393 = .ok (.iconst 2, 1) := by decide +kernel
theorem d_Lw_law_394 : decode b_Lw_law 394 = .ok (.iadd, 1) := by decide +kernel
theorem d_Lw_law_395 : decode b_Lw_law 395 = .ok (.iaload, 1) := by decide +kernel
theorem d_Lw_law_396 : decode b_Lw_law 396 = .ok (.aload_n 0, 1) := by decide +kernel
theorem d_Lw_law_397 : decode b_Lw_law 397 = .ok (.iload_n 3, 1) := by decide +kernel

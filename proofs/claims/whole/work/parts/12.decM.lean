/-! the instructions -/
theorem d_M_init_0 : decode (zb m_M_init) 0 = .ok (.aload_n 0, 1) := by decide +kernel
theorem d_M_init_1 : decode (zb m_M_init) 1 = .ok (.invokespecial 1, 3) := by decide +kernel
theorem d_M_init_4 : decode (zb m_M_init) 4 = .ok (.aload_n 0, 1) := by decide +kernel
theorem d_M_init_5 : decode (zb m_M_init) 5 = .ok (.bipush 36, 2) := by decide +kernel
theorem d_M_init_7 : decode (zb m_M_init) 7 = .ok (.newarray .int, 2) := by decide +kernel
theorem d_M_init_9 : decode (zb m_M_init) 9 = .ok (.putfield 7, 3) := by decide +kernel
theorem d_M_init_12 : decode (zb m_M_init) 12 = .ok (.aload_n 0, 1) := by decide +kernel
theorem d_M_init_13 : decode (zb m_M_init) 13 = .ok (.iconst 3, 1) := by decide +kernel
theorem d_M_init_14 : decode (zb m_M_init) 14 = .ok (.newarray .int, 2) := by decide +kernel
theorem d_M_init_16 : decode (zb m_M_init) 16 = .ok (.putfield 13, 3) := by decide +kernel
theorem d_M_init_19 : decode (zb m_M_init) 19 = .ok (.aload_n 0, 1) := by decide +kernel
theorem d_M_init_20 : decode (zb m_M_init) 20 = .ok (.bipush 15, 2) := by decide +kernel
theorem d_M_init_22 : decode (zb m_M_init) 22 = .ok (.newarray .int, 2) := by decide +kernel
theorem d_M_init_24 : decode (zb m_M_init) 24 = .ok (.putfield 16, 3) := by decide +kernel
theorem d_M_init_27 : decode (zb m_M_init) 27 = .ok (.aload_n 0, 1) := by decide +kernel
theorem d_M_init_28 : decode (zb m_M_init) 28 = .ok (.iconst 3, 1) := by decide +kernel
theorem d_M_init_29 : decode (zb m_M_init) 29 = .ok (.newarray .int, 2) := by decide +kernel
theorem d_M_init_31 : decode (zb m_M_init) 31 = .ok (.putfield 19, 3) := by decide +kernel
theorem d_M_init_34 : decode (zb m_M_init) 34 = .ok (.aload_n 0, 1) := by decide +kernel
theorem d_M_init_35 : decode (zb m_M_init) 35 = .ok (.bipush 72, 2) := by decide +kernel
theorem d_M_init_37 : decode (zb m_M_init) 37 = .ok (.newarray .int, 2) := by decide +kernel
theorem d_M_init_39 : decode (zb m_M_init) 39 = .ok (.putfield 22, 3) := by decide +kernel
theorem d_M_init_42 : decode (zb m_M_init) 42 = .ok (.aload_n 0, 1) := by decide +kernel
theorem d_M_init_43 : decode (zb m_M_init) 43 = .ok (.bipush 6, 2) := by decide +kernel
theorem d_M_init_45 : decode (zb m_M_init) 45 = .ok (.newarray .int, 2) := by decide +kernel
theorem d_M_init_47 : decode (zb m_M_init) 47 = .ok (.putfield 25, 3) := by decide +kernel
theorem d_M_init_50 : decode (zb m_M_init) 50 = .ok (.aload_n 0, 1) := by decide +kernel
theorem d_M_init_51 : decode (zb m_M_init) 51 = .ok (.bipush 18, 2) := by decide +kernel
theorem d_M_init_53 : decode (zb m_M_init) 53 = .ok (.newarray .int, 2) := by decide +kernel
theorem d_M_init_55 : decode (zb m_M_init) 55 = .ok (.putfield 28, 3) := by decide +kernel
theorem d_M_init_58 : decode (zb m_M_init) 58 = .ok (.aload_n 0, 1) := by decide +kernel
theorem d_M_init_59 : decode (zb m_M_init) 59 = .ok (.bipush 62, 2) := by decide +kernel
theorem d_M_init_61 : decode (zb m_M_init) 61 = .ok (.newarray .int, 2) := by decide +kernel
theorem d_M_init_63 : decode (zb m_M_init) 63 = .ok (.putfield 31, 3) := by decide +kernel
theorem d_M_init_66 : decode (zb m_M_init) 66 = .ok (.aload_n 0, 1) := by decide +kernel
theorem d_M_init_67 : decode (zb m_M_init) 67 = .ok (.bipush 12, 2) := by decide +kernel
theorem d_M_init_69 : decode (zb m_M_init) 69 = .ok (.newarray .int, 2) := by decide +kernel
theorem d_M_init_71 : decode (zb m_M_init) 71 = .ok (.putfield 34, 3) := by decide +kernel
theorem d_M_init_74 : decode (zb m_M_init) 74 = .ok (.aload_n 0, 1) := by decide +kernel
theorem d_M_init_75 : decode (zb m_M_init) 75 = .ok (.bipush 48, 2) := by decide +kernel
theorem d_M_init_77 : decode (zb m_M_init) 77 = .ok (.newarray .int, 2) := by decide +kernel
theorem d_M_init_79 : decode (zb m_M_init) 79 = .ok (.putfield 37, 3) := by decide +kernel
theorem d_M_init_82 : decode (zb m_M_init) 82 = .ok (.aload_n 0, 1) := by decide +kernel
theorem d_M_init_83 : decode (zb m_M_init) 83 = .ok (.bipush 20, 2) := by decide +kernel
theorem d_M_init_85 : decode (zb m_M_init) 85 = .ok (.newarray .int, 2) := by decide +kernel
theorem d_M_init_87 : decode (zb m_M_init) 87 = .ok (.putfield 40, 3) := by decide +kernel
theorem d_M_init_90 : decode (zb m_M_init) 90 = .ok (.aload_n 0, 1) := by decide +kernel
theorem d_M_init_91 : decode (zb m_M_init) 91 = .ok (.iconst 4, 1) := by decide +kernel
theorem d_M_init_92 : decode (zb m_M_init) 92 = .ok (.newarray .int, 2) := by decide +kernel
theorem d_M_init_94 : decode (zb m_M_init) 94 = .ok (.putfield 43, 3) := by decide +kernel
theorem d_M_init_97 : decode (zb m_M_init) 97 = .ok (.aload_n 0, 1) := by decide +kernel
theorem d_M_init_98 : decode (zb m_M_init) 98 = .ok (.sipush 248, 3) := by decide +kernel
theorem d_M_init_101 : decode (zb m_M_init) 101 = .ok (.newarray .int, 2) := by decide +kernel
theorem d_M_init_103 : decode (zb m_M_init) 103 = .ok (.putfield 46, 3) := by decide +kernel
theorem d_M_init_106 : decode (zb m_M_init) 106 = .ok (.aload_n 0, 1) := by decide +kernel
theorem d_M_init_107 : decode (zb m_M_init) 107 = .ok (.sipush 1296, 3) := by decide +kernel
theorem d_M_init_110 : decode (zb m_M_init) 110 = .ok (.newarray .long, 2) := by decide +kernel
theorem d_M_init_112 : decode (zb m_M_init) 112 = .ok (.putfield 49, 3) := by decide +kernel
theorem d_M_init_115 : decode (zb m_M_init) 115 = .ok (.aload_n 0, 1) := by decide +kernel
theorem d_M_init_116 : decode (zb m_M_init) 116 = .ok (.sipush 1296, 3) := by decide +kernel
theorem d_M_init_119 : decode (zb m_M_init) 119 = .ok (.newarray .int, 2) := by decide +kernel
theorem d_M_init_121 : decode (zb m_M_init) 121 = .ok (.putfield 53, 3) := by decide +kernel
theorem d_M_init_124 : decode (zb m_M_init) 124 = .ok (.aload_n 0, 1) := by decide +kernel
theorem d_M_init_125 : decode (zb m_M_init) 125 = .ok (.iconst 5, 1) := by decide +kernel
theorem d_M_init_126 : decode (zb m_M_init) 126 = .ok (.newarray .int, 2) := by decide +kernel
theorem d_M_init_128 : decode (zb m_M_init) 128 = .ok (.putfield 56, 3) := by decide +kernel
theorem d_M_init_131 : decode (zb m_M_init) 131 = .ok (.aload_n 0, 1) := by decide +kernel
theorem d_M_init_132 : decode (zb m_M_init) 132 = .ok (.iconst 5, 1) := by decide +kernel
theorem d_M_init_133 : decode (zb m_M_init) 133 = .ok (.newarray .int, 2) := by decide +kernel
theorem d_M_init_135 : decode (zb m_M_init) 135 = .ok (.putfield 59, 3) := by decide +kernel
theorem d_M_init_138 : decode (zb m_M_init) 138 = .ok (.aload_n 0, 1) := by decide +kernel
theorem d_M_init_139 : decode (zb m_M_init) 139 = .ok (.iconst 5, 1) := by decide +kernel
theorem d_M_init_140 : decode (zb m_M_init) 140 = .ok (.newarray .int, 2) := by decide +kernel
theorem d_M_init_142 : decode (zb m_M_init) 142 = .ok (.putfield 62, 3) := by decide +kernel
theorem d_M_init_145 : decode (zb m_M_init) 145 = .ok (.aload_n 0, 1) := by decide +kernel
theorem d_M_init_146 : decode (zb m_M_init) 146 = .ok (.bipush 60, 2) := by decide +kernel
theorem d_M_init_148 : decode (zb m_M_init) 148 = .ok (.newarray .int, 2) := by decide +kernel
theorem d_M_init_150 : decode (zb m_M_init) 150 = .ok (.putfield 65, 3) := by decide +kernel
theorem d_M_init_153 : decode (zb m_M_init) 153 = .ok (.aload_n 0, 1) := by decide +kernel
theorem d_M_init_154 : decode (zb m_M_init) 154 = .ok (.sipush 300, 3) := by decide +kernel
theorem d_M_init_157 : decode (zb m_M_init) 157 = .ok (.newarray .int, 2) := by decide +kernel
theorem d_M_init_159 : decode (zb m_M_init) 159 = .ok (.putfield 68, 3) := by decide +kernel
theorem d_M_init_162 : decode (zb m_M_init) 162 = .ok (.aload_n 0, 1) := by decide +kernel
theorem d_M_init_163 : decode (zb m_M_init) 163 = .ok (.iconst 2, 1) := by decide +kernel
theorem d_M_init_164 : decode (zb m_M_init) 164 = .ok (.newarray .boolean, 2) := by decide +kernel
theorem d_M_init_166 : decode (zb m_M_init) 166 = .ok (.putfield 71, 3) := by decide +kernel
theorem d_M_init_169 : decode (zb m_M_init) 169 = .ok (.iconst 0, 1) := by decide +kernel
theorem d_M_init_170 : decode (zb m_M_init) 170 = .ok (.istore_n 1, 1) := by decide +kernel
theorem d_M_init_171 : decode (zb m_M_init) 171 = .ok (.iconst 0, 1) := by decide +kernel
theorem d_M_init_172 : decode (zb m_M_init) 172 = .ok (.istore_n 2, 1) := by decide +kernel
theorem d_M_init_173 : decode (zb m_M_init) 173 = .ok (.iload_n 2, 1) := by decide +kernel
theorem d_M_init_174 : decode (zb m_M_init) 174 = .ok (.sipush 300, 3) := by decide +kernel
theorem d_M_init_177 : decode (zb m_M_init) 177 = .ok (.if_icmp .ge 26, 3) := by decide +kernel
theorem d_M_init_180 : decode (zb m_M_init) 180 = .ok (.iload_n 2, 1) := by decide +kernel
theorem d_M_init_181 : decode (zb m_M_init) 181 = .ok (.invokestatic 75, 3) := by decide +kernel
theorem d_M_init_184 : decode (zb m_M_init) 184 = .ok (.ifCond .eq 13, 3) := by decide +kernel
theorem d_M_init_187 : decode (zb m_M_init) 187 = .ok (.aload_n 0, 1) := by decide +kernel
theorem d_M_init_188 : decode (zb m_M_init) 188 = .ok (.getfield 31, 3) := by decide +kernel
theorem d_M_init_191 : decode (zb m_M_init) 191 = .ok (.iload_n 1, 1) := by decide +kernel
theorem d_M_init_192 : decode (zb m_M_init) 192 = .ok (.iload_n 2, 1) := by decide +kernel
theorem d_M_init_193 : decode (zb m_M_init) 193 = .ok (.iastore, 1) := by decide +kernel
theorem d_M_init_194 : decode (zb m_M_init) 194 = .ok (.iinc 1 1, 3) := by decide +kernel
theorem d_M_init_197 : decode (zb m_M_init) 197 = .ok (.iinc 2 1, 3) := by decide +kernel
theorem d_M_init_200 : decode (zb m_M_init) 200 = .ok (.goto (-27), 3) := by decide +kernel
theorem d_M_init_203 : decode (zb m_M_init) 203 = .ok (.return_, 1) := by decide +kernel
theorem d_M_in_0 : decode (zb m_M_in) 0 = .ok (.iload_n 0, 1) := by decide +kernel
theorem d_M_in_1 : decode (zb m_M_in) 1 = .ok (.iload_n 1, 1) := by decide +kernel
theorem d_M_in_2 : decode (zb m_M_in) 2 = .ok (.if_icmp .lt 12, 3) := by decide +kernel
theorem d_M_in_5 : decode (zb m_M_in) 5 = .ok (.iload_n 0, 1) := by decide +kernel
theorem d_M_in_6 : decode (zb m_M_in) 6 = .ok (.iload_n 2, 1) := by decide +kernel
theorem d_M_in_7 : decode (zb m_M_in) 7 = .ok (.if_icmp .gt 7, 3) := by decide +kernel
theorem d_M_in_10 : decode (zb m_M_in) 10 = .ok (.iconst 1, 1) := by decide +kernel
theorem d_M_in_11 : decode (zb m_M_in) 11 = .ok (.goto 4, 3) := by decide +kernel
theorem d_M_in_14 : decode (zb m_M_in) 14 = .ok (.iconst 0, 1) := by decide +kernel
theorem d_M_in_15 : decode (zb m_M_in) 15 = .ok (.ireturn, 1) := by decide +kernel
theorem d_M_isCode_0 : decode (zb m_M_isCode) 0 = .ok (.iload_n 0, 1) := by decide +kernel
theorem d_M_isCode_1 : decode (zb m_M_isCode) 1 = .ok (.bipush 100, 2) := by decide +kernel
theorem d_M_isCode_3 : decode (zb m_M_isCode) 3 = .ok (.if_icmp .ge 30, 3) := by decide +kernel
theorem d_M_isCode_6 : decode (zb m_M_isCode) 6 = .ok (.iload_n 0, 1) := by decide +kernel
theorem d_M_isCode_7 : decode (zb m_M_isCode) 7 = .ok (.iconst 0, 1) := by decide +kernel
theorem d_M_isCode_8 : decode (zb m_M_isCode) 8 = .ok (.bipush 12, 2) := by decide +kernel
theorem d_M_isCode_10 : decode (zb m_M_isCode) 10 = .ok (.invokestatic 79, 3) := by decide +kernel
theorem d_M_isCode_13 : decode (zb m_M_isCode) 13 = .ok (.ifCond .ne 14, 3) := by decide +kernel
theorem d_M_isCode_16 : decode (zb m_M_isCode) 16 = .ok (.iload_n 0, 1) := by decide +kernel
theorem d_M_isCode_17 : decode (zb m_M_isCode) 17 = .ok (.bipush 20, 2) := by decide +kernel
theorem d_M_isCode_19 : decode (zb m_M_isCode) 19 = .ok (.bipush 32, 2) := by decide +kernel
theorem d_M_isCode_21 : decode (zb m_M_isCode) 21 = .ok (.invokestatic 79, 3) := by decide +kernel
theorem d_M_isCode_24 : decode (zb m_M_isCode) 24 = .ok (.ifCond .eq 7, 3) := by decide +kernel
theorem d_M_isCode_27 : decode (zb m_M_isCode) 27 = .ok (.iconst 1, 1) := by decide +kernel
theorem d_M_isCode_28 : decode (zb m_M_isCode) 28 = .ok (.goto 4, 3) := by decide +kernel
theorem d_M_isCode_31 : decode (zb m_M_isCode) 31 = .ok (.iconst 0, 1) := by decide +kernel
theorem d_M_isCode_32 : decode (zb m_M_isCode) 32 = .ok (.ireturn, 1) := by decide +kernel
theorem d_M_isCode_33 : decode (zb m_M_isCode) 33 = .ok (.iload_n 0, 1) := by decide +kernel
theorem d_M_isCode_34 : decode (zb m_M_isCode) 34 = .ok (.bipush 100, 2) := by decide +kernel
theorem d_M_isCode_36 : decode (zb m_M_isCode) 36 = .ok (.irem, 1) := by decide +kernel
theorem d_M_isCode_37 : decode (zb m_M_isCode) 37 = .ok (.istore_n 1, 1) := by decide +kernel
theorem d_M_isCode_38 : decode (zb m_M_isCode) 38 = .ok (.iload_n 0, 1) := by decide +kernel
theorem d_M_isCode_39 : decode (zb m_M_isCode) 39 = .ok (.sipush 300, 3) := by decide +kernel
theorem d_M_isCode_42 : decode (zb m_M_isCode) 42 = .ok (.if_icmp .ge 34, 3) := by decide +kernel
theorem d_M_isCode_45 : decode (zb m_M_isCode) 45 = .ok (.iload_n 1, 1) := by decide +kernel
theorem d_M_isCode_46 : decode (zb m_M_isCode) 46 = .ok (.bipush 60, 2) := by decide +kernel
theorem d_M_isCode_48 : decode (zb m_M_isCode) 48 = .ok (.if_icmp .ge 28, 3) := by decide +kernel
theorem d_M_isCode_51 : decode (zb m_M_isCode) 51 = .ok (.iload_n 1, 1) := by decide +kernel
theorem d_M_isCode_52 : decode (zb m_M_isCode) 52 = .ok (.bipush 20, 2) := by decide +kernel
theorem d_M_isCode_54 : decode (zb m_M_isCode) 54 = .ok (.irem, 1) := by decide +kernel
theorem d_M_isCode_55 : decode (zb m_M_isCode) 55 = .ok (.iconst 0, 1) := by decide +kernel
theorem d_M_isCode_56 : decode (zb m_M_isCode) 56 = .ok (.bipush 6, 2) := by decide +kernel
theorem d_M_isCode_58 : decode (zb m_M_isCode) 58 = .ok (.invokestatic 79, 3) := by decide +kernel
theorem d_M_isCode_61 : decode (zb m_M_isCode) 61 = .ok (.ifCond .eq 15, 3) := by decide +kernel
theorem d_M_isCode_64 : decode (zb m_M_isCode) 64 = .ok (.iload_n 1, 1) := by decide +kernel
theorem d_M_isCode_65 : decode (zb m_M_isCode) 65 = .ok (.bipush 20, 2) := by decide +kernel
theorem d_M_isCode_67 : decode (zb m_M_isCode) 67 = .ok (.irem, 1) := by decide +kernel
theorem d_M_isCode_68 : decode (zb m_M_isCode) 68 = .ok (.iconst 3, 1) := by decide +kernel
theorem d_M_isCode_69 : decode (zb m_M_isCode) 69 = .ok (.if_icmp .eq 7, 3) := by decide +kernel
theorem d_M_isCode_72 : decode (zb m_M_isCode) 72 = .ok (.iconst 1, 1) := by decide +kernel
theorem d_M_isCode_73 : decode (zb m_M_isCode) 73 = .ok (.goto 4, 3) := by decide +kernel
theorem d_M_isCode_76 : decode (zb m_M_isCode) 76 = .ok (.iconst 0, 1) := by decide +kernel
theorem d_M_isCode_77 : decode (zb m_M_isCode) 77 = .ok (.ireturn, 1) := by decide +kernel
theorem d_M_costOfMark_0 : decode (zb m_M_costOfMark) 0 = .ok (.iload_n 0, 1) := by decide +kernel
theorem d_M_costOfMark_1 : decode (zb m_M_costOfMark) 1 = .ok (.bipush 100, 2) := by decide +kernel
theorem d_M_costOfMark_3 : decode (zb m_M_costOfMark) 3 = .ok (.if_icmp .ge 7, 3) := by decide +kernel
theorem d_M_costOfMark_6 : decode (zb m_M_costOfMark) 6 = .ok (.iconst 3, 1) := by decide +kernel
theorem d_M_costOfMark_7 : decode (zb m_M_costOfMark) 7 = .ok (.goto 30, 3) := by decide +kernel
theorem d_M_costOfMark_10 : decode (zb m_M_costOfMark) 10 = .ok (.iload_n 0, 1) := by decide +kernel
theorem d_M_costOfMark_11 : decode (zb m_M_costOfMark) 11 = .ok (.bipush 100, 2) := by decide +kernel
theorem d_M_costOfMark_13 : decode (zb m_M_costOfMark) 13 = .ok (.irem, 1) := by decide +kernel
theorem d_M_costOfMark_14 : decode (zb m_M_costOfMark) 14 = .ok (.bipush 20, 2) := by decide +kernel
theorem d_M_costOfMark_16 : decode (zb m_M_costOfMark) 16 = .ok (.irem, 1) := by decide +kernel
theorem d_M_costOfMark_17 : decode (zb m_M_costOfMark) 17 = .ok (.iconst 4, 1) := by decide +kernel
theorem d_M_costOfMark_18 : decode (zb m_M_costOfMark) 18 = .ok (.if_icmp .eq 14, 3) := by decide +kernel
theorem d_M_costOfMark_21 : decode (zb m_M_costOfMark) 21 = .ok (.iload_n 0, 1) := by decide +kernel
theorem d_M_costOfMark_22 : decode (zb m_M_costOfMark) 22 = .ok (.bipush 100, 2) := by decide +kernel
theorem d_M_costOfMark_24 : decode (zb m_M_costOfMark) 24 = .ok (.irem, 1) := by decide +kernel
theorem d_M_costOfMark_25 : decode (zb m_M_costOfMark) 25 = .ok (.bipush 20, 2) := by decide +kernel
theorem d_M_costOfMark_27 : decode (zb m_M_costOfMark) 27 = .ok (.irem, 1) := by decide +kernel
theorem d_M_costOfMark_28 : decode (zb m_M_costOfMark) 28 = .ok (.iconst 2, 1) := by decide +kernel
theorem d_M_costOfMark_29 : decode (zb m_M_costOfMark) 29 = .ok (.if_icmp .ne 7, 3) := by decide +kernel
theorem d_M_costOfMark_32 : decode (zb m_M_costOfMark) 32 = .ok (.iconst 1, 1) := by decide +kernel
theorem d_M_costOfMark_33 : decode (zb m_M_costOfMark) 33 = .ok (.goto 4, 3) := by decide +kernel
theorem d_M_costOfMark_36 : decode (zb m_M_costOfMark) 36 = .ok (.iconst 2, 1) := by decide +kernel
theorem d_M_costOfMark_37 : decode (zb m_M_costOfMark) 37 = .ok (.ireturn, 1) := by decide +kernel
theorem d_M_classOf_0 : decode (zb m_M_classOf) 0 = .ok (.iload_n 0, 1) := by decide +kernel
theorem d_M_classOf_1 : decode (zb m_M_classOf) 1 = .ok (.bipush 97, 2) := by decide +kernel
theorem d_M_classOf_3 : decode (zb m_M_classOf) 3 = .ok (.bipush 101, 2) := by decide +kernel
theorem d_M_classOf_5 : decode (zb m_M_classOf) 5 = .ok (.invokestatic 79, 3) := by decide +kernel
theorem d_M_classOf_8 : decode (zb m_M_classOf) 8 = .ok (.ifCond .eq 7, 3) := by decide +kernel
theorem d_M_classOf_11 : decode (zb m_M_classOf) 11 = .ok (.iconst 0, 1) := by decide +kernel
theorem d_M_classOf_12 : decode (zb m_M_classOf) 12 = .ok (.goto 36, 3) := by decide +kernel
theorem d_M_classOf_15 : decode (zb m_M_classOf) 15 = .ok (.iload_n 0, 1) := by decide +kernel
theorem d_M_classOf_16 : decode (zb m_M_classOf) 16 = .ok (.bipush 48, 2) := by decide +kernel
theorem d_M_classOf_18 : decode (zb m_M_classOf) 18 = .ok (.bipush 52, 2) := by decide +kernel
theorem d_M_classOf_20 : decode (zb m_M_classOf) 20 = .ok (.invokestatic 79, 3) := by decide +kernel
theorem d_M_classOf_23 : decode (zb m_M_classOf) 23 = .ok (.ifCond .eq 7, 3) := by decide +kernel
theorem d_M_classOf_26 : decode (zb m_M_classOf) 26 = .ok (.iconst 1, 1) := by decide +kernel
theorem d_M_classOf_27 : decode (zb m_M_classOf) 27 = .ok (.goto 21, 3) := by decide +kernel
theorem d_M_classOf_30 : decode (zb m_M_classOf) 30 = .ok (.iload_n 0, 1) := by decide +kernel
theorem d_M_classOf_31 : decode (zb m_M_classOf) 31 = .ok (.bipush 45, 2) := by decide +kernel
theorem d_M_classOf_33 : decode (zb m_M_classOf) 33 = .ok (.if_icmp .eq 9, 3) := by decide +kernel
theorem d_M_classOf_36 : decode (zb m_M_classOf) 36 = .ok (.iload_n 0, 1) := by decide +kernel
theorem d_M_classOf_37 : decode (zb m_M_classOf) 37 = .ok (.bipush 46, 2) := by decide +kernel
theorem d_M_classOf_39 : decode (zb m_M_classOf) 39 = .ok (.if_icmp .ne 7, 3) := by decide +kernel
theorem d_M_classOf_42 : decode (zb m_M_classOf) 42 = .ok (.iconst 2, 1) := by decide +kernel
theorem d_M_classOf_43 : decode (zb m_M_classOf) 43 = .ok (.goto 5, 3) := by decide +kernel
theorem d_M_classOf_46 : decode (zb m_M_classOf) 46 = .ok (.bipush (-6), 2) := by decide +kernel
theorem d_M_classOf_48 : decode (zb m_M_classOf) 48 = .ok (.ireturn, 1) := by decide +kernel
theorem d_M_say_0 : decode (zb m_M_say) 0 = .ok (.iload_n 1, 1) := by decide +kernel
theorem d_M_say_1 : decode (zb m_M_say) 1 = .ok (.bipush 33, 2) := by decide +kernel
theorem d_M_say_3 : decode (zb m_M_say) 3 = .ok (.bipush 126, 2) := by decide +kernel
theorem d_M_say_5 : decode (zb m_M_say) 5 = .ok (.invokestatic 79, 3) := by decide +kernel
theorem d_M_say_8 : decode (zb m_M_say) 8 = .ok (.ifCond .ne 6, 3) := by decide +kernel
theorem d_M_say_11 : decode (zb m_M_say) 11 = .ok (.bipush (-2), 2) := by decide +kernel
theorem d_M_say_13 : decode (zb m_M_say) 13 = .ok (.ireturn, 1) := by decide +kernel
theorem d_M_say_14 : decode (zb m_M_say) 14 = .ok (.aload_n 0, 1) := by decide +kernel
theorem d_M_say_15 : decode (zb m_M_say) 15 = .ok (.getfield 83, 3) := by decide +kernel
theorem d_M_say_18 : decode (zb m_M_say) 18 = .ok (.bipush 18, 2) := by decide +kernel
theorem d_M_say_20 : decode (zb m_M_say) 20 = .ok (.if_icmp .ne 6, 3) := by decide +kernel
theorem d_M_say_23 : decode (zb m_M_say) 23 = .ok (.bipush (-4), 2) := by decide +kernel
theorem d_M_say_25 : decode (zb m_M_say) 25 = .ok (.ireturn, 1) := by decide +kernel
theorem d_M_say_26 : decode (zb m_M_say) 26 = .ok (.aload_n 0, 1) := by decide +kernel
theorem d_M_say_27 : decode (zb m_M_say) 27 = .ok (.getfield 28, 3) := by decide +kernel
theorem d_M_say_30 : decode (zb m_M_say) 30 = .ok (.aload_n 0, 1) := by decide +kernel
theorem d_M_say_31 : decode (zb m_M_say) 31 = .ok (.getfield 83, 3) := by decide +kernel
theorem d_M_say_34 : decode (zb m_M_say) 34 = .ok (.iload_n 1, 1) := by decide +kernel
theorem d_M_say_35 : decode (zb m_M_say) 35 = .ok (.iastore, 1) := by decide +kernel
theorem d_M_say_36 : decode (zb m_M_say) 36 = .ok (.aload_n 0, 1) := by decide +kernel
theorem d_M_say_37 : decode (zb m_M_say) 37 = .ok (.dup, 1) := by decide +kernel
theorem d_M_say_38 : decode (zb m_M_say) 38 = .ok (.getfield 83, 3) := by decide +kernel
theorem d_M_say_41 : decode (zb m_M_say) 41 = .ok (.iconst 1, 1) := by decide +kernel
theorem d_M_say_42 : decode (zb m_M_say) 42 = .ok (.iadd, 1) := by decide +kernel
theorem d_M_say_43 : decode (zb m_M_say) 43 = .ok (.putfield 83, 3) := by decide +kernel
theorem d_M_say_46 : decode (zb m_M_say) 46 = .ok (.aload_n 0, 1) := by decide +kernel
theorem d_M_say_47 : decode (zb m_M_say) 47 = .ok (.getfield 83, 3) := by decide +kernel
theorem d_M_say_50 : decode (zb m_M_say) 50 = .ok (.ireturn, 1) := by decide +kernel
theorem d_M_wipe_0 : decode (zb m_M_wipe) 0 = .ok (.aload_n 0, 1) := by decide +kernel
theorem d_M_wipe_1 : decode (zb m_M_wipe) 1 = .ok (.getfield 83, 3) := by decide +kernel
theorem d_M_wipe_4 : decode (zb m_M_wipe) 4 = .ok (.istore_n 1, 1) := by decide +kernel
theorem d_M_wipe_5 : decode (zb m_M_wipe) 5 = .ok (.aload_n 0, 1) := by decide +kernel
theorem d_M_wipe_6 : decode (zb m_M_wipe) 6 = .ok (.iconst 0, 1) := by decide +kernel
theorem d_M_wipe_7 : decode (zb m_M_wipe) 7 = .ok (.putfield 83, 3) := by decide +kernel
theorem d_M_wipe_10 : decode (zb m_M_wipe) 10 = .ok (.iload_n 1, 1) := by decide +kernel
theorem d_M_wipe_11 : decode (zb m_M_wipe) 11 = .ok (.ireturn, 1) := by decide +kernel
theorem d_M_exampleFault_0 : decode (zb m_M_exampleFault) 0 = .ok (.bipush (-6), 2) := by decide +kernel
theorem d_M_exampleFault_2 : decode (zb m_M_exampleFault) 2 = .ok (.istore_n 1, 1) := by decide +kernel
theorem d_M_exampleFault_3 : decode (zb m_M_exampleFault) 3 = .ok (.iconst 0, 1) := by decide +kernel
theorem d_M_exampleFault_4 : decode (zb m_M_exampleFault) 4 = .ok (.istore_n 2, 1) := by decide +kernel
theorem d_M_exampleFault_5 : decode (zb m_M_exampleFault) 5 = .ok (.iload_n 2, 1) := by decide +kernel
theorem d_M_exampleFault_6 : decode (zb m_M_exampleFault) 6 = .ok (.aload_n 0, 1) := by decide +kernel
theorem d_M_exampleFault_7 : decode (zb m_M_exampleFault) 7 = .ok (.getfield 83, 3) := by decide +kernel
theorem d_M_exampleFault_10 : decode (zb m_M_exampleFault) 10 = .ok (.if_icmp .ge 110, 3) := by decide +kernel
theorem d_M_exampleFault_13 : decode (zb m_M_exampleFault) 13 = .ok (.aload_n 0, 1) := by decide +kernel
theorem d_M_exampleFault_14 : decode (zb m_M_exampleFault) 14 = .ok (.getfield 28, 3) := by decide +kernel
theorem d_M_exampleFault_17 : decode (zb m_M_exampleFault) 17 = .ok (.iload_n 2, 1) := by decide +kernel
theorem d_M_exampleFault_18 : decode (zb m_M_exampleFault) 18 = .ok (.iaload, 1) := by decide +kernel
theorem d_M_exampleFault_19 : decode (zb m_M_exampleFault) 19 = .ok (.invokestatic 87, 3) := by decide +kernel
theorem d_M_exampleFault_22 : decode (zb m_M_exampleFault) 22 = .ok (.ifCond .lt 7, 3) := by decide +kernel
theorem d_M_exampleFault_25 : decode (zb m_M_exampleFault) 25 = .ok (.iconst 1, 1) := by decide +kernel
theorem d_M_exampleFault_26 : decode (zb m_M_exampleFault) 26 = .ok (.goto 4, 3) := by decide +kernel
theorem d_M_exampleFault_29 : decode (zb m_M_exampleFault) 29 = .ok (.iconst 0, 1) := by decide +kernel
theorem d_M_exampleFault_30 : decode (zb m_M_exampleFault) 30 = .ok (.istore_n 3, 1) := by decide +kernel
theorem d_M_exampleFault_31 : decode (zb m_M_exampleFault) 31 = .ok (.iload_n 1, 1) := by decide +kernel
theorem d_M_exampleFault_32 : decode (zb m_M_exampleFault) 32 = .ok (.ifCond .ge 40, 3) := by decide +kernel
theorem d_M_exampleFault_35 : decode (zb m_M_exampleFault) 35 = .ok (.iload_n 3, 1) := by decide +kernel
theorem d_M_exampleFault_36 : decode (zb m_M_exampleFault) 36 = .ok (.ifCond .eq 17, 3) := by decide +kernel
theorem d_M_exampleFault_39 : decode (zb m_M_exampleFault) 39 = .ok (.iload_n 2, 1) := by decide +kernel
theorem d_M_exampleFault_40 : decode (zb m_M_exampleFault) 40 = .ok (.bipush 12, 2) := by decide +kernel
theorem d_M_exampleFault_42 : decode (zb m_M_exampleFault) 42 = .ok (.if_icmp .ge 7, 3) := by decide +kernel
theorem d_M_exampleFault_45 : decode (zb m_M_exampleFault) 45 = .ok (.iconst 1, 1) := by decide +kernel
theorem d_M_exampleFault_46 : decode (zb m_M_exampleFault) 46 = .ok (.goto 42, 3) := by decide +kernel
theorem d_M_exampleFault_49 : decode (zb m_M_exampleFault) 49 = .ok (.iconst 0, 1) := by decide +kernel
theorem d_M_exampleFault_50 : decode (zb m_M_exampleFault) 50 = .ok (.goto 38, 3) := by decide +kernel
theorem d_M_exampleFault_53 : decode (zb m_M_exampleFault) 53 = .ok (.aload_n 0, 1) := by decide +kernel
theorem d_M_exampleFault_54 : decode (zb m_M_exampleFault) 54 = .ok (.getfield 28, 3) := by decide +kernel
theorem d_M_exampleFault_57 : decode (zb m_M_exampleFault) 57 = .ok (.iload_n 2, 1) := by decide +kernel
theorem d_M_exampleFault_58 : decode (zb m_M_exampleFault) 58 = .ok (.iaload, 1) := by decide +kernel
theorem d_M_exampleFault_59 : decode (zb m_M_exampleFault) 59 = .ok (.bipush 62, 2) := by decide +kernel
theorem d_M_exampleFault_61 : decode (zb m_M_exampleFault) 61 = .ok (.if_icmp .ne 7, 3) := by decide +kernel
theorem d_M_exampleFault_64 : decode (zb m_M_exampleFault) 64 = .ok (.iconst 1, 1) := by decide +kernel
theorem d_M_exampleFault_65 : decode (zb m_M_exampleFault) 65 = .ok (.goto 23, 3) := by decide +kernel
theorem d_M_exampleFault_68 : decode (zb m_M_exampleFault) 68 = .ok (.iconst 0, 1) := by decide +kernel
theorem d_M_exampleFault_69 : decode (zb m_M_exampleFault) 69 = .ok (.goto 19, 3) := by decide +kernel
theorem d_M_exampleFault_72 : decode (zb m_M_exampleFault) 72 = .ok (.iload_n 3, 1) := by decide +kernel
theorem d_M_exampleFault_73 : decode (zb m_M_exampleFault) 73 = .ok (.ifCond .eq 14, 3) := by decide +kernel
theorem d_M_exampleFault_76 : decode (zb m_M_exampleFault) 76 = .ok (.iload_n 2, 1) := by decide +kernel
theorem d_M_exampleFault_77 : decode (zb m_M_exampleFault) 77 = .ok (.iload_n 1, 1) := by decide +kernel
theorem d_M_exampleFault_78 : decode (zb m_M_exampleFault) 78 = .ok (.isub, 1) := by decide +kernel
theorem d_M_exampleFault_79 : decode (zb m_M_exampleFault) 79 = .ok (.iconst 5, 1) := by decide +kernel
theorem d_M_exampleFault_80 : decode (zb m_M_exampleFault) 80 = .ok (.if_icmp .gt 7, 3) := by decide +kernel
theorem d_M_exampleFault_83 : decode (zb m_M_exampleFault) 83 = .ok (.iconst 1, 1) := by decide +kernel
theorem d_M_exampleFault_84 : decode (zb m_M_exampleFault) 84 = .ok (.goto 4, 3) := by decide +kernel
theorem d_M_exampleFault_87 : decode (zb m_M_exampleFault) 87 = .ok (.iconst 0, 1) := by decide +kernel
theorem d_M_exampleFault_88 : decode (zb m_M_exampleFault) 88 = .ok (.istore 4, 2) := by decide +kernel
theorem d_M_exampleFault_90 : decode (zb m_M_exampleFault) 90 = .ok (.iload 4, 2) := by decide +kernel
theorem d_M_exampleFault_92 : decode (zb m_M_exampleFault) 92 = .ok (.ifCond .ne 5, 3) := by decide +kernel
theorem d_M_exampleFault_95 : decode (zb m_M_exampleFault) 95 = .ok (.iload_n 2, 1) := by decide +kernel
theorem d_M_exampleFault_96 : decode (zb m_M_exampleFault) 96 = .ok (.ireturn, 1) := by decide +kernel
theorem d_M_exampleFault_97 : decode (zb m_M_exampleFault) 97 = .ok (.aload_n 0, 1) := by decide +kernel
theorem d_M_exampleFault_98 : decode (zb m_M_exampleFault) 98 = .ok (.getfield 28, 3) := by decide +kernel
theorem d_M_exampleFault_101 : decode (zb m_M_exampleFault) 101 = .ok (.iload_n 2, 1) := by decide +kernel
theorem d_M_exampleFault_102 : decode (zb m_M_exampleFault) 102 = .ok (.iaload, 1) := by decide +kernel
theorem d_M_exampleFault_103 : decode (zb m_M_exampleFault) 103 = .ok (.bipush 62, 2) := by decide +kernel
theorem d_M_exampleFault_105 : decode (zb m_M_exampleFault) 105 = .ok (.if_icmp .ne 7, 3) := by decide +kernel
theorem d_M_exampleFault_108 : decode (zb m_M_exampleFault) 108 = .ok (.iload_n 2, 1) := by decide +kernel
theorem d_M_exampleFault_109 : decode (zb m_M_exampleFault) 109 = .ok (.goto 4, 3) := by decide +kernel
theorem d_M_exampleFault_112 : decode (zb m_M_exampleFault) 112 = .ok (.iload_n 1, 1) := by decide +kernel
theorem d_M_exampleFault_113 : decode (zb m_M_exampleFault) 113 = .ok (.istore_n 1, 1) := by decide +kernel
theorem d_M_exampleFault_114 : decode (zb m_M_exampleFault) 114 = .ok (.iinc 2 1, 3) := by decide +kernel
theorem d_M_exampleFault_117 : decode (zb m_M_exampleFault) 117 = .ok (.goto (-112), 3) := by decide +kernel
theorem d_M_exampleFault_120 : decode (zb m_M_exampleFault) 120 = .ok (.iload_n 1, 1) := by decide +kernel
theorem d_M_exampleFault_121 : decode (zb m_M_exampleFault) 121 = .ok (.ifCond .lt 13, 3) := by decide +kernel
theorem d_M_exampleFault_124 : decode (zb m_M_exampleFault) 124 = .ok (.iload_n 1, 1) := by decide +kernel
theorem d_M_exampleFault_125 : decode (zb m_M_exampleFault) 125 = .ok (.aload_n 0, 1) := by decide +kernel
theorem d_M_exampleFault_126 : decode (zb m_M_exampleFault) 126 = .ok (.getfield 83, 3) := by decide +kernel
theorem d_M_exampleFault_129 : decode (zb m_M_exampleFault) 129 = .ok (.iconst 1, 1) := by decide +kernel
theorem d_M_exampleFault_130 : decode (zb m_M_exampleFault) 130 = .ok (.isub, 1) := by decide +kernel
theorem d_M_exampleFault_131 : decode (zb m_M_exampleFault) 131 = .ok (.if_icmp .ne 10, 3) := by decide +kernel
theorem d_M_exampleFault_134 : decode (zb m_M_exampleFault) 134 = .ok (.aload_n 0, 1) := by decide +kernel
theorem d_M_exampleFault_135 : decode (zb m_M_exampleFault) 135 = .ok (.getfield 83, 3) := by decide +kernel
theorem d_M_exampleFault_138 : decode (zb m_M_exampleFault) 138 = .ok (.goto 5, 3) := by decide +kernel
theorem d_M_exampleFault_141 : decode (zb m_M_exampleFault) 141 = .ok (.bipush (-6), 2) := by decide +kernel
theorem d_M_exampleFault_143 : decode (zb m_M_exampleFault) 143 = .ok (.ireturn, 1) := by decide +kernel
theorem d_M_lineFault_0 : decode (zb m_M_lineFault) 0 = .ok (.iconst 0, 1) := by decide +kernel
theorem d_M_lineFault_1 : decode (zb m_M_lineFault) 1 = .ok (.istore_n 1, 1) := by decide +kernel
theorem d_M_lineFault_2 : decode (zb m_M_lineFault) 2 = .ok (.iload_n 1, 1) := by decide +kernel
theorem d_M_lineFault_3 : decode (zb m_M_lineFault) 3 = .ok (.aload_n 0, 1) := by decide +kernel
theorem d_M_lineFault_4 : decode (zb m_M_lineFault) 4 = .ok (.getfield 83, 3) := by decide +kernel
theorem d_M_lineFault_7 : decode (zb m_M_lineFault) 7 = .ok (.if_icmp .ge 29, 3) := by decide +kernel
theorem d_M_lineFault_10 : decode (zb m_M_lineFault) 10 = .ok (.aload_n 0, 1) := by decide +kernel
theorem d_M_lineFault_11 : decode (zb m_M_lineFault) 11 = .ok (.getfield 28, 3) := by decide +kernel
theorem d_M_lineFault_14 : decode (zb m_M_lineFault) 14 = .ok (.iload_n 1, 1) := by decide +kernel
theorem d_M_lineFault_15 : decode (zb m_M_lineFault) 15 = .ok (.iaload, 1) := by decide +kernel
theorem d_M_lineFault_16 : decode (zb m_M_lineFault) 16 = .ok (.invokestatic 87, 3) := by decide +kernel
theorem d_M_lineFault_19 : decode (zb m_M_lineFault) 19 = .ok (.ifCond .lt 9, 3) := by decide +kernel
theorem d_M_lineFault_22 : decode (zb m_M_lineFault) 22 = .ok (.iload_n 1, 1) := by decide +kernel
theorem d_M_lineFault_23 : decode (zb m_M_lineFault) 23 = .ok (.bipush 12, 2) := by decide +kernel
theorem d_M_lineFault_25 : decode (zb m_M_lineFault) 25 = .ok (.if_icmp .ne 5, 3) := by decide +kernel
theorem d_M_lineFault_28 : decode (zb m_M_lineFault) 28 = .ok (.iload_n 1, 1) := by decide +kernel
theorem d_M_lineFault_29 : decode (zb m_M_lineFault) 29 = .ok (.ireturn, 1) := by decide +kernel
theorem d_M_lineFault_30 : decode (zb m_M_lineFault) 30 = .ok (.iinc 1 1, 3) := by decide +kernel
theorem d_M_lineFault_33 : decode (zb m_M_lineFault) 33 = .ok (.goto (-31), 3) := by decide +kernel
theorem d_M_lineFault_36 : decode (zb m_M_lineFault) 36 = .ok (.bipush (-6), 2) := by decide +kernel
theorem d_M_lineFault_38 : decode (zb m_M_lineFault) 38 = .ok (.ireturn, 1) := by decide +kernel
theorem d_M_fault_0 : decode (zb m_M_fault) 0 = .ok (.iload_n 1, 1) := by decide +kernel
theorem d_M_fault_1 : decode (zb m_M_fault) 1 = .ok (.ifCond .ne 10, 3) := by decide +kernel
theorem d_M_fault_4 : decode (zb m_M_fault) 4 = .ok (.aload_n 0, 1) := by decide +kernel
theorem d_M_fault_5 : decode (zb m_M_fault) 5 = .ok (.invokevirtual 91, 3) := by decide +kernel
theorem d_M_fault_8 : decode (zb m_M_fault) 8 = .ok (.goto 17, 3) := by decide +kernel
theorem d_M_fault_11 : decode (zb m_M_fault) 11 = .ok (.iload_n 1, 1) := by decide +kernel
theorem d_M_fault_12 : decode (zb m_M_fault) 12 = .ok (.iconst 1, 1) := by decide +kernel
theorem d_M_fault_13 : decode (zb m_M_fault) 13 = .ok (.if_icmp .ne 10, 3) := by decide +kernel
theorem d_M_fault_16 : decode (zb m_M_fault) 16 = .ok (.aload_n 0, 1) := by decide +kernel
theorem d_M_fault_17 : decode (zb m_M_fault) 17 = .ok (.invokevirtual 95, 3) := by decide +kernel
theorem d_M_fault_20 : decode (zb m_M_fault) 20 = .ok (.goto 5, 3) := by decide +kernel
theorem d_M_fault_23 : decode (zb m_M_fault) 23 = .ok (.bipush (-2), 2) := by decide +kernel
theorem d_M_fault_25 : decode (zb m_M_fault) 25 = .ok (.ireturn, 1) := by decide +kernel
theorem d_M_example_0 : decode (zb m_M_example) 0 = .ok (.aload_n 0, 1) := by decide +kernel
theorem d_M_example_1 : decode (zb m_M_example) 1 = .ok (.invokevirtual 91, 3) := by decide +kernel
theorem d_M_example_4 : decode (zb m_M_example) 4 = .ok (.ifCond .lt 6, 3) := by decide +kernel
theorem d_M_example_7 : decode (zb m_M_example) 7 = .ok (.bipush (-5), 2) := by decide +kernel
theorem d_M_example_9 : decode (zb m_M_example) 9 = .ok (.ireturn, 1) := by decide +kernel
theorem d_M_example_10 : decode (zb m_M_example) 10 = .ok (.aload_n 0, 1) := by decide +kernel
theorem d_M_example_11 : decode (zb m_M_example) 11 = .ok (.getfield 98, 3) := by decide +kernel
theorem d_M_example_14 : decode (zb m_M_example) 14 = .ok (.iconst 3, 1) := by decide +kernel
theorem d_M_example_15 : decode (zb m_M_example) 15 = .ok (.if_icmp .ne 6, 3) := by decide +kernel
theorem d_M_example_18 : decode (zb m_M_example) 18 = .ok (.bipush (-4), 2) := by decide +kernel
theorem d_M_example_20 : decode (zb m_M_example) 20 = .ok (.ireturn, 1) := by decide +kernel
theorem d_M_example_21 : decode (zb m_M_example) 21 = .ok (.iconst 0, 1) := by decide +kernel
theorem d_M_example_22 : decode (zb m_M_example) 22 = .ok (.istore_n 1, 1) := by decide +kernel
theorem d_M_example_23 : decode (zb m_M_example) 23 = .ok (.aload_n 0, 1) := by decide +kernel
theorem d_M_example_24 : decode (zb m_M_example) 24 = .ok (.getfield 28, 3) := by decide +kernel
theorem d_M_example_27 : decode (zb m_M_example) 27 = .ok (.iload_n 1, 1) := by decide +kernel
theorem d_M_example_28 : decode (zb m_M_example) 28 = .ok (.iaload, 1) := by decide +kernel
theorem d_M_example_29 : decode (zb m_M_example) 29 = .ok (.bipush 62, 2) := by decide +kernel
theorem d_M_example_31 : decode (zb m_M_example) 31 = .ok (.if_icmp .eq 29, 3) := by decide +kernel
theorem d_M_example_34 : decode (zb m_M_example) 34 = .ok (.aload_n 0, 1) := by decide +kernel
theorem d_M_example_35 : decode (zb m_M_example) 35 = .ok (.getfield 7, 3) := by decide +kernel
theorem d_M_example_38 : decode (zb m_M_example) 38 = .ok (.bipush 12, 2) := by decide +kernel
theorem d_M_example_40 : decode (zb m_M_example) 40 = .ok (.aload_n 0, 1) := by decide +kernel
theorem d_M_example_41 : decode (zb m_M_example) 41 = .ok (.getfield 98, 3) := by decide +kernel
theorem d_M_example_44 : decode (zb m_M_example) 44 = .ok (.imul, 1) := by decide +kernel
theorem d_M_example_45 : decode (zb m_M_example) 45 = .ok (.iload_n 1, 1) := by decide +kernel
theorem d_M_example_46 : decode (zb m_M_example) 46 = .ok (.iadd, 1) := by decide +kernel
theorem d_M_example_47 : decode (zb m_M_example) 47 = .ok (.aload_n 0, 1) := by decide +kernel
theorem d_M_example_48 : decode (zb m_M_example) 48 = .ok (.getfield 28, 3) := by decide +kernel
theorem d_M_example_51 : decode (zb m_M_example) 51 = .ok (.iload_n 1, 1) := by decide +kernel
theorem d_M_example_52 : decode (zb m_M_example) 52 = .ok (.iaload, 1) := by decide +kernel
theorem d_M_example_53 : decode (zb m_M_example) 53 = .ok (.iastore, 1) := by decide +kernel
theorem d_M_example_54 : decode (zb m_M_example) 54 = .ok (.iinc 1 1, 3) := by decide +kernel
theorem d_M_example_57 : decode (zb m_M_example) 57 = .ok (.goto (-34), 3) := by decide +kernel
theorem d_M_example_60 : decode (zb m_M_example) 60 = .ok (.aload_n 0, 1) := by decide +kernel
theorem d_M_example_61 : decode (zb m_M_example) 61 = .ok (.getfield 13, 3) := by decide +kernel
theorem d_M_example_64 : decode (zb m_M_example) 64 = .ok (.aload_n 0, 1) := by decide +kernel
theorem d_M_example_65 : decode (zb m_M_example) 65 = .ok (.getfield 98, 3) := by decide +kernel
theorem d_M_example_68 : decode (zb m_M_example) 68 = .ok (.iload_n 1, 1) := by decide +kernel
theorem d_M_example_69 : decode (zb m_M_example) 69 = .ok (.iastore, 1) := by decide +kernel
theorem d_M_example_70 : decode (zb m_M_example) 70 = .ok (.aload_n 0, 1) := by decide +kernel
theorem d_M_example_71 : decode (zb m_M_example) 71 = .ok (.getfield 19, 3) := by decide +kernel
theorem d_M_example_74 : decode (zb m_M_example) 74 = .ok (.aload_n 0, 1) := by decide +kernel
theorem d_M_example_75 : decode (zb m_M_example) 75 = .ok (.getfield 98, 3) := by decide +kernel
theorem d_M_example_78 : decode (zb m_M_example) 78 = .ok (.aload_n 0, 1) := by decide +kernel
theorem d_M_example_79 : decode (zb m_M_example) 79 = .ok (.getfield 83, 3) := by decide +kernel
theorem d_M_example_82 : decode (zb m_M_example) 82 = .ok (.iload_n 1, 1) := by decide +kernel
theorem d_M_example_83 : decode (zb m_M_example) 83 = .ok (.isub, 1) := by decide +kernel
theorem d_M_example_84 : decode (zb m_M_example) 84 = .ok (.iconst 1, 1) := by decide +kernel
theorem d_M_example_85 : decode (zb m_M_example) 85 = .ok (.isub, 1) := by decide +kernel
theorem d_M_example_86 : decode (zb m_M_example) 86 = .ok (.iastore, 1) := by decide +kernel
theorem d_M_example_87 : decode (zb m_M_example) 87 = .ok (.iconst 0, 1) := by decide +kernel
theorem d_M_example_88 : decode (zb m_M_example) 88 = .ok (.istore_n 2, 1) := by decide +kernel
theorem d_M_example_89 : decode (zb m_M_example) 89 = .ok (.iload_n 2, 1) := by decide +kernel
theorem d_M_example_90 : decode (zb m_M_example) 90 = .ok (.aload_n 0, 1) := by decide +kernel
theorem d_M_example_91 : decode (zb m_M_example) 91 = .ok (.getfield 19, 3) := by decide +kernel
theorem d_M_example_94 : decode (zb m_M_example) 94 = .ok (.aload_n 0, 1) := by decide +kernel
theorem d_M_example_95 : decode (zb m_M_example) 95 = .ok (.getfield 98, 3) := by decide +kernel
theorem d_M_example_98 : decode (zb m_M_example) 98 = .ok (.iaload, 1) := by decide +kernel
theorem d_M_example_99 : decode (zb m_M_example) 99 = .ok (.if_icmp .ge 32, 3) := by decide +kernel
theorem d_M_example_102 : decode (zb m_M_example) 102 = .ok (.aload_n 0, 1) := by decide +kernel
theorem d_M_example_103 : decode (zb m_M_example) 103 = .ok (.getfield 16, 3) := by decide +kernel
theorem d_M_example_106 : decode (zb m_M_example) 106 = .ok (.iconst 5, 1) := by decide +kernel
theorem d_M_example_107 : decode (zb m_M_example) 107 = .ok (.aload_n 0, 1) := by decide +kernel
theorem d_M_example_108 : decode (zb m_M_example) 108 = .ok (.getfield 98, 3) := by decide +kernel
theorem d_M_example_111 : decode (zb m_M_example) 111 = .ok (.imul, 1) := by decide +kernel
theorem d_M_example_112 : decode (zb m_M_example) 112 = .ok (.iload_n 2, 1) := by decide +kernel
theorem d_M_example_113 : decode (zb m_M_example) 113 = .ok (.iadd, 1) := by decide +kernel
theorem d_M_example_114 : decode (zb m_M_example) 114 = .ok (.aload_n 0, 1) := by decide +kernel
theorem d_M_example_115 : decode (zb m_M_example) 115 = .ok (.getfield 28, 3) := by decide +kernel
theorem d_M_example_118 : decode (zb m_M_example) 118 = .ok (.iload_n 1, 1) := by decide +kernel
theorem d_M_example_119 : decode (zb m_M_example) 119 = .ok (.iconst 1, 1) := by decide +kernel
theorem d_M_example_120 : decode (zb m_M_example) 120 = .ok (.iadd, 1) := by decide +kernel
theorem d_M_example_121 : decode (zb m_M_example) 121 = .ok (.iload_n 2, 1) := by decide +kernel
theorem d_M_example_122 : decode (zb m_M_example) 122 = .ok (.iadd, 1) := by decide +kernel
theorem d_M_example_123 : decode (zb m_M_example) 123 = .ok (.iaload, 1) := by decide +kernel
theorem d_M_example_124 : decode (zb m_M_example) 124 = .ok (.iastore, 1) := by decide +kernel
theorem d_M_example_125 : decode (zb m_M_example) 125 = .ok (.iinc 2 1, 3) := by decide +kernel
theorem d_M_example_128 : decode (zb m_M_example) 128 = .ok (.goto (-39), 3) := by decide +kernel
theorem d_M_example_131 : decode (zb m_M_example) 131 = .ok (.aload_n 0, 1) := by decide +kernel
theorem d_M_example_132 : decode (zb m_M_example) 132 = .ok (.dup, 1) := by decide +kernel
theorem d_M_example_133 : decode (zb m_M_example) 133 = .ok (.getfield 98, 3) := by decide +kernel
theorem d_M_example_136 : decode (zb m_M_example) 136 = .ok (.iconst 1, 1) := by decide +kernel
theorem d_M_example_137 : decode (zb m_M_example) 137 = .ok (.iadd, 1) := by decide +kernel
theorem d_M_example_138 : decode (zb m_M_example) 138 = .ok (.putfield 98, 3) := by decide +kernel
theorem d_M_example_141 : decode (zb m_M_example) 141 = .ok (.aload_n 0, 1) := by decide +kernel
theorem d_M_example_142 : decode (zb m_M_example) 142 = .ok (.iconst 0, 1) := by decide +kernel
theorem d_M_example_143 : decode (zb m_M_example) 143 = .ok (.putfield 83, 3) := by decide +kernel
theorem d_M_example_146 : decode (zb m_M_example) 146 = .ok (.aload_n 0, 1) := by decide +kernel
theorem d_M_example_147 : decode (zb m_M_example) 147 = .ok (.getfield 98, 3) := by decide +kernel
theorem d_M_example_150 : decode (zb m_M_example) 150 = .ok (.ireturn, 1) := by decide +kernel
theorem d_M_forget_0 : decode (zb m_M_forget) 0 = .ok (.aload_n 0, 1) := by decide +kernel
theorem d_M_forget_1 : decode (zb m_M_forget) 1 = .ok (.getfield 98, 3) := by decide +kernel
theorem d_M_forget_4 : decode (zb m_M_forget) 4 = .ok (.ifCond .ne 6, 3) := by decide +kernel
theorem d_M_forget_7 : decode (zb m_M_forget) 7 = .ok (.bipush (-5), 2) := by decide +kernel
theorem d_M_forget_9 : decode (zb m_M_forget) 9 = .ok (.ireturn, 1) := by decide +kernel
theorem d_M_forget_10 : decode (zb m_M_forget) 10 = .ok (.aload_n 0, 1) := by decide +kernel
theorem d_M_forget_11 : decode (zb m_M_forget) 11 = .ok (.dup, 1) := by decide +kernel
theorem d_M_forget_12 : decode (zb m_M_forget) 12 = .ok (.getfield 98, 3) := by decide +kernel
theorem d_M_forget_15 : decode (zb m_M_forget) 15 = .ok (.iconst 1, 1) := by decide +kernel
theorem d_M_forget_16 : decode (zb m_M_forget) 16 = .ok (.isub, 1) := by decide +kernel
theorem d_M_forget_17 : decode (zb m_M_forget) 17 = .ok (.putfield 98, 3) := by decide +kernel
theorem d_M_forget_20 : decode (zb m_M_forget) 20 = .ok (.aload_n 0, 1) := by decide +kernel
theorem d_M_forget_21 : decode (zb m_M_forget) 21 = .ok (.getfield 98, 3) := by decide +kernel
theorem d_M_forget_24 : decode (zb m_M_forget) 24 = .ok (.ireturn, 1) := by decide +kernel
theorem d_M_pool_0 : decode (zb m_M_pool) 0 = .ok (.aload_n 0, 1) := by decide +kernel
theorem d_M_pool_1 : decode (zb m_M_pool) 1 = .ok (.invokevirtual 95, 3) := by decide +kernel
theorem d_M_pool_4 : decode (zb m_M_pool) 4 = .ok (.ifCond .lt 6, 3) := by decide +kernel
theorem d_M_pool_7 : decode (zb m_M_pool) 7 = .ok (.bipush (-5), 2) := by decide +kernel
theorem d_M_pool_9 : decode (zb m_M_pool) 9 = .ok (.ireturn, 1) := by decide +kernel
theorem d_M_pool_10 : decode (zb m_M_pool) 10 = .ok (.aload_n 0, 1) := by decide +kernel
theorem d_M_pool_11 : decode (zb m_M_pool) 11 = .ok (.getfield 101, 3) := by decide +kernel
theorem d_M_pool_14 : decode (zb m_M_pool) 14 = .ok (.bipush 6, 2) := by decide +kernel
theorem d_M_pool_16 : decode (zb m_M_pool) 16 = .ok (.if_icmp .ne 6, 3) := by decide +kernel
theorem d_M_pool_19 : decode (zb m_M_pool) 19 = .ok (.bipush (-4), 2) := by decide +kernel
theorem d_M_pool_21 : decode (zb m_M_pool) 21 = .ok (.ireturn, 1) := by decide +kernel
theorem d_M_pool_22 : decode (zb m_M_pool) 22 = .ok (.iconst 0, 1) := by decide +kernel
theorem d_M_pool_23 : decode (zb m_M_pool) 23 = .ok (.istore_n 1, 1) := by decide +kernel
theorem d_M_pool_24 : decode (zb m_M_pool) 24 = .ok (.iload_n 1, 1) := by decide +kernel
theorem d_M_pool_25 : decode (zb m_M_pool) 25 = .ok (.aload_n 0, 1) := by decide +kernel
theorem d_M_pool_26 : decode (zb m_M_pool) 26 = .ok (.getfield 83, 3) := by decide +kernel
theorem d_M_pool_29 : decode (zb m_M_pool) 29 = .ok (.if_icmp .ge 29, 3) := by decide +kernel
theorem d_M_pool_32 : decode (zb m_M_pool) 32 = .ok (.aload_n 0, 1) := by decide +kernel
theorem d_M_pool_33 : decode (zb m_M_pool) 33 = .ok (.getfield 22, 3) := by decide +kernel
theorem d_M_pool_36 : decode (zb m_M_pool) 36 = .ok (.bipush 12, 2) := by decide +kernel
theorem d_M_pool_38 : decode (zb m_M_pool) 38 = .ok (.aload_n 0, 1) := by decide +kernel
theorem d_M_pool_39 : decode (zb m_M_pool) 39 = .ok (.getfield 101, 3) := by decide +kernel
theorem d_M_pool_42 : decode (zb m_M_pool) 42 = .ok (.imul, 1) := by decide +kernel
theorem d_M_pool_43 : decode (zb m_M_pool) 43 = .ok (.iload_n 1, 1) := by decide +kernel
theorem d_M_pool_44 : decode (zb m_M_pool) 44 = .ok (.iadd, 1) := by decide +kernel
theorem d_M_pool_45 : decode (zb m_M_pool) 45 = .ok (.aload_n 0, 1) := by decide +kernel
theorem d_M_pool_46 : decode (zb m_M_pool) 46 = .ok (.getfield 28, 3) := by decide +kernel
theorem d_M_pool_49 : decode (zb m_M_pool) 49 = .ok (.iload_n 1, 1) := by decide +kernel
theorem d_M_pool_50 : decode (zb m_M_pool) 50 = .ok (.iaload, 1) := by decide +kernel
theorem d_M_pool_51 : decode (zb m_M_pool) 51 = .ok (.iastore, 1) := by decide +kernel
theorem d_M_pool_52 : decode (zb m_M_pool) 52 = .ok (.iinc 1 1, 3) := by decide +kernel
theorem d_M_pool_55 : decode (zb m_M_pool) 55 = .ok (.goto (-31), 3) := by decide +kernel
theorem d_M_pool_58 : decode (zb m_M_pool) 58 = .ok (.aload_n 0, 1) := by decide +kernel
theorem d_M_pool_59 : decode (zb m_M_pool) 59 = .ok (.getfield 25, 3) := by decide +kernel
theorem d_M_pool_62 : decode (zb m_M_pool) 62 = .ok (.aload_n 0, 1) := by decide +kernel
theorem d_M_pool_63 : decode (zb m_M_pool) 63 = .ok (.getfield 101, 3) := by decide +kernel
theorem d_M_pool_66 : decode (zb m_M_pool) 66 = .ok (.aload_n 0, 1) := by decide +kernel
theorem d_M_pool_67 : decode (zb m_M_pool) 67 = .ok (.getfield 83, 3) := by decide +kernel
theorem d_M_pool_70 : decode (zb m_M_pool) 70 = .ok (.iastore, 1) := by decide +kernel
theorem d_M_pool_71 : decode (zb m_M_pool) 71 = .ok (.aload_n 0, 1) := by decide +kernel
theorem d_M_pool_72 : decode (zb m_M_pool) 72 = .ok (.dup, 1) := by decide +kernel
theorem d_M_pool_73 : decode (zb m_M_pool) 73 = .ok (.getfield 101, 3) := by decide +kernel
theorem d_M_pool_76 : decode (zb m_M_pool) 76 = .ok (.iconst 1, 1) := by decide +kernel
theorem d_M_pool_77 : decode (zb m_M_pool) 77 = .ok (.iadd, 1) := by decide +kernel
theorem d_M_pool_78 : decode (zb m_M_pool) 78 = .ok (.putfield 101, 3) := by decide +kernel
theorem d_M_pool_81 : decode (zb m_M_pool) 81 = .ok (.aload_n 0, 1) := by decide +kernel
theorem d_M_pool_82 : decode (zb m_M_pool) 82 = .ok (.iconst 0, 1) := by decide +kernel
theorem d_M_pool_83 : decode (zb m_M_pool) 83 = .ok (.putfield 83, 3) := by decide +kernel
theorem d_M_pool_86 : decode (zb m_M_pool) 86 = .ok (.aload_n 0, 1) := by decide +kernel
theorem d_M_pool_87 : decode (zb m_M_pool) 87 = .ok (.getfield 101, 3) := by decide +kernel
theorem d_M_pool_90 : decode (zb m_M_pool) 90 = .ok (.ireturn, 1) := by decide +kernel
theorem d_M_goFrom_0 : decode (zb m_M_goFrom) 0 = .ok (.aload_n 0, 1) := by decide +kernel
theorem d_M_goFrom_1 : decode (zb m_M_goFrom) 1 = .ok (.dup, 1) := by decide +kernel
theorem d_M_goFrom_2 : decode (zb m_M_goFrom) 2 = .ok (.getfield 101, 3) := by decide +kernel
theorem d_M_goFrom_5 : decode (zb m_M_goFrom) 5 = .ok (.iconst 1, 1) := by decide +kernel
theorem d_M_goFrom_6 : decode (zb m_M_goFrom) 6 = .ok (.isub, 1) := by decide +kernel
theorem d_M_goFrom_7 : decode (zb m_M_goFrom) 7 = .ok (.putfield 101, 3) := by decide +kernel
theorem d_M_goFrom_10 : decode (zb m_M_goFrom) 10 = .ok (.iload_n 1, 1) := by decide +kernel
theorem d_M_goFrom_11 : decode (zb m_M_goFrom) 11 = .ok (.istore_n 2, 1) := by decide +kernel
theorem d_M_goFrom_12 : decode (zb m_M_goFrom) 12 = .ok (.iload_n 2, 1) := by decide +kernel
theorem d_M_goFrom_13 : decode (zb m_M_goFrom) 13 = .ok (.aload_n 0, 1) := by decide +kernel
theorem d_M_goFrom_14 : decode (zb m_M_goFrom) 14 = .ok (.getfield 101, 3) := by decide +kernel
theorem d_M_goFrom_17 : decode (zb m_M_goFrom) 17 = .ok (.if_icmp .ge 62, 3) := by decide +kernel
theorem d_M_goFrom_20 : decode (zb m_M_goFrom) 20 = .ok (.aload_n 0, 1) := by decide +kernel
theorem d_M_goFrom_21 : decode (zb m_M_goFrom) 21 = .ok (.getfield 25, 3) := by decide +kernel
theorem d_M_goFrom_24 : decode (zb m_M_goFrom) 24 = .ok (.iload_n 2, 1) := by decide +kernel
theorem d_M_goFrom_25 : decode (zb m_M_goFrom) 25 = .ok (.aload_n 0, 1) := by decide +kernel
theorem d_M_goFrom_26 : decode (zb m_M_goFrom) 26 = .ok (.getfield 25, 3) := by decide +kernel
theorem d_M_goFrom_29 : decode (zb m_M_goFrom) 29 = .ok (.iload_n 2, 1) := by decide +kernel
theorem d_M_goFrom_30 : decode (zb m_M_goFrom) 30 = .ok (.iconst 1, 1) := by decide +kernel
theorem d_M_goFrom_31 : decode (zb m_M_goFrom) 31 = .ok (.iadd, 1) := by decide +kernel
theorem d_M_goFrom_32 : decode (zb m_M_goFrom) 32 = .ok (.iaload, 1) := by decide +kernel
theorem d_M_goFrom_33 : decode (zb m_M_goFrom) 33 = .ok (.iastore, 1) := by decide +kernel
theorem d_M_goFrom_34 : decode (zb m_M_goFrom) 34 = .ok (.iconst 0, 1) := by decide +kernel
theorem d_M_goFrom_35 : decode (zb m_M_goFrom) 35 = .ok (.istore_n 3, 1) := by decide +kernel
theorem d_M_goFrom_36 : decode (zb m_M_goFrom) 36 = .ok (.iload_n 3, 1) := by decide +kernel
theorem d_M_goFrom_37 : decode (zb m_M_goFrom) 37 = .ok (.bipush 12, 2) := by decide +kernel
theorem d_M_goFrom_39 : decode (zb m_M_goFrom) 39 = .ok (.if_icmp .ge 34, 3) := by decide +kernel
theorem d_M_goFrom_42 : decode (zb m_M_goFrom) 42 = .ok (.aload_n 0, 1) := by decide +kernel
theorem d_M_goFrom_43 : decode (zb m_M_goFrom) 43 = .ok (.getfield 22, 3) := by decide +kernel
theorem d_M_goFrom_46 : decode (zb m_M_goFrom) 46 = .ok (.bipush 12, 2) := by decide +kernel
theorem d_M_goFrom_48 : decode (zb m_M_goFrom) 48 = .ok (.iload_n 2, 1) := by decide +kernel
theorem d_M_goFrom_49 : decode (zb m_M_goFrom) 49 = .ok (.imul, 1) := by decide +kernel
theorem d_M_goFrom_50 : decode (zb m_M_goFrom) 50 = .ok (.iload_n 3, 1) := by decide +kernel
theorem d_M_goFrom_51 : decode (zb m_M_goFrom) 51 = .ok (.iadd, 1) := by decide +kernel
theorem d_M_goFrom_52 : decode (zb m_M_goFrom) 52 = .ok (.aload_n 0, 1) := by decide +kernel
theorem d_M_goFrom_53 : decode (zb m_M_goFrom) 53 = .ok (.getfield 22, 3) := by decide +kernel
theorem d_M_goFrom_56 : decode (zb m_M_goFrom) 56 = .ok (.bipush 12, 2) := by decide +kernel
theorem d_M_goFrom_58 : decode (zb m_M_goFrom) 58 = .ok (.iload_n 2, 1) := by decide +kernel
theorem d_M_goFrom_59 : decode (zb m_M_goFrom) 59 = .ok (.imul, 1) := by decide +kernel
theorem d_M_goFrom_60 : decode (zb m_M_goFrom) 60 = .ok (.bipush 12, 2) := by decide +kernel
theorem d_M_goFrom_62 : decode (zb m_M_goFrom) 62 = .ok (.iadd, 1) := by decide +kernel
theorem d_M_goFrom_63 : decode (zb m_M_goFrom) 63 = .ok (.iload_n 3, 1) := by decide +kernel
theorem d_M_goFrom_64 : decode (zb m_M_goFrom) 64 = .ok (.iadd, 1) := by decide +kernel
theorem d_M_goFrom_65 : decode (zb m_M_goFrom) 65 = .ok (.iaload, 1) := by decide +kernel
theorem d_M_goFrom_66 : decode (zb m_M_goFrom) 66 = .ok (.iastore, 1) := by decide +kernel
theorem d_M_goFrom_67 : decode (zb m_M_goFrom) 67 = .ok (.iinc 3 1, 3) := by decide +kernel
theorem d_M_goFrom_70 : decode (zb m_M_goFrom) 70 = .ok (.goto (-34), 3) := by decide +kernel
theorem d_M_goFrom_73 : decode (zb m_M_goFrom) 73 = .ok (.iinc 2 1, 3) := by decide +kernel
theorem d_M_goFrom_76 : decode (zb m_M_goFrom) 76 = .ok (.goto (-64), 3) := by decide +kernel
theorem d_M_goFrom_79 : decode (zb m_M_goFrom) 79 = .ok (.return_, 1) := by decide +kernel
theorem d_M_drain_0 : decode (zb m_M_drain) 0 = .ok (.iload_n 1, 1) := by decide +kernel
theorem d_M_drain_1 : decode (zb m_M_drain) 1 = .ok (.iconst 0, 1) := by decide +kernel
theorem d_M_drain_2 : decode (zb m_M_drain) 2 = .ok (.aload_n 0, 1) := by decide +kernel
theorem d_M_drain_3 : decode (zb m_M_drain) 3 = .ok (.getfield 101, 3) := by decide +kernel
theorem d_M_drain_6 : decode (zb m_M_drain) 6 = .ok (.iconst 1, 1) := by decide +kernel
theorem d_M_drain_7 : decode (zb m_M_drain) 7 = .ok (.isub, 1) := by decide +kernel
theorem d_M_drain_8 : decode (zb m_M_drain) 8 = .ok (.invokestatic 79, 3) := by decide +kernel
theorem d_M_drain_11 : decode (zb m_M_drain) 11 = .ok (.ifCond .ne 5, 3) := by decide +kernel
theorem d_M_drain_14 : decode (zb m_M_drain) 14 = .ok (.iconst (-1), 1) := by decide +kernel
theorem d_M_drain_15 : decode (zb m_M_drain) 15 = .ok (.ireturn, 1) := by decide +kernel
theorem d_M_drain_16 : decode (zb m_M_drain) 16 = .ok (.aload_n 0, 1) := by decide +kernel
theorem d_M_drain_17 : decode (zb m_M_drain) 17 = .ok (.iload_n 1, 1) := by decide +kernel
theorem d_M_drain_18 : decode (zb m_M_drain) 18 = .ok (.invokevirtual 104, 3) := by decide +kernel
theorem d_M_drain_21 : decode (zb m_M_drain) 21 = .ok (.aload_n 0, 1) := by decide +kernel
theorem d_M_drain_22 : decode (zb m_M_drain) 22 = .ok (.getfield 101, 3) := by decide +kernel
theorem d_M_drain_25 : decode (zb m_M_drain) 25 = .ok (.ireturn, 1) := by decide +kernel
theorem d_M_lookAtPad_0 : decode (zb m_M_lookAtPad) 0 = .ok (.aload_n 0, 1) := by decide +kernel
theorem d_M_lookAtPad_1 : decode (zb m_M_lookAtPad) 1 = .ok (.aload_n 0, 1) := by decide +kernel
theorem d_M_lookAtPad_2 : decode (zb m_M_lookAtPad) 2 = .ok (.getfield 83, 3) := by decide +kernel
theorem d_M_lookAtPad_5 : decode (zb m_M_lookAtPad) 5 = .ok (.putfield 108, 3) := by decide +kernel
theorem d_M_lookAtPad_8 : decode (zb m_M_lookAtPad) 8 = .ok (.iconst 0, 1) := by decide +kernel
theorem d_M_lookAtPad_9 : decode (zb m_M_lookAtPad) 9 = .ok (.istore_n 1, 1) := by decide +kernel
theorem d_M_lookAtPad_10 : decode (zb m_M_lookAtPad) 10 = .ok (.iload_n 1, 1) := by decide +kernel
theorem d_M_lookAtPad_11 : decode (zb m_M_lookAtPad) 11 = .ok (.aload_n 0, 1) := by decide +kernel
theorem d_M_lookAtPad_12 : decode (zb m_M_lookAtPad) 12 = .ok (.getfield 83, 3) := by decide +kernel
theorem d_M_lookAtPad_15 : decode (zb m_M_lookAtPad) 15 = .ok (.if_icmp .ge 21, 3) := by decide +kernel
theorem d_M_lookAtPad_18 : decode (zb m_M_lookAtPad) 18 = .ok (.aload_n 0, 1) := by decide +kernel
theorem d_M_lookAtPad_19 : decode (zb m_M_lookAtPad) 19 = .ok (.getfield 34, 3) := by decide +kernel
theorem d_M_lookAtPad_22 : decode (zb m_M_lookAtPad) 22 = .ok (.iload_n 1, 1) := by decide +kernel
theorem d_M_lookAtPad_23 : decode (zb m_M_lookAtPad) 23 = .ok (.aload_n 0, 1) := by decide +kernel
theorem d_M_lookAtPad_24 : decode (zb m_M_lookAtPad) 24 = .ok (.getfield 28, 3) := by decide +kernel
theorem d_M_lookAtPad_27 : decode (zb m_M_lookAtPad) 27 = .ok (.iload_n 1, 1) := by decide +kernel
theorem d_M_lookAtPad_28 : decode (zb m_M_lookAtPad) 28 = .ok (.iaload, 1) := by decide +kernel
theorem d_M_lookAtPad_29 : decode (zb m_M_lookAtPad) 29 = .ok (.iastore, 1) := by decide +kernel
theorem d_M_lookAtPad_30 : decode (zb m_M_lookAtPad) 30 = .ok (.iinc 1 1, 3) := by decide +kernel
theorem d_M_lookAtPad_33 : decode (zb m_M_lookAtPad) 33 = .ok (.goto (-23), 3) := by decide +kernel
theorem d_M_lookAtPad_36 : decode (zb m_M_lookAtPad) 36 = .ok (.return_, 1) := by decide +kernel
theorem d_M_lookAtPool_0 : decode (zb m_M_lookAtPool) 0 = .ok (.aload_n 0, 1) := by decide +kernel
theorem d_M_lookAtPool_1 : decode (zb m_M_lookAtPool) 1 = .ok (.aload_n 0, 1) := by decide +kernel
theorem d_M_lookAtPool_2 : decode (zb m_M_lookAtPool) 2 = .ok (.getfield 25, 3) := by decide +kernel
theorem d_M_lookAtPool_5 : decode (zb m_M_lookAtPool) 5 = .ok (.iload_n 1, 1) := by decide +kernel
theorem d_M_lookAtPool_6 : decode (zb m_M_lookAtPool) 6 = .ok (.iaload, 1) := by decide +kernel
theorem d_M_lookAtPool_7 : decode (zb m_M_lookAtPool) 7 = .ok (.putfield 108, 3) := by decide +kernel
theorem d_M_lookAtPool_10 : decode (zb m_M_lookAtPool) 10 = .ok (.iconst 0, 1) := by decide +kernel
theorem d_M_lookAtPool_11 : decode (zb m_M_lookAtPool) 11 = .ok (.istore_n 2, 1) := by decide +kernel
theorem d_M_lookAtPool_12 : decode (zb m_M_lookAtPool) 12 = .ok (.iload_n 2, 1) := by decide +kernel
theorem d_M_lookAtPool_13 : decode (zb m_M_lookAtPool) 13 = .ok (.aload_n 0, 1) := by decide +kernel
theorem d_M_lookAtPool_14 : decode (zb m_M_lookAtPool) 14 = .ok (.getfield 108, 3) := by decide +kernel
theorem d_M_lookAtPool_17 : decode (zb m_M_lookAtPool) 17 = .ok (.if_icmp .ge 26, 3) := by decide +kernel
theorem d_M_lookAtPool_20 : decode (zb m_M_lookAtPool) 20 = .ok (.aload_n 0, 1) := by decide +kernel
theorem d_M_lookAtPool_21 : decode (zb m_M_lookAtPool) 21 = .ok (.getfield 34, 3) := by decide +kernel
theorem d_M_lookAtPool_24 : decode (zb m_M_lookAtPool) 24 = .ok (.iload_n 2, 1) := by decide +kernel
theorem d_M_lookAtPool_25 : decode (zb m_M_lookAtPool) 25 = .ok (.aload_n 0, 1) := by decide +kernel
theorem d_M_lookAtPool_26 : decode (zb m_M_lookAtPool) 26 = .ok (.getfield 22, 3) := by decide +kernel
theorem d_M_lookAtPool_29 : decode (zb m_M_lookAtPool) 29 = .ok (.bipush 12, 2) := by decide +kernel
theorem d_M_lookAtPool_31 : decode (zb m_M_lookAtPool) 31 = .ok (.iload_n 1, 1) := by decide +kernel
theorem d_M_lookAtPool_32 : decode (zb m_M_lookAtPool) 32 = .ok (.imul, 1) := by decide +kernel
theorem d_M_lookAtPool_33 : decode (zb m_M_lookAtPool) 33 = .ok (.iload_n 2, 1) := by decide +kernel
theorem d_M_lookAtPool_34 : decode (zb m_M_lookAtPool) 34 = .ok (.iadd, 1) := by decide +kernel
theorem d_M_lookAtPool_35 : decode (zb m_M_lookAtPool) 35 = .ok (.iaload, 1) := by decide +kernel
theorem d_M_lookAtPool_36 : decode (zb m_M_lookAtPool) 36 = .ok (.iastore, 1) := by decide +kernel
theorem d_M_lookAtPool_37 : decode (zb m_M_lookAtPool) 37 = .ok (.iinc 2 1, 3) := by decide +kernel
theorem d_M_lookAtPool_40 : decode (zb m_M_lookAtPool) 40 = .ok (.goto (-28), 3) := by decide +kernel
theorem d_M_lookAtPool_43 : decode (zb m_M_lookAtPool) 43 = .ok (.return_, 1) := by decide +kernel
theorem d_M_runAt_0 : decode (zb m_M_runAt) 0 = .ok (.iconst 0, 1) := by decide +kernel
theorem d_M_runAt_1 : decode (zb m_M_runAt) 1 = .ok (.istore 4, 2) := by decide +kernel
theorem d_M_runAt_3 : decode (zb m_M_runAt) 3 = .ok (.iconst 0, 1) := by decide +kernel
theorem d_M_runAt_4 : decode (zb m_M_runAt) 4 = .ok (.istore 5, 2) := by decide +kernel
theorem d_M_runAt_6 : decode (zb m_M_runAt) 6 = .ok (.iload 5, 2) := by decide +kernel
theorem d_M_runAt_8 : decode (zb m_M_runAt) 8 = .ok (.aload_n 0, 1) := by decide +kernel
theorem d_M_runAt_9 : decode (zb m_M_runAt) 9 = .ok (.getfield 108, 3) := by decide +kernel
theorem d_M_runAt_12 : decode (zb m_M_runAt) 12 = .ok (.if_icmp .ge 213, 3) := by decide +kernel
theorem d_M_runAt_15 : decode (zb m_M_runAt) 15 = .ok (.iload_n 2, 1) := by decide +kernel
theorem d_M_runAt_16 : decode (zb m_M_runAt) 16 = .ok (.ifCond .le 8, 3) := by decide +kernel
theorem d_M_runAt_19 : decode (zb m_M_runAt) 19 = .ok (.iload 5, 2) := by decide +kernel
theorem d_M_runAt_21 : decode (zb m_M_runAt) 21 = .ok (.goto 12, 3) := by decide +kernel
theorem d_M_runAt_24 : decode (zb m_M_runAt) 24 = .ok (.aload_n 0, 1) := by decide +kernel
theorem d_M_runAt_25 : decode (zb m_M_runAt) 25 = .ok (.getfield 108, 3) := by decide +kernel
theorem d_M_runAt_28 : decode (zb m_M_runAt) 28 = .ok (.iconst 1, 1) := by decide +kernel
theorem d_M_runAt_29 : decode (zb m_M_runAt) 29 = .ok (.isub, 1) := by decide +kernel
theorem d_M_runAt_30 : decode (zb m_M_runAt) 30 = .ok (.iload 5, 2) := by decide +kernel
theorem d_M_runAt_32 : decode (zb m_M_runAt) 32 = .ok (.isub, 1) := by decide +kernel
theorem d_M_runAt_33 : decode (zb m_M_runAt) 33 = .ok (.istore 6, 2) := by decide +kernel
theorem d_M_runAt_35 : decode (zb m_M_runAt) 35 = .ok (.iload_n 2, 1) := by decide +kernel
theorem d_M_runAt_36 : decode (zb m_M_runAt) 36 = .ok (.ifCond .le 10, 3) := by decide +kernel
theorem d_M_runAt_39 : decode (zb m_M_runAt) 39 = .ok (.iload 6, 2) := by decide +kernel
theorem d_M_runAt_41 : decode (zb m_M_runAt) 41 = .ok (.iconst 1, 1) := by decide +kernel
theorem d_M_runAt_42 : decode (zb m_M_runAt) 42 = .ok (.isub, 1) := by decide +kernel
theorem d_M_runAt_43 : decode (zb m_M_runAt) 43 = .ok (.goto 7, 3) := by decide +kernel
theorem d_M_runAt_46 : decode (zb m_M_runAt) 46 = .ok (.iload 6, 2) := by decide +kernel
theorem d_M_runAt_48 : decode (zb m_M_runAt) 48 = .ok (.iconst 1, 1) := by decide +kernel
theorem d_M_runAt_49 : decode (zb m_M_runAt) 49 = .ok (.iadd, 1) := by decide +kernel
theorem d_M_runAt_50 : decode (zb m_M_runAt) 50 = .ok (.istore 7, 2) := by decide +kernel
theorem d_M_runAt_52 : decode (zb m_M_runAt) 52 = .ok (.aload_n 0, 1) := by decide +kernel
theorem d_M_runAt_53 : decode (zb m_M_runAt) 53 = .ok (.getfield 34, 3) := by decide +kernel
theorem d_M_runAt_56 : decode (zb m_M_runAt) 56 = .ok (.iload 6, 2) := by decide +kernel
theorem d_M_runAt_58 : decode (zb m_M_runAt) 58 = .ok (.iaload, 1) := by decide +kernel
theorem d_M_runAt_59 : decode (zb m_M_runAt) 59 = .ok (.invokestatic 87, 3) := by decide +kernel
theorem d_M_runAt_62 : decode (zb m_M_runAt) 62 = .ok (.iload_n 1, 1) := by decide +kernel
theorem d_M_runAt_63 : decode (zb m_M_runAt) 63 = .ok (.if_icmp .ne 36, 3) := by decide +kernel
theorem d_M_runAt_66 : decode (zb m_M_runAt) 66 = .ok (.iload 7, 2) := by decide +kernel
theorem d_M_runAt_68 : decode (zb m_M_runAt) 68 = .ok (.iconst 0, 1) := by decide +kernel
theorem d_M_runAt_69 : decode (zb m_M_runAt) 69 = .ok (.aload_n 0, 1) := by decide +kernel
theorem d_M_runAt_70 : decode (zb m_M_runAt) 70 = .ok (.getfield 108, 3) := by decide +kernel
theorem d_M_runAt_73 : decode (zb m_M_runAt) 73 = .ok (.iconst 1, 1) := by decide +kernel
theorem d_M_runAt_74 : decode (zb m_M_runAt) 74 = .ok (.isub, 1) := by decide +kernel
theorem d_M_runAt_75 : decode (zb m_M_runAt) 75 = .ok (.invokestatic 79, 3) := by decide +kernel
theorem d_M_runAt_78 : decode (zb m_M_runAt) 78 = .ok (.ifCond .eq 17, 3) := by decide +kernel
theorem d_M_runAt_81 : decode (zb m_M_runAt) 81 = .ok (.aload_n 0, 1) := by decide +kernel
theorem d_M_runAt_82 : decode (zb m_M_runAt) 82 = .ok (.getfield 34, 3) := by decide +kernel
theorem d_M_runAt_85 : decode (zb m_M_runAt) 85 = .ok (.iload 7, 2) := by decide +kernel
theorem d_M_runAt_87 : decode (zb m_M_runAt) 87 = .ok (.iaload, 1) := by decide +kernel
theorem d_M_runAt_88 : decode (zb m_M_runAt) 88 = .ok (.invokestatic 87, 3) := by decide +kernel
theorem d_M_runAt_91 : decode (zb m_M_runAt) 91 = .ok (.iload_n 1, 1) := by decide +kernel
theorem d_M_runAt_92 : decode (zb m_M_runAt) 92 = .ok (.if_icmp .eq 7, 3) := by decide +kernel
theorem d_M_runAt_95 : decode (zb m_M_runAt) 95 = .ok (.iconst 1, 1) := by decide +kernel
theorem d_M_runAt_96 : decode (zb m_M_runAt) 96 = .ok (.goto 4, 3) := by decide +kernel
theorem d_M_runAt_99 : decode (zb m_M_runAt) 99 = .ok (.iconst 0, 1) := by decide +kernel
theorem d_M_runAt_100 : decode (zb m_M_runAt) 100 = .ok (.istore 8, 2) := by decide +kernel
theorem d_M_runAt_102 : decode (zb m_M_runAt) 102 = .ok (.iload 4, 2) := by decide +kernel
theorem d_M_runAt_104 : decode (zb m_M_runAt) 104 = .ok (.iload 8, 2) := by decide +kernel
theorem d_M_runAt_106 : decode (zb m_M_runAt) 106 = .ok (.ifCond .eq 7, 3) := by decide +kernel
theorem d_M_runAt_109 : decode (zb m_M_runAt) 109 = .ok (.iconst 1, 1) := by decide +kernel
theorem d_M_runAt_110 : decode (zb m_M_runAt) 110 = .ok (.goto 4, 3) := by decide +kernel
theorem d_M_runAt_113 : decode (zb m_M_runAt) 113 = .ok (.iconst 0, 1) := by decide +kernel
theorem d_M_runAt_114 : decode (zb m_M_runAt) 114 = .ok (.iadd, 1) := by decide +kernel
theorem d_M_runAt_115 : decode (zb m_M_runAt) 115 = .ok (.istore 4, 2) := by decide +kernel
theorem d_M_runAt_117 : decode (zb m_M_runAt) 117 = .ok (.iload 8, 2) := by decide +kernel
theorem d_M_runAt_119 : decode (zb m_M_runAt) 119 = .ok (.ifCond .eq 100, 3) := by decide +kernel
theorem d_M_runAt_122 : decode (zb m_M_runAt) 122 = .ok (.iload 4, 2) := by decide +kernel
theorem d_M_runAt_124 : decode (zb m_M_runAt) 124 = .ok (.iload_n 2, 1) := by decide +kernel
theorem d_M_runAt_125 : decode (zb m_M_runAt) 125 = .ok (.ifCond .le 7, 3) := by decide +kernel
theorem d_M_runAt_128 : decode (zb m_M_runAt) 128 = .ok (.iload_n 2, 1) := by decide +kernel
theorem d_M_runAt_129 : decode (zb m_M_runAt) 129 = .ok (.goto 5, 3) := by decide +kernel
theorem d_M_runAt_132 : decode (zb m_M_runAt) 132 = .ok (.iload_n 2, 1) := by decide +kernel
theorem d_M_runAt_133 : decode (zb m_M_runAt) 133 = .ok (.ineg, 1) := by decide +kernel
theorem d_M_runAt_134 : decode (zb m_M_runAt) 134 = .ok (.if_icmp .ne 85, 3) := by decide +kernel
theorem d_M_runAt_137 : decode (zb m_M_runAt) 137 = .ok (.iload 6, 2) := by decide +kernel
theorem d_M_runAt_139 : decode (zb m_M_runAt) 139 = .ok (.istore 9, 2) := by decide +kernel
theorem d_M_runAt_141 : decode (zb m_M_runAt) 141 = .ok (.iload 6, 2) := by decide +kernel
theorem d_M_runAt_143 : decode (zb m_M_runAt) 143 = .ok (.istore 10, 2) := by decide +kernel
theorem d_M_runAt_145 : decode (zb m_M_runAt) 145 = .ok (.iload 9, 2) := by decide +kernel
theorem d_M_runAt_147 : decode (zb m_M_runAt) 147 = .ok (.ifCond .le 25, 3) := by decide +kernel
theorem d_M_runAt_150 : decode (zb m_M_runAt) 150 = .ok (.aload_n 0, 1) := by decide +kernel
theorem d_M_runAt_151 : decode (zb m_M_runAt) 151 = .ok (.getfield 34, 3) := by decide +kernel
theorem d_M_runAt_154 : decode (zb m_M_runAt) 154 = .ok (.iload 9, 2) := by decide +kernel
theorem d_M_runAt_156 : decode (zb m_M_runAt) 156 = .ok (.iconst 1, 1) := by decide +kernel
theorem d_M_runAt_157 : decode (zb m_M_runAt) 157 = .ok (.isub, 1) := by decide +kernel
theorem d_M_runAt_158 : decode (zb m_M_runAt) 158 = .ok (.iaload, 1) := by decide +kernel
theorem d_M_runAt_159 : decode (zb m_M_runAt) 159 = .ok (.invokestatic 87, 3) := by decide +kernel
theorem d_M_runAt_162 : decode (zb m_M_runAt) 162 = .ok (.iload_n 1, 1) := by decide +kernel
theorem d_M_runAt_163 : decode (zb m_M_runAt) 163 = .ok (.if_icmp .ne 9, 3) := by decide +kernel
theorem d_M_runAt_166 : decode (zb m_M_runAt) 166 = .ok (.iinc 9 (-1), 3) := by decide +kernel
theorem d_M_runAt_169 : decode (zb m_M_runAt) 169 = .ok (.goto (-24), 3) := by decide +kernel
theorem d_M_runAt_172 : decode (zb m_M_runAt) 172 = .ok (.iload 10, 2) := by decide +kernel
theorem d_M_runAt_174 : decode (zb m_M_runAt) 174 = .ok (.iconst 1, 1) := by decide +kernel
theorem d_M_runAt_175 : decode (zb m_M_runAt) 175 = .ok (.iadd, 1) := by decide +kernel
theorem d_M_runAt_176 : decode (zb m_M_runAt) 176 = .ok (.aload_n 0, 1) := by decide +kernel
theorem d_M_runAt_177 : decode (zb m_M_runAt) 177 = .ok (.getfield 108, 3) := by decide +kernel
theorem d_M_runAt_180 : decode (zb m_M_runAt) 180 = .ok (.if_icmp .ge 25, 3) := by decide +kernel
theorem d_M_runAt_183 : decode (zb m_M_runAt) 183 = .ok (.aload_n 0, 1) := by decide +kernel
theorem d_M_runAt_184 : decode (zb m_M_runAt) 184 = .ok (.getfield 34, 3) := by decide +kernel
theorem d_M_runAt_187 : decode (zb m_M_runAt) 187 = .ok (.iload 10, 2) := by decide +kernel
theorem d_M_runAt_189 : decode (zb m_M_runAt) 189 = .ok (.iconst 1, 1) := by decide +kernel
theorem d_M_runAt_190 : decode (zb m_M_runAt) 190 = .ok (.iadd, 1) := by decide +kernel
theorem d_M_runAt_191 : decode (zb m_M_runAt) 191 = .ok (.iaload, 1) := by decide +kernel
theorem d_M_runAt_192 : decode (zb m_M_runAt) 192 = .ok (.invokestatic 87, 3) := by decide +kernel
theorem d_M_runAt_195 : decode (zb m_M_runAt) 195 = .ok (.iload_n 1, 1) := by decide +kernel
theorem d_M_runAt_196 : decode (zb m_M_runAt) 196 = .ok (.if_icmp .ne 9, 3) := by decide +kernel
theorem d_M_runAt_199 : decode (zb m_M_runAt) 199 = .ok (.iinc 10 1, 3) := by decide +kernel
theorem d_M_runAt_202 : decode (zb m_M_runAt) 202 = .ok (.goto (-30), 3) := by decide +kernel
theorem d_M_runAt_205 : decode (zb m_M_runAt) 205 = .ok (.iload_n 3, 1) := by decide +kernel
theorem d_M_runAt_206 : decode (zb m_M_runAt) 206 = .ok (.ifCond .eq 10, 3) := by decide +kernel
theorem d_M_runAt_209 : decode (zb m_M_runAt) 209 = .ok (.iload 10, 2) := by decide +kernel
theorem d_M_runAt_211 : decode (zb m_M_runAt) 211 = .ok (.iconst 1, 1) := by decide +kernel
theorem d_M_runAt_212 : decode (zb m_M_runAt) 212 = .ok (.iadd, 1) := by decide +kernel
theorem d_M_runAt_213 : decode (zb m_M_runAt) 213 = .ok (.goto 5, 3) := by decide +kernel
theorem d_M_runAt_216 : decode (zb m_M_runAt) 216 = .ok (.iload 9, 2) := by decide +kernel
theorem d_M_runAt_218 : decode (zb m_M_runAt) 218 = .ok (.ireturn, 1) := by decide +kernel
theorem d_M_runAt_219 : decode (zb m_M_runAt) 219 = .ok (.iinc 5 1, 3) := by decide +kernel
theorem d_M_runAt_222 : decode (zb m_M_runAt) 222 = .ok (.goto (-216), 3) := by decide +kernel
theorem d_M_runAt_225 : decode (zb m_M_runAt) 225 = .ok (.bipush (-6), 2) := by decide +kernel
theorem d_M_runAt_227 : decode (zb m_M_runAt) 227 = .ok (.ireturn, 1) := by decide +kernel
theorem d_M_placeOf_0 : decode (zb m_M_placeOf) 0 = .ok (.iload_n 1, 1) := by decide +kernel
theorem d_M_placeOf_1 : decode (zb m_M_placeOf) 1 = .ok (.bipush 20, 2) := by decide +kernel
theorem d_M_placeOf_3 : decode (zb m_M_placeOf) 3 = .ok (.if_icmp .ge 18, 3) := by decide +kernel
theorem d_M_placeOf_6 : decode (zb m_M_placeOf) 6 = .ok (.iload_n 1, 1) := by decide +kernel
theorem d_M_placeOf_7 : decode (zb m_M_placeOf) 7 = .ok (.aload_n 0, 1) := by decide +kernel
theorem d_M_placeOf_8 : decode (zb m_M_placeOf) 8 = .ok (.getfield 108, 3) := by decide +kernel
theorem d_M_placeOf_11 : decode (zb m_M_placeOf) 11 = .ok (.if_icmp .gt 7, 3) := by decide +kernel
theorem d_M_placeOf_14 : decode (zb m_M_placeOf) 14 = .ok (.iload_n 1, 1) := by decide +kernel
theorem d_M_placeOf_15 : decode (zb m_M_placeOf) 15 = .ok (.goto 5, 3) := by decide +kernel
theorem d_M_placeOf_18 : decode (zb m_M_placeOf) 18 = .ok (.bipush (-6), 2) := by decide +kernel
theorem d_M_placeOf_20 : decode (zb m_M_placeOf) 20 = .ok (.ireturn, 1) := by decide +kernel
theorem d_M_placeOf_21 : decode (zb m_M_placeOf) 21 = .ok (.iload_n 1, 1) := by decide +kernel
theorem d_M_placeOf_22 : decode (zb m_M_placeOf) 22 = .ok (.bipush 100, 2) := by decide +kernel
theorem d_M_placeOf_24 : decode (zb m_M_placeOf) 24 = .ok (.if_icmp .ge 29, 3) := by decide +kernel
theorem d_M_placeOf_27 : decode (zb m_M_placeOf) 27 = .ok (.iload_n 1, 1) := by decide +kernel
theorem d_M_placeOf_28 : decode (zb m_M_placeOf) 28 = .ok (.bipush 20, 2) := by decide +kernel
theorem d_M_placeOf_30 : decode (zb m_M_placeOf) 30 = .ok (.isub, 1) := by decide +kernel
theorem d_M_placeOf_31 : decode (zb m_M_placeOf) 31 = .ok (.aload_n 0, 1) := by decide +kernel
theorem d_M_placeOf_32 : decode (zb m_M_placeOf) 32 = .ok (.getfield 108, 3) := by decide +kernel
theorem d_M_placeOf_35 : decode (zb m_M_placeOf) 35 = .ok (.if_icmp .gt 15, 3) := by decide +kernel
theorem d_M_placeOf_38 : decode (zb m_M_placeOf) 38 = .ok (.aload_n 0, 1) := by decide +kernel
theorem d_M_placeOf_39 : decode (zb m_M_placeOf) 39 = .ok (.getfield 108, 3) := by decide +kernel
theorem d_M_placeOf_42 : decode (zb m_M_placeOf) 42 = .ok (.iload_n 1, 1) := by decide +kernel
theorem d_M_placeOf_43 : decode (zb m_M_placeOf) 43 = .ok (.isub, 1) := by decide +kernel
theorem d_M_placeOf_44 : decode (zb m_M_placeOf) 44 = .ok (.bipush 20, 2) := by decide +kernel
theorem d_M_placeOf_46 : decode (zb m_M_placeOf) 46 = .ok (.iadd, 1) := by decide +kernel
theorem d_M_placeOf_47 : decode (zb m_M_placeOf) 47 = .ok (.goto 5, 3) := by decide +kernel
theorem d_M_placeOf_50 : decode (zb m_M_placeOf) 50 = .ok (.bipush (-6), 2) := by decide +kernel
theorem d_M_placeOf_52 : decode (zb m_M_placeOf) 52 = .ok (.ireturn, 1) := by decide +kernel
theorem d_M_placeOf_53 : decode (zb m_M_placeOf) 53 = .ok (.aload_n 0, 1) := by decide +kernel
theorem d_M_placeOf_54 : decode (zb m_M_placeOf) 54 = .ok (.iload_n 1, 1) := by decide +kernel
theorem d_M_placeOf_55 : decode (zb m_M_placeOf) 55 = .ok (.bipush 100, 2) := by decide +kernel
theorem d_M_placeOf_57 : decode (zb m_M_placeOf) 57 = .ok (.irem, 1) := by decide +kernel
theorem d_M_placeOf_58 : decode (zb m_M_placeOf) 58 = .ok (.bipush 20, 2) := by decide +kernel
theorem d_M_placeOf_60 : decode (zb m_M_placeOf) 60 = .ok (.idiv, 1) := by decide +kernel
theorem d_M_placeOf_61 : decode (zb m_M_placeOf) 61 = .ok (.iload_n 1, 1) := by decide +kernel
theorem d_M_placeOf_62 : decode (zb m_M_placeOf) 62 = .ok (.bipush 20, 2) := by decide +kernel
theorem d_M_placeOf_64 : decode (zb m_M_placeOf) 64 = .ok (.irem, 1) := by decide +kernel
theorem d_M_placeOf_65 : decode (zb m_M_placeOf) 65 = .ok (.iconst 3, 1) := by decide +kernel
theorem d_M_placeOf_66 : decode (zb m_M_placeOf) 66 = .ok (.isub, 1) := by decide +kernel
theorem d_M_placeOf_67 : decode (zb m_M_placeOf) 67 = .ok (.iload_n 1, 1) := by decide +kernel
theorem d_M_placeOf_68 : decode (zb m_M_placeOf) 68 = .ok (.sipush 200, 3) := by decide +kernel
theorem d_M_placeOf_71 : decode (zb m_M_placeOf) 71 = .ok (.if_icmp .lt 7, 3) := by decide +kernel
theorem d_M_placeOf_74 : decode (zb m_M_placeOf) 74 = .ok (.iconst 1, 1) := by decide +kernel
theorem d_M_placeOf_75 : decode (zb m_M_placeOf) 75 = .ok (.goto 4, 3) := by decide +kernel
theorem d_M_placeOf_78 : decode (zb m_M_placeOf) 78 = .ok (.iconst 0, 1) := by decide +kernel
theorem d_M_placeOf_79 : decode (zb m_M_placeOf) 79 = .ok (.invokevirtual 111, 3) := by decide +kernel
theorem d_M_placeOf_82 : decode (zb m_M_placeOf) 82 = .ok (.ireturn, 1) := by decide +kernel
theorem d_M_place_0 : decode (zb m_M_place) 0 = .ok (.aload_n 0, 1) := by decide +kernel
theorem d_M_place_1 : decode (zb m_M_place) 1 = .ok (.invokevirtual 95, 3) := by decide +kernel
theorem d_M_place_4 : decode (zb m_M_place) 4 = .ok (.ifCond .lt 6, 3) := by decide +kernel
theorem d_M_place_7 : decode (zb m_M_place) 7 = .ok (.bipush (-5), 2) := by decide +kernel
theorem d_M_place_9 : decode (zb m_M_place) 9 = .ok (.ireturn, 1) := by decide +kernel
theorem d_M_place_10 : decode (zb m_M_place) 10 = .ok (.iload_n 1, 1) := by decide +kernel
theorem d_M_place_11 : decode (zb m_M_place) 11 = .ok (.invokestatic 75, 3) := by decide +kernel
theorem d_M_place_14 : decode (zb m_M_place) 14 = .ok (.ifCond .ne 6, 3) := by decide +kernel
theorem d_M_place_17 : decode (zb m_M_place) 17 = .ok (.bipush (-2), 2) := by decide +kernel
theorem d_M_place_19 : decode (zb m_M_place) 19 = .ok (.ireturn, 1) := by decide +kernel
theorem d_M_place_20 : decode (zb m_M_place) 20 = .ok (.aload_n 0, 1) := by decide +kernel
theorem d_M_place_21 : decode (zb m_M_place) 21 = .ok (.invokevirtual 115, 3) := by decide +kernel
theorem d_M_place_24 : decode (zb m_M_place) 24 = .ok (.aload_n 0, 1) := by decide +kernel
theorem d_M_place_25 : decode (zb m_M_place) 25 = .ok (.iload_n 1, 1) := by decide +kernel
theorem d_M_place_26 : decode (zb m_M_place) 26 = .ok (.invokevirtual 118, 3) := by decide +kernel
theorem d_M_place_29 : decode (zb m_M_place) 29 = .ok (.ireturn, 1) := by decide +kernel
theorem d_M_power_0 : decode (zb m_M_power) 0 = .ok (.iload_n 0, 1) := by decide +kernel
theorem d_M_power_1 : decode (zb m_M_power) 1 = .ok (.ifCond .ne 7, 3) := by decide +kernel
theorem d_M_power_4 : decode (zb m_M_power) 4 = .ok (.iconst 1, 1) := by decide +kernel
theorem d_M_power_5 : decode (zb m_M_power) 5 = .ok (.goto 26, 3) := by decide +kernel
theorem d_M_power_8 : decode (zb m_M_power) 8 = .ok (.iload_n 0, 1) := by decide +kernel
theorem d_M_power_9 : decode (zb m_M_power) 9 = .ok (.iconst 1, 1) := by decide +kernel
theorem d_M_power_10 : decode (zb m_M_power) 10 = .ok (.if_icmp .ne 8, 3) := by decide +kernel
theorem d_M_power_13 : decode (zb m_M_power) 13 = .ok (.bipush 6, 2) := by decide +kernel
theorem d_M_power_15 : decode (zb m_M_power) 15 = .ok (.goto 16, 3) := by decide +kernel
theorem d_M_power_18 : decode (zb m_M_power) 18 = .ok (.iload_n 0, 1) := by decide +kernel
theorem d_M_power_19 : decode (zb m_M_power) 19 = .ok (.iconst 2, 1) := by decide +kernel
theorem d_M_power_20 : decode (zb m_M_power) 20 = .ok (.if_icmp .ne 8, 3) := by decide +kernel
theorem d_M_power_23 : decode (zb m_M_power) 23 = .ok (.bipush 36, 2) := by decide +kernel
theorem d_M_power_25 : decode (zb m_M_power) 25 = .ok (.goto 6, 3) := by decide +kernel
theorem d_M_power_28 : decode (zb m_M_power) 28 = .ok (.sipush 216, 3) := by decide +kernel
theorem d_M_power_31 : decode (zb m_M_power) 31 = .ok (.ireturn, 1) := by decide +kernel
theorem d_M_at_0 : decode (zb m_M_at) 0 = .ok (.iload_n 0, 1) := by decide +kernel
theorem d_M_at_1 : decode (zb m_M_at) 1 = .ok (.iload_n 1, 1) := by decide +kernel
theorem d_M_at_2 : decode (zb m_M_at) 2 = .ok (.invokestatic 121, 3) := by decide +kernel
theorem d_M_at_5 : decode (zb m_M_at) 5 = .ok (.idiv, 1) := by decide +kernel
theorem d_M_at_6 : decode (zb m_M_at) 6 = .ok (.bipush 6, 2) := by decide +kernel
theorem d_M_at_8 : decode (zb m_M_at) 8 = .ok (.irem, 1) := by decide +kernel
theorem d_M_at_9 : decode (zb m_M_at) 9 = .ok (.ireturn, 1) := by decide +kernel
theorem d_M_addWork_0 : decode (zb m_M_addWork) 0 = .ok (.iconst 0, 1) := by decide +kernel
theorem d_M_addWork_1 : decode (zb m_M_addWork) 1 = .ok (.istore_n 1, 1) := by decide +kernel
theorem d_M_addWork_2 : decode (zb m_M_addWork) 2 = .ok (.iload_n 1, 1) := by decide +kernel
theorem d_M_addWork_3 : decode (zb m_M_addWork) 3 = .ok (.aload_n 0, 1) := by decide +kernel
theorem d_M_addWork_4 : decode (zb m_M_addWork) 4 = .ok (.getfield 108, 3) := by decide +kernel
theorem d_M_addWork_7 : decode (zb m_M_addWork) 7 = .ok (.if_icmp .ge 29, 3) := by decide +kernel
theorem d_M_addWork_10 : decode (zb m_M_addWork) 10 = .ok (.aload_n 0, 1) := by decide +kernel
theorem d_M_addWork_11 : decode (zb m_M_addWork) 11 = .ok (.getfield 37, 3) := by decide +kernel
theorem d_M_addWork_14 : decode (zb m_M_addWork) 14 = .ok (.bipush 12, 2) := by decide +kernel
theorem d_M_addWork_16 : decode (zb m_M_addWork) 16 = .ok (.aload_n 0, 1) := by decide +kernel
theorem d_M_addWork_17 : decode (zb m_M_addWork) 17 = .ok (.getfield 124, 3) := by decide +kernel
theorem d_M_addWork_20 : decode (zb m_M_addWork) 20 = .ok (.imul, 1) := by decide +kernel
theorem d_M_addWork_21 : decode (zb m_M_addWork) 21 = .ok (.iload_n 1, 1) := by decide +kernel
theorem d_M_addWork_22 : decode (zb m_M_addWork) 22 = .ok (.iadd, 1) := by decide +kernel
theorem d_M_addWork_23 : decode (zb m_M_addWork) 23 = .ok (.aload_n 0, 1) := by decide +kernel
theorem d_M_addWork_24 : decode (zb m_M_addWork) 24 = .ok (.getfield 34, 3) := by decide +kernel
theorem d_M_addWork_27 : decode (zb m_M_addWork) 27 = .ok (.iload_n 1, 1) := by decide +kernel
theorem d_M_addWork_28 : decode (zb m_M_addWork) 28 = .ok (.iaload, 1) := by decide +kernel
theorem d_M_addWork_29 : decode (zb m_M_addWork) 29 = .ok (.iastore, 1) := by decide +kernel
theorem d_M_addWork_30 : decode (zb m_M_addWork) 30 = .ok (.iinc 1 1, 3) := by decide +kernel
theorem d_M_addWork_33 : decode (zb m_M_addWork) 33 = .ok (.goto (-31), 3) := by decide +kernel
theorem d_M_addWork_36 : decode (zb m_M_addWork) 36 = .ok (.iconst 0, 1) := by decide +kernel
theorem d_M_addWork_37 : decode (zb m_M_addWork) 37 = .ok (.istore_n 1, 1) := by decide +kernel
theorem d_M_addWork_38 : decode (zb m_M_addWork) 38 = .ok (.iload_n 1, 1) := by decide +kernel
theorem d_M_addWork_39 : decode (zb m_M_addWork) 39 = .ok (.bipush 62, 2) := by decide +kernel
theorem d_M_addWork_41 : decode (zb m_M_addWork) 41 = .ok (.if_icmp .ge 33, 3) := by decide +kernel
theorem d_M_addWork_44 : decode (zb m_M_addWork) 44 = .ok (.aload_n 0, 1) := by decide +kernel
theorem d_M_addWork_45 : decode (zb m_M_addWork) 45 = .ok (.getfield 46, 3) := by decide +kernel
theorem d_M_addWork_48 : decode (zb m_M_addWork) 48 = .ok (.bipush 62, 2) := by decide +kernel
theorem d_M_addWork_50 : decode (zb m_M_addWork) 50 = .ok (.aload_n 0, 1) := by decide +kernel
theorem d_M_addWork_51 : decode (zb m_M_addWork) 51 = .ok (.getfield 124, 3) := by decide +kernel
theorem d_M_addWork_54 : decode (zb m_M_addWork) 54 = .ok (.imul, 1) := by decide +kernel
theorem d_M_addWork_55 : decode (zb m_M_addWork) 55 = .ok (.iload_n 1, 1) := by decide +kernel
theorem d_M_addWork_56 : decode (zb m_M_addWork) 56 = .ok (.iadd, 1) := by decide +kernel
theorem d_M_addWork_57 : decode (zb m_M_addWork) 57 = .ok (.aload_n 0, 1) := by decide +kernel
theorem d_M_addWork_58 : decode (zb m_M_addWork) 58 = .ok (.aload_n 0, 1) := by decide +kernel
theorem d_M_addWork_59 : decode (zb m_M_addWork) 59 = .ok (.getfield 31, 3) := by decide +kernel
theorem d_M_addWork_62 : decode (zb m_M_addWork) 62 = .ok (.iload_n 1, 1) := by decide +kernel
theorem d_M_addWork_63 : decode (zb m_M_addWork) 63 = .ok (.iaload, 1) := by decide +kernel
theorem d_M_addWork_64 : decode (zb m_M_addWork) 64 = .ok (.invokevirtual 118, 3) := by decide +kernel
theorem d_M_addWork_67 : decode (zb m_M_addWork) 67 = .ok (.iastore, 1) := by decide +kernel
theorem d_M_addWork_68 : decode (zb m_M_addWork) 68 = .ok (.iinc 1 1, 3) := by decide +kernel
theorem d_M_addWork_71 : decode (zb m_M_addWork) 71 = .ok (.goto (-33), 3) := by decide +kernel
theorem d_M_addWork_74 : decode (zb m_M_addWork) 74 = .ok (.aload_n 0, 1) := by decide +kernel
theorem d_M_addWork_75 : decode (zb m_M_addWork) 75 = .ok (.dup, 1) := by decide +kernel
theorem d_M_addWork_76 : decode (zb m_M_addWork) 76 = .ok (.getfield 124, 3) := by decide +kernel
theorem d_M_addWork_79 : decode (zb m_M_addWork) 79 = .ok (.iconst 1, 1) := by decide +kernel
theorem d_M_addWork_80 : decode (zb m_M_addWork) 80 = .ok (.iadd, 1) := by decide +kernel
theorem d_M_addWork_81 : decode (zb m_M_addWork) 81 = .ok (.putfield 124, 3) := by decide +kernel
theorem d_M_addWork_84 : decode (zb m_M_addWork) 84 = .ok (.return_, 1) := by decide +kernel
theorem d_M_layExamples_0 : decode (zb m_M_layExamples) 0 = .ok (.aload_n 0, 1) := by decide +kernel
theorem d_M_layExamples_1 : decode (zb m_M_layExamples) 1 = .ok (.iconst 0, 1) := by decide +kernel
theorem d_M_layExamples_2 : decode (zb m_M_layExamples) 2 = .ok (.putfield 124, 3) := by decide +kernel
theorem d_M_layExamples_5 : decode (zb m_M_layExamples) 5 = .ok (.iconst 0, 1) := by decide +kernel
theorem d_M_layExamples_6 : decode (zb m_M_layExamples) 6 = .ok (.istore_n 1, 1) := by decide +kernel
theorem d_M_layExamples_7 : decode (zb m_M_layExamples) 7 = .ok (.iload_n 1, 1) := by decide +kernel
theorem d_M_layExamples_8 : decode (zb m_M_layExamples) 8 = .ok (.aload_n 0, 1) := by decide +kernel
theorem d_M_layExamples_9 : decode (zb m_M_layExamples) 9 = .ok (.getfield 98, 3) := by decide +kernel
theorem d_M_layExamples_12 : decode (zb m_M_layExamples) 12 = .ok (.if_icmp .ge 106, 3) := by decide +kernel
theorem d_M_layExamples_15 : decode (zb m_M_layExamples) 15 = .ok (.aload_n 0, 1) := by decide +kernel
theorem d_M_layExamples_16 : decode (zb m_M_layExamples) 16 = .ok (.aload_n 0, 1) := by decide +kernel
theorem d_M_layExamples_17 : decode (zb m_M_layExamples) 17 = .ok (.getfield 13, 3) := by decide +kernel
theorem d_M_layExamples_20 : decode (zb m_M_layExamples) 20 = .ok (.iload_n 1, 1) := by decide +kernel
theorem d_M_layExamples_21 : decode (zb m_M_layExamples) 21 = .ok (.iaload, 1) := by decide +kernel
theorem d_M_layExamples_22 : decode (zb m_M_layExamples) 22 = .ok (.putfield 108, 3) := by decide +kernel
theorem d_M_layExamples_25 : decode (zb m_M_layExamples) 25 = .ok (.iconst 0, 1) := by decide +kernel
theorem d_M_layExamples_26 : decode (zb m_M_layExamples) 26 = .ok (.istore_n 2, 1) := by decide +kernel
theorem d_M_layExamples_27 : decode (zb m_M_layExamples) 27 = .ok (.iload_n 2, 1) := by decide +kernel
theorem d_M_layExamples_28 : decode (zb m_M_layExamples) 28 = .ok (.aload_n 0, 1) := by decide +kernel
theorem d_M_layExamples_29 : decode (zb m_M_layExamples) 29 = .ok (.getfield 108, 3) := by decide +kernel
theorem d_M_layExamples_32 : decode (zb m_M_layExamples) 32 = .ok (.if_icmp .ge 26, 3) := by decide +kernel
theorem d_M_layExamples_35 : decode (zb m_M_layExamples) 35 = .ok (.aload_n 0, 1) := by decide +kernel
theorem d_M_layExamples_36 : decode (zb m_M_layExamples) 36 = .ok (.getfield 34, 3) := by decide +kernel
theorem d_M_layExamples_39 : decode (zb m_M_layExamples) 39 = .ok (.iload_n 2, 1) := by decide +kernel
theorem d_M_layExamples_40 : decode (zb m_M_layExamples) 40 = .ok (.aload_n 0, 1) := by decide +kernel
theorem d_M_layExamples_41 : decode (zb m_M_layExamples) 41 = .ok (.getfield 7, 3) := by decide +kernel
theorem d_M_layExamples_44 : decode (zb m_M_layExamples) 44 = .ok (.bipush 12, 2) := by decide +kernel
theorem d_M_layExamples_46 : decode (zb m_M_layExamples) 46 = .ok (.iload_n 1, 1) := by decide +kernel
theorem d_M_layExamples_47 : decode (zb m_M_layExamples) 47 = .ok (.imul, 1) := by decide +kernel
theorem d_M_layExamples_48 : decode (zb m_M_layExamples) 48 = .ok (.iload_n 2, 1) := by decide +kernel
theorem d_M_layExamples_49 : decode (zb m_M_layExamples) 49 = .ok (.iadd, 1) := by decide +kernel
theorem d_M_layExamples_50 : decode (zb m_M_layExamples) 50 = .ok (.iaload, 1) := by decide +kernel
theorem d_M_layExamples_51 : decode (zb m_M_layExamples) 51 = .ok (.iastore, 1) := by decide +kernel
theorem d_M_layExamples_52 : decode (zb m_M_layExamples) 52 = .ok (.iinc 2 1, 3) := by decide +kernel
theorem d_M_layExamples_55 : decode (zb m_M_layExamples) 55 = .ok (.goto (-28), 3) := by decide +kernel
theorem d_M_layExamples_58 : decode (zb m_M_layExamples) 58 = .ok (.iconst 0, 1) := by decide +kernel
theorem d_M_layExamples_59 : decode (zb m_M_layExamples) 59 = .ok (.istore_n 2, 1) := by decide +kernel
theorem d_M_layExamples_60 : decode (zb m_M_layExamples) 60 = .ok (.iload_n 2, 1) := by decide +kernel
theorem d_M_layExamples_61 : decode (zb m_M_layExamples) 61 = .ok (.aload_n 0, 1) := by decide +kernel
theorem d_M_layExamples_62 : decode (zb m_M_layExamples) 62 = .ok (.getfield 19, 3) := by decide +kernel
theorem d_M_layExamples_65 : decode (zb m_M_layExamples) 65 = .ok (.iload_n 1, 1) := by decide +kernel
theorem d_M_layExamples_66 : decode (zb m_M_layExamples) 66 = .ok (.iaload, 1) := by decide +kernel
theorem d_M_layExamples_67 : decode (zb m_M_layExamples) 67 = .ok (.if_icmp .ge 29, 3) := by decide +kernel
theorem d_M_layExamples_70 : decode (zb m_M_layExamples) 70 = .ok (.aload_n 0, 1) := by decide +kernel
theorem d_M_layExamples_71 : decode (zb m_M_layExamples) 71 = .ok (.getfield 40, 3) := by decide +kernel
theorem d_M_layExamples_74 : decode (zb m_M_layExamples) 74 = .ok (.iconst 5, 1) := by decide +kernel
theorem d_M_layExamples_75 : decode (zb m_M_layExamples) 75 = .ok (.iload_n 1, 1) := by decide +kernel
theorem d_M_layExamples_76 : decode (zb m_M_layExamples) 76 = .ok (.imul, 1) := by decide +kernel
theorem d_M_layExamples_77 : decode (zb m_M_layExamples) 77 = .ok (.iload_n 2, 1) := by decide +kernel
theorem d_M_layExamples_78 : decode (zb m_M_layExamples) 78 = .ok (.iadd, 1) := by decide +kernel
theorem d_M_layExamples_79 : decode (zb m_M_layExamples) 79 = .ok (.aload_n 0, 1) := by decide +kernel
theorem d_M_layExamples_80 : decode (zb m_M_layExamples) 80 = .ok (.getfield 16, 3) := by decide +kernel
theorem d_M_layExamples_83 : decode (zb m_M_layExamples) 83 = .ok (.iconst 5, 1) := by decide +kernel
theorem d_M_layExamples_84 : decode (zb m_M_layExamples) 84 = .ok (.iload_n 1, 1) := by decide +kernel
theorem d_M_layExamples_85 : decode (zb m_M_layExamples) 85 = .ok (.imul, 1) := by decide +kernel
theorem d_M_layExamples_86 : decode (zb m_M_layExamples) 86 = .ok (.iload_n 2, 1) := by decide +kernel
theorem d_M_layExamples_87 : decode (zb m_M_layExamples) 87 = .ok (.iadd, 1) := by decide +kernel
theorem d_M_layExamples_88 : decode (zb m_M_layExamples) 88 = .ok (.iaload, 1) := by decide +kernel
theorem d_M_layExamples_89 : decode (zb m_M_layExamples) 89 = .ok (.iastore, 1) := by decide +kernel
theorem d_M_layExamples_90 : decode (zb m_M_layExamples) 90 = .ok (.iinc 2 1, 3) := by decide +kernel
theorem d_M_layExamples_93 : decode (zb m_M_layExamples) 93 = .ok (.goto (-33), 3) := by decide +kernel
theorem d_M_layExamples_96 : decode (zb m_M_layExamples) 96 = .ok (.aload_n 0, 1) := by decide +kernel
theorem d_M_layExamples_97 : decode (zb m_M_layExamples) 97 = .ok (.getfield 43, 3) := by decide +kernel
theorem d_M_layExamples_100 : decode (zb m_M_layExamples) 100 = .ok (.iload_n 1, 1) := by decide +kernel
theorem d_M_layExamples_101 : decode (zb m_M_layExamples) 101 = .ok (.aload_n 0, 1) := by decide +kernel
theorem d_M_layExamples_102 : decode (zb m_M_layExamples) 102 = .ok (.getfield 19, 3) := by decide +kernel
theorem d_M_layExamples_105 : decode (zb m_M_layExamples) 105 = .ok (.iload_n 1, 1) := by decide +kernel
theorem d_M_layExamples_106 : decode (zb m_M_layExamples) 106 = .ok (.iaload, 1) := by decide +kernel
theorem d_M_layExamples_107 : decode (zb m_M_layExamples) 107 = .ok (.iastore, 1) := by decide +kernel
theorem d_M_layExamples_108 : decode (zb m_M_layExamples) 108 = .ok (.aload_n 0, 1) := by decide +kernel
theorem d_M_layExamples_109 : decode (zb m_M_layExamples) 109 = .ok (.invokevirtual 127, 3) := by decide +kernel
theorem d_M_layExamples_112 : decode (zb m_M_layExamples) 112 = .ok (.iinc 1 1, 3) := by decide +kernel
theorem d_M_layExamples_115 : decode (zb m_M_layExamples) 115 = .ok (.goto (-108), 3) := by decide +kernel
theorem d_M_layExamples_118 : decode (zb m_M_layExamples) 118 = .ok (.return_, 1) := by decide +kernel
theorem d_M_cut_0 : decode (zb m_M_cut) 0 = .ok (.iload_n 1, 1) := by decide +kernel
theorem d_M_cut_1 : decode (zb m_M_cut) 1 = .ok (.istore 4, 2) := by decide +kernel
theorem d_M_cut_3 : decode (zb m_M_cut) 3 = .ok (.iconst 0, 1) := by decide +kernel
theorem d_M_cut_4 : decode (zb m_M_cut) 4 = .ok (.istore 5, 2) := by decide +kernel
theorem d_M_cut_6 : decode (zb m_M_cut) 6 = .ok (.iload 5, 2) := by decide +kernel
theorem d_M_cut_8 : decode (zb m_M_cut) 8 = .ok (.aload_n 0, 1) := by decide +kernel
theorem d_M_cut_9 : decode (zb m_M_cut) 9 = .ok (.getfield 124, 3) := by decide +kernel
theorem d_M_cut_12 : decode (zb m_M_cut) 12 = .ok (.if_icmp .ge 148, 3) := by decide +kernel
theorem d_M_cut_15 : decode (zb m_M_cut) 15 = .ok (.aload_n 0, 1) := by decide +kernel
theorem d_M_cut_16 : decode (zb m_M_cut) 16 = .ok (.getfield 46, 3) := by decide +kernel
theorem d_M_cut_19 : decode (zb m_M_cut) 19 = .ok (.bipush 62, 2) := by decide +kernel
theorem d_M_cut_21 : decode (zb m_M_cut) 21 = .ok (.iload 5, 2) := by decide +kernel
theorem d_M_cut_23 : decode (zb m_M_cut) 23 = .ok (.imul, 1) := by decide +kernel
theorem d_M_cut_24 : decode (zb m_M_cut) 24 = .ok (.iload_n 2, 1) := by decide +kernel
theorem d_M_cut_25 : decode (zb m_M_cut) 25 = .ok (.iadd, 1) := by decide +kernel
theorem d_M_cut_26 : decode (zb m_M_cut) 26 = .ok (.iaload, 1) := by decide +kernel
theorem d_M_cut_27 : decode (zb m_M_cut) 27 = .ok (.istore 6, 2) := by decide +kernel
theorem d_M_cut_29 : decode (zb m_M_cut) 29 = .ok (.aload_n 0, 1) := by decide +kernel
theorem d_M_cut_30 : decode (zb m_M_cut) 30 = .ok (.getfield 46, 3) := by decide +kernel
theorem d_M_cut_33 : decode (zb m_M_cut) 33 = .ok (.bipush 62, 2) := by decide +kernel
theorem d_M_cut_35 : decode (zb m_M_cut) 35 = .ok (.iload 5, 2) := by decide +kernel
theorem d_M_cut_37 : decode (zb m_M_cut) 37 = .ok (.imul, 1) := by decide +kernel
theorem d_M_cut_38 : decode (zb m_M_cut) 38 = .ok (.iload_n 3, 1) := by decide +kernel
theorem d_M_cut_39 : decode (zb m_M_cut) 39 = .ok (.iadd, 1) := by decide +kernel
theorem d_M_cut_40 : decode (zb m_M_cut) 40 = .ok (.iaload, 1) := by decide +kernel
theorem d_M_cut_41 : decode (zb m_M_cut) 41 = .ok (.istore 7, 2) := by decide +kernel
theorem d_M_cut_43 : decode (zb m_M_cut) 43 = .ok (.iload_n 1, 1) := by decide +kernel
theorem d_M_cut_44 : decode (zb m_M_cut) 44 = .ok (.iload 5, 2) := by decide +kernel
theorem d_M_cut_46 : decode (zb m_M_cut) 46 = .ok (.invokestatic 130, 3) := by decide +kernel
theorem d_M_cut_49 : decode (zb m_M_cut) 49 = .ok (.istore 8, 2) := by decide +kernel
theorem d_M_cut_51 : decode (zb m_M_cut) 51 = .ok (.iload 6, 2) := by decide +kernel
theorem d_M_cut_53 : decode (zb m_M_cut) 53 = .ok (.ifCond .lt 28, 3) := by decide +kernel
theorem d_M_cut_56 : decode (zb m_M_cut) 56 = .ok (.iload 6, 2) := by decide +kernel
theorem d_M_cut_58 : decode (zb m_M_cut) 58 = .ok (.iload 7, 2) := by decide +kernel
theorem d_M_cut_60 : decode (zb m_M_cut) 60 = .ok (.if_icmp .ge 21, 3) := by decide +kernel
theorem d_M_cut_63 : decode (zb m_M_cut) 63 = .ok (.iload 8, 2) := by decide +kernel
theorem d_M_cut_65 : decode (zb m_M_cut) 65 = .ok (.iload 7, 2) := by decide +kernel
theorem d_M_cut_67 : decode (zb m_M_cut) 67 = .ok (.iadd, 1) := by decide +kernel
theorem d_M_cut_68 : decode (zb m_M_cut) 68 = .ok (.iload 6, 2) := by decide +kernel
theorem d_M_cut_70 : decode (zb m_M_cut) 70 = .ok (.isub, 1) := by decide +kernel
theorem d_M_cut_71 : decode (zb m_M_cut) 71 = .ok (.aload_n 0, 1) := by decide +kernel
theorem d_M_cut_72 : decode (zb m_M_cut) 72 = .ok (.getfield 43, 3) := by decide +kernel
theorem d_M_cut_75 : decode (zb m_M_cut) 75 = .ok (.iload 5, 2) := by decide +kernel
theorem d_M_cut_77 : decode (zb m_M_cut) 77 = .ok (.iaload, 1) := by decide +kernel
theorem d_M_cut_78 : decode (zb m_M_cut) 78 = .ok (.if_icmp .le 6, 3) := by decide +kernel
theorem d_M_cut_81 : decode (zb m_M_cut) 81 = .ok (.bipush (-6), 2) := by decide +kernel
theorem d_M_cut_83 : decode (zb m_M_cut) 83 = .ok (.ireturn, 1) := by decide +kernel
theorem d_M_cut_84 : decode (zb m_M_cut) 84 = .ok (.iload 6, 2) := by decide +kernel
theorem d_M_cut_86 : decode (zb m_M_cut) 86 = .ok (.istore 9, 2) := by decide +kernel
theorem d_M_cut_88 : decode (zb m_M_cut) 88 = .ok (.iload 9, 2) := by decide +kernel
theorem d_M_cut_90 : decode (zb m_M_cut) 90 = .ok (.iload 7, 2) := by decide +kernel
theorem d_M_cut_92 : decode (zb m_M_cut) 92 = .ok (.if_icmp .ge 46, 3) := by decide +kernel
theorem d_M_cut_95 : decode (zb m_M_cut) 95 = .ok (.aload_n 0, 1) := by decide +kernel
theorem d_M_cut_96 : decode (zb m_M_cut) 96 = .ok (.getfield 37, 3) := by decide +kernel
theorem d_M_cut_99 : decode (zb m_M_cut) 99 = .ok (.bipush 12, 2) := by decide +kernel
theorem d_M_cut_101 : decode (zb m_M_cut) 101 = .ok (.iload 5, 2) := by decide +kernel
theorem d_M_cut_103 : decode (zb m_M_cut) 103 = .ok (.imul, 1) := by decide +kernel
theorem d_M_cut_104 : decode (zb m_M_cut) 104 = .ok (.iload 9, 2) := by decide +kernel
theorem d_M_cut_106 : decode (zb m_M_cut) 106 = .ok (.iadd, 1) := by decide +kernel
theorem d_M_cut_107 : decode (zb m_M_cut) 107 = .ok (.iaload, 1) := by decide +kernel
theorem d_M_cut_108 : decode (zb m_M_cut) 108 = .ok (.aload_n 0, 1) := by decide +kernel
theorem d_M_cut_109 : decode (zb m_M_cut) 109 = .ok (.getfield 40, 3) := by decide +kernel
theorem d_M_cut_112 : decode (zb m_M_cut) 112 = .ok (.iconst 5, 1) := by decide +kernel
theorem d_M_cut_113 : decode (zb m_M_cut) 113 = .ok (.iload 5, 2) := by decide +kernel
theorem d_M_cut_115 : decode (zb m_M_cut) 115 = .ok (.imul, 1) := by decide +kernel
theorem d_M_cut_116 : decode (zb m_M_cut) 116 = .ok (.iload 8, 2) := by decide +kernel
theorem d_M_cut_118 : decode (zb m_M_cut) 118 = .ok (.iadd, 1) := by decide +kernel
theorem d_M_cut_119 : decode (zb m_M_cut) 119 = .ok (.iload 9, 2) := by decide +kernel
theorem d_M_cut_121 : decode (zb m_M_cut) 121 = .ok (.iadd, 1) := by decide +kernel
theorem d_M_cut_122 : decode (zb m_M_cut) 122 = .ok (.iload 6, 2) := by decide +kernel
theorem d_M_cut_124 : decode (zb m_M_cut) 124 = .ok (.isub, 1) := by decide +kernel
theorem d_M_cut_125 : decode (zb m_M_cut) 125 = .ok (.iaload, 1) := by decide +kernel
theorem d_M_cut_126 : decode (zb m_M_cut) 126 = .ok (.if_icmp .eq 6, 3) := by decide +kernel
theorem d_M_cut_129 : decode (zb m_M_cut) 129 = .ok (.bipush (-6), 2) := by decide +kernel
theorem d_M_cut_131 : decode (zb m_M_cut) 131 = .ok (.ireturn, 1) := by decide +kernel
theorem d_M_cut_132 : decode (zb m_M_cut) 132 = .ok (.iinc 9 1, 3) := by decide +kernel
theorem d_M_cut_135 : decode (zb m_M_cut) 135 = .ok (.goto (-47), 3) := by decide +kernel
theorem d_M_cut_138 : decode (zb m_M_cut) 138 = .ok (.iload 4, 2) := by decide +kernel
theorem d_M_cut_140 : decode (zb m_M_cut) 140 = .ok (.iload 7, 2) := by decide +kernel
theorem d_M_cut_142 : decode (zb m_M_cut) 142 = .ok (.iload 6, 2) := by decide +kernel
theorem d_M_cut_144 : decode (zb m_M_cut) 144 = .ok (.isub, 1) := by decide +kernel
theorem d_M_cut_145 : decode (zb m_M_cut) 145 = .ok (.iload 5, 2) := by decide +kernel
theorem d_M_cut_147 : decode (zb m_M_cut) 147 = .ok (.invokestatic 121, 3) := by decide +kernel
theorem d_M_cut_150 : decode (zb m_M_cut) 150 = .ok (.imul, 1) := by decide +kernel
theorem d_M_cut_151 : decode (zb m_M_cut) 151 = .ok (.iadd, 1) := by decide +kernel
theorem d_M_cut_152 : decode (zb m_M_cut) 152 = .ok (.istore 4, 2) := by decide +kernel
theorem d_M_cut_154 : decode (zb m_M_cut) 154 = .ok (.iinc 5 1, 3) := by decide +kernel
theorem d_M_cut_157 : decode (zb m_M_cut) 157 = .ok (.goto (-151), 3) := by decide +kernel
theorem d_M_cut_160 : decode (zb m_M_cut) 160 = .ok (.iload 4, 2) := by decide +kernel
theorem d_M_cut_162 : decode (zb m_M_cut) 162 = .ok (.ireturn, 1) := by decide +kernel
theorem d_M_text_0 : decode (zb m_M_text) 0 = .ok (.iload_n 1, 1) := by decide +kernel
theorem d_M_text_1 : decode (zb m_M_text) 1 = .ok (.istore_n 3, 1) := by decide +kernel
theorem d_M_text_2 : decode (zb m_M_text) 2 = .ok (.iconst 0, 1) := by decide +kernel
theorem d_M_text_3 : decode (zb m_M_text) 3 = .ok (.istore 4, 2) := by decide +kernel
theorem d_M_text_5 : decode (zb m_M_text) 5 = .ok (.iload 4, 2) := by decide +kernel
theorem d_M_text_7 : decode (zb m_M_text) 7 = .ok (.aload_n 0, 1) := by decide +kernel
theorem d_M_text_8 : decode (zb m_M_text) 8 = .ok (.getfield 124, 3) := by decide +kernel
theorem d_M_text_11 : decode (zb m_M_text) 11 = .ok (.if_icmp .ge 93, 3) := by decide +kernel
theorem d_M_text_14 : decode (zb m_M_text) 14 = .ok (.iload_n 1, 1) := by decide +kernel
theorem d_M_text_15 : decode (zb m_M_text) 15 = .ok (.iload 4, 2) := by decide +kernel
theorem d_M_text_17 : decode (zb m_M_text) 17 = .ok (.invokestatic 130, 3) := by decide +kernel
theorem d_M_text_20 : decode (zb m_M_text) 20 = .ok (.istore 5, 2) := by decide +kernel
theorem d_M_text_22 : decode (zb m_M_text) 22 = .ok (.iload 5, 2) := by decide +kernel
theorem d_M_text_24 : decode (zb m_M_text) 24 = .ok (.iload_n 2, 1) := by decide +kernel
theorem d_M_text_25 : decode (zb m_M_text) 25 = .ok (.iadd, 1) := by decide +kernel
theorem d_M_text_26 : decode (zb m_M_text) 26 = .ok (.aload_n 0, 1) := by decide +kernel
theorem d_M_text_27 : decode (zb m_M_text) 27 = .ok (.getfield 43, 3) := by decide +kernel
theorem d_M_text_30 : decode (zb m_M_text) 30 = .ok (.iload 4, 2) := by decide +kernel
theorem d_M_text_32 : decode (zb m_M_text) 32 = .ok (.iaload, 1) := by decide +kernel
theorem d_M_text_33 : decode (zb m_M_text) 33 = .ok (.if_icmp .le 6, 3) := by decide +kernel
theorem d_M_text_36 : decode (zb m_M_text) 36 = .ok (.bipush (-6), 2) := by decide +kernel
theorem d_M_text_38 : decode (zb m_M_text) 38 = .ok (.ireturn, 1) := by decide +kernel
theorem d_M_text_39 : decode (zb m_M_text) 39 = .ok (.iconst 0, 1) := by decide +kernel
theorem d_M_text_40 : decode (zb m_M_text) 40 = .ok (.istore 6, 2) := by decide +kernel
theorem d_M_text_42 : decode (zb m_M_text) 42 = .ok (.iload 6, 2) := by decide +kernel
theorem d_M_text_44 : decode (zb m_M_text) 44 = .ok (.iload_n 2, 1) := by decide +kernel
theorem d_M_text_45 : decode (zb m_M_text) 45 = .ok (.if_icmp .ge 43, 3) := by decide +kernel
theorem d_M_text_48 : decode (zb m_M_text) 48 = .ok (.aload_n 0, 1) := by decide +kernel
theorem d_M_text_49 : decode (zb m_M_text) 49 = .ok (.getfield 40, 3) := by decide +kernel
theorem d_M_text_52 : decode (zb m_M_text) 52 = .ok (.iconst 5, 1) := by decide +kernel
theorem d_M_text_53 : decode (zb m_M_text) 53 = .ok (.iload 4, 2) := by decide +kernel
theorem d_M_text_55 : decode (zb m_M_text) 55 = .ok (.imul, 1) := by decide +kernel
theorem d_M_text_56 : decode (zb m_M_text) 56 = .ok (.iload 5, 2) := by decide +kernel
theorem d_M_text_58 : decode (zb m_M_text) 58 = .ok (.iadd, 1) := by decide +kernel
theorem d_M_text_59 : decode (zb m_M_text) 59 = .ok (.iload 6, 2) := by decide +kernel
theorem d_M_text_61 : decode (zb m_M_text) 61 = .ok (.iadd, 1) := by decide +kernel
theorem d_M_text_62 : decode (zb m_M_text) 62 = .ok (.iaload, 1) := by decide +kernel
theorem d_M_text_63 : decode (zb m_M_text) 63 = .ok (.aload_n 0, 1) := by decide +kernel
theorem d_M_text_64 : decode (zb m_M_text) 64 = .ok (.getfield 40, 3) := by decide +kernel
theorem d_M_text_67 : decode (zb m_M_text) 67 = .ok (.iload_n 1, 1) := by decide +kernel
theorem d_M_text_68 : decode (zb m_M_text) 68 = .ok (.iconst 0, 1) := by decide +kernel
theorem d_M_text_69 : decode (zb m_M_text) 69 = .ok (.invokestatic 130, 3) := by decide +kernel
theorem d_M_text_72 : decode (zb m_M_text) 72 = .ok (.iload 6, 2) := by decide +kernel
theorem d_M_text_74 : decode (zb m_M_text) 74 = .ok (.iadd, 1) := by decide +kernel
theorem d_M_text_75 : decode (zb m_M_text) 75 = .ok (.iaload, 1) := by decide +kernel
theorem d_M_text_76 : decode (zb m_M_text) 76 = .ok (.if_icmp .eq 6, 3) := by decide +kernel
theorem d_M_text_79 : decode (zb m_M_text) 79 = .ok (.bipush (-6), 2) := by decide +kernel
theorem d_M_text_81 : decode (zb m_M_text) 81 = .ok (.ireturn, 1) := by decide +kernel
theorem d_M_text_82 : decode (zb m_M_text) 82 = .ok (.iinc 6 1, 3) := by decide +kernel
theorem d_M_text_85 : decode (zb m_M_text) 85 = .ok (.goto (-43), 3) := by decide +kernel
theorem d_M_text_88 : decode (zb m_M_text) 88 = .ok (.iload_n 3, 1) := by decide +kernel
theorem d_M_text_89 : decode (zb m_M_text) 89 = .ok (.iload_n 2, 1) := by decide +kernel
theorem d_M_text_90 : decode (zb m_M_text) 90 = .ok (.iload 4, 2) := by decide +kernel
theorem d_M_text_92 : decode (zb m_M_text) 92 = .ok (.invokestatic 121, 3) := by decide +kernel
theorem d_M_text_95 : decode (zb m_M_text) 95 = .ok (.imul, 1) := by decide +kernel
theorem d_M_text_96 : decode (zb m_M_text) 96 = .ok (.iadd, 1) := by decide +kernel
theorem d_M_text_97 : decode (zb m_M_text) 97 = .ok (.istore_n 3, 1) := by decide +kernel
theorem d_M_text_98 : decode (zb m_M_text) 98 = .ok (.iinc 4 1, 3) := by decide +kernel
theorem d_M_text_101 : decode (zb m_M_text) 101 = .ok (.goto (-96), 3) := by decide +kernel
theorem d_M_text_104 : decode (zb m_M_text) 104 = .ok (.iload_n 3, 1) := by decide +kernel
theorem d_M_text_105 : decode (zb m_M_text) 105 = .ok (.ireturn, 1) := by decide +kernel
theorem d_M_end_0 : decode (zb m_M_end) 0 = .ok (.iconst 0, 1) := by decide +kernel
theorem d_M_end_1 : decode (zb m_M_end) 1 = .ok (.istore_n 1, 1) := by decide +kernel
theorem d_M_end_2 : decode (zb m_M_end) 2 = .ok (.iconst 0, 1) := by decide +kernel
theorem d_M_end_3 : decode (zb m_M_end) 3 = .ok (.istore_n 2, 1) := by decide +kernel
theorem d_M_end_4 : decode (zb m_M_end) 4 = .ok (.iload_n 2, 1) := by decide +kernel
theorem d_M_end_5 : decode (zb m_M_end) 5 = .ok (.aload_n 0, 1) := by decide +kernel
theorem d_M_end_6 : decode (zb m_M_end) 6 = .ok (.getfield 124, 3) := by decide +kernel
theorem d_M_end_9 : decode (zb m_M_end) 9 = .ok (.if_icmp .ge 23, 3) := by decide +kernel
theorem d_M_end_12 : decode (zb m_M_end) 12 = .ok (.iload_n 1, 1) := by decide +kernel
theorem d_M_end_13 : decode (zb m_M_end) 13 = .ok (.aload_n 0, 1) := by decide +kernel
theorem d_M_end_14 : decode (zb m_M_end) 14 = .ok (.getfield 43, 3) := by decide +kernel
theorem d_M_end_17 : decode (zb m_M_end) 17 = .ok (.iload_n 2, 1) := by decide +kernel
theorem d_M_end_18 : decode (zb m_M_end) 18 = .ok (.iaload, 1) := by decide +kernel
theorem d_M_end_19 : decode (zb m_M_end) 19 = .ok (.iload_n 2, 1) := by decide +kernel
theorem d_M_end_20 : decode (zb m_M_end) 20 = .ok (.invokestatic 121, 3) := by decide +kernel
theorem d_M_end_23 : decode (zb m_M_end) 23 = .ok (.imul, 1) := by decide +kernel
theorem d_M_end_24 : decode (zb m_M_end) 24 = .ok (.iadd, 1) := by decide +kernel
theorem d_M_end_25 : decode (zb m_M_end) 25 = .ok (.istore_n 1, 1) := by decide +kernel
theorem d_M_end_26 : decode (zb m_M_end) 26 = .ok (.iinc 2 1, 3) := by decide +kernel
theorem d_M_end_29 : decode (zb m_M_end) 29 = .ok (.goto (-25), 3) := by decide +kernel
theorem d_M_end_32 : decode (zb m_M_end) 32 = .ok (.iload_n 1, 1) := by decide +kernel
theorem d_M_end_33 : decode (zb m_M_end) 33 = .ok (.ireturn, 1) := by decide +kernel
theorem d_M_rows_0 : decode (zb m_M_rows) 0 = .ok (.aload_n 0, 1) := by decide +kernel
theorem d_M_rows_1 : decode (zb m_M_rows) 1 = .ok (.getfield 124, 3) := by decide +kernel
theorem d_M_rows_4 : decode (zb m_M_rows) 4 = .ok (.iconst 4, 1) := by decide +kernel
theorem d_M_rows_5 : decode (zb m_M_rows) 5 = .ok (.if_icmp .ne 9, 3) := by decide +kernel
theorem d_M_rows_8 : decode (zb m_M_rows) 8 = .ok (.sipush 1296, 3) := by decide +kernel
theorem d_M_rows_11 : decode (zb m_M_rows) 11 = .ok (.goto 10, 3) := by decide +kernel
theorem d_M_rows_14 : decode (zb m_M_rows) 14 = .ok (.aload_n 0, 1) := by decide +kernel
theorem d_M_rows_15 : decode (zb m_M_rows) 15 = .ok (.getfield 124, 3) := by decide +kernel
theorem d_M_rows_18 : decode (zb m_M_rows) 18 = .ok (.invokestatic 121, 3) := by decide +kernel
theorem d_M_rows_21 : decode (zb m_M_rows) 21 = .ok (.ireturn, 1) := by decide +kernel
theorem d_M_count_0 : decode (zb m_M_count) 0 = .ok (.aload_n 0, 1) := by decide +kernel
theorem d_M_count_1 : decode (zb m_M_count) 1 = .ok (.invokevirtual 134, 3) := by decide +kernel
theorem d_M_count_4 : decode (zb m_M_count) 4 = .ok (.istore_n 1, 1) := by decide +kernel
theorem d_M_count_5 : decode (zb m_M_count) 5 = .ok (.iconst 0, 1) := by decide +kernel
theorem d_M_count_6 : decode (zb m_M_count) 6 = .ok (.istore_n 2, 1) := by decide +kernel
theorem d_M_count_7 : decode (zb m_M_count) 7 = .ok (.iload_n 2, 1) := by decide +kernel
theorem d_M_count_8 : decode (zb m_M_count) 8 = .ok (.iload_n 1, 1) := by decide +kernel
theorem d_M_count_9 : decode (zb m_M_count) 9 = .ok (.if_icmp .ge 24, 3) := by decide +kernel
theorem d_M_count_12 : decode (zb m_M_count) 12 = .ok (.aload_n 0, 1) := by decide +kernel
theorem d_M_count_13 : decode (zb m_M_count) 13 = .ok (.getfield 49, 3) := by decide +kernel
theorem d_M_count_16 : decode (zb m_M_count) 16 = .ok (.iload_n 2, 1) := by decide +kernel
theorem d_M_count_17 : decode (zb m_M_count) 17 = .ok (.iload_n 2, 1) := by decide +kernel
theorem d_M_count_18 : decode (zb m_M_count) 18 = .ok (.ifCond .ne 7, 3) := by decide +kernel
theorem d_M_count_21 : decode (zb m_M_count) 21 = .ok (.lconst 1, 1) := by decide +kernel
theorem d_M_count_22 : decode (zb m_M_count) 22 = .ok (.goto 4, 3) := by decide +kernel
theorem d_M_count_25 : decode (zb m_M_count) 25 = .ok (.lconst 0, 1) := by decide +kernel
theorem d_M_count_26 : decode (zb m_M_count) 26 = .ok (.lastore, 1) := by decide +kernel
theorem d_M_count_27 : decode (zb m_M_count) 27 = .ok (.iinc 2 1, 3) := by decide +kernel
theorem d_M_count_30 : decode (zb m_M_count) 30 = .ok (.goto (-23), 3) := by decide +kernel
theorem d_M_count_33 : decode (zb m_M_count) 33 = .ok (.iconst 0, 1) := by decide +kernel
theorem d_M_count_34 : decode (zb m_M_count) 34 = .ok (.istore_n 2, 1) := by decide +kernel
theorem d_M_count_35 : decode (zb m_M_count) 35 = .ok (.iload_n 2, 1) := by decide +kernel
theorem d_M_count_36 : decode (zb m_M_count) 36 = .ok (.iconst 5, 1) := by decide +kernel
theorem d_M_count_37 : decode (zb m_M_count) 37 = .ok (.if_icmp .gt 133, 3) := by decide +kernel
theorem d_M_count_40 : decode (zb m_M_count) 40 = .ok (.iload_n 2, 1) := by decide +kernel
theorem d_M_count_41 : decode (zb m_M_count) 41 = .ok (.istore_n 3, 1) := by decide +kernel
theorem d_M_count_42 : decode (zb m_M_count) 42 = .ok (.iload_n 3, 1) := by decide +kernel
theorem d_M_count_43 : decode (zb m_M_count) 43 = .ok (.iload_n 1, 1) := by decide +kernel
theorem d_M_count_44 : decode (zb m_M_count) 44 = .ok (.if_icmp .ge 120, 3) := by decide +kernel
theorem d_M_count_47 : decode (zb m_M_count) 47 = .ok (.aload_n 0, 1) := by decide +kernel
theorem d_M_count_48 : decode (zb m_M_count) 48 = .ok (.getfield 49, 3) := by decide +kernel
theorem d_M_count_51 : decode (zb m_M_count) 51 = .ok (.iload_n 3, 1) := by decide +kernel
theorem d_M_count_52 : decode (zb m_M_count) 52 = .ok (.laload, 1) := by decide +kernel
theorem d_M_count_53 : decode (zb m_M_count) 53 = .ok (.lconst 0, 1) := by decide +kernel
theorem d_M_count_54 : decode (zb m_M_count) 54 = .ok (.lcmp, 1) := by decide +kernel
theorem d_M_count_55 : decode (zb m_M_count) 55 = .ok (.ifCond .le 103, 3) := by decide +kernel
theorem d_M_count_58 : decode (zb m_M_count) 58 = .ok (.iconst 0, 1) := by decide +kernel
theorem d_M_count_59 : decode (zb m_M_count) 59 = .ok (.istore 4, 2) := by decide +kernel
theorem d_M_count_61 : decode (zb m_M_count) 61 = .ok (.iload 4, 2) := by decide +kernel
theorem d_M_count_63 : decode (zb m_M_count) 63 = .ok (.sipush 3844, 3) := by decide +kernel
theorem d_M_count_66 : decode (zb m_M_count) 66 = .ok (.if_icmp .ge 47, 3) := by decide +kernel
theorem d_M_count_69 : decode (zb m_M_count) 69 = .ok (.aload_n 0, 1) := by decide +kernel
theorem d_M_count_70 : decode (zb m_M_count) 70 = .ok (.iload_n 3, 1) := by decide +kernel
theorem d_M_count_71 : decode (zb m_M_count) 71 = .ok (.iload 4, 2) := by decide +kernel
theorem d_M_count_73 : decode (zb m_M_count) 73 = .ok (.bipush 62, 2) := by decide +kernel
theorem d_M_count_75 : decode (zb m_M_count) 75 = .ok (.idiv, 1) := by decide +kernel
theorem d_M_count_76 : decode (zb m_M_count) 76 = .ok (.iload 4, 2) := by decide +kernel
theorem d_M_count_78 : decode (zb m_M_count) 78 = .ok (.bipush 62, 2) := by decide +kernel
theorem d_M_count_80 : decode (zb m_M_count) 80 = .ok (.irem, 1) := by decide +kernel
theorem d_M_count_81 : decode (zb m_M_count) 81 = .ok (.invokevirtual 137, 3) := by decide +kernel
theorem d_M_count_84 : decode (zb m_M_count) 84 = .ok (.istore 5, 2) := by decide +kernel
theorem d_M_count_86 : decode (zb m_M_count) 86 = .ok (.iload 5, 2) := by decide +kernel
theorem d_M_count_88 : decode (zb m_M_count) 88 = .ok (.ifCond .lt 19, 3) := by decide +kernel
theorem d_M_count_91 : decode (zb m_M_count) 91 = .ok (.aload_n 0, 1) := by decide +kernel
theorem d_M_count_92 : decode (zb m_M_count) 92 = .ok (.getfield 49, 3) := by decide +kernel
theorem d_M_count_95 : decode (zb m_M_count) 95 = .ok (.iload 5, 2) := by decide +kernel
theorem d_M_count_97 : decode (zb m_M_count) 97 = .ok (.dup2, 1) := by decide +kernel
theorem d_M_count_98 : decode (zb m_M_count) 98 = .ok (.laload, 1) := by decide +kernel
theorem d_M_count_99 : decode (zb m_M_count) 99 = .ok (.aload_n 0, 1) := by decide +kernel
theorem d_M_count_100 : decode (zb m_M_count) 100 = .ok (.getfield 49, 3) := by decide +kernel
theorem d_M_count_103 : decode (zb m_M_count) 103 = .ok (.iload_n 3, 1) := by decide +kernel
theorem d_M_count_104 : decode (zb m_M_count) 104 = .ok (.laload, 1) := by decide +kernel
theorem d_M_count_105 : decode (zb m_M_count) 105 = .ok (.ladd, 1) := by decide +kernel
theorem d_M_count_106 : decode (zb m_M_count) 106 = .ok (.lastore, 1) := by decide +kernel
theorem d_M_count_107 : decode (zb m_M_count) 107 = .ok (.iinc 4 1, 3) := by decide +kernel
theorem d_M_count_110 : decode (zb m_M_count) 110 = .ok (.goto (-49), 3) := by decide +kernel
theorem d_M_count_113 : decode (zb m_M_count) 113 = .ok (.iconst 1, 1) := by decide +kernel
theorem d_M_count_114 : decode (zb m_M_count) 114 = .ok (.istore 4, 2) := by decide +kernel
theorem d_M_count_116 : decode (zb m_M_count) 116 = .ok (.iload 4, 2) := by decide +kernel
theorem d_M_count_118 : decode (zb m_M_count) 118 = .ok (.iconst 5, 1) := by decide +kernel
theorem d_M_count_119 : decode (zb m_M_count) 119 = .ok (.if_icmp .gt 39, 3) := by decide +kernel
theorem d_M_count_122 : decode (zb m_M_count) 122 = .ok (.aload_n 0, 1) := by decide +kernel
theorem d_M_count_123 : decode (zb m_M_count) 123 = .ok (.iload_n 3, 1) := by decide +kernel
theorem d_M_count_124 : decode (zb m_M_count) 124 = .ok (.iload 4, 2) := by decide +kernel
theorem d_M_count_126 : decode (zb m_M_count) 126 = .ok (.invokevirtual 141, 3) := by decide +kernel
theorem d_M_count_129 : decode (zb m_M_count) 129 = .ok (.istore 5, 2) := by decide +kernel
theorem d_M_count_131 : decode (zb m_M_count) 131 = .ok (.iload 5, 2) := by decide +kernel
theorem d_M_count_133 : decode (zb m_M_count) 133 = .ok (.ifCond .lt 19, 3) := by decide +kernel
theorem d_M_count_136 : decode (zb m_M_count) 136 = .ok (.aload_n 0, 1) := by decide +kernel
theorem d_M_count_137 : decode (zb m_M_count) 137 = .ok (.getfield 49, 3) := by decide +kernel
theorem d_M_count_140 : decode (zb m_M_count) 140 = .ok (.iload 5, 2) := by decide +kernel
theorem d_M_count_142 : decode (zb m_M_count) 142 = .ok (.dup2, 1) := by decide +kernel
theorem d_M_count_143 : decode (zb m_M_count) 143 = .ok (.laload, 1) := by decide +kernel
theorem d_M_count_144 : decode (zb m_M_count) 144 = .ok (.aload_n 0, 1) := by decide +kernel
theorem d_M_count_145 : decode (zb m_M_count) 145 = .ok (.getfield 49, 3) := by decide +kernel
theorem d_M_count_148 : decode (zb m_M_count) 148 = .ok (.iload_n 3, 1) := by decide +kernel
theorem d_M_count_149 : decode (zb m_M_count) 149 = .ok (.laload, 1) := by decide +kernel
theorem d_M_count_150 : decode (zb m_M_count) 150 = .ok (.ladd, 1) := by decide +kernel
theorem d_M_count_151 : decode (zb m_M_count) 151 = .ok (.lastore, 1) := by decide +kernel
theorem d_M_count_152 : decode (zb m_M_count) 152 = .ok (.iinc 4 1, 3) := by decide +kernel
theorem d_M_count_155 : decode (zb m_M_count) 155 = .ok (.goto (-39), 3) := by decide +kernel
theorem d_M_count_158 : decode (zb m_M_count) 158 = .ok (.iinc 3 6, 3) := by decide +kernel
theorem d_M_count_161 : decode (zb m_M_count) 161 = .ok (.goto (-119), 3) := by decide +kernel
theorem d_M_count_164 : decode (zb m_M_count) 164 = .ok (.iinc 2 1, 3) := by decide +kernel
theorem d_M_count_167 : decode (zb m_M_count) 167 = .ok (.goto (-132), 3) := by decide +kernel
theorem d_M_count_170 : decode (zb m_M_count) 170 = .ok (.aload_n 0, 1) := by decide +kernel
theorem d_M_count_171 : decode (zb m_M_count) 171 = .ok (.getfield 49, 3) := by decide +kernel
theorem d_M_count_174 : decode (zb m_M_count) 174 = .ok (.aload_n 0, 1) := by decide +kernel
theorem d_M_count_175 : decode (zb m_M_count) 175 = .ok (.invokevirtual 144, 3) := by decide +kernel
theorem d_M_count_178 : decode (zb m_M_count) 178 = .ok (.laload, 1) := by decide +kernel
theorem d_M_count_179 : decode (zb m_M_count) 179 = .ok (.lreturn, 1) := by decide +kernel
theorem d_M_costOfCut_0 : decode (zb m_M_costOfCut) 0 = .ok (.iconst 1, 1) := by decide +kernel
theorem d_M_costOfCut_1 : decode (zb m_M_costOfCut) 1 = .ok (.aload_n 0, 1) := by decide +kernel
theorem d_M_costOfCut_2 : decode (zb m_M_costOfCut) 2 = .ok (.getfield 31, 3) := by decide +kernel
theorem d_M_costOfCut_5 : decode (zb m_M_costOfCut) 5 = .ok (.iload_n 1, 1) := by decide +kernel
theorem d_M_costOfCut_6 : decode (zb m_M_costOfCut) 6 = .ok (.iaload, 1) := by decide +kernel
theorem d_M_costOfCut_7 : decode (zb m_M_costOfCut) 7 = .ok (.invokestatic 147, 3) := by decide +kernel
theorem d_M_costOfCut_10 : decode (zb m_M_costOfCut) 10 = .ok (.iadd, 1) := by decide +kernel
theorem d_M_costOfCut_11 : decode (zb m_M_costOfCut) 11 = .ok (.aload_n 0, 1) := by decide +kernel
theorem d_M_costOfCut_12 : decode (zb m_M_costOfCut) 12 = .ok (.getfield 31, 3) := by decide +kernel
theorem d_M_costOfCut_15 : decode (zb m_M_costOfCut) 15 = .ok (.iload_n 2, 1) := by decide +kernel
theorem d_M_costOfCut_16 : decode (zb m_M_costOfCut) 16 = .ok (.iaload, 1) := by decide +kernel
theorem d_M_costOfCut_17 : decode (zb m_M_costOfCut) 17 = .ok (.invokestatic 147, 3) := by decide +kernel
theorem d_M_costOfCut_20 : decode (zb m_M_costOfCut) 20 = .ok (.iadd, 1) := by decide +kernel
theorem d_M_costOfCut_21 : decode (zb m_M_costOfCut) 21 = .ok (.ireturn, 1) := by decide +kernel
theorem d_M_costOfPiece_0 : decode (zb m_M_costOfPiece) 0 = .ok (.aload_n 0, 1) := by decide +kernel
theorem d_M_costOfPiece_1 : decode (zb m_M_costOfPiece) 1 = .ok (.getfield 56, 3) := by decide +kernel
theorem d_M_costOfPiece_4 : decode (zb m_M_costOfPiece) 4 = .ok (.iload_n 1, 1) := by decide +kernel
theorem d_M_costOfPiece_5 : decode (zb m_M_costOfPiece) 5 = .ok (.iaload, 1) := by decide +kernel
theorem d_M_costOfPiece_6 : decode (zb m_M_costOfPiece) 6 = .ok (.ifCond .ne 27, 3) := by decide +kernel
theorem d_M_costOfPiece_9 : decode (zb m_M_costOfPiece) 9 = .ok (.iconst 1, 1) := by decide +kernel
theorem d_M_costOfPiece_10 : decode (zb m_M_costOfPiece) 10 = .ok (.aload_n 0, 1) := by decide +kernel
theorem d_M_costOfPiece_11 : decode (zb m_M_costOfPiece) 11 = .ok (.getfield 59, 3) := by decide +kernel
theorem d_M_costOfPiece_14 : decode (zb m_M_costOfPiece) 14 = .ok (.iload_n 1, 1) := by decide +kernel
theorem d_M_costOfPiece_15 : decode (zb m_M_costOfPiece) 15 = .ok (.iaload, 1) := by decide +kernel
theorem d_M_costOfPiece_16 : decode (zb m_M_costOfPiece) 16 = .ok (.invokestatic 147, 3) := by decide +kernel
theorem d_M_costOfPiece_19 : decode (zb m_M_costOfPiece) 19 = .ok (.iadd, 1) := by decide +kernel
theorem d_M_costOfPiece_20 : decode (zb m_M_costOfPiece) 20 = .ok (.aload_n 0, 1) := by decide +kernel
theorem d_M_costOfPiece_21 : decode (zb m_M_costOfPiece) 21 = .ok (.getfield 62, 3) := by decide +kernel
theorem d_M_costOfPiece_24 : decode (zb m_M_costOfPiece) 24 = .ok (.iload_n 1, 1) := by decide +kernel
theorem d_M_costOfPiece_25 : decode (zb m_M_costOfPiece) 25 = .ok (.iaload, 1) := by decide +kernel
theorem d_M_costOfPiece_26 : decode (zb m_M_costOfPiece) 26 = .ok (.invokestatic 147, 3) := by decide +kernel
theorem d_M_costOfPiece_29 : decode (zb m_M_costOfPiece) 29 = .ok (.iadd, 1) := by decide +kernel
theorem d_M_costOfPiece_30 : decode (zb m_M_costOfPiece) 30 = .ok (.goto 13, 3) := by decide +kernel
theorem d_M_costOfPiece_33 : decode (zb m_M_costOfPiece) 33 = .ok (.iconst 2, 1) := by decide +kernel
theorem d_M_costOfPiece_34 : decode (zb m_M_costOfPiece) 34 = .ok (.aload_n 0, 1) := by decide +kernel
theorem d_M_costOfPiece_35 : decode (zb m_M_costOfPiece) 35 = .ok (.getfield 59, 3) := by decide +kernel
theorem d_M_costOfPiece_38 : decode (zb m_M_costOfPiece) 38 = .ok (.iload_n 1, 1) := by decide +kernel
theorem d_M_costOfPiece_39 : decode (zb m_M_costOfPiece) 39 = .ok (.iaload, 1) := by decide +kernel
theorem d_M_costOfPiece_40 : decode (zb m_M_costOfPiece) 40 = .ok (.imul, 1) := by decide +kernel
theorem d_M_costOfPiece_41 : decode (zb m_M_costOfPiece) 41 = .ok (.iconst 2, 1) := by decide +kernel
theorem d_M_costOfPiece_42 : decode (zb m_M_costOfPiece) 42 = .ok (.iadd, 1) := by decide +kernel
theorem d_M_costOfPiece_43 : decode (zb m_M_costOfPiece) 43 = .ok (.ireturn, 1) := by decide +kernel
theorem d_M_layBest_0 : decode (zb m_M_layBest) 0 = .ok (.aload_n 0, 1) := by decide +kernel
theorem d_M_layBest_1 : decode (zb m_M_layBest) 1 = .ok (.invokevirtual 150, 3) := by decide +kernel
theorem d_M_layBest_4 : decode (zb m_M_layBest) 4 = .ok (.aload_n 0, 1) := by decide +kernel
theorem d_M_layBest_5 : decode (zb m_M_layBest) 5 = .ok (.invokevirtual 153, 3) := by decide +kernel
theorem d_M_layBest_8 : decode (zb m_M_layBest) 8 = .ok (.lconst 0, 1) := by decide +kernel
theorem d_M_layBest_9 : decode (zb m_M_layBest) 9 = .ok (.lcmp, 1) := by decide +kernel
theorem d_M_layBest_10 : decode (zb m_M_layBest) 10 = .ok (.ifCond .ne 5, 3) := by decide +kernel
theorem d_M_layBest_13 : decode (zb m_M_layBest) 13 = .ok (.iconst 0, 1) := by decide +kernel
theorem d_M_layBest_14 : decode (zb m_M_layBest) 14 = .ok (.ireturn, 1) := by decide +kernel
theorem d_M_layBest_15 : decode (zb m_M_layBest) 15 = .ok (.aload_n 0, 1) := by decide +kernel
theorem d_M_layBest_16 : decode (zb m_M_layBest) 16 = .ok (.invokevirtual 134, 3) := by decide +kernel
theorem d_M_layBest_19 : decode (zb m_M_layBest) 19 = .ok (.istore_n 1, 1) := by decide +kernel
theorem d_M_layBest_20 : decode (zb m_M_layBest) 20 = .ok (.aload_n 0, 1) := by decide +kernel
theorem d_M_layBest_21 : decode (zb m_M_layBest) 21 = .ok (.invokevirtual 144, 3) := by decide +kernel
theorem d_M_layBest_24 : decode (zb m_M_layBest) 24 = .ok (.istore_n 2, 1) := by decide +kernel
theorem d_M_layBest_25 : decode (zb m_M_layBest) 25 = .ok (.iconst 5, 1) := by decide +kernel
theorem d_M_layBest_26 : decode (zb m_M_layBest) 26 = .ok (.istore_n 3, 1) := by decide +kernel
theorem d_M_layBest_27 : decode (zb m_M_layBest) 27 = .ok (.iload_n 3, 1) := by decide +kernel
theorem d_M_layBest_28 : decode (zb m_M_layBest) 28 = .ok (.ifCond .lt 243, 3) := by decide +kernel
theorem d_M_layBest_31 : decode (zb m_M_layBest) 31 = .ok (.iload_n 3, 1) := by decide +kernel
theorem d_M_layBest_32 : decode (zb m_M_layBest) 32 = .ok (.istore 4, 2) := by decide +kernel
theorem d_M_layBest_34 : decode (zb m_M_layBest) 34 = .ok (.iload 4, 2) := by decide +kernel
theorem d_M_layBest_36 : decode (zb m_M_layBest) 36 = .ok (.iload_n 1, 1) := by decide +kernel
theorem d_M_layBest_37 : decode (zb m_M_layBest) 37 = .ok (.if_icmp .ge 228, 3) := by decide +kernel
theorem d_M_layBest_40 : decode (zb m_M_layBest) 40 = .ok (.aload_n 0, 1) := by decide +kernel
theorem d_M_layBest_41 : decode (zb m_M_layBest) 41 = .ok (.getfield 53, 3) := by decide +kernel
theorem d_M_layBest_44 : decode (zb m_M_layBest) 44 = .ok (.iload 4, 2) := by decide +kernel
theorem d_M_layBest_46 : decode (zb m_M_layBest) 46 = .ok (.iload 4, 2) := by decide +kernel
theorem d_M_layBest_48 : decode (zb m_M_layBest) 48 = .ok (.iload_n 2, 1) := by decide +kernel
theorem d_M_layBest_49 : decode (zb m_M_layBest) 49 = .ok (.if_icmp .ne 7, 3) := by decide +kernel
theorem d_M_layBest_52 : decode (zb m_M_layBest) 52 = .ok (.iconst 0, 1) := by decide +kernel
theorem d_M_layBest_53 : decode (zb m_M_layBest) 53 = .ok (.goto 5, 3) := by decide +kernel
theorem d_M_layBest_56 : decode (zb m_M_layBest) 56 = .ok (.ldc 157, 2) := by decide +kernel
theorem d_M_layBest_58 : decode (zb m_M_layBest) 58 = .ok (.iastore, 1) := by decide +kernel
theorem d_M_layBest_59 : decode (zb m_M_layBest) 59 = .ok (.iconst 0, 1) := by decide +kernel
theorem d_M_layBest_60 : decode (zb m_M_layBest) 60 = .ok (.istore 5, 2) := by decide +kernel
theorem d_M_layBest_62 : decode (zb m_M_layBest) 62 = .ok (.iload 5, 2) := by decide +kernel
theorem d_M_layBest_64 : decode (zb m_M_layBest) 64 = .ok (.sipush 3844, 3) := by decide +kernel
theorem d_M_layBest_67 : decode (zb m_M_layBest) 67 = .ok (.if_icmp .ge 105, 3) := by decide +kernel
theorem d_M_layBest_70 : decode (zb m_M_layBest) 70 = .ok (.aload_n 0, 1) := by decide +kernel
theorem d_M_layBest_71 : decode (zb m_M_layBest) 71 = .ok (.getfield 49, 3) := by decide +kernel
theorem d_M_layBest_74 : decode (zb m_M_layBest) 74 = .ok (.iload 4, 2) := by decide +kernel
theorem d_M_layBest_76 : decode (zb m_M_layBest) 76 = .ok (.laload, 1) := by decide +kernel
theorem d_M_layBest_77 : decode (zb m_M_layBest) 77 = .ok (.lconst 0, 1) := by decide +kernel
theorem d_M_layBest_78 : decode (zb m_M_layBest) 78 = .ok (.lcmp, 1) := by decide +kernel
theorem d_M_layBest_79 : decode (zb m_M_layBest) 79 = .ok (.ifCond .le 93, 3) := by decide +kernel
theorem d_M_layBest_82 : decode (zb m_M_layBest) 82 = .ok (.aload_n 0, 1) := by decide +kernel
theorem d_M_layBest_83 : decode (zb m_M_layBest) 83 = .ok (.iload 4, 2) := by decide +kernel
theorem d_M_layBest_85 : decode (zb m_M_layBest) 85 = .ok (.iload 5, 2) := by decide +kernel
theorem d_M_layBest_87 : decode (zb m_M_layBest) 87 = .ok (.bipush 62, 2) := by decide +kernel
theorem d_M_layBest_89 : decode (zb m_M_layBest) 89 = .ok (.idiv, 1) := by decide +kernel
theorem d_M_layBest_90 : decode (zb m_M_layBest) 90 = .ok (.iload 5, 2) := by decide +kernel
theorem d_M_layBest_92 : decode (zb m_M_layBest) 92 = .ok (.bipush 62, 2) := by decide +kernel
theorem d_M_layBest_94 : decode (zb m_M_layBest) 94 = .ok (.irem, 1) := by decide +kernel
theorem d_M_layBest_95 : decode (zb m_M_layBest) 95 = .ok (.invokevirtual 137, 3) := by decide +kernel
theorem d_M_layBest_98 : decode (zb m_M_layBest) 98 = .ok (.istore 6, 2) := by decide +kernel
theorem d_M_layBest_100 : decode (zb m_M_layBest) 100 = .ok (.iload 6, 2) := by decide +kernel
theorem d_M_layBest_102 : decode (zb m_M_layBest) 102 = .ok (.ifCond .lt 64, 3) := by decide +kernel
theorem d_M_layBest_105 : decode (zb m_M_layBest) 105 = .ok (.aload_n 0, 1) := by decide +kernel
theorem d_M_layBest_106 : decode (zb m_M_layBest) 106 = .ok (.getfield 53, 3) := by decide +kernel
theorem d_M_layBest_109 : decode (zb m_M_layBest) 109 = .ok (.iload 6, 2) := by decide +kernel
theorem d_M_layBest_111 : decode (zb m_M_layBest) 111 = .ok (.iaload, 1) := by decide +kernel
theorem d_M_layBest_112 : decode (zb m_M_layBest) 112 = .ok (.aload_n 0, 1) := by decide +kernel
theorem d_M_layBest_113 : decode (zb m_M_layBest) 113 = .ok (.iload 5, 2) := by decide +kernel
theorem d_M_layBest_115 : decode (zb m_M_layBest) 115 = .ok (.bipush 62, 2) := by decide +kernel
theorem d_M_layBest_117 : decode (zb m_M_layBest) 117 = .ok (.idiv, 1) := by decide +kernel
theorem d_M_layBest_118 : decode (zb m_M_layBest) 118 = .ok (.iload 5, 2) := by decide +kernel
theorem d_M_layBest_120 : decode (zb m_M_layBest) 120 = .ok (.bipush 62, 2) := by decide +kernel
theorem d_M_layBest_122 : decode (zb m_M_layBest) 122 = .ok (.irem, 1) := by decide +kernel
theorem d_M_layBest_123 : decode (zb m_M_layBest) 123 = .ok (.invokevirtual 158, 3) := by decide +kernel
theorem d_M_layBest_126 : decode (zb m_M_layBest) 126 = .ok (.iadd, 1) := by decide +kernel
theorem d_M_layBest_127 : decode (zb m_M_layBest) 127 = .ok (.aload_n 0, 1) := by decide +kernel
theorem d_M_layBest_128 : decode (zb m_M_layBest) 128 = .ok (.getfield 53, 3) := by decide +kernel
theorem d_M_layBest_131 : decode (zb m_M_layBest) 131 = .ok (.iload 4, 2) := by decide +kernel
theorem d_M_layBest_133 : decode (zb m_M_layBest) 133 = .ok (.iaload, 1) := by decide +kernel
theorem d_M_layBest_134 : decode (zb m_M_layBest) 134 = .ok (.if_icmp .ge 32, 3) := by decide +kernel
theorem d_M_layBest_137 : decode (zb m_M_layBest) 137 = .ok (.aload_n 0, 1) := by decide +kernel
theorem d_M_layBest_138 : decode (zb m_M_layBest) 138 = .ok (.getfield 53, 3) := by decide +kernel
theorem d_M_layBest_141 : decode (zb m_M_layBest) 141 = .ok (.iload 4, 2) := by decide +kernel
theorem d_M_layBest_143 : decode (zb m_M_layBest) 143 = .ok (.aload_n 0, 1) := by decide +kernel
theorem d_M_layBest_144 : decode (zb m_M_layBest) 144 = .ok (.getfield 53, 3) := by decide +kernel
theorem d_M_layBest_147 : decode (zb m_M_layBest) 147 = .ok (.iload 6, 2) := by decide +kernel
theorem d_M_layBest_149 : decode (zb m_M_layBest) 149 = .ok (.iaload, 1) := by decide +kernel
theorem d_M_layBest_150 : decode (zb m_M_layBest) 150 = .ok (.aload_n 0, 1) := by decide +kernel
theorem d_M_layBest_151 : decode (zb m_M_layBest) 151 = .ok (.iload 5, 2) := by decide +kernel
theorem d_M_layBest_153 : decode (zb m_M_layBest) 153 = .ok (.bipush 62, 2) := by decide +kernel
theorem d_M_layBest_155 : decode (zb m_M_layBest) 155 = .ok (.idiv, 1) := by decide +kernel
theorem d_M_layBest_156 : decode (zb m_M_layBest) 156 = .ok (.iload 5, 2) := by decide +kernel
theorem d_M_layBest_158 : decode (zb m_M_layBest) 158 = .ok (.bipush 62, 2) := by decide +kernel
theorem d_M_layBest_160 : decode (zb m_M_layBest) 160 = .ok (.irem, 1) := by decide +kernel
theorem d_M_layBest_161 : decode (zb m_M_layBest) 161 = .ok (.invokevirtual 158, 3) := by decide +kernel
theorem d_M_layBest_164 : decode (zb m_M_layBest) 164 = .ok (.iadd, 1) := by decide +kernel
theorem d_M_layBest_165 : decode (zb m_M_layBest) 165 = .ok (.iastore, 1) := by decide +kernel
theorem d_M_layBest_166 : decode (zb m_M_layBest) 166 = .ok (.iinc 5 1, 3) := by decide +kernel
theorem d_M_layBest_169 : decode (zb m_M_layBest) 169 = .ok (.goto (-107), 3) := by decide +kernel
theorem d_M_layBest_172 : decode (zb m_M_layBest) 172 = .ok (.iconst 1, 1) := by decide +kernel
theorem d_M_layBest_173 : decode (zb m_M_layBest) 173 = .ok (.istore 5, 2) := by decide +kernel
theorem d_M_layBest_175 : decode (zb m_M_layBest) 175 = .ok (.iload 5, 2) := by decide +kernel
theorem d_M_layBest_177 : decode (zb m_M_layBest) 177 = .ok (.iconst 5, 1) := by decide +kernel
theorem d_M_layBest_178 : decode (zb m_M_layBest) 178 = .ok (.if_icmp .gt 81, 3) := by decide +kernel
theorem d_M_layBest_181 : decode (zb m_M_layBest) 181 = .ok (.aload_n 0, 1) := by decide +kernel
theorem d_M_layBest_182 : decode (zb m_M_layBest) 182 = .ok (.getfield 49, 3) := by decide +kernel
theorem d_M_layBest_185 : decode (zb m_M_layBest) 185 = .ok (.iload 4, 2) := by decide +kernel
theorem d_M_layBest_187 : decode (zb m_M_layBest) 187 = .ok (.laload, 1) := by decide +kernel
theorem d_M_layBest_188 : decode (zb m_M_layBest) 188 = .ok (.lconst 0, 1) := by decide +kernel
theorem d_M_layBest_189 : decode (zb m_M_layBest) 189 = .ok (.lcmp, 1) := by decide +kernel
theorem d_M_layBest_190 : decode (zb m_M_layBest) 190 = .ok (.ifCond .le 69, 3) := by decide +kernel
theorem d_M_layBest_193 : decode (zb m_M_layBest) 193 = .ok (.aload_n 0, 1) := by decide +kernel
theorem d_M_layBest_194 : decode (zb m_M_layBest) 194 = .ok (.iload 4, 2) := by decide +kernel
theorem d_M_layBest_196 : decode (zb m_M_layBest) 196 = .ok (.iload 5, 2) := by decide +kernel
theorem d_M_layBest_198 : decode (zb m_M_layBest) 198 = .ok (.invokevirtual 141, 3) := by decide +kernel
theorem d_M_layBest_201 : decode (zb m_M_layBest) 201 = .ok (.istore 6, 2) := by decide +kernel
theorem d_M_layBest_203 : decode (zb m_M_layBest) 203 = .ok (.iload 6, 2) := by decide +kernel
theorem d_M_layBest_205 : decode (zb m_M_layBest) 205 = .ok (.ifCond .lt 48, 3) := by decide +kernel
theorem d_M_layBest_208 : decode (zb m_M_layBest) 208 = .ok (.aload_n 0, 1) := by decide +kernel
theorem d_M_layBest_209 : decode (zb m_M_layBest) 209 = .ok (.getfield 53, 3) := by decide +kernel
theorem d_M_layBest_212 : decode (zb m_M_layBest) 212 = .ok (.iload 6, 2) := by decide +kernel
theorem d_M_layBest_214 : decode (zb m_M_layBest) 214 = .ok (.iaload, 1) := by decide +kernel
theorem d_M_layBest_215 : decode (zb m_M_layBest) 215 = .ok (.iconst 2, 1) := by decide +kernel
theorem d_M_layBest_216 : decode (zb m_M_layBest) 216 = .ok (.iload 5, 2) := by decide +kernel
theorem d_M_layBest_218 : decode (zb m_M_layBest) 218 = .ok (.imul, 1) := by decide +kernel
theorem d_M_layBest_219 : decode (zb m_M_layBest) 219 = .ok (.iadd, 1) := by decide +kernel
theorem d_M_layBest_220 : decode (zb m_M_layBest) 220 = .ok (.iconst 2, 1) := by decide +kernel
theorem d_M_layBest_221 : decode (zb m_M_layBest) 221 = .ok (.iadd, 1) := by decide +kernel
theorem d_M_layBest_222 : decode (zb m_M_layBest) 222 = .ok (.aload_n 0, 1) := by decide +kernel
theorem d_M_layBest_223 : decode (zb m_M_layBest) 223 = .ok (.getfield 53, 3) := by decide +kernel
theorem d_M_layBest_226 : decode (zb m_M_layBest) 226 = .ok (.iload 4, 2) := by decide +kernel
theorem d_M_layBest_228 : decode (zb m_M_layBest) 228 = .ok (.iaload, 1) := by decide +kernel
theorem d_M_layBest_229 : decode (zb m_M_layBest) 229 = .ok (.if_icmp .ge 24, 3) := by decide +kernel
theorem d_M_layBest_232 : decode (zb m_M_layBest) 232 = .ok (.aload_n 0, 1) := by decide +kernel
theorem d_M_layBest_233 : decode (zb m_M_layBest) 233 = .ok (.getfield 53, 3) := by decide +kernel
theorem d_M_layBest_236 : decode (zb m_M_layBest) 236 = .ok (.iload 4, 2) := by decide +kernel
theorem d_M_layBest_238 : decode (zb m_M_layBest) 238 = .ok (.aload_n 0, 1) := by decide +kernel
theorem d_M_layBest_239 : decode (zb m_M_layBest) 239 = .ok (.getfield 53, 3) := by decide +kernel
theorem d_M_layBest_242 : decode (zb m_M_layBest) 242 = .ok (.iload 6, 2) := by decide +kernel
theorem d_M_layBest_244 : decode (zb m_M_layBest) 244 = .ok (.iaload, 1) := by decide +kernel
theorem d_M_layBest_245 : decode (zb m_M_layBest) 245 = .ok (.iconst 2, 1) := by decide +kernel
theorem d_M_layBest_246 : decode (zb m_M_layBest) 246 = .ok (.iload 5, 2) := by decide +kernel
theorem d_M_layBest_248 : decode (zb m_M_layBest) 248 = .ok (.imul, 1) := by decide +kernel
theorem d_M_layBest_249 : decode (zb m_M_layBest) 249 = .ok (.iadd, 1) := by decide +kernel
theorem d_M_layBest_250 : decode (zb m_M_layBest) 250 = .ok (.iconst 2, 1) := by decide +kernel
theorem d_M_layBest_251 : decode (zb m_M_layBest) 251 = .ok (.iadd, 1) := by decide +kernel
theorem d_M_layBest_252 : decode (zb m_M_layBest) 252 = .ok (.iastore, 1) := by decide +kernel
theorem d_M_layBest_253 : decode (zb m_M_layBest) 253 = .ok (.iinc 5 1, 3) := by decide +kernel
theorem d_M_layBest_256 : decode (zb m_M_layBest) 256 = .ok (.goto (-81), 3) := by decide +kernel
theorem d_M_layBest_259 : decode (zb m_M_layBest) 259 = .ok (.iinc 4 6, 3) := by decide +kernel
theorem d_M_layBest_262 : decode (zb m_M_layBest) 262 = .ok (.goto (-228), 3) := by decide +kernel
theorem d_M_layBest_265 : decode (zb m_M_layBest) 265 = .ok (.iinc 3 (-1), 3) := by decide +kernel
theorem d_M_layBest_268 : decode (zb m_M_layBest) 268 = .ok (.goto (-241), 3) := by decide +kernel
theorem d_M_layBest_271 : decode (zb m_M_layBest) 271 = .ok (.aload_n 0, 1) := by decide +kernel
theorem d_M_layBest_272 : decode (zb m_M_layBest) 272 = .ok (.aload_n 0, 1) := by decide +kernel
theorem d_M_layBest_273 : decode (zb m_M_layBest) 273 = .ok (.getfield 53, 3) := by decide +kernel
theorem d_M_layBest_276 : decode (zb m_M_layBest) 276 = .ok (.iconst 0, 1) := by decide +kernel
theorem d_M_layBest_277 : decode (zb m_M_layBest) 277 = .ok (.iaload, 1) := by decide +kernel
theorem d_M_layBest_278 : decode (zb m_M_layBest) 278 = .ok (.putfield 161, 3) := by decide +kernel
theorem d_M_layBest_281 : decode (zb m_M_layBest) 281 = .ok (.aload_n 0, 1) := by decide +kernel
theorem d_M_layBest_282 : decode (zb m_M_layBest) 282 = .ok (.iconst 0, 1) := by decide +kernel
theorem d_M_layBest_283 : decode (zb m_M_layBest) 283 = .ok (.putfield 164, 3) := by decide +kernel
theorem d_M_layBest_286 : decode (zb m_M_layBest) 286 = .ok (.iconst 0, 1) := by decide +kernel
theorem d_M_layBest_287 : decode (zb m_M_layBest) 287 = .ok (.istore_n 3, 1) := by decide +kernel
theorem d_M_layBest_288 : decode (zb m_M_layBest) 288 = .ok (.iload_n 3, 1) := by decide +kernel
theorem d_M_layBest_289 : decode (zb m_M_layBest) 289 = .ok (.iload_n 2, 1) := by decide +kernel
theorem d_M_layBest_290 : decode (zb m_M_layBest) 290 = .ok (.if_icmp .eq 12, 3) := by decide +kernel
theorem d_M_layBest_293 : decode (zb m_M_layBest) 293 = .ok (.aload_n 0, 1) := by decide +kernel
theorem d_M_layBest_294 : decode (zb m_M_layBest) 294 = .ok (.iload_n 3, 1) := by decide +kernel
theorem d_M_layBest_295 : decode (zb m_M_layBest) 295 = .ok (.invokevirtual 167, 3) := by decide +kernel
theorem d_M_layBest_298 : decode (zb m_M_layBest) 298 = .ok (.istore_n 3, 1) := by decide +kernel
theorem d_M_layBest_299 : decode (zb m_M_layBest) 299 = .ok (.goto (-11), 3) := by decide +kernel
theorem d_M_layBest_302 : decode (zb m_M_layBest) 302 = .ok (.iconst 1, 1) := by decide +kernel
theorem d_M_layBest_303 : decode (zb m_M_layBest) 303 = .ok (.ireturn, 1) := by decide +kernel
theorem d_M_goOn_0 : decode (zb m_M_goOn) 0 = .ok (.iconst 0, 1) := by decide +kernel
theorem d_M_goOn_1 : decode (zb m_M_goOn) 1 = .ok (.istore_n 2, 1) := by decide +kernel
theorem d_M_goOn_2 : decode (zb m_M_goOn) 2 = .ok (.iload_n 2, 1) := by decide +kernel
theorem d_M_goOn_3 : decode (zb m_M_goOn) 3 = .ok (.sipush 3844, 3) := by decide +kernel
theorem d_M_goOn_6 : decode (zb m_M_goOn) 6 = .ok (.if_icmp .ge 113, 3) := by decide +kernel
theorem d_M_goOn_9 : decode (zb m_M_goOn) 9 = .ok (.aload_n 0, 1) := by decide +kernel
theorem d_M_goOn_10 : decode (zb m_M_goOn) 10 = .ok (.iload_n 1, 1) := by decide +kernel
theorem d_M_goOn_11 : decode (zb m_M_goOn) 11 = .ok (.iload_n 2, 1) := by decide +kernel
theorem d_M_goOn_12 : decode (zb m_M_goOn) 12 = .ok (.bipush 62, 2) := by decide +kernel
theorem d_M_goOn_14 : decode (zb m_M_goOn) 14 = .ok (.idiv, 1) := by decide +kernel
theorem d_M_goOn_15 : decode (zb m_M_goOn) 15 = .ok (.iload_n 2, 1) := by decide +kernel
theorem d_M_goOn_16 : decode (zb m_M_goOn) 16 = .ok (.bipush 62, 2) := by decide +kernel
theorem d_M_goOn_18 : decode (zb m_M_goOn) 18 = .ok (.irem, 1) := by decide +kernel
theorem d_M_goOn_19 : decode (zb m_M_goOn) 19 = .ok (.invokevirtual 137, 3) := by decide +kernel
theorem d_M_goOn_22 : decode (zb m_M_goOn) 22 = .ok (.istore_n 3, 1) := by decide +kernel
theorem d_M_goOn_23 : decode (zb m_M_goOn) 23 = .ok (.iload_n 3, 1) := by decide +kernel
theorem d_M_goOn_24 : decode (zb m_M_goOn) 24 = .ok (.ifCond .lt 89, 3) := by decide +kernel
theorem d_M_goOn_27 : decode (zb m_M_goOn) 27 = .ok (.aload_n 0, 1) := by decide +kernel
theorem d_M_goOn_28 : decode (zb m_M_goOn) 28 = .ok (.getfield 53, 3) := by decide +kernel
theorem d_M_goOn_31 : decode (zb m_M_goOn) 31 = .ok (.iload_n 3, 1) := by decide +kernel
theorem d_M_goOn_32 : decode (zb m_M_goOn) 32 = .ok (.iaload, 1) := by decide +kernel
theorem d_M_goOn_33 : decode (zb m_M_goOn) 33 = .ok (.aload_n 0, 1) := by decide +kernel
theorem d_M_goOn_34 : decode (zb m_M_goOn) 34 = .ok (.iload_n 2, 1) := by decide +kernel
theorem d_M_goOn_35 : decode (zb m_M_goOn) 35 = .ok (.bipush 62, 2) := by decide +kernel
theorem d_M_goOn_37 : decode (zb m_M_goOn) 37 = .ok (.idiv, 1) := by decide +kernel
theorem d_M_goOn_38 : decode (zb m_M_goOn) 38 = .ok (.iload_n 2, 1) := by decide +kernel
theorem d_M_goOn_39 : decode (zb m_M_goOn) 39 = .ok (.bipush 62, 2) := by decide +kernel
theorem d_M_goOn_41 : decode (zb m_M_goOn) 41 = .ok (.irem, 1) := by decide +kernel
theorem d_M_goOn_42 : decode (zb m_M_goOn) 42 = .ok (.invokevirtual 158, 3) := by decide +kernel
theorem d_M_goOn_45 : decode (zb m_M_goOn) 45 = .ok (.iadd, 1) := by decide +kernel
theorem d_M_goOn_46 : decode (zb m_M_goOn) 46 = .ok (.aload_n 0, 1) := by decide +kernel
theorem d_M_goOn_47 : decode (zb m_M_goOn) 47 = .ok (.getfield 53, 3) := by decide +kernel
theorem d_M_goOn_50 : decode (zb m_M_goOn) 50 = .ok (.iload_n 1, 1) := by decide +kernel
theorem d_M_goOn_51 : decode (zb m_M_goOn) 51 = .ok (.iaload, 1) := by decide +kernel
theorem d_M_goOn_52 : decode (zb m_M_goOn) 52 = .ok (.if_icmp .ne 61, 3) := by decide +kernel
theorem d_M_goOn_55 : decode (zb m_M_goOn) 55 = .ok (.aload_n 0, 1) := by decide +kernel
theorem d_M_goOn_56 : decode (zb m_M_goOn) 56 = .ok (.getfield 56, 3) := by decide +kernel
theorem d_M_goOn_59 : decode (zb m_M_goOn) 59 = .ok (.aload_n 0, 1) := by decide +kernel
theorem d_M_goOn_60 : decode (zb m_M_goOn) 60 = .ok (.getfield 164, 3) := by decide +kernel
theorem d_M_goOn_63 : decode (zb m_M_goOn) 63 = .ok (.iconst 0, 1) := by decide +kernel
theorem d_M_goOn_64 : decode (zb m_M_goOn) 64 = .ok (.iastore, 1) := by decide +kernel
theorem d_M_goOn_65 : decode (zb m_M_goOn) 65 = .ok (.aload_n 0, 1) := by decide +kernel
theorem d_M_goOn_66 : decode (zb m_M_goOn) 66 = .ok (.getfield 59, 3) := by decide +kernel
theorem d_M_goOn_69 : decode (zb m_M_goOn) 69 = .ok (.aload_n 0, 1) := by decide +kernel
theorem d_M_goOn_70 : decode (zb m_M_goOn) 70 = .ok (.getfield 164, 3) := by decide +kernel
theorem d_M_goOn_73 : decode (zb m_M_goOn) 73 = .ok (.aload_n 0, 1) := by decide +kernel
theorem d_M_goOn_74 : decode (zb m_M_goOn) 74 = .ok (.getfield 31, 3) := by decide +kernel
theorem d_M_goOn_77 : decode (zb m_M_goOn) 77 = .ok (.iload_n 2, 1) := by decide +kernel
theorem d_M_goOn_78 : decode (zb m_M_goOn) 78 = .ok (.bipush 62, 2) := by decide +kernel
theorem d_M_goOn_80 : decode (zb m_M_goOn) 80 = .ok (.idiv, 1) := by decide +kernel
theorem d_M_goOn_81 : decode (zb m_M_goOn) 81 = .ok (.iaload, 1) := by decide +kernel
theorem d_M_goOn_82 : decode (zb m_M_goOn) 82 = .ok (.iastore, 1) := by decide +kernel
theorem d_M_goOn_83 : decode (zb m_M_goOn) 83 = .ok (.aload_n 0, 1) := by decide +kernel
theorem d_M_goOn_84 : decode (zb m_M_goOn) 84 = .ok (.getfield 62, 3) := by decide +kernel
theorem d_M_goOn_87 : decode (zb m_M_goOn) 87 = .ok (.aload_n 0, 1) := by decide +kernel
theorem d_M_goOn_88 : decode (zb m_M_goOn) 88 = .ok (.getfield 164, 3) := by decide +kernel
theorem d_M_goOn_91 : decode (zb m_M_goOn) 91 = .ok (.aload_n 0, 1) := by decide +kernel
theorem d_M_goOn_92 : decode (zb m_M_goOn) 92 = .ok (.getfield 31, 3) := by decide +kernel
theorem d_M_goOn_95 : decode (zb m_M_goOn) 95 = .ok (.iload_n 2, 1) := by decide +kernel
theorem d_M_goOn_96 : decode (zb m_M_goOn) 96 = .ok (.bipush 62, 2) := by decide +kernel
theorem d_M_goOn_98 : decode (zb m_M_goOn) 98 = .ok (.irem, 1) := by decide +kernel
theorem d_M_goOn_99 : decode (zb m_M_goOn) 99 = .ok (.iaload, 1) := by decide +kernel
theorem d_M_goOn_100 : decode (zb m_M_goOn) 100 = .ok (.iastore, 1) := by decide +kernel
theorem d_M_goOn_101 : decode (zb m_M_goOn) 101 = .ok (.aload_n 0, 1) := by decide +kernel
theorem d_M_goOn_102 : decode (zb m_M_goOn) 102 = .ok (.dup, 1) := by decide +kernel
theorem d_M_goOn_103 : decode (zb m_M_goOn) 103 = .ok (.getfield 164, 3) := by decide +kernel
theorem d_M_goOn_106 : decode (zb m_M_goOn) 106 = .ok (.iconst 1, 1) := by decide +kernel
theorem d_M_goOn_107 : decode (zb m_M_goOn) 107 = .ok (.iadd, 1) := by decide +kernel
theorem d_M_goOn_108 : decode (zb m_M_goOn) 108 = .ok (.putfield 164, 3) := by decide +kernel
theorem d_M_goOn_111 : decode (zb m_M_goOn) 111 = .ok (.iload_n 3, 1) := by decide +kernel
theorem d_M_goOn_112 : decode (zb m_M_goOn) 112 = .ok (.ireturn, 1) := by decide +kernel
theorem d_M_goOn_113 : decode (zb m_M_goOn) 113 = .ok (.iinc 2 1, 3) := by decide +kernel
theorem d_M_goOn_116 : decode (zb m_M_goOn) 116 = .ok (.goto (-114), 3) := by decide +kernel
theorem d_M_goOn_119 : decode (zb m_M_goOn) 119 = .ok (.iconst 1, 1) := by decide +kernel
theorem d_M_goOn_120 : decode (zb m_M_goOn) 120 = .ok (.istore_n 2, 1) := by decide +kernel
theorem d_M_goOn_121 : decode (zb m_M_goOn) 121 = .ok (.iload_n 2, 1) := by decide +kernel
theorem d_M_goOn_122 : decode (zb m_M_goOn) 122 = .ok (.iconst 5, 1) := by decide +kernel
theorem d_M_goOn_123 : decode (zb m_M_goOn) 123 = .ok (.if_icmp .gt 87, 3) := by decide +kernel
theorem d_M_goOn_126 : decode (zb m_M_goOn) 126 = .ok (.aload_n 0, 1) := by decide +kernel
theorem d_M_goOn_127 : decode (zb m_M_goOn) 127 = .ok (.iload_n 1, 1) := by decide +kernel
theorem d_M_goOn_128 : decode (zb m_M_goOn) 128 = .ok (.iload_n 2, 1) := by decide +kernel
theorem d_M_goOn_129 : decode (zb m_M_goOn) 129 = .ok (.invokevirtual 141, 3) := by decide +kernel
theorem d_M_goOn_132 : decode (zb m_M_goOn) 132 = .ok (.istore_n 3, 1) := by decide +kernel
theorem d_M_goOn_133 : decode (zb m_M_goOn) 133 = .ok (.iload_n 3, 1) := by decide +kernel
theorem d_M_goOn_134 : decode (zb m_M_goOn) 134 = .ok (.ifCond .lt 70, 3) := by decide +kernel
theorem d_M_goOn_137 : decode (zb m_M_goOn) 137 = .ok (.aload_n 0, 1) := by decide +kernel
theorem d_M_goOn_138 : decode (zb m_M_goOn) 138 = .ok (.getfield 53, 3) := by decide +kernel
theorem d_M_goOn_141 : decode (zb m_M_goOn) 141 = .ok (.iload_n 3, 1) := by decide +kernel
theorem d_M_goOn_142 : decode (zb m_M_goOn) 142 = .ok (.iaload, 1) := by decide +kernel
theorem d_M_goOn_143 : decode (zb m_M_goOn) 143 = .ok (.iconst 2, 1) := by decide +kernel
theorem d_M_goOn_144 : decode (zb m_M_goOn) 144 = .ok (.iload_n 2, 1) := by decide +kernel
theorem d_M_goOn_145 : decode (zb m_M_goOn) 145 = .ok (.imul, 1) := by decide +kernel
theorem d_M_goOn_146 : decode (zb m_M_goOn) 146 = .ok (.iadd, 1) := by decide +kernel
theorem d_M_goOn_147 : decode (zb m_M_goOn) 147 = .ok (.iconst 2, 1) := by decide +kernel
theorem d_M_goOn_148 : decode (zb m_M_goOn) 148 = .ok (.iadd, 1) := by decide +kernel
theorem d_M_goOn_149 : decode (zb m_M_goOn) 149 = .ok (.aload_n 0, 1) := by decide +kernel
theorem d_M_goOn_150 : decode (zb m_M_goOn) 150 = .ok (.getfield 53, 3) := by decide +kernel
theorem d_M_goOn_153 : decode (zb m_M_goOn) 153 = .ok (.iload_n 1, 1) := by decide +kernel
theorem d_M_goOn_154 : decode (zb m_M_goOn) 154 = .ok (.iaload, 1) := by decide +kernel
theorem d_M_goOn_155 : decode (zb m_M_goOn) 155 = .ok (.if_icmp .ne 49, 3) := by decide +kernel
theorem d_M_goOn_158 : decode (zb m_M_goOn) 158 = .ok (.aload_n 0, 1) := by decide +kernel
theorem d_M_goOn_159 : decode (zb m_M_goOn) 159 = .ok (.getfield 56, 3) := by decide +kernel
theorem d_M_goOn_162 : decode (zb m_M_goOn) 162 = .ok (.aload_n 0, 1) := by decide +kernel
theorem d_M_goOn_163 : decode (zb m_M_goOn) 163 = .ok (.getfield 164, 3) := by decide +kernel
theorem d_M_goOn_166 : decode (zb m_M_goOn) 166 = .ok (.iconst 1, 1) := by decide +kernel
theorem d_M_goOn_167 : decode (zb m_M_goOn) 167 = .ok (.iastore, 1) := by decide +kernel
theorem d_M_goOn_168 : decode (zb m_M_goOn) 168 = .ok (.aload_n 0, 1) := by decide +kernel
theorem d_M_goOn_169 : decode (zb m_M_goOn) 169 = .ok (.getfield 59, 3) := by decide +kernel
theorem d_M_goOn_172 : decode (zb m_M_goOn) 172 = .ok (.aload_n 0, 1) := by decide +kernel
theorem d_M_goOn_173 : decode (zb m_M_goOn) 173 = .ok (.getfield 164, 3) := by decide +kernel
theorem d_M_goOn_176 : decode (zb m_M_goOn) 176 = .ok (.iload_n 2, 1) := by decide +kernel
theorem d_M_goOn_177 : decode (zb m_M_goOn) 177 = .ok (.iastore, 1) := by decide +kernel
theorem d_M_goOn_178 : decode (zb m_M_goOn) 178 = .ok (.aload_n 0, 1) := by decide +kernel
theorem d_M_goOn_179 : decode (zb m_M_goOn) 179 = .ok (.getfield 62, 3) := by decide +kernel
theorem d_M_goOn_182 : decode (zb m_M_goOn) 182 = .ok (.aload_n 0, 1) := by decide +kernel
theorem d_M_goOn_183 : decode (zb m_M_goOn) 183 = .ok (.getfield 164, 3) := by decide +kernel
theorem d_M_goOn_186 : decode (zb m_M_goOn) 186 = .ok (.iload_n 1, 1) := by decide +kernel
theorem d_M_goOn_187 : decode (zb m_M_goOn) 187 = .ok (.iconst 0, 1) := by decide +kernel
theorem d_M_goOn_188 : decode (zb m_M_goOn) 188 = .ok (.invokestatic 130, 3) := by decide +kernel
theorem d_M_goOn_191 : decode (zb m_M_goOn) 191 = .ok (.iastore, 1) := by decide +kernel
theorem d_M_goOn_192 : decode (zb m_M_goOn) 192 = .ok (.aload_n 0, 1) := by decide +kernel
theorem d_M_goOn_193 : decode (zb m_M_goOn) 193 = .ok (.dup, 1) := by decide +kernel
theorem d_M_goOn_194 : decode (zb m_M_goOn) 194 = .ok (.getfield 164, 3) := by decide +kernel
theorem d_M_goOn_197 : decode (zb m_M_goOn) 197 = .ok (.iconst 1, 1) := by decide +kernel
theorem d_M_goOn_198 : decode (zb m_M_goOn) 198 = .ok (.iadd, 1) := by decide +kernel
theorem d_M_goOn_199 : decode (zb m_M_goOn) 199 = .ok (.putfield 164, 3) := by decide +kernel
theorem d_M_goOn_202 : decode (zb m_M_goOn) 202 = .ok (.iload_n 3, 1) := by decide +kernel
theorem d_M_goOn_203 : decode (zb m_M_goOn) 203 = .ok (.ireturn, 1) := by decide +kernel
theorem d_M_goOn_204 : decode (zb m_M_goOn) 204 = .ok (.iinc 2 1, 3) := by decide +kernel
theorem d_M_goOn_207 : decode (zb m_M_goOn) 207 = .ok (.goto (-86), 3) := by decide +kernel
theorem d_M_goOn_210 : decode (zb m_M_goOn) 210 = .ok (.iload_n 1, 1) := by decide +kernel
theorem d_M_goOn_211 : decode (zb m_M_goOn) 211 = .ok (.ireturn, 1) := by decide +kernel
theorem d_M_plans_0 : decode (zb m_M_plans) 0 = .ok (.aload_n 0, 1) := by decide +kernel
theorem d_M_plans_1 : decode (zb m_M_plans) 1 = .ok (.getfield 98, 3) := by decide +kernel
theorem d_M_plans_4 : decode (zb m_M_plans) 4 = .ok (.ifCond .ne 7, 3) := by decide +kernel
theorem d_M_plans_7 : decode (zb m_M_plans) 7 = .ok (.ldc2_w 170, 3) := by decide +kernel
theorem d_M_plans_10 : decode (zb m_M_plans) 10 = .ok (.lreturn, 1) := by decide +kernel
theorem d_M_plans_11 : decode (zb m_M_plans) 11 = .ok (.aload_n 0, 1) := by decide +kernel
theorem d_M_plans_12 : decode (zb m_M_plans) 12 = .ok (.invokevirtual 150, 3) := by decide +kernel
theorem d_M_plans_15 : decode (zb m_M_plans) 15 = .ok (.aload_n 0, 1) := by decide +kernel
theorem d_M_plans_16 : decode (zb m_M_plans) 16 = .ok (.invokevirtual 153, 3) := by decide +kernel
theorem d_M_plans_19 : decode (zb m_M_plans) 19 = .ok (.lreturn, 1) := by decide +kernel
theorem d_M_cost_0 : decode (zb m_M_cost) 0 = .ok (.iload_n 1, 1) := by decide +kernel
theorem d_M_cost_1 : decode (zb m_M_cost) 1 = .ok (.bipush (-2), 2) := by decide +kernel
theorem d_M_cost_3 : decode (zb m_M_cost) 3 = .ok (.if_icmp .ge 6, 3) := by decide +kernel
theorem d_M_cost_6 : decode (zb m_M_cost) 6 = .ok (.bipush (-2), 2) := by decide +kernel
theorem d_M_cost_8 : decode (zb m_M_cost) 8 = .ok (.ireturn, 1) := by decide +kernel
theorem d_M_cost_9 : decode (zb m_M_cost) 9 = .ok (.aload_n 0, 1) := by decide +kernel
theorem d_M_cost_10 : decode (zb m_M_cost) 10 = .ok (.getfield 98, 3) := by decide +kernel
theorem d_M_cost_13 : decode (zb m_M_cost) 13 = .ok (.ifCond .ne 6, 3) := by decide +kernel
theorem d_M_cost_16 : decode (zb m_M_cost) 16 = .ok (.bipush (-3), 2) := by decide +kernel
theorem d_M_cost_18 : decode (zb m_M_cost) 18 = .ok (.ireturn, 1) := by decide +kernel
theorem d_M_cost_19 : decode (zb m_M_cost) 19 = .ok (.aload_n 0, 1) := by decide +kernel
theorem d_M_cost_20 : decode (zb m_M_cost) 20 = .ok (.invokevirtual 172, 3) := by decide +kernel
theorem d_M_cost_23 : decode (zb m_M_cost) 23 = .ok (.ifCond .ne 6, 3) := by decide +kernel
theorem d_M_cost_26 : decode (zb m_M_cost) 26 = .ok (.bipush (-6), 2) := by decide +kernel
theorem d_M_cost_28 : decode (zb m_M_cost) 28 = .ok (.ireturn, 1) := by decide +kernel
theorem d_M_cost_29 : decode (zb m_M_cost) 29 = .ok (.iload_n 1, 1) := by decide +kernel
theorem d_M_cost_30 : decode (zb m_M_cost) 30 = .ok (.iconst (-1), 1) := by decide +kernel
theorem d_M_cost_31 : decode (zb m_M_cost) 31 = .ok (.if_icmp .ne 10, 3) := by decide +kernel
theorem d_M_cost_34 : decode (zb m_M_cost) 34 = .ok (.aload_n 0, 1) := by decide +kernel
theorem d_M_cost_35 : decode (zb m_M_cost) 35 = .ok (.getfield 161, 3) := by decide +kernel
theorem d_M_cost_38 : decode (zb m_M_cost) 38 = .ok (.goto 34, 3) := by decide +kernel
theorem d_M_cost_41 : decode (zb m_M_cost) 41 = .ok (.iload_n 1, 1) := by decide +kernel
theorem d_M_cost_42 : decode (zb m_M_cost) 42 = .ok (.bipush (-2), 2) := by decide +kernel
theorem d_M_cost_44 : decode (zb m_M_cost) 44 = .ok (.if_icmp .ne 10, 3) := by decide +kernel
theorem d_M_cost_47 : decode (zb m_M_cost) 47 = .ok (.aload_n 0, 1) := by decide +kernel
theorem d_M_cost_48 : decode (zb m_M_cost) 48 = .ok (.getfield 164, 3) := by decide +kernel
theorem d_M_cost_51 : decode (zb m_M_cost) 51 = .ok (.goto 21, 3) := by decide +kernel
theorem d_M_cost_54 : decode (zb m_M_cost) 54 = .ok (.iload_n 1, 1) := by decide +kernel
theorem d_M_cost_55 : decode (zb m_M_cost) 55 = .ok (.aload_n 0, 1) := by decide +kernel
theorem d_M_cost_56 : decode (zb m_M_cost) 56 = .ok (.getfield 164, 3) := by decide +kernel
theorem d_M_cost_59 : decode (zb m_M_cost) 59 = .ok (.if_icmp .ge 11, 3) := by decide +kernel
theorem d_M_cost_62 : decode (zb m_M_cost) 62 = .ok (.aload_n 0, 1) := by decide +kernel
theorem d_M_cost_63 : decode (zb m_M_cost) 63 = .ok (.iload_n 1, 1) := by decide +kernel
theorem d_M_cost_64 : decode (zb m_M_cost) 64 = .ok (.invokevirtual 176, 3) := by decide +kernel
theorem d_M_cost_67 : decode (zb m_M_cost) 67 = .ok (.goto 5, 3) := by decide +kernel
theorem d_M_cost_70 : decode (zb m_M_cost) 70 = .ok (.bipush (-6), 2) := by decide +kernel
theorem d_M_cost_72 : decode (zb m_M_cost) 72 = .ok (.ireturn, 1) := by decide +kernel
theorem d_M_piece_0 : decode (zb m_M_piece) 0 = .ok (.aload_n 0, 1) := by decide +kernel
theorem d_M_piece_1 : decode (zb m_M_piece) 1 = .ok (.getfield 98, 3) := by decide +kernel
theorem d_M_piece_4 : decode (zb m_M_piece) 4 = .ok (.ifCond .ne 6, 3) := by decide +kernel
theorem d_M_piece_7 : decode (zb m_M_piece) 7 = .ok (.bipush (-3), 2) := by decide +kernel
theorem d_M_piece_9 : decode (zb m_M_piece) 9 = .ok (.ireturn, 1) := by decide +kernel
theorem d_M_piece_10 : decode (zb m_M_piece) 10 = .ok (.aload_n 0, 1) := by decide +kernel
theorem d_M_piece_11 : decode (zb m_M_piece) 11 = .ok (.invokevirtual 172, 3) := by decide +kernel
theorem d_M_piece_14 : decode (zb m_M_piece) 14 = .ok (.ifCond .eq 17, 3) := by decide +kernel
theorem d_M_piece_17 : decode (zb m_M_piece) 17 = .ok (.iload_n 1, 1) := by decide +kernel
theorem d_M_piece_18 : decode (zb m_M_piece) 18 = .ok (.iconst 0, 1) := by decide +kernel
theorem d_M_piece_19 : decode (zb m_M_piece) 19 = .ok (.aload_n 0, 1) := by decide +kernel
theorem d_M_piece_20 : decode (zb m_M_piece) 20 = .ok (.getfield 164, 3) := by decide +kernel
theorem d_M_piece_23 : decode (zb m_M_piece) 23 = .ok (.iconst 1, 1) := by decide +kernel
theorem d_M_piece_24 : decode (zb m_M_piece) 24 = .ok (.isub, 1) := by decide +kernel
theorem d_M_piece_25 : decode (zb m_M_piece) 25 = .ok (.invokestatic 79, 3) := by decide +kernel
theorem d_M_piece_28 : decode (zb m_M_piece) 28 = .ok (.ifCond .ne 5, 3) := by decide +kernel
theorem d_M_piece_31 : decode (zb m_M_piece) 31 = .ok (.iconst (-1), 1) := by decide +kernel
theorem d_M_piece_32 : decode (zb m_M_piece) 32 = .ok (.ireturn, 1) := by decide +kernel
theorem d_M_piece_33 : decode (zb m_M_piece) 33 = .ok (.iload_n 2, 1) := by decide +kernel
theorem d_M_piece_34 : decode (zb m_M_piece) 34 = .ok (.tableswitch 70 0 2 #[26, 33, 40], 26) := by decide +kernel
theorem d_M_piece_60 : decode (zb m_M_piece) 60 = .ok (.aload_n 0, 1) := by decide +kernel
theorem d_M_piece_61 : decode (zb m_M_piece) 61 = .ok (.getfield 56, 3) := by decide +kernel
theorem d_M_piece_64 : decode (zb m_M_piece) 64 = .ok (.iload_n 1, 1) := by decide +kernel
theorem d_M_piece_65 : decode (zb m_M_piece) 65 = .ok (.iaload, 1) := by decide +kernel
theorem d_M_piece_66 : decode (zb m_M_piece) 66 = .ok (.ireturn, 1) := by decide +kernel
theorem d_M_piece_67 : decode (zb m_M_piece) 67 = .ok (.aload_n 0, 1) := by decide +kernel
theorem d_M_piece_68 : decode (zb m_M_piece) 68 = .ok (.getfield 59, 3) := by decide +kernel
theorem d_M_piece_71 : decode (zb m_M_piece) 71 = .ok (.iload_n 1, 1) := by decide +kernel
theorem d_M_piece_72 : decode (zb m_M_piece) 72 = .ok (.iaload, 1) := by decide +kernel
theorem d_M_piece_73 : decode (zb m_M_piece) 73 = .ok (.ireturn, 1) := by decide +kernel
theorem d_M_piece_74 : decode (zb m_M_piece) 74 = .ok (.aload_n 0, 1) := by decide +kernel
theorem d_M_piece_75 : decode (zb m_M_piece) 75 = .ok (.getfield 56, 3) := by decide +kernel
theorem d_M_piece_78 : decode (zb m_M_piece) 78 = .ok (.iload_n 1, 1) := by decide +kernel
theorem d_M_piece_79 : decode (zb m_M_piece) 79 = .ok (.iaload, 1) := by decide +kernel
theorem d_M_piece_80 : decode (zb m_M_piece) 80 = .ok (.ifCond .ne 12, 3) := by decide +kernel
theorem d_M_piece_83 : decode (zb m_M_piece) 83 = .ok (.aload_n 0, 1) := by decide +kernel
theorem d_M_piece_84 : decode (zb m_M_piece) 84 = .ok (.getfield 62, 3) := by decide +kernel
theorem d_M_piece_87 : decode (zb m_M_piece) 87 = .ok (.iload_n 1, 1) := by decide +kernel
theorem d_M_piece_88 : decode (zb m_M_piece) 88 = .ok (.iaload, 1) := by decide +kernel
theorem d_M_piece_89 : decode (zb m_M_piece) 89 = .ok (.goto 14, 3) := by decide +kernel
theorem d_M_piece_92 : decode (zb m_M_piece) 92 = .ok (.aload_n 0, 1) := by decide +kernel
theorem d_M_piece_93 : decode (zb m_M_piece) 93 = .ok (.getfield 16, 3) := by decide +kernel
theorem d_M_piece_96 : decode (zb m_M_piece) 96 = .ok (.aload_n 0, 1) := by decide +kernel
theorem d_M_piece_97 : decode (zb m_M_piece) 97 = .ok (.getfield 62, 3) := by decide +kernel
theorem d_M_piece_100 : decode (zb m_M_piece) 100 = .ok (.iload_n 1, 1) := by decide +kernel
theorem d_M_piece_101 : decode (zb m_M_piece) 101 = .ok (.iaload, 1) := by decide +kernel
theorem d_M_piece_102 : decode (zb m_M_piece) 102 = .ok (.iaload, 1) := by decide +kernel
theorem d_M_piece_103 : decode (zb m_M_piece) 103 = .ok (.ireturn, 1) := by decide +kernel
theorem d_M_piece_104 : decode (zb m_M_piece) 104 = .ok (.bipush (-2), 2) := by decide +kernel
theorem d_M_piece_106 : decode (zb m_M_piece) 106 = .ok (.ireturn, 1) := by decide +kernel
theorem d_M_make_0 : decode (zb m_M_make) 0 = .ok (.iconst 0, 1) := by decide +kernel
theorem d_M_make_1 : decode (zb m_M_make) 1 = .ok (.istore_n 1, 1) := by decide +kernel
theorem d_M_make_2 : decode (zb m_M_make) 2 = .ok (.iconst 0, 1) := by decide +kernel
theorem d_M_make_3 : decode (zb m_M_make) 3 = .ok (.istore_n 2, 1) := by decide +kernel
theorem d_M_make_4 : decode (zb m_M_make) 4 = .ok (.iload_n 2, 1) := by decide +kernel
theorem d_M_make_5 : decode (zb m_M_make) 5 = .ok (.aload_n 0, 1) := by decide +kernel
theorem d_M_make_6 : decode (zb m_M_make) 6 = .ok (.getfield 164, 3) := by decide +kernel
theorem d_M_make_9 : decode (zb m_M_make) 9 = .ok (.if_icmp .ge 129, 3) := by decide +kernel
theorem d_M_make_12 : decode (zb m_M_make) 12 = .ok (.aload_n 0, 1) := by decide +kernel
theorem d_M_make_13 : decode (zb m_M_make) 13 = .ok (.getfield 56, 3) := by decide +kernel
theorem d_M_make_16 : decode (zb m_M_make) 16 = .ok (.iload_n 2, 1) := by decide +kernel
theorem d_M_make_17 : decode (zb m_M_make) 17 = .ok (.iaload, 1) := by decide +kernel
theorem d_M_make_18 : decode (zb m_M_make) 18 = .ok (.iconst 1, 1) := by decide +kernel
theorem d_M_make_19 : decode (zb m_M_make) 19 = .ok (.if_icmp .ne 46, 3) := by decide +kernel
theorem d_M_make_22 : decode (zb m_M_make) 22 = .ok (.iconst 0, 1) := by decide +kernel
theorem d_M_make_23 : decode (zb m_M_make) 23 = .ok (.istore_n 3, 1) := by decide +kernel
theorem d_M_make_24 : decode (zb m_M_make) 24 = .ok (.iload_n 3, 1) := by decide +kernel
theorem d_M_make_25 : decode (zb m_M_make) 25 = .ok (.aload_n 0, 1) := by decide +kernel
theorem d_M_make_26 : decode (zb m_M_make) 26 = .ok (.getfield 59, 3) := by decide +kernel
theorem d_M_make_29 : decode (zb m_M_make) 29 = .ok (.iload_n 2, 1) := by decide +kernel
theorem d_M_make_30 : decode (zb m_M_make) 30 = .ok (.iaload, 1) := by decide +kernel
theorem d_M_make_31 : decode (zb m_M_make) 31 = .ok (.if_icmp .ge 31, 3) := by decide +kernel
theorem d_M_make_34 : decode (zb m_M_make) 34 = .ok (.aload_n 0, 1) := by decide +kernel
theorem d_M_make_35 : decode (zb m_M_make) 35 = .ok (.getfield 65, 3) := by decide +kernel
theorem d_M_make_38 : decode (zb m_M_make) 38 = .ok (.iload_n 1, 1) := by decide +kernel
theorem d_M_make_39 : decode (zb m_M_make) 39 = .ok (.aload_n 0, 1) := by decide +kernel
theorem d_M_make_40 : decode (zb m_M_make) 40 = .ok (.getfield 16, 3) := by decide +kernel
theorem d_M_make_43 : decode (zb m_M_make) 43 = .ok (.aload_n 0, 1) := by decide +kernel
theorem d_M_make_44 : decode (zb m_M_make) 44 = .ok (.getfield 62, 3) := by decide +kernel
theorem d_M_make_47 : decode (zb m_M_make) 47 = .ok (.iload_n 2, 1) := by decide +kernel
theorem d_M_make_48 : decode (zb m_M_make) 48 = .ok (.iaload, 1) := by decide +kernel
theorem d_M_make_49 : decode (zb m_M_make) 49 = .ok (.iload_n 3, 1) := by decide +kernel
theorem d_M_make_50 : decode (zb m_M_make) 50 = .ok (.iadd, 1) := by decide +kernel
theorem d_M_make_51 : decode (zb m_M_make) 51 = .ok (.iaload, 1) := by decide +kernel
theorem d_M_make_52 : decode (zb m_M_make) 52 = .ok (.iastore, 1) := by decide +kernel
theorem d_M_make_53 : decode (zb m_M_make) 53 = .ok (.iinc 1 1, 3) := by decide +kernel
theorem d_M_make_56 : decode (zb m_M_make) 56 = .ok (.iinc 3 1, 3) := by decide +kernel
theorem d_M_make_59 : decode (zb m_M_make) 59 = .ok (.goto (-35), 3) := by decide +kernel
theorem d_M_make_62 : decode (zb m_M_make) 62 = .ok (.goto 70, 3) := by decide +kernel
theorem d_M_make_65 : decode (zb m_M_make) 65 = .ok (.aload_n 0, 1) := by decide +kernel
theorem d_M_make_66 : decode (zb m_M_make) 66 = .ok (.aload_n 0, 1) := by decide +kernel
theorem d_M_make_67 : decode (zb m_M_make) 67 = .ok (.getfield 59, 3) := by decide +kernel
theorem d_M_make_70 : decode (zb m_M_make) 70 = .ok (.iload_n 2, 1) := by decide +kernel
theorem d_M_make_71 : decode (zb m_M_make) 71 = .ok (.iaload, 1) := by decide +kernel
theorem d_M_make_72 : decode (zb m_M_make) 72 = .ok (.invokevirtual 118, 3) := by decide +kernel
theorem d_M_make_75 : decode (zb m_M_make) 75 = .ok (.istore_n 3, 1) := by decide +kernel
theorem d_M_make_76 : decode (zb m_M_make) 76 = .ok (.aload_n 0, 1) := by decide +kernel
theorem d_M_make_77 : decode (zb m_M_make) 77 = .ok (.aload_n 0, 1) := by decide +kernel
theorem d_M_make_78 : decode (zb m_M_make) 78 = .ok (.getfield 62, 3) := by decide +kernel
theorem d_M_make_81 : decode (zb m_M_make) 81 = .ok (.iload_n 2, 1) := by decide +kernel
theorem d_M_make_82 : decode (zb m_M_make) 82 = .ok (.iaload, 1) := by decide +kernel
theorem d_M_make_83 : decode (zb m_M_make) 83 = .ok (.invokevirtual 118, 3) := by decide +kernel
theorem d_M_make_86 : decode (zb m_M_make) 86 = .ok (.istore 4, 2) := by decide +kernel
theorem d_M_make_88 : decode (zb m_M_make) 88 = .ok (.iload_n 3, 1) := by decide +kernel
theorem d_M_make_89 : decode (zb m_M_make) 89 = .ok (.ifCond .lt 9, 3) := by decide +kernel
theorem d_M_make_92 : decode (zb m_M_make) 92 = .ok (.iload_n 3, 1) := by decide +kernel
theorem d_M_make_93 : decode (zb m_M_make) 93 = .ok (.iload 4, 2) := by decide +kernel
theorem d_M_make_95 : decode (zb m_M_make) 95 = .ok (.if_icmp .lt 5, 3) := by decide +kernel
theorem d_M_make_98 : decode (zb m_M_make) 98 = .ok (.iconst 0, 1) := by decide +kernel
theorem d_M_make_99 : decode (zb m_M_make) 99 = .ok (.ireturn, 1) := by decide +kernel
theorem d_M_make_100 : decode (zb m_M_make) 100 = .ok (.iload_n 3, 1) := by decide +kernel
theorem d_M_make_101 : decode (zb m_M_make) 101 = .ok (.istore 5, 2) := by decide +kernel
theorem d_M_make_103 : decode (zb m_M_make) 103 = .ok (.iload 5, 2) := by decide +kernel
theorem d_M_make_105 : decode (zb m_M_make) 105 = .ok (.iload 4, 2) := by decide +kernel
theorem d_M_make_107 : decode (zb m_M_make) 107 = .ok (.if_icmp .ge 25, 3) := by decide +kernel
theorem d_M_make_110 : decode (zb m_M_make) 110 = .ok (.aload_n 0, 1) := by decide +kernel
theorem d_M_make_111 : decode (zb m_M_make) 111 = .ok (.getfield 65, 3) := by decide +kernel
theorem d_M_make_114 : decode (zb m_M_make) 114 = .ok (.iload_n 1, 1) := by decide +kernel
theorem d_M_make_115 : decode (zb m_M_make) 115 = .ok (.aload_n 0, 1) := by decide +kernel
theorem d_M_make_116 : decode (zb m_M_make) 116 = .ok (.getfield 34, 3) := by decide +kernel
theorem d_M_make_119 : decode (zb m_M_make) 119 = .ok (.iload 5, 2) := by decide +kernel
theorem d_M_make_121 : decode (zb m_M_make) 121 = .ok (.iaload, 1) := by decide +kernel
theorem d_M_make_122 : decode (zb m_M_make) 122 = .ok (.iastore, 1) := by decide +kernel
theorem d_M_make_123 : decode (zb m_M_make) 123 = .ok (.iinc 1 1, 3) := by decide +kernel
theorem d_M_make_126 : decode (zb m_M_make) 126 = .ok (.iinc 5 1, 3) := by decide +kernel
theorem d_M_make_129 : decode (zb m_M_make) 129 = .ok (.goto (-26), 3) := by decide +kernel
theorem d_M_make_132 : decode (zb m_M_make) 132 = .ok (.iinc 2 1, 3) := by decide +kernel
theorem d_M_make_135 : decode (zb m_M_make) 135 = .ok (.goto (-131), 3) := by decide +kernel
theorem d_M_make_138 : decode (zb m_M_make) 138 = .ok (.iload_n 1, 1) := by decide +kernel
theorem d_M_make_139 : decode (zb m_M_make) 139 = .ok (.ireturn, 1) := by decide +kernel
theorem d_M_makes_0 : decode (zb m_M_makes) 0 = .ok (.aload_n 0, 1) := by decide +kernel
theorem d_M_makes_1 : decode (zb m_M_makes) 1 = .ok (.invokevirtual 95, 3) := by decide +kernel
theorem d_M_makes_4 : decode (zb m_M_makes) 4 = .ok (.ifCond .lt 6, 3) := by decide +kernel
theorem d_M_makes_7 : decode (zb m_M_makes) 7 = .ok (.bipush (-5), 2) := by decide +kernel
theorem d_M_makes_9 : decode (zb m_M_makes) 9 = .ok (.ireturn, 1) := by decide +kernel
theorem d_M_makes_10 : decode (zb m_M_makes) 10 = .ok (.aload_n 0, 1) := by decide +kernel
theorem d_M_makes_11 : decode (zb m_M_makes) 11 = .ok (.getfield 98, 3) := by decide +kernel
theorem d_M_makes_14 : decode (zb m_M_makes) 14 = .ok (.ifCond .ne 6, 3) := by decide +kernel
theorem d_M_makes_17 : decode (zb m_M_makes) 17 = .ok (.bipush (-3), 2) := by decide +kernel
theorem d_M_makes_19 : decode (zb m_M_makes) 19 = .ok (.ireturn, 1) := by decide +kernel
theorem d_M_makes_20 : decode (zb m_M_makes) 20 = .ok (.aload_n 0, 1) := by decide +kernel
theorem d_M_makes_21 : decode (zb m_M_makes) 21 = .ok (.invokevirtual 172, 3) := by decide +kernel
theorem d_M_makes_24 : decode (zb m_M_makes) 24 = .ok (.ifCond .ne 6, 3) := by decide +kernel
theorem d_M_makes_27 : decode (zb m_M_makes) 27 = .ok (.bipush (-6), 2) := by decide +kernel
theorem d_M_makes_29 : decode (zb m_M_makes) 29 = .ok (.ireturn, 1) := by decide +kernel
theorem d_M_makes_30 : decode (zb m_M_makes) 30 = .ok (.aload_n 0, 1) := by decide +kernel
theorem d_M_makes_31 : decode (zb m_M_makes) 31 = .ok (.invokevirtual 115, 3) := by decide +kernel
theorem d_M_makes_34 : decode (zb m_M_makes) 34 = .ok (.aload_n 0, 1) := by decide +kernel
theorem d_M_makes_35 : decode (zb m_M_makes) 35 = .ok (.invokevirtual 179, 3) := by decide +kernel
theorem d_M_makes_38 : decode (zb m_M_makes) 38 = .ok (.istore_n 2, 1) := by decide +kernel
theorem d_M_makes_39 : decode (zb m_M_makes) 39 = .ok (.iload_n 1, 1) := by decide +kernel
theorem d_M_makes_40 : decode (zb m_M_makes) 40 = .ok (.iconst (-1), 1) := by decide +kernel
theorem d_M_makes_41 : decode (zb m_M_makes) 41 = .ok (.if_icmp .ne 7, 3) := by decide +kernel
theorem d_M_makes_44 : decode (zb m_M_makes) 44 = .ok (.iload_n 2, 1) := by decide +kernel
theorem d_M_makes_45 : decode (zb m_M_makes) 45 = .ok (.goto 25, 3) := by decide +kernel
theorem d_M_makes_48 : decode (zb m_M_makes) 48 = .ok (.iload_n 1, 1) := by decide +kernel
theorem d_M_makes_49 : decode (zb m_M_makes) 49 = .ok (.iconst 0, 1) := by decide +kernel
theorem d_M_makes_50 : decode (zb m_M_makes) 50 = .ok (.iload_n 2, 1) := by decide +kernel
theorem d_M_makes_51 : decode (zb m_M_makes) 51 = .ok (.iconst 1, 1) := by decide +kernel
theorem d_M_makes_52 : decode (zb m_M_makes) 52 = .ok (.isub, 1) := by decide +kernel
theorem d_M_makes_53 : decode (zb m_M_makes) 53 = .ok (.invokestatic 79, 3) := by decide +kernel
theorem d_M_makes_56 : decode (zb m_M_makes) 56 = .ok (.ifCond .eq 12, 3) := by decide +kernel
theorem d_M_makes_59 : decode (zb m_M_makes) 59 = .ok (.aload_n 0, 1) := by decide +kernel
theorem d_M_makes_60 : decode (zb m_M_makes) 60 = .ok (.getfield 65, 3) := by decide +kernel
theorem d_M_makes_63 : decode (zb m_M_makes) 63 = .ok (.iload_n 1, 1) := by decide +kernel
theorem d_M_makes_64 : decode (zb m_M_makes) 64 = .ok (.iaload, 1) := by decide +kernel
theorem d_M_makes_65 : decode (zb m_M_makes) 65 = .ok (.goto 5, 3) := by decide +kernel
theorem d_M_makes_68 : decode (zb m_M_makes) 68 = .ok (.bipush (-6), 2) := by decide +kernel
theorem d_M_makes_70 : decode (zb m_M_makes) 70 = .ok (.ireturn, 1) := by decide +kernel
theorem d_M_accept_0 : decode (zb m_M_accept) 0 = .ok (.iload_n 1, 1) := by decide +kernel
theorem d_M_accept_1 : decode (zb m_M_accept) 1 = .ok (.iconst 0, 1) := by decide +kernel
theorem d_M_accept_2 : decode (zb m_M_accept) 2 = .ok (.aload_n 0, 1) := by decide +kernel
theorem d_M_accept_3 : decode (zb m_M_accept) 3 = .ok (.getfield 101, 3) := by decide +kernel
theorem d_M_accept_6 : decode (zb m_M_accept) 6 = .ok (.iconst 1, 1) := by decide +kernel
theorem d_M_accept_7 : decode (zb m_M_accept) 7 = .ok (.isub, 1) := by decide +kernel
theorem d_M_accept_8 : decode (zb m_M_accept) 8 = .ok (.invokestatic 79, 3) := by decide +kernel
theorem d_M_accept_11 : decode (zb m_M_accept) 11 = .ok (.ifCond .ne 5, 3) := by decide +kernel
theorem d_M_accept_14 : decode (zb m_M_accept) 14 = .ok (.iconst (-1), 1) := by decide +kernel
theorem d_M_accept_15 : decode (zb m_M_accept) 15 = .ok (.ireturn, 1) := by decide +kernel
theorem d_M_accept_16 : decode (zb m_M_accept) 16 = .ok (.aload_n 0, 1) := by decide +kernel
theorem d_M_accept_17 : decode (zb m_M_accept) 17 = .ok (.getfield 98, 3) := by decide +kernel
theorem d_M_accept_20 : decode (zb m_M_accept) 20 = .ok (.ifCond .ne 6, 3) := by decide +kernel
theorem d_M_accept_23 : decode (zb m_M_accept) 23 = .ok (.bipush (-3), 2) := by decide +kernel
theorem d_M_accept_25 : decode (zb m_M_accept) 25 = .ok (.ireturn, 1) := by decide +kernel
theorem d_M_accept_26 : decode (zb m_M_accept) 26 = .ok (.aload_n 0, 1) := by decide +kernel
theorem d_M_accept_27 : decode (zb m_M_accept) 27 = .ok (.invokevirtual 172, 3) := by decide +kernel
theorem d_M_accept_30 : decode (zb m_M_accept) 30 = .ok (.ifCond .ne 6, 3) := by decide +kernel
theorem d_M_accept_33 : decode (zb m_M_accept) 33 = .ok (.bipush (-5), 2) := by decide +kernel
theorem d_M_accept_35 : decode (zb m_M_accept) 35 = .ok (.ireturn, 1) := by decide +kernel
theorem d_M_accept_36 : decode (zb m_M_accept) 36 = .ok (.aload_n 0, 1) := by decide +kernel
theorem d_M_accept_37 : decode (zb m_M_accept) 37 = .ok (.iload_n 1, 1) := by decide +kernel
theorem d_M_accept_38 : decode (zb m_M_accept) 38 = .ok (.invokevirtual 182, 3) := by decide +kernel
theorem d_M_accept_41 : decode (zb m_M_accept) 41 = .ok (.aload_n 0, 1) := by decide +kernel
theorem d_M_accept_42 : decode (zb m_M_accept) 42 = .ok (.invokevirtual 179, 3) := by decide +kernel
theorem d_M_accept_45 : decode (zb m_M_accept) 45 = .ok (.istore_n 2, 1) := by decide +kernel
theorem d_M_accept_46 : decode (zb m_M_accept) 46 = .ok (.iload_n 2, 1) := by decide +kernel
theorem d_M_accept_47 : decode (zb m_M_accept) 47 = .ok (.iconst 1, 1) := by decide +kernel
theorem d_M_accept_48 : decode (zb m_M_accept) 48 = .ok (.iconst 5, 1) := by decide +kernel
theorem d_M_accept_49 : decode (zb m_M_accept) 49 = .ok (.invokestatic 79, 3) := by decide +kernel
theorem d_M_accept_52 : decode (zb m_M_accept) 52 = .ok (.ifCond .ne 6, 3) := by decide +kernel
theorem d_M_accept_55 : decode (zb m_M_accept) 55 = .ok (.bipush (-5), 2) := by decide +kernel
theorem d_M_accept_57 : decode (zb m_M_accept) 57 = .ok (.ireturn, 1) := by decide +kernel
theorem d_M_accept_58 : decode (zb m_M_accept) 58 = .ok (.aload_n 0, 1) := by decide +kernel
theorem d_M_accept_59 : decode (zb m_M_accept) 59 = .ok (.getfield 98, 3) := by decide +kernel
theorem d_M_accept_62 : decode (zb m_M_accept) 62 = .ok (.iconst 3, 1) := by decide +kernel
theorem d_M_accept_63 : decode (zb m_M_accept) 63 = .ok (.if_icmp .ne 6, 3) := by decide +kernel
theorem d_M_accept_66 : decode (zb m_M_accept) 66 = .ok (.bipush (-4), 2) := by decide +kernel
theorem d_M_accept_68 : decode (zb m_M_accept) 68 = .ok (.ireturn, 1) := by decide +kernel
theorem d_M_accept_69 : decode (zb m_M_accept) 69 = .ok (.iconst 0, 1) := by decide +kernel
theorem d_M_accept_70 : decode (zb m_M_accept) 70 = .ok (.istore_n 3, 1) := by decide +kernel
theorem d_M_accept_71 : decode (zb m_M_accept) 71 = .ok (.iload_n 3, 1) := by decide +kernel
theorem d_M_accept_72 : decode (zb m_M_accept) 72 = .ok (.aload_n 0, 1) := by decide +kernel
theorem d_M_accept_73 : decode (zb m_M_accept) 73 = .ok (.getfield 108, 3) := by decide +kernel
theorem d_M_accept_76 : decode (zb m_M_accept) 76 = .ok (.if_icmp .ge 29, 3) := by decide +kernel
theorem d_M_accept_79 : decode (zb m_M_accept) 79 = .ok (.aload_n 0, 1) := by decide +kernel
theorem d_M_accept_80 : decode (zb m_M_accept) 80 = .ok (.getfield 7, 3) := by decide +kernel
theorem d_M_accept_83 : decode (zb m_M_accept) 83 = .ok (.bipush 12, 2) := by decide +kernel
theorem d_M_accept_85 : decode (zb m_M_accept) 85 = .ok (.aload_n 0, 1) := by decide +kernel
theorem d_M_accept_86 : decode (zb m_M_accept) 86 = .ok (.getfield 98, 3) := by decide +kernel
theorem d_M_accept_89 : decode (zb m_M_accept) 89 = .ok (.imul, 1) := by decide +kernel
theorem d_M_accept_90 : decode (zb m_M_accept) 90 = .ok (.iload_n 3, 1) := by decide +kernel
theorem d_M_accept_91 : decode (zb m_M_accept) 91 = .ok (.iadd, 1) := by decide +kernel
theorem d_M_accept_92 : decode (zb m_M_accept) 92 = .ok (.aload_n 0, 1) := by decide +kernel
theorem d_M_accept_93 : decode (zb m_M_accept) 93 = .ok (.getfield 34, 3) := by decide +kernel
theorem d_M_accept_96 : decode (zb m_M_accept) 96 = .ok (.iload_n 3, 1) := by decide +kernel
theorem d_M_accept_97 : decode (zb m_M_accept) 97 = .ok (.iaload, 1) := by decide +kernel
theorem d_M_accept_98 : decode (zb m_M_accept) 98 = .ok (.iastore, 1) := by decide +kernel
theorem d_M_accept_99 : decode (zb m_M_accept) 99 = .ok (.iinc 3 1, 3) := by decide +kernel
theorem d_M_accept_102 : decode (zb m_M_accept) 102 = .ok (.goto (-31), 3) := by decide +kernel
theorem d_M_accept_105 : decode (zb m_M_accept) 105 = .ok (.iconst 0, 1) := by decide +kernel
theorem d_M_accept_106 : decode (zb m_M_accept) 106 = .ok (.istore_n 3, 1) := by decide +kernel
theorem d_M_accept_107 : decode (zb m_M_accept) 107 = .ok (.iload_n 3, 1) := by decide +kernel
theorem d_M_accept_108 : decode (zb m_M_accept) 108 = .ok (.iload_n 2, 1) := by decide +kernel
theorem d_M_accept_109 : decode (zb m_M_accept) 109 = .ok (.if_icmp .ge 28, 3) := by decide +kernel
theorem d_M_accept_112 : decode (zb m_M_accept) 112 = .ok (.aload_n 0, 1) := by decide +kernel
theorem d_M_accept_113 : decode (zb m_M_accept) 113 = .ok (.getfield 16, 3) := by decide +kernel
theorem d_M_accept_116 : decode (zb m_M_accept) 116 = .ok (.iconst 5, 1) := by decide +kernel
theorem d_M_accept_117 : decode (zb m_M_accept) 117 = .ok (.aload_n 0, 1) := by decide +kernel
theorem d_M_accept_118 : decode (zb m_M_accept) 118 = .ok (.getfield 98, 3) := by decide +kernel
theorem d_M_accept_121 : decode (zb m_M_accept) 121 = .ok (.imul, 1) := by decide +kernel
theorem d_M_accept_122 : decode (zb m_M_accept) 122 = .ok (.iload_n 3, 1) := by decide +kernel
theorem d_M_accept_123 : decode (zb m_M_accept) 123 = .ok (.iadd, 1) := by decide +kernel
theorem d_M_accept_124 : decode (zb m_M_accept) 124 = .ok (.aload_n 0, 1) := by decide +kernel
theorem d_M_accept_125 : decode (zb m_M_accept) 125 = .ok (.getfield 65, 3) := by decide +kernel
theorem d_M_accept_128 : decode (zb m_M_accept) 128 = .ok (.iload_n 3, 1) := by decide +kernel
theorem d_M_accept_129 : decode (zb m_M_accept) 129 = .ok (.iaload, 1) := by decide +kernel
theorem d_M_accept_130 : decode (zb m_M_accept) 130 = .ok (.iastore, 1) := by decide +kernel
theorem d_M_accept_131 : decode (zb m_M_accept) 131 = .ok (.iinc 3 1, 3) := by decide +kernel
theorem d_M_accept_134 : decode (zb m_M_accept) 134 = .ok (.goto (-27), 3) := by decide +kernel
theorem d_M_accept_137 : decode (zb m_M_accept) 137 = .ok (.aload_n 0, 1) := by decide +kernel
theorem d_M_accept_138 : decode (zb m_M_accept) 138 = .ok (.getfield 13, 3) := by decide +kernel
theorem d_M_accept_141 : decode (zb m_M_accept) 141 = .ok (.aload_n 0, 1) := by decide +kernel
theorem d_M_accept_142 : decode (zb m_M_accept) 142 = .ok (.getfield 98, 3) := by decide +kernel
theorem d_M_accept_145 : decode (zb m_M_accept) 145 = .ok (.aload_n 0, 1) := by decide +kernel
theorem d_M_accept_146 : decode (zb m_M_accept) 146 = .ok (.getfield 108, 3) := by decide +kernel
theorem d_M_accept_149 : decode (zb m_M_accept) 149 = .ok (.iastore, 1) := by decide +kernel
theorem d_M_accept_150 : decode (zb m_M_accept) 150 = .ok (.aload_n 0, 1) := by decide +kernel
theorem d_M_accept_151 : decode (zb m_M_accept) 151 = .ok (.getfield 19, 3) := by decide +kernel
theorem d_M_accept_154 : decode (zb m_M_accept) 154 = .ok (.aload_n 0, 1) := by decide +kernel
theorem d_M_accept_155 : decode (zb m_M_accept) 155 = .ok (.getfield 98, 3) := by decide +kernel
theorem d_M_accept_158 : decode (zb m_M_accept) 158 = .ok (.iload_n 2, 1) := by decide +kernel
theorem d_M_accept_159 : decode (zb m_M_accept) 159 = .ok (.iastore, 1) := by decide +kernel
theorem d_M_accept_160 : decode (zb m_M_accept) 160 = .ok (.aload_n 0, 1) := by decide +kernel
theorem d_M_accept_161 : decode (zb m_M_accept) 161 = .ok (.dup, 1) := by decide +kernel
theorem d_M_accept_162 : decode (zb m_M_accept) 162 = .ok (.getfield 98, 3) := by decide +kernel
theorem d_M_accept_165 : decode (zb m_M_accept) 165 = .ok (.iconst 1, 1) := by decide +kernel
theorem d_M_accept_166 : decode (zb m_M_accept) 166 = .ok (.iadd, 1) := by decide +kernel
theorem d_M_accept_167 : decode (zb m_M_accept) 167 = .ok (.putfield 98, 3) := by decide +kernel
theorem d_M_accept_170 : decode (zb m_M_accept) 170 = .ok (.aload_n 0, 1) := by decide +kernel
theorem d_M_accept_171 : decode (zb m_M_accept) 171 = .ok (.iload_n 1, 1) := by decide +kernel
theorem d_M_accept_172 : decode (zb m_M_accept) 172 = .ok (.invokevirtual 104, 3) := by decide +kernel
theorem d_M_accept_175 : decode (zb m_M_accept) 175 = .ok (.aload_n 0, 1) := by decide +kernel
theorem d_M_accept_176 : decode (zb m_M_accept) 176 = .ok (.getfield 98, 3) := by decide +kernel
theorem d_M_accept_179 : decode (zb m_M_accept) 179 = .ok (.ireturn, 1) := by decide +kernel
theorem d_M_agreeingOf_0 : decode (zb m_M_agreeingOf) 0 = .ok (.aload_n 0, 1) := by decide +kernel
theorem d_M_agreeingOf_1 : decode (zb m_M_agreeingOf) 1 = .ok (.iload_n 1, 1) := by decide +kernel
theorem d_M_agreeingOf_2 : decode (zb m_M_agreeingOf) 2 = .ok (.invokevirtual 182, 3) := by decide +kernel
theorem d_M_agreeingOf_5 : decode (zb m_M_agreeingOf) 5 = .ok (.aload_n 0, 1) := by decide +kernel
theorem d_M_agreeingOf_6 : decode (zb m_M_agreeingOf) 6 = .ok (.invokevirtual 179, 3) := by decide +kernel
theorem d_M_agreeingOf_9 : decode (zb m_M_agreeingOf) 9 = .ok (.istore_n 2, 1) := by decide +kernel
theorem d_M_agreeingOf_10 : decode (zb m_M_agreeingOf) 10 = .ok (.iload_n 2, 1) := by decide +kernel
theorem d_M_agreeingOf_11 : decode (zb m_M_agreeingOf) 11 = .ok (.iconst 1, 1) := by decide +kernel
theorem d_M_agreeingOf_12 : decode (zb m_M_agreeingOf) 12 = .ok (.iconst 5, 1) := by decide +kernel
theorem d_M_agreeingOf_13 : decode (zb m_M_agreeingOf) 13 = .ok (.invokestatic 79, 3) := by decide +kernel
theorem d_M_agreeingOf_16 : decode (zb m_M_agreeingOf) 16 = .ok (.ifCond .ne 7, 3) := by decide +kernel
theorem d_M_agreeingOf_19 : decode (zb m_M_agreeingOf) 19 = .ok (.ldc2_w 185, 3) := by decide +kernel
theorem d_M_agreeingOf_22 : decode (zb m_M_agreeingOf) 22 = .ok (.lreturn, 1) := by decide +kernel
theorem d_M_agreeingOf_23 : decode (zb m_M_agreeingOf) 23 = .ok (.iconst 0, 1) := by decide +kernel
theorem d_M_agreeingOf_24 : decode (zb m_M_agreeingOf) 24 = .ok (.istore_n 3, 1) := by decide +kernel
theorem d_M_agreeingOf_25 : decode (zb m_M_agreeingOf) 25 = .ok (.iload_n 3, 1) := by decide +kernel
theorem d_M_agreeingOf_26 : decode (zb m_M_agreeingOf) 26 = .ok (.iload_n 2, 1) := by decide +kernel
theorem d_M_agreeingOf_27 : decode (zb m_M_agreeingOf) 27 = .ok (.if_icmp .ge 28, 3) := by decide +kernel
theorem d_M_agreeingOf_30 : decode (zb m_M_agreeingOf) 30 = .ok (.aload_n 0, 1) := by decide +kernel
theorem d_M_agreeingOf_31 : decode (zb m_M_agreeingOf) 31 = .ok (.getfield 40, 3) := by decide +kernel
theorem d_M_agreeingOf_34 : decode (zb m_M_agreeingOf) 34 = .ok (.iconst 5, 1) := by decide +kernel
theorem d_M_agreeingOf_35 : decode (zb m_M_agreeingOf) 35 = .ok (.aload_n 0, 1) := by decide +kernel
theorem d_M_agreeingOf_36 : decode (zb m_M_agreeingOf) 36 = .ok (.getfield 98, 3) := by decide +kernel
theorem d_M_agreeingOf_39 : decode (zb m_M_agreeingOf) 39 = .ok (.imul, 1) := by decide +kernel
theorem d_M_agreeingOf_40 : decode (zb m_M_agreeingOf) 40 = .ok (.iload_n 3, 1) := by decide +kernel
theorem d_M_agreeingOf_41 : decode (zb m_M_agreeingOf) 41 = .ok (.iadd, 1) := by decide +kernel
theorem d_M_agreeingOf_42 : decode (zb m_M_agreeingOf) 42 = .ok (.aload_n 0, 1) := by decide +kernel
theorem d_M_agreeingOf_43 : decode (zb m_M_agreeingOf) 43 = .ok (.getfield 65, 3) := by decide +kernel
theorem d_M_agreeingOf_46 : decode (zb m_M_agreeingOf) 46 = .ok (.iload_n 3, 1) := by decide +kernel
theorem d_M_agreeingOf_47 : decode (zb m_M_agreeingOf) 47 = .ok (.iaload, 1) := by decide +kernel
theorem d_M_agreeingOf_48 : decode (zb m_M_agreeingOf) 48 = .ok (.iastore, 1) := by decide +kernel
theorem d_M_agreeingOf_49 : decode (zb m_M_agreeingOf) 49 = .ok (.iinc 3 1, 3) := by decide +kernel
theorem d_M_agreeingOf_52 : decode (zb m_M_agreeingOf) 52 = .ok (.goto (-27), 3) := by decide +kernel
theorem d_M_agreeingOf_55 : decode (zb m_M_agreeingOf) 55 = .ok (.aload_n 0, 1) := by decide +kernel
theorem d_M_agreeingOf_56 : decode (zb m_M_agreeingOf) 56 = .ok (.getfield 43, 3) := by decide +kernel
theorem d_M_agreeingOf_59 : decode (zb m_M_agreeingOf) 59 = .ok (.aload_n 0, 1) := by decide +kernel
theorem d_M_agreeingOf_60 : decode (zb m_M_agreeingOf) 60 = .ok (.getfield 98, 3) := by decide +kernel
theorem d_M_agreeingOf_63 : decode (zb m_M_agreeingOf) 63 = .ok (.iload_n 2, 1) := by decide +kernel
theorem d_M_agreeingOf_64 : decode (zb m_M_agreeingOf) 64 = .ok (.iastore, 1) := by decide +kernel
theorem d_M_agreeingOf_65 : decode (zb m_M_agreeingOf) 65 = .ok (.aload_n 0, 1) := by decide +kernel
theorem d_M_agreeingOf_66 : decode (zb m_M_agreeingOf) 66 = .ok (.aload_n 0, 1) := by decide +kernel
theorem d_M_agreeingOf_67 : decode (zb m_M_agreeingOf) 67 = .ok (.getfield 98, 3) := by decide +kernel
theorem d_M_agreeingOf_70 : decode (zb m_M_agreeingOf) 70 = .ok (.putfield 124, 3) := by decide +kernel
theorem d_M_agreeingOf_73 : decode (zb m_M_agreeingOf) 73 = .ok (.aload_n 0, 1) := by decide +kernel
theorem d_M_agreeingOf_74 : decode (zb m_M_agreeingOf) 74 = .ok (.invokevirtual 127, 3) := by decide +kernel
theorem d_M_agreeingOf_77 : decode (zb m_M_agreeingOf) 77 = .ok (.aload_n 0, 1) := by decide +kernel
theorem d_M_agreeingOf_78 : decode (zb m_M_agreeingOf) 78 = .ok (.invokevirtual 153, 3) := by decide +kernel
theorem d_M_agreeingOf_81 : decode (zb m_M_agreeingOf) 81 = .ok (.lreturn, 1) := by decide +kernel
theorem d_M_agreeing_0 : decode (zb m_M_agreeing) 0 = .ok (.iload_n 1, 1) := by decide +kernel
theorem d_M_agreeing_1 : decode (zb m_M_agreeing) 1 = .ok (.iconst 0, 1) := by decide +kernel
theorem d_M_agreeing_2 : decode (zb m_M_agreeing) 2 = .ok (.aload_n 0, 1) := by decide +kernel
theorem d_M_agreeing_3 : decode (zb m_M_agreeing) 3 = .ok (.getfield 101, 3) := by decide +kernel
theorem d_M_agreeing_6 : decode (zb m_M_agreeing) 6 = .ok (.iconst 1, 1) := by decide +kernel
theorem d_M_agreeing_7 : decode (zb m_M_agreeing) 7 = .ok (.isub, 1) := by decide +kernel
theorem d_M_agreeing_8 : decode (zb m_M_agreeing) 8 = .ok (.invokestatic 79, 3) := by decide +kernel
theorem d_M_agreeing_11 : decode (zb m_M_agreeing) 11 = .ok (.ifCond .ne 7, 3) := by decide +kernel
theorem d_M_agreeing_14 : decode (zb m_M_agreeing) 14 = .ok (.ldc2_w 187, 3) := by decide +kernel
theorem d_M_agreeing_17 : decode (zb m_M_agreeing) 17 = .ok (.lreturn, 1) := by decide +kernel
theorem d_M_agreeing_18 : decode (zb m_M_agreeing) 18 = .ok (.aload_n 0, 1) := by decide +kernel
theorem d_M_agreeing_19 : decode (zb m_M_agreeing) 19 = .ok (.getfield 98, 3) := by decide +kernel
theorem d_M_agreeing_22 : decode (zb m_M_agreeing) 22 = .ok (.ifCond .ne 7, 3) := by decide +kernel
theorem d_M_agreeing_25 : decode (zb m_M_agreeing) 25 = .ok (.ldc2_w 170, 3) := by decide +kernel
theorem d_M_agreeing_28 : decode (zb m_M_agreeing) 28 = .ok (.lreturn, 1) := by decide +kernel
theorem d_M_agreeing_29 : decode (zb m_M_agreeing) 29 = .ok (.aload_n 0, 1) := by decide +kernel
theorem d_M_agreeing_30 : decode (zb m_M_agreeing) 30 = .ok (.invokevirtual 172, 3) := by decide +kernel
theorem d_M_agreeing_33 : decode (zb m_M_agreeing) 33 = .ok (.ifCond .eq 11, 3) := by decide +kernel
theorem d_M_agreeing_36 : decode (zb m_M_agreeing) 36 = .ok (.aload_n 0, 1) := by decide +kernel
theorem d_M_agreeing_37 : decode (zb m_M_agreeing) 37 = .ok (.iload_n 1, 1) := by decide +kernel
theorem d_M_agreeing_38 : decode (zb m_M_agreeing) 38 = .ok (.invokevirtual 189, 3) := by decide +kernel
theorem d_M_agreeing_41 : decode (zb m_M_agreeing) 41 = .ok (.goto 6, 3) := by decide +kernel
theorem d_M_agreeing_44 : decode (zb m_M_agreeing) 44 = .ok (.ldc2_w 185, 3) := by decide +kernel
theorem d_M_agreeing_47 : decode (zb m_M_agreeing) 47 = .ok (.lreturn, 1) := by decide +kernel
theorem d_M_asked_0 : decode (zb m_M_asked) 0 = .ok (.aload_n 0, 1) := by decide +kernel
theorem d_M_asked_1 : decode (zb m_M_asked) 1 = .ok (.getfield 98, 3) := by decide +kernel
theorem d_M_asked_4 : decode (zb m_M_asked) 4 = .ok (.ifCond .ne 6, 3) := by decide +kernel
theorem d_M_asked_7 : decode (zb m_M_asked) 7 = .ok (.bipush (-3), 2) := by decide +kernel
theorem d_M_asked_9 : decode (zb m_M_asked) 9 = .ok (.ireturn, 1) := by decide +kernel
theorem d_M_asked_10 : decode (zb m_M_asked) 10 = .ok (.bipush (-6), 2) := by decide +kernel
theorem d_M_asked_12 : decode (zb m_M_asked) 12 = .ok (.istore_n 1, 1) := by decide +kernel
theorem d_M_asked_13 : decode (zb m_M_asked) 13 = .ok (.lconst 0, 1) := by decide +kernel
theorem d_M_asked_14 : decode (zb m_M_asked) 14 = .ok (.lstore_n 2, 1) := by decide +kernel
theorem d_M_asked_15 : decode (zb m_M_asked) 15 = .ok (.aload_n 0, 1) := by decide +kernel
theorem d_M_asked_16 : decode (zb m_M_asked) 16 = .ok (.invokevirtual 172, 3) := by decide +kernel
theorem d_M_asked_19 : decode (zb m_M_asked) 19 = .ok (.istore 4, 2) := by decide +kernel
theorem d_M_asked_21 : decode (zb m_M_asked) 21 = .ok (.iconst 0, 1) := by decide +kernel
theorem d_M_asked_22 : decode (zb m_M_asked) 22 = .ok (.istore 5, 2) := by decide +kernel
theorem d_M_asked_24 : decode (zb m_M_asked) 24 = .ok (.iload 5, 2) := by decide +kernel
theorem d_M_asked_26 : decode (zb m_M_asked) 26 = .ok (.aload_n 0, 1) := by decide +kernel
theorem d_M_asked_27 : decode (zb m_M_asked) 27 = .ok (.getfield 101, 3) := by decide +kernel
theorem d_M_asked_30 : decode (zb m_M_asked) 30 = .ok (.if_icmp .ge 46, 3) := by decide +kernel
theorem d_M_asked_33 : decode (zb m_M_asked) 33 = .ok (.iload 4, 2) := by decide +kernel
theorem d_M_asked_35 : decode (zb m_M_asked) 35 = .ok (.ifCond .eq 41, 3) := by decide +kernel
theorem d_M_asked_38 : decode (zb m_M_asked) 38 = .ok (.aload_n 0, 1) := by decide +kernel
theorem d_M_asked_39 : decode (zb m_M_asked) 39 = .ok (.iload 5, 2) := by decide +kernel
theorem d_M_asked_41 : decode (zb m_M_asked) 41 = .ok (.invokevirtual 189, 3) := by decide +kernel
theorem d_M_asked_44 : decode (zb m_M_asked) 44 = .ok (.lstore 6, 2) := by decide +kernel
theorem d_M_asked_46 : decode (zb m_M_asked) 46 = .ok (.lload 6, 2) := by decide +kernel
theorem d_M_asked_48 : decode (zb m_M_asked) 48 = .ok (.lconst 0, 1) := by decide +kernel
theorem d_M_asked_49 : decode (zb m_M_asked) 49 = .ok (.lcmp, 1) := by decide +kernel
theorem d_M_asked_50 : decode (zb m_M_asked) 50 = .ok (.ifCond .lt 20, 3) := by decide +kernel
theorem d_M_asked_53 : decode (zb m_M_asked) 53 = .ok (.iload_n 1, 1) := by decide +kernel
theorem d_M_asked_54 : decode (zb m_M_asked) 54 = .ok (.ifCond .lt 10, 3) := by decide +kernel
theorem d_M_asked_57 : decode (zb m_M_asked) 57 = .ok (.lload 6, 2) := by decide +kernel
theorem d_M_asked_59 : decode (zb m_M_asked) 59 = .ok (.lload_n 2, 1) := by decide +kernel
theorem d_M_asked_60 : decode (zb m_M_asked) 60 = .ok (.lcmp, 1) := by decide +kernel
theorem d_M_asked_61 : decode (zb m_M_asked) 61 = .ok (.ifCond .ge 9, 3) := by decide +kernel
theorem d_M_asked_64 : decode (zb m_M_asked) 64 = .ok (.iload 5, 2) := by decide +kernel
theorem d_M_asked_66 : decode (zb m_M_asked) 66 = .ok (.istore_n 1, 1) := by decide +kernel
theorem d_M_asked_67 : decode (zb m_M_asked) 67 = .ok (.lload 6, 2) := by decide +kernel
theorem d_M_asked_69 : decode (zb m_M_asked) 69 = .ok (.lstore_n 2, 1) := by decide +kernel
theorem d_M_asked_70 : decode (zb m_M_asked) 70 = .ok (.iinc 5 1, 3) := by decide +kernel
theorem d_M_asked_73 : decode (zb m_M_asked) 73 = .ok (.goto (-49), 3) := by decide +kernel
theorem d_M_asked_76 : decode (zb m_M_asked) 76 = .ok (.iload_n 1, 1) := by decide +kernel
theorem d_M_asked_77 : decode (zb m_M_asked) 77 = .ok (.ireturn, 1) := by decide +kernel
theorem d_M_image_0 : decode (zb m_M_image) 0 = .ok (.iload_n 1, 1) := by decide +kernel
theorem d_M_image_1 : decode (zb m_M_image) 1 = .ok (.iconst 0, 1) := by decide +kernel
theorem d_M_image_2 : decode (zb m_M_image) 2 = .ok (.iconst 1, 1) := by decide +kernel
theorem d_M_image_3 : decode (zb m_M_image) 3 = .ok (.invokestatic 79, 3) := by decide +kernel
theorem d_M_image_6 : decode (zb m_M_image) 6 = .ok (.ifCond .ne 6, 3) := by decide +kernel
theorem d_M_image_9 : decode (zb m_M_image) 9 = .ok (.bipush (-2), 2) := by decide +kernel
theorem d_M_image_11 : decode (zb m_M_image) 11 = .ok (.ireturn, 1) := by decide +kernel
theorem d_M_image_12 : decode (zb m_M_image) 12 = .ok (.sipush 150, 3) := by decide +kernel
theorem d_M_image_15 : decode (zb m_M_image) 15 = .ok (.iload_n 1, 1) := by decide +kernel
theorem d_M_image_16 : decode (zb m_M_image) 16 = .ok (.imul, 1) := by decide +kernel
theorem d_M_image_17 : decode (zb m_M_image) 17 = .ok (.istore_n 2, 1) := by decide +kernel
theorem d_M_image_18 : decode (zb m_M_image) 18 = .ok (.iconst 0, 1) := by decide +kernel
theorem d_M_image_19 : decode (zb m_M_image) 19 = .ok (.istore_n 3, 1) := by decide +kernel
theorem d_M_image_20 : decode (zb m_M_image) 20 = .ok (.iload_n 3, 1) := by decide +kernel
theorem d_M_image_21 : decode (zb m_M_image) 21 = .ok (.bipush 72, 2) := by decide +kernel
theorem d_M_image_23 : decode (zb m_M_image) 23 = .ok (.if_icmp .ge 23, 3) := by decide +kernel
theorem d_M_image_26 : decode (zb m_M_image) 26 = .ok (.aload_n 0, 1) := by decide +kernel
theorem d_M_image_27 : decode (zb m_M_image) 27 = .ok (.getfield 68, 3) := by decide +kernel
theorem d_M_image_30 : decode (zb m_M_image) 30 = .ok (.iload_n 2, 1) := by decide +kernel
theorem d_M_image_31 : decode (zb m_M_image) 31 = .ok (.iload_n 3, 1) := by decide +kernel
theorem d_M_image_32 : decode (zb m_M_image) 32 = .ok (.iadd, 1) := by decide +kernel
theorem d_M_image_33 : decode (zb m_M_image) 33 = .ok (.aload_n 0, 1) := by decide +kernel
theorem d_M_image_34 : decode (zb m_M_image) 34 = .ok (.getfield 22, 3) := by decide +kernel
theorem d_M_image_37 : decode (zb m_M_image) 37 = .ok (.iload_n 3, 1) := by decide +kernel
theorem d_M_image_38 : decode (zb m_M_image) 38 = .ok (.iaload, 1) := by decide +kernel
theorem d_M_image_39 : decode (zb m_M_image) 39 = .ok (.iastore, 1) := by decide +kernel
theorem d_M_image_40 : decode (zb m_M_image) 40 = .ok (.iinc 3 1, 3) := by decide +kernel
theorem d_M_image_43 : decode (zb m_M_image) 43 = .ok (.goto (-23), 3) := by decide +kernel
theorem d_M_image_46 : decode (zb m_M_image) 46 = .ok (.iconst 0, 1) := by decide +kernel
theorem d_M_image_47 : decode (zb m_M_image) 47 = .ok (.istore_n 3, 1) := by decide +kernel
theorem d_M_image_48 : decode (zb m_M_image) 48 = .ok (.iload_n 3, 1) := by decide +kernel
theorem d_M_image_49 : decode (zb m_M_image) 49 = .ok (.bipush 36, 2) := by decide +kernel
theorem d_M_image_51 : decode (zb m_M_image) 51 = .ok (.if_icmp .ge 26, 3) := by decide +kernel
theorem d_M_image_54 : decode (zb m_M_image) 54 = .ok (.aload_n 0, 1) := by decide +kernel
theorem d_M_image_55 : decode (zb m_M_image) 55 = .ok (.getfield 68, 3) := by decide +kernel
theorem d_M_image_58 : decode (zb m_M_image) 58 = .ok (.iload_n 2, 1) := by decide +kernel
theorem d_M_image_59 : decode (zb m_M_image) 59 = .ok (.bipush 72, 2) := by decide +kernel
theorem d_M_image_61 : decode (zb m_M_image) 61 = .ok (.iadd, 1) := by decide +kernel
theorem d_M_image_62 : decode (zb m_M_image) 62 = .ok (.iload_n 3, 1) := by decide +kernel
theorem d_M_image_63 : decode (zb m_M_image) 63 = .ok (.iadd, 1) := by decide +kernel
theorem d_M_image_64 : decode (zb m_M_image) 64 = .ok (.aload_n 0, 1) := by decide +kernel
theorem d_M_image_65 : decode (zb m_M_image) 65 = .ok (.getfield 7, 3) := by decide +kernel
theorem d_M_image_68 : decode (zb m_M_image) 68 = .ok (.iload_n 3, 1) := by decide +kernel
theorem d_M_image_69 : decode (zb m_M_image) 69 = .ok (.iaload, 1) := by decide +kernel
theorem d_M_image_70 : decode (zb m_M_image) 70 = .ok (.iastore, 1) := by decide +kernel
theorem d_M_image_71 : decode (zb m_M_image) 71 = .ok (.iinc 3 1, 3) := by decide +kernel
theorem d_M_image_74 : decode (zb m_M_image) 74 = .ok (.goto (-26), 3) := by decide +kernel
theorem d_M_image_77 : decode (zb m_M_image) 77 = .ok (.iconst 0, 1) := by decide +kernel
theorem d_M_image_78 : decode (zb m_M_image) 78 = .ok (.istore_n 3, 1) := by decide +kernel
theorem d_M_image_79 : decode (zb m_M_image) 79 = .ok (.iload_n 3, 1) := by decide +kernel
theorem d_M_image_80 : decode (zb m_M_image) 80 = .ok (.bipush 15, 2) := by decide +kernel
theorem d_M_image_82 : decode (zb m_M_image) 82 = .ok (.if_icmp .ge 26, 3) := by decide +kernel
theorem d_M_image_85 : decode (zb m_M_image) 85 = .ok (.aload_n 0, 1) := by decide +kernel
theorem d_M_image_86 : decode (zb m_M_image) 86 = .ok (.getfield 68, 3) := by decide +kernel
theorem d_M_image_89 : decode (zb m_M_image) 89 = .ok (.iload_n 2, 1) := by decide +kernel
theorem d_M_image_90 : decode (zb m_M_image) 90 = .ok (.bipush 108, 2) := by decide +kernel
theorem d_M_image_92 : decode (zb m_M_image) 92 = .ok (.iadd, 1) := by decide +kernel
theorem d_M_image_93 : decode (zb m_M_image) 93 = .ok (.iload_n 3, 1) := by decide +kernel
theorem d_M_image_94 : decode (zb m_M_image) 94 = .ok (.iadd, 1) := by decide +kernel
theorem d_M_image_95 : decode (zb m_M_image) 95 = .ok (.aload_n 0, 1) := by decide +kernel
theorem d_M_image_96 : decode (zb m_M_image) 96 = .ok (.getfield 16, 3) := by decide +kernel
theorem d_M_image_99 : decode (zb m_M_image) 99 = .ok (.iload_n 3, 1) := by decide +kernel
theorem d_M_image_100 : decode (zb m_M_image) 100 = .ok (.iaload, 1) := by decide +kernel
theorem d_M_image_101 : decode (zb m_M_image) 101 = .ok (.iastore, 1) := by decide +kernel
theorem d_M_image_102 : decode (zb m_M_image) 102 = .ok (.iinc 3 1, 3) := by decide +kernel
theorem d_M_image_105 : decode (zb m_M_image) 105 = .ok (.goto (-26), 3) := by decide +kernel
theorem d_M_image_108 : decode (zb m_M_image) 108 = .ok (.iconst 0, 1) := by decide +kernel
theorem d_M_image_109 : decode (zb m_M_image) 109 = .ok (.istore_n 3, 1) := by decide +kernel
theorem d_M_image_110 : decode (zb m_M_image) 110 = .ok (.iload_n 3, 1) := by decide +kernel
theorem d_M_image_111 : decode (zb m_M_image) 111 = .ok (.bipush 6, 2) := by decide +kernel
theorem d_M_image_113 : decode (zb m_M_image) 113 = .ok (.if_icmp .ge 26, 3) := by decide +kernel
theorem d_M_image_116 : decode (zb m_M_image) 116 = .ok (.aload_n 0, 1) := by decide +kernel
theorem d_M_image_117 : decode (zb m_M_image) 117 = .ok (.getfield 68, 3) := by decide +kernel
theorem d_M_image_120 : decode (zb m_M_image) 120 = .ok (.iload_n 2, 1) := by decide +kernel
theorem d_M_image_121 : decode (zb m_M_image) 121 = .ok (.bipush 124, 2) := by decide +kernel
theorem d_M_image_123 : decode (zb m_M_image) 123 = .ok (.iadd, 1) := by decide +kernel
theorem d_M_image_124 : decode (zb m_M_image) 124 = .ok (.iload_n 3, 1) := by decide +kernel
theorem d_M_image_125 : decode (zb m_M_image) 125 = .ok (.iadd, 1) := by decide +kernel
theorem d_M_image_126 : decode (zb m_M_image) 126 = .ok (.aload_n 0, 1) := by decide +kernel
theorem d_M_image_127 : decode (zb m_M_image) 127 = .ok (.getfield 25, 3) := by decide +kernel
theorem d_M_image_130 : decode (zb m_M_image) 130 = .ok (.iload_n 3, 1) := by decide +kernel
theorem d_M_image_131 : decode (zb m_M_image) 131 = .ok (.iaload, 1) := by decide +kernel
theorem d_M_image_132 : decode (zb m_M_image) 132 = .ok (.iastore, 1) := by decide +kernel
theorem d_M_image_133 : decode (zb m_M_image) 133 = .ok (.iinc 3 1, 3) := by decide +kernel
theorem d_M_image_136 : decode (zb m_M_image) 136 = .ok (.goto (-26), 3) := by decide +kernel
theorem d_M_image_139 : decode (zb m_M_image) 139 = .ok (.iconst 0, 1) := by decide +kernel
theorem d_M_image_140 : decode (zb m_M_image) 140 = .ok (.istore_n 3, 1) := by decide +kernel
theorem d_M_image_141 : decode (zb m_M_image) 141 = .ok (.iload_n 3, 1) := by decide +kernel
theorem d_M_image_142 : decode (zb m_M_image) 142 = .ok (.iconst 3, 1) := by decide +kernel
theorem d_M_image_143 : decode (zb m_M_image) 143 = .ok (.if_icmp .ge 45, 3) := by decide +kernel
theorem d_M_image_146 : decode (zb m_M_image) 146 = .ok (.aload_n 0, 1) := by decide +kernel
theorem d_M_image_147 : decode (zb m_M_image) 147 = .ok (.getfield 68, 3) := by decide +kernel
theorem d_M_image_150 : decode (zb m_M_image) 150 = .ok (.iload_n 2, 1) := by decide +kernel
theorem d_M_image_151 : decode (zb m_M_image) 151 = .ok (.sipush 132, 3) := by decide +kernel
theorem d_M_image_154 : decode (zb m_M_image) 154 = .ok (.iadd, 1) := by decide +kernel
theorem d_M_image_155 : decode (zb m_M_image) 155 = .ok (.iload_n 3, 1) := by decide +kernel
theorem d_M_image_156 : decode (zb m_M_image) 156 = .ok (.iadd, 1) := by decide +kernel
theorem d_M_image_157 : decode (zb m_M_image) 157 = .ok (.aload_n 0, 1) := by decide +kernel
theorem d_M_image_158 : decode (zb m_M_image) 158 = .ok (.getfield 13, 3) := by decide +kernel
theorem d_M_image_161 : decode (zb m_M_image) 161 = .ok (.iload_n 3, 1) := by decide +kernel
theorem d_M_image_162 : decode (zb m_M_image) 162 = .ok (.iaload, 1) := by decide +kernel
theorem d_M_image_163 : decode (zb m_M_image) 163 = .ok (.iastore, 1) := by decide +kernel
theorem d_M_image_164 : decode (zb m_M_image) 164 = .ok (.aload_n 0, 1) := by decide +kernel
theorem d_M_image_165 : decode (zb m_M_image) 165 = .ok (.getfield 68, 3) := by decide +kernel
theorem d_M_image_168 : decode (zb m_M_image) 168 = .ok (.iload_n 2, 1) := by decide +kernel
theorem d_M_image_169 : decode (zb m_M_image) 169 = .ok (.sipush 136, 3) := by decide +kernel
theorem d_M_image_172 : decode (zb m_M_image) 172 = .ok (.iadd, 1) := by decide +kernel
theorem d_M_image_173 : decode (zb m_M_image) 173 = .ok (.iload_n 3, 1) := by decide +kernel
theorem d_M_image_174 : decode (zb m_M_image) 174 = .ok (.iadd, 1) := by decide +kernel
theorem d_M_image_175 : decode (zb m_M_image) 175 = .ok (.aload_n 0, 1) := by decide +kernel
theorem d_M_image_176 : decode (zb m_M_image) 176 = .ok (.getfield 19, 3) := by decide +kernel
theorem d_M_image_179 : decode (zb m_M_image) 179 = .ok (.iload_n 3, 1) := by decide +kernel
theorem d_M_image_180 : decode (zb m_M_image) 180 = .ok (.iaload, 1) := by decide +kernel
theorem d_M_image_181 : decode (zb m_M_image) 181 = .ok (.iastore, 1) := by decide +kernel
theorem d_M_image_182 : decode (zb m_M_image) 182 = .ok (.iinc 3 1, 3) := by decide +kernel
theorem d_M_image_185 : decode (zb m_M_image) 185 = .ok (.goto (-44), 3) := by decide +kernel
theorem d_M_image_188 : decode (zb m_M_image) 188 = .ok (.aload_n 0, 1) := by decide +kernel
theorem d_M_image_189 : decode (zb m_M_image) 189 = .ok (.getfield 68, 3) := by decide +kernel
theorem d_M_image_192 : decode (zb m_M_image) 192 = .ok (.iload_n 2, 1) := by decide +kernel
theorem d_M_image_193 : decode (zb m_M_image) 193 = .ok (.sipush 140, 3) := by decide +kernel
theorem d_M_image_196 : decode (zb m_M_image) 196 = .ok (.iadd, 1) := by decide +kernel
theorem d_M_image_197 : decode (zb m_M_image) 197 = .ok (.aload_n 0, 1) := by decide +kernel
theorem d_M_image_198 : decode (zb m_M_image) 198 = .ok (.getfield 98, 3) := by decide +kernel
theorem d_M_image_201 : decode (zb m_M_image) 201 = .ok (.iastore, 1) := by decide +kernel
theorem d_M_image_202 : decode (zb m_M_image) 202 = .ok (.aload_n 0, 1) := by decide +kernel
theorem d_M_image_203 : decode (zb m_M_image) 203 = .ok (.getfield 68, 3) := by decide +kernel
theorem d_M_image_206 : decode (zb m_M_image) 206 = .ok (.iload_n 2, 1) := by decide +kernel
theorem d_M_image_207 : decode (zb m_M_image) 207 = .ok (.sipush 141, 3) := by decide +kernel
theorem d_M_image_210 : decode (zb m_M_image) 210 = .ok (.iadd, 1) := by decide +kernel
theorem d_M_image_211 : decode (zb m_M_image) 211 = .ok (.aload_n 0, 1) := by decide +kernel
theorem d_M_image_212 : decode (zb m_M_image) 212 = .ok (.getfield 101, 3) := by decide +kernel
theorem d_M_image_215 : decode (zb m_M_image) 215 = .ok (.iastore, 1) := by decide +kernel
theorem d_M_image_216 : decode (zb m_M_image) 216 = .ok (.aload_n 0, 1) := by decide +kernel
theorem d_M_image_217 : decode (zb m_M_image) 217 = .ok (.getfield 71, 3) := by decide +kernel
theorem d_M_image_220 : decode (zb m_M_image) 220 = .ok (.iload_n 1, 1) := by decide +kernel
theorem d_M_image_221 : decode (zb m_M_image) 221 = .ok (.iconst 1, 1) := by decide +kernel
theorem d_M_image_222 : decode (zb m_M_image) 222 = .ok (.bastore, 1) := by decide +kernel
theorem d_M_image_223 : decode (zb m_M_image) 223 = .ok (.iconst 1, 1) := by decide +kernel
theorem d_M_image_224 : decode (zb m_M_image) 224 = .ok (.ireturn, 1) := by decide +kernel
theorem d_M_restore_0 : decode (zb m_M_restore) 0 = .ok (.iload_n 1, 1) := by decide +kernel
theorem d_M_restore_1 : decode (zb m_M_restore) 1 = .ok (.iconst 0, 1) := by decide +kernel
theorem d_M_restore_2 : decode (zb m_M_restore) 2 = .ok (.iconst 1, 1) := by decide +kernel
theorem d_M_restore_3 : decode (zb m_M_restore) 3 = .ok (.invokestatic 79, 3) := by decide +kernel
theorem d_M_restore_6 : decode (zb m_M_restore) 6 = .ok (.ifCond .ne 6, 3) := by decide +kernel
theorem d_M_restore_9 : decode (zb m_M_restore) 9 = .ok (.bipush (-2), 2) := by decide +kernel
theorem d_M_restore_11 : decode (zb m_M_restore) 11 = .ok (.ireturn, 1) := by decide +kernel
theorem d_M_restore_12 : decode (zb m_M_restore) 12 = .ok (.aload_n 0, 1) := by decide +kernel
theorem d_M_restore_13 : decode (zb m_M_restore) 13 = .ok (.getfield 71, 3) := by decide +kernel
theorem d_M_restore_16 : decode (zb m_M_restore) 16 = .ok (.iload_n 1, 1) := by decide +kernel
theorem d_M_restore_17 : decode (zb m_M_restore) 17 = .ok (.baload, 1) := by decide +kernel
theorem d_M_restore_18 : decode (zb m_M_restore) 18 = .ok (.ifCond .ne 6, 3) := by decide +kernel
theorem d_M_restore_21 : decode (zb m_M_restore) 21 = .ok (.bipush (-3), 2) := by decide +kernel
theorem d_M_restore_23 : decode (zb m_M_restore) 23 = .ok (.ireturn, 1) := by decide +kernel
theorem d_M_restore_24 : decode (zb m_M_restore) 24 = .ok (.sipush 150, 3) := by decide +kernel
theorem d_M_restore_27 : decode (zb m_M_restore) 27 = .ok (.iload_n 1, 1) := by decide +kernel
theorem d_M_restore_28 : decode (zb m_M_restore) 28 = .ok (.imul, 1) := by decide +kernel
theorem d_M_restore_29 : decode (zb m_M_restore) 29 = .ok (.istore_n 2, 1) := by decide +kernel
theorem d_M_restore_30 : decode (zb m_M_restore) 30 = .ok (.iconst 0, 1) := by decide +kernel
theorem d_M_restore_31 : decode (zb m_M_restore) 31 = .ok (.istore_n 3, 1) := by decide +kernel
theorem d_M_restore_32 : decode (zb m_M_restore) 32 = .ok (.iload_n 3, 1) := by decide +kernel
theorem d_M_restore_33 : decode (zb m_M_restore) 33 = .ok (.bipush 72, 2) := by decide +kernel
theorem d_M_restore_35 : decode (zb m_M_restore) 35 = .ok (.if_icmp .ge 23, 3) := by decide +kernel
theorem d_M_restore_38 : decode (zb m_M_restore) 38 = .ok (.aload_n 0, 1) := by decide +kernel
theorem d_M_restore_39 : decode (zb m_M_restore) 39 = .ok (.getfield 22, 3) := by decide +kernel
theorem d_M_restore_42 : decode (zb m_M_restore) 42 = .ok (.iload_n 3, 1) := by decide +kernel
theorem d_M_restore_43 : decode (zb m_M_restore) 43 = .ok (.aload_n 0, 1) := by decide +kernel
theorem d_M_restore_44 : decode (zb m_M_restore) 44 = .ok (.getfield 68, 3) := by decide +kernel
theorem d_M_restore_47 : decode (zb m_M_restore) 47 = .ok (.iload_n 2, 1) := by decide +kernel
theorem d_M_restore_48 : decode (zb m_M_restore) 48 = .ok (.iload_n 3, 1) := by decide +kernel
theorem d_M_restore_49 : decode (zb m_M_restore) 49 = .ok (.iadd, 1) := by decide +kernel
theorem d_M_restore_50 : decode (zb m_M_restore) 50 = .ok (.iaload, 1) := by decide +kernel
theorem d_M_restore_51 : decode (zb m_M_restore) 51 = .ok (.iastore, 1) := by decide +kernel
theorem d_M_restore_52 : decode (zb m_M_restore) 52 = .ok (.iinc 3 1, 3) := by decide +kernel
theorem d_M_restore_55 : decode (zb m_M_restore) 55 = .ok (.goto (-23), 3) := by decide +kernel
theorem d_M_restore_58 : decode (zb m_M_restore) 58 = .ok (.iconst 0, 1) := by decide +kernel
theorem d_M_restore_59 : decode (zb m_M_restore) 59 = .ok (.istore_n 3, 1) := by decide +kernel
theorem d_M_restore_60 : decode (zb m_M_restore) 60 = .ok (.iload_n 3, 1) := by decide +kernel
theorem d_M_restore_61 : decode (zb m_M_restore) 61 = .ok (.bipush 36, 2) := by decide +kernel
theorem d_M_restore_63 : decode (zb m_M_restore) 63 = .ok (.if_icmp .ge 26, 3) := by decide +kernel
theorem d_M_restore_66 : decode (zb m_M_restore) 66 = .ok (.aload_n 0, 1) := by decide +kernel
theorem d_M_restore_67 : decode (zb m_M_restore) 67 = .ok (.getfield 7, 3) := by decide +kernel
theorem d_M_restore_70 : decode (zb m_M_restore) 70 = .ok (.iload_n 3, 1) := by decide +kernel
theorem d_M_restore_71 : decode (zb m_M_restore) 71 = .ok (.aload_n 0, 1) := by decide +kernel
theorem d_M_restore_72 : decode (zb m_M_restore) 72 = .ok (.getfield 68, 3) := by decide +kernel
theorem d_M_restore_75 : decode (zb m_M_restore) 75 = .ok (.iload_n 2, 1) := by decide +kernel
theorem d_M_restore_76 : decode (zb m_M_restore) 76 = .ok (.bipush 72, 2) := by decide +kernel
theorem d_M_restore_78 : decode (zb m_M_restore) 78 = .ok (.iadd, 1) := by decide +kernel
theorem d_M_restore_79 : decode (zb m_M_restore) 79 = .ok (.iload_n 3, 1) := by decide +kernel
theorem d_M_restore_80 : decode (zb m_M_restore) 80 = .ok (.iadd, 1) := by decide +kernel
theorem d_M_restore_81 : decode (zb m_M_restore) 81 = .ok (.iaload, 1) := by decide +kernel
theorem d_M_restore_82 : decode (zb m_M_restore) 82 = .ok (.iastore, 1) := by decide +kernel
theorem d_M_restore_83 : decode (zb m_M_restore) 83 = .ok (.iinc 3 1, 3) := by decide +kernel
theorem d_M_restore_86 : decode (zb m_M_restore) 86 = .ok (.goto (-26), 3) := by decide +kernel
theorem d_M_restore_89 : decode (zb m_M_restore) 89 = .ok (.iconst 0, 1) := by decide +kernel
theorem d_M_restore_90 : decode (zb m_M_restore) 90 = .ok (.istore_n 3, 1) := by decide +kernel
theorem d_M_restore_91 : decode (zb m_M_restore) 91 = .ok (.iload_n 3, 1) := by decide +kernel
theorem d_M_restore_92 : decode (zb m_M_restore) 92 = .ok (.bipush 15, 2) := by decide +kernel
theorem d_M_restore_94 : decode (zb m_M_restore) 94 = .ok (.if_icmp .ge 26, 3) := by decide +kernel
theorem d_M_restore_97 : decode (zb m_M_restore) 97 = .ok (.aload_n 0, 1) := by decide +kernel
theorem d_M_restore_98 : decode (zb m_M_restore) 98 = .ok (.getfield 16, 3) := by decide +kernel
theorem d_M_restore_101 : decode (zb m_M_restore) 101 = .ok (.iload_n 3, 1) := by decide +kernel
theorem d_M_restore_102 : decode (zb m_M_restore) 102 = .ok (.aload_n 0, 1) := by decide +kernel
theorem d_M_restore_103 : decode (zb m_M_restore) 103 = .ok (.getfield 68, 3) := by decide +kernel
theorem d_M_restore_106 : decode (zb m_M_restore) 106 = .ok (.iload_n 2, 1) := by decide +kernel
theorem d_M_restore_107 : decode (zb m_M_restore) 107 = .ok (.bipush 108, 2) := by decide +kernel
theorem d_M_restore_109 : decode (zb m_M_restore) 109 = .ok (.iadd, 1) := by decide +kernel
theorem d_M_restore_110 : decode (zb m_M_restore) 110 = .ok (.iload_n 3, 1) := by decide +kernel
theorem d_M_restore_111 : decode (zb m_M_restore) 111 = .ok (.iadd, 1) := by decide +kernel
theorem d_M_restore_112 : decode (zb m_M_restore) 112 = .ok (.iaload, 1) := by decide +kernel
theorem d_M_restore_113 : decode (zb m_M_restore) 113 = .ok (.iastore, 1) := by decide +kernel
theorem d_M_restore_114 : decode (zb m_M_restore) 114 = .ok (.iinc 3 1, 3) := by decide +kernel
theorem d_M_restore_117 : decode (zb m_M_restore) 117 = .ok (.goto (-26), 3) := by decide +kernel
theorem d_M_restore_120 : decode (zb m_M_restore) 120 = .ok (.iconst 0, 1) := by decide +kernel
theorem d_M_restore_121 : decode (zb m_M_restore) 121 = .ok (.istore_n 3, 1) := by decide +kernel
theorem d_M_restore_122 : decode (zb m_M_restore) 122 = .ok (.iload_n 3, 1) := by decide +kernel
theorem d_M_restore_123 : decode (zb m_M_restore) 123 = .ok (.bipush 6, 2) := by decide +kernel
theorem d_M_restore_125 : decode (zb m_M_restore) 125 = .ok (.if_icmp .ge 26, 3) := by decide +kernel
theorem d_M_restore_128 : decode (zb m_M_restore) 128 = .ok (.aload_n 0, 1) := by decide +kernel
theorem d_M_restore_129 : decode (zb m_M_restore) 129 = .ok (.getfield 25, 3) := by decide +kernel
theorem d_M_restore_132 : decode (zb m_M_restore) 132 = .ok (.iload_n 3, 1) := by decide +kernel
theorem d_M_restore_133 : decode (zb m_M_restore) 133 = .ok (.aload_n 0, 1) := by decide +kernel
theorem d_M_restore_134 : decode (zb m_M_restore) 134 = .ok (.getfield 68, 3) := by decide +kernel
theorem d_M_restore_137 : decode (zb m_M_restore) 137 = .ok (.iload_n 2, 1) := by decide +kernel
theorem d_M_restore_138 : decode (zb m_M_restore) 138 = .ok (.bipush 124, 2) := by decide +kernel
theorem d_M_restore_140 : decode (zb m_M_restore) 140 = .ok (.iadd, 1) := by decide +kernel
theorem d_M_restore_141 : decode (zb m_M_restore) 141 = .ok (.iload_n 3, 1) := by decide +kernel
theorem d_M_restore_142 : decode (zb m_M_restore) 142 = .ok (.iadd, 1) := by decide +kernel
theorem d_M_restore_143 : decode (zb m_M_restore) 143 = .ok (.iaload, 1) := by decide +kernel
theorem d_M_restore_144 : decode (zb m_M_restore) 144 = .ok (.iastore, 1) := by decide +kernel
theorem d_M_restore_145 : decode (zb m_M_restore) 145 = .ok (.iinc 3 1, 3) := by decide +kernel
theorem d_M_restore_148 : decode (zb m_M_restore) 148 = .ok (.goto (-26), 3) := by decide +kernel
theorem d_M_restore_151 : decode (zb m_M_restore) 151 = .ok (.iconst 0, 1) := by decide +kernel
theorem d_M_restore_152 : decode (zb m_M_restore) 152 = .ok (.istore_n 3, 1) := by decide +kernel
theorem d_M_restore_153 : decode (zb m_M_restore) 153 = .ok (.iload_n 3, 1) := by decide +kernel
theorem d_M_restore_154 : decode (zb m_M_restore) 154 = .ok (.iconst 3, 1) := by decide +kernel
theorem d_M_restore_155 : decode (zb m_M_restore) 155 = .ok (.if_icmp .ge 45, 3) := by decide +kernel
theorem d_M_restore_158 : decode (zb m_M_restore) 158 = .ok (.aload_n 0, 1) := by decide +kernel
theorem d_M_restore_159 : decode (zb m_M_restore) 159 = .ok (.getfield 13, 3) := by decide +kernel
theorem d_M_restore_162 : decode (zb m_M_restore) 162 = .ok (.iload_n 3, 1) := by decide +kernel
theorem d_M_restore_163 : decode (zb m_M_restore) 163 = .ok (.aload_n 0, 1) := by decide +kernel
theorem d_M_restore_164 : decode (zb m_M_restore) 164 = .ok (.getfield 68, 3) := by decide +kernel
theorem d_M_restore_167 : decode (zb m_M_restore) 167 = .ok (.iload_n 2, 1) := by decide +kernel
theorem d_M_restore_168 : decode (zb m_M_restore) 168 = .ok (.sipush 132, 3) := by decide +kernel
theorem d_M_restore_171 : decode (zb m_M_restore) 171 = .ok (.iadd, 1) := by decide +kernel
theorem d_M_restore_172 : decode (zb m_M_restore) 172 = .ok (.iload_n 3, 1) := by decide +kernel
theorem d_M_restore_173 : decode (zb m_M_restore) 173 = .ok (.iadd, 1) := by decide +kernel
theorem d_M_restore_174 : decode (zb m_M_restore) 174 = .ok (.iaload, 1) := by decide +kernel
theorem d_M_restore_175 : decode (zb m_M_restore) 175 = .ok (.iastore, 1) := by decide +kernel
theorem d_M_restore_176 : decode (zb m_M_restore) 176 = .ok (.aload_n 0, 1) := by decide +kernel
theorem d_M_restore_177 : decode (zb m_M_restore) 177 = .ok (.getfield 19, 3) := by decide +kernel
theorem d_M_restore_180 : decode (zb m_M_restore) 180 = .ok (.iload_n 3, 1) := by decide +kernel
theorem d_M_restore_181 : decode (zb m_M_restore) 181 = .ok (.aload_n 0, 1) := by decide +kernel
theorem d_M_restore_182 : decode (zb m_M_restore) 182 = .ok (.getfield 68, 3) := by decide +kernel
theorem d_M_restore_185 : decode (zb m_M_restore) 185 = .ok (.iload_n 2, 1) := by decide +kernel
theorem d_M_restore_186 : decode (zb m_M_restore) 186 = .ok (.sipush 136, 3) := by decide +kernel
theorem d_M_restore_189 : decode (zb m_M_restore) 189 = .ok (.iadd, 1) := by decide +kernel
theorem d_M_restore_190 : decode (zb m_M_restore) 190 = .ok (.iload_n 3, 1) := by decide +kernel
theorem d_M_restore_191 : decode (zb m_M_restore) 191 = .ok (.iadd, 1) := by decide +kernel
theorem d_M_restore_192 : decode (zb m_M_restore) 192 = .ok (.iaload, 1) := by decide +kernel
theorem d_M_restore_193 : decode (zb m_M_restore) 193 = .ok (.iastore, 1) := by decide +kernel
theorem d_M_restore_194 : decode (zb m_M_restore) 194 = .ok (.iinc 3 1, 3) := by decide +kernel
theorem d_M_restore_197 : decode (zb m_M_restore) 197 = .ok (.goto (-44), 3) := by decide +kernel
theorem d_M_restore_200 : decode (zb m_M_restore) 200 = .ok (.aload_n 0, 1) := by decide +kernel
theorem d_M_restore_201 : decode (zb m_M_restore) 201 = .ok (.aload_n 0, 1) := by decide +kernel
theorem d_M_restore_202 : decode (zb m_M_restore) 202 = .ok (.getfield 68, 3) := by decide +kernel
theorem d_M_restore_205 : decode (zb m_M_restore) 205 = .ok (.iload_n 2, 1) := by decide +kernel
theorem d_M_restore_206 : decode (zb m_M_restore) 206 = .ok (.sipush 140, 3) := by decide +kernel
theorem d_M_restore_209 : decode (zb m_M_restore) 209 = .ok (.iadd, 1) := by decide +kernel
theorem d_M_restore_210 : decode (zb m_M_restore) 210 = .ok (.iaload, 1) := by decide +kernel
theorem d_M_restore_211 : decode (zb m_M_restore) 211 = .ok (.putfield 98, 3) := by decide +kernel
theorem d_M_restore_214 : decode (zb m_M_restore) 214 = .ok (.aload_n 0, 1) := by decide +kernel
theorem d_M_restore_215 : decode (zb m_M_restore) 215 = .ok (.aload_n 0, 1) := by decide +kernel
theorem d_M_restore_216 : decode (zb m_M_restore) 216 = .ok (.getfield 68, 3) := by decide +kernel
theorem d_M_restore_219 : decode (zb m_M_restore) 219 = .ok (.iload_n 2, 1) := by decide +kernel
theorem d_M_restore_220 : decode (zb m_M_restore) 220 = .ok (.sipush 141, 3) := by decide +kernel
theorem d_M_restore_223 : decode (zb m_M_restore) 223 = .ok (.iadd, 1) := by decide +kernel
theorem d_M_restore_224 : decode (zb m_M_restore) 224 = .ok (.iaload, 1) := by decide +kernel
theorem d_M_restore_225 : decode (zb m_M_restore) 225 = .ok (.putfield 101, 3) := by decide +kernel
theorem d_M_restore_228 : decode (zb m_M_restore) 228 = .ok (.iconst 1, 1) := by decide +kernel
theorem d_M_restore_229 : decode (zb m_M_restore) 229 = .ok (.ireturn, 1) := by decide +kernel
theorem d_M_told_0 : decode (zb m_M_told) 0 = .ok (.iload_n 1, 1) := by decide +kernel
theorem d_M_told_1 : decode (zb m_M_told) 1 = .ok (.bipush 30, 2) := by decide +kernel
theorem d_M_told_3 : decode (zb m_M_told) 3 = .ok (.if_icmp .lt 35, 3) := by decide +kernel
theorem d_M_told_6 : decode (zb m_M_told) 6 = .ok (.iload_n 1, 1) := by decide +kernel
theorem d_M_told_7 : decode (zb m_M_told) 7 = .ok (.bipush 30, 2) := by decide +kernel
theorem d_M_told_9 : decode (zb m_M_told) 9 = .ok (.isub, 1) := by decide +kernel
theorem d_M_told_10 : decode (zb m_M_told) 10 = .ok (.iconst 0, 1) := by decide +kernel
theorem d_M_told_11 : decode (zb m_M_told) 11 = .ok (.aload_n 0, 1) := by decide +kernel
theorem d_M_told_12 : decode (zb m_M_told) 12 = .ok (.getfield 101, 3) := by decide +kernel
theorem d_M_told_15 : decode (zb m_M_told) 15 = .ok (.iconst 1, 1) := by decide +kernel
theorem d_M_told_16 : decode (zb m_M_told) 16 = .ok (.isub, 1) := by decide +kernel
theorem d_M_told_17 : decode (zb m_M_told) 17 = .ok (.invokestatic 79, 3) := by decide +kernel
theorem d_M_told_20 : decode (zb m_M_told) 20 = .ok (.ifCond .eq 15, 3) := by decide +kernel
theorem d_M_told_23 : decode (zb m_M_told) 23 = .ok (.aload_n 0, 1) := by decide +kernel
theorem d_M_told_24 : decode (zb m_M_told) 24 = .ok (.getfield 25, 3) := by decide +kernel
theorem d_M_told_27 : decode (zb m_M_told) 27 = .ok (.iload_n 1, 1) := by decide +kernel
theorem d_M_told_28 : decode (zb m_M_told) 28 = .ok (.bipush 30, 2) := by decide +kernel
theorem d_M_told_30 : decode (zb m_M_told) 30 = .ok (.isub, 1) := by decide +kernel
theorem d_M_told_31 : decode (zb m_M_told) 31 = .ok (.iaload, 1) := by decide +kernel
theorem d_M_told_32 : decode (zb m_M_told) 32 = .ok (.goto 5, 3) := by decide +kernel
theorem d_M_told_35 : decode (zb m_M_told) 35 = .ok (.bipush (-2), 2) := by decide +kernel
theorem d_M_told_37 : decode (zb m_M_told) 37 = .ok (.ireturn, 1) := by decide +kernel
theorem d_M_told_38 : decode (zb m_M_told) 38 = .ok (.iload_n 1, 1) := by decide +kernel
theorem d_M_told_39 : decode (zb m_M_told) 39 = .ok (.bipush 20, 2) := by decide +kernel
theorem d_M_told_41 : decode (zb m_M_told) 41 = .ok (.if_icmp .lt 35, 3) := by decide +kernel
theorem d_M_told_44 : decode (zb m_M_told) 44 = .ok (.iload_n 1, 1) := by decide +kernel
theorem d_M_told_45 : decode (zb m_M_told) 45 = .ok (.bipush 20, 2) := by decide +kernel
theorem d_M_told_47 : decode (zb m_M_told) 47 = .ok (.isub, 1) := by decide +kernel
theorem d_M_told_48 : decode (zb m_M_told) 48 = .ok (.iconst 0, 1) := by decide +kernel
theorem d_M_told_49 : decode (zb m_M_told) 49 = .ok (.aload_n 0, 1) := by decide +kernel
theorem d_M_told_50 : decode (zb m_M_told) 50 = .ok (.getfield 98, 3) := by decide +kernel
theorem d_M_told_53 : decode (zb m_M_told) 53 = .ok (.iconst 1, 1) := by decide +kernel
theorem d_M_told_54 : decode (zb m_M_told) 54 = .ok (.isub, 1) := by decide +kernel
theorem d_M_told_55 : decode (zb m_M_told) 55 = .ok (.invokestatic 79, 3) := by decide +kernel
theorem d_M_told_58 : decode (zb m_M_told) 58 = .ok (.ifCond .eq 15, 3) := by decide +kernel
theorem d_M_told_61 : decode (zb m_M_told) 61 = .ok (.aload_n 0, 1) := by decide +kernel
theorem d_M_told_62 : decode (zb m_M_told) 62 = .ok (.getfield 19, 3) := by decide +kernel
theorem d_M_told_65 : decode (zb m_M_told) 65 = .ok (.iload_n 1, 1) := by decide +kernel
theorem d_M_told_66 : decode (zb m_M_told) 66 = .ok (.bipush 20, 2) := by decide +kernel
theorem d_M_told_68 : decode (zb m_M_told) 68 = .ok (.isub, 1) := by decide +kernel
theorem d_M_told_69 : decode (zb m_M_told) 69 = .ok (.iaload, 1) := by decide +kernel
theorem d_M_told_70 : decode (zb m_M_told) 70 = .ok (.goto 5, 3) := by decide +kernel
theorem d_M_told_73 : decode (zb m_M_told) 73 = .ok (.bipush (-2), 2) := by decide +kernel
theorem d_M_told_75 : decode (zb m_M_told) 75 = .ok (.ireturn, 1) := by decide +kernel
theorem d_M_told_76 : decode (zb m_M_told) 76 = .ok (.iload_n 1, 1) := by decide +kernel
theorem d_M_told_77 : decode (zb m_M_told) 77 = .ok (.bipush 10, 2) := by decide +kernel
theorem d_M_told_79 : decode (zb m_M_told) 79 = .ok (.if_icmp .lt 35, 3) := by decide +kernel
theorem d_M_told_82 : decode (zb m_M_told) 82 = .ok (.iload_n 1, 1) := by decide +kernel
theorem d_M_told_83 : decode (zb m_M_told) 83 = .ok (.bipush 10, 2) := by decide +kernel
theorem d_M_told_85 : decode (zb m_M_told) 85 = .ok (.isub, 1) := by decide +kernel
theorem d_M_told_86 : decode (zb m_M_told) 86 = .ok (.iconst 0, 1) := by decide +kernel
theorem d_M_told_87 : decode (zb m_M_told) 87 = .ok (.aload_n 0, 1) := by decide +kernel
theorem d_M_told_88 : decode (zb m_M_told) 88 = .ok (.getfield 98, 3) := by decide +kernel
theorem d_M_told_91 : decode (zb m_M_told) 91 = .ok (.iconst 1, 1) := by decide +kernel
theorem d_M_told_92 : decode (zb m_M_told) 92 = .ok (.isub, 1) := by decide +kernel
theorem d_M_told_93 : decode (zb m_M_told) 93 = .ok (.invokestatic 79, 3) := by decide +kernel
theorem d_M_told_96 : decode (zb m_M_told) 96 = .ok (.ifCond .eq 15, 3) := by decide +kernel
theorem d_M_told_99 : decode (zb m_M_told) 99 = .ok (.aload_n 0, 1) := by decide +kernel
theorem d_M_told_100 : decode (zb m_M_told) 100 = .ok (.getfield 13, 3) := by decide +kernel
theorem d_M_told_103 : decode (zb m_M_told) 103 = .ok (.iload_n 1, 1) := by decide +kernel
theorem d_M_told_104 : decode (zb m_M_told) 104 = .ok (.bipush 10, 2) := by decide +kernel
theorem d_M_told_106 : decode (zb m_M_told) 106 = .ok (.isub, 1) := by decide +kernel
theorem d_M_told_107 : decode (zb m_M_told) 107 = .ok (.iaload, 1) := by decide +kernel
theorem d_M_told_108 : decode (zb m_M_told) 108 = .ok (.goto 5, 3) := by decide +kernel
theorem d_M_told_111 : decode (zb m_M_told) 111 = .ok (.bipush (-2), 2) := by decide +kernel
theorem d_M_told_113 : decode (zb m_M_told) 113 = .ok (.ireturn, 1) := by decide +kernel
theorem d_M_told_114 : decode (zb m_M_told) 114 = .ok (.iload_n 1, 1) := by decide +kernel
theorem d_M_told_115 : decode (zb m_M_told) 115 = .ok (.ifCond .ne 10, 3) := by decide +kernel
theorem d_M_told_118 : decode (zb m_M_told) 118 = .ok (.aload_n 0, 1) := by decide +kernel
theorem d_M_told_119 : decode (zb m_M_told) 119 = .ok (.getfield 83, 3) := by decide +kernel
theorem d_M_told_122 : decode (zb m_M_told) 122 = .ok (.goto 29, 3) := by decide +kernel
theorem d_M_told_125 : decode (zb m_M_told) 125 = .ok (.iload_n 1, 1) := by decide +kernel
theorem d_M_told_126 : decode (zb m_M_told) 126 = .ok (.iconst 1, 1) := by decide +kernel
theorem d_M_told_127 : decode (zb m_M_told) 127 = .ok (.if_icmp .ne 10, 3) := by decide +kernel
theorem d_M_told_130 : decode (zb m_M_told) 130 = .ok (.aload_n 0, 1) := by decide +kernel
theorem d_M_told_131 : decode (zb m_M_told) 131 = .ok (.getfield 98, 3) := by decide +kernel
theorem d_M_told_134 : decode (zb m_M_told) 134 = .ok (.goto 17, 3) := by decide +kernel
theorem d_M_told_137 : decode (zb m_M_told) 137 = .ok (.iload_n 1, 1) := by decide +kernel
theorem d_M_told_138 : decode (zb m_M_told) 138 = .ok (.iconst 2, 1) := by decide +kernel
theorem d_M_told_139 : decode (zb m_M_told) 139 = .ok (.if_icmp .ne 10, 3) := by decide +kernel
theorem d_M_told_142 : decode (zb m_M_told) 142 = .ok (.aload_n 0, 1) := by decide +kernel
theorem d_M_told_143 : decode (zb m_M_told) 143 = .ok (.getfield 101, 3) := by decide +kernel
theorem d_M_told_146 : decode (zb m_M_told) 146 = .ok (.goto 5, 3) := by decide +kernel
theorem d_M_told_149 : decode (zb m_M_told) 149 = .ok (.bipush (-2), 2) := by decide +kernel
theorem d_M_told_151 : decode (zb m_M_told) 151 = .ok (.ireturn, 1) := by decide +kernel

theorem d_M_flush_103 : decode b_M_flush 103 = .ok (.bipush (-2), 2) := by decide +kernel
theorem d_M_flush_105 : decode b_M_flush 105 = .ok (.iastore, 1) := by decide +kernel
theorem d_M_flush_106 : decode b_M_flush 106 = .ok (.iinc 2 1, 3) := by decide +kernel
theorem d_M_flush_109 : decode b_M_flush 109 = .ok (.goto (-45), 3) := by decide +kernel
theorem d_M_flush_112 : decode b_M_flush 112 = .ok (.iload_n 1, 1) := by decide +kernel
theorem d_M_flush_113 : decode b_M_flush 113 = .ok (.ifCond .le 13, 3) := by decide +kernel
theorem d_M_flush_116 : decode b_M_flush 116 = .ok (.aload_n 0, 1) := by decide +kernel
theorem d_M_flush_117 : decode b_M_flush 117 = .ok (.dup, 1) := by decide +kernel
theorem d_M_flush_118 : decode b_M_flush 118 = .ok (.getfield 159, 3) := by decide +kernel
theorem d_M_flush_121 : decode b_M_flush 121 = .ok (.iconst 1, 1) := by decide +kernel
theorem d_M_flush_122 : decode b_M_flush 122 = .ok (.iadd, 1) := by decide +kernel
theorem d_M_flush_123 : decode b_M_flush 123 = .ok (.putfield 159, 3) := by decide +kernel
theorem d_M_flush_126 : decode b_M_flush 126 = .ok (.iload_n 1, 1) := by decide +kernel
theorem d_M_flush_127 : decode b_M_flush 127 = .ok (.ireturn, 1) := by decide +kernel
theorem d_M_merge_0 : decode b_M_merge 0 = .ok (.iload_n 2, 1) := by decide +kernel
theorem d_M_merge_1 : decode b_M_merge 1 = .ok (.iconst 2, 1) := by decide +kernel
theorem d_M_merge_2 : decode b_M_merge 2 = .ok (.bipush 6, 2) := by decide +kernel
theorem d_M_merge_4 : decode b_M_merge 4 = .ok (.invokestatic 118, 3) := by decide +kernel
theorem d_M_merge_7 : decode b_M_merge 7 = .ok (.ifCond .eq 17, 3) := by decide +kernel
theorem d_M_merge_10 : decode b_M_merge 10 = .ok (.iload_n 1, 1) := by decide +kernel
theorem d_M_merge_11 : decode b_M_merge 11 = .ok (.iconst 0, 1) := by decide +kernel
theorem d_M_merge_12 : decode b_M_merge 12 = .ok (.aload_n 0, 1) := by decide +kernel
theorem d_M_merge_13 : decode b_M_merge 13 = .ok (.getfield 159, 3) := by decide +kernel
theorem d_M_merge_16 : decode b_M_merge 16 = .ok (.iload_n 2, 1) := by decide +kernel
theorem d_M_merge_17 : decode b_M_merge 17 = .ok (.isub, 1) := by decide +kernel
theorem d_M_merge_18 : decode b_M_merge 18 = .ok (.invokestatic 118, 3) := by decide +kernel
theorem d_M_merge_21 : decode b_M_merge 21 = .ok (.ifCond .ne 5, 3) := by decide +kernel
theorem d_M_merge_24 : decode b_M_merge 24 = .ok (.iconst (-1), 1) := by decide +kernel
theorem d_M_merge_25 : decode b_M_merge 25 = .ok (.ireturn, 1) := by decide +kernel
theorem d_M_merge_26 : decode b_M_merge 26 = .ok (.iconst 0, 1) := by decide +kernel
theorem d_M_merge_27 : decode b_M_merge 27 = .ok (.istore_n 3, 1) := by decide +kernel
theorem d_M_merge_28 : decode b_M_merge 28 = .ok (.iconst 0, 1) := by decide +kernel
theorem d_M_merge_29 : decode b_M_merge 29 = .ok (.istore 4, 2) := by decide +kernel
theorem d_M_merge_31 : decode b_M_merge 31 = .ok (.iload 4, 2) := by decide +kernel
theorem d_M_merge_33 : decode b_M_merge 33 = .ok (.aload_n 0, 1) := by decide +kernel
theorem d_M_merge_34 : decode b_M_merge 34 = .ok (.getfield 132, 3) := by decide +kernel
theorem d_M_merge_37 : decode b_M_merge 37 = .ok (.if_icmp .ge 73, 3) := by decide +kernel
theorem d_M_merge_40 : decode b_M_merge 40 = .ok (.aload_n 0, 1) := by decide +kernel
theorem d_M_merge_41 : decode b_M_merge 41 = .ok (.getfield 45, 3) := by decide +kernel
theorem d_M_merge_44 : decode b_M_merge 44 = .ok (.iload 4, 2) := by decide +kernel
theorem d_M_merge_46 : decode b_M_merge 46 = .ok (.iaload, 1) := by decide +kernel
theorem d_M_merge_47 : decode b_M_merge 47 = .ok (.iload_n 1, 1) := by decide +kernel
theorem d_M_merge_48 : decode b_M_merge 48 = .ok (.iload_n 1, 1) := by decide +kernel
theorem d_M_merge_49 : decode b_M_merge 49 = .ok (.iload_n 2, 1) := by decide +kernel
theorem d_M_merge_50 : decode b_M_merge 50 = .ok (.iadd, 1) := by decide +kernel
theorem d_M_merge_51 : decode b_M_merge 51 = .ok (.iconst 1, 1) := by decide +kernel
theorem d_M_merge_52 : decode b_M_merge 52 = .ok (.isub, 1) := by decide +kernel
theorem d_M_merge_53 : decode b_M_merge 53 = .ok (.invokestatic 118, 3) := by decide +kernel
theorem d_M_merge_56 : decode b_M_merge 56 = .ok (.ifCond .ne 6, 3) := by decide +kernel
theorem d_M_merge_59 : decode b_M_merge 59 = .ok (.goto 45, 3) := by decide +kernel
theorem d_M_merge_62 : decode b_M_merge 62 = .ok (.aload_n 0, 1) := by decide +kernel
theorem d_M_merge_63 : decode b_M_merge 63 = .ok (.getfield 51, 3) := by decide +kernel
theorem d_M_merge_66 : decode b_M_merge 66 = .ok (.iload 4, 2) := by decide +kernel
theorem d_M_merge_68 : decode b_M_merge 68 = .ok (.baload, 1) := by decide +kernel
theorem d_M_merge_69 : decode b_M_merge 69 = .ok (.ifCond .eq 16, 3) := by decide +kernel
theorem d_M_merge_72 : decode b_M_merge 72 = .ok (.iconst 1, 1) := by decide +kernel
theorem d_M_merge_73 : decode b_M_merge 73 = .ok (.istore_n 3, 1) := by decide +kernel
theorem d_M_merge_74 : decode b_M_merge 74 = .ok (.aload_n 0, 1) := by decide +kernel
theorem d_M_merge_75 : decode b_M_merge 75 = .ok (.getfield 45, 3) := by decide +kernel
theorem d_M_merge_78 : decode b_M_merge 78 = .ok (.iload 4, 2) := by decide +kernel
theorem d_M_merge_80 : decode b_M_merge 80 = .ok (.iload_n 1, 1) := by decide +kernel
theorem d_M_merge_81 : decode b_M_merge 81 = .ok (.iastore, 1) := by decide +kernel
theorem d_M_merge_82 : decode b_M_merge 82 = .ok (.goto 22, 3) := by decide +kernel
theorem d_M_merge_85 : decode b_M_merge 85 = .ok (.aload_n 0, 1) := by decide +kernel
theorem d_M_merge_86 : decode b_M_merge 86 = .ok (.getfield 45, 3) := by decide +kernel
theorem d_M_merge_89 : decode b_M_merge 89 = .ok (.iload 4, 2) := by decide +kernel
theorem d_M_merge_91 : decode b_M_merge 91 = .ok (.bipush (-2), 2) := by decide +kernel
theorem d_M_merge_93 : decode b_M_merge 93 = .ok (.iastore, 1) := by decide +kernel
theorem d_M_merge_94 : decode b_M_merge 94 = .ok (.aload_n 0, 1) := by decide +kernel
theorem d_M_merge_95 : decode b_M_merge 95 = .ok (.dup, 1) := by decide +kernel
theorem d_M_merge_96 : decode b_M_merge 96 = .ok (.getfield 162, 3) := by decide +kernel
theorem d_M_merge_99 : decode b_M_merge 99 = .ok (.iconst 1, 1) := by decide +kernel
theorem d_M_merge_100 : decode b_M_merge 100 = .ok (.iadd, 1) := by decide +kernel
theorem d_M_merge_101 : decode b_M_merge 101 = .ok (.putfield 162, 3) := by decide +kernel
theorem d_M_merge_104 : decode b_M_merge 104 = .ok (.iinc 4 1, 3) := by decide +kernel
theorem d_M_merge_107 : decode b_M_merge 107 = .ok (.goto (-76), 3) := by decide +kernel
theorem d_M_merge_110 : decode b_M_merge 110 = .ok (.iload_n 3, 1) := by decide +kernel
theorem d_M_merge_111 : decode b_M_merge 111 = .ok (.ifCond .eq 9, 3) := by decide +kernel
theorem d_M_merge_114 : decode b_M_merge 114 = .ok (.iload_n 2, 1) := by decide +kernel
theorem d_M_merge_115 : decode b_M_merge 115 = .ok (.iconst 1, 1) := by decide +kernel
theorem d_M_merge_116 : decode b_M_merge 116 = .ok (.isub, 1) := by decide +kernel
theorem d_M_merge_117 : decode b_M_merge 117 = .ok (.goto 4, 3) := by decide +kernel
theorem d_M_merge_120 : decode b_M_merge 120 = .ok (.iload_n 2, 1) := by decide +kernel
theorem d_M_merge_121 : decode b_M_merge 121 = .ok (.istore 4, 2) := by decide +kernel
theorem d_M_merge_123 : decode b_M_merge 123 = .ok (.iconst 0, 1) := by decide +kernel
theorem d_M_merge_124 : decode b_M_merge 124 = .ok (.istore 5, 2) := by decide +kernel
theorem d_M_merge_126 : decode b_M_merge 126 = .ok (.iload 5, 2) := by decide +kernel
theorem d_M_merge_128 : decode b_M_merge 128 = .ok (.aload_n 0, 1) := by decide +kernel
theorem d_M_merge_129 : decode b_M_merge 129 = .ok (.getfield 132, 3) := by decide +kernel
theorem d_M_merge_132 : decode b_M_merge 132 = .ok (.if_icmp .ge 34, 3) := by decide +kernel
theorem d_M_merge_135 : decode b_M_merge 135 = .ok (.aload_n 0, 1) := by decide +kernel
theorem d_M_merge_136 : decode b_M_merge 136 = .ok (.getfield 45, 3) := by decide +kernel
theorem d_M_merge_139 : decode b_M_merge 139 = .ok (.iload 5, 2) := by decide +kernel
theorem d_M_merge_141 : decode b_M_merge 141 = .ok (.iaload, 1) := by decide +kernel
theorem d_M_merge_142 : decode b_M_merge 142 = .ok (.iload_n 1, 1) := by decide +kernel
theorem d_M_merge_143 : decode b_M_merge 143 = .ok (.iload_n 2, 1) := by decide +kernel
theorem d_M_merge_144 : decode b_M_merge 144 = .ok (.iadd, 1) := by decide +kernel
theorem d_M_merge_145 : decode b_M_merge 145 = .ok (.if_icmp .lt 15, 3) := by decide +kernel
theorem d_M_merge_148 : decode b_M_merge 148 = .ok (.aload_n 0, 1) := by decide +kernel
theorem d_M_merge_149 : decode b_M_merge 149 = .ok (.getfield 45, 3) := by decide +kernel
theorem d_M_merge_152 : decode b_M_merge 152 = .ok (.iload 5, 2) := by decide +kernel
theorem d_M_merge_154 : decode b_M_merge 154 = .ok (.dup2, 1) := by decide +kernel
theorem d_M_merge_155 : decode b_M_merge 155 = .ok (.iaload, 1) := by decide +kernel
theorem d_M_merge_156 : decode b_M_merge 156 = .ok (.iload 4, 2) := by decide +kernel
theorem d_M_merge_158 : decode b_M_merge 158 = .ok (.isub, 1) := by decide +kernel
theorem d_M_merge_159 : decode b_M_merge 159 = .ok (.iastore, 1) := by decide +kernel
theorem d_M_merge_160 : decode b_M_merge 160 = .ok (.iinc 5 1, 3) := by decide +kernel
theorem d_M_merge_163 : decode b_M_merge 163 = .ok (.goto (-37), 3) := by decide +kernel
theorem d_M_merge_166 : decode b_M_merge 166 = .ok (.aload_n 0, 1) := by decide +kernel
theorem d_M_merge_167 : decode b_M_merge 167 = .ok (.dup, 1) := by decide +kernel
theorem d_M_merge_168 : decode b_M_merge 168 = .ok (.getfield 159, 3) := by decide +kernel
theorem d_M_merge_171 : decode b_M_merge 171 = .ok (.iload 4, 2) := by decide +kernel
theorem d_M_merge_173 : decode b_M_merge 173 = .ok (.isub, 1) := by decide +kernel
theorem d_M_merge_174 : decode b_M_merge 174 = .ok (.putfield 159, 3) := by decide +kernel
theorem d_M_merge_177 : decode b_M_merge 177 = .ok (.aload_n 0, 1) := by decide +kernel
theorem d_M_merge_178 : decode b_M_merge 178 = .ok (.getfield 159, 3) := by decide +kernel
theorem d_M_merge_181 : decode b_M_merge 181 = .ok (.ireturn, 1) := by decide +kernel
theorem d_M_refresh_0 : decode b_M_refresh 0 = .ok (.iconst 0, 1) := by decide +kernel
theorem d_M_refresh_1 : decode b_M_refresh 1 = .ok (.istore_n 1, 1) := by decide +kernel
theorem d_M_refresh_2 : decode b_M_refresh 2 = .ok (.aload_n 0, 1) := by decide +kernel
theorem d_M_refresh_3 : decode b_M_refresh 3 = .ok (.iconst 1, 1) := by decide +kernel
theorem d_M_refresh_4 : decode b_M_refresh 4 = .ok (.putfield 165, 3) := by decide +kernel
theorem d_M_refresh_7 : decode b_M_refresh 7 = .ok (.iconst 0, 1) := by decide +kernel
theorem d_M_refresh_8 : decode b_M_refresh 8 = .ok (.istore_n 2, 1) := by decide +kernel
theorem d_M_refresh_9 : decode b_M_refresh 9 = .ok (.iload_n 2, 1) := by decide +kernel
theorem d_M_refresh_10 : decode b_M_refresh 10 = .ok (.aload_n 0, 1) := by decide +kernel
theorem d_M_refresh_11 : decode b_M_refresh 11 = .ok (.getfield 132, 3) := by decide +kernel
theorem d_M_refresh_14 : decode b_M_refresh 14 = .ok (.if_icmp .ge 76, 3) := by decide +kernel
theorem d_M_refresh_17 : decode b_M_refresh 17 = .ok (.aload_n 0, 1) := by decide +kernel
theorem d_M_refresh_18 : decode b_M_refresh 18 = .ok (.getfield 48, 3) := by decide +kernel
theorem d_M_refresh_21 : decode b_M_refresh 21 = .ok (.iload_n 2, 1) := by decide +kernel
theorem d_M_refresh_22 : decode b_M_refresh 22 = .ok (.aload_n 0, 1) := by decide +kernel
theorem d_M_refresh_23 : decode b_M_refresh 23 = .ok (.getfield 45, 3) := by decide +kernel
theorem d_M_refresh_26 : decode b_M_refresh 26 = .ok (.iload_n 2, 1) := by decide +kernel
theorem d_M_refresh_27 : decode b_M_refresh 27 = .ok (.iaload, 1) := by decide +kernel
theorem d_M_refresh_28 : decode b_M_refresh 28 = .ok (.ifCond .ge 8, 3) := by decide +kernel
theorem d_M_refresh_31 : decode b_M_refresh 31 = .ok (.bipush (-2), 2) := by decide +kernel
theorem d_M_refresh_33 : decode b_M_refresh 33 = .ok (.goto 9, 3) := by decide +kernel
theorem d_M_refresh_36 : decode b_M_refresh 36 = .ok (.aload_n 0, 1) := by decide +kernel
theorem d_M_refresh_37 : decode b_M_refresh 37 = .ok (.getfield 45, 3) := by decide +kernel
theorem d_M_refresh_40 : decode b_M_refresh 40 = .ok (.iload_n 2, 1) := by decide +kernel
theorem d_M_refresh_41 : decode b_M_refresh 41 = .ok (.iaload, 1) := by decide +kernel
theorem d_M_refresh_42 : decode b_M_refresh 42 = .ok (.iastore, 1) := by decide +kernel
theorem d_M_refresh_43 : decode b_M_refresh 43 = .ok (.aload_n 0, 1) := by decide +kernel
theorem d_M_refresh_44 : decode b_M_refresh 44 = .ok (.getfield 55, 3) := by decide +kernel
theorem d_M_refresh_47 : decode b_M_refresh 47 = .ok (.iload_n 2, 1) := by decide +kernel
theorem d_M_refresh_48 : decode b_M_refresh 48 = .ok (.aload_n 0, 1) := by decide +kernel
theorem d_M_refresh_49 : decode b_M_refresh 49 = .ok (.getfield 45, 3) := by decide +kernel
theorem d_M_refresh_52 : decode b_M_refresh 52 = .ok (.iload_n 2, 1) := by decide +kernel
theorem d_M_refresh_53 : decode b_M_refresh 53 = .ok (.iaload, 1) := by decide +kernel
theorem d_M_refresh_54 : decode b_M_refresh 54 = .ok (.ifCond .lt 16, 3) := by decide +kernel
theorem d_M_refresh_57 : decode b_M_refresh 57 = .ok (.aload_n 0, 1) := by decide +kernel
theorem d_M_refresh_58 : decode b_M_refresh 58 = .ok (.getfield 51, 3) := by decide +kernel
theorem d_M_refresh_61 : decode b_M_refresh 61 = .ok (.iload_n 2, 1) := by decide +kernel
theorem d_M_refresh_62 : decode b_M_refresh 62 = .ok (.baload, 1) := by decide +kernel
theorem d_M_refresh_63 : decode b_M_refresh 63 = .ok (.ifCond .eq 7, 3) := by decide +kernel
theorem d_M_refresh_66 : decode b_M_refresh 66 = .ok (.iconst 1, 1) := by decide +kernel
theorem d_M_refresh_67 : decode b_M_refresh 67 = .ok (.goto 4, 3) := by decide +kernel
theorem d_M_refresh_70 : decode b_M_refresh 70 = .ok (.iconst 0, 1) := by decide +kernel
theorem d_M_refresh_71 : decode b_M_refresh 71 = .ok (.bastore, 1) := by decide +kernel
theorem d_M_refresh_72 : decode b_M_refresh 72 = .ok (.aload_n 0, 1) := by decide +kernel
theorem d_M_refresh_73 : decode b_M_refresh 73 = .ok (.getfield 55, 3) := by decide +kernel
theorem d_M_refresh_76 : decode b_M_refresh 76 = .ok (.iload_n 2, 1) := by decide +kernel
theorem d_M_refresh_77 : decode b_M_refresh 77 = .ok (.baload, 1) := by decide +kernel
theorem d_M_refresh_78 : decode b_M_refresh 78 = .ok (.ifCond .eq 6, 3) := by decide +kernel
theorem d_M_refresh_81 : decode b_M_refresh 81 = .ok (.iinc 1 1, 3) := by decide +kernel
theorem d_M_refresh_84 : decode b_M_refresh 84 = .ok (.iinc 2 1, 3) := by decide +kernel
theorem d_M_refresh_87 : decode b_M_refresh 87 = .ok (.goto (-78), 3) := by decide +kernel
theorem d_M_refresh_90 : decode b_M_refresh 90 = .ok (.iload_n 1, 1) := by decide +kernel
theorem d_M_refresh_91 : decode b_M_refresh 91 = .ok (.ireturn, 1) := by decide +kernel
theorem d_M_parts_0 : decode b_M_parts 0 = .ok (.iload_n 0, 1) := by decide +kernel
theorem d_M_parts_1 : decode b_M_parts 1 = .ok (.iconst 5, 1) := by decide +kernel
theorem d_M_parts_2 : decode b_M_parts 2 = .ok (.if_icmp .eq 9, 3) := by decide +kernel
theorem d_M_parts_5 : decode b_M_parts 5 = .ok (.iload_n 0, 1) := by decide +kernel
theorem d_M_parts_6 : decode b_M_parts 6 = .ok (.bipush 6, 2) := by decide +kernel
theorem d_M_parts_8 : decode b_M_parts 8 = .ok (.if_icmp .ne 7, 3) := by decide +kernel
theorem d_M_parts_11 : decode b_M_parts 11 = .ok (.iconst 2, 1) := by decide +kernel
theorem d_M_parts_12 : decode b_M_parts 12 = .ok (.goto 14, 3) := by decide +kernel
theorem d_M_parts_15 : decode b_M_parts 15 = .ok (.iload_n 0, 1) := by decide +kernel
theorem d_M_parts_16 : decode b_M_parts 16 = .ok (.bipush 6, 2) := by decide +kernel
theorem d_M_parts_18 : decode b_M_parts 18 = .ok (.if_icmp .le 7, 3) := by decide +kernel
theorem d_M_parts_21 : decode b_M_parts 21 = .ok (.iconst 1, 1) := by decide +kernel
theorem d_M_parts_22 : decode b_M_parts 22 = .ok (.goto 4, 3) := by decide +kernel
theorem d_M_parts_25 : decode b_M_parts 25 = .ok (.iconst 0, 1) := by decide +kernel
theorem d_M_parts_26 : decode b_M_parts 26 = .ok (.ireturn, 1) := by decide +kernel
theorem d_M_isToken_0 : decode b_M_isToken 0 = .ok (.iload_n 0, 1) := by decide +kernel
theorem d_M_isToken_1 : decode b_M_isToken 1 = .ok (.tableswitch 135 0 8 #[51, 76, 76, 104, 135, 135, 135, 135, 111], 51) := by decide +kernel
theorem d_M_isToken_52 : decode b_M_isToken 52 = .ok (.iload_n 1, 1) := by decide +kernel
theorem d_M_isToken_53 : decode b_M_isToken 53 = .ok (.iconst 0, 1) := by decide +kernel
theorem d_M_isToken_54 : decode b_M_isToken 54 = .ok (.iconst 3, 1) := by decide +kernel
theorem d_M_isToken_55 : decode b_M_isToken 55 = .ok (.invokestatic 118, 3) := by decide +kernel
theorem d_M_isToken_58 : decode b_M_isToken 58 = .ok (.ifCond .eq 17, 3) := by decide +kernel
theorem d_M_isToken_61 : decode b_M_isToken 61 = .ok (.iload_n 2, 1) := by decide +kernel
theorem d_M_isToken_62 : decode b_M_isToken 62 = .ok (.iconst 0, 1) := by decide +kernel
theorem d_M_isToken_63 : decode b_M_isToken 63 = .ok (.bipush 25, 2) := by decide +kernel
theorem d_M_isToken_65 : decode b_M_isToken 65 = .ok (.invokestatic 118, 3) := by decide +kernel
theorem d_M_isToken_68 : decode b_M_isToken 68 = .ok (.ifCond .eq 7, 3) := by decide +kernel
theorem d_M_isToken_71 : decode b_M_isToken 71 = .ok (.iconst 1, 1) := by decide +kernel
theorem d_M_isToken_72 : decode b_M_isToken 72 = .ok (.goto 4, 3) := by decide +kernel
theorem d_M_isToken_75 : decode b_M_isToken 75 = .ok (.iconst 0, 1) := by decide +kernel
theorem d_M_isToken_76 : decode b_M_isToken 76 = .ok (.ireturn, 1) := by decide +kernel
theorem d_M_isToken_77 : decode b_M_isToken 77 = .ok (.iload_n 1, 1) := by decide +kernel
theorem d_M_isToken_78 : decode b_M_isToken 78 = .ok (.iconst 0, 1) := by decide +kernel
theorem d_M_isToken_79 : decode b_M_isToken 79 = .ok (.iconst 3, 1) := by decide +kernel
theorem d_M_isToken_80 : decode b_M_isToken 80 = .ok (.invokestatic 118, 3) := by decide +kernel
theorem d_M_isToken_83 : decode b_M_isToken 83 = .ok (.ifCond .eq 20, 3) := by decide +kernel
theorem d_M_isToken_86 : decode b_M_isToken 86 = .ok (.iload_n 2, 1) := by decide +kernel
theorem d_M_isToken_87 : decode b_M_isToken 87 = .ok (.sipush (-1000), 3) := by decide +kernel
theorem d_M_isToken_90 : decode b_M_isToken 90 = .ok (.sipush 1000, 3) := by decide +kernel
theorem d_M_isToken_93 : decode b_M_isToken 93 = .ok (.invokestatic 118, 3) := by decide +kernel
theorem d_M_isToken_96 : decode b_M_isToken 96 = .ok (.ifCond .eq 7, 3) := by decide +kernel
theorem d_M_isToken_99 : decode b_M_isToken 99 = .ok (.iconst 1, 1) := by decide +kernel
theorem d_M_isToken_100 : decode b_M_isToken 100 = .ok (.goto 4, 3) := by decide +kernel
theorem d_M_isToken_103 : decode b_M_isToken 103 = .ok (.iconst 0, 1) := by decide +kernel
theorem d_M_isToken_104 : decode b_M_isToken 104 = .ok (.ireturn, 1) := by decide +kernel
theorem d_M_isToken_105 : decode b_M_isToken 105 = .ok (.iload_n 1, 1) := by decide +kernel
theorem d_M_isToken_106 : decode b_M_isToken 106 = .ok (.iconst 0, 1) := by decide +kernel
theorem d_M_isToken_107 : decode b_M_isToken 107 = .ok (.iconst 3, 1) := by decide +kernel
theorem d_M_isToken_108 : decode b_M_isToken 108 = .ok (.invokestatic 118, 3) := by decide +kernel
theorem d_M_isToken_111 : decode b_M_isToken 111 = .ok (.ireturn, 1) := by decide +kernel
theorem d_M_isToken_112 : decode b_M_isToken 112 = .ok (.iload_n 1, 1) := by decide +kernel
theorem d_M_isToken_113 : decode b_M_isToken 113 = .ok (.iconst 0, 1) := by decide +kernel
theorem d_M_isToken_114 : decode b_M_isToken 114 = .ok (.iconst 3, 1) := by decide +kernel
theorem d_M_isToken_115 : decode b_M_isToken 115 = .ok (.invokestatic 118, 3) := by decide +kernel
theorem d_M_isToken_118 : decode b_M_isToken 118 = .ok (.ifCond .eq 16, 3) := by decide +kernel
theorem d_M_isToken_121 : decode b_M_isToken 121 = .ok (.iload_n 2, 1) := by decide +kernel
theorem d_M_isToken_122 : decode b_M_isToken 122 = .ok (.iconst 0, 1) := by decide +kernel
theorem d_M_isToken_123 : decode b_M_isToken 123 = .ok (.iconst 4, 1) := by decide +kernel
theorem d_M_isToken_124 : decode b_M_isToken 124 = .ok (.invokestatic 118, 3) := by decide +kernel
theorem d_M_isToken_127 : decode b_M_isToken 127 = .ok (.ifCond .eq 7, 3) := by decide +kernel
theorem d_M_isToken_130 : decode b_M_isToken 130 = .ok (.iconst 1, 1) := by decide +kernel
theorem d_M_isToken_131 : decode b_M_isToken 131 = .ok (.goto 4, 3) := by decide +kernel
theorem d_M_isToken_134 : decode b_M_isToken 134 = .ok (.iconst 0, 1) := by decide +kernel
theorem d_M_isToken_135 : decode b_M_isToken 135 = .ok (.ireturn, 1) := by decide +kernel
theorem d_M_isToken_136 : decode b_M_isToken 136 = .ok (.iload_n 0, 1) := by decide +kernel
theorem d_M_isToken_137 : decode b_M_isToken 137 = .ok (.iconst 4, 1) := by decide +kernel
theorem d_M_isToken_138 : decode b_M_isToken 138 = .ok (.bipush 7, 2) := by decide +kernel
theorem d_M_isToken_140 : decode b_M_isToken 140 = .ok (.invokestatic 118, 3) := by decide +kernel
theorem d_M_isToken_143 : decode b_M_isToken 143 = .ok (.ireturn, 1) := by decide +kernel
theorem d_M_pathOfNext_0 : decode b_M_pathOfNext 0 = .ok (.aload_n 0, 1) := by decide +kernel
theorem d_M_pathOfNext_1 : decode b_M_pathOfNext 1 = .ok (.getfield 169, 3) := by decide +kernel
theorem d_M_pathOfNext_4 : decode b_M_pathOfNext 4 = .ok (.iconst 1, 1) := by decide +kernel
theorem d_M_pathOfNext_5 : decode b_M_pathOfNext 5 = .ok (.isub, 1) := by decide +kernel
theorem d_M_pathOfNext_6 : decode b_M_pathOfNext 6 = .ok (.istore_n 1, 1) := by decide +kernel
theorem d_M_pathOfNext_7 : decode b_M_pathOfNext 7 = .ok (.iload_n 1, 1) := by decide +kernel
theorem d_M_pathOfNext_8 : decode b_M_pathOfNext 8 = .ok (.ifCond .lt 45, 3) := by decide +kernel
theorem d_M_pathOfNext_11 : decode b_M_pathOfNext 11 = .ok (.aload_n 0, 1) := by decide +kernel
theorem d_M_pathOfNext_12 : decode b_M_pathOfNext 12 = .ok (.getfield 88, 3) := by decide +kernel
theorem d_M_pathOfNext_15 : decode b_M_pathOfNext 15 = .ok (.iload_n 1, 1) := by decide +kernel
theorem d_M_pathOfNext_16 : decode b_M_pathOfNext 16 = .ok (.iaload, 1) := by decide +kernel
theorem d_M_pathOfNext_17 : decode b_M_pathOfNext 17 = .ok (.ifCond .le 30, 3) := by decide +kernel
theorem d_M_pathOfNext_20 : decode b_M_pathOfNext 20 = .ok (.aload_n 0, 1) := by decide +kernel
theorem d_M_pathOfNext_21 : decode b_M_pathOfNext 21 = .ok (.getfield 73, 3) := by decide +kernel
theorem d_M_pathOfNext_24 : decode b_M_pathOfNext 24 = .ok (.iload_n 1, 1) := by decide +kernel
theorem d_M_pathOfNext_25 : decode b_M_pathOfNext 25 = .ok (.iaload, 1) := by decide +kernel
theorem d_M_pathOfNext_26 : decode b_M_pathOfNext 26 = .ok (.bipush 8, 2) := by decide +kernel
theorem d_M_pathOfNext_28 : decode b_M_pathOfNext 28 = .ok (.if_icmp .ne 12, 3) := by decide +kernel
theorem d_M_pathOfNext_31 : decode b_M_pathOfNext 31 = .ok (.aload_n 0, 1) := by decide +kernel
theorem d_M_pathOfNext_32 : decode b_M_pathOfNext 32 = .ok (.getfield 76, 3) := by decide +kernel
theorem d_M_pathOfNext_35 : decode b_M_pathOfNext 35 = .ok (.iload_n 1, 1) := by decide +kernel
theorem d_M_pathOfNext_36 : decode b_M_pathOfNext 36 = .ok (.iaload, 1) := by decide +kernel
theorem d_M_pathOfNext_37 : decode b_M_pathOfNext 37 = .ok (.goto 9, 3) := by decide +kernel
theorem d_M_pathOfNext_40 : decode b_M_pathOfNext 40 = .ok (.aload_n 0, 1) := by decide +kernel
theorem d_M_pathOfNext_41 : decode b_M_pathOfNext 41 = .ok (.getfield 82, 3) := by decide +kernel
theorem d_M_pathOfNext_44 : decode b_M_pathOfNext 44 = .ok (.iload_n 1, 1) := by decide +kernel
theorem d_M_pathOfNext_45 : decode b_M_pathOfNext 45 = .ok (.iaload, 1) := by decide +kernel
theorem d_M_pathOfNext_46 : decode b_M_pathOfNext 46 = .ok (.ireturn, 1) := by decide +kernel
theorem d_M_pathOfNext_47 : decode b_M_pathOfNext 47 = .ok (.iinc 1 (-1), 3) := by decide +kernel
theorem d_M_pathOfNext_50 : decode b_M_pathOfNext 50 = .ok (.goto (-43), 3) := by decide +kernel
theorem d_M_pathOfNext_53 : decode b_M_pathOfNext 53 = .ok (.iconst 0, 1) := by decide +kernel
theorem d_M_pathOfNext_54 : decode b_M_pathOfNext 54 = .ok (.ireturn, 1) := by decide +kernel
theorem d_M_token_0 : decode b_M_token 0 = .ok (.iload_n 1, 1) := by decide +kernel
theorem d_M_token_1 : decode b_M_token 1 = .ok (.iload_n 2, 1) := by decide +kernel
theorem d_M_token_2 : decode b_M_token 2 = .ok (.iload_n 3, 1) := by decide +kernel
theorem d_M_token_3 : decode b_M_token 3 = .ok (.invokestatic 172, 3) := by decide +kernel
theorem d_M_token_6 : decode b_M_token 6 = .ok (.istore 4, 2) := by decide +kernel
theorem d_M_token_8 : decode b_M_token 8 = .ok (.iload 4, 2) := by decide +kernel
theorem d_M_token_10 : decode b_M_token 10 = .ok (.ifCond .ne 5, 3) := by decide +kernel
theorem d_M_token_13 : decode b_M_token 13 = .ok (.iconst (-1), 1) := by decide +kernel
theorem d_M_token_14 : decode b_M_token 14 = .ok (.ireturn, 1) := by decide +kernel
theorem d_M_token_15 : decode b_M_token 15 = .ok (.aload_n 0, 1) := by decide +kernel
theorem d_M_token_16 : decode b_M_token 16 = .ok (.invokevirtual 175, 3) := by decide +kernel
theorem d_M_token_19 : decode b_M_token 19 = .ok (.istore 5, 2) := by decide +kernel
theorem d_M_token_21 : decode b_M_token 21 = .ok (.aload_n 0, 1) := by decide +kernel
theorem d_M_token_22 : decode b_M_token 22 = .ok (.getfield 97, 3) := by decide +kernel
theorem d_M_token_25 : decode b_M_token 25 = .ok (.ifCond .eq 18, 3) := by decide +kernel
theorem d_M_token_28 : decode b_M_token 28 = .ok (.iload_n 1, 1) := by decide +kernel
theorem d_M_token_29 : decode b_M_token 29 = .ok (.bipush 8, 2) := by decide +kernel
theorem d_M_token_31 : decode b_M_token 31 = .ok (.if_icmp .ne 15, 3) := by decide +kernel
theorem d_M_token_34 : decode b_M_token 34 = .ok (.iload_n 2, 1) := by decide +kernel
theorem d_M_token_35 : decode b_M_token 35 = .ok (.invokestatic 125, 3) := by decide +kernel
theorem d_M_token_38 : decode b_M_token 38 = .ok (.iload 5, 2) := by decide +kernel
theorem d_M_token_40 : decode b_M_token 40 = .ok (.if_icmp .eq 6, 3) := by decide +kernel
theorem d_M_token_43 : decode b_M_token 43 = .ok (.bipush (-2), 2) := by decide +kernel
theorem d_M_token_45 : decode b_M_token 45 = .ok (.ireturn, 1) := by decide +kernel
theorem d_M_token_46 : decode b_M_token 46 = .ok (.aload_n 0, 1) := by decide +kernel
theorem d_M_token_47 : decode b_M_token 47 = .ok (.getfield 169, 3) := by decide +kernel
theorem d_M_token_50 : decode b_M_token 50 = .ok (.bipush 12, 2) := by decide +kernel
theorem d_M_token_52 : decode b_M_token 52 = .ok (.if_icmp .ne 6, 3) := by decide +kernel
theorem d_M_token_55 : decode b_M_token 55 = .ok (.bipush (-3), 2) := by decide +kernel
theorem d_M_token_57 : decode b_M_token 57 = .ok (.ireturn, 1) := by decide +kernel
theorem d_M_token_58 : decode b_M_token 58 = .ok (.iconst 0, 1) := by decide +kernel
theorem d_M_token_59 : decode b_M_token 59 = .ok (.istore 6, 2) := by decide +kernel
theorem d_M_token_61 : decode b_M_token 61 = .ok (.aload_n 0, 1) := by decide +kernel
theorem d_M_token_62 : decode b_M_token 62 = .ok (.getfield 169, 3) := by decide +kernel
theorem d_M_token_65 : decode b_M_token 65 = .ok (.iconst 1, 1) := by decide +kernel
theorem d_M_token_66 : decode b_M_token 66 = .ok (.isub, 1) := by decide +kernel
theorem d_M_token_67 : decode b_M_token 67 = .ok (.istore 7, 2) := by decide +kernel
theorem d_M_token_69 : decode b_M_token 69 = .ok (.iload 7, 2) := by decide +kernel
theorem d_M_token_71 : decode b_M_token 71 = .ok (.ifCond .lt 47, 3) := by decide +kernel
theorem d_M_token_74 : decode b_M_token 74 = .ok (.iload 6, 2) := by decide +kernel
theorem d_M_token_76 : decode b_M_token 76 = .ok (.ifCond .ne 42, 3) := by decide +kernel
theorem d_M_token_79 : decode b_M_token 79 = .ok (.aload_n 0, 1) := by decide +kernel
theorem d_M_token_80 : decode b_M_token 80 = .ok (.getfield 88, 3) := by decide +kernel
theorem d_M_token_83 : decode b_M_token 83 = .ok (.iload 7, 2) := by decide +kernel
theorem d_M_token_85 : decode b_M_token 85 = .ok (.iaload, 1) := by decide +kernel
theorem d_M_token_86 : decode b_M_token 86 = .ok (.ifCond .le 7, 3) := by decide +kernel
theorem d_M_token_89 : decode b_M_token 89 = .ok (.iconst 1, 1) := by decide +kernel
theorem d_M_token_90 : decode b_M_token 90 = .ok (.goto 4, 3) := by decide +kernel
theorem d_M_token_93 : decode b_M_token 93 = .ok (.iconst 0, 1) := by decide +kernel
theorem d_M_token_94 : decode b_M_token 94 = .ok (.istore 6, 2) := by decide +kernel
theorem d_M_token_96 : decode b_M_token 96 = .ok (.iload 6, 2) := by decide +kernel
theorem d_M_token_98 : decode b_M_token 98 = .ok (.ifCond .eq 14, 3) := by decide +kernel
theorem d_M_token_101 : decode b_M_token 101 = .ok (.aload_n 0, 1) := by decide +kernel
theorem d_M_token_102 : decode b_M_token 102 = .ok (.getfield 88, 3) := by decide +kernel
theorem d_M_token_105 : decode b_M_token 105 = .ok (.iload 7, 2) := by decide +kernel
theorem d_M_token_107 : decode b_M_token 107 = .ok (.dup2, 1) := by decide +kernel
theorem d_M_token_108 : decode b_M_token 108 = .ok (.iaload, 1) := by decide +kernel
theorem d_M_token_109 : decode b_M_token 109 = .ok (.iconst 1, 1) := by decide +kernel
theorem d_M_token_110 : decode b_M_token 110 = .ok (.isub, 1) := by decide +kernel
theorem d_M_token_111 : decode b_M_token 111 = .ok (.iastore, 1) := by decide +kernel
theorem d_M_token_112 : decode b_M_token 112 = .ok (.iinc 7 (-1), 3) := by decide +kernel
theorem d_M_token_115 : decode b_M_token 115 = .ok (.goto (-46), 3) := by decide +kernel
theorem d_M_token_118 : decode b_M_token 118 = .ok (.aload_n 0, 1) := by decide +kernel
theorem d_M_token_119 : decode b_M_token 119 = .ok (.getfield 73, 3) := by decide +kernel
theorem d_M_token_122 : decode b_M_token 122 = .ok (.aload_n 0, 1) := by decide +kernel
theorem d_M_token_123 : decode b_M_token 123 = .ok (.getfield 169, 3) := by decide +kernel
theorem d_M_token_126 : decode b_M_token 126 = .ok (.iload_n 1, 1) := by decide +kernel
theorem d_M_token_127 : decode b_M_token 127 = .ok (.iastore, 1) := by decide +kernel
theorem d_M_token_128 : decode b_M_token 128 = .ok (.aload_n 0, 1) := by decide +kernel
theorem d_M_token_129 : decode b_M_token 129 = .ok (.getfield 76, 3) := by decide +kernel
theorem d_M_token_132 : decode b_M_token 132 = .ok (.aload_n 0, 1) := by decide +kernel
theorem d_M_token_133 : decode b_M_token 133 = .ok (.getfield 169, 3) := by decide +kernel
theorem d_M_token_136 : decode b_M_token 136 = .ok (.iload_n 2, 1) := by decide +kernel
theorem d_M_token_137 : decode b_M_token 137 = .ok (.iastore, 1) := by decide +kernel
theorem d_M_token_138 : decode b_M_token 138 = .ok (.aload_n 0, 1) := by decide +kernel
theorem d_M_token_139 : decode b_M_token 139 = .ok (.getfield 79, 3) := by decide +kernel
theorem d_M_token_142 : decode b_M_token 142 = .ok (.aload_n 0, 1) := by decide +kernel
theorem d_M_token_143 : decode b_M_token 143 = .ok (.getfield 169, 3) := by decide +kernel
theorem d_M_token_146 : decode b_M_token 146 = .ok (.iload_n 3, 1) := by decide +kernel
theorem d_M_token_147 : decode b_M_token 147 = .ok (.iastore, 1) := by decide +kernel
theorem d_M_token_148 : decode b_M_token 148 = .ok (.aload_n 0, 1) := by decide +kernel
theorem d_M_token_149 : decode b_M_token 149 = .ok (.getfield 82, 3) := by decide +kernel
theorem d_M_token_152 : decode b_M_token 152 = .ok (.aload_n 0, 1) := by decide +kernel
theorem d_M_token_153 : decode b_M_token 153 = .ok (.getfield 169, 3) := by decide +kernel
theorem d_M_token_156 : decode b_M_token 156 = .ok (.iload 5, 2) := by decide +kernel
theorem d_M_token_158 : decode b_M_token 158 = .ok (.iastore, 1) := by decide +kernel
theorem d_M_token_159 : decode b_M_token 159 = .ok (.aload_n 0, 1) := by decide +kernel
theorem d_M_token_160 : decode b_M_token 160 = .ok (.getfield 88, 3) := by decide +kernel
theorem d_M_token_163 : decode b_M_token 163 = .ok (.aload_n 0, 1) := by decide +kernel
theorem d_M_token_164 : decode b_M_token 164 = .ok (.getfield 169, 3) := by decide +kernel
theorem d_M_token_167 : decode b_M_token 167 = .ok (.iload_n 1, 1) := by decide +kernel
theorem d_M_token_168 : decode b_M_token 168 = .ok (.invokestatic 178, 3) := by decide +kernel
theorem d_M_token_171 : decode b_M_token 171 = .ok (.iastore, 1) := by decide +kernel
theorem d_M_token_172 : decode b_M_token 172 = .ok (.aload_n 0, 1) := by decide +kernel
theorem d_M_token_173 : decode b_M_token 173 = .ok (.dup, 1) := by decide +kernel
theorem d_M_token_174 : decode b_M_token 174 = .ok (.getfield 169, 3) := by decide +kernel
theorem d_M_token_177 : decode b_M_token 177 = .ok (.iconst 1, 1) := by decide +kernel
theorem d_M_token_178 : decode b_M_token 178 = .ok (.iadd, 1) := by decide +kernel
theorem d_M_token_179 : decode b_M_token 179 = .ok (.putfield 169, 3) := by decide +kernel
theorem d_M_token_182 : decode b_M_token 182 = .ok (.aload_n 0, 1) := by decide +kernel
theorem d_M_token_183 : decode b_M_token 183 = .ok (.dup, 1) := by decide +kernel
theorem d_M_token_184 : decode b_M_token 184 = .ok (.getfield 97, 3) := by decide +kernel
theorem d_M_token_187 : decode b_M_token 187 = .ok (.iload_n 1, 1) := by decide +kernel
theorem d_M_token_188 : decode b_M_token 188 = .ok (.invokestatic 178, 3) := by decide +kernel
theorem d_M_token_191 : decode b_M_token 191 = .ok (.iconst 1, 1) := by decide +kernel
theorem d_M_token_192 : decode b_M_token 192 = .ok (.isub, 1) := by decide +kernel
theorem d_M_token_193 : decode b_M_token 193 = .ok (.iadd, 1) := by decide +kernel
theorem d_M_token_194 : decode b_M_token 194 = .ok (.putfield 97, 3) := by decide +kernel
theorem d_M_token_197 : decode b_M_token 197 = .ok (.aload_n 0, 1) := by decide +kernel
theorem d_M_token_198 : decode b_M_token 198 = .ok (.getfield 97, 3) := by decide +kernel
theorem d_M_token_201 : decode b_M_token 201 = .ok (.ireturn, 1) := by decide +kernel
theorem d_M_clear_0 : decode b_M_clear 0 = .ok (.aload_n 0, 1) := by decide +kernel
theorem d_M_clear_1 : decode b_M_clear 1 = .ok (.getfield 169, 3) := by decide +kernel
theorem d_M_clear_4 : decode b_M_clear 4 = .ok (.istore_n 1, 1) := by decide +kernel
theorem d_M_clear_5 : decode b_M_clear 5 = .ok (.aload_n 0, 1) := by decide +kernel
theorem d_M_clear_6 : decode b_M_clear 6 = .ok (.iconst 0, 1) := by decide +kernel
theorem d_M_clear_7 : decode b_M_clear 7 = .ok (.putfield 169, 3) := by decide +kernel
theorem d_M_clear_10 : decode b_M_clear 10 = .ok (.aload_n 0, 1) := by decide +kernel
theorem d_M_clear_11 : decode b_M_clear 11 = .ok (.iconst 1, 1) := by decide +kernel
theorem d_M_clear_12 : decode b_M_clear 12 = .ok (.putfield 97, 3) := by decide +kernel
theorem d_M_clear_15 : decode b_M_clear 15 = .ok (.iload_n 1, 1) := by decide +kernel
theorem d_M_clear_16 : decode b_M_clear 16 = .ok (.ireturn, 1) := by decide +kernel
theorem d_M_isWhole_0 : decode b_M_isWhole 0 = .ok (.aload_n 0, 1) := by decide +kernel
theorem d_M_isWhole_1 : decode b_M_isWhole 1 = .ok (.getfield 169, 3) := by decide +kernel
theorem d_M_isWhole_4 : decode b_M_isWhole 4 = .ok (.ifCond .le 14, 3) := by decide +kernel
theorem d_M_isWhole_7 : decode b_M_isWhole 7 = .ok (.aload_n 0, 1) := by decide +kernel
theorem d_M_isWhole_8 : decode b_M_isWhole 8 = .ok (.getfield 97, 3) := by decide +kernel
theorem d_M_isWhole_11 : decode b_M_isWhole 11 = .ok (.ifCond .ne 7, 3) := by decide +kernel
theorem d_M_isWhole_14 : decode b_M_isWhole 14 = .ok (.iconst 1, 1) := by decide +kernel
theorem d_M_isWhole_15 : decode b_M_isWhole 15 = .ok (.goto 4, 3) := by decide +kernel
theorem d_M_isWhole_18 : decode b_M_isWhole 18 = .ok (.iconst 0, 1) := by decide +kernel
theorem d_M_isWhole_19 : decode b_M_isWhole 19 = .ok (.ireturn, 1) := by decide +kernel
theorem d_M_times_0 : decode b_M_times 0 = .ok (.iconst 0, 1) := by decide +kernel
theorem d_M_times_1 : decode b_M_times 1 = .ok (.istore 4, 2) := by decide +kernel
theorem d_M_times_3 : decode b_M_times 3 = .ok (.iconst 0, 1) := by decide +kernel
theorem d_M_times_4 : decode b_M_times 4 = .ok (.istore 5, 2) := by decide +kernel
theorem d_M_times_6 : decode b_M_times 6 = .ok (.iload 5, 2) := by decide +kernel
theorem d_M_times_8 : decode b_M_times 8 = .ok (.aload_n 0, 1) := by decide +kernel
theorem d_M_times_9 : decode b_M_times 9 = .ok (.getfield 67, 3) := by decide +kernel
theorem d_M_times_12 : decode b_M_times 12 = .ok (.iconst 4, 1) := by decide +kernel
theorem d_M_times_13 : decode b_M_times 13 = .ok (.iload_n 1, 1) := by decide +kernel
theorem d_M_times_14 : decode b_M_times 14 = .ok (.imul, 1) := by decide +kernel
theorem d_M_times_15 : decode b_M_times 15 = .ok (.iload_n 2, 1) := by decide +kernel
theorem d_M_times_16 : decode b_M_times 16 = .ok (.iadd, 1) := by decide +kernel
theorem d_M_times_17 : decode b_M_times 17 = .ok (.iaload, 1) := by decide +kernel
theorem d_M_times_18 : decode b_M_times 18 = .ok (.if_icmp .ge 51, 3) := by decide +kernel
theorem d_M_times_21 : decode b_M_times 21 = .ok (.aload_n 0, 1) := by decide +kernel
theorem d_M_times_22 : decode b_M_times 22 = .ok (.getfield 64, 3) := by decide +kernel
theorem d_M_times_25 : decode b_M_times 25 = .ok (.iconst 4, 1) := by decide +kernel
theorem d_M_times_26 : decode b_M_times 26 = .ok (.iload_n 1, 1) := by decide +kernel
theorem d_M_times_27 : decode b_M_times 27 = .ok (.imul, 1) := by decide +kernel
theorem d_M_times_28 : decode b_M_times 28 = .ok (.iload_n 2, 1) := by decide +kernel
theorem d_M_times_29 : decode b_M_times 29 = .ok (.iadd, 1) := by decide +kernel
theorem d_M_times_30 : decode b_M_times 30 = .ok (.iaload, 1) := by decide +kernel
theorem d_M_times_31 : decode b_M_times 31 = .ok (.iconst 2, 1) := by decide +kernel
theorem d_M_times_32 : decode b_M_times 32 = .ok (.if_icmp .ne 37, 3) := by decide +kernel
theorem d_M_times_35 : decode b_M_times 35 = .ok (.aload_n 0, 1) := by decide +kernel
theorem d_M_times_36 : decode b_M_times 36 = .ok (.getfield 70, 3) := by decide +kernel
theorem d_M_times_39 : decode b_M_times 39 = .ok (.iconst 4, 1) := by decide +kernel
theorem d_M_times_40 : decode b_M_times 40 = .ok (.iload_n 1, 1) := by decide +kernel
theorem d_M_times_41 : decode b_M_times 41 = .ok (.imul, 1) := by decide +kernel
theorem d_M_times_42 : decode b_M_times 42 = .ok (.iload_n 2, 1) := by decide +kernel
theorem d_M_times_43 : decode b_M_times 43 = .ok (.iadd, 1) := by decide +kernel
theorem d_M_times_44 : decode b_M_times 44 = .ok (.laload, 1) := by decide +kernel
theorem d_M_times_45 : decode b_M_times 45 = .ok (.iconst 5, 1) := by decide +kernel
theorem d_M_times_46 : decode b_M_times 46 = .ok (.iload 5, 2) := by decide +kernel
theorem d_M_times_48 : decode b_M_times 48 = .ok (.imul, 1) := by decide +kernel
theorem d_M_times_49 : decode b_M_times 49 = .ok (.lshr, 1) := by decide +kernel
theorem d_M_times_50 : decode b_M_times 50 = .ok (.ldc2_w 181, 3) := by decide +kernel
theorem d_M_times_53 : decode b_M_times 53 = .ok (.land, 1) := by decide +kernel
theorem d_M_times_54 : decode b_M_times 54 = .ok (.iload_n 3, 1) := by decide +kernel
theorem d_M_times_55 : decode b_M_times 55 = .ok (.i2l, 1) := by decide +kernel
theorem d_M_times_56 : decode b_M_times 56 = .ok (.lcmp, 1) := by decide +kernel
theorem d_M_times_57 : decode b_M_times 57 = .ok (.ifCond .ne 6, 3) := by decide +kernel
theorem d_M_times_60 : decode b_M_times 60 = .ok (.iinc 4 1, 3) := by decide +kernel
theorem d_M_times_63 : decode b_M_times 63 = .ok (.iinc 5 1, 3) := by decide +kernel
theorem d_M_times_66 : decode b_M_times 66 = .ok (.goto (-60), 3) := by decide +kernel
theorem d_M_times_69 : decode b_M_times 69 = .ok (.iload 4, 2) := by decide +kernel
theorem d_M_times_71 : decode b_M_times 71 = .ok (.ireturn, 1) := by decide +kernel
theorem d_M_prepare_0 : decode b_M_prepare 0 = .ok (.aload_n 0, 1) := by decide +kernel
theorem d_M_prepare_1 : decode b_M_prepare 1 = .ok (.getfield 169, 3) := by decide +kernel
theorem d_M_prepare_4 : decode b_M_prepare 4 = .ok (.iconst 1, 1) := by decide +kernel
theorem d_M_prepare_5 : decode b_M_prepare 5 = .ok (.isub, 1) := by decide +kernel
theorem d_M_prepare_6 : decode b_M_prepare 6 = .ok (.istore_n 1, 1) := by decide +kernel
theorem d_M_prepare_7 : decode b_M_prepare 7 = .ok (.iload_n 1, 1) := by decide +kernel
theorem d_M_prepare_8 : decode b_M_prepare 8 = .ok (.ifCond .lt 188, 3) := by decide +kernel
theorem d_M_prepare_11 : decode b_M_prepare 11 = .ok (.iload_n 1, 1) := by decide +kernel
theorem d_M_prepare_12 : decode b_M_prepare 12 = .ok (.iconst 1, 1) := by decide +kernel
theorem d_M_prepare_13 : decode b_M_prepare 13 = .ok (.iadd, 1) := by decide +kernel
theorem d_M_prepare_14 : decode b_M_prepare 14 = .ok (.istore_n 2, 1) := by decide +kernel
theorem d_M_prepare_15 : decode b_M_prepare 15 = .ok (.iconst 0, 1) := by decide +kernel
theorem d_M_prepare_16 : decode b_M_prepare 16 = .ok (.istore_n 3, 1) := by decide +kernel
theorem d_M_prepare_17 : decode b_M_prepare 17 = .ok (.iload_n 3, 1) := by decide +kernel
theorem d_M_prepare_18 : decode b_M_prepare 18 = .ok (.aload_n 0, 1) := by decide +kernel
theorem d_M_prepare_19 : decode b_M_prepare 19 = .ok (.getfield 73, 3) := by decide +kernel
theorem d_M_prepare_22 : decode b_M_prepare 22 = .ok (.iload_n 1, 1) := by decide +kernel
theorem d_M_prepare_23 : decode b_M_prepare 23 = .ok (.iaload, 1) := by decide +kernel
theorem d_M_prepare_24 : decode b_M_prepare 24 = .ok (.invokestatic 178, 3) := by decide +kernel
theorem d_M_prepare_27 : decode b_M_prepare 27 = .ok (.if_icmp .ge 16, 3) := by decide +kernel
theorem d_M_prepare_30 : decode b_M_prepare 30 = .ok (.aload_n 0, 1) := by decide +kernel
theorem d_M_prepare_31 : decode b_M_prepare 31 = .ok (.getfield 85, 3) := by decide +kernel
theorem d_M_prepare_34 : decode b_M_prepare 34 = .ok (.iload_n 2, 1) := by decide +kernel
theorem d_M_prepare_35 : decode b_M_prepare 35 = .ok (.iaload, 1) := by decide +kernel
theorem d_M_prepare_36 : decode b_M_prepare 36 = .ok (.istore_n 2, 1) := by decide +kernel
theorem d_M_prepare_37 : decode b_M_prepare 37 = .ok (.iinc 3 1, 3) := by decide +kernel
theorem d_M_prepare_40 : decode b_M_prepare 40 = .ok (.goto (-23), 3) := by decide +kernel
theorem d_M_prepare_43 : decode b_M_prepare 43 = .ok (.aload_n 0, 1) := by decide +kernel
theorem d_M_prepare_44 : decode b_M_prepare 44 = .ok (.getfield 85, 3) := by decide +kernel
theorem d_M_prepare_47 : decode b_M_prepare 47 = .ok (.iload_n 1, 1) := by decide +kernel
theorem d_M_prepare_48 : decode b_M_prepare 48 = .ok (.iload_n 2, 1) := by decide +kernel
theorem d_M_prepare_49 : decode b_M_prepare 49 = .ok (.iastore, 1) := by decide +kernel
theorem d_M_prepare_50 : decode b_M_prepare 50 = .ok (.aload_n 0, 1) := by decide +kernel
theorem d_M_prepare_51 : decode b_M_prepare 51 = .ok (.getfield 91, 3) := by decide +kernel
theorem d_M_prepare_54 : decode b_M_prepare 54 = .ok (.iload_n 1, 1) := by decide +kernel
theorem d_M_prepare_55 : decode b_M_prepare 55 = .ok (.iconst 0, 1) := by decide +kernel
theorem d_M_prepare_56 : decode b_M_prepare 56 = .ok (.iastore, 1) := by decide +kernel
theorem d_M_prepare_57 : decode b_M_prepare 57 = .ok (.aload_n 0, 1) := by decide +kernel
theorem d_M_prepare_58 : decode b_M_prepare 58 = .ok (.getfield 94, 3) := by decide +kernel
theorem d_M_prepare_61 : decode b_M_prepare 61 = .ok (.iload_n 1, 1) := by decide +kernel
theorem d_M_prepare_62 : decode b_M_prepare 62 = .ok (.iconst 0, 1) := by decide +kernel
theorem d_M_prepare_63 : decode b_M_prepare 63 = .ok (.iastore, 1) := by decide +kernel
theorem d_M_prepare_64 : decode b_M_prepare 64 = .ok (.iconst 0, 1) := by decide +kernel
theorem d_M_prepare_65 : decode b_M_prepare 65 = .ok (.istore_n 3, 1) := by decide +kernel
theorem d_M_prepare_66 : decode b_M_prepare 66 = .ok (.iload_n 3, 1) := by decide +kernel
theorem d_M_prepare_67 : decode b_M_prepare 67 = .ok (.aload_n 0, 1) := by decide +kernel
theorem d_M_prepare_68 : decode b_M_prepare 68 = .ok (.getfield 132, 3) := by decide +kernel
theorem d_M_prepare_71 : decode b_M_prepare 71 = .ok (.if_icmp .ge 119, 3) := by decide +kernel
theorem d_M_prepare_74 : decode b_M_prepare 74 = .ok (.aload_n 0, 1) := by decide +kernel
theorem d_M_prepare_75 : decode b_M_prepare 75 = .ok (.getfield 73, 3) := by decide +kernel
theorem d_M_prepare_78 : decode b_M_prepare 78 = .ok (.iload_n 1, 1) := by decide +kernel
theorem d_M_prepare_79 : decode b_M_prepare 79 = .ok (.iaload, 1) := by decide +kernel
theorem d_M_prepare_80 : decode b_M_prepare 80 = .ok (.ifCond .ne 110, 3) := by decide +kernel
theorem d_M_prepare_83 : decode b_M_prepare 83 = .ok (.aload_n 0, 1) := by decide +kernel
theorem d_M_prepare_84 : decode b_M_prepare 84 = .ok (.getfield 36, 3) := by decide +kernel
theorem d_M_prepare_87 : decode b_M_prepare 87 = .ok (.iload_n 3, 1) := by decide +kernel
theorem d_M_prepare_88 : decode b_M_prepare 88 = .ok (.iaload, 1) := by decide +kernel
theorem d_M_prepare_89 : decode b_M_prepare 89 = .ok (.istore 4, 2) := by decide +kernel
theorem d_M_prepare_91 : decode b_M_prepare 91 = .ok (.iload 4, 2) := by decide +kernel
theorem d_M_prepare_93 : decode b_M_prepare 93 = .ok (.aload_n 0, 1) := by decide +kernel
theorem d_M_prepare_94 : decode b_M_prepare 94 = .ok (.getfield 36, 3) := by decide +kernel
theorem d_M_prepare_97 : decode b_M_prepare 97 = .ok (.iload_n 3, 1) := by decide +kernel
theorem d_M_prepare_98 : decode b_M_prepare 98 = .ok (.iaload, 1) := by decide +kernel
theorem d_M_prepare_99 : decode b_M_prepare 99 = .ok (.aload_n 0, 1) := by decide +kernel
theorem d_M_prepare_100 : decode b_M_prepare 100 = .ok (.getfield 39, 3) := by decide +kernel
theorem d_M_prepare_103 : decode b_M_prepare 103 = .ok (.iload_n 3, 1) := by decide +kernel
theorem d_M_prepare_104 : decode b_M_prepare 104 = .ok (.iaload, 1) := by decide +kernel
theorem d_M_prepare_105 : decode b_M_prepare 105 = .ok (.iadd, 1) := by decide +kernel
theorem d_M_prepare_106 : decode b_M_prepare 106 = .ok (.if_icmp .ge 78, 3) := by decide +kernel
theorem d_M_prepare_109 : decode b_M_prepare 109 = .ok (.aload_n 0, 1) := by decide +kernel
theorem d_M_prepare_110 : decode b_M_prepare 110 = .ok (.getfield 48, 3) := by decide +kernel
theorem d_M_prepare_113 : decode b_M_prepare 113 = .ok (.iload_n 3, 1) := by decide +kernel
theorem d_M_prepare_114 : decode b_M_prepare 114 = .ok (.iaload, 1) := by decide +kernel
theorem d_M_prepare_115 : decode b_M_prepare 115 = .ok (.ifCond .lt 69, 3) := by decide +kernel
theorem d_M_prepare_118 : decode b_M_prepare 118 = .ok (.aload_n 0, 1) := by decide +kernel
theorem d_M_prepare_119 : decode b_M_prepare 119 = .ok (.getfield 58, 3) := by decide +kernel
theorem d_M_prepare_122 : decode b_M_prepare 122 = .ok (.iload 4, 2) := by decide +kernel
theorem d_M_prepare_124 : decode b_M_prepare 124 = .ok (.iaload, 1) := by decide +kernel
theorem d_M_prepare_125 : decode b_M_prepare 125 = .ok (.aload_n 0, 1) := by decide +kernel
theorem d_M_prepare_126 : decode b_M_prepare 126 = .ok (.getfield 82, 3) := by decide +kernel
theorem d_M_prepare_129 : decode b_M_prepare 129 = .ok (.iload_n 1, 1) := by decide +kernel
theorem d_M_prepare_130 : decode b_M_prepare 130 = .ok (.iaload, 1) := by decide +kernel
theorem d_M_prepare_131 : decode b_M_prepare 131 = .ok (.if_icmp .eq 6, 3) := by decide +kernel
theorem d_M_prepare_134 : decode b_M_prepare 134 = .ok (.goto 44, 3) := by decide +kernel
theorem d_M_prepare_137 : decode b_M_prepare 137 = .ok (.aload_n 0, 1) := by decide +kernel
theorem d_M_prepare_138 : decode b_M_prepare 138 = .ok (.getfield 91, 3) := by decide +kernel
theorem d_M_prepare_141 : decode b_M_prepare 141 = .ok (.iload_n 1, 1) := by decide +kernel
theorem d_M_prepare_142 : decode b_M_prepare 142 = .ok (.dup2, 1) := by decide +kernel
theorem d_M_prepare_143 : decode b_M_prepare 143 = .ok (.iaload, 1) := by decide +kernel
theorem d_M_prepare_144 : decode b_M_prepare 144 = .ok (.iconst 1, 1) := by decide +kernel
theorem d_M_prepare_145 : decode b_M_prepare 145 = .ok (.iadd, 1) := by decide +kernel
theorem d_M_prepare_146 : decode b_M_prepare 146 = .ok (.iastore, 1) := by decide +kernel
theorem d_M_prepare_147 : decode b_M_prepare 147 = .ok (.aload_n 0, 1) := by decide +kernel
theorem d_M_prepare_148 : decode b_M_prepare 148 = .ok (.iload 4, 2) := by decide +kernel
theorem d_M_prepare_150 : decode b_M_prepare 150 = .ok (.aload_n 0, 1) := by decide +kernel
theorem d_M_prepare_151 : decode b_M_prepare 151 = .ok (.getfield 76, 3) := by decide +kernel
theorem d_M_prepare_154 : decode b_M_prepare 154 = .ok (.iload_n 1, 1) := by decide +kernel
theorem d_M_prepare_155 : decode b_M_prepare 155 = .ok (.iaload, 1) := by decide +kernel
theorem d_M_prepare_156 : decode b_M_prepare 156 = .ok (.aload_n 0, 1) := by decide +kernel
theorem d_M_prepare_157 : decode b_M_prepare 157 = .ok (.getfield 79, 3) := by decide +kernel
theorem d_M_prepare_160 : decode b_M_prepare 160 = .ok (.iload_n 1, 1) := by decide +kernel
theorem d_M_prepare_161 : decode b_M_prepare 161 = .ok (.iaload, 1) := by decide +kernel
theorem d_M_prepare_162 : decode b_M_prepare 162 = .ok (.invokevirtual 183, 3) := by decide +kernel
theorem d_M_prepare_165 : decode b_M_prepare 165 = .ok (.ifCond .le 13, 3) := by decide +kernel
theorem d_M_prepare_168 : decode b_M_prepare 168 = .ok (.aload_n 0, 1) := by decide +kernel
theorem d_M_prepare_169 : decode b_M_prepare 169 = .ok (.getfield 94, 3) := by decide +kernel
theorem d_M_prepare_172 : decode b_M_prepare 172 = .ok (.iload_n 1, 1) := by decide +kernel
theorem d_M_prepare_173 : decode b_M_prepare 173 = .ok (.dup2, 1) := by decide +kernel
theorem d_M_prepare_174 : decode b_M_prepare 174 = .ok (.iaload, 1) := by decide +kernel
theorem d_M_prepare_175 : decode b_M_prepare 175 = .ok (.iconst 1, 1) := by decide +kernel
theorem d_M_prepare_176 : decode b_M_prepare 176 = .ok (.iadd, 1) := by decide +kernel
theorem d_M_prepare_177 : decode b_M_prepare 177 = .ok (.iastore, 1) := by decide +kernel
theorem d_M_prepare_178 : decode b_M_prepare 178 = .ok (.iinc 4 1, 3) := by decide +kernel
theorem d_M_prepare_181 : decode b_M_prepare 181 = .ok (.goto (-90), 3) := by decide +kernel
theorem d_M_prepare_184 : decode b_M_prepare 184 = .ok (.iinc 3 1, 3) := by decide +kernel
theorem d_M_prepare_187 : decode b_M_prepare 187 = .ok (.goto (-121), 3) := by decide +kernel
theorem d_M_prepare_190 : decode b_M_prepare 190 = .ok (.iinc 1 (-1), 3) := by decide +kernel
theorem d_M_prepare_193 : decode b_M_prepare 193 = .ok (.goto (-186), 3) := by decide +kernel
theorem d_M_prepare_196 : decode b_M_prepare 196 = .ok (.return_, 1) := by decide +kernel
theorem d_M_set_0 : decode b_M_set 0 = .ok (.aload_n 0, 1) := by decide +kernel
theorem d_M_set_1 : decode b_M_set 1 = .ok (.getfield 100, 3) := by decide +kernel
theorem d_M_set_4 : decode b_M_set 4 = .ok (.bipush 10, 2) := by decide +kernel
theorem d_M_set_6 : decode b_M_set 6 = .ok (.iload_n 1, 1) := by decide +kernel
theorem d_M_set_7 : decode b_M_set 7 = .ok (.imul, 1) := by decide +kernel
theorem d_M_set_8 : decode b_M_set 8 = .ok (.iload_n 2, 1) := by decide +kernel
theorem d_M_set_9 : decode b_M_set 9 = .ok (.iadd, 1) := by decide +kernel
theorem d_M_set_10 : decode b_M_set 10 = .ok (.iload_n 3, 1) := by decide +kernel
theorem d_M_set_11 : decode b_M_set 11 = .ok (.bastore, 1) := by decide +kernel
theorem d_M_set_12 : decode b_M_set 12 = .ok (.aload_n 0, 1) := by decide +kernel
theorem d_M_set_13 : decode b_M_set 13 = .ok (.getfield 103, 3) := by decide +kernel
theorem d_M_set_16 : decode b_M_set 16 = .ok (.bipush 10, 2) := by decide +kernel
theorem d_M_set_18 : decode b_M_set 18 = .ok (.iload_n 1, 1) := by decide +kernel
theorem d_M_set_19 : decode b_M_set 19 = .ok (.imul, 1) := by decide +kernel
theorem d_M_set_20 : decode b_M_set 20 = .ok (.iload_n 2, 1) := by decide +kernel
theorem d_M_set_21 : decode b_M_set 21 = .ok (.iadd, 1) := by decide +kernel
theorem d_M_set_22 : decode b_M_set 22 = .ok (.iload_n 3, 1) := by decide +kernel
theorem d_M_set_23 : decode b_M_set 23 = .ok (.ifCond .eq 8, 3) := by decide +kernel
theorem d_M_set_26 : decode b_M_set 26 = .ok (.iload 4, 2) := by decide +kernel
theorem d_M_set_28 : decode b_M_set 28 = .ok (.goto 4, 3) := by decide +kernel
theorem d_M_set_31 : decode b_M_set 31 = .ok (.iconst 0, 1) := by decide +kernel
theorem d_M_set_32 : decode b_M_set 32 = .ok (.iastore, 1) := by decide +kernel
theorem d_M_set_33 : decode b_M_set 33 = .ok (.return_, 1) := by decide +kernel
theorem d_M_nest_0 : decode b_M_nest 0 = .ok (.iconst 0, 1) := by decide +kernel
theorem d_M_nest_1 : decode b_M_nest 1 = .ok (.istore 4, 2) := by decide +kernel
theorem d_M_nest_3 : decode b_M_nest 3 = .ok (.iconst 0, 1) := by decide +kernel
theorem d_M_nest_4 : decode b_M_nest 4 = .ok (.istore 5, 2) := by decide +kernel
theorem d_M_nest_6 : decode b_M_nest 6 = .ok (.iconst 0, 1) := by decide +kernel
theorem d_M_nest_7 : decode b_M_nest 7 = .ok (.istore 6, 2) := by decide +kernel
theorem d_M_nest_9 : decode b_M_nest 9 = .ok (.iconst 0, 1) := by decide +kernel
theorem d_M_nest_10 : decode b_M_nest 10 = .ok (.istore 7, 2) := by decide +kernel
theorem d_M_nest_12 : decode b_M_nest 12 = .ok (.iconst 0, 1) := by decide +kernel
theorem d_M_nest_13 : decode b_M_nest 13 = .ok (.istore 8, 2) := by decide +kernel
theorem d_M_nest_15 : decode b_M_nest 15 = .ok (.iload 8, 2) := by decide +kernel
theorem d_M_nest_17 : decode b_M_nest 17 = .ok (.aload_n 0, 1) := by decide +kernel
theorem d_M_nest_18 : decode b_M_nest 18 = .ok (.getfield 39, 3) := by decide +kernel
theorem d_M_nest_21 : decode b_M_nest 21 = .ok (.iload_n 1, 1) := by decide +kernel
theorem d_M_nest_22 : decode b_M_nest 22 = .ok (.iaload, 1) := by decide +kernel
theorem d_M_nest_23 : decode b_M_nest 23 = .ok (.if_icmp .ge 128, 3) := by decide +kernel
theorem d_M_nest_26 : decode b_M_nest 26 = .ok (.aload_n 0, 1) := by decide +kernel
theorem d_M_nest_27 : decode b_M_nest 27 = .ok (.getfield 61, 3) := by decide +kernel
theorem d_M_nest_30 : decode b_M_nest 30 = .ok (.aload_n 0, 1) := by decide +kernel
theorem d_M_nest_31 : decode b_M_nest 31 = .ok (.getfield 36, 3) := by decide +kernel
theorem d_M_nest_34 : decode b_M_nest 34 = .ok (.iload_n 1, 1) := by decide +kernel
theorem d_M_nest_35 : decode b_M_nest 35 = .ok (.iaload, 1) := by decide +kernel
theorem d_M_nest_36 : decode b_M_nest 36 = .ok (.iload 8, 2) := by decide +kernel
theorem d_M_nest_38 : decode b_M_nest 38 = .ok (.iadd, 1) := by decide +kernel
theorem d_M_nest_39 : decode b_M_nest 39 = .ok (.iaload, 1) := by decide +kernel
theorem d_M_nest_40 : decode b_M_nest 40 = .ok (.iload_n 3, 1) := by decide +kernel
theorem d_M_nest_41 : decode b_M_nest 41 = .ok (.if_icmp .ne 104, 3) := by decide +kernel
theorem d_M_nest_44 : decode b_M_nest 44 = .ok (.aload_n 0, 1) := by decide +kernel
theorem d_M_nest_45 : decode b_M_nest 45 = .ok (.getfield 58, 3) := by decide +kernel
theorem d_M_nest_48 : decode b_M_nest 48 = .ok (.aload_n 0, 1) := by decide +kernel
theorem d_M_nest_49 : decode b_M_nest 49 = .ok (.getfield 36, 3) := by decide +kernel
theorem d_M_nest_52 : decode b_M_nest 52 = .ok (.iload_n 1, 1) := by decide +kernel
theorem d_M_nest_53 : decode b_M_nest 53 = .ok (.iaload, 1) := by decide +kernel
theorem d_M_nest_54 : decode b_M_nest 54 = .ok (.iload 8, 2) := by decide +kernel
theorem d_M_nest_56 : decode b_M_nest 56 = .ok (.iadd, 1) := by decide +kernel
theorem d_M_nest_57 : decode b_M_nest 57 = .ok (.iaload, 1) := by decide +kernel
theorem d_M_nest_58 : decode b_M_nest 58 = .ok (.aload_n 0, 1) := by decide +kernel
theorem d_M_nest_59 : decode b_M_nest 59 = .ok (.getfield 76, 3) := by decide +kernel
theorem d_M_nest_62 : decode b_M_nest 62 = .ok (.iload_n 2, 1) := by decide +kernel
theorem d_M_nest_63 : decode b_M_nest 63 = .ok (.iaload, 1) := by decide +kernel
theorem d_M_nest_64 : decode b_M_nest 64 = .ok (.if_icmp .ne 81, 3) := by decide +kernel
theorem d_M_nest_67 : decode b_M_nest 67 = .ok (.aload_n 0, 1) := by decide +kernel
theorem d_M_nest_68 : decode b_M_nest 68 = .ok (.getfield 100, 3) := by decide +kernel
theorem d_M_nest_71 : decode b_M_nest 71 = .ok (.bipush 10, 2) := by decide +kernel
theorem d_M_nest_73 : decode b_M_nest 73 = .ok (.iload_n 2, 1) := by decide +kernel
theorem d_M_nest_74 : decode b_M_nest 74 = .ok (.iconst 1, 1) := by decide +kernel
theorem d_M_nest_75 : decode b_M_nest 75 = .ok (.iadd, 1) := by decide +kernel
theorem d_M_nest_76 : decode b_M_nest 76 = .ok (.imul, 1) := by decide +kernel
theorem d_M_nest_77 : decode b_M_nest 77 = .ok (.iload 8, 2) := by decide +kernel
theorem d_M_nest_79 : decode b_M_nest 79 = .ok (.iadd, 1) := by decide +kernel
theorem d_M_nest_80 : decode b_M_nest 80 = .ok (.baload, 1) := by decide +kernel
theorem d_M_nest_81 : decode b_M_nest 81 = .ok (.ifCond .ne 6, 3) := by decide +kernel
theorem d_M_nest_84 : decode b_M_nest 84 = .ok (.goto 61, 3) := by decide +kernel
theorem d_M_nest_87 : decode b_M_nest 87 = .ok (.aload_n 0, 1) := by decide +kernel
theorem d_M_nest_88 : decode b_M_nest 88 = .ok (.getfield 103, 3) := by decide +kernel
theorem d_M_nest_91 : decode b_M_nest 91 = .ok (.bipush 10, 2) := by decide +kernel
theorem d_M_nest_93 : decode b_M_nest 93 = .ok (.iload_n 2, 1) := by decide +kernel
theorem d_M_nest_94 : decode b_M_nest 94 = .ok (.iconst 1, 1) := by decide +kernel
theorem d_M_nest_95 : decode b_M_nest 95 = .ok (.iadd, 1) := by decide +kernel
theorem d_M_nest_96 : decode b_M_nest 96 = .ok (.imul, 1) := by decide +kernel
theorem d_M_nest_97 : decode b_M_nest 97 = .ok (.iload 8, 2) := by decide +kernel
theorem d_M_nest_99 : decode b_M_nest 99 = .ok (.iadd, 1) := by decide +kernel
theorem d_M_nest_100 : decode b_M_nest 100 = .ok (.iaload, 1) := by decide +kernel
theorem d_M_nest_101 : decode b_M_nest 101 = .ok (.istore 9, 2) := by decide +kernel
theorem d_M_nest_103 : decode b_M_nest 103 = .ok (.iload 4, 2) := by decide +kernel
theorem d_M_nest_105 : decode b_M_nest 105 = .ok (.ifCond .eq 10, 3) := by decide +kernel
theorem d_M_nest_108 : decode b_M_nest 108 = .ok (.iload 9, 2) := by decide +kernel
theorem d_M_nest_110 : decode b_M_nest 110 = .ok (.iload 6, 2) := by decide +kernel
theorem d_M_nest_112 : decode b_M_nest 112 = .ok (.if_icmp .ge 7, 3) := by decide +kernel
theorem d_M_nest_115 : decode b_M_nest 115 = .ok (.iload 9, 2) := by decide +kernel
theorem d_M_nest_117 : decode b_M_nest 117 = .ok (.istore 6, 2) := by decide +kernel
theorem d_M_nest_119 : decode b_M_nest 119 = .ok (.iload 4, 2) := by decide +kernel
theorem d_M_nest_121 : decode b_M_nest 121 = .ok (.ifCond .eq 10, 3) := by decide +kernel
theorem d_M_nest_124 : decode b_M_nest 124 = .ok (.iload 9, 2) := by decide +kernel
theorem d_M_nest_126 : decode b_M_nest 126 = .ok (.iload 7, 2) := by decide +kernel
theorem d_M_nest_128 : decode b_M_nest 128 = .ok (.if_icmp .le 7, 3) := by decide +kernel
theorem d_M_nest_131 : decode b_M_nest 131 = .ok (.iload 9, 2) := by decide +kernel
theorem d_M_nest_133 : decode b_M_nest 133 = .ok (.istore 7, 2) := by decide +kernel
theorem d_M_nest_135 : decode b_M_nest 135 = .ok (.iload 5, 2) := by decide +kernel
theorem d_M_nest_137 : decode b_M_nest 137 = .ok (.iload 9, 2) := by decide +kernel
theorem d_M_nest_139 : decode b_M_nest 139 = .ok (.iadd, 1) := by decide +kernel
theorem d_M_nest_140 : decode b_M_nest 140 = .ok (.istore 5, 2) := by decide +kernel
theorem d_M_nest_142 : decode b_M_nest 142 = .ok (.iinc 4 1, 3) := by decide +kernel
theorem d_M_nest_145 : decode b_M_nest 145 = .ok (.iinc 8 1, 3) := by decide +kernel
theorem d_M_nest_148 : decode b_M_nest 148 = .ok (.goto (-133), 3) := by decide +kernel
theorem d_M_nest_151 : decode b_M_nest 151 = .ok (.aload_n 0, 1) := by decide +kernel
theorem d_M_nest_152 : decode b_M_nest 152 = .ok (.getfield 79, 3) := by decide +kernel
theorem d_M_nest_155 : decode b_M_nest 155 = .ok (.iload_n 2, 1) := by decide +kernel
theorem d_M_nest_156 : decode b_M_nest 156 = .ok (.iaload, 1) := by decide +kernel
theorem d_M_nest_157 : decode b_M_nest 157 = .ok (.istore 8, 2) := by decide +kernel
theorem d_M_nest_159 : decode b_M_nest 159 = .ok (.iload 8, 2) := by decide +kernel
theorem d_M_nest_161 : decode b_M_nest 161 = .ok (.iconst 1, 1) := by decide +kernel
theorem d_M_nest_162 : decode b_M_nest 162 = .ok (.if_icmp .ne 8, 3) := by decide +kernel
theorem d_M_nest_165 : decode b_M_nest 165 = .ok (.iload 5, 2) := by decide +kernel
theorem d_M_nest_167 : decode b_M_nest 167 = .ok (.goto 45, 3) := by decide +kernel
theorem d_M_nest_170 : decode b_M_nest 170 = .ok (.iload 8, 2) := by decide +kernel
theorem d_M_nest_172 : decode b_M_nest 172 = .ok (.iconst 2, 1) := by decide +kernel
theorem d_M_nest_173 : decode b_M_nest 173 = .ok (.if_icmp .ne 16, 3) := by decide +kernel
theorem d_M_nest_176 : decode b_M_nest 176 = .ok (.iload 4, 2) := by decide +kernel
theorem d_M_nest_178 : decode b_M_nest 178 = .ok (.ifCond .le 11, 3) := by decide +kernel
theorem d_M_nest_181 : decode b_M_nest 181 = .ok (.iload 5, 2) := by decide +kernel
theorem d_M_nest_183 : decode b_M_nest 183 = .ok (.iload 4, 2) := by decide +kernel
theorem d_M_nest_185 : decode b_M_nest 185 = .ok (.idiv, 1) := by decide +kernel
theorem d_M_nest_186 : decode b_M_nest 186 = .ok (.goto 26, 3) := by decide +kernel
theorem d_M_nest_189 : decode b_M_nest 189 = .ok (.iload 8, 2) := by decide +kernel
theorem d_M_nest_191 : decode b_M_nest 191 = .ok (.iconst 3, 1) := by decide +kernel
theorem d_M_nest_192 : decode b_M_nest 192 = .ok (.if_icmp .ne 8, 3) := by decide +kernel
theorem d_M_nest_195 : decode b_M_nest 195 = .ok (.iload 6, 2) := by decide +kernel
theorem d_M_nest_197 : decode b_M_nest 197 = .ok (.goto 15, 3) := by decide +kernel
theorem d_M_nest_200 : decode b_M_nest 200 = .ok (.iload 8, 2) := by decide +kernel
theorem d_M_nest_202 : decode b_M_nest 202 = .ok (.iconst 4, 1) := by decide +kernel
theorem d_M_nest_203 : decode b_M_nest 203 = .ok (.if_icmp .ne 8, 3) := by decide +kernel
theorem d_M_nest_206 : decode b_M_nest 206 = .ok (.iload 7, 2) := by decide +kernel
theorem d_M_nest_208 : decode b_M_nest 208 = .ok (.goto 4, 3) := by decide +kernel
theorem d_M_nest_211 : decode b_M_nest 211 = .ok (.iconst 0, 1) := by decide +kernel
theorem d_M_nest_212 : decode b_M_nest 212 = .ok (.istore 9, 2) := by decide +kernel
theorem d_M_nest_214 : decode b_M_nest 214 = .ok (.aload_n 0, 1) := by decide +kernel
theorem d_M_nest_215 : decode b_M_nest 215 = .ok (.iload_n 2, 1) := by decide +kernel
theorem d_M_nest_216 : decode b_M_nest 216 = .ok (.iload_n 3, 1) := by decide +kernel
theorem d_M_nest_217 : decode b_M_nest 217 = .ok (.iload 4, 2) := by decide +kernel
theorem d_M_nest_219 : decode b_M_nest 219 = .ok (.ifCond .le 7, 3) := by decide +kernel
theorem d_M_nest_222 : decode b_M_nest 222 = .ok (.iconst 1, 1) := by decide +kernel
theorem d_M_nest_223 : decode b_M_nest 223 = .ok (.goto 4, 3) := by decide +kernel
theorem d_M_nest_226 : decode b_M_nest 226 = .ok (.iconst 0, 1) := by decide +kernel
theorem d_M_nest_227 : decode b_M_nest 227 = .ok (.iload 9, 2) := by decide +kernel
theorem d_M_nest_229 : decode b_M_nest 229 = .ok (.invokevirtual 187, 3) := by decide +kernel
theorem d_M_nest_232 : decode b_M_nest 232 = .ok (.return_, 1) := by decide +kernel
theorem d_M_look_0 : decode b_M_look 0 = .ok (.aload_n 0, 1) := by decide +kernel
theorem d_M_look_1 : decode b_M_look 1 = .ok (.getfield 36, 3) := by decide +kernel
theorem d_M_look_4 : decode b_M_look 4 = .ok (.iload_n 1, 1) := by decide +kernel
theorem d_M_look_5 : decode b_M_look 5 = .ok (.iaload, 1) := by decide +kernel
theorem d_M_look_6 : decode b_M_look 6 = .ok (.iload_n 3, 1) := by decide +kernel
theorem d_M_look_7 : decode b_M_look 7 = .ok (.iadd, 1) := by decide +kernel
theorem d_M_look_8 : decode b_M_look 8 = .ok (.istore 4, 2) := by decide +kernel
theorem d_M_look_10 : decode b_M_look 10 = .ok (.iconst 4, 1) := by decide +kernel
theorem d_M_look_11 : decode b_M_look 11 = .ok (.iload 4, 2) := by decide +kernel
theorem d_M_look_13 : decode b_M_look 13 = .ok (.imul, 1) := by decide +kernel
theorem d_M_look_14 : decode b_M_look 14 = .ok (.aload_n 0, 1) := by decide +kernel
theorem d_M_look_15 : decode b_M_look 15 = .ok (.getfield 76, 3) := by decide +kernel
theorem d_M_look_18 : decode b_M_look 18 = .ok (.iload_n 2, 1) := by decide +kernel
theorem d_M_look_19 : decode b_M_look 19 = .ok (.iaload, 1) := by decide +kernel
theorem d_M_look_20 : decode b_M_look 20 = .ok (.iadd, 1) := by decide +kernel
theorem d_M_look_21 : decode b_M_look 21 = .ok (.istore 5, 2) := by decide +kernel
theorem d_M_look_23 : decode b_M_look 23 = .ok (.bipush 10, 2) := by decide +kernel
theorem d_M_look_25 : decode b_M_look 25 = .ok (.iload_n 2, 1) := by decide +kernel
theorem d_M_look_26 : decode b_M_look 26 = .ok (.iconst 1, 1) := by decide +kernel
theorem d_M_look_27 : decode b_M_look 27 = .ok (.iadd, 1) := by decide +kernel
theorem d_M_look_28 : decode b_M_look 28 = .ok (.imul, 1) := by decide +kernel
theorem d_M_look_29 : decode b_M_look 29 = .ok (.iload_n 3, 1) := by decide +kernel
theorem d_M_look_30 : decode b_M_look 30 = .ok (.iadd, 1) := by decide +kernel
theorem d_M_look_31 : decode b_M_look 31 = .ok (.istore 6, 2) := by decide +kernel
theorem d_M_look_33 : decode b_M_look 33 = .ok (.bipush 10, 2) := by decide +kernel
theorem d_M_look_35 : decode b_M_look 35 = .ok (.aload_n 0, 1) := by decide +kernel
theorem d_M_look_36 : decode b_M_look 36 = .ok (.getfield 73, 3) := by decide +kernel
theorem d_M_look_39 : decode b_M_look 39 = .ok (.iload_n 2, 1) := by decide +kernel
theorem d_M_look_40 : decode b_M_look 40 = .ok (.iaload, 1) := by decide +kernel
theorem d_M_look_41 : decode b_M_look 41 = .ok (.invokestatic 178, 3) := by decide +kernel
theorem d_M_look_44 : decode b_M_look 44 = .ok (.iconst 2, 1) := by decide +kernel
theorem d_M_look_45 : decode b_M_look 45 = .ok (.if_icmp .ne 14, 3) := by decide +kernel
theorem d_M_look_48 : decode b_M_look 48 = .ok (.aload_n 0, 1) := by decide +kernel
theorem d_M_look_49 : decode b_M_look 49 = .ok (.getfield 85, 3) := by decide +kernel
theorem d_M_look_52 : decode b_M_look 52 = .ok (.iload_n 2, 1) := by decide +kernel
theorem d_M_look_53 : decode b_M_look 53 = .ok (.iconst 1, 1) := by decide +kernel
theorem d_M_look_54 : decode b_M_look 54 = .ok (.iadd, 1) := by decide +kernel
theorem d_M_look_55 : decode b_M_look 55 = .ok (.iaload, 1) := by decide +kernel
theorem d_M_look_56 : decode b_M_look 56 = .ok (.goto 4, 3) := by decide +kernel
theorem d_M_look_59 : decode b_M_look 59 = .ok (.iconst 0, 1) := by decide +kernel
theorem d_M_look_60 : decode b_M_look 60 = .ok (.imul, 1) := by decide +kernel
theorem d_M_look_61 : decode b_M_look 61 = .ok (.iload_n 3, 1) := by decide +kernel
theorem d_M_look_62 : decode b_M_look 62 = .ok (.iadd, 1) := by decide +kernel
theorem d_M_look_63 : decode b_M_look 63 = .ok (.istore 7, 2) := by decide +kernel
theorem d_M_look_65 : decode b_M_look 65 = .ok (.aload_n 0, 1) := by decide +kernel
theorem d_M_look_66 : decode b_M_look 66 = .ok (.getfield 73, 3) := by decide +kernel
theorem d_M_look_69 : decode b_M_look 69 = .ok (.iload_n 2, 1) := by decide +kernel
theorem d_M_look_70 : decode b_M_look 70 = .ok (.iaload, 1) := by decide +kernel
theorem d_M_look_71 : decode b_M_look 71 = .ok (.tableswitch 354 0 7 #[45, 111, 153, 195, 220, 231, 280, 329], 45) := by decide +kernel
theorem d_M_look_116 : decode b_M_look 116 = .ok (.aload_n 0, 1) := by decide +kernel
theorem d_M_look_117 : decode b_M_look 117 = .ok (.iload 4, 2) := by decide +kernel
theorem d_M_look_119 : decode b_M_look 119 = .ok (.aload_n 0, 1) := by decide +kernel
theorem d_M_look_120 : decode b_M_look 120 = .ok (.getfield 76, 3) := by decide +kernel
theorem d_M_look_123 : decode b_M_look 123 = .ok (.iload_n 2, 1) := by decide +kernel
theorem d_M_look_124 : decode b_M_look 124 = .ok (.iaload, 1) := by decide +kernel
theorem d_M_look_125 : decode b_M_look 125 = .ok (.aload_n 0, 1) := by decide +kernel
theorem d_M_look_126 : decode b_M_look 126 = .ok (.getfield 79, 3) := by decide +kernel
theorem d_M_look_129 : decode b_M_look 129 = .ok (.iload_n 2, 1) := by decide +kernel
theorem d_M_look_130 : decode b_M_look 130 = .ok (.iaload, 1) := by decide +kernel
theorem d_M_look_131 : decode b_M_look 131 = .ok (.invokevirtual 183, 3) := by decide +kernel
theorem d_M_look_134 : decode b_M_look 134 = .ok (.istore 8, 2) := by decide +kernel
theorem d_M_look_136 : decode b_M_look 136 = .ok (.aload_n 0, 1) := by decide +kernel
theorem d_M_look_137 : decode b_M_look 137 = .ok (.iload_n 2, 1) := by decide +kernel
theorem d_M_look_138 : decode b_M_look 138 = .ok (.iload_n 3, 1) := by decide +kernel
theorem d_M_look_139 : decode b_M_look 139 = .ok (.iload 8, 2) := by decide +kernel
theorem d_M_look_141 : decode b_M_look 141 = .ok (.ifCond .le 7, 3) := by decide +kernel
theorem d_M_look_144 : decode b_M_look 144 = .ok (.iconst 1, 1) := by decide +kernel
theorem d_M_look_145 : decode b_M_look 145 = .ok (.goto 4, 3) := by decide +kernel
theorem d_M_look_148 : decode b_M_look 148 = .ok (.iconst 0, 1) := by decide +kernel
theorem d_M_look_149 : decode b_M_look 149 = .ok (.iload 8, 2) := by decide +kernel
theorem d_M_look_151 : decode b_M_look 151 = .ok (.ifCond .ne 7, 3) := by decide +kernel
theorem d_M_look_154 : decode b_M_look 154 = .ok (.iconst 0, 1) := by decide +kernel
theorem d_M_look_155 : decode b_M_look 155 = .ok (.goto 21, 3) := by decide +kernel
theorem d_M_look_158 : decode b_M_look 158 = .ok (.iload 8, 2) := by decide +kernel
theorem d_M_look_160 : decode b_M_look 160 = .ok (.iconst 1, 1) := by decide +kernel
theorem d_M_look_161 : decode b_M_look 161 = .ok (.aload_n 0, 1) := by decide +kernel
theorem d_M_look_162 : decode b_M_look 162 = .ok (.getfield 91, 3) := by decide +kernel
theorem d_M_look_165 : decode b_M_look 165 = .ok (.iload_n 2, 1) := by decide +kernel
theorem d_M_look_166 : decode b_M_look 166 = .ok (.iaload, 1) := by decide +kernel
theorem d_M_look_167 : decode b_M_look 167 = .ok (.aload_n 0, 1) := by decide +kernel
theorem d_M_look_168 : decode b_M_look 168 = .ok (.getfield 94, 3) := by decide +kernel
theorem d_M_look_171 : decode b_M_look 171 = .ok (.iload_n 2, 1) := by decide +kernel
theorem d_M_look_172 : decode b_M_look 172 = .ok (.iaload, 1) := by decide +kernel
theorem d_M_look_173 : decode b_M_look 173 = .ok (.idiv, 1) := by decide +kernel
theorem d_M_look_174 : decode b_M_look 174 = .ok (.iadd, 1) := by decide +kernel
theorem d_M_look_175 : decode b_M_look 175 = .ok (.imul, 1) := by decide +kernel
theorem d_M_look_176 : decode b_M_look 176 = .ok (.invokevirtual 187, 3) := by decide +kernel
theorem d_M_look_179 : decode b_M_look 179 = .ok (.goto 253, 3) := by decide +kernel
theorem d_M_look_182 : decode b_M_look 182 = .ok (.aload_n 0, 1) := by decide +kernel
theorem d_M_look_183 : decode b_M_look 183 = .ok (.iload_n 2, 1) := by decide +kernel
theorem d_M_look_184 : decode b_M_look 184 = .ok (.iload_n 3, 1) := by decide +kernel
theorem d_M_look_185 : decode b_M_look 185 = .ok (.aload_n 0, 1) := by decide +kernel
theorem d_M_look_186 : decode b_M_look 186 = .ok (.getfield 64, 3) := by decide +kernel
theorem d_M_look_189 : decode b_M_look 189 = .ok (.iload 5, 2) := by decide +kernel
theorem d_M_look_191 : decode b_M_look 191 = .ok (.iaload, 1) := by decide +kernel
theorem d_M_look_192 : decode b_M_look 192 = .ok (.iconst 1, 1) := by decide +kernel
theorem d_M_look_193 : decode b_M_look 193 = .ok (.if_icmp .ne 23, 3) := by decide +kernel
theorem d_M_look_196 : decode b_M_look 196 = .ok (.aload_n 0, 1) := by decide +kernel
theorem d_M_look_197 : decode b_M_look 197 = .ok (.getfield 67, 3) := by decide +kernel
theorem d_M_look_200 : decode b_M_look 200 = .ok (.iload 5, 2) := by decide +kernel
theorem d_M_look_202 : decode b_M_look 202 = .ok (.iaload, 1) := by decide +kernel
theorem d_M_look_203 : decode b_M_look 203 = .ok (.aload_n 0, 1) := by decide +kernel
theorem d_M_look_204 : decode b_M_look 204 = .ok (.getfield 79, 3) := by decide +kernel
theorem d_M_look_207 : decode b_M_look 207 = .ok (.iload_n 2, 1) := by decide +kernel
theorem d_M_look_208 : decode b_M_look 208 = .ok (.iaload, 1) := by decide +kernel
theorem d_M_look_209 : decode b_M_look 209 = .ok (.if_icmp .lt 7, 3) := by decide +kernel
theorem d_M_look_212 : decode b_M_look 212 = .ok (.iconst 1, 1) := by decide +kernel
theorem d_M_look_213 : decode b_M_look 213 = .ok (.goto 4, 3) := by decide +kernel
theorem d_M_look_216 : decode b_M_look 216 = .ok (.iconst 0, 1) := by decide +kernel
theorem d_M_look_217 : decode b_M_look 217 = .ok (.iconst 1, 1) := by decide +kernel
theorem d_M_look_218 : decode b_M_look 218 = .ok (.invokevirtual 187, 3) := by decide +kernel
theorem d_M_look_221 : decode b_M_look 221 = .ok (.goto 211, 3) := by decide +kernel
theorem d_M_look_224 : decode b_M_look 224 = .ok (.aload_n 0, 1) := by decide +kernel
theorem d_M_look_225 : decode b_M_look 225 = .ok (.iload_n 2, 1) := by decide +kernel
theorem d_M_look_226 : decode b_M_look 226 = .ok (.iload_n 3, 1) := by decide +kernel
theorem d_M_look_227 : decode b_M_look 227 = .ok (.aload_n 0, 1) := by decide +kernel
theorem d_M_look_228 : decode b_M_look 228 = .ok (.getfield 64, 3) := by decide +kernel
theorem d_M_look_231 : decode b_M_look 231 = .ok (.iload 5, 2) := by decide +kernel
theorem d_M_look_233 : decode b_M_look 233 = .ok (.iaload, 1) := by decide +kernel
theorem d_M_look_234 : decode b_M_look 234 = .ok (.iconst 1, 1) := by decide +kernel
theorem d_M_look_235 : decode b_M_look 235 = .ok (.if_icmp .ne 23, 3) := by decide +kernel
theorem d_M_look_238 : decode b_M_look 238 = .ok (.aload_n 0, 1) := by decide +kernel
theorem d_M_look_239 : decode b_M_look 239 = .ok (.getfield 67, 3) := by decide +kernel
theorem d_M_look_242 : decode b_M_look 242 = .ok (.iload 5, 2) := by decide +kernel
theorem d_M_look_244 : decode b_M_look 244 = .ok (.iaload, 1) := by decide +kernel
theorem d_M_look_245 : decode b_M_look 245 = .ok (.aload_n 0, 1) := by decide +kernel
theorem d_M_look_246 : decode b_M_look 246 = .ok (.getfield 79, 3) := by decide +kernel
theorem d_M_look_249 : decode b_M_look 249 = .ok (.iload_n 2, 1) := by decide +kernel
theorem d_M_look_250 : decode b_M_look 250 = .ok (.iaload, 1) := by decide +kernel
theorem d_M_look_251 : decode b_M_look 251 = .ok (.if_icmp .gt 7, 3) := by decide +kernel
theorem d_M_look_254 : decode b_M_look 254 = .ok (.iconst 1, 1) := by decide +kernel
theorem d_M_look_255 : decode b_M_look 255 = .ok (.goto 4, 3) := by decide +kernel
theorem d_M_look_258 : decode b_M_look 258 = .ok (.iconst 0, 1) := by decide +kernel
theorem d_M_look_259 : decode b_M_look 259 = .ok (.iconst 1, 1) := by decide +kernel
theorem d_M_look_260 : decode b_M_look 260 = .ok (.invokevirtual 187, 3) := by decide +kernel
theorem d_M_look_263 : decode b_M_look 263 = .ok (.goto 169, 3) := by decide +kernel
theorem d_M_look_266 : decode b_M_look 266 = .ok (.aload_n 0, 1) := by decide +kernel
theorem d_M_look_267 : decode b_M_look 267 = .ok (.iload_n 2, 1) := by decide +kernel
theorem d_M_look_268 : decode b_M_look 268 = .ok (.iload_n 3, 1) := by decide +kernel
theorem d_M_look_269 : decode b_M_look 269 = .ok (.aload_n 0, 1) := by decide +kernel
theorem d_M_look_270 : decode b_M_look 270 = .ok (.getfield 64, 3) := by decide +kernel
theorem d_M_look_273 : decode b_M_look 273 = .ok (.iload 5, 2) := by decide +kernel
theorem d_M_look_275 : decode b_M_look 275 = .ok (.iaload, 1) := by decide +kernel
theorem d_M_look_276 : decode b_M_look 276 = .ok (.ifCond .le 7, 3) := by decide +kernel
theorem d_M_look_279 : decode b_M_look 279 = .ok (.iconst 1, 1) := by decide +kernel
theorem d_M_look_280 : decode b_M_look 280 = .ok (.goto 4, 3) := by decide +kernel
theorem d_M_look_283 : decode b_M_look 283 = .ok (.iconst 0, 1) := by decide +kernel
theorem d_M_look_284 : decode b_M_look 284 = .ok (.iconst 1, 1) := by decide +kernel
theorem d_M_look_285 : decode b_M_look 285 = .ok (.invokevirtual 187, 3) := by decide +kernel
theorem d_M_look_288 : decode b_M_look 288 = .ok (.goto 144, 3) := by decide +kernel
theorem d_M_look_291 : decode b_M_look 291 = .ok (.aload_n 0, 1) := by decide +kernel
theorem d_M_look_292 : decode b_M_look 292 = .ok (.iload_n 2, 1) := by decide +kernel
theorem d_M_look_293 : decode b_M_look 293 = .ok (.iload_n 3, 1) := by decide +kernel
theorem d_M_look_294 : decode b_M_look 294 = .ok (.iconst 1, 1) := by decide +kernel
theorem d_M_look_295 : decode b_M_look 295 = .ok (.iconst 1, 1) := by decide +kernel
theorem d_M_look_296 : decode b_M_look 296 = .ok (.invokevirtual 187, 3) := by decide +kernel
theorem d_M_look_299 : decode b_M_look 299 = .ok (.goto 133, 3) := by decide +kernel
theorem d_M_look_302 : decode b_M_look 302 = .ok (.aload_n 0, 1) := by decide +kernel
theorem d_M_look_303 : decode b_M_look 303 = .ok (.iload_n 2, 1) := by decide +kernel
theorem d_M_look_304 : decode b_M_look 304 = .ok (.iload_n 3, 1) := by decide +kernel
theorem d_M_look_305 : decode b_M_look 305 = .ok (.aload_n 0, 1) := by decide +kernel
theorem d_M_look_306 : decode b_M_look 306 = .ok (.getfield 100, 3) := by decide +kernel
theorem d_M_look_309 : decode b_M_look 309 = .ok (.iload 6, 2) := by decide +kernel
theorem d_M_look_311 : decode b_M_look 311 = .ok (.baload, 1) := by decide +kernel
theorem d_M_look_312 : decode b_M_look 312 = .ok (.ifCond .eq 17, 3) := by decide +kernel
theorem d_M_look_315 : decode b_M_look 315 = .ok (.aload_n 0, 1) := by decide +kernel
theorem d_M_look_316 : decode b_M_look 316 = .ok (.getfield 100, 3) := by decide +kernel
theorem d_M_look_319 : decode b_M_look 319 = .ok (.iload 7, 2) := by decide +kernel
theorem d_M_look_321 : decode b_M_look 321 = .ok (.baload, 1) := by decide +kernel
theorem d_M_look_322 : decode b_M_look 322 = .ok (.ifCond .eq 7, 3) := by decide +kernel
theorem d_M_look_325 : decode b_M_look 325 = .ok (.iconst 1, 1) := by decide +kernel
theorem d_M_look_326 : decode b_M_look 326 = .ok (.goto 4, 3) := by decide +kernel
theorem d_M_look_329 : decode b_M_look 329 = .ok (.iconst 0, 1) := by decide +kernel
theorem d_M_look_330 : decode b_M_look 330 = .ok (.aload_n 0, 1) := by decide +kernel
theorem d_M_look_331 : decode b_M_look 331 = .ok (.getfield 103, 3) := by decide +kernel
theorem d_M_look_334 : decode b_M_look 334 = .ok (.iload 6, 2) := by decide +kernel
theorem d_M_look_336 : decode b_M_look 336 = .ok (.iaload, 1) := by decide +kernel
theorem d_M_look_337 : decode b_M_look 337 = .ok (.aload_n 0, 1) := by decide +kernel
theorem d_M_look_338 : decode b_M_look 338 = .ok (.getfield 103, 3) := by decide +kernel
theorem d_M_look_341 : decode b_M_look 341 = .ok (.iload 7, 2) := by decide +kernel
theorem d_M_look_343 : decode b_M_look 343 = .ok (.iaload, 1) := by decide +kernel

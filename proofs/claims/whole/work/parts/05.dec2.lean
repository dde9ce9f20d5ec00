set_option maxRecDepth 100000 in
theorem DX8_init_0 : decode cX8_init 0 = .ok (.aload_n 0, 1) ∧ decode cX8_init 1 = .ok (.invokespecial 1, 3) ∧ decode cX8_init 4 = .ok (.aload_n 0, 1) ∧ decode cX8_init 5 = .ok (.sipush 277, 3) ∧ decode cX8_init 8 = .ok (.newarray .int, 2) ∧ decode cX8_init 10 = .ok (.putfield 7, 3) ∧ decode cX8_init 13 = .ok (.aload_n 0, 1) ∧ decode cX8_init 14 = .ok (.ldc2_w 13, 3) ∧ decode cX8_init 17 = .ok (.putfield 15, 3) ∧ decode cX8_init 20 = .ok (.aload_n 0, 1) := by decide +kernel
theorem dX8_init_0 : decode cX8_init 0 = .ok (.aload_n 0, 1) := DX8_init_0.1
theorem dX8_init_1 : decode cX8_init 1 = .ok (.invokespecial 1, 3) := DX8_init_0.2.1
theorem dX8_init_4 : decode cX8_init 4 = .ok (.aload_n 0, 1) := DX8_init_0.2.2.1
theorem dX8_init_5 : decode cX8_init 5 = .ok (.sipush 277, 3) := DX8_init_0.2.2.2.1
theorem dX8_init_8 : decode cX8_init 8 = .ok (.newarray .int, 2) := DX8_init_0.2.2.2.2.1
theorem dX8_init_10 : decode cX8_init 10 = .ok (.putfield 7, 3) := DX8_init_0.2.2.2.2.2.1
theorem dX8_init_13 : decode cX8_init 13 = .ok (.aload_n 0, 1) := DX8_init_0.2.2.2.2.2.2.1
theorem dX8_init_14 : decode cX8_init 14 = .ok (.ldc2_w 13, 3) := DX8_init_0.2.2.2.2.2.2.2.1
theorem dX8_init_17 : decode cX8_init 17 = .ok (.putfield 15, 3) := DX8_init_0.2.2.2.2.2.2.2.2.1
theorem dX8_init_20 : decode cX8_init 20 = .ok (.aload_n 0, 1) := DX8_init_0.2.2.2.2.2.2.2.2.2
set_option maxRecDepth 100000 in
theorem DX8_init_1 : decode cX8_init 21 = .ok (.sipush 1108, 3) ∧ decode cX8_init 24 = .ok (.newarray .int, 2) ∧ decode cX8_init 26 = .ok (.putfield 19, 3) ∧ decode cX8_init 29 = .ok (.aload_n 0, 1) ∧ decode cX8_init 30 = .ok (.iconst 4, 1) ∧ decode cX8_init 31 = .ok (.newarray .long, 2) ∧ decode cX8_init 33 = .ok (.putfield 22, 3) ∧ decode cX8_init 36 = .ok (.aload_n 0, 1) ∧ decode cX8_init 37 = .ok (.bipush 126, 2) ∧ decode cX8_init 39 = .ok (.newarray .int, 2) := by decide +kernel
theorem dX8_init_21 : decode cX8_init 21 = .ok (.sipush 1108, 3) := DX8_init_1.1
theorem dX8_init_24 : decode cX8_init 24 = .ok (.newarray .int, 2) := DX8_init_1.2.1
theorem dX8_init_26 : decode cX8_init 26 = .ok (.putfield 19, 3) := DX8_init_1.2.2.1
theorem dX8_init_29 : decode cX8_init 29 = .ok (.aload_n 0, 1) := DX8_init_1.2.2.2.1
theorem dX8_init_30 : decode cX8_init 30 = .ok (.iconst 4, 1) := DX8_init_1.2.2.2.2.1
theorem dX8_init_31 : decode cX8_init 31 = .ok (.newarray .long, 2) := DX8_init_1.2.2.2.2.2.1
theorem dX8_init_33 : decode cX8_init 33 = .ok (.putfield 22, 3) := DX8_init_1.2.2.2.2.2.2.1
theorem dX8_init_36 : decode cX8_init 36 = .ok (.aload_n 0, 1) := DX8_init_1.2.2.2.2.2.2.2.1
theorem dX8_init_37 : decode cX8_init 37 = .ok (.bipush 126, 2) := DX8_init_1.2.2.2.2.2.2.2.2.1
theorem dX8_init_39 : decode cX8_init 39 = .ok (.newarray .int, 2) := DX8_init_1.2.2.2.2.2.2.2.2.2
set_option maxRecDepth 100000 in
theorem DX8_init_2 : decode cX8_init 41 = .ok (.putfield 26, 3) ∧ decode cX8_init 44 = .ok (.aload_n 0, 1) ∧ decode cX8_init 45 = .ok (.bipush 9, 2) ∧ decode cX8_init 47 = .ok (.newarray .int, 2) ∧ decode cX8_init 49 = .ok (.putfield 29, 3) ∧ decode cX8_init 52 = .ok (.aload_n 0, 1) ∧ decode cX8_init 53 = .ok (.sipush 400, 3) ∧ decode cX8_init 56 = .ok (.newarray .int, 2) ∧ decode cX8_init 58 = .ok (.putfield 32, 3) ∧ decode cX8_init 61 = .ok (.aload_n 0, 1) := by decide +kernel
theorem dX8_init_41 : decode cX8_init 41 = .ok (.putfield 26, 3) := DX8_init_2.1
theorem dX8_init_44 : decode cX8_init 44 = .ok (.aload_n 0, 1) := DX8_init_2.2.1
theorem dX8_init_45 : decode cX8_init 45 = .ok (.bipush 9, 2) := DX8_init_2.2.2.1
theorem dX8_init_47 : decode cX8_init 47 = .ok (.newarray .int, 2) := DX8_init_2.2.2.2.1
theorem dX8_init_49 : decode cX8_init 49 = .ok (.putfield 29, 3) := DX8_init_2.2.2.2.2.1
theorem dX8_init_52 : decode cX8_init 52 = .ok (.aload_n 0, 1) := DX8_init_2.2.2.2.2.2.1
theorem dX8_init_53 : decode cX8_init 53 = .ok (.sipush 400, 3) := DX8_init_2.2.2.2.2.2.2.1
theorem dX8_init_56 : decode cX8_init 56 = .ok (.newarray .int, 2) := DX8_init_2.2.2.2.2.2.2.2.1
theorem dX8_init_58 : decode cX8_init 58 = .ok (.putfield 32, 3) := DX8_init_2.2.2.2.2.2.2.2.2.1
theorem dX8_init_61 : decode cX8_init 61 = .ok (.aload_n 0, 1) := DX8_init_2.2.2.2.2.2.2.2.2.2
set_option maxRecDepth 100000 in
theorem DX8_init_3 : decode cX8_init 62 = .ok (.getfield 7, 3) ∧ decode cX8_init 65 = .ok (.iconst 2, 1) ∧ decode cX8_init 66 = .ok (.sipush 4000, 3) ∧ decode cX8_init 69 = .ok (.iastore, 1) ∧ decode cX8_init 70 = .ok (.aload_n 0, 1) ∧ decode cX8_init 71 = .ok (.getfield 7, 3) ∧ decode cX8_init 74 = .ok (.iconst 3, 1) ∧ decode cX8_init 75 = .ok (.sipush 1000, 3) ∧ decode cX8_init 78 = .ok (.iastore, 1) ∧ decode cX8_init 79 = .ok (.iconst 0, 1) := by decide +kernel
theorem dX8_init_62 : decode cX8_init 62 = .ok (.getfield 7, 3) := DX8_init_3.1
theorem dX8_init_65 : decode cX8_init 65 = .ok (.iconst 2, 1) := DX8_init_3.2.1
theorem dX8_init_66 : decode cX8_init 66 = .ok (.sipush 4000, 3) := DX8_init_3.2.2.1
theorem dX8_init_69 : decode cX8_init 69 = .ok (.iastore, 1) := DX8_init_3.2.2.2.1
theorem dX8_init_70 : decode cX8_init 70 = .ok (.aload_n 0, 1) := DX8_init_3.2.2.2.2.1
theorem dX8_init_71 : decode cX8_init 71 = .ok (.getfield 7, 3) := DX8_init_3.2.2.2.2.2.1
theorem dX8_init_74 : decode cX8_init 74 = .ok (.iconst 3, 1) := DX8_init_3.2.2.2.2.2.2.1
theorem dX8_init_75 : decode cX8_init 75 = .ok (.sipush 1000, 3) := DX8_init_3.2.2.2.2.2.2.2.1
theorem dX8_init_78 : decode cX8_init 78 = .ok (.iastore, 1) := DX8_init_3.2.2.2.2.2.2.2.2.1
theorem dX8_init_79 : decode cX8_init 79 = .ok (.iconst 0, 1) := DX8_init_3.2.2.2.2.2.2.2.2.2
set_option maxRecDepth 100000 in
theorem DX8_init_4 : decode cX8_init 80 = .ok (.istore_n 1, 1) ∧ decode cX8_init 81 = .ok (.iload_n 1, 1) ∧ decode cX8_init 82 = .ok (.bipush 6, 2) ∧ decode cX8_init 84 = .ok (.if_icmp .ge 39, 3) ∧ decode cX8_init 87 = .ok (.aload_n 0, 1) ∧ decode cX8_init 88 = .ok (.getfield 7, 3) ∧ decode cX8_init 91 = .ok (.bipush 9, 2) ∧ decode cX8_init 93 = .ok (.iconst 4, 1) ∧ decode cX8_init 94 = .ok (.iload_n 1, 1) ∧ decode cX8_init 95 = .ok (.imul, 1) := by decide +kernel
theorem dX8_init_80 : decode cX8_init 80 = .ok (.istore_n 1, 1) := DX8_init_4.1
theorem dX8_init_81 : decode cX8_init 81 = .ok (.iload_n 1, 1) := DX8_init_4.2.1
theorem dX8_init_82 : decode cX8_init 82 = .ok (.bipush 6, 2) := DX8_init_4.2.2.1
theorem dX8_init_84 : decode cX8_init 84 = .ok (.if_icmp .ge 39, 3) := DX8_init_4.2.2.2.1
theorem dX8_init_87 : decode cX8_init 87 = .ok (.aload_n 0, 1) := DX8_init_4.2.2.2.2.1
theorem dX8_init_88 : decode cX8_init 88 = .ok (.getfield 7, 3) := DX8_init_4.2.2.2.2.2.1
theorem dX8_init_91 : decode cX8_init 91 = .ok (.bipush 9, 2) := DX8_init_4.2.2.2.2.2.2.1
theorem dX8_init_93 : decode cX8_init 93 = .ok (.iconst 4, 1) := DX8_init_4.2.2.2.2.2.2.2.1
theorem dX8_init_94 : decode cX8_init 94 = .ok (.iload_n 1, 1) := DX8_init_4.2.2.2.2.2.2.2.2.1
theorem dX8_init_95 : decode cX8_init 95 = .ok (.imul, 1) := DX8_init_4.2.2.2.2.2.2.2.2.2
set_option maxRecDepth 100000 in
theorem DX8_init_5 : decode cX8_init 96 = .ok (.iadd, 1) ∧ decode cX8_init 97 = .ok (.iconst 2, 1) ∧ decode cX8_init 98 = .ok (.iadd, 1) ∧ decode cX8_init 99 = .ok (.iconst 1, 1) ∧ decode cX8_init 100 = .ok (.iastore, 1) ∧ decode cX8_init 101 = .ok (.aload_n 0, 1) ∧ decode cX8_init 102 = .ok (.getfield 7, 3) ∧ decode cX8_init 105 = .ok (.bipush 9, 2) ∧ decode cX8_init 107 = .ok (.iconst 4, 1) ∧ decode cX8_init 108 = .ok (.iload_n 1, 1) := by decide +kernel
theorem dX8_init_96 : decode cX8_init 96 = .ok (.iadd, 1) := DX8_init_5.1
theorem dX8_init_97 : decode cX8_init 97 = .ok (.iconst 2, 1) := DX8_init_5.2.1
theorem dX8_init_98 : decode cX8_init 98 = .ok (.iadd, 1) := DX8_init_5.2.2.1
theorem dX8_init_99 : decode cX8_init 99 = .ok (.iconst 1, 1) := DX8_init_5.2.2.2.1
theorem dX8_init_100 : decode cX8_init 100 = .ok (.iastore, 1) := DX8_init_5.2.2.2.2.1
theorem dX8_init_101 : decode cX8_init 101 = .ok (.aload_n 0, 1) := DX8_init_5.2.2.2.2.2.1
theorem dX8_init_102 : decode cX8_init 102 = .ok (.getfield 7, 3) := DX8_init_5.2.2.2.2.2.2.1
theorem dX8_init_105 : decode cX8_init 105 = .ok (.bipush 9, 2) := DX8_init_5.2.2.2.2.2.2.2.1
theorem dX8_init_107 : decode cX8_init 107 = .ok (.iconst 4, 1) := DX8_init_5.2.2.2.2.2.2.2.2.1
theorem dX8_init_108 : decode cX8_init 108 = .ok (.iload_n 1, 1) := DX8_init_5.2.2.2.2.2.2.2.2.2
set_option maxRecDepth 100000 in
theorem DX8_init_6 : decode cX8_init 109 = .ok (.imul, 1) ∧ decode cX8_init 110 = .ok (.iadd, 1) ∧ decode cX8_init 111 = .ok (.iconst 3, 1) ∧ decode cX8_init 112 = .ok (.iadd, 1) ∧ decode cX8_init 113 = .ok (.sipush 4000, 3) ∧ decode cX8_init 116 = .ok (.iastore, 1) ∧ decode cX8_init 117 = .ok (.iinc 1 1, 3) ∧ decode cX8_init 120 = .ok (.goto (-39), 3) ∧ decode cX8_init 123 = .ok (.iconst 0, 1) ∧ decode cX8_init 124 = .ok (.istore_n 1, 1) := by decide +kernel
theorem dX8_init_109 : decode cX8_init 109 = .ok (.imul, 1) := DX8_init_6.1
theorem dX8_init_110 : decode cX8_init 110 = .ok (.iadd, 1) := DX8_init_6.2.1
theorem dX8_init_111 : decode cX8_init 111 = .ok (.iconst 3, 1) := DX8_init_6.2.2.1
theorem dX8_init_112 : decode cX8_init 112 = .ok (.iadd, 1) := DX8_init_6.2.2.2.1
theorem dX8_init_113 : decode cX8_init 113 = .ok (.sipush 4000, 3) := DX8_init_6.2.2.2.2.1
theorem dX8_init_116 : decode cX8_init 116 = .ok (.iastore, 1) := DX8_init_6.2.2.2.2.2.1
theorem dX8_init_117 : decode cX8_init 117 = .ok (.iinc 1 1, 3) := DX8_init_6.2.2.2.2.2.2.1
theorem dX8_init_120 : decode cX8_init 120 = .ok (.goto (-39), 3) := DX8_init_6.2.2.2.2.2.2.2.1
theorem dX8_init_123 : decode cX8_init 123 = .ok (.iconst 0, 1) := DX8_init_6.2.2.2.2.2.2.2.2.1
theorem dX8_init_124 : decode cX8_init 124 = .ok (.istore_n 1, 1) := DX8_init_6.2.2.2.2.2.2.2.2.2
set_option maxRecDepth 100000 in
theorem DX8_init_7 : decode cX8_init 125 = .ok (.iload_n 1, 1) ∧ decode cX8_init 126 = .ok (.iconst 4, 1) ∧ decode cX8_init 127 = .ok (.if_icmp .ge 34, 3) ∧ decode cX8_init 130 = .ok (.aload_n 0, 1) ∧ decode cX8_init 131 = .ok (.getfield 7, 3) ∧ decode cX8_init 134 = .ok (.iload_n 1, 1) ∧ decode cX8_init 135 = .ok (.invokestatic 35, 3) ∧ decode cX8_init 138 = .ok (.sipush 1000, 3) ∧ decode cX8_init 141 = .ok (.iastore, 1) ∧ decode cX8_init 142 = .ok (.aload_n 0, 1) := by decide +kernel
theorem dX8_init_125 : decode cX8_init 125 = .ok (.iload_n 1, 1) := DX8_init_7.1
theorem dX8_init_126 : decode cX8_init 126 = .ok (.iconst 4, 1) := DX8_init_7.2.1
theorem dX8_init_127 : decode cX8_init 127 = .ok (.if_icmp .ge 34, 3) := DX8_init_7.2.2.1
theorem dX8_init_130 : decode cX8_init 130 = .ok (.aload_n 0, 1) := DX8_init_7.2.2.2.1
theorem dX8_init_131 : decode cX8_init 131 = .ok (.getfield 7, 3) := DX8_init_7.2.2.2.2.1
theorem dX8_init_134 : decode cX8_init 134 = .ok (.iload_n 1, 1) := DX8_init_7.2.2.2.2.2.1
theorem dX8_init_135 : decode cX8_init 135 = .ok (.invokestatic 35, 3) := DX8_init_7.2.2.2.2.2.2.1
theorem dX8_init_138 : decode cX8_init 138 = .ok (.sipush 1000, 3) := DX8_init_7.2.2.2.2.2.2.2.1
theorem dX8_init_141 : decode cX8_init 141 = .ok (.iastore, 1) := DX8_init_7.2.2.2.2.2.2.2.2.1
theorem dX8_init_142 : decode cX8_init 142 = .ok (.aload_n 0, 1) := DX8_init_7.2.2.2.2.2.2.2.2.2
set_option maxRecDepth 100000 in
theorem DX8_init_8 : decode cX8_init 143 = .ok (.getfield 7, 3) ∧ decode cX8_init 146 = .ok (.iload_n 1, 1) ∧ decode cX8_init 147 = .ok (.invokestatic 35, 3) ∧ decode cX8_init 150 = .ok (.bipush 29, 2) ∧ decode cX8_init 152 = .ok (.iadd, 1) ∧ decode cX8_init 153 = .ok (.iconst (-1), 1) ∧ decode cX8_init 154 = .ok (.iastore, 1) ∧ decode cX8_init 155 = .ok (.iinc 1 1, 3) ∧ decode cX8_init 158 = .ok (.goto (-33), 3) ∧ decode cX8_init 161 = .ok (.return_, 1) := by decide +kernel
theorem dX8_init_143 : decode cX8_init 143 = .ok (.getfield 7, 3) := DX8_init_8.1
theorem dX8_init_146 : decode cX8_init 146 = .ok (.iload_n 1, 1) := DX8_init_8.2.1
theorem dX8_init_147 : decode cX8_init 147 = .ok (.invokestatic 35, 3) := DX8_init_8.2.2.1
theorem dX8_init_150 : decode cX8_init 150 = .ok (.bipush 29, 2) := DX8_init_8.2.2.2.1
theorem dX8_init_152 : decode cX8_init 152 = .ok (.iadd, 1) := DX8_init_8.2.2.2.2.1
theorem dX8_init_153 : decode cX8_init 153 = .ok (.iconst (-1), 1) := DX8_init_8.2.2.2.2.2.1
theorem dX8_init_154 : decode cX8_init 154 = .ok (.iastore, 1) := DX8_init_8.2.2.2.2.2.2.1
theorem dX8_init_155 : decode cX8_init 155 = .ok (.iinc 1 1, 3) := DX8_init_8.2.2.2.2.2.2.2.1
theorem dX8_init_158 : decode cX8_init 158 = .ok (.goto (-33), 3) := DX8_init_8.2.2.2.2.2.2.2.2.1
theorem dX8_init_161 : decode cX8_init 161 = .ok (.return_, 1) := DX8_init_8.2.2.2.2.2.2.2.2.2
set_option maxRecDepth 100000 in
theorem DX8_thrown_0 : decode cX8_thrown 0 = .ok (.aload_n 0, 1) ∧ decode cX8_thrown 1 = .ok (.getfield 39, 3) ∧ decode cX8_thrown 4 = .ok (.ireturn, 1) := by decide +kernel
theorem dX8_thrown_0 : decode cX8_thrown 0 = .ok (.aload_n 0, 1) := DX8_thrown_0.1
theorem dX8_thrown_1 : decode cX8_thrown 1 = .ok (.getfield 39, 3) := DX8_thrown_0.2.1
theorem dX8_thrown_4 : decode cX8_thrown 4 = .ok (.ireturn, 1) := DX8_thrown_0.2.2
set_option maxRecDepth 100000 in
theorem DX8_in_0 : decode cX8_in 0 = .ok (.lload_n 0, 1) ∧ decode cX8_in 1 = .ok (.lload_n 2, 1) ∧ decode cX8_in 2 = .ok (.lcmp, 1) ∧ decode cX8_in 3 = .ok (.ifCond .lt 14, 3) ∧ decode cX8_in 6 = .ok (.lload_n 0, 1) ∧ decode cX8_in 7 = .ok (.lload 4, 2) ∧ decode cX8_in 9 = .ok (.lcmp, 1) ∧ decode cX8_in 10 = .ok (.ifCond .gt 7, 3) ∧ decode cX8_in 13 = .ok (.iconst 1, 1) ∧ decode cX8_in 14 = .ok (.goto 4, 3) := by decide +kernel
theorem dX8_in_0 : decode cX8_in 0 = .ok (.lload_n 0, 1) := DX8_in_0.1
theorem dX8_in_1 : decode cX8_in 1 = .ok (.lload_n 2, 1) := DX8_in_0.2.1
theorem dX8_in_2 : decode cX8_in 2 = .ok (.lcmp, 1) := DX8_in_0.2.2.1
theorem dX8_in_3 : decode cX8_in 3 = .ok (.ifCond .lt 14, 3) := DX8_in_0.2.2.2.1
theorem dX8_in_6 : decode cX8_in 6 = .ok (.lload_n 0, 1) := DX8_in_0.2.2.2.2.1
theorem dX8_in_7 : decode cX8_in 7 = .ok (.lload 4, 2) := DX8_in_0.2.2.2.2.2.1
theorem dX8_in_9 : decode cX8_in 9 = .ok (.lcmp, 1) := DX8_in_0.2.2.2.2.2.2.1
theorem dX8_in_10 : decode cX8_in 10 = .ok (.ifCond .gt 7, 3) := DX8_in_0.2.2.2.2.2.2.2.1
theorem dX8_in_13 : decode cX8_in 13 = .ok (.iconst 1, 1) := DX8_in_0.2.2.2.2.2.2.2.2.1
theorem dX8_in_14 : decode cX8_in 14 = .ok (.goto 4, 3) := DX8_in_0.2.2.2.2.2.2.2.2.2
set_option maxRecDepth 100000 in
theorem DX8_in_1 : decode cX8_in 17 = .ok (.iconst 0, 1) ∧ decode cX8_in 18 = .ok (.ireturn, 1) := by decide +kernel
theorem dX8_in_17 : decode cX8_in 17 = .ok (.iconst 0, 1) := DX8_in_1.1
theorem dX8_in_18 : decode cX8_in 18 = .ok (.ireturn, 1) := DX8_in_1.2
set_option maxRecDepth 100000 in
theorem DX8_trackAt_0 : decode cX8_trackAt 0 = .ok (.sipush 141, 3) ∧ decode cX8_trackAt 3 = .ok (.bipush 34, 2) ∧ decode cX8_trackAt 5 = .ok (.iload_n 0, 1) ∧ decode cX8_trackAt 6 = .ok (.imul, 1) ∧ decode cX8_trackAt 7 = .ok (.iadd, 1) ∧ decode cX8_trackAt 8 = .ok (.ireturn, 1) := by decide +kernel
theorem dX8_trackAt_0 : decode cX8_trackAt 0 = .ok (.sipush 141, 3) := DX8_trackAt_0.1
theorem dX8_trackAt_3 : decode cX8_trackAt 3 = .ok (.bipush 34, 2) := DX8_trackAt_0.2.1
theorem dX8_trackAt_5 : decode cX8_trackAt 5 = .ok (.iload_n 0, 1) := DX8_trackAt_0.2.2.1
theorem dX8_trackAt_6 : decode cX8_trackAt 6 = .ok (.imul, 1) := DX8_trackAt_0.2.2.2.1
theorem dX8_trackAt_7 : decode cX8_trackAt 7 = .ok (.iadd, 1) := DX8_trackAt_0.2.2.2.2.1
theorem dX8_trackAt_8 : decode cX8_trackAt 8 = .ok (.ireturn, 1) := DX8_trackAt_0.2.2.2.2.2
set_option maxRecDepth 100000 in
theorem DX8_isTrack_0 : decode cX8_isTrack 0 = .ok (.iload_n 0, 1) ∧ decode cX8_isTrack 1 = .ok (.i2l, 1) ∧ decode cX8_isTrack 2 = .ok (.lconst 0, 1) ∧ decode cX8_isTrack 3 = .ok (.ldc2_w 43, 3) ∧ decode cX8_isTrack 6 = .ok (.invokestatic 45, 3) ∧ decode cX8_isTrack 9 = .ok (.ireturn, 1) := by decide +kernel
theorem dX8_isTrack_0 : decode cX8_isTrack 0 = .ok (.iload_n 0, 1) := DX8_isTrack_0.1
theorem dX8_isTrack_1 : decode cX8_isTrack 1 = .ok (.i2l, 1) := DX8_isTrack_0.2.1
theorem dX8_isTrack_2 : decode cX8_isTrack 2 = .ok (.lconst 0, 1) := DX8_isTrack_0.2.2.1
theorem dX8_isTrack_3 : decode cX8_isTrack 3 = .ok (.ldc2_w 43, 3) := DX8_isTrack_0.2.2.2.1
theorem dX8_isTrack_6 : decode cX8_isTrack 6 = .ok (.invokestatic 45, 3) := DX8_isTrack_0.2.2.2.2.1
theorem dX8_isTrack_9 : decode cX8_isTrack 9 = .ok (.ireturn, 1) := DX8_isTrack_0.2.2.2.2.2
set_option maxRecDepth 100000 in
theorem DX8_isPlace_0 : decode cX8_isPlace 0 = .ok (.iload_n 0, 1) ∧ decode cX8_isPlace 1 = .ok (.i2l, 1) ∧ decode cX8_isPlace 2 = .ok (.lconst 0, 1) ∧ decode cX8_isPlace 3 = .ok (.ldc2_w 49, 3) ∧ decode cX8_isPlace 6 = .ok (.invokestatic 45, 3) ∧ decode cX8_isPlace 9 = .ok (.ireturn, 1) := by decide +kernel
theorem dX8_isPlace_0 : decode cX8_isPlace 0 = .ok (.iload_n 0, 1) := DX8_isPlace_0.1
theorem dX8_isPlace_1 : decode cX8_isPlace 1 = .ok (.i2l, 1) := DX8_isPlace_0.2.1
theorem dX8_isPlace_2 : decode cX8_isPlace 2 = .ok (.lconst 0, 1) := DX8_isPlace_0.2.2.1
theorem dX8_isPlace_3 : decode cX8_isPlace 3 = .ok (.ldc2_w 49, 3) := DX8_isPlace_0.2.2.2.1
theorem dX8_isPlace_6 : decode cX8_isPlace 6 = .ok (.invokestatic 45, 3) := DX8_isPlace_0.2.2.2.2.1
theorem dX8_isPlace_9 : decode cX8_isPlace 9 = .ok (.ireturn, 1) := DX8_isPlace_0.2.2.2.2.2
set_option maxRecDepth 100000 in
theorem DX8_isClip_0 : decode cX8_isClip 0 = .ok (.iload_n 1, 1) ∧ decode cX8_isClip 1 = .ok (.i2l, 1) ∧ decode cX8_isClip 2 = .ok (.lconst 0, 1) ∧ decode cX8_isClip 3 = .ok (.aload_n 0, 1) ∧ decode cX8_isClip 4 = .ok (.getfield 7, 3) ∧ decode cX8_isClip 7 = .ok (.bipush 8, 2) ∧ decode cX8_isClip 9 = .ok (.iaload, 1) ∧ decode cX8_isClip 10 = .ok (.iconst 1, 1) ∧ decode cX8_isClip 11 = .ok (.isub, 1) ∧ decode cX8_isClip 12 = .ok (.i2l, 1) := by decide +kernel
theorem dX8_isClip_0 : decode cX8_isClip 0 = .ok (.iload_n 1, 1) := DX8_isClip_0.1
theorem dX8_isClip_1 : decode cX8_isClip 1 = .ok (.i2l, 1) := DX8_isClip_0.2.1
theorem dX8_isClip_2 : decode cX8_isClip 2 = .ok (.lconst 0, 1) := DX8_isClip_0.2.2.1
theorem dX8_isClip_3 : decode cX8_isClip 3 = .ok (.aload_n 0, 1) := DX8_isClip_0.2.2.2.1
theorem dX8_isClip_4 : decode cX8_isClip 4 = .ok (.getfield 7, 3) := DX8_isClip_0.2.2.2.2.1
theorem dX8_isClip_7 : decode cX8_isClip 7 = .ok (.bipush 8, 2) := DX8_isClip_0.2.2.2.2.2.1
theorem dX8_isClip_9 : decode cX8_isClip 9 = .ok (.iaload, 1) := DX8_isClip_0.2.2.2.2.2.2.1
theorem dX8_isClip_10 : decode cX8_isClip 10 = .ok (.iconst 1, 1) := DX8_isClip_0.2.2.2.2.2.2.2.1
theorem dX8_isClip_11 : decode cX8_isClip 11 = .ok (.isub, 1) := DX8_isClip_0.2.2.2.2.2.2.2.2.1
theorem dX8_isClip_12 : decode cX8_isClip 12 = .ok (.i2l, 1) := DX8_isClip_0.2.2.2.2.2.2.2.2.2
set_option maxRecDepth 100000 in
theorem DX8_isClip_1 : decode cX8_isClip 13 = .ok (.invokestatic 45, 3) ∧ decode cX8_isClip 16 = .ok (.ireturn, 1) := by decide +kernel
theorem dX8_isClip_13 : decode cX8_isClip 13 = .ok (.invokestatic 45, 3) := DX8_isClip_1.1
theorem dX8_isClip_16 : decode cX8_isClip 16 = .ok (.ireturn, 1) := DX8_isClip_1.2
set_option maxRecDepth 100000 in
theorem DX8_refuses_0 : decode cX8_refuses 0 = .ok (.aload_n 0, 1) ∧ decode cX8_refuses 1 = .ok (.iload_n 1, 1) ∧ decode cX8_refuses 2 = .ok (.putfield 39, 3) ∧ decode cX8_refuses 5 = .ok (.iload_n 1, 1) ∧ decode cX8_refuses 6 = .ok (.ifCond .eq 7, 3) ∧ decode cX8_refuses 9 = .ok (.iconst 1, 1) ∧ decode cX8_refuses 10 = .ok (.goto 4, 3) ∧ decode cX8_refuses 13 = .ok (.iconst 0, 1) ∧ decode cX8_refuses 14 = .ok (.ireturn, 1) := by decide +kernel
theorem dX8_refuses_0 : decode cX8_refuses 0 = .ok (.aload_n 0, 1) := DX8_refuses_0.1
theorem dX8_refuses_1 : decode cX8_refuses 1 = .ok (.iload_n 1, 1) := DX8_refuses_0.2.1
theorem dX8_refuses_2 : decode cX8_refuses 2 = .ok (.putfield 39, 3) := DX8_refuses_0.2.2.1
theorem dX8_refuses_5 : decode cX8_refuses 5 = .ok (.iload_n 1, 1) := DX8_refuses_0.2.2.2.1
theorem dX8_refuses_6 : decode cX8_refuses 6 = .ok (.ifCond .eq 7, 3) := DX8_refuses_0.2.2.2.2.1
theorem dX8_refuses_9 : decode cX8_refuses 9 = .ok (.iconst 1, 1) := DX8_refuses_0.2.2.2.2.2.1
theorem dX8_refuses_10 : decode cX8_refuses 10 = .ok (.goto 4, 3) := DX8_refuses_0.2.2.2.2.2.2.1
theorem dX8_refuses_13 : decode cX8_refuses 13 = .ok (.iconst 0, 1) := DX8_refuses_0.2.2.2.2.2.2.2.1
theorem dX8_refuses_14 : decode cX8_refuses 14 = .ok (.ireturn, 1) := DX8_refuses_0.2.2.2.2.2.2.2.2
set_option maxRecDepth 100000 in
theorem DX8_refusesChange_0 : decode cX8_refusesChange 0 = .ok (.aload_n 0, 1) ∧ decode cX8_refusesChange 1 = .ok (.iload_n 1, 1) ∧ decode cX8_refusesChange 2 = .ok (.invokevirtual 51, 3) ∧ decode cX8_refusesChange 5 = .ok (.ifCond .eq 5, 3) ∧ decode cX8_refusesChange 8 = .ok (.iconst 1, 1) ∧ decode cX8_refusesChange 9 = .ok (.ireturn, 1) ∧ decode cX8_refusesChange 10 = .ok (.aload_n 0, 1) ∧ decode cX8_refusesChange 11 = .ok (.getfield 55, 3) ∧ decode cX8_refusesChange 14 = .ok (.iconst 4, 1) ∧ decode cX8_refusesChange 15 = .ok (.if_icmp .ne 71, 3) := by decide +kernel
theorem dX8_refusesChange_0 : decode cX8_refusesChange 0 = .ok (.aload_n 0, 1) := DX8_refusesChange_0.1
theorem dX8_refusesChange_1 : decode cX8_refusesChange 1 = .ok (.iload_n 1, 1) := DX8_refusesChange_0.2.1
theorem dX8_refusesChange_2 : decode cX8_refusesChange 2 = .ok (.invokevirtual 51, 3) := DX8_refusesChange_0.2.2.1
theorem dX8_refusesChange_5 : decode cX8_refusesChange 5 = .ok (.ifCond .eq 5, 3) := DX8_refusesChange_0.2.2.2.1
theorem dX8_refusesChange_8 : decode cX8_refusesChange 8 = .ok (.iconst 1, 1) := DX8_refusesChange_0.2.2.2.2.1
theorem dX8_refusesChange_9 : decode cX8_refusesChange 9 = .ok (.ireturn, 1) := DX8_refusesChange_0.2.2.2.2.2.1
theorem dX8_refusesChange_10 : decode cX8_refusesChange 10 = .ok (.aload_n 0, 1) := DX8_refusesChange_0.2.2.2.2.2.2.1
theorem dX8_refusesChange_11 : decode cX8_refusesChange 11 = .ok (.getfield 55, 3) := DX8_refusesChange_0.2.2.2.2.2.2.2.1
theorem dX8_refusesChange_14 : decode cX8_refusesChange 14 = .ok (.iconst 4, 1) := DX8_refusesChange_0.2.2.2.2.2.2.2.2.1
theorem dX8_refusesChange_15 : decode cX8_refusesChange 15 = .ok (.if_icmp .ne 71, 3) := DX8_refusesChange_0.2.2.2.2.2.2.2.2.2
set_option maxRecDepth 100000 in
theorem DX8_refusesChange_1 : decode cX8_refusesChange 18 = .ok (.iconst 0, 1) ∧ decode cX8_refusesChange 19 = .ok (.istore_n 2, 1) ∧ decode cX8_refusesChange 20 = .ok (.iload_n 2, 1) ∧ decode cX8_refusesChange 21 = .ok (.sipush 831, 3) ∧ decode cX8_refusesChange 24 = .ok (.if_icmp .ge 25, 3) ∧ decode cX8_refusesChange 27 = .ok (.aload_n 0, 1) ∧ decode cX8_refusesChange 28 = .ok (.getfield 19, 3) ∧ decode cX8_refusesChange 31 = .ok (.iload_n 2, 1) ∧ decode cX8_refusesChange 32 = .ok (.aload_n 0, 1) ∧ decode cX8_refusesChange 33 = .ok (.getfield 19, 3) := by decide +kernel
theorem dX8_refusesChange_18 : decode cX8_refusesChange 18 = .ok (.iconst 0, 1) := DX8_refusesChange_1.1
theorem dX8_refusesChange_19 : decode cX8_refusesChange 19 = .ok (.istore_n 2, 1) := DX8_refusesChange_1.2.1
theorem dX8_refusesChange_20 : decode cX8_refusesChange 20 = .ok (.iload_n 2, 1) := DX8_refusesChange_1.2.2.1
theorem dX8_refusesChange_21 : decode cX8_refusesChange 21 = .ok (.sipush 831, 3) := DX8_refusesChange_1.2.2.2.1
theorem dX8_refusesChange_24 : decode cX8_refusesChange 24 = .ok (.if_icmp .ge 25, 3) := DX8_refusesChange_1.2.2.2.2.1
theorem dX8_refusesChange_27 : decode cX8_refusesChange 27 = .ok (.aload_n 0, 1) := DX8_refusesChange_1.2.2.2.2.2.1
theorem dX8_refusesChange_28 : decode cX8_refusesChange 28 = .ok (.getfield 19, 3) := DX8_refusesChange_1.2.2.2.2.2.2.1
theorem dX8_refusesChange_31 : decode cX8_refusesChange 31 = .ok (.iload_n 2, 1) := DX8_refusesChange_1.2.2.2.2.2.2.2.1
theorem dX8_refusesChange_32 : decode cX8_refusesChange 32 = .ok (.aload_n 0, 1) := DX8_refusesChange_1.2.2.2.2.2.2.2.2.1
theorem dX8_refusesChange_33 : decode cX8_refusesChange 33 = .ok (.getfield 19, 3) := DX8_refusesChange_1.2.2.2.2.2.2.2.2.2
set_option maxRecDepth 100000 in
theorem DX8_refusesChange_2 : decode cX8_refusesChange 36 = .ok (.iload_n 2, 1) ∧ decode cX8_refusesChange 37 = .ok (.sipush 277, 3) ∧ decode cX8_refusesChange 40 = .ok (.iadd, 1) ∧ decode cX8_refusesChange 41 = .ok (.iaload, 1) ∧ decode cX8_refusesChange 42 = .ok (.iastore, 1) ∧ decode cX8_refusesChange 43 = .ok (.iinc 2 1, 3) ∧ decode cX8_refusesChange 46 = .ok (.goto (-26), 3) ∧ decode cX8_refusesChange 49 = .ok (.iconst 0, 1) ∧ decode cX8_refusesChange 50 = .ok (.istore_n 2, 1) ∧ decode cX8_refusesChange 51 = .ok (.iload_n 2, 1) := by decide +kernel
theorem dX8_refusesChange_36 : decode cX8_refusesChange 36 = .ok (.iload_n 2, 1) := DX8_refusesChange_2.1
theorem dX8_refusesChange_37 : decode cX8_refusesChange 37 = .ok (.sipush 277, 3) := DX8_refusesChange_2.2.1
theorem dX8_refusesChange_40 : decode cX8_refusesChange 40 = .ok (.iadd, 1) := DX8_refusesChange_2.2.2.1
theorem dX8_refusesChange_41 : decode cX8_refusesChange 41 = .ok (.iaload, 1) := DX8_refusesChange_2.2.2.2.1
theorem dX8_refusesChange_42 : decode cX8_refusesChange 42 = .ok (.iastore, 1) := DX8_refusesChange_2.2.2.2.2.1
theorem dX8_refusesChange_43 : decode cX8_refusesChange 43 = .ok (.iinc 2 1, 3) := DX8_refusesChange_2.2.2.2.2.2.1
theorem dX8_refusesChange_46 : decode cX8_refusesChange 46 = .ok (.goto (-26), 3) := DX8_refusesChange_2.2.2.2.2.2.2.1
theorem dX8_refusesChange_49 : decode cX8_refusesChange 49 = .ok (.iconst 0, 1) := DX8_refusesChange_2.2.2.2.2.2.2.2.1
theorem dX8_refusesChange_50 : decode cX8_refusesChange 50 = .ok (.istore_n 2, 1) := DX8_refusesChange_2.2.2.2.2.2.2.2.2.1
theorem dX8_refusesChange_51 : decode cX8_refusesChange 51 = .ok (.iload_n 2, 1) := DX8_refusesChange_2.2.2.2.2.2.2.2.2.2
set_option maxRecDepth 100000 in
theorem DX8_refusesChange_3 : decode cX8_refusesChange 52 = .ok (.iconst 3, 1) ∧ decode cX8_refusesChange 53 = .ok (.if_icmp .ge 23, 3) ∧ decode cX8_refusesChange 56 = .ok (.aload_n 0, 1) ∧ decode cX8_refusesChange 57 = .ok (.getfield 22, 3) ∧ decode cX8_refusesChange 60 = .ok (.iload_n 2, 1) ∧ decode cX8_refusesChange 61 = .ok (.aload_n 0, 1) ∧ decode cX8_refusesChange 62 = .ok (.getfield 22, 3) ∧ decode cX8_refusesChange 65 = .ok (.iload_n 2, 1) ∧ decode cX8_refusesChange 66 = .ok (.iconst 1, 1) ∧ decode cX8_refusesChange 67 = .ok (.iadd, 1) := by decide +kernel
theorem dX8_refusesChange_52 : decode cX8_refusesChange 52 = .ok (.iconst 3, 1) := DX8_refusesChange_3.1
theorem dX8_refusesChange_53 : decode cX8_refusesChange 53 = .ok (.if_icmp .ge 23, 3) := DX8_refusesChange_3.2.1
theorem dX8_refusesChange_56 : decode cX8_refusesChange 56 = .ok (.aload_n 0, 1) := DX8_refusesChange_3.2.2.1
theorem dX8_refusesChange_57 : decode cX8_refusesChange 57 = .ok (.getfield 22, 3) := DX8_refusesChange_3.2.2.2.1
theorem dX8_refusesChange_60 : decode cX8_refusesChange 60 = .ok (.iload_n 2, 1) := DX8_refusesChange_3.2.2.2.2.1
theorem dX8_refusesChange_61 : decode cX8_refusesChange 61 = .ok (.aload_n 0, 1) := DX8_refusesChange_3.2.2.2.2.2.1
theorem dX8_refusesChange_62 : decode cX8_refusesChange 62 = .ok (.getfield 22, 3) := DX8_refusesChange_3.2.2.2.2.2.2.1
theorem dX8_refusesChange_65 : decode cX8_refusesChange 65 = .ok (.iload_n 2, 1) := DX8_refusesChange_3.2.2.2.2.2.2.2.1
theorem dX8_refusesChange_66 : decode cX8_refusesChange 66 = .ok (.iconst 1, 1) := DX8_refusesChange_3.2.2.2.2.2.2.2.2.1
theorem dX8_refusesChange_67 : decode cX8_refusesChange 67 = .ok (.iadd, 1) := DX8_refusesChange_3.2.2.2.2.2.2.2.2.2
set_option maxRecDepth 100000 in
theorem DX8_refusesChange_4 : decode cX8_refusesChange 68 = .ok (.laload, 1) ∧ decode cX8_refusesChange 69 = .ok (.lastore, 1) ∧ decode cX8_refusesChange 70 = .ok (.iinc 2 1, 3) ∧ decode cX8_refusesChange 73 = .ok (.goto (-22), 3) ∧ decode cX8_refusesChange 76 = .ok (.aload_n 0, 1) ∧ decode cX8_refusesChange 77 = .ok (.dup, 1) ∧ decode cX8_refusesChange 78 = .ok (.getfield 55, 3) ∧ decode cX8_refusesChange 81 = .ok (.iconst 1, 1) ∧ decode cX8_refusesChange 82 = .ok (.isub, 1) ∧ decode cX8_refusesChange 83 = .ok (.putfield 55, 3) := by decide +kernel
theorem dX8_refusesChange_68 : decode cX8_refusesChange 68 = .ok (.laload, 1) := DX8_refusesChange_4.1
theorem dX8_refusesChange_69 : decode cX8_refusesChange 69 = .ok (.lastore, 1) := DX8_refusesChange_4.2.1
theorem dX8_refusesChange_70 : decode cX8_refusesChange 70 = .ok (.iinc 2 1, 3) := DX8_refusesChange_4.2.2.1
theorem dX8_refusesChange_73 : decode cX8_refusesChange 73 = .ok (.goto (-22), 3) := DX8_refusesChange_4.2.2.2.1
theorem dX8_refusesChange_76 : decode cX8_refusesChange 76 = .ok (.aload_n 0, 1) := DX8_refusesChange_4.2.2.2.2.1
theorem dX8_refusesChange_77 : decode cX8_refusesChange 77 = .ok (.dup, 1) := DX8_refusesChange_4.2.2.2.2.2.1
theorem dX8_refusesChange_78 : decode cX8_refusesChange 78 = .ok (.getfield 55, 3) := DX8_refusesChange_4.2.2.2.2.2.2.1
theorem dX8_refusesChange_81 : decode cX8_refusesChange 81 = .ok (.iconst 1, 1) := DX8_refusesChange_4.2.2.2.2.2.2.2.1
theorem dX8_refusesChange_82 : decode cX8_refusesChange 82 = .ok (.isub, 1) := DX8_refusesChange_4.2.2.2.2.2.2.2.2.1
theorem dX8_refusesChange_83 : decode cX8_refusesChange 83 = .ok (.putfield 55, 3) := DX8_refusesChange_4.2.2.2.2.2.2.2.2.2
set_option maxRecDepth 100000 in
theorem DX8_refusesChange_5 : decode cX8_refusesChange 86 = .ok (.iconst 0, 1) ∧ decode cX8_refusesChange 87 = .ok (.istore_n 2, 1) ∧ decode cX8_refusesChange 88 = .ok (.iload_n 2, 1) ∧ decode cX8_refusesChange 89 = .ok (.sipush 277, 3) ∧ decode cX8_refusesChange 92 = .ok (.if_icmp .ge 30, 3) ∧ decode cX8_refusesChange 95 = .ok (.aload_n 0, 1) ∧ decode cX8_refusesChange 96 = .ok (.getfield 19, 3) ∧ decode cX8_refusesChange 99 = .ok (.sipush 277, 3) ∧ decode cX8_refusesChange 102 = .ok (.aload_n 0, 1) ∧ decode cX8_refusesChange 103 = .ok (.getfield 55, 3) := by decide +kernel
theorem dX8_refusesChange_86 : decode cX8_refusesChange 86 = .ok (.iconst 0, 1) := DX8_refusesChange_5.1
theorem dX8_refusesChange_87 : decode cX8_refusesChange 87 = .ok (.istore_n 2, 1) := DX8_refusesChange_5.2.1
theorem dX8_refusesChange_88 : decode cX8_refusesChange 88 = .ok (.iload_n 2, 1) := DX8_refusesChange_5.2.2.1
theorem dX8_refusesChange_89 : decode cX8_refusesChange 89 = .ok (.sipush 277, 3) := DX8_refusesChange_5.2.2.2.1
theorem dX8_refusesChange_92 : decode cX8_refusesChange 92 = .ok (.if_icmp .ge 30, 3) := DX8_refusesChange_5.2.2.2.2.1
theorem dX8_refusesChange_95 : decode cX8_refusesChange 95 = .ok (.aload_n 0, 1) := DX8_refusesChange_5.2.2.2.2.2.1
theorem dX8_refusesChange_96 : decode cX8_refusesChange 96 = .ok (.getfield 19, 3) := DX8_refusesChange_5.2.2.2.2.2.2.1
theorem dX8_refusesChange_99 : decode cX8_refusesChange 99 = .ok (.sipush 277, 3) := DX8_refusesChange_5.2.2.2.2.2.2.2.1
theorem dX8_refusesChange_102 : decode cX8_refusesChange 102 = .ok (.aload_n 0, 1) := DX8_refusesChange_5.2.2.2.2.2.2.2.2.1
theorem dX8_refusesChange_103 : decode cX8_refusesChange 103 = .ok (.getfield 55, 3) := DX8_refusesChange_5.2.2.2.2.2.2.2.2.2
set_option maxRecDepth 100000 in
theorem DX8_refusesChange_6 : decode cX8_refusesChange 106 = .ok (.imul, 1) ∧ decode cX8_refusesChange 107 = .ok (.iload_n 2, 1) ∧ decode cX8_refusesChange 108 = .ok (.iadd, 1) ∧ decode cX8_refusesChange 109 = .ok (.aload_n 0, 1) ∧ decode cX8_refusesChange 110 = .ok (.getfield 7, 3) ∧ decode cX8_refusesChange 113 = .ok (.iload_n 2, 1) ∧ decode cX8_refusesChange 114 = .ok (.iaload, 1) ∧ decode cX8_refusesChange 115 = .ok (.iastore, 1) ∧ decode cX8_refusesChange 116 = .ok (.iinc 2 1, 3) ∧ decode cX8_refusesChange 119 = .ok (.goto (-31), 3) := by decide +kernel
theorem dX8_refusesChange_106 : decode cX8_refusesChange 106 = .ok (.imul, 1) := DX8_refusesChange_6.1
theorem dX8_refusesChange_107 : decode cX8_refusesChange 107 = .ok (.iload_n 2, 1) := DX8_refusesChange_6.2.1
theorem dX8_refusesChange_108 : decode cX8_refusesChange 108 = .ok (.iadd, 1) := DX8_refusesChange_6.2.2.1
theorem dX8_refusesChange_109 : decode cX8_refusesChange 109 = .ok (.aload_n 0, 1) := DX8_refusesChange_6.2.2.2.1
theorem dX8_refusesChange_110 : decode cX8_refusesChange 110 = .ok (.getfield 7, 3) := DX8_refusesChange_6.2.2.2.2.1
theorem dX8_refusesChange_113 : decode cX8_refusesChange 113 = .ok (.iload_n 2, 1) := DX8_refusesChange_6.2.2.2.2.2.1
theorem dX8_refusesChange_114 : decode cX8_refusesChange 114 = .ok (.iaload, 1) := DX8_refusesChange_6.2.2.2.2.2.2.1
theorem dX8_refusesChange_115 : decode cX8_refusesChange 115 = .ok (.iastore, 1) := DX8_refusesChange_6.2.2.2.2.2.2.2.1
theorem dX8_refusesChange_116 : decode cX8_refusesChange 116 = .ok (.iinc 2 1, 3) := DX8_refusesChange_6.2.2.2.2.2.2.2.2.1
theorem dX8_refusesChange_119 : decode cX8_refusesChange 119 = .ok (.goto (-31), 3) := DX8_refusesChange_6.2.2.2.2.2.2.2.2.2
set_option maxRecDepth 100000 in
theorem DX8_refusesChange_7 : decode cX8_refusesChange 122 = .ok (.aload_n 0, 1) ∧ decode cX8_refusesChange 123 = .ok (.getfield 22, 3) ∧ decode cX8_refusesChange 126 = .ok (.aload_n 0, 1) ∧ decode cX8_refusesChange 127 = .ok (.getfield 55, 3) ∧ decode cX8_refusesChange 130 = .ok (.aload_n 0, 1) ∧ decode cX8_refusesChange 131 = .ok (.getfield 15, 3) ∧ decode cX8_refusesChange 134 = .ok (.lastore, 1) ∧ decode cX8_refusesChange 135 = .ok (.aload_n 0, 1) ∧ decode cX8_refusesChange 136 = .ok (.dup, 1) ∧ decode cX8_refusesChange 137 = .ok (.getfield 55, 3) := by decide +kernel
theorem dX8_refusesChange_122 : decode cX8_refusesChange 122 = .ok (.aload_n 0, 1) := DX8_refusesChange_7.1
theorem dX8_refusesChange_123 : decode cX8_refusesChange 123 = .ok (.getfield 22, 3) := DX8_refusesChange_7.2.1
theorem dX8_refusesChange_126 : decode cX8_refusesChange 126 = .ok (.aload_n 0, 1) := DX8_refusesChange_7.2.2.1
theorem dX8_refusesChange_127 : decode cX8_refusesChange 127 = .ok (.getfield 55, 3) := DX8_refusesChange_7.2.2.2.1
theorem dX8_refusesChange_130 : decode cX8_refusesChange 130 = .ok (.aload_n 0, 1) := DX8_refusesChange_7.2.2.2.2.1
theorem dX8_refusesChange_131 : decode cX8_refusesChange 131 = .ok (.getfield 15, 3) := DX8_refusesChange_7.2.2.2.2.2.1
theorem dX8_refusesChange_134 : decode cX8_refusesChange 134 = .ok (.lastore, 1) := DX8_refusesChange_7.2.2.2.2.2.2.1
theorem dX8_refusesChange_135 : decode cX8_refusesChange 135 = .ok (.aload_n 0, 1) := DX8_refusesChange_7.2.2.2.2.2.2.2.1
theorem dX8_refusesChange_136 : decode cX8_refusesChange 136 = .ok (.dup, 1) := DX8_refusesChange_7.2.2.2.2.2.2.2.2.1
theorem dX8_refusesChange_137 : decode cX8_refusesChange 137 = .ok (.getfield 55, 3) := DX8_refusesChange_7.2.2.2.2.2.2.2.2.2
set_option maxRecDepth 100000 in
theorem DX8_refusesChange_8 : decode cX8_refusesChange 140 = .ok (.iconst 1, 1) ∧ decode cX8_refusesChange 141 = .ok (.iadd, 1) ∧ decode cX8_refusesChange 142 = .ok (.putfield 55, 3) ∧ decode cX8_refusesChange 145 = .ok (.iconst 0, 1) ∧ decode cX8_refusesChange 146 = .ok (.ireturn, 1) := by decide +kernel
theorem dX8_refusesChange_140 : decode cX8_refusesChange 140 = .ok (.iconst 1, 1) := DX8_refusesChange_8.1
theorem dX8_refusesChange_141 : decode cX8_refusesChange 141 = .ok (.iadd, 1) := DX8_refusesChange_8.2.1
theorem dX8_refusesChange_142 : decode cX8_refusesChange 142 = .ok (.putfield 55, 3) := DX8_refusesChange_8.2.2.1
theorem dX8_refusesChange_145 : decode cX8_refusesChange 145 = .ok (.iconst 0, 1) := DX8_refusesChange_8.2.2.2.1
theorem dX8_refusesChange_146 : decode cX8_refusesChange 146 = .ok (.ireturn, 1) := DX8_refusesChange_8.2.2.2.2
set_option maxRecDepth 100000 in
theorem DX8_floor_0 : decode cX8_floor 0 = .ok (.lload_n 0, 1) ∧ decode cX8_floor 1 = .ok (.lload_n 2, 1) ∧ decode cX8_floor 2 = .ok (.ldiv, 1) ∧ decode cX8_floor 3 = .ok (.lstore 4, 2) ∧ decode cX8_floor 5 = .ok (.lload_n 0, 1) ∧ decode cX8_floor 6 = .ok (.lload_n 2, 1) ∧ decode cX8_floor 7 = .ok (.lrem, 1) ∧ decode cX8_floor 8 = .ok (.lconst 0, 1) ∧ decode cX8_floor 9 = .ok (.lcmp, 1) ∧ decode cX8_floor 10 = .ok (.ifCond .ge 10, 3) := by decide +kernel
theorem dX8_floor_0 : decode cX8_floor 0 = .ok (.lload_n 0, 1) := DX8_floor_0.1
theorem dX8_floor_1 : decode cX8_floor 1 = .ok (.lload_n 2, 1) := DX8_floor_0.2.1
theorem dX8_floor_2 : decode cX8_floor 2 = .ok (.ldiv, 1) := DX8_floor_0.2.2.1
theorem dX8_floor_3 : decode cX8_floor 3 = .ok (.lstore 4, 2) := DX8_floor_0.2.2.2.1
theorem dX8_floor_5 : decode cX8_floor 5 = .ok (.lload_n 0, 1) := DX8_floor_0.2.2.2.2.1
theorem dX8_floor_6 : decode cX8_floor 6 = .ok (.lload_n 2, 1) := DX8_floor_0.2.2.2.2.2.1
theorem dX8_floor_7 : decode cX8_floor 7 = .ok (.lrem, 1) := DX8_floor_0.2.2.2.2.2.2.1
theorem dX8_floor_8 : decode cX8_floor 8 = .ok (.lconst 0, 1) := DX8_floor_0.2.2.2.2.2.2.2.1
theorem dX8_floor_9 : decode cX8_floor 9 = .ok (.lcmp, 1) := DX8_floor_0.2.2.2.2.2.2.2.2.1
theorem dX8_floor_10 : decode cX8_floor 10 = .ok (.ifCond .ge 10, 3) := DX8_floor_0.2.2.2.2.2.2.2.2.2
set_option maxRecDepth 100000 in
theorem DX8_floor_1 : decode cX8_floor 13 = .ok (.lload 4, 2) ∧ decode cX8_floor 15 = .ok (.lconst 1, 1) ∧ decode cX8_floor 16 = .ok (.lsub, 1) ∧ decode cX8_floor 17 = .ok (.goto 5, 3) ∧ decode cX8_floor 20 = .ok (.lload 4, 2) ∧ decode cX8_floor 22 = .ok (.lreturn, 1) := by decide +kernel
theorem dX8_floor_13 : decode cX8_floor 13 = .ok (.lload 4, 2) := DX8_floor_1.1
theorem dX8_floor_15 : decode cX8_floor 15 = .ok (.lconst 1, 1) := DX8_floor_1.2.1
theorem dX8_floor_16 : decode cX8_floor 16 = .ok (.lsub, 1) := DX8_floor_1.2.2.1
theorem dX8_floor_17 : decode cX8_floor 17 = .ok (.goto 5, 3) := DX8_floor_1.2.2.2.1
theorem dX8_floor_20 : decode cX8_floor 20 = .ok (.lload 4, 2) := DX8_floor_1.2.2.2.2.1
theorem dX8_floor_22 : decode cX8_floor 22 = .ok (.lreturn, 1) := DX8_floor_1.2.2.2.2.2
set_option maxRecDepth 100000 in
theorem DX8_applied_0 : decode cX8_applied 0 = .ok (.lload_n 0, 1) ∧ decode cX8_applied 1 = .ok (.iload_n 2, 1) ∧ decode cX8_applied 2 = .ok (.i2l, 1) ∧ decode cX8_applied 3 = .ok (.lmul, 1) ∧ decode cX8_applied 4 = .ok (.ldc2_w 58, 3) ∧ decode cX8_applied 7 = .ok (.invokestatic 60, 3) ∧ decode cX8_applied 10 = .ok (.l2i, 1) ∧ decode cX8_applied 11 = .ok (.ireturn, 1) := by decide +kernel
theorem dX8_applied_0 : decode cX8_applied 0 = .ok (.lload_n 0, 1) := DX8_applied_0.1
theorem dX8_applied_1 : decode cX8_applied 1 = .ok (.iload_n 2, 1) := DX8_applied_0.2.1
theorem dX8_applied_2 : decode cX8_applied 2 = .ok (.i2l, 1) := DX8_applied_0.2.2.1
theorem dX8_applied_3 : decode cX8_applied 3 = .ok (.lmul, 1) := DX8_applied_0.2.2.2.1
theorem dX8_applied_4 : decode cX8_applied 4 = .ok (.ldc2_w 58, 3) := DX8_applied_0.2.2.2.2.1
theorem dX8_applied_7 : decode cX8_applied 7 = .ok (.invokestatic 60, 3) := DX8_applied_0.2.2.2.2.2.1
theorem dX8_applied_10 : decode cX8_applied 10 = .ok (.l2i, 1) := DX8_applied_0.2.2.2.2.2.2.1
theorem dX8_applied_11 : decode cX8_applied 11 = .ok (.ireturn, 1) := DX8_applied_0.2.2.2.2.2.2.2
set_option maxRecDepth 100000 in
theorem DX8_becomes_0 : decode cX8_becomes 0 = .ok (.aload_n 0, 1) ∧ decode cX8_becomes 1 = .ok (.getfield 7, 3) ∧ decode cX8_becomes 4 = .ok (.iload_n 1, 1) ∧ decode cX8_becomes 5 = .ok (.iaload, 1) ∧ decode cX8_becomes 6 = .ok (.istore_n 3, 1) ∧ decode cX8_becomes 7 = .ok (.aload_n 0, 1) ∧ decode cX8_becomes 8 = .ok (.getfield 7, 3) ∧ decode cX8_becomes 11 = .ok (.iload_n 1, 1) ∧ decode cX8_becomes 12 = .ok (.iload_n 2, 1) ∧ decode cX8_becomes 13 = .ok (.iastore, 1) := by decide +kernel
theorem dX8_becomes_0 : decode cX8_becomes 0 = .ok (.aload_n 0, 1) := DX8_becomes_0.1
theorem dX8_becomes_1 : decode cX8_becomes 1 = .ok (.getfield 7, 3) := DX8_becomes_0.2.1
theorem dX8_becomes_4 : decode cX8_becomes 4 = .ok (.iload_n 1, 1) := DX8_becomes_0.2.2.1
theorem dX8_becomes_5 : decode cX8_becomes 5 = .ok (.iaload, 1) := DX8_becomes_0.2.2.2.1
theorem dX8_becomes_6 : decode cX8_becomes 6 = .ok (.istore_n 3, 1) := DX8_becomes_0.2.2.2.2.1
theorem dX8_becomes_7 : decode cX8_becomes 7 = .ok (.aload_n 0, 1) := DX8_becomes_0.2.2.2.2.2.1
theorem dX8_becomes_8 : decode cX8_becomes 8 = .ok (.getfield 7, 3) := DX8_becomes_0.2.2.2.2.2.2.1
theorem dX8_becomes_11 : decode cX8_becomes 11 = .ok (.iload_n 1, 1) := DX8_becomes_0.2.2.2.2.2.2.2.1
theorem dX8_becomes_12 : decode cX8_becomes 12 = .ok (.iload_n 2, 1) := DX8_becomes_0.2.2.2.2.2.2.2.2.1
theorem dX8_becomes_13 : decode cX8_becomes 13 = .ok (.iastore, 1) := DX8_becomes_0.2.2.2.2.2.2.2.2.2
set_option maxRecDepth 100000 in
theorem DX8_becomes_1 : decode cX8_becomes 14 = .ok (.iload_n 3, 1) ∧ decode cX8_becomes 15 = .ok (.ireturn, 1) := by decide +kernel
theorem dX8_becomes_14 : decode cX8_becomes 14 = .ok (.iload_n 3, 1) := DX8_becomes_1.1
theorem dX8_becomes_15 : decode cX8_becomes 15 = .ok (.ireturn, 1) := DX8_becomes_1.2
set_option maxRecDepth 100000 in
theorem DX8_isSource_0 : decode cX8_isSource 0 = .ok (.iload_n 0, 1) ∧ decode cX8_isSource 1 = .ok (.i2l, 1) ∧ decode cX8_isSource 2 = .ok (.lconst 0, 1) ∧ decode cX8_isSource 3 = .ok (.ldc2_w 64, 3) ∧ decode cX8_isSource 6 = .ok (.invokestatic 45, 3) ∧ decode cX8_isSource 9 = .ok (.ireturn, 1) := by decide +kernel
theorem dX8_isSource_0 : decode cX8_isSource 0 = .ok (.iload_n 0, 1) := DX8_isSource_0.1
theorem dX8_isSource_1 : decode cX8_isSource 1 = .ok (.i2l, 1) := DX8_isSource_0.2.1
theorem dX8_isSource_2 : decode cX8_isSource 2 = .ok (.lconst 0, 1) := DX8_isSource_0.2.2.1
theorem dX8_isSource_3 : decode cX8_isSource 3 = .ok (.ldc2_w 64, 3) := DX8_isSource_0.2.2.2.1
theorem dX8_isSource_6 : decode cX8_isSource 6 = .ok (.invokestatic 45, 3) := DX8_isSource_0.2.2.2.2.1
theorem dX8_isSource_9 : decode cX8_isSource 9 = .ok (.ireturn, 1) := DX8_isSource_0.2.2.2.2.2
set_option maxRecDepth 100000 in
theorem DX8_setSource_0 : decode cX8_setSource 0 = .ok (.iload_n 2, 1) ∧ decode cX8_setSource 1 = .ok (.i2l, 1) ∧ decode cX8_setSource 2 = .ok (.lconst 0, 1) ∧ decode cX8_setSource 3 = .ok (.ldc2_w 43, 3) ∧ decode cX8_setSource 6 = .ok (.invokestatic 45, 3) ∧ decode cX8_setSource 9 = .ok (.ifCond .eq 45, 3) ∧ decode cX8_setSource 12 = .ok (.iload_n 3, 1) ∧ decode cX8_setSource 13 = .ok (.i2l, 1) ∧ decode cX8_setSource 14 = .ok (.lconst 0, 1) ∧ decode cX8_setSource 15 = .ok (.ldc2_w 66, 3) := by decide +kernel
theorem dX8_setSource_0 : decode cX8_setSource 0 = .ok (.iload_n 2, 1) := DX8_setSource_0.1
theorem dX8_setSource_1 : decode cX8_setSource 1 = .ok (.i2l, 1) := DX8_setSource_0.2.1
theorem dX8_setSource_2 : decode cX8_setSource 2 = .ok (.lconst 0, 1) := DX8_setSource_0.2.2.1
theorem dX8_setSource_3 : decode cX8_setSource 3 = .ok (.ldc2_w 43, 3) := DX8_setSource_0.2.2.2.1
theorem dX8_setSource_6 : decode cX8_setSource 6 = .ok (.invokestatic 45, 3) := DX8_setSource_0.2.2.2.2.1
theorem dX8_setSource_9 : decode cX8_setSource 9 = .ok (.ifCond .eq 45, 3) := DX8_setSource_0.2.2.2.2.2.1
theorem dX8_setSource_12 : decode cX8_setSource 12 = .ok (.iload_n 3, 1) := DX8_setSource_0.2.2.2.2.2.2.1
theorem dX8_setSource_13 : decode cX8_setSource 13 = .ok (.i2l, 1) := DX8_setSource_0.2.2.2.2.2.2.2.1
theorem dX8_setSource_14 : decode cX8_setSource 14 = .ok (.lconst 0, 1) := DX8_setSource_0.2.2.2.2.2.2.2.2.1
theorem dX8_setSource_15 : decode cX8_setSource 15 = .ok (.ldc2_w 66, 3) := DX8_setSource_0.2.2.2.2.2.2.2.2.2
set_option maxRecDepth 100000 in
theorem DX8_setSource_1 : decode cX8_setSource 18 = .ok (.invokestatic 45, 3) ∧ decode cX8_setSource 21 = .ok (.ifCond .eq 33, 3) ∧ decode cX8_setSource 24 = .ok (.iload 4, 2) ∧ decode cX8_setSource 26 = .ok (.i2l, 1) ∧ decode cX8_setSource 27 = .ok (.lconst 1, 1) ∧ decode cX8_setSource 28 = .ok (.ldc2_w 58, 3) ∧ decode cX8_setSource 31 = .ok (.invokestatic 45, 3) ∧ decode cX8_setSource 34 = .ok (.ifCond .eq 20, 3) ∧ decode cX8_setSource 37 = .ok (.iload 5, 2) ∧ decode cX8_setSource 39 = .ok (.i2l, 1) := by decide +kernel
theorem dX8_setSource_18 : decode cX8_setSource 18 = .ok (.invokestatic 45, 3) := DX8_setSource_1.1
theorem dX8_setSource_21 : decode cX8_setSource 21 = .ok (.ifCond .eq 33, 3) := DX8_setSource_1.2.1
theorem dX8_setSource_24 : decode cX8_setSource 24 = .ok (.iload 4, 2) := DX8_setSource_1.2.2.1
theorem dX8_setSource_26 : decode cX8_setSource 26 = .ok (.i2l, 1) := DX8_setSource_1.2.2.2.1
theorem dX8_setSource_27 : decode cX8_setSource 27 = .ok (.lconst 1, 1) := DX8_setSource_1.2.2.2.2.1
theorem dX8_setSource_28 : decode cX8_setSource 28 = .ok (.ldc2_w 58, 3) := DX8_setSource_1.2.2.2.2.2.1
theorem dX8_setSource_31 : decode cX8_setSource 31 = .ok (.invokestatic 45, 3) := DX8_setSource_1.2.2.2.2.2.2.1
theorem dX8_setSource_34 : decode cX8_setSource 34 = .ok (.ifCond .eq 20, 3) := DX8_setSource_1.2.2.2.2.2.2.2.1
theorem dX8_setSource_37 : decode cX8_setSource 37 = .ok (.iload 5, 2) := DX8_setSource_1.2.2.2.2.2.2.2.2.1
theorem dX8_setSource_39 : decode cX8_setSource 39 = .ok (.i2l, 1) := DX8_setSource_1.2.2.2.2.2.2.2.2.2
set_option maxRecDepth 100000 in
theorem DX8_setSource_2 : decode cX8_setSource 40 = .ok (.lconst 1, 1) ∧ decode cX8_setSource 41 = .ok (.ldc2_w 68, 3) ∧ decode cX8_setSource 44 = .ok (.invokestatic 45, 3) ∧ decode cX8_setSource 47 = .ok (.ifCond .eq 7, 3) ∧ decode cX8_setSource 50 = .ok (.iconst 1, 1) ∧ decode cX8_setSource 51 = .ok (.goto 4, 3) ∧ decode cX8_setSource 54 = .ok (.iconst 0, 1) ∧ decode cX8_setSource 55 = .ok (.istore 6, 2) ∧ decode cX8_setSource 57 = .ok (.aload_n 0, 1) ∧ decode cX8_setSource 58 = .ok (.iload_n 1, 1) := by decide +kernel
theorem dX8_setSource_40 : decode cX8_setSource 40 = .ok (.lconst 1, 1) := DX8_setSource_2.1
theorem dX8_setSource_41 : decode cX8_setSource 41 = .ok (.ldc2_w 68, 3) := DX8_setSource_2.2.1
theorem dX8_setSource_44 : decode cX8_setSource 44 = .ok (.invokestatic 45, 3) := DX8_setSource_2.2.2.1
theorem dX8_setSource_47 : decode cX8_setSource 47 = .ok (.ifCond .eq 7, 3) := DX8_setSource_2.2.2.2.1
theorem dX8_setSource_50 : decode cX8_setSource 50 = .ok (.iconst 1, 1) := DX8_setSource_2.2.2.2.2.1
theorem dX8_setSource_51 : decode cX8_setSource 51 = .ok (.goto 4, 3) := DX8_setSource_2.2.2.2.2.2.1
theorem dX8_setSource_54 : decode cX8_setSource 54 = .ok (.iconst 0, 1) := DX8_setSource_2.2.2.2.2.2.2.1
theorem dX8_setSource_55 : decode cX8_setSource 55 = .ok (.istore 6, 2) := DX8_setSource_2.2.2.2.2.2.2.2.1
theorem dX8_setSource_57 : decode cX8_setSource 57 = .ok (.aload_n 0, 1) := DX8_setSource_2.2.2.2.2.2.2.2.2.1
theorem dX8_setSource_58 : decode cX8_setSource 58 = .ok (.iload_n 1, 1) := DX8_setSource_2.2.2.2.2.2.2.2.2.2
set_option maxRecDepth 100000 in
theorem DX8_setSource_3 : decode cX8_setSource 59 = .ok (.invokestatic 70, 3) ∧ decode cX8_setSource 62 = .ok (.ifCond .ne 7, 3) ∧ decode cX8_setSource 65 = .ok (.iconst 1, 1) ∧ decode cX8_setSource 66 = .ok (.goto 13, 3) ∧ decode cX8_setSource 69 = .ok (.iload 6, 2) ∧ decode cX8_setSource 71 = .ok (.ifCond .eq 7, 3) ∧ decode cX8_setSource 74 = .ok (.iconst 0, 1) ∧ decode cX8_setSource 75 = .ok (.goto 4, 3) ∧ decode cX8_setSource 78 = .ok (.iconst 2, 1) ∧ decode cX8_setSource 79 = .ok (.invokevirtual 73, 3) := by decide +kernel
theorem dX8_setSource_59 : decode cX8_setSource 59 = .ok (.invokestatic 70, 3) := DX8_setSource_3.1
theorem dX8_setSource_62 : decode cX8_setSource 62 = .ok (.ifCond .ne 7, 3) := DX8_setSource_3.2.1
theorem dX8_setSource_65 : decode cX8_setSource 65 = .ok (.iconst 1, 1) := DX8_setSource_3.2.2.1
theorem dX8_setSource_66 : decode cX8_setSource 66 = .ok (.goto 13, 3) := DX8_setSource_3.2.2.2.1
theorem dX8_setSource_69 : decode cX8_setSource 69 = .ok (.iload 6, 2) := DX8_setSource_3.2.2.2.2.1
theorem dX8_setSource_71 : decode cX8_setSource 71 = .ok (.ifCond .eq 7, 3) := DX8_setSource_3.2.2.2.2.2.1
theorem dX8_setSource_74 : decode cX8_setSource 74 = .ok (.iconst 0, 1) := DX8_setSource_3.2.2.2.2.2.2.1
theorem dX8_setSource_75 : decode cX8_setSource 75 = .ok (.goto 4, 3) := DX8_setSource_3.2.2.2.2.2.2.2.1
theorem dX8_setSource_78 : decode cX8_setSource 78 = .ok (.iconst 2, 1) := DX8_setSource_3.2.2.2.2.2.2.2.2.1
theorem dX8_setSource_79 : decode cX8_setSource 79 = .ok (.invokevirtual 73, 3) := DX8_setSource_3.2.2.2.2.2.2.2.2.2
set_option maxRecDepth 100000 in
theorem DX8_setSource_4 : decode cX8_setSource 82 = .ok (.ifCond .eq 5, 3) ∧ decode cX8_setSource 85 = .ok (.iconst 0, 1) ∧ decode cX8_setSource 86 = .ok (.ireturn, 1) ∧ decode cX8_setSource 87 = .ok (.bipush 9, 2) ∧ decode cX8_setSource 89 = .ok (.iconst 4, 1) ∧ decode cX8_setSource 90 = .ok (.iload_n 1, 1) ∧ decode cX8_setSource 91 = .ok (.imul, 1) ∧ decode cX8_setSource 92 = .ok (.iadd, 1) ∧ decode cX8_setSource 93 = .ok (.istore 7, 2) ∧ decode cX8_setSource 95 = .ok (.aload_n 0, 1) := by decide +kernel
theorem dX8_setSource_82 : decode cX8_setSource 82 = .ok (.ifCond .eq 5, 3) := DX8_setSource_4.1
theorem dX8_setSource_85 : decode cX8_setSource 85 = .ok (.iconst 0, 1) := DX8_setSource_4.2.1
theorem dX8_setSource_86 : decode cX8_setSource 86 = .ok (.ireturn, 1) := DX8_setSource_4.2.2.1
theorem dX8_setSource_87 : decode cX8_setSource 87 = .ok (.bipush 9, 2) := DX8_setSource_4.2.2.2.1
theorem dX8_setSource_89 : decode cX8_setSource 89 = .ok (.iconst 4, 1) := DX8_setSource_4.2.2.2.2.1
theorem dX8_setSource_90 : decode cX8_setSource 90 = .ok (.iload_n 1, 1) := DX8_setSource_4.2.2.2.2.2.1
theorem dX8_setSource_91 : decode cX8_setSource 91 = .ok (.imul, 1) := DX8_setSource_4.2.2.2.2.2.2.1
theorem dX8_setSource_92 : decode cX8_setSource 92 = .ok (.iadd, 1) := DX8_setSource_4.2.2.2.2.2.2.2.1
theorem dX8_setSource_93 : decode cX8_setSource 93 = .ok (.istore 7, 2) := DX8_setSource_4.2.2.2.2.2.2.2.2.1
theorem dX8_setSource_95 : decode cX8_setSource 95 = .ok (.aload_n 0, 1) := DX8_setSource_4.2.2.2.2.2.2.2.2.2
set_option maxRecDepth 100000 in
theorem DX8_setSource_5 : decode cX8_setSource 96 = .ok (.getfield 7, 3) ∧ decode cX8_setSource 99 = .ok (.iload 7, 2) ∧ decode cX8_setSource 101 = .ok (.iload_n 2, 1) ∧ decode cX8_setSource 102 = .ok (.iastore, 1) ∧ decode cX8_setSource 103 = .ok (.aload_n 0, 1) ∧ decode cX8_setSource 104 = .ok (.getfield 7, 3) ∧ decode cX8_setSource 107 = .ok (.iload 7, 2) ∧ decode cX8_setSource 109 = .ok (.iconst 1, 1) ∧ decode cX8_setSource 110 = .ok (.iadd, 1) ∧ decode cX8_setSource 111 = .ok (.iload_n 3, 1) := by decide +kernel
theorem dX8_setSource_96 : decode cX8_setSource 96 = .ok (.getfield 7, 3) := DX8_setSource_5.1
theorem dX8_setSource_99 : decode cX8_setSource 99 = .ok (.iload 7, 2) := DX8_setSource_5.2.1
theorem dX8_setSource_101 : decode cX8_setSource 101 = .ok (.iload_n 2, 1) := DX8_setSource_5.2.2.1
theorem dX8_setSource_102 : decode cX8_setSource 102 = .ok (.iastore, 1) := DX8_setSource_5.2.2.2.1
theorem dX8_setSource_103 : decode cX8_setSource 103 = .ok (.aload_n 0, 1) := DX8_setSource_5.2.2.2.2.1
theorem dX8_setSource_104 : decode cX8_setSource 104 = .ok (.getfield 7, 3) := DX8_setSource_5.2.2.2.2.2.1
theorem dX8_setSource_107 : decode cX8_setSource 107 = .ok (.iload 7, 2) := DX8_setSource_5.2.2.2.2.2.2.1
theorem dX8_setSource_109 : decode cX8_setSource 109 = .ok (.iconst 1, 1) := DX8_setSource_5.2.2.2.2.2.2.2.1
theorem dX8_setSource_110 : decode cX8_setSource 110 = .ok (.iadd, 1) := DX8_setSource_5.2.2.2.2.2.2.2.2.1
theorem dX8_setSource_111 : decode cX8_setSource 111 = .ok (.iload_n 3, 1) := DX8_setSource_5.2.2.2.2.2.2.2.2.2
set_option maxRecDepth 100000 in
theorem DX8_setSource_6 : decode cX8_setSource 112 = .ok (.iastore, 1) ∧ decode cX8_setSource 113 = .ok (.aload_n 0, 1) ∧ decode cX8_setSource 114 = .ok (.getfield 7, 3) ∧ decode cX8_setSource 117 = .ok (.iload 7, 2) ∧ decode cX8_setSource 119 = .ok (.iconst 2, 1) ∧ decode cX8_setSource 120 = .ok (.iadd, 1) ∧ decode cX8_setSource 121 = .ok (.iload 4, 2) ∧ decode cX8_setSource 123 = .ok (.iastore, 1) ∧ decode cX8_setSource 124 = .ok (.aload_n 0, 1) ∧ decode cX8_setSource 125 = .ok (.iload 7, 2) := by decide +kernel
theorem dX8_setSource_112 : decode cX8_setSource 112 = .ok (.iastore, 1) := DX8_setSource_6.1
theorem dX8_setSource_113 : decode cX8_setSource 113 = .ok (.aload_n 0, 1) := DX8_setSource_6.2.1
theorem dX8_setSource_114 : decode cX8_setSource 114 = .ok (.getfield 7, 3) := DX8_setSource_6.2.2.1
theorem dX8_setSource_117 : decode cX8_setSource 117 = .ok (.iload 7, 2) := DX8_setSource_6.2.2.2.1
theorem dX8_setSource_119 : decode cX8_setSource 119 = .ok (.iconst 2, 1) := DX8_setSource_6.2.2.2.2.1
theorem dX8_setSource_120 : decode cX8_setSource 120 = .ok (.iadd, 1) := DX8_setSource_6.2.2.2.2.2.1
theorem dX8_setSource_121 : decode cX8_setSource 121 = .ok (.iload 4, 2) := DX8_setSource_6.2.2.2.2.2.2.1
theorem dX8_setSource_123 : decode cX8_setSource 123 = .ok (.iastore, 1) := DX8_setSource_6.2.2.2.2.2.2.2.1
theorem dX8_setSource_124 : decode cX8_setSource 124 = .ok (.aload_n 0, 1) := DX8_setSource_6.2.2.2.2.2.2.2.2.1
theorem dX8_setSource_125 : decode cX8_setSource 125 = .ok (.iload 7, 2) := DX8_setSource_6.2.2.2.2.2.2.2.2.2
set_option maxRecDepth 100000 in
theorem DX8_setSource_7 : decode cX8_setSource 127 = .ok (.iconst 3, 1) ∧ decode cX8_setSource 128 = .ok (.iadd, 1) ∧ decode cX8_setSource 129 = .ok (.iload 5, 2) ∧ decode cX8_setSource 131 = .ok (.invokevirtual 76, 3) ∧ decode cX8_setSource 134 = .ok (.ireturn, 1) := by decide +kernel
theorem dX8_setSource_127 : decode cX8_setSource 127 = .ok (.iconst 3, 1) := DX8_setSource_7.1
theorem dX8_setSource_128 : decode cX8_setSource 128 = .ok (.iadd, 1) := DX8_setSource_7.2.1
theorem dX8_setSource_129 : decode cX8_setSource 129 = .ok (.iload 5, 2) := DX8_setSource_7.2.2.1
theorem dX8_setSource_131 : decode cX8_setSource 131 = .ok (.invokevirtual 76, 3) := DX8_setSource_7.2.2.2.1
theorem dX8_setSource_134 : decode cX8_setSource 134 = .ok (.ireturn, 1) := DX8_setSource_7.2.2.2.2
set_option maxRecDepth 100000 in
theorem DX8_sampleOf_0 : decode cX8_sampleOf 0 = .ok (.aload_n 0, 1) ∧ decode cX8_sampleOf 1 = .ok (.getfield 7, 3) ∧ decode cX8_sampleOf 4 = .ok (.bipush 9, 2) ∧ decode cX8_sampleOf 6 = .ok (.iconst 4, 1) ∧ decode cX8_sampleOf 7 = .ok (.iload_n 1, 1) ∧ decode cX8_sampleOf 8 = .ok (.imul, 1) ∧ decode cX8_sampleOf 9 = .ok (.iadd, 1) ∧ decode cX8_sampleOf 10 = .ok (.iconst 1, 1) ∧ decode cX8_sampleOf 11 = .ok (.iadd, 1) ∧ decode cX8_sampleOf 12 = .ok (.iaload, 1) := by decide +kernel
theorem dX8_sampleOf_0 : decode cX8_sampleOf 0 = .ok (.aload_n 0, 1) := DX8_sampleOf_0.1
theorem dX8_sampleOf_1 : decode cX8_sampleOf 1 = .ok (.getfield 7, 3) := DX8_sampleOf_0.2.1
theorem dX8_sampleOf_4 : decode cX8_sampleOf 4 = .ok (.bipush 9, 2) := DX8_sampleOf_0.2.2.1
theorem dX8_sampleOf_6 : decode cX8_sampleOf 6 = .ok (.iconst 4, 1) := DX8_sampleOf_0.2.2.2.1
theorem dX8_sampleOf_7 : decode cX8_sampleOf 7 = .ok (.iload_n 1, 1) := DX8_sampleOf_0.2.2.2.2.1
theorem dX8_sampleOf_8 : decode cX8_sampleOf 8 = .ok (.imul, 1) := DX8_sampleOf_0.2.2.2.2.2.1
theorem dX8_sampleOf_9 : decode cX8_sampleOf 9 = .ok (.iadd, 1) := DX8_sampleOf_0.2.2.2.2.2.2.1
theorem dX8_sampleOf_10 : decode cX8_sampleOf 10 = .ok (.iconst 1, 1) := DX8_sampleOf_0.2.2.2.2.2.2.2.1
theorem dX8_sampleOf_11 : decode cX8_sampleOf 11 = .ok (.iadd, 1) := DX8_sampleOf_0.2.2.2.2.2.2.2.2.1
theorem dX8_sampleOf_12 : decode cX8_sampleOf 12 = .ok (.iaload, 1) := DX8_sampleOf_0.2.2.2.2.2.2.2.2.2
set_option maxRecDepth 100000 in
theorem DX8_sampleOf_1 : decode cX8_sampleOf 13 = .ok (.istore_n 3, 1) ∧ decode cX8_sampleOf 14 = .ok (.aload_n 0, 1) ∧ decode cX8_sampleOf 15 = .ok (.getfield 7, 3) ∧ decode cX8_sampleOf 18 = .ok (.bipush 9, 2) ∧ decode cX8_sampleOf 20 = .ok (.iconst 4, 1) ∧ decode cX8_sampleOf 21 = .ok (.iload_n 1, 1) ∧ decode cX8_sampleOf 22 = .ok (.imul, 1) ∧ decode cX8_sampleOf 23 = .ok (.iadd, 1) ∧ decode cX8_sampleOf 24 = .ok (.iconst 2, 1) ∧ decode cX8_sampleOf 25 = .ok (.iadd, 1) := by decide +kernel
theorem dX8_sampleOf_13 : decode cX8_sampleOf 13 = .ok (.istore_n 3, 1) := DX8_sampleOf_1.1
theorem dX8_sampleOf_14 : decode cX8_sampleOf 14 = .ok (.aload_n 0, 1) := DX8_sampleOf_1.2.1
theorem dX8_sampleOf_15 : decode cX8_sampleOf 15 = .ok (.getfield 7, 3) := DX8_sampleOf_1.2.2.1
theorem dX8_sampleOf_18 : decode cX8_sampleOf 18 = .ok (.bipush 9, 2) := DX8_sampleOf_1.2.2.2.1
theorem dX8_sampleOf_20 : decode cX8_sampleOf 20 = .ok (.iconst 4, 1) := DX8_sampleOf_1.2.2.2.2.1
theorem dX8_sampleOf_21 : decode cX8_sampleOf 21 = .ok (.iload_n 1, 1) := DX8_sampleOf_1.2.2.2.2.2.1
theorem dX8_sampleOf_22 : decode cX8_sampleOf 22 = .ok (.imul, 1) := DX8_sampleOf_1.2.2.2.2.2.2.1
theorem dX8_sampleOf_23 : decode cX8_sampleOf 23 = .ok (.iadd, 1) := DX8_sampleOf_1.2.2.2.2.2.2.2.1
theorem dX8_sampleOf_24 : decode cX8_sampleOf 24 = .ok (.iconst 2, 1) := DX8_sampleOf_1.2.2.2.2.2.2.2.2.1
theorem dX8_sampleOf_25 : decode cX8_sampleOf 25 = .ok (.iadd, 1) := DX8_sampleOf_1.2.2.2.2.2.2.2.2.2
set_option maxRecDepth 100000 in
theorem DX8_sampleOf_2 : decode cX8_sampleOf 26 = .ok (.iaload, 1) ∧ decode cX8_sampleOf 27 = .ok (.istore 4, 2) ∧ decode cX8_sampleOf 29 = .ok (.iload_n 2, 1) ∧ decode cX8_sampleOf 30 = .ok (.iload 4, 2) ∧ decode cX8_sampleOf 32 = .ok (.irem, 1) ∧ decode cX8_sampleOf 33 = .ok (.istore 5, 2) ∧ decode cX8_sampleOf 35 = .ok (.aload_n 0, 1) ∧ decode cX8_sampleOf 36 = .ok (.getfield 7, 3) ∧ decode cX8_sampleOf 39 = .ok (.bipush 9, 2) ∧ decode cX8_sampleOf 41 = .ok (.iconst 4, 1) := by decide +kernel
theorem dX8_sampleOf_26 : decode cX8_sampleOf 26 = .ok (.iaload, 1) := DX8_sampleOf_2.1
theorem dX8_sampleOf_27 : decode cX8_sampleOf 27 = .ok (.istore 4, 2) := DX8_sampleOf_2.2.1
theorem dX8_sampleOf_29 : decode cX8_sampleOf 29 = .ok (.iload_n 2, 1) := DX8_sampleOf_2.2.2.1
theorem dX8_sampleOf_30 : decode cX8_sampleOf 30 = .ok (.iload 4, 2) := DX8_sampleOf_2.2.2.2.1
theorem dX8_sampleOf_32 : decode cX8_sampleOf 32 = .ok (.irem, 1) := DX8_sampleOf_2.2.2.2.2.1
theorem dX8_sampleOf_33 : decode cX8_sampleOf 33 = .ok (.istore 5, 2) := DX8_sampleOf_2.2.2.2.2.2.1
theorem dX8_sampleOf_35 : decode cX8_sampleOf 35 = .ok (.aload_n 0, 1) := DX8_sampleOf_2.2.2.2.2.2.2.1
theorem dX8_sampleOf_36 : decode cX8_sampleOf 36 = .ok (.getfield 7, 3) := DX8_sampleOf_2.2.2.2.2.2.2.2.1
theorem dX8_sampleOf_39 : decode cX8_sampleOf 39 = .ok (.bipush 9, 2) := DX8_sampleOf_2.2.2.2.2.2.2.2.2.1
theorem dX8_sampleOf_41 : decode cX8_sampleOf 41 = .ok (.iconst 4, 1) := DX8_sampleOf_2.2.2.2.2.2.2.2.2.2
set_option maxRecDepth 100000 in
theorem DX8_sampleOf_3 : decode cX8_sampleOf 42 = .ok (.iload_n 1, 1) ∧ decode cX8_sampleOf 43 = .ok (.imul, 1) ∧ decode cX8_sampleOf 44 = .ok (.iadd, 1) ∧ decode cX8_sampleOf 45 = .ok (.iaload, 1) ∧ decode cX8_sampleOf 46 = .ok (.tableswitch 93 1 3 #[26, 42, 54], 26) ∧ decode cX8_sampleOf 72 = .ok (.iconst 2, 1) ∧ decode cX8_sampleOf 73 = .ok (.iload 5, 2) ∧ decode cX8_sampleOf 75 = .ok (.imul, 1) ∧ decode cX8_sampleOf 76 = .ok (.iload 4, 2) ∧ decode cX8_sampleOf 78 = .ok (.if_icmp .ge 7, 3) := by decide +kernel
theorem dX8_sampleOf_42 : decode cX8_sampleOf 42 = .ok (.iload_n 1, 1) := DX8_sampleOf_3.1
theorem dX8_sampleOf_43 : decode cX8_sampleOf 43 = .ok (.imul, 1) := DX8_sampleOf_3.2.1
theorem dX8_sampleOf_44 : decode cX8_sampleOf 44 = .ok (.iadd, 1) := DX8_sampleOf_3.2.2.1
theorem dX8_sampleOf_45 : decode cX8_sampleOf 45 = .ok (.iaload, 1) := DX8_sampleOf_3.2.2.2.1
theorem dX8_sampleOf_46 : decode cX8_sampleOf 46 = .ok (.tableswitch 93 1 3 #[26, 42, 54], 26) := DX8_sampleOf_3.2.2.2.2.1
theorem dX8_sampleOf_72 : decode cX8_sampleOf 72 = .ok (.iconst 2, 1) := DX8_sampleOf_3.2.2.2.2.2.1
theorem dX8_sampleOf_73 : decode cX8_sampleOf 73 = .ok (.iload 5, 2) := DX8_sampleOf_3.2.2.2.2.2.2.1
theorem dX8_sampleOf_75 : decode cX8_sampleOf 75 = .ok (.imul, 1) := DX8_sampleOf_3.2.2.2.2.2.2.2.1
theorem dX8_sampleOf_76 : decode cX8_sampleOf 76 = .ok (.iload 4, 2) := DX8_sampleOf_3.2.2.2.2.2.2.2.2.1
theorem dX8_sampleOf_78 : decode cX8_sampleOf 78 = .ok (.if_icmp .ge 7, 3) := DX8_sampleOf_3.2.2.2.2.2.2.2.2.2
set_option maxRecDepth 100000 in
theorem DX8_sampleOf_4 : decode cX8_sampleOf 81 = .ok (.iload_n 3, 1) ∧ decode cX8_sampleOf 82 = .ok (.goto 5, 3) ∧ decode cX8_sampleOf 85 = .ok (.iload_n 3, 1) ∧ decode cX8_sampleOf 86 = .ok (.ineg, 1) ∧ decode cX8_sampleOf 87 = .ok (.ireturn, 1) ∧ decode cX8_sampleOf 88 = .ok (.iconst 2, 1) ∧ decode cX8_sampleOf 89 = .ok (.iload_n 3, 1) ∧ decode cX8_sampleOf 90 = .ok (.imul, 1) ∧ decode cX8_sampleOf 91 = .ok (.iload 5, 2) ∧ decode cX8_sampleOf 93 = .ok (.imul, 1) := by decide +kernel
theorem dX8_sampleOf_81 : decode cX8_sampleOf 81 = .ok (.iload_n 3, 1) := DX8_sampleOf_4.1
theorem dX8_sampleOf_82 : decode cX8_sampleOf 82 = .ok (.goto 5, 3) := DX8_sampleOf_4.2.1
theorem dX8_sampleOf_85 : decode cX8_sampleOf 85 = .ok (.iload_n 3, 1) := DX8_sampleOf_4.2.2.1
theorem dX8_sampleOf_86 : decode cX8_sampleOf 86 = .ok (.ineg, 1) := DX8_sampleOf_4.2.2.2.1
theorem dX8_sampleOf_87 : decode cX8_sampleOf 87 = .ok (.ireturn, 1) := DX8_sampleOf_4.2.2.2.2.1
theorem dX8_sampleOf_88 : decode cX8_sampleOf 88 = .ok (.iconst 2, 1) := DX8_sampleOf_4.2.2.2.2.2.1
theorem dX8_sampleOf_89 : decode cX8_sampleOf 89 = .ok (.iload_n 3, 1) := DX8_sampleOf_4.2.2.2.2.2.2.1
theorem dX8_sampleOf_90 : decode cX8_sampleOf 90 = .ok (.imul, 1) := DX8_sampleOf_4.2.2.2.2.2.2.2.1
theorem dX8_sampleOf_91 : decode cX8_sampleOf 91 = .ok (.iload 5, 2) := DX8_sampleOf_4.2.2.2.2.2.2.2.2.1
theorem dX8_sampleOf_93 : decode cX8_sampleOf 93 = .ok (.imul, 1) := DX8_sampleOf_4.2.2.2.2.2.2.2.2.2
set_option maxRecDepth 100000 in
theorem DX8_sampleOf_5 : decode cX8_sampleOf 94 = .ok (.iload 4, 2) ∧ decode cX8_sampleOf 96 = .ok (.idiv, 1) ∧ decode cX8_sampleOf 97 = .ok (.iload_n 3, 1) ∧ decode cX8_sampleOf 98 = .ok (.isub, 1) ∧ decode cX8_sampleOf 99 = .ok (.ireturn, 1) ∧ decode cX8_sampleOf 100 = .ok (.ldc2_w 80, 3) ∧ decode cX8_sampleOf 103 = .ok (.iload_n 2, 1) ∧ decode cX8_sampleOf 104 = .ok (.iconst 1, 1) ∧ decode cX8_sampleOf 105 = .ok (.iadd, 1) ∧ decode cX8_sampleOf 106 = .ok (.i2l, 1) := by decide +kernel
theorem dX8_sampleOf_94 : decode cX8_sampleOf 94 = .ok (.iload 4, 2) := DX8_sampleOf_5.1
theorem dX8_sampleOf_96 : decode cX8_sampleOf 96 = .ok (.idiv, 1) := DX8_sampleOf_5.2.1
theorem dX8_sampleOf_97 : decode cX8_sampleOf 97 = .ok (.iload_n 3, 1) := DX8_sampleOf_5.2.2.1
theorem dX8_sampleOf_98 : decode cX8_sampleOf 98 = .ok (.isub, 1) := DX8_sampleOf_5.2.2.2.1
theorem dX8_sampleOf_99 : decode cX8_sampleOf 99 = .ok (.ireturn, 1) := DX8_sampleOf_5.2.2.2.2.1
theorem dX8_sampleOf_100 : decode cX8_sampleOf 100 = .ok (.ldc2_w 80, 3) := DX8_sampleOf_5.2.2.2.2.2.1
theorem dX8_sampleOf_103 : decode cX8_sampleOf 103 = .ok (.iload_n 2, 1) := DX8_sampleOf_5.2.2.2.2.2.2.1
theorem dX8_sampleOf_104 : decode cX8_sampleOf 104 = .ok (.iconst 1, 1) := DX8_sampleOf_5.2.2.2.2.2.2.2.1
theorem dX8_sampleOf_105 : decode cX8_sampleOf 105 = .ok (.iadd, 1) := DX8_sampleOf_5.2.2.2.2.2.2.2.2.1
theorem dX8_sampleOf_106 : decode cX8_sampleOf 106 = .ok (.i2l, 1) := DX8_sampleOf_5.2.2.2.2.2.2.2.2.2
set_option maxRecDepth 100000 in
theorem DX8_sampleOf_6 : decode cX8_sampleOf 107 = .ok (.lmul, 1) ∧ decode cX8_sampleOf 108 = .ok (.ldc2_w 82, 3) ∧ decode cX8_sampleOf 111 = .ok (.iload 4, 2) ∧ decode cX8_sampleOf 113 = .ok (.i2l, 1) ∧ decode cX8_sampleOf 114 = .ok (.lmul, 1) ∧ decode cX8_sampleOf 115 = .ok (.ladd, 1) ∧ decode cX8_sampleOf 116 = .ok (.ldc2_w 84, 3) ∧ decode cX8_sampleOf 119 = .ok (.lrem, 1) ∧ decode cX8_sampleOf 120 = .ok (.lstore 6, 2) ∧ decode cX8_sampleOf 122 = .ok (.lload 6, 2) := by decide +kernel
theorem dX8_sampleOf_107 : decode cX8_sampleOf 107 = .ok (.lmul, 1) := DX8_sampleOf_6.1
theorem dX8_sampleOf_108 : decode cX8_sampleOf 108 = .ok (.ldc2_w 82, 3) := DX8_sampleOf_6.2.1
theorem dX8_sampleOf_111 : decode cX8_sampleOf 111 = .ok (.iload 4, 2) := DX8_sampleOf_6.2.2.1
theorem dX8_sampleOf_113 : decode cX8_sampleOf 113 = .ok (.i2l, 1) := DX8_sampleOf_6.2.2.2.1
theorem dX8_sampleOf_114 : decode cX8_sampleOf 114 = .ok (.lmul, 1) := DX8_sampleOf_6.2.2.2.2.1
theorem dX8_sampleOf_115 : decode cX8_sampleOf 115 = .ok (.ladd, 1) := DX8_sampleOf_6.2.2.2.2.2.1
theorem dX8_sampleOf_116 : decode cX8_sampleOf 116 = .ok (.ldc2_w 84, 3) := DX8_sampleOf_6.2.2.2.2.2.2.1
theorem dX8_sampleOf_119 : decode cX8_sampleOf 119 = .ok (.lrem, 1) := DX8_sampleOf_6.2.2.2.2.2.2.2.1
theorem dX8_sampleOf_120 : decode cX8_sampleOf 120 = .ok (.lstore 6, 2) := DX8_sampleOf_6.2.2.2.2.2.2.2.2.1
theorem dX8_sampleOf_122 : decode cX8_sampleOf 122 = .ok (.lload 6, 2) := DX8_sampleOf_6.2.2.2.2.2.2.2.2.2
set_option maxRecDepth 100000 in
theorem DX8_sampleOf_7 : decode cX8_sampleOf 124 = .ok (.ldc2_w 86, 3) ∧ decode cX8_sampleOf 127 = .ok (.ldiv, 1) ∧ decode cX8_sampleOf 128 = .ok (.iconst 2, 1) ∧ decode cX8_sampleOf 129 = .ok (.iload_n 3, 1) ∧ decode cX8_sampleOf 130 = .ok (.imul, 1) ∧ decode cX8_sampleOf 131 = .ok (.iconst 1, 1) ∧ decode cX8_sampleOf 132 = .ok (.iadd, 1) ∧ decode cX8_sampleOf 133 = .ok (.i2l, 1) ∧ decode cX8_sampleOf 134 = .ok (.lrem, 1) ∧ decode cX8_sampleOf 135 = .ok (.l2i, 1) := by decide +kernel
theorem dX8_sampleOf_124 : decode cX8_sampleOf 124 = .ok (.ldc2_w 86, 3) := DX8_sampleOf_7.1
theorem dX8_sampleOf_127 : decode cX8_sampleOf 127 = .ok (.ldiv, 1) := DX8_sampleOf_7.2.1
theorem dX8_sampleOf_128 : decode cX8_sampleOf 128 = .ok (.iconst 2, 1) := DX8_sampleOf_7.2.2.1
theorem dX8_sampleOf_129 : decode cX8_sampleOf 129 = .ok (.iload_n 3, 1) := DX8_sampleOf_7.2.2.2.1
theorem dX8_sampleOf_130 : decode cX8_sampleOf 130 = .ok (.imul, 1) := DX8_sampleOf_7.2.2.2.2.1
theorem dX8_sampleOf_131 : decode cX8_sampleOf 131 = .ok (.iconst 1, 1) := DX8_sampleOf_7.2.2.2.2.2.1
theorem dX8_sampleOf_132 : decode cX8_sampleOf 132 = .ok (.iadd, 1) := DX8_sampleOf_7.2.2.2.2.2.2.1
theorem dX8_sampleOf_133 : decode cX8_sampleOf 133 = .ok (.i2l, 1) := DX8_sampleOf_7.2.2.2.2.2.2.2.1
theorem dX8_sampleOf_134 : decode cX8_sampleOf 134 = .ok (.lrem, 1) := DX8_sampleOf_7.2.2.2.2.2.2.2.2.1
theorem dX8_sampleOf_135 : decode cX8_sampleOf 135 = .ok (.l2i, 1) := DX8_sampleOf_7.2.2.2.2.2.2.2.2.2
set_option maxRecDepth 100000 in
theorem DX8_sampleOf_8 : decode cX8_sampleOf 136 = .ok (.iload_n 3, 1) ∧ decode cX8_sampleOf 137 = .ok (.isub, 1) ∧ decode cX8_sampleOf 138 = .ok (.ireturn, 1) ∧ decode cX8_sampleOf 139 = .ok (.iload_n 3, 1) ∧ decode cX8_sampleOf 140 = .ok (.ireturn, 1) := by decide +kernel
theorem dX8_sampleOf_136 : decode cX8_sampleOf 136 = .ok (.iload_n 3, 1) := DX8_sampleOf_8.1
theorem dX8_sampleOf_137 : decode cX8_sampleOf 137 = .ok (.isub, 1) := DX8_sampleOf_8.2.1
theorem dX8_sampleOf_138 : decode cX8_sampleOf 138 = .ok (.ireturn, 1) := DX8_sampleOf_8.2.2.1
theorem dX8_sampleOf_139 : decode cX8_sampleOf 139 = .ok (.iload_n 3, 1) := DX8_sampleOf_8.2.2.2.1
theorem dX8_sampleOf_140 : decode cX8_sampleOf 140 = .ok (.ireturn, 1) := DX8_sampleOf_8.2.2.2.2
set_option maxRecDepth 100000 in
theorem DX8_hasSample_0 : decode cX8_hasSample 0 = .ok (.iload_n 2, 1) ∧ decode cX8_hasSample 1 = .ok (.aload_n 0, 1) ∧ decode cX8_hasSample 2 = .ok (.getfield 7, 3) ∧ decode cX8_hasSample 5 = .ok (.bipush 9, 2) ∧ decode cX8_hasSample 7 = .ok (.iconst 4, 1) ∧ decode cX8_hasSample 8 = .ok (.iload_n 1, 1) ∧ decode cX8_hasSample 9 = .ok (.imul, 1) ∧ decode cX8_hasSample 10 = .ok (.iadd, 1) ∧ decode cX8_hasSample 11 = .ok (.iconst 3, 1) ∧ decode cX8_hasSample 12 = .ok (.iadd, 1) := by decide +kernel
theorem dX8_hasSample_0 : decode cX8_hasSample 0 = .ok (.iload_n 2, 1) := DX8_hasSample_0.1
theorem dX8_hasSample_1 : decode cX8_hasSample 1 = .ok (.aload_n 0, 1) := DX8_hasSample_0.2.1
theorem dX8_hasSample_2 : decode cX8_hasSample 2 = .ok (.getfield 7, 3) := DX8_hasSample_0.2.2.1
theorem dX8_hasSample_5 : decode cX8_hasSample 5 = .ok (.bipush 9, 2) := DX8_hasSample_0.2.2.2.1
theorem dX8_hasSample_7 : decode cX8_hasSample 7 = .ok (.iconst 4, 1) := DX8_hasSample_0.2.2.2.2.1
theorem dX8_hasSample_8 : decode cX8_hasSample 8 = .ok (.iload_n 1, 1) := DX8_hasSample_0.2.2.2.2.2.1
theorem dX8_hasSample_9 : decode cX8_hasSample 9 = .ok (.imul, 1) := DX8_hasSample_0.2.2.2.2.2.2.1
theorem dX8_hasSample_10 : decode cX8_hasSample 10 = .ok (.iadd, 1) := DX8_hasSample_0.2.2.2.2.2.2.2.1
theorem dX8_hasSample_11 : decode cX8_hasSample 11 = .ok (.iconst 3, 1) := DX8_hasSample_0.2.2.2.2.2.2.2.2.1
theorem dX8_hasSample_12 : decode cX8_hasSample 12 = .ok (.iadd, 1) := DX8_hasSample_0.2.2.2.2.2.2.2.2.2
set_option maxRecDepth 100000 in
theorem DX8_hasSample_1 : decode cX8_hasSample 13 = .ok (.iaload, 1) ∧ decode cX8_hasSample 14 = .ok (.if_icmp .ge 7, 3) ∧ decode cX8_hasSample 17 = .ok (.iconst 1, 1) ∧ decode cX8_hasSample 18 = .ok (.goto 4, 3) ∧ decode cX8_hasSample 21 = .ok (.iconst 0, 1) ∧ decode cX8_hasSample 22 = .ok (.ireturn, 1) := by decide +kernel
theorem dX8_hasSample_13 : decode cX8_hasSample 13 = .ok (.iaload, 1) := DX8_hasSample_1.1
theorem dX8_hasSample_14 : decode cX8_hasSample 14 = .ok (.if_icmp .ge 7, 3) := DX8_hasSample_1.2.1
theorem dX8_hasSample_17 : decode cX8_hasSample 17 = .ok (.iconst 1, 1) := DX8_hasSample_1.2.2.1
theorem dX8_hasSample_18 : decode cX8_hasSample 18 = .ok (.goto 4, 3) := DX8_hasSample_1.2.2.2.1
theorem dX8_hasSample_21 : decode cX8_hasSample 21 = .ok (.iconst 0, 1) := DX8_hasSample_1.2.2.2.2.1
theorem dX8_hasSample_22 : decode cX8_hasSample 22 = .ok (.ireturn, 1) := DX8_hasSample_1.2.2.2.2.2
set_option maxRecDepth 100000 in
theorem DX8_sample_0 : decode cX8_sample 0 = .ok (.aload_n 0, 1) ∧ decode cX8_sample 1 = .ok (.iload_n 1, 1) ∧ decode cX8_sample 2 = .ok (.invokestatic 70, 3) ∧ decode cX8_sample 5 = .ok (.ifCond .eq 20, 3) ∧ decode cX8_sample 8 = .ok (.iload_n 2, 1) ∧ decode cX8_sample 9 = .ok (.ifCond .lt 16, 3) ∧ decode cX8_sample 12 = .ok (.aload_n 0, 1) ∧ decode cX8_sample 13 = .ok (.iload_n 1, 1) ∧ decode cX8_sample 14 = .ok (.iload_n 2, 1) ∧ decode cX8_sample 15 = .ok (.invokevirtual 88, 3) := by decide +kernel
theorem dX8_sample_0 : decode cX8_sample 0 = .ok (.aload_n 0, 1) := DX8_sample_0.1
theorem dX8_sample_1 : decode cX8_sample 1 = .ok (.iload_n 1, 1) := DX8_sample_0.2.1
theorem dX8_sample_2 : decode cX8_sample 2 = .ok (.invokestatic 70, 3) := DX8_sample_0.2.2.1
theorem dX8_sample_5 : decode cX8_sample 5 = .ok (.ifCond .eq 20, 3) := DX8_sample_0.2.2.2.1
theorem dX8_sample_8 : decode cX8_sample 8 = .ok (.iload_n 2, 1) := DX8_sample_0.2.2.2.2.1
theorem dX8_sample_9 : decode cX8_sample 9 = .ok (.ifCond .lt 16, 3) := DX8_sample_0.2.2.2.2.2.1
theorem dX8_sample_12 : decode cX8_sample 12 = .ok (.aload_n 0, 1) := DX8_sample_0.2.2.2.2.2.2.1
theorem dX8_sample_13 : decode cX8_sample 13 = .ok (.iload_n 1, 1) := DX8_sample_0.2.2.2.2.2.2.2.1
theorem dX8_sample_14 : decode cX8_sample 14 = .ok (.iload_n 2, 1) := DX8_sample_0.2.2.2.2.2.2.2.2.1
theorem dX8_sample_15 : decode cX8_sample 15 = .ok (.invokevirtual 88, 3) := DX8_sample_0.2.2.2.2.2.2.2.2.2
set_option maxRecDepth 100000 in
theorem DX8_sample_1 : decode cX8_sample 18 = .ok (.ifCond .eq 7, 3) ∧ decode cX8_sample 21 = .ok (.iconst 0, 1) ∧ decode cX8_sample 22 = .ok (.goto 4, 3) ∧ decode cX8_sample 25 = .ok (.iconst 1, 1) ∧ decode cX8_sample 26 = .ok (.invokevirtual 51, 3) ∧ decode cX8_sample 29 = .ok (.ifCond .eq 7, 3) ∧ decode cX8_sample 32 = .ok (.iconst 0, 1) ∧ decode cX8_sample 33 = .ok (.goto 9, 3) ∧ decode cX8_sample 36 = .ok (.aload_n 0, 1) ∧ decode cX8_sample 37 = .ok (.iload_n 1, 1) := by decide +kernel
theorem dX8_sample_18 : decode cX8_sample 18 = .ok (.ifCond .eq 7, 3) := DX8_sample_1.1
theorem dX8_sample_21 : decode cX8_sample 21 = .ok (.iconst 0, 1) := DX8_sample_1.2.1
theorem dX8_sample_22 : decode cX8_sample 22 = .ok (.goto 4, 3) := DX8_sample_1.2.2.1
theorem dX8_sample_25 : decode cX8_sample 25 = .ok (.iconst 1, 1) := DX8_sample_1.2.2.2.1
theorem dX8_sample_26 : decode cX8_sample 26 = .ok (.invokevirtual 51, 3) := DX8_sample_1.2.2.2.2.1
theorem dX8_sample_29 : decode cX8_sample 29 = .ok (.ifCond .eq 7, 3) := DX8_sample_1.2.2.2.2.2.1
theorem dX8_sample_32 : decode cX8_sample 32 = .ok (.iconst 0, 1) := DX8_sample_1.2.2.2.2.2.2.1
theorem dX8_sample_33 : decode cX8_sample 33 = .ok (.goto 9, 3) := DX8_sample_1.2.2.2.2.2.2.2.1
theorem dX8_sample_36 : decode cX8_sample 36 = .ok (.aload_n 0, 1) := DX8_sample_1.2.2.2.2.2.2.2.2.1
theorem dX8_sample_37 : decode cX8_sample 37 = .ok (.iload_n 1, 1) := DX8_sample_1.2.2.2.2.2.2.2.2.2
set_option maxRecDepth 100000 in
theorem DX8_sample_2 : decode cX8_sample 38 = .ok (.iload_n 2, 1) ∧ decode cX8_sample 39 = .ok (.invokevirtual 92, 3) ∧ decode cX8_sample 42 = .ok (.ireturn, 1) := by decide +kernel
theorem dX8_sample_38 : decode cX8_sample 38 = .ok (.iload_n 2, 1) := DX8_sample_2.1
theorem dX8_sample_39 : decode cX8_sample 39 = .ok (.invokevirtual 92, 3) := DX8_sample_2.2.1
theorem dX8_sample_42 : decode cX8_sample 42 = .ok (.ireturn, 1) := DX8_sample_2.2.2
set_option maxRecDepth 100000 in
theorem DX8_tries_0 : decode cX8_tries 0 = .ok (.aload_n 0, 1) ∧ decode cX8_tries 1 = .ok (.aload_n 0, 1) ∧ decode cX8_tries 2 = .ok (.getfield 7, 3) ∧ decode cX8_tries 5 = .ok (.bipush 8, 2) ∧ decode cX8_tries 7 = .ok (.iaload, 1) ∧ decode cX8_tries 8 = .ok (.putfield 95, 3) ∧ decode cX8_tries 11 = .ok (.iconst 0, 1) ∧ decode cX8_tries 12 = .ok (.istore_n 1, 1) ∧ decode cX8_tries 13 = .ok (.iload_n 1, 1) ∧ decode cX8_tries 14 = .ok (.bipush 9, 2) := by decide +kernel
theorem dX8_tries_0 : decode cX8_tries 0 = .ok (.aload_n 0, 1) := DX8_tries_0.1
theorem dX8_tries_1 : decode cX8_tries 1 = .ok (.aload_n 0, 1) := DX8_tries_0.2.1
theorem dX8_tries_2 : decode cX8_tries 2 = .ok (.getfield 7, 3) := DX8_tries_0.2.2.1
theorem dX8_tries_5 : decode cX8_tries 5 = .ok (.bipush 8, 2) := DX8_tries_0.2.2.2.1
theorem dX8_tries_7 : decode cX8_tries 7 = .ok (.iaload, 1) := DX8_tries_0.2.2.2.2.1
theorem dX8_tries_8 : decode cX8_tries 8 = .ok (.putfield 95, 3) := DX8_tries_0.2.2.2.2.2.1
theorem dX8_tries_11 : decode cX8_tries 11 = .ok (.iconst 0, 1) := DX8_tries_0.2.2.2.2.2.2.1
theorem dX8_tries_12 : decode cX8_tries 12 = .ok (.istore_n 1, 1) := DX8_tries_0.2.2.2.2.2.2.2.1
theorem dX8_tries_13 : decode cX8_tries 13 = .ok (.iload_n 1, 1) := DX8_tries_0.2.2.2.2.2.2.2.2.1
theorem dX8_tries_14 : decode cX8_tries 14 = .ok (.bipush 9, 2) := DX8_tries_0.2.2.2.2.2.2.2.2.2
set_option maxRecDepth 100000 in
theorem DX8_tries_1 : decode cX8_tries 16 = .ok (.aload_n 0, 1) ∧ decode cX8_tries 17 = .ok (.getfield 95, 3) ∧ decode cX8_tries 20 = .ok (.imul, 1) ∧ decode cX8_tries 21 = .ok (.if_icmp .ge 24, 3) ∧ decode cX8_tries 24 = .ok (.aload_n 0, 1) ∧ decode cX8_tries 25 = .ok (.getfield 26, 3) ∧ decode cX8_tries 28 = .ok (.iload_n 1, 1) ∧ decode cX8_tries 29 = .ok (.aload_n 0, 1) ∧ decode cX8_tries 30 = .ok (.getfield 7, 3) ∧ decode cX8_tries 33 = .ok (.bipush 33, 2) := by decide +kernel
theorem dX8_tries_16 : decode cX8_tries 16 = .ok (.aload_n 0, 1) := DX8_tries_1.1
theorem dX8_tries_17 : decode cX8_tries 17 = .ok (.getfield 95, 3) := DX8_tries_1.2.1
theorem dX8_tries_20 : decode cX8_tries 20 = .ok (.imul, 1) := DX8_tries_1.2.2.1
theorem dX8_tries_21 : decode cX8_tries 21 = .ok (.if_icmp .ge 24, 3) := DX8_tries_1.2.2.2.1
theorem dX8_tries_24 : decode cX8_tries 24 = .ok (.aload_n 0, 1) := DX8_tries_1.2.2.2.2.1
theorem dX8_tries_25 : decode cX8_tries 25 = .ok (.getfield 26, 3) := DX8_tries_1.2.2.2.2.2.1
theorem dX8_tries_28 : decode cX8_tries 28 = .ok (.iload_n 1, 1) := DX8_tries_1.2.2.2.2.2.2.1
theorem dX8_tries_29 : decode cX8_tries 29 = .ok (.aload_n 0, 1) := DX8_tries_1.2.2.2.2.2.2.2.1
theorem dX8_tries_30 : decode cX8_tries 30 = .ok (.getfield 7, 3) := DX8_tries_1.2.2.2.2.2.2.2.2.1
theorem dX8_tries_33 : decode cX8_tries 33 = .ok (.bipush 33, 2) := DX8_tries_1.2.2.2.2.2.2.2.2.2
set_option maxRecDepth 100000 in
theorem DX8_tries_2 : decode cX8_tries 35 = .ok (.iload_n 1, 1) ∧ decode cX8_tries 36 = .ok (.iadd, 1) ∧ decode cX8_tries 37 = .ok (.iaload, 1) ∧ decode cX8_tries 38 = .ok (.iastore, 1) ∧ decode cX8_tries 39 = .ok (.iinc 1 1, 3) ∧ decode cX8_tries 42 = .ok (.goto (-29), 3) ∧ decode cX8_tries 45 = .ok (.return_, 1) := by decide +kernel
theorem dX8_tries_35 : decode cX8_tries 35 = .ok (.iload_n 1, 1) := DX8_tries_2.1
theorem dX8_tries_36 : decode cX8_tries 36 = .ok (.iadd, 1) := DX8_tries_2.2.1
theorem dX8_tries_37 : decode cX8_tries 37 = .ok (.iaload, 1) := DX8_tries_2.2.2.1
theorem dX8_tries_38 : decode cX8_tries 38 = .ok (.iastore, 1) := DX8_tries_2.2.2.2.1
theorem dX8_tries_39 : decode cX8_tries 39 = .ok (.iinc 1 1, 3) := DX8_tries_2.2.2.2.2.1
theorem dX8_tries_42 : decode cX8_tries 42 = .ok (.goto (-29), 3) := DX8_tries_2.2.2.2.2.2.1
theorem dX8_tries_45 : decode cX8_tries 45 = .ok (.return_, 1) := DX8_tries_2.2.2.2.2.2.2
set_option maxRecDepth 100000 in
theorem DX8_of_0 : decode cX8_of 0 = .ok (.aload_n 0, 1) ∧ decode cX8_of 1 = .ok (.getfield 26, 3) ∧ decode cX8_of 4 = .ok (.bipush 9, 2) ∧ decode cX8_of 6 = .ok (.iload_n 1, 1) ∧ decode cX8_of 7 = .ok (.imul, 1) ∧ decode cX8_of 8 = .ok (.iload_n 2, 1) ∧ decode cX8_of 9 = .ok (.iadd, 1) ∧ decode cX8_of 10 = .ok (.iaload, 1) ∧ decode cX8_of 11 = .ok (.ireturn, 1) := by decide +kernel
theorem dX8_of_0 : decode cX8_of 0 = .ok (.aload_n 0, 1) := DX8_of_0.1
theorem dX8_of_1 : decode cX8_of 1 = .ok (.getfield 26, 3) := DX8_of_0.2.1
theorem dX8_of_4 : decode cX8_of 4 = .ok (.bipush 9, 2) := DX8_of_0.2.2.1
theorem dX8_of_6 : decode cX8_of 6 = .ok (.iload_n 1, 1) := DX8_of_0.2.2.2.1
theorem dX8_of_7 : decode cX8_of 7 = .ok (.imul, 1) := DX8_of_0.2.2.2.2.1
theorem dX8_of_8 : decode cX8_of 8 = .ok (.iload_n 2, 1) := DX8_of_0.2.2.2.2.2.1
theorem dX8_of_9 : decode cX8_of 9 = .ok (.iadd, 1) := DX8_of_0.2.2.2.2.2.2.1
theorem dX8_of_10 : decode cX8_of 10 = .ok (.iaload, 1) := DX8_of_0.2.2.2.2.2.2.2.1
theorem dX8_of_11 : decode cX8_of 11 = .ok (.ireturn, 1) := DX8_of_0.2.2.2.2.2.2.2.2
set_option maxRecDepth 100000 in
theorem DX8_set_0 : decode cX8_set 0 = .ok (.aload_n 0, 1) ∧ decode cX8_set 1 = .ok (.getfield 26, 3) ∧ decode cX8_set 4 = .ok (.bipush 9, 2) ∧ decode cX8_set 6 = .ok (.iload_n 1, 1) ∧ decode cX8_set 7 = .ok (.imul, 1) ∧ decode cX8_set 8 = .ok (.iload_n 2, 1) ∧ decode cX8_set 9 = .ok (.iadd, 1) ∧ decode cX8_set 10 = .ok (.iload_n 3, 1) ∧ decode cX8_set 11 = .ok (.iastore, 1) ∧ decode cX8_set 12 = .ok (.return_, 1) := by decide +kernel
theorem dX8_set_0 : decode cX8_set 0 = .ok (.aload_n 0, 1) := DX8_set_0.1
theorem dX8_set_1 : decode cX8_set 1 = .ok (.getfield 26, 3) := DX8_set_0.2.1
theorem dX8_set_4 : decode cX8_set 4 = .ok (.bipush 9, 2) := DX8_set_0.2.2.1
theorem dX8_set_6 : decode cX8_set 6 = .ok (.iload_n 1, 1) := DX8_set_0.2.2.2.1
theorem dX8_set_7 : decode cX8_set 7 = .ok (.imul, 1) := DX8_set_0.2.2.2.2.1
theorem dX8_set_8 : decode cX8_set 8 = .ok (.iload_n 2, 1) := DX8_set_0.2.2.2.2.2.1
theorem dX8_set_9 : decode cX8_set 9 = .ok (.iadd, 1) := DX8_set_0.2.2.2.2.2.2.1
theorem dX8_set_10 : decode cX8_set 10 = .ok (.iload_n 3, 1) := DX8_set_0.2.2.2.2.2.2.2.1
theorem dX8_set_11 : decode cX8_set 11 = .ok (.iastore, 1) := DX8_set_0.2.2.2.2.2.2.2.2.1
theorem dX8_set_12 : decode cX8_set 12 = .ok (.return_, 1) := DX8_set_0.2.2.2.2.2.2.2.2.2
set_option maxRecDepth 100000 in
theorem DX8_endOf_0 : decode cX8_endOf 0 = .ok (.aload_n 0, 1) ∧ decode cX8_endOf 1 = .ok (.iload_n 1, 1) ∧ decode cX8_endOf 2 = .ok (.iconst 2, 1) ∧ decode cX8_endOf 3 = .ok (.invokevirtual 98, 3) ∧ decode cX8_endOf 6 = .ok (.aload_n 0, 1) ∧ decode cX8_endOf 7 = .ok (.iload_n 1, 1) ∧ decode cX8_endOf 8 = .ok (.iconst 4, 1) ∧ decode cX8_endOf 9 = .ok (.invokevirtual 98, 3) ∧ decode cX8_endOf 12 = .ok (.iadd, 1) ∧ decode cX8_endOf 13 = .ok (.ireturn, 1) := by decide +kernel
theorem dX8_endOf_0 : decode cX8_endOf 0 = .ok (.aload_n 0, 1) := DX8_endOf_0.1
theorem dX8_endOf_1 : decode cX8_endOf 1 = .ok (.iload_n 1, 1) := DX8_endOf_0.2.1
theorem dX8_endOf_2 : decode cX8_endOf 2 = .ok (.iconst 2, 1) := DX8_endOf_0.2.2.1
theorem dX8_endOf_3 : decode cX8_endOf 3 = .ok (.invokevirtual 98, 3) := DX8_endOf_0.2.2.2.1
theorem dX8_endOf_6 : decode cX8_endOf 6 = .ok (.aload_n 0, 1) := DX8_endOf_0.2.2.2.2.1
theorem dX8_endOf_7 : decode cX8_endOf 7 = .ok (.iload_n 1, 1) := DX8_endOf_0.2.2.2.2.2.1
theorem dX8_endOf_8 : decode cX8_endOf 8 = .ok (.iconst 4, 1) := DX8_endOf_0.2.2.2.2.2.2.1
theorem dX8_endOf_9 : decode cX8_endOf 9 = .ok (.invokevirtual 98, 3) := DX8_endOf_0.2.2.2.2.2.2.2.1
theorem dX8_endOf_12 : decode cX8_endOf 12 = .ok (.iadd, 1) := DX8_endOf_0.2.2.2.2.2.2.2.2.1
theorem dX8_endOf_13 : decode cX8_endOf 13 = .ok (.ireturn, 1) := DX8_endOf_0.2.2.2.2.2.2.2.2.2
set_option maxRecDepth 100000 in
theorem DX8_carries_0 : decode cX8_carries 0 = .ok (.iconst 0, 1) ∧ decode cX8_carries 1 = .ok (.istore_n 3, 1) ∧ decode cX8_carries 2 = .ok (.iload_n 3, 1) ∧ decode cX8_carries 3 = .ok (.bipush 9, 2) ∧ decode cX8_carries 5 = .ok (.if_icmp .ge 26, 3) ∧ decode cX8_carries 8 = .ok (.aload_n 0, 1) ∧ decode cX8_carries 9 = .ok (.getfield 29, 3) ∧ decode cX8_carries 12 = .ok (.iload_n 3, 1) ∧ decode cX8_carries 13 = .ok (.aload_n 0, 1) ∧ decode cX8_carries 14 = .ok (.getfield 26, 3) := by decide +kernel
theorem dX8_carries_0 : decode cX8_carries 0 = .ok (.iconst 0, 1) := DX8_carries_0.1
theorem dX8_carries_1 : decode cX8_carries 1 = .ok (.istore_n 3, 1) := DX8_carries_0.2.1
theorem dX8_carries_2 : decode cX8_carries 2 = .ok (.iload_n 3, 1) := DX8_carries_0.2.2.1
theorem dX8_carries_3 : decode cX8_carries 3 = .ok (.bipush 9, 2) := DX8_carries_0.2.2.2.1
theorem dX8_carries_5 : decode cX8_carries 5 = .ok (.if_icmp .ge 26, 3) := DX8_carries_0.2.2.2.2.1
theorem dX8_carries_8 : decode cX8_carries 8 = .ok (.aload_n 0, 1) := DX8_carries_0.2.2.2.2.2.1
theorem dX8_carries_9 : decode cX8_carries 9 = .ok (.getfield 29, 3) := DX8_carries_0.2.2.2.2.2.2.1
theorem dX8_carries_12 : decode cX8_carries 12 = .ok (.iload_n 3, 1) := DX8_carries_0.2.2.2.2.2.2.2.1
theorem dX8_carries_13 : decode cX8_carries 13 = .ok (.aload_n 0, 1) := DX8_carries_0.2.2.2.2.2.2.2.2.1
theorem dX8_carries_14 : decode cX8_carries 14 = .ok (.getfield 26, 3) := DX8_carries_0.2.2.2.2.2.2.2.2.2
set_option maxRecDepth 100000 in
theorem DX8_carries_1 : decode cX8_carries 17 = .ok (.bipush 9, 2) ∧ decode cX8_carries 19 = .ok (.iload_n 1, 1) ∧ decode cX8_carries 20 = .ok (.imul, 1) ∧ decode cX8_carries 21 = .ok (.iload_n 3, 1) ∧ decode cX8_carries 22 = .ok (.iadd, 1) ∧ decode cX8_carries 23 = .ok (.iaload, 1) ∧ decode cX8_carries 24 = .ok (.iastore, 1) ∧ decode cX8_carries 25 = .ok (.iinc 3 1, 3) ∧ decode cX8_carries 28 = .ok (.goto (-26), 3) ∧ decode cX8_carries 31 = .ok (.iload_n 1, 1) := by decide +kernel
theorem dX8_carries_17 : decode cX8_carries 17 = .ok (.bipush 9, 2) := DX8_carries_1.1
theorem dX8_carries_19 : decode cX8_carries 19 = .ok (.iload_n 1, 1) := DX8_carries_1.2.1
theorem dX8_carries_20 : decode cX8_carries 20 = .ok (.imul, 1) := DX8_carries_1.2.2.1
theorem dX8_carries_21 : decode cX8_carries 21 = .ok (.iload_n 3, 1) := DX8_carries_1.2.2.2.1
theorem dX8_carries_22 : decode cX8_carries 22 = .ok (.iadd, 1) := DX8_carries_1.2.2.2.2.1
theorem dX8_carries_23 : decode cX8_carries 23 = .ok (.iaload, 1) := DX8_carries_1.2.2.2.2.2.1
theorem dX8_carries_24 : decode cX8_carries 24 = .ok (.iastore, 1) := DX8_carries_1.2.2.2.2.2.2.1
theorem dX8_carries_25 : decode cX8_carries 25 = .ok (.iinc 3 1, 3) := DX8_carries_1.2.2.2.2.2.2.2.1
theorem dX8_carries_28 : decode cX8_carries 28 = .ok (.goto (-26), 3) := DX8_carries_1.2.2.2.2.2.2.2.2.1
theorem dX8_carries_31 : decode cX8_carries 31 = .ok (.iload_n 1, 1) := DX8_carries_1.2.2.2.2.2.2.2.2.2
set_option maxRecDepth 100000 in
theorem DX8_carries_2 : decode cX8_carries 32 = .ok (.istore_n 3, 1) ∧ decode cX8_carries 33 = .ok (.iload_n 3, 1) ∧ decode cX8_carries 34 = .ok (.iload_n 2, 1) ∧ decode cX8_carries 35 = .ok (.if_icmp .ge 17, 3) ∧ decode cX8_carries 38 = .ok (.aload_n 0, 1) ∧ decode cX8_carries 39 = .ok (.iload_n 3, 1) ∧ decode cX8_carries 40 = .ok (.iconst 1, 1) ∧ decode cX8_carries 41 = .ok (.iadd, 1) ∧ decode cX8_carries 42 = .ok (.iload_n 3, 1) ∧ decode cX8_carries 43 = .ok (.invokevirtual 101, 3) := by decide +kernel
theorem dX8_carries_32 : decode cX8_carries 32 = .ok (.istore_n 3, 1) := DX8_carries_2.1
theorem dX8_carries_33 : decode cX8_carries 33 = .ok (.iload_n 3, 1) := DX8_carries_2.2.1
theorem dX8_carries_34 : decode cX8_carries 34 = .ok (.iload_n 2, 1) := DX8_carries_2.2.2.1
theorem dX8_carries_35 : decode cX8_carries 35 = .ok (.if_icmp .ge 17, 3) := DX8_carries_2.2.2.2.1
theorem dX8_carries_38 : decode cX8_carries 38 = .ok (.aload_n 0, 1) := DX8_carries_2.2.2.2.2.1
theorem dX8_carries_39 : decode cX8_carries 39 = .ok (.iload_n 3, 1) := DX8_carries_2.2.2.2.2.2.1
theorem dX8_carries_40 : decode cX8_carries 40 = .ok (.iconst 1, 1) := DX8_carries_2.2.2.2.2.2.2.1
theorem dX8_carries_41 : decode cX8_carries 41 = .ok (.iadd, 1) := DX8_carries_2.2.2.2.2.2.2.2.1
theorem dX8_carries_42 : decode cX8_carries 42 = .ok (.iload_n 3, 1) := DX8_carries_2.2.2.2.2.2.2.2.2.1
theorem dX8_carries_43 : decode cX8_carries 43 = .ok (.invokevirtual 101, 3) := DX8_carries_2.2.2.2.2.2.2.2.2.2
set_option maxRecDepth 100000 in
theorem DX8_carries_3 : decode cX8_carries 46 = .ok (.iinc 3 1, 3) ∧ decode cX8_carries 49 = .ok (.goto (-16), 3) ∧ decode cX8_carries 52 = .ok (.iload_n 1, 1) ∧ decode cX8_carries 53 = .ok (.istore_n 3, 1) ∧ decode cX8_carries 54 = .ok (.iload_n 3, 1) ∧ decode cX8_carries 55 = .ok (.iload_n 2, 1) ∧ decode cX8_carries 56 = .ok (.if_icmp .le 17, 3) ∧ decode cX8_carries 59 = .ok (.aload_n 0, 1) ∧ decode cX8_carries 60 = .ok (.iload_n 3, 1) ∧ decode cX8_carries 61 = .ok (.iconst 1, 1) := by decide +kernel
theorem dX8_carries_46 : decode cX8_carries 46 = .ok (.iinc 3 1, 3) := DX8_carries_3.1
theorem dX8_carries_49 : decode cX8_carries 49 = .ok (.goto (-16), 3) := DX8_carries_3.2.1
theorem dX8_carries_52 : decode cX8_carries 52 = .ok (.iload_n 1, 1) := DX8_carries_3.2.2.1
theorem dX8_carries_53 : decode cX8_carries 53 = .ok (.istore_n 3, 1) := DX8_carries_3.2.2.2.1
theorem dX8_carries_54 : decode cX8_carries 54 = .ok (.iload_n 3, 1) := DX8_carries_3.2.2.2.2.1
theorem dX8_carries_55 : decode cX8_carries 55 = .ok (.iload_n 2, 1) := DX8_carries_3.2.2.2.2.2.1
theorem dX8_carries_56 : decode cX8_carries 56 = .ok (.if_icmp .le 17, 3) := DX8_carries_3.2.2.2.2.2.2.1
theorem dX8_carries_59 : decode cX8_carries 59 = .ok (.aload_n 0, 1) := DX8_carries_3.2.2.2.2.2.2.2.1
theorem dX8_carries_60 : decode cX8_carries 60 = .ok (.iload_n 3, 1) := DX8_carries_3.2.2.2.2.2.2.2.2.1
theorem dX8_carries_61 : decode cX8_carries 61 = .ok (.iconst 1, 1) := DX8_carries_3.2.2.2.2.2.2.2.2.2
set_option maxRecDepth 100000 in
theorem DX8_carries_4 : decode cX8_carries 62 = .ok (.isub, 1) ∧ decode cX8_carries 63 = .ok (.iload_n 3, 1) ∧ decode cX8_carries 64 = .ok (.invokevirtual 101, 3) ∧ decode cX8_carries 67 = .ok (.iinc 3 (-1), 3) ∧ decode cX8_carries 70 = .ok (.goto (-16), 3) ∧ decode cX8_carries 73 = .ok (.iconst 0, 1) ∧ decode cX8_carries 74 = .ok (.istore_n 3, 1) ∧ decode cX8_carries 75 = .ok (.iload_n 3, 1) ∧ decode cX8_carries 76 = .ok (.bipush 9, 2) ∧ decode cX8_carries 78 = .ok (.if_icmp .ge 26, 3) := by decide +kernel
theorem dX8_carries_62 : decode cX8_carries 62 = .ok (.isub, 1) := DX8_carries_4.1
theorem dX8_carries_63 : decode cX8_carries 63 = .ok (.iload_n 3, 1) := DX8_carries_4.2.1
theorem dX8_carries_64 : decode cX8_carries 64 = .ok (.invokevirtual 101, 3) := DX8_carries_4.2.2.1
theorem dX8_carries_67 : decode cX8_carries 67 = .ok (.iinc 3 (-1), 3) := DX8_carries_4.2.2.2.1
theorem dX8_carries_70 : decode cX8_carries 70 = .ok (.goto (-16), 3) := DX8_carries_4.2.2.2.2.1
theorem dX8_carries_73 : decode cX8_carries 73 = .ok (.iconst 0, 1) := DX8_carries_4.2.2.2.2.2.1
theorem dX8_carries_74 : decode cX8_carries 74 = .ok (.istore_n 3, 1) := DX8_carries_4.2.2.2.2.2.2.1
theorem dX8_carries_75 : decode cX8_carries 75 = .ok (.iload_n 3, 1) := DX8_carries_4.2.2.2.2.2.2.2.1
theorem dX8_carries_76 : decode cX8_carries 76 = .ok (.bipush 9, 2) := DX8_carries_4.2.2.2.2.2.2.2.2.1
theorem dX8_carries_78 : decode cX8_carries 78 = .ok (.if_icmp .ge 26, 3) := DX8_carries_4.2.2.2.2.2.2.2.2.2
set_option maxRecDepth 100000 in
theorem DX8_carries_5 : decode cX8_carries 81 = .ok (.aload_n 0, 1) ∧ decode cX8_carries 82 = .ok (.getfield 26, 3) ∧ decode cX8_carries 85 = .ok (.bipush 9, 2) ∧ decode cX8_carries 87 = .ok (.iload_n 2, 1) ∧ decode cX8_carries 88 = .ok (.imul, 1) ∧ decode cX8_carries 89 = .ok (.iload_n 3, 1) ∧ decode cX8_carries 90 = .ok (.iadd, 1) ∧ decode cX8_carries 91 = .ok (.aload_n 0, 1) ∧ decode cX8_carries 92 = .ok (.getfield 29, 3) ∧ decode cX8_carries 95 = .ok (.iload_n 3, 1) := by decide +kernel
theorem dX8_carries_81 : decode cX8_carries 81 = .ok (.aload_n 0, 1) := DX8_carries_5.1
theorem dX8_carries_82 : decode cX8_carries 82 = .ok (.getfield 26, 3) := DX8_carries_5.2.1
theorem dX8_carries_85 : decode cX8_carries 85 = .ok (.bipush 9, 2) := DX8_carries_5.2.2.1
theorem dX8_carries_87 : decode cX8_carries 87 = .ok (.iload_n 2, 1) := DX8_carries_5.2.2.2.1
theorem dX8_carries_88 : decode cX8_carries 88 = .ok (.imul, 1) := DX8_carries_5.2.2.2.2.1
theorem dX8_carries_89 : decode cX8_carries 89 = .ok (.iload_n 3, 1) := DX8_carries_5.2.2.2.2.2.1
theorem dX8_carries_90 : decode cX8_carries 90 = .ok (.iadd, 1) := DX8_carries_5.2.2.2.2.2.2.1
theorem dX8_carries_91 : decode cX8_carries 91 = .ok (.aload_n 0, 1) := DX8_carries_5.2.2.2.2.2.2.2.1
theorem dX8_carries_92 : decode cX8_carries 92 = .ok (.getfield 29, 3) := DX8_carries_5.2.2.2.2.2.2.2.2.1
theorem dX8_carries_95 : decode cX8_carries 95 = .ok (.iload_n 3, 1) := DX8_carries_5.2.2.2.2.2.2.2.2.2
set_option maxRecDepth 100000 in
theorem DX8_carries_6 : decode cX8_carries 96 = .ok (.iaload, 1) ∧ decode cX8_carries 97 = .ok (.iastore, 1) ∧ decode cX8_carries 98 = .ok (.iinc 3 1, 3) ∧ decode cX8_carries 101 = .ok (.goto (-26), 3) ∧ decode cX8_carries 104 = .ok (.return_, 1) := by decide +kernel
theorem dX8_carries_96 : decode cX8_carries 96 = .ok (.iaload, 1) := DX8_carries_6.1
theorem dX8_carries_97 : decode cX8_carries 97 = .ok (.iastore, 1) := DX8_carries_6.2.1
theorem dX8_carries_98 : decode cX8_carries 98 = .ok (.iinc 3 1, 3) := DX8_carries_6.2.2.1
theorem dX8_carries_101 : decode cX8_carries 101 = .ok (.goto (-26), 3) := DX8_carries_6.2.2.2.1
theorem dX8_carries_104 : decode cX8_carries 104 = .ok (.return_, 1) := DX8_carries_6.2.2.2.2
set_option maxRecDepth 100000 in
theorem DX8_shifts_0 : decode cX8_shifts 0 = .ok (.iconst 0, 1) ∧ decode cX8_shifts 1 = .ok (.istore_n 3, 1) ∧ decode cX8_shifts 2 = .ok (.iload_n 3, 1) ∧ decode cX8_shifts 3 = .ok (.bipush 9, 2) ∧ decode cX8_shifts 5 = .ok (.if_icmp .ge 31, 3) ∧ decode cX8_shifts 8 = .ok (.aload_n 0, 1) ∧ decode cX8_shifts 9 = .ok (.getfield 26, 3) ∧ decode cX8_shifts 12 = .ok (.bipush 9, 2) ∧ decode cX8_shifts 14 = .ok (.iload_n 2, 1) ∧ decode cX8_shifts 15 = .ok (.imul, 1) := by decide +kernel
theorem dX8_shifts_0 : decode cX8_shifts 0 = .ok (.iconst 0, 1) := DX8_shifts_0.1
theorem dX8_shifts_1 : decode cX8_shifts 1 = .ok (.istore_n 3, 1) := DX8_shifts_0.2.1
theorem dX8_shifts_2 : decode cX8_shifts 2 = .ok (.iload_n 3, 1) := DX8_shifts_0.2.2.1
theorem dX8_shifts_3 : decode cX8_shifts 3 = .ok (.bipush 9, 2) := DX8_shifts_0.2.2.2.1
theorem dX8_shifts_5 : decode cX8_shifts 5 = .ok (.if_icmp .ge 31, 3) := DX8_shifts_0.2.2.2.2.1
theorem dX8_shifts_8 : decode cX8_shifts 8 = .ok (.aload_n 0, 1) := DX8_shifts_0.2.2.2.2.2.1
theorem dX8_shifts_9 : decode cX8_shifts 9 = .ok (.getfield 26, 3) := DX8_shifts_0.2.2.2.2.2.2.1
theorem dX8_shifts_12 : decode cX8_shifts 12 = .ok (.bipush 9, 2) := DX8_shifts_0.2.2.2.2.2.2.2.1
theorem dX8_shifts_14 : decode cX8_shifts 14 = .ok (.iload_n 2, 1) := DX8_shifts_0.2.2.2.2.2.2.2.2.1
theorem dX8_shifts_15 : decode cX8_shifts 15 = .ok (.imul, 1) := DX8_shifts_0.2.2.2.2.2.2.2.2.2
set_option maxRecDepth 100000 in
theorem DX8_shifts_1 : decode cX8_shifts 16 = .ok (.iload_n 3, 1) ∧ decode cX8_shifts 17 = .ok (.iadd, 1) ∧ decode cX8_shifts 18 = .ok (.aload_n 0, 1) ∧ decode cX8_shifts 19 = .ok (.getfield 26, 3) ∧ decode cX8_shifts 22 = .ok (.bipush 9, 2) ∧ decode cX8_shifts 24 = .ok (.iload_n 1, 1) ∧ decode cX8_shifts 25 = .ok (.imul, 1) ∧ decode cX8_shifts 26 = .ok (.iload_n 3, 1) ∧ decode cX8_shifts 27 = .ok (.iadd, 1) ∧ decode cX8_shifts 28 = .ok (.iaload, 1) := by decide +kernel
theorem dX8_shifts_16 : decode cX8_shifts 16 = .ok (.iload_n 3, 1) := DX8_shifts_1.1
theorem dX8_shifts_17 : decode cX8_shifts 17 = .ok (.iadd, 1) := DX8_shifts_1.2.1
theorem dX8_shifts_18 : decode cX8_shifts 18 = .ok (.aload_n 0, 1) := DX8_shifts_1.2.2.1
theorem dX8_shifts_19 : decode cX8_shifts 19 = .ok (.getfield 26, 3) := DX8_shifts_1.2.2.2.1
theorem dX8_shifts_22 : decode cX8_shifts 22 = .ok (.bipush 9, 2) := DX8_shifts_1.2.2.2.2.1
theorem dX8_shifts_24 : decode cX8_shifts 24 = .ok (.iload_n 1, 1) := DX8_shifts_1.2.2.2.2.2.1
theorem dX8_shifts_25 : decode cX8_shifts 25 = .ok (.imul, 1) := DX8_shifts_1.2.2.2.2.2.2.1
theorem dX8_shifts_26 : decode cX8_shifts 26 = .ok (.iload_n 3, 1) := DX8_shifts_1.2.2.2.2.2.2.2.1
theorem dX8_shifts_27 : decode cX8_shifts 27 = .ok (.iadd, 1) := DX8_shifts_1.2.2.2.2.2.2.2.2.1
theorem dX8_shifts_28 : decode cX8_shifts 28 = .ok (.iaload, 1) := DX8_shifts_1.2.2.2.2.2.2.2.2.2
set_option maxRecDepth 100000 in
theorem DX8_shifts_2 : decode cX8_shifts 29 = .ok (.iastore, 1) ∧ decode cX8_shifts 30 = .ok (.iinc 3 1, 3) ∧ decode cX8_shifts 33 = .ok (.goto (-31), 3) ∧ decode cX8_shifts 36 = .ok (.return_, 1) := by decide +kernel
theorem dX8_shifts_29 : decode cX8_shifts 29 = .ok (.iastore, 1) := DX8_shifts_2.1
theorem dX8_shifts_30 : decode cX8_shifts 30 = .ok (.iinc 3 1, 3) := DX8_shifts_2.2.1
theorem dX8_shifts_33 : decode cX8_shifts 33 = .ok (.goto (-31), 3) := DX8_shifts_2.2.2.1
theorem dX8_shifts_36 : decode cX8_shifts 36 = .ok (.return_, 1) := DX8_shifts_2.2.2.2
set_option maxRecDepth 100000 in
theorem DX8_settles_0 : decode cX8_settles 0 = .ok (.iconst 0, 1) ∧ decode cX8_settles 1 = .ok (.istore_n 2, 1) ∧ decode cX8_settles 2 = .ok (.iconst 0, 1) ∧ decode cX8_settles 3 = .ok (.istore_n 3, 1) ∧ decode cX8_settles 4 = .ok (.iload_n 3, 1) ∧ decode cX8_settles 5 = .ok (.aload_n 0, 1) ∧ decode cX8_settles 6 = .ok (.getfield 95, 3) ∧ decode cX8_settles 9 = .ok (.if_icmp .ge 79, 3) ∧ decode cX8_settles 12 = .ok (.aload_n 0, 1) ∧ decode cX8_settles 13 = .ok (.iload_n 3, 1) := by decide +kernel
theorem dX8_settles_0 : decode cX8_settles 0 = .ok (.iconst 0, 1) := DX8_settles_0.1
theorem dX8_settles_1 : decode cX8_settles 1 = .ok (.istore_n 2, 1) := DX8_settles_0.2.1
theorem dX8_settles_2 : decode cX8_settles 2 = .ok (.iconst 0, 1) := DX8_settles_0.2.2.1
theorem dX8_settles_3 : decode cX8_settles 3 = .ok (.istore_n 3, 1) := DX8_settles_0.2.2.2.1
theorem dX8_settles_4 : decode cX8_settles 4 = .ok (.iload_n 3, 1) := DX8_settles_0.2.2.2.2.1
theorem dX8_settles_5 : decode cX8_settles 5 = .ok (.aload_n 0, 1) := DX8_settles_0.2.2.2.2.2.1
theorem dX8_settles_6 : decode cX8_settles 6 = .ok (.getfield 95, 3) := DX8_settles_0.2.2.2.2.2.2.1
theorem dX8_settles_9 : decode cX8_settles 9 = .ok (.if_icmp .ge 79, 3) := DX8_settles_0.2.2.2.2.2.2.2.1
theorem dX8_settles_12 : decode cX8_settles 12 = .ok (.aload_n 0, 1) := DX8_settles_0.2.2.2.2.2.2.2.2.1
theorem dX8_settles_13 : decode cX8_settles 13 = .ok (.iload_n 3, 1) := DX8_settles_0.2.2.2.2.2.2.2.2.2
set_option maxRecDepth 100000 in
theorem DX8_settles_1 : decode cX8_settles 14 = .ok (.iconst 0, 1) ∧ decode cX8_settles 15 = .ok (.invokevirtual 98, 3) ∧ decode cX8_settles 18 = .ok (.aload_n 0, 1) ∧ decode cX8_settles 19 = .ok (.iload_n 1, 1) ∧ decode cX8_settles 20 = .ok (.iconst 0, 1) ∧ decode cX8_settles 21 = .ok (.invokevirtual 98, 3) ∧ decode cX8_settles 24 = .ok (.if_icmp .lt 33, 3) ∧ decode cX8_settles 27 = .ok (.aload_n 0, 1) ∧ decode cX8_settles 28 = .ok (.iload_n 3, 1) ∧ decode cX8_settles 29 = .ok (.iconst 0, 1) := by decide +kernel
theorem dX8_settles_14 : decode cX8_settles 14 = .ok (.iconst 0, 1) := DX8_settles_1.1
theorem dX8_settles_15 : decode cX8_settles 15 = .ok (.invokevirtual 98, 3) := DX8_settles_1.2.1
theorem dX8_settles_18 : decode cX8_settles 18 = .ok (.aload_n 0, 1) := DX8_settles_1.2.2.1
theorem dX8_settles_19 : decode cX8_settles 19 = .ok (.iload_n 1, 1) := DX8_settles_1.2.2.2.1
theorem dX8_settles_20 : decode cX8_settles 20 = .ok (.iconst 0, 1) := DX8_settles_1.2.2.2.2.1
theorem dX8_settles_21 : decode cX8_settles 21 = .ok (.invokevirtual 98, 3) := DX8_settles_1.2.2.2.2.2.1
theorem dX8_settles_24 : decode cX8_settles 24 = .ok (.if_icmp .lt 33, 3) := DX8_settles_1.2.2.2.2.2.2.1
theorem dX8_settles_27 : decode cX8_settles 27 = .ok (.aload_n 0, 1) := DX8_settles_1.2.2.2.2.2.2.2.1
theorem dX8_settles_28 : decode cX8_settles 28 = .ok (.iload_n 3, 1) := DX8_settles_1.2.2.2.2.2.2.2.2.1
theorem dX8_settles_29 : decode cX8_settles 29 = .ok (.iconst 0, 1) := DX8_settles_1.2.2.2.2.2.2.2.2.2
set_option maxRecDepth 100000 in
theorem DX8_settles_2 : decode cX8_settles 30 = .ok (.invokevirtual 98, 3) ∧ decode cX8_settles 33 = .ok (.aload_n 0, 1) ∧ decode cX8_settles 34 = .ok (.iload_n 1, 1) ∧ decode cX8_settles 35 = .ok (.iconst 0, 1) ∧ decode cX8_settles 36 = .ok (.invokevirtual 98, 3) ∧ decode cX8_settles 39 = .ok (.if_icmp .ne 22, 3) ∧ decode cX8_settles 42 = .ok (.aload_n 0, 1) ∧ decode cX8_settles 43 = .ok (.iload_n 3, 1) ∧ decode cX8_settles 44 = .ok (.iconst 2, 1) ∧ decode cX8_settles 45 = .ok (.invokevirtual 98, 3) := by decide +kernel
theorem dX8_settles_30 : decode cX8_settles 30 = .ok (.invokevirtual 98, 3) := DX8_settles_2.1
theorem dX8_settles_33 : decode cX8_settles 33 = .ok (.aload_n 0, 1) := DX8_settles_2.2.1
theorem dX8_settles_34 : decode cX8_settles 34 = .ok (.iload_n 1, 1) := DX8_settles_2.2.2.1
theorem dX8_settles_35 : decode cX8_settles 35 = .ok (.iconst 0, 1) := DX8_settles_2.2.2.2.1
theorem dX8_settles_36 : decode cX8_settles 36 = .ok (.invokevirtual 98, 3) := DX8_settles_2.2.2.2.2.1
theorem dX8_settles_39 : decode cX8_settles 39 = .ok (.if_icmp .ne 22, 3) := DX8_settles_2.2.2.2.2.2.1
theorem dX8_settles_42 : decode cX8_settles 42 = .ok (.aload_n 0, 1) := DX8_settles_2.2.2.2.2.2.2.1
theorem dX8_settles_43 : decode cX8_settles 43 = .ok (.iload_n 3, 1) := DX8_settles_2.2.2.2.2.2.2.2.1
theorem dX8_settles_44 : decode cX8_settles 44 = .ok (.iconst 2, 1) := DX8_settles_2.2.2.2.2.2.2.2.2.1
theorem dX8_settles_45 : decode cX8_settles 45 = .ok (.invokevirtual 98, 3) := DX8_settles_2.2.2.2.2.2.2.2.2.2
set_option maxRecDepth 100000 in
theorem DX8_settles_3 : decode cX8_settles 48 = .ok (.aload_n 0, 1) ∧ decode cX8_settles 49 = .ok (.iload_n 1, 1) ∧ decode cX8_settles 50 = .ok (.iconst 2, 1) ∧ decode cX8_settles 51 = .ok (.invokevirtual 98, 3) ∧ decode cX8_settles 54 = .ok (.if_icmp .ge 7, 3) ∧ decode cX8_settles 57 = .ok (.iconst 1, 1) ∧ decode cX8_settles 58 = .ok (.goto 4, 3) ∧ decode cX8_settles 61 = .ok (.iconst 0, 1) ∧ decode cX8_settles 62 = .ok (.istore 4, 2) ∧ decode cX8_settles 64 = .ok (.iload_n 2, 1) := by decide +kernel
theorem dX8_settles_48 : decode cX8_settles 48 = .ok (.aload_n 0, 1) := DX8_settles_3.1
theorem dX8_settles_49 : decode cX8_settles 49 = .ok (.iload_n 1, 1) := DX8_settles_3.2.1
theorem dX8_settles_50 : decode cX8_settles 50 = .ok (.iconst 2, 1) := DX8_settles_3.2.2.1
theorem dX8_settles_51 : decode cX8_settles 51 = .ok (.invokevirtual 98, 3) := DX8_settles_3.2.2.2.1
theorem dX8_settles_54 : decode cX8_settles 54 = .ok (.if_icmp .ge 7, 3) := DX8_settles_3.2.2.2.2.1
theorem dX8_settles_57 : decode cX8_settles 57 = .ok (.iconst 1, 1) := DX8_settles_3.2.2.2.2.2.1
theorem dX8_settles_58 : decode cX8_settles 58 = .ok (.goto 4, 3) := DX8_settles_3.2.2.2.2.2.2.1
theorem dX8_settles_61 : decode cX8_settles 61 = .ok (.iconst 0, 1) := DX8_settles_3.2.2.2.2.2.2.2.1
theorem dX8_settles_62 : decode cX8_settles 62 = .ok (.istore 4, 2) := DX8_settles_3.2.2.2.2.2.2.2.2.1
theorem dX8_settles_64 : decode cX8_settles 64 = .ok (.iload_n 2, 1) := DX8_settles_3.2.2.2.2.2.2.2.2.2
set_option maxRecDepth 100000 in
theorem DX8_settles_4 : decode cX8_settles 65 = .ok (.iload_n 3, 1) ∧ decode cX8_settles 66 = .ok (.iload_n 1, 1) ∧ decode cX8_settles 67 = .ok (.if_icmp .eq 12, 3) ∧ decode cX8_settles 70 = .ok (.iload 4, 2) ∧ decode cX8_settles 72 = .ok (.ifCond .eq 7, 3) ∧ decode cX8_settles 75 = .ok (.iconst 1, 1) ∧ decode cX8_settles 76 = .ok (.goto 4, 3) ∧ decode cX8_settles 79 = .ok (.iconst 0, 1) ∧ decode cX8_settles 80 = .ok (.iadd, 1) ∧ decode cX8_settles 81 = .ok (.istore_n 2, 1) := by decide +kernel
theorem dX8_settles_65 : decode cX8_settles 65 = .ok (.iload_n 3, 1) := DX8_settles_4.1
theorem dX8_settles_66 : decode cX8_settles 66 = .ok (.iload_n 1, 1) := DX8_settles_4.2.1
theorem dX8_settles_67 : decode cX8_settles 67 = .ok (.if_icmp .eq 12, 3) := DX8_settles_4.2.2.1
theorem dX8_settles_70 : decode cX8_settles 70 = .ok (.iload 4, 2) := DX8_settles_4.2.2.2.1
theorem dX8_settles_72 : decode cX8_settles 72 = .ok (.ifCond .eq 7, 3) := DX8_settles_4.2.2.2.2.1
theorem dX8_settles_75 : decode cX8_settles 75 = .ok (.iconst 1, 1) := DX8_settles_4.2.2.2.2.2.1
theorem dX8_settles_76 : decode cX8_settles 76 = .ok (.goto 4, 3) := DX8_settles_4.2.2.2.2.2.2.1
theorem dX8_settles_79 : decode cX8_settles 79 = .ok (.iconst 0, 1) := DX8_settles_4.2.2.2.2.2.2.2.1
theorem dX8_settles_80 : decode cX8_settles 80 = .ok (.iadd, 1) := DX8_settles_4.2.2.2.2.2.2.2.2.1
theorem dX8_settles_81 : decode cX8_settles 81 = .ok (.istore_n 2, 1) := DX8_settles_4.2.2.2.2.2.2.2.2.2
set_option maxRecDepth 100000 in
theorem DX8_settles_5 : decode cX8_settles 82 = .ok (.iinc 3 1, 3) ∧ decode cX8_settles 85 = .ok (.goto (-81), 3) ∧ decode cX8_settles 88 = .ok (.aload_n 0, 1) ∧ decode cX8_settles 89 = .ok (.iload_n 1, 1) ∧ decode cX8_settles 90 = .ok (.iload_n 2, 1) ∧ decode cX8_settles 91 = .ok (.invokevirtual 105, 3) ∧ decode cX8_settles 94 = .ok (.iload_n 2, 1) ∧ decode cX8_settles 95 = .ok (.ireturn, 1) := by decide +kernel
theorem dX8_settles_82 : decode cX8_settles 82 = .ok (.iinc 3 1, 3) := DX8_settles_5.1
theorem dX8_settles_85 : decode cX8_settles 85 = .ok (.goto (-81), 3) := DX8_settles_5.2.1
theorem dX8_settles_88 : decode cX8_settles 88 = .ok (.aload_n 0, 1) := DX8_settles_5.2.2.1
theorem dX8_settles_89 : decode cX8_settles 89 = .ok (.iload_n 1, 1) := DX8_settles_5.2.2.2.1
theorem dX8_settles_90 : decode cX8_settles 90 = .ok (.iload_n 2, 1) := DX8_settles_5.2.2.2.2.1
theorem dX8_settles_91 : decode cX8_settles 91 = .ok (.invokevirtual 105, 3) := DX8_settles_5.2.2.2.2.2.1
theorem dX8_settles_94 : decode cX8_settles 94 = .ok (.iload_n 2, 1) := DX8_settles_5.2.2.2.2.2.2.1
theorem dX8_settles_95 : decode cX8_settles 95 = .ok (.ireturn, 1) := DX8_settles_5.2.2.2.2.2.2.2
set_option maxRecDepth 100000 in
theorem DX8_leaves_0 : decode cX8_leaves 0 = .ok (.aload_n 0, 1) ∧ decode cX8_leaves 1 = .ok (.dup, 1) ∧ decode cX8_leaves 2 = .ok (.getfield 95, 3) ∧ decode cX8_leaves 5 = .ok (.iconst 1, 1) ∧ decode cX8_leaves 6 = .ok (.isub, 1) ∧ decode cX8_leaves 7 = .ok (.putfield 95, 3) ∧ decode cX8_leaves 10 = .ok (.iload_n 1, 1) ∧ decode cX8_leaves 11 = .ok (.istore_n 2, 1) ∧ decode cX8_leaves 12 = .ok (.iload_n 2, 1) ∧ decode cX8_leaves 13 = .ok (.aload_n 0, 1) := by decide +kernel
theorem dX8_leaves_0 : decode cX8_leaves 0 = .ok (.aload_n 0, 1) := DX8_leaves_0.1
theorem dX8_leaves_1 : decode cX8_leaves 1 = .ok (.dup, 1) := DX8_leaves_0.2.1
theorem dX8_leaves_2 : decode cX8_leaves 2 = .ok (.getfield 95, 3) := DX8_leaves_0.2.2.1
theorem dX8_leaves_5 : decode cX8_leaves 5 = .ok (.iconst 1, 1) := DX8_leaves_0.2.2.2.1
theorem dX8_leaves_6 : decode cX8_leaves 6 = .ok (.isub, 1) := DX8_leaves_0.2.2.2.2.1
theorem dX8_leaves_7 : decode cX8_leaves 7 = .ok (.putfield 95, 3) := DX8_leaves_0.2.2.2.2.2.1
theorem dX8_leaves_10 : decode cX8_leaves 10 = .ok (.iload_n 1, 1) := DX8_leaves_0.2.2.2.2.2.2.1
theorem dX8_leaves_11 : decode cX8_leaves 11 = .ok (.istore_n 2, 1) := DX8_leaves_0.2.2.2.2.2.2.2.1
theorem dX8_leaves_12 : decode cX8_leaves 12 = .ok (.iload_n 2, 1) := DX8_leaves_0.2.2.2.2.2.2.2.2.1
theorem dX8_leaves_13 : decode cX8_leaves 13 = .ok (.aload_n 0, 1) := DX8_leaves_0.2.2.2.2.2.2.2.2.2
set_option maxRecDepth 100000 in
theorem DX8_leaves_1 : decode cX8_leaves 14 = .ok (.getfield 95, 3) ∧ decode cX8_leaves 17 = .ok (.if_icmp .ge 17, 3) ∧ decode cX8_leaves 20 = .ok (.aload_n 0, 1) ∧ decode cX8_leaves 21 = .ok (.iload_n 2, 1) ∧ decode cX8_leaves 22 = .ok (.iconst 1, 1) ∧ decode cX8_leaves 23 = .ok (.iadd, 1) ∧ decode cX8_leaves 24 = .ok (.iload_n 2, 1) ∧ decode cX8_leaves 25 = .ok (.invokevirtual 101, 3) ∧ decode cX8_leaves 28 = .ok (.iinc 2 1, 3) ∧ decode cX8_leaves 31 = .ok (.goto (-19), 3) := by decide +kernel
theorem dX8_leaves_14 : decode cX8_leaves 14 = .ok (.getfield 95, 3) := DX8_leaves_1.1
theorem dX8_leaves_17 : decode cX8_leaves 17 = .ok (.if_icmp .ge 17, 3) := DX8_leaves_1.2.1
theorem dX8_leaves_20 : decode cX8_leaves 20 = .ok (.aload_n 0, 1) := DX8_leaves_1.2.2.1
theorem dX8_leaves_21 : decode cX8_leaves 21 = .ok (.iload_n 2, 1) := DX8_leaves_1.2.2.2.1
theorem dX8_leaves_22 : decode cX8_leaves 22 = .ok (.iconst 1, 1) := DX8_leaves_1.2.2.2.2.1
theorem dX8_leaves_23 : decode cX8_leaves 23 = .ok (.iadd, 1) := DX8_leaves_1.2.2.2.2.2.1
theorem dX8_leaves_24 : decode cX8_leaves 24 = .ok (.iload_n 2, 1) := DX8_leaves_1.2.2.2.2.2.2.1
theorem dX8_leaves_25 : decode cX8_leaves 25 = .ok (.invokevirtual 101, 3) := DX8_leaves_1.2.2.2.2.2.2.2.1
theorem dX8_leaves_28 : decode cX8_leaves 28 = .ok (.iinc 2 1, 3) := DX8_leaves_1.2.2.2.2.2.2.2.2.1
theorem dX8_leaves_31 : decode cX8_leaves 31 = .ok (.goto (-19), 3) := DX8_leaves_1.2.2.2.2.2.2.2.2.2
set_option maxRecDepth 100000 in
theorem DX8_leaves_2 : decode cX8_leaves 34 = .ok (.return_, 1) := by decide +kernel
theorem dX8_leaves_34 : decode cX8_leaves 34 = .ok (.return_, 1) := DX8_leaves_2
set_option maxRecDepth 100000 in
theorem DX8_isFine_0 : decode cX8_isFine 0 = .ok (.iconst 1, 1) ∧ decode cX8_isFine 1 = .ok (.istore_n 1, 1) ∧ decode cX8_isFine 2 = .ok (.iconst 0, 1) ∧ decode cX8_isFine 3 = .ok (.istore_n 2, 1) ∧ decode cX8_isFine 4 = .ok (.iload_n 2, 1) ∧ decode cX8_isFine 5 = .ok (.iconst 1, 1) ∧ decode cX8_isFine 6 = .ok (.iadd, 1) ∧ decode cX8_isFine 7 = .ok (.aload_n 0, 1) ∧ decode cX8_isFine 8 = .ok (.getfield 95, 3) ∧ decode cX8_isFine 11 = .ok (.if_icmp .ge 121, 3) := by decide +kernel
theorem dX8_isFine_0 : decode cX8_isFine 0 = .ok (.iconst 1, 1) := DX8_isFine_0.1
theorem dX8_isFine_1 : decode cX8_isFine 1 = .ok (.istore_n 1, 1) := DX8_isFine_0.2.1
theorem dX8_isFine_2 : decode cX8_isFine 2 = .ok (.iconst 0, 1) := DX8_isFine_0.2.2.1
theorem dX8_isFine_3 : decode cX8_isFine 3 = .ok (.istore_n 2, 1) := DX8_isFine_0.2.2.2.1
theorem dX8_isFine_4 : decode cX8_isFine 4 = .ok (.iload_n 2, 1) := DX8_isFine_0.2.2.2.2.1
theorem dX8_isFine_5 : decode cX8_isFine 5 = .ok (.iconst 1, 1) := DX8_isFine_0.2.2.2.2.2.1
theorem dX8_isFine_6 : decode cX8_isFine 6 = .ok (.iadd, 1) := DX8_isFine_0.2.2.2.2.2.2.1
theorem dX8_isFine_7 : decode cX8_isFine 7 = .ok (.aload_n 0, 1) := DX8_isFine_0.2.2.2.2.2.2.2.1
theorem dX8_isFine_8 : decode cX8_isFine 8 = .ok (.getfield 95, 3) := DX8_isFine_0.2.2.2.2.2.2.2.2.1
theorem dX8_isFine_11 : decode cX8_isFine 11 = .ok (.if_icmp .ge 121, 3) := DX8_isFine_0.2.2.2.2.2.2.2.2.2
set_option maxRecDepth 100000 in
theorem DX8_isFine_1 : decode cX8_isFine 14 = .ok (.aload_n 0, 1) ∧ decode cX8_isFine 15 = .ok (.iload_n 2, 1) ∧ decode cX8_isFine 16 = .ok (.iconst 0, 1) ∧ decode cX8_isFine 17 = .ok (.invokevirtual 98, 3) ∧ decode cX8_isFine 20 = .ok (.aload_n 0, 1) ∧ decode cX8_isFine 21 = .ok (.iload_n 2, 1) ∧ decode cX8_isFine 22 = .ok (.iconst 1, 1) ∧ decode cX8_isFine 23 = .ok (.iadd, 1) ∧ decode cX8_isFine 24 = .ok (.iconst 0, 1) ∧ decode cX8_isFine 25 = .ok (.invokevirtual 98, 3) := by decide +kernel
theorem dX8_isFine_14 : decode cX8_isFine 14 = .ok (.aload_n 0, 1) := DX8_isFine_1.1
theorem dX8_isFine_15 : decode cX8_isFine 15 = .ok (.iload_n 2, 1) := DX8_isFine_1.2.1
theorem dX8_isFine_16 : decode cX8_isFine 16 = .ok (.iconst 0, 1) := DX8_isFine_1.2.2.1
theorem dX8_isFine_17 : decode cX8_isFine 17 = .ok (.invokevirtual 98, 3) := DX8_isFine_1.2.2.2.1
theorem dX8_isFine_20 : decode cX8_isFine 20 = .ok (.aload_n 0, 1) := DX8_isFine_1.2.2.2.2.1
theorem dX8_isFine_21 : decode cX8_isFine 21 = .ok (.iload_n 2, 1) := DX8_isFine_1.2.2.2.2.2.1
theorem dX8_isFine_22 : decode cX8_isFine 22 = .ok (.iconst 1, 1) := DX8_isFine_1.2.2.2.2.2.2.1
theorem dX8_isFine_23 : decode cX8_isFine 23 = .ok (.iadd, 1) := DX8_isFine_1.2.2.2.2.2.2.2.1
theorem dX8_isFine_24 : decode cX8_isFine 24 = .ok (.iconst 0, 1) := DX8_isFine_1.2.2.2.2.2.2.2.2.1
theorem dX8_isFine_25 : decode cX8_isFine 25 = .ok (.invokevirtual 98, 3) := DX8_isFine_1.2.2.2.2.2.2.2.2.2
set_option maxRecDepth 100000 in
theorem DX8_isFine_2 : decode cX8_isFine 28 = .ok (.if_icmp .ne 98, 3) ∧ decode cX8_isFine 31 = .ok (.iload_n 1, 1) ∧ decode cX8_isFine 32 = .ok (.ifCond .eq 39, 3) ∧ decode cX8_isFine 35 = .ok (.aload_n 0, 1) ∧ decode cX8_isFine 36 = .ok (.iload_n 2, 1) ∧ decode cX8_isFine 37 = .ok (.iconst 2, 1) ∧ decode cX8_isFine 38 = .ok (.invokevirtual 98, 3) ∧ decode cX8_isFine 41 = .ok (.aload_n 0, 1) ∧ decode cX8_isFine 42 = .ok (.iload_n 2, 1) ∧ decode cX8_isFine 43 = .ok (.iconst 1, 1) := by decide +kernel
theorem dX8_isFine_28 : decode cX8_isFine 28 = .ok (.if_icmp .ne 98, 3) := DX8_isFine_2.1
theorem dX8_isFine_31 : decode cX8_isFine 31 = .ok (.iload_n 1, 1) := DX8_isFine_2.2.1
theorem dX8_isFine_32 : decode cX8_isFine 32 = .ok (.ifCond .eq 39, 3) := DX8_isFine_2.2.2.1
theorem dX8_isFine_35 : decode cX8_isFine 35 = .ok (.aload_n 0, 1) := DX8_isFine_2.2.2.2.1
theorem dX8_isFine_36 : decode cX8_isFine 36 = .ok (.iload_n 2, 1) := DX8_isFine_2.2.2.2.2.1
theorem dX8_isFine_37 : decode cX8_isFine 37 = .ok (.iconst 2, 1) := DX8_isFine_2.2.2.2.2.2.1
theorem dX8_isFine_38 : decode cX8_isFine 38 = .ok (.invokevirtual 98, 3) := DX8_isFine_2.2.2.2.2.2.2.1
theorem dX8_isFine_41 : decode cX8_isFine 41 = .ok (.aload_n 0, 1) := DX8_isFine_2.2.2.2.2.2.2.2.1
theorem dX8_isFine_42 : decode cX8_isFine 42 = .ok (.iload_n 2, 1) := DX8_isFine_2.2.2.2.2.2.2.2.2.1
theorem dX8_isFine_43 : decode cX8_isFine 43 = .ok (.iconst 1, 1) := DX8_isFine_2.2.2.2.2.2.2.2.2.2
set_option maxRecDepth 100000 in
theorem DX8_isFine_3 : decode cX8_isFine 44 = .ok (.iadd, 1) ∧ decode cX8_isFine 45 = .ok (.iconst 2, 1) ∧ decode cX8_isFine 46 = .ok (.invokevirtual 98, 3) ∧ decode cX8_isFine 49 = .ok (.if_icmp .ge 22, 3) ∧ decode cX8_isFine 52 = .ok (.aload_n 0, 1) ∧ decode cX8_isFine 53 = .ok (.iload_n 2, 1) ∧ decode cX8_isFine 54 = .ok (.invokevirtual 108, 3) ∧ decode cX8_isFine 57 = .ok (.aload_n 0, 1) ∧ decode cX8_isFine 58 = .ok (.iload_n 2, 1) ∧ decode cX8_isFine 59 = .ok (.iconst 1, 1) := by decide +kernel
theorem dX8_isFine_44 : decode cX8_isFine 44 = .ok (.iadd, 1) := DX8_isFine_3.1
theorem dX8_isFine_45 : decode cX8_isFine 45 = .ok (.iconst 2, 1) := DX8_isFine_3.2.1
theorem dX8_isFine_46 : decode cX8_isFine 46 = .ok (.invokevirtual 98, 3) := DX8_isFine_3.2.2.1
theorem dX8_isFine_49 : decode cX8_isFine 49 = .ok (.if_icmp .ge 22, 3) := DX8_isFine_3.2.2.2.1
theorem dX8_isFine_52 : decode cX8_isFine 52 = .ok (.aload_n 0, 1) := DX8_isFine_3.2.2.2.2.1
theorem dX8_isFine_53 : decode cX8_isFine 53 = .ok (.iload_n 2, 1) := DX8_isFine_3.2.2.2.2.2.1
theorem dX8_isFine_54 : decode cX8_isFine 54 = .ok (.invokevirtual 108, 3) := DX8_isFine_3.2.2.2.2.2.2.1
theorem dX8_isFine_57 : decode cX8_isFine 57 = .ok (.aload_n 0, 1) := DX8_isFine_3.2.2.2.2.2.2.2.1
theorem dX8_isFine_58 : decode cX8_isFine 58 = .ok (.iload_n 2, 1) := DX8_isFine_3.2.2.2.2.2.2.2.2.1
theorem dX8_isFine_59 : decode cX8_isFine 59 = .ok (.iconst 1, 1) := DX8_isFine_3.2.2.2.2.2.2.2.2.2
set_option maxRecDepth 100000 in
theorem DX8_isFine_4 : decode cX8_isFine 60 = .ok (.iadd, 1) ∧ decode cX8_isFine 61 = .ok (.invokevirtual 108, 3) ∧ decode cX8_isFine 64 = .ok (.if_icmp .ge 7, 3) ∧ decode cX8_isFine 67 = .ok (.iconst 1, 1) ∧ decode cX8_isFine 68 = .ok (.goto 4, 3) ∧ decode cX8_isFine 71 = .ok (.iconst 0, 1) ∧ decode cX8_isFine 72 = .ok (.istore_n 1, 1) ∧ decode cX8_isFine 73 = .ok (.iload_n 1, 1) ∧ decode cX8_isFine 74 = .ok (.ifCond .eq 50, 3) ∧ decode cX8_isFine 77 = .ok (.iload_n 2, 1) := by decide +kernel
theorem dX8_isFine_60 : decode cX8_isFine 60 = .ok (.iadd, 1) := DX8_isFine_4.1
theorem dX8_isFine_61 : decode cX8_isFine 61 = .ok (.invokevirtual 108, 3) := DX8_isFine_4.2.1
theorem dX8_isFine_64 : decode cX8_isFine 64 = .ok (.if_icmp .ge 7, 3) := DX8_isFine_4.2.2.1
theorem dX8_isFine_67 : decode cX8_isFine 67 = .ok (.iconst 1, 1) := DX8_isFine_4.2.2.2.1
theorem dX8_isFine_68 : decode cX8_isFine 68 = .ok (.goto 4, 3) := DX8_isFine_4.2.2.2.2.1
theorem dX8_isFine_71 : decode cX8_isFine 71 = .ok (.iconst 0, 1) := DX8_isFine_4.2.2.2.2.2.1
theorem dX8_isFine_72 : decode cX8_isFine 72 = .ok (.istore_n 1, 1) := DX8_isFine_4.2.2.2.2.2.2.1
theorem dX8_isFine_73 : decode cX8_isFine 73 = .ok (.iload_n 1, 1) := DX8_isFine_4.2.2.2.2.2.2.2.1
theorem dX8_isFine_74 : decode cX8_isFine 74 = .ok (.ifCond .eq 50, 3) := DX8_isFine_4.2.2.2.2.2.2.2.2.1
theorem dX8_isFine_77 : decode cX8_isFine 77 = .ok (.iload_n 2, 1) := DX8_isFine_4.2.2.2.2.2.2.2.2.2
set_option maxRecDepth 100000 in
theorem DX8_isFine_5 : decode cX8_isFine 78 = .ok (.iconst 2, 1) ∧ decode cX8_isFine 79 = .ok (.iadd, 1) ∧ decode cX8_isFine 80 = .ok (.aload_n 0, 1) ∧ decode cX8_isFine 81 = .ok (.getfield 95, 3) ∧ decode cX8_isFine 84 = .ok (.if_icmp .ge 36, 3) ∧ decode cX8_isFine 87 = .ok (.aload_n 0, 1) ∧ decode cX8_isFine 88 = .ok (.iload_n 2, 1) ∧ decode cX8_isFine 89 = .ok (.iconst 2, 1) ∧ decode cX8_isFine 90 = .ok (.iadd, 1) ∧ decode cX8_isFine 91 = .ok (.iconst 0, 1) := by decide +kernel
theorem dX8_isFine_78 : decode cX8_isFine 78 = .ok (.iconst 2, 1) := DX8_isFine_5.1
theorem dX8_isFine_79 : decode cX8_isFine 79 = .ok (.iadd, 1) := DX8_isFine_5.2.1
theorem dX8_isFine_80 : decode cX8_isFine 80 = .ok (.aload_n 0, 1) := DX8_isFine_5.2.2.1
theorem dX8_isFine_81 : decode cX8_isFine 81 = .ok (.getfield 95, 3) := DX8_isFine_5.2.2.2.1
theorem dX8_isFine_84 : decode cX8_isFine 84 = .ok (.if_icmp .ge 36, 3) := DX8_isFine_5.2.2.2.2.1
theorem dX8_isFine_87 : decode cX8_isFine 87 = .ok (.aload_n 0, 1) := DX8_isFine_5.2.2.2.2.2.1
theorem dX8_isFine_88 : decode cX8_isFine 88 = .ok (.iload_n 2, 1) := DX8_isFine_5.2.2.2.2.2.2.1
theorem dX8_isFine_89 : decode cX8_isFine 89 = .ok (.iconst 2, 1) := DX8_isFine_5.2.2.2.2.2.2.2.1
theorem dX8_isFine_90 : decode cX8_isFine 90 = .ok (.iadd, 1) := DX8_isFine_5.2.2.2.2.2.2.2.2.1
theorem dX8_isFine_91 : decode cX8_isFine 91 = .ok (.iconst 0, 1) := DX8_isFine_5.2.2.2.2.2.2.2.2.2
set_option maxRecDepth 100000 in
theorem DX8_isFine_6 : decode cX8_isFine 92 = .ok (.invokevirtual 98, 3) ∧ decode cX8_isFine 95 = .ok (.aload_n 0, 1) ∧ decode cX8_isFine 96 = .ok (.iload_n 2, 1) ∧ decode cX8_isFine 97 = .ok (.iconst 0, 1) ∧ decode cX8_isFine 98 = .ok (.invokevirtual 98, 3) ∧ decode cX8_isFine 101 = .ok (.if_icmp .ne 19, 3) ∧ decode cX8_isFine 104 = .ok (.aload_n 0, 1) ∧ decode cX8_isFine 105 = .ok (.iload_n 2, 1) ∧ decode cX8_isFine 106 = .ok (.iconst 2, 1) ∧ decode cX8_isFine 107 = .ok (.iadd, 1) := by decide +kernel
theorem dX8_isFine_92 : decode cX8_isFine 92 = .ok (.invokevirtual 98, 3) := DX8_isFine_6.1
theorem dX8_isFine_95 : decode cX8_isFine 95 = .ok (.aload_n 0, 1) := DX8_isFine_6.2.1
theorem dX8_isFine_96 : decode cX8_isFine 96 = .ok (.iload_n 2, 1) := DX8_isFine_6.2.2.1
theorem dX8_isFine_97 : decode cX8_isFine 97 = .ok (.iconst 0, 1) := DX8_isFine_6.2.2.2.1
theorem dX8_isFine_98 : decode cX8_isFine 98 = .ok (.invokevirtual 98, 3) := DX8_isFine_6.2.2.2.2.1
theorem dX8_isFine_101 : decode cX8_isFine 101 = .ok (.if_icmp .ne 19, 3) := DX8_isFine_6.2.2.2.2.2.1
theorem dX8_isFine_104 : decode cX8_isFine 104 = .ok (.aload_n 0, 1) := DX8_isFine_6.2.2.2.2.2.2.1
theorem dX8_isFine_105 : decode cX8_isFine 105 = .ok (.iload_n 2, 1) := DX8_isFine_6.2.2.2.2.2.2.2.1
theorem dX8_isFine_106 : decode cX8_isFine 106 = .ok (.iconst 2, 1) := DX8_isFine_6.2.2.2.2.2.2.2.2.1
theorem dX8_isFine_107 : decode cX8_isFine 107 = .ok (.iadd, 1) := DX8_isFine_6.2.2.2.2.2.2.2.2.2
set_option maxRecDepth 100000 in
theorem DX8_isFine_7 : decode cX8_isFine 108 = .ok (.iconst 2, 1) ∧ decode cX8_isFine 109 = .ok (.invokevirtual 98, 3) ∧ decode cX8_isFine 112 = .ok (.aload_n 0, 1) ∧ decode cX8_isFine 113 = .ok (.iload_n 2, 1) ∧ decode cX8_isFine 114 = .ok (.invokevirtual 108, 3) ∧ decode cX8_isFine 117 = .ok (.if_icmp .lt 7, 3) ∧ decode cX8_isFine 120 = .ok (.iconst 1, 1) ∧ decode cX8_isFine 121 = .ok (.goto 4, 3) ∧ decode cX8_isFine 124 = .ok (.iconst 0, 1) ∧ decode cX8_isFine 125 = .ok (.istore_n 1, 1) := by decide +kernel
theorem dX8_isFine_108 : decode cX8_isFine 108 = .ok (.iconst 2, 1) := DX8_isFine_7.1
theorem dX8_isFine_109 : decode cX8_isFine 109 = .ok (.invokevirtual 98, 3) := DX8_isFine_7.2.1
theorem dX8_isFine_112 : decode cX8_isFine 112 = .ok (.aload_n 0, 1) := DX8_isFine_7.2.2.1
theorem dX8_isFine_113 : decode cX8_isFine 113 = .ok (.iload_n 2, 1) := DX8_isFine_7.2.2.2.1
theorem dX8_isFine_114 : decode cX8_isFine 114 = .ok (.invokevirtual 108, 3) := DX8_isFine_7.2.2.2.2.1
theorem dX8_isFine_117 : decode cX8_isFine 117 = .ok (.if_icmp .lt 7, 3) := DX8_isFine_7.2.2.2.2.2.1
theorem dX8_isFine_120 : decode cX8_isFine 120 = .ok (.iconst 1, 1) := DX8_isFine_7.2.2.2.2.2.2.1
theorem dX8_isFine_121 : decode cX8_isFine 121 = .ok (.goto 4, 3) := DX8_isFine_7.2.2.2.2.2.2.2.1
theorem dX8_isFine_124 : decode cX8_isFine 124 = .ok (.iconst 0, 1) := DX8_isFine_7.2.2.2.2.2.2.2.2.1
theorem dX8_isFine_125 : decode cX8_isFine 125 = .ok (.istore_n 1, 1) := DX8_isFine_7.2.2.2.2.2.2.2.2.2
set_option maxRecDepth 100000 in
theorem DX8_isFine_8 : decode cX8_isFine 126 = .ok (.iinc 2 1, 3) ∧ decode cX8_isFine 129 = .ok (.goto (-125), 3) ∧ decode cX8_isFine 132 = .ok (.iload_n 1, 1) ∧ decode cX8_isFine 133 = .ok (.ireturn, 1) := by decide +kernel
theorem dX8_isFine_126 : decode cX8_isFine 126 = .ok (.iinc 2 1, 3) := DX8_isFine_8.1
theorem dX8_isFine_129 : decode cX8_isFine 129 = .ok (.goto (-125), 3) := DX8_isFine_8.2.1
theorem dX8_isFine_132 : decode cX8_isFine 132 = .ok (.iload_n 1, 1) := DX8_isFine_8.2.2.1
theorem dX8_isFine_133 : decode cX8_isFine 133 = .ok (.ireturn, 1) := DX8_isFine_8.2.2.2
set_option maxRecDepth 100000 in
theorem DX8_takesOver_0 : decode cX8_takesOver 0 = .ok (.aload_n 0, 1) ∧ decode cX8_takesOver 1 = .ok (.getfield 7, 3) ∧ decode cX8_takesOver 4 = .ok (.bipush 8, 2) ∧ decode cX8_takesOver 6 = .ok (.aload_n 0, 1) ∧ decode cX8_takesOver 7 = .ok (.getfield 95, 3) ∧ decode cX8_takesOver 10 = .ok (.iastore, 1) ∧ decode cX8_takesOver 11 = .ok (.iconst 0, 1) ∧ decode cX8_takesOver 12 = .ok (.istore_n 1, 1) ∧ decode cX8_takesOver 13 = .ok (.iload_n 1, 1) ∧ decode cX8_takesOver 14 = .ok (.bipush 9, 2) := by decide +kernel
theorem dX8_takesOver_0 : decode cX8_takesOver 0 = .ok (.aload_n 0, 1) := DX8_takesOver_0.1
theorem dX8_takesOver_1 : decode cX8_takesOver 1 = .ok (.getfield 7, 3) := DX8_takesOver_0.2.1
theorem dX8_takesOver_4 : decode cX8_takesOver 4 = .ok (.bipush 8, 2) := DX8_takesOver_0.2.2.1
theorem dX8_takesOver_6 : decode cX8_takesOver 6 = .ok (.aload_n 0, 1) := DX8_takesOver_0.2.2.2.1
theorem dX8_takesOver_7 : decode cX8_takesOver 7 = .ok (.getfield 95, 3) := DX8_takesOver_0.2.2.2.2.1
theorem dX8_takesOver_10 : decode cX8_takesOver 10 = .ok (.iastore, 1) := DX8_takesOver_0.2.2.2.2.2.1
theorem dX8_takesOver_11 : decode cX8_takesOver 11 = .ok (.iconst 0, 1) := DX8_takesOver_0.2.2.2.2.2.2.1
theorem dX8_takesOver_12 : decode cX8_takesOver 12 = .ok (.istore_n 1, 1) := DX8_takesOver_0.2.2.2.2.2.2.2.1
theorem dX8_takesOver_13 : decode cX8_takesOver 13 = .ok (.iload_n 1, 1) := DX8_takesOver_0.2.2.2.2.2.2.2.2.1
theorem dX8_takesOver_14 : decode cX8_takesOver 14 = .ok (.bipush 9, 2) := DX8_takesOver_0.2.2.2.2.2.2.2.2.2
set_option maxRecDepth 100000 in
theorem DX8_takesOver_1 : decode cX8_takesOver 16 = .ok (.aload_n 0, 1) ∧ decode cX8_takesOver 17 = .ok (.getfield 95, 3) ∧ decode cX8_takesOver 20 = .ok (.imul, 1) ∧ decode cX8_takesOver 21 = .ok (.if_icmp .ge 24, 3) ∧ decode cX8_takesOver 24 = .ok (.aload_n 0, 1) ∧ decode cX8_takesOver 25 = .ok (.getfield 7, 3) ∧ decode cX8_takesOver 28 = .ok (.bipush 33, 2) ∧ decode cX8_takesOver 30 = .ok (.iload_n 1, 1) ∧ decode cX8_takesOver 31 = .ok (.iadd, 1) ∧ decode cX8_takesOver 32 = .ok (.aload_n 0, 1) := by decide +kernel
theorem dX8_takesOver_16 : decode cX8_takesOver 16 = .ok (.aload_n 0, 1) := DX8_takesOver_1.1
theorem dX8_takesOver_17 : decode cX8_takesOver 17 = .ok (.getfield 95, 3) := DX8_takesOver_1.2.1
theorem dX8_takesOver_20 : decode cX8_takesOver 20 = .ok (.imul, 1) := DX8_takesOver_1.2.2.1
theorem dX8_takesOver_21 : decode cX8_takesOver 21 = .ok (.if_icmp .ge 24, 3) := DX8_takesOver_1.2.2.2.1
theorem dX8_takesOver_24 : decode cX8_takesOver 24 = .ok (.aload_n 0, 1) := DX8_takesOver_1.2.2.2.2.1
theorem dX8_takesOver_25 : decode cX8_takesOver 25 = .ok (.getfield 7, 3) := DX8_takesOver_1.2.2.2.2.2.1
theorem dX8_takesOver_28 : decode cX8_takesOver 28 = .ok (.bipush 33, 2) := DX8_takesOver_1.2.2.2.2.2.2.1
theorem dX8_takesOver_30 : decode cX8_takesOver 30 = .ok (.iload_n 1, 1) := DX8_takesOver_1.2.2.2.2.2.2.2.1
theorem dX8_takesOver_31 : decode cX8_takesOver 31 = .ok (.iadd, 1) := DX8_takesOver_1.2.2.2.2.2.2.2.2.1
theorem dX8_takesOver_32 : decode cX8_takesOver 32 = .ok (.aload_n 0, 1) := DX8_takesOver_1.2.2.2.2.2.2.2.2.2
set_option maxRecDepth 100000 in
theorem DX8_takesOver_2 : decode cX8_takesOver 33 = .ok (.getfield 26, 3) ∧ decode cX8_takesOver 36 = .ok (.iload_n 1, 1) ∧ decode cX8_takesOver 37 = .ok (.iaload, 1) ∧ decode cX8_takesOver 38 = .ok (.iastore, 1) ∧ decode cX8_takesOver 39 = .ok (.iinc 1 1, 3) ∧ decode cX8_takesOver 42 = .ok (.goto (-29), 3) ∧ decode cX8_takesOver 45 = .ok (.return_, 1) := by decide +kernel
theorem dX8_takesOver_33 : decode cX8_takesOver 33 = .ok (.getfield 26, 3) := DX8_takesOver_2.1
theorem dX8_takesOver_36 : decode cX8_takesOver 36 = .ok (.iload_n 1, 1) := DX8_takesOver_2.2.1
theorem dX8_takesOver_37 : decode cX8_takesOver 37 = .ok (.iaload, 1) := DX8_takesOver_2.2.2.1
theorem dX8_takesOver_38 : decode cX8_takesOver 38 = .ok (.iastore, 1) := DX8_takesOver_2.2.2.2.1
theorem dX8_takesOver_39 : decode cX8_takesOver 39 = .ok (.iinc 1 1, 3) := DX8_takesOver_2.2.2.2.2.1
theorem dX8_takesOver_42 : decode cX8_takesOver 42 = .ok (.goto (-29), 3) := DX8_takesOver_2.2.2.2.2.2.1
theorem dX8_takesOver_45 : decode cX8_takesOver 45 = .ok (.return_, 1) := DX8_takesOver_2.2.2.2.2.2.2
set_option maxRecDepth 100000 in
theorem DX8_addClip_0 : decode cX8_addClip 0 = .ok (.iload_n 1, 1) ∧ decode cX8_addClip 1 = .ok (.invokestatic 111, 3) ∧ decode cX8_addClip 4 = .ok (.ifCond .eq 58, 3) ∧ decode cX8_addClip 7 = .ok (.iload_n 2, 1) ∧ decode cX8_addClip 8 = .ok (.invokestatic 70, 3) ∧ decode cX8_addClip 11 = .ok (.ifCond .eq 51, 3) ∧ decode cX8_addClip 14 = .ok (.iload_n 3, 1) ∧ decode cX8_addClip 15 = .ok (.invokestatic 114, 3) ∧ decode cX8_addClip 18 = .ok (.ifCond .eq 44, 3) ∧ decode cX8_addClip 21 = .ok (.iload 4, 2) := by decide +kernel
theorem dX8_addClip_0 : decode cX8_addClip 0 = .ok (.iload_n 1, 1) := DX8_addClip_0.1
theorem dX8_addClip_1 : decode cX8_addClip 1 = .ok (.invokestatic 111, 3) := DX8_addClip_0.2.1
theorem dX8_addClip_4 : decode cX8_addClip 4 = .ok (.ifCond .eq 58, 3) := DX8_addClip_0.2.2.1
theorem dX8_addClip_7 : decode cX8_addClip 7 = .ok (.iload_n 2, 1) := DX8_addClip_0.2.2.2.1
theorem dX8_addClip_8 : decode cX8_addClip 8 = .ok (.invokestatic 70, 3) := DX8_addClip_0.2.2.2.2.1
theorem dX8_addClip_11 : decode cX8_addClip 11 = .ok (.ifCond .eq 51, 3) := DX8_addClip_0.2.2.2.2.2.1
theorem dX8_addClip_14 : decode cX8_addClip 14 = .ok (.iload_n 3, 1) := DX8_addClip_0.2.2.2.2.2.2.1
theorem dX8_addClip_15 : decode cX8_addClip 15 = .ok (.invokestatic 114, 3) := DX8_addClip_0.2.2.2.2.2.2.2.1
theorem dX8_addClip_18 : decode cX8_addClip 18 = .ok (.ifCond .eq 44, 3) := DX8_addClip_0.2.2.2.2.2.2.2.2.1
theorem dX8_addClip_21 : decode cX8_addClip 21 = .ok (.iload 4, 2) := DX8_addClip_0.2.2.2.2.2.2.2.2.2
set_option maxRecDepth 100000 in
theorem DX8_addClip_1 : decode cX8_addClip 23 = .ok (.invokestatic 114, 3) ∧ decode cX8_addClip 26 = .ok (.ifCond .eq 36, 3) ∧ decode cX8_addClip 29 = .ok (.iload 5, 2) ∧ decode cX8_addClip 31 = .ok (.i2l, 1) ∧ decode cX8_addClip 32 = .ok (.lconst 1, 1) ∧ decode cX8_addClip 33 = .ok (.sipush 4000, 3) ∧ decode cX8_addClip 36 = .ok (.iload_n 3, 1) ∧ decode cX8_addClip 37 = .ok (.isub, 1) ∧ decode cX8_addClip 38 = .ok (.i2l, 1) ∧ decode cX8_addClip 39 = .ok (.invokestatic 45, 3) := by decide +kernel
theorem dX8_addClip_23 : decode cX8_addClip 23 = .ok (.invokestatic 114, 3) := DX8_addClip_1.1
theorem dX8_addClip_26 : decode cX8_addClip 26 = .ok (.ifCond .eq 36, 3) := DX8_addClip_1.2.1
theorem dX8_addClip_29 : decode cX8_addClip 29 = .ok (.iload 5, 2) := DX8_addClip_1.2.2.1
theorem dX8_addClip_31 : decode cX8_addClip 31 = .ok (.i2l, 1) := DX8_addClip_1.2.2.2.1
theorem dX8_addClip_32 : decode cX8_addClip 32 = .ok (.lconst 1, 1) := DX8_addClip_1.2.2.2.2.1
theorem dX8_addClip_33 : decode cX8_addClip 33 = .ok (.sipush 4000, 3) := DX8_addClip_1.2.2.2.2.2.1
theorem dX8_addClip_36 : decode cX8_addClip 36 = .ok (.iload_n 3, 1) := DX8_addClip_1.2.2.2.2.2.2.1
theorem dX8_addClip_37 : decode cX8_addClip 37 = .ok (.isub, 1) := DX8_addClip_1.2.2.2.2.2.2.2.1
theorem dX8_addClip_38 : decode cX8_addClip 38 = .ok (.i2l, 1) := DX8_addClip_1.2.2.2.2.2.2.2.2.1
theorem dX8_addClip_39 : decode cX8_addClip 39 = .ok (.invokestatic 45, 3) := DX8_addClip_1.2.2.2.2.2.2.2.2.2
set_option maxRecDepth 100000 in
theorem DX8_addClip_2 : decode cX8_addClip 42 = .ok (.ifCond .eq 20, 3) ∧ decode cX8_addClip 45 = .ok (.iload 6, 2) ∧ decode cX8_addClip 47 = .ok (.i2l, 1) ∧ decode cX8_addClip 48 = .ok (.lconst 0, 1) ∧ decode cX8_addClip 49 = .ok (.ldc2_w 117, 3) ∧ decode cX8_addClip 52 = .ok (.invokestatic 45, 3) ∧ decode cX8_addClip 55 = .ok (.ifCond .eq 7, 3) ∧ decode cX8_addClip 58 = .ok (.iconst 1, 1) ∧ decode cX8_addClip 59 = .ok (.goto 4, 3) ∧ decode cX8_addClip 62 = .ok (.iconst 0, 1) := by decide +kernel
theorem dX8_addClip_42 : decode cX8_addClip 42 = .ok (.ifCond .eq 20, 3) := DX8_addClip_2.1
theorem dX8_addClip_45 : decode cX8_addClip 45 = .ok (.iload 6, 2) := DX8_addClip_2.2.1
theorem dX8_addClip_47 : decode cX8_addClip 47 = .ok (.i2l, 1) := DX8_addClip_2.2.2.1
theorem dX8_addClip_48 : decode cX8_addClip 48 = .ok (.lconst 0, 1) := DX8_addClip_2.2.2.2.1
theorem dX8_addClip_49 : decode cX8_addClip 49 = .ok (.ldc2_w 117, 3) := DX8_addClip_2.2.2.2.2.1
theorem dX8_addClip_52 : decode cX8_addClip 52 = .ok (.invokestatic 45, 3) := DX8_addClip_2.2.2.2.2.2.1
theorem dX8_addClip_55 : decode cX8_addClip 55 = .ok (.ifCond .eq 7, 3) := DX8_addClip_2.2.2.2.2.2.2.1
theorem dX8_addClip_58 : decode cX8_addClip 58 = .ok (.iconst 1, 1) := DX8_addClip_2.2.2.2.2.2.2.2.1
theorem dX8_addClip_59 : decode cX8_addClip 59 = .ok (.goto 4, 3) := DX8_addClip_2.2.2.2.2.2.2.2.2.1
theorem dX8_addClip_62 : decode cX8_addClip 62 = .ok (.iconst 0, 1) := DX8_addClip_2.2.2.2.2.2.2.2.2.2
set_option maxRecDepth 100000 in
theorem DX8_addClip_3 : decode cX8_addClip 63 = .ok (.istore 7, 2) ∧ decode cX8_addClip 65 = .ok (.iload 7, 2) ∧ decode cX8_addClip 67 = .ok (.ifCond .eq 15, 3) ∧ decode cX8_addClip 70 = .ok (.aload_n 0, 1) ∧ decode cX8_addClip 71 = .ok (.getfield 7, 3) ∧ decode cX8_addClip 74 = .ok (.bipush 8, 2) ∧ decode cX8_addClip 76 = .ok (.iaload, 1) ∧ decode cX8_addClip 77 = .ok (.bipush 12, 2) ∧ decode cX8_addClip 79 = .ok (.if_icmp .ne 26, 3) ∧ decode cX8_addClip 82 = .ok (.aload_n 0, 1) := by decide +kernel
theorem dX8_addClip_63 : decode cX8_addClip 63 = .ok (.istore 7, 2) := DX8_addClip_3.1
theorem dX8_addClip_65 : decode cX8_addClip 65 = .ok (.iload 7, 2) := DX8_addClip_3.2.1
theorem dX8_addClip_67 : decode cX8_addClip 67 = .ok (.ifCond .eq 15, 3) := DX8_addClip_3.2.2.1
theorem dX8_addClip_70 : decode cX8_addClip 70 = .ok (.aload_n 0, 1) := DX8_addClip_3.2.2.2.1
theorem dX8_addClip_71 : decode cX8_addClip 71 = .ok (.getfield 7, 3) := DX8_addClip_3.2.2.2.2.1
theorem dX8_addClip_74 : decode cX8_addClip 74 = .ok (.bipush 8, 2) := DX8_addClip_3.2.2.2.2.2.1
theorem dX8_addClip_76 : decode cX8_addClip 76 = .ok (.iaload, 1) := DX8_addClip_3.2.2.2.2.2.2.1
theorem dX8_addClip_77 : decode cX8_addClip 77 = .ok (.bipush 12, 2) := DX8_addClip_3.2.2.2.2.2.2.2.1
theorem dX8_addClip_79 : decode cX8_addClip 79 = .ok (.if_icmp .ne 26, 3) := DX8_addClip_3.2.2.2.2.2.2.2.2.1
theorem dX8_addClip_82 : decode cX8_addClip 82 = .ok (.aload_n 0, 1) := DX8_addClip_3.2.2.2.2.2.2.2.2.2
set_option maxRecDepth 100000 in
theorem DX8_addClip_4 : decode cX8_addClip 83 = .ok (.iload 7, 2) ∧ decode cX8_addClip 85 = .ok (.ifCond .eq 7, 3) ∧ decode cX8_addClip 88 = .ok (.iconst 2, 1) ∧ decode cX8_addClip 89 = .ok (.goto 4, 3) ∧ decode cX8_addClip 92 = .ok (.iconst 1, 1) ∧ decode cX8_addClip 93 = .ok (.invokevirtual 51, 3) ∧ decode cX8_addClip 96 = .ok (.ifCond .eq 7, 3) ∧ decode cX8_addClip 99 = .ok (.iconst 0, 1) ∧ decode cX8_addClip 100 = .ok (.goto 4, 3) ∧ decode cX8_addClip 103 = .ok (.iconst (-1), 1) := by decide +kernel
theorem dX8_addClip_83 : decode cX8_addClip 83 = .ok (.iload 7, 2) := DX8_addClip_4.1
theorem dX8_addClip_85 : decode cX8_addClip 85 = .ok (.ifCond .eq 7, 3) := DX8_addClip_4.2.1
theorem dX8_addClip_88 : decode cX8_addClip 88 = .ok (.iconst 2, 1) := DX8_addClip_4.2.2.1
theorem dX8_addClip_89 : decode cX8_addClip 89 = .ok (.goto 4, 3) := DX8_addClip_4.2.2.2.1
theorem dX8_addClip_92 : decode cX8_addClip 92 = .ok (.iconst 1, 1) := DX8_addClip_4.2.2.2.2.1
theorem dX8_addClip_93 : decode cX8_addClip 93 = .ok (.invokevirtual 51, 3) := DX8_addClip_4.2.2.2.2.2.1
theorem dX8_addClip_96 : decode cX8_addClip 96 = .ok (.ifCond .eq 7, 3) := DX8_addClip_4.2.2.2.2.2.2.1
theorem dX8_addClip_99 : decode cX8_addClip 99 = .ok (.iconst 0, 1) := DX8_addClip_4.2.2.2.2.2.2.2.1
theorem dX8_addClip_100 : decode cX8_addClip 100 = .ok (.goto 4, 3) := DX8_addClip_4.2.2.2.2.2.2.2.2.1
theorem dX8_addClip_103 : decode cX8_addClip 103 = .ok (.iconst (-1), 1) := DX8_addClip_4.2.2.2.2.2.2.2.2.2
set_option maxRecDepth 100000 in
theorem DX8_addClip_5 : decode cX8_addClip 104 = .ok (.ireturn, 1) ∧ decode cX8_addClip 105 = .ok (.aload_n 0, 1) ∧ decode cX8_addClip 106 = .ok (.invokevirtual 119, 3) ∧ decode cX8_addClip 109 = .ok (.iconst 0, 1) ∧ decode cX8_addClip 110 = .ok (.istore 8, 2) ∧ decode cX8_addClip 112 = .ok (.iload 8, 2) ∧ decode cX8_addClip 114 = .ok (.bipush 9, 2) ∧ decode cX8_addClip 116 = .ok (.if_icmp .ge 20, 3) ∧ decode cX8_addClip 119 = .ok (.aload_n 0, 1) ∧ decode cX8_addClip 120 = .ok (.aload_n 0, 1) := by decide +kernel
theorem dX8_addClip_104 : decode cX8_addClip 104 = .ok (.ireturn, 1) := DX8_addClip_5.1
theorem dX8_addClip_105 : decode cX8_addClip 105 = .ok (.aload_n 0, 1) := DX8_addClip_5.2.1
theorem dX8_addClip_106 : decode cX8_addClip 106 = .ok (.invokevirtual 119, 3) := DX8_addClip_5.2.2.1
theorem dX8_addClip_109 : decode cX8_addClip 109 = .ok (.iconst 0, 1) := DX8_addClip_5.2.2.2.1
theorem dX8_addClip_110 : decode cX8_addClip 110 = .ok (.istore 8, 2) := DX8_addClip_5.2.2.2.2.1
theorem dX8_addClip_112 : decode cX8_addClip 112 = .ok (.iload 8, 2) := DX8_addClip_5.2.2.2.2.2.1
theorem dX8_addClip_114 : decode cX8_addClip 114 = .ok (.bipush 9, 2) := DX8_addClip_5.2.2.2.2.2.2.1
theorem dX8_addClip_116 : decode cX8_addClip 116 = .ok (.if_icmp .ge 20, 3) := DX8_addClip_5.2.2.2.2.2.2.2.1
theorem dX8_addClip_119 : decode cX8_addClip 119 = .ok (.aload_n 0, 1) := DX8_addClip_5.2.2.2.2.2.2.2.2.1
theorem dX8_addClip_120 : decode cX8_addClip 120 = .ok (.aload_n 0, 1) := DX8_addClip_5.2.2.2.2.2.2.2.2.2
set_option maxRecDepth 100000 in
theorem DX8_addClip_6 : decode cX8_addClip 121 = .ok (.getfield 95, 3) ∧ decode cX8_addClip 124 = .ok (.iload 8, 2) ∧ decode cX8_addClip 126 = .ok (.iconst 0, 1) ∧ decode cX8_addClip 127 = .ok (.invokevirtual 122, 3) ∧ decode cX8_addClip 130 = .ok (.iinc 8 1, 3) ∧ decode cX8_addClip 133 = .ok (.goto (-21), 3) ∧ decode cX8_addClip 136 = .ok (.aload_n 0, 1) ∧ decode cX8_addClip 137 = .ok (.aload_n 0, 1) ∧ decode cX8_addClip 138 = .ok (.getfield 95, 3) ∧ decode cX8_addClip 141 = .ok (.iconst 0, 1) := by decide +kernel
theorem dX8_addClip_121 : decode cX8_addClip 121 = .ok (.getfield 95, 3) := DX8_addClip_6.1
theorem dX8_addClip_124 : decode cX8_addClip 124 = .ok (.iload 8, 2) := DX8_addClip_6.2.1
theorem dX8_addClip_126 : decode cX8_addClip 126 = .ok (.iconst 0, 1) := DX8_addClip_6.2.2.1
theorem dX8_addClip_127 : decode cX8_addClip 127 = .ok (.invokevirtual 122, 3) := DX8_addClip_6.2.2.2.1
theorem dX8_addClip_130 : decode cX8_addClip 130 = .ok (.iinc 8 1, 3) := DX8_addClip_6.2.2.2.2.1
theorem dX8_addClip_133 : decode cX8_addClip 133 = .ok (.goto (-21), 3) := DX8_addClip_6.2.2.2.2.2.1
theorem dX8_addClip_136 : decode cX8_addClip 136 = .ok (.aload_n 0, 1) := DX8_addClip_6.2.2.2.2.2.2.1
theorem dX8_addClip_137 : decode cX8_addClip 137 = .ok (.aload_n 0, 1) := DX8_addClip_6.2.2.2.2.2.2.2.1
theorem dX8_addClip_138 : decode cX8_addClip 138 = .ok (.getfield 95, 3) := DX8_addClip_6.2.2.2.2.2.2.2.2.1
theorem dX8_addClip_141 : decode cX8_addClip 141 = .ok (.iconst 0, 1) := DX8_addClip_6.2.2.2.2.2.2.2.2.2
set_option maxRecDepth 100000 in
theorem DX8_addClip_7 : decode cX8_addClip 142 = .ok (.iload_n 1, 1) ∧ decode cX8_addClip 143 = .ok (.invokevirtual 122, 3) ∧ decode cX8_addClip 146 = .ok (.aload_n 0, 1) ∧ decode cX8_addClip 147 = .ok (.aload_n 0, 1) ∧ decode cX8_addClip 148 = .ok (.getfield 95, 3) ∧ decode cX8_addClip 151 = .ok (.iconst 1, 1) ∧ decode cX8_addClip 152 = .ok (.iload_n 2, 1) ∧ decode cX8_addClip 153 = .ok (.invokevirtual 122, 3) ∧ decode cX8_addClip 156 = .ok (.aload_n 0, 1) ∧ decode cX8_addClip 157 = .ok (.aload_n 0, 1) := by decide +kernel
theorem dX8_addClip_142 : decode cX8_addClip 142 = .ok (.iload_n 1, 1) := DX8_addClip_7.1
theorem dX8_addClip_143 : decode cX8_addClip 143 = .ok (.invokevirtual 122, 3) := DX8_addClip_7.2.1
theorem dX8_addClip_146 : decode cX8_addClip 146 = .ok (.aload_n 0, 1) := DX8_addClip_7.2.2.1
theorem dX8_addClip_147 : decode cX8_addClip 147 = .ok (.aload_n 0, 1) := DX8_addClip_7.2.2.2.1
theorem dX8_addClip_148 : decode cX8_addClip 148 = .ok (.getfield 95, 3) := DX8_addClip_7.2.2.2.2.1
theorem dX8_addClip_151 : decode cX8_addClip 151 = .ok (.iconst 1, 1) := DX8_addClip_7.2.2.2.2.2.1
theorem dX8_addClip_152 : decode cX8_addClip 152 = .ok (.iload_n 2, 1) := DX8_addClip_7.2.2.2.2.2.2.1
theorem dX8_addClip_153 : decode cX8_addClip 153 = .ok (.invokevirtual 122, 3) := DX8_addClip_7.2.2.2.2.2.2.2.1
theorem dX8_addClip_156 : decode cX8_addClip 156 = .ok (.aload_n 0, 1) := DX8_addClip_7.2.2.2.2.2.2.2.2.1
theorem dX8_addClip_157 : decode cX8_addClip 157 = .ok (.aload_n 0, 1) := DX8_addClip_7.2.2.2.2.2.2.2.2.2
set_option maxRecDepth 100000 in
theorem DX8_addClip_8 : decode cX8_addClip 158 = .ok (.getfield 95, 3) ∧ decode cX8_addClip 161 = .ok (.iconst 2, 1) ∧ decode cX8_addClip 162 = .ok (.iload_n 3, 1) ∧ decode cX8_addClip 163 = .ok (.invokevirtual 122, 3) ∧ decode cX8_addClip 166 = .ok (.aload_n 0, 1) ∧ decode cX8_addClip 167 = .ok (.aload_n 0, 1) ∧ decode cX8_addClip 168 = .ok (.getfield 95, 3) ∧ decode cX8_addClip 171 = .ok (.iconst 3, 1) ∧ decode cX8_addClip 172 = .ok (.iload 4, 2) ∧ decode cX8_addClip 174 = .ok (.invokevirtual 122, 3) := by decide +kernel
theorem dX8_addClip_158 : decode cX8_addClip 158 = .ok (.getfield 95, 3) := DX8_addClip_8.1
theorem dX8_addClip_161 : decode cX8_addClip 161 = .ok (.iconst 2, 1) := DX8_addClip_8.2.1
theorem dX8_addClip_162 : decode cX8_addClip 162 = .ok (.iload_n 3, 1) := DX8_addClip_8.2.2.1
theorem dX8_addClip_163 : decode cX8_addClip 163 = .ok (.invokevirtual 122, 3) := DX8_addClip_8.2.2.2.1
theorem dX8_addClip_166 : decode cX8_addClip 166 = .ok (.aload_n 0, 1) := DX8_addClip_8.2.2.2.2.1
theorem dX8_addClip_167 : decode cX8_addClip 167 = .ok (.aload_n 0, 1) := DX8_addClip_8.2.2.2.2.2.1
theorem dX8_addClip_168 : decode cX8_addClip 168 = .ok (.getfield 95, 3) := DX8_addClip_8.2.2.2.2.2.2.1
theorem dX8_addClip_171 : decode cX8_addClip 171 = .ok (.iconst 3, 1) := DX8_addClip_8.2.2.2.2.2.2.2.1
theorem dX8_addClip_172 : decode cX8_addClip 172 = .ok (.iload 4, 2) := DX8_addClip_8.2.2.2.2.2.2.2.2.1
theorem dX8_addClip_174 : decode cX8_addClip 174 = .ok (.invokevirtual 122, 3) := DX8_addClip_8.2.2.2.2.2.2.2.2.2
set_option maxRecDepth 100000 in
theorem DX8_addClip_9 : decode cX8_addClip 177 = .ok (.aload_n 0, 1) ∧ decode cX8_addClip 178 = .ok (.aload_n 0, 1) ∧ decode cX8_addClip 179 = .ok (.getfield 95, 3) ∧ decode cX8_addClip 182 = .ok (.iconst 4, 1) ∧ decode cX8_addClip 183 = .ok (.iload 5, 2) ∧ decode cX8_addClip 185 = .ok (.invokevirtual 122, 3) ∧ decode cX8_addClip 188 = .ok (.aload_n 0, 1) ∧ decode cX8_addClip 189 = .ok (.aload_n 0, 1) ∧ decode cX8_addClip 190 = .ok (.getfield 95, 3) ∧ decode cX8_addClip 193 = .ok (.iconst 5, 1) := by decide +kernel
theorem dX8_addClip_177 : decode cX8_addClip 177 = .ok (.aload_n 0, 1) := DX8_addClip_9.1
theorem dX8_addClip_178 : decode cX8_addClip 178 = .ok (.aload_n 0, 1) := DX8_addClip_9.2.1
theorem dX8_addClip_179 : decode cX8_addClip 179 = .ok (.getfield 95, 3) := DX8_addClip_9.2.2.1
theorem dX8_addClip_182 : decode cX8_addClip 182 = .ok (.iconst 4, 1) := DX8_addClip_9.2.2.2.1
theorem dX8_addClip_183 : decode cX8_addClip 183 = .ok (.iload 5, 2) := DX8_addClip_9.2.2.2.2.1
theorem dX8_addClip_185 : decode cX8_addClip 185 = .ok (.invokevirtual 122, 3) := DX8_addClip_9.2.2.2.2.2.1
theorem dX8_addClip_188 : decode cX8_addClip 188 = .ok (.aload_n 0, 1) := DX8_addClip_9.2.2.2.2.2.2.1
theorem dX8_addClip_189 : decode cX8_addClip 189 = .ok (.aload_n 0, 1) := DX8_addClip_9.2.2.2.2.2.2.2.1
theorem dX8_addClip_190 : decode cX8_addClip 190 = .ok (.getfield 95, 3) := DX8_addClip_9.2.2.2.2.2.2.2.2.1
theorem dX8_addClip_193 : decode cX8_addClip 193 = .ok (.iconst 5, 1) := DX8_addClip_9.2.2.2.2.2.2.2.2.2
set_option maxRecDepth 100000 in
theorem DX8_addClip_10 : decode cX8_addClip 194 = .ok (.iload 6, 2) ∧ decode cX8_addClip 196 = .ok (.invokevirtual 122, 3) ∧ decode cX8_addClip 199 = .ok (.aload_n 0, 1) ∧ decode cX8_addClip 200 = .ok (.dup, 1) ∧ decode cX8_addClip 201 = .ok (.getfield 95, 3) ∧ decode cX8_addClip 204 = .ok (.iconst 1, 1) ∧ decode cX8_addClip 205 = .ok (.iadd, 1) ∧ decode cX8_addClip 206 = .ok (.putfield 95, 3) ∧ decode cX8_addClip 209 = .ok (.aload_n 0, 1) ∧ decode cX8_addClip 210 = .ok (.aload_n 0, 1) := by decide +kernel
theorem dX8_addClip_194 : decode cX8_addClip 194 = .ok (.iload 6, 2) := DX8_addClip_10.1
theorem dX8_addClip_196 : decode cX8_addClip 196 = .ok (.invokevirtual 122, 3) := DX8_addClip_10.2.1
theorem dX8_addClip_199 : decode cX8_addClip 199 = .ok (.aload_n 0, 1) := DX8_addClip_10.2.2.1
theorem dX8_addClip_200 : decode cX8_addClip 200 = .ok (.dup, 1) := DX8_addClip_10.2.2.2.1
theorem dX8_addClip_201 : decode cX8_addClip 201 = .ok (.getfield 95, 3) := DX8_addClip_10.2.2.2.2.1
theorem dX8_addClip_204 : decode cX8_addClip 204 = .ok (.iconst 1, 1) := DX8_addClip_10.2.2.2.2.2.1
theorem dX8_addClip_205 : decode cX8_addClip 205 = .ok (.iadd, 1) := DX8_addClip_10.2.2.2.2.2.2.1
theorem dX8_addClip_206 : decode cX8_addClip 206 = .ok (.putfield 95, 3) := DX8_addClip_10.2.2.2.2.2.2.2.1
theorem dX8_addClip_209 : decode cX8_addClip 209 = .ok (.aload_n 0, 1) := DX8_addClip_10.2.2.2.2.2.2.2.2.1
theorem dX8_addClip_210 : decode cX8_addClip 210 = .ok (.aload_n 0, 1) := DX8_addClip_10.2.2.2.2.2.2.2.2.2
set_option maxRecDepth 100000 in
theorem DX8_addClip_11 : decode cX8_addClip 211 = .ok (.getfield 95, 3) ∧ decode cX8_addClip 214 = .ok (.iconst 1, 1) ∧ decode cX8_addClip 215 = .ok (.isub, 1) ∧ decode cX8_addClip 216 = .ok (.invokevirtual 126, 3) ∧ decode cX8_addClip 219 = .ok (.istore 8, 2) ∧ decode cX8_addClip 221 = .ok (.aload_n 0, 1) ∧ decode cX8_addClip 222 = .ok (.aload_n 0, 1) ∧ decode cX8_addClip 223 = .ok (.invokevirtual 129, 3) ∧ decode cX8_addClip 226 = .ok (.ifCond .eq 7, 3) ∧ decode cX8_addClip 229 = .ok (.iconst 0, 1) := by decide +kernel
theorem dX8_addClip_211 : decode cX8_addClip 211 = .ok (.getfield 95, 3) := DX8_addClip_11.1
theorem dX8_addClip_214 : decode cX8_addClip 214 = .ok (.iconst 1, 1) := DX8_addClip_11.2.1
theorem dX8_addClip_215 : decode cX8_addClip 215 = .ok (.isub, 1) := DX8_addClip_11.2.2.1
theorem dX8_addClip_216 : decode cX8_addClip 216 = .ok (.invokevirtual 126, 3) := DX8_addClip_11.2.2.2.1
theorem dX8_addClip_219 : decode cX8_addClip 219 = .ok (.istore 8, 2) := DX8_addClip_11.2.2.2.2.1
theorem dX8_addClip_221 : decode cX8_addClip 221 = .ok (.aload_n 0, 1) := DX8_addClip_11.2.2.2.2.2.1
theorem dX8_addClip_222 : decode cX8_addClip 222 = .ok (.aload_n 0, 1) := DX8_addClip_11.2.2.2.2.2.2.1
theorem dX8_addClip_223 : decode cX8_addClip 223 = .ok (.invokevirtual 129, 3) := DX8_addClip_11.2.2.2.2.2.2.2.1
theorem dX8_addClip_226 : decode cX8_addClip 226 = .ok (.ifCond .eq 7, 3) := DX8_addClip_11.2.2.2.2.2.2.2.2.1
theorem dX8_addClip_229 : decode cX8_addClip 229 = .ok (.iconst 0, 1) := DX8_addClip_11.2.2.2.2.2.2.2.2.2
set_option maxRecDepth 100000 in
theorem DX8_addClip_12 : decode cX8_addClip 230 = .ok (.goto 4, 3) ∧ decode cX8_addClip 233 = .ok (.iconst 3, 1) ∧ decode cX8_addClip 234 = .ok (.invokevirtual 73, 3) ∧ decode cX8_addClip 237 = .ok (.ifCond .eq 5, 3) ∧ decode cX8_addClip 240 = .ok (.iconst 0, 1) ∧ decode cX8_addClip 241 = .ok (.ireturn, 1) ∧ decode cX8_addClip 242 = .ok (.aload_n 0, 1) ∧ decode cX8_addClip 243 = .ok (.invokevirtual 133, 3) ∧ decode cX8_addClip 246 = .ok (.iload 8, 2) ∧ decode cX8_addClip 248 = .ok (.ireturn, 1) := by decide +kernel
theorem dX8_addClip_230 : decode cX8_addClip 230 = .ok (.goto 4, 3) := DX8_addClip_12.1
theorem dX8_addClip_233 : decode cX8_addClip 233 = .ok (.iconst 3, 1) := DX8_addClip_12.2.1
theorem dX8_addClip_234 : decode cX8_addClip 234 = .ok (.invokevirtual 73, 3) := DX8_addClip_12.2.2.1
theorem dX8_addClip_237 : decode cX8_addClip 237 = .ok (.ifCond .eq 5, 3) := DX8_addClip_12.2.2.2.1
theorem dX8_addClip_240 : decode cX8_addClip 240 = .ok (.iconst 0, 1) := DX8_addClip_12.2.2.2.2.1
theorem dX8_addClip_241 : decode cX8_addClip 241 = .ok (.ireturn, 1) := DX8_addClip_12.2.2.2.2.2.1
theorem dX8_addClip_242 : decode cX8_addClip 242 = .ok (.aload_n 0, 1) := DX8_addClip_12.2.2.2.2.2.2.1
theorem dX8_addClip_243 : decode cX8_addClip 243 = .ok (.invokevirtual 133, 3) := DX8_addClip_12.2.2.2.2.2.2.2.1
theorem dX8_addClip_246 : decode cX8_addClip 246 = .ok (.iload 8, 2) := DX8_addClip_12.2.2.2.2.2.2.2.2.1
theorem dX8_addClip_248 : decode cX8_addClip 248 = .ok (.ireturn, 1) := DX8_addClip_12.2.2.2.2.2.2.2.2.2
set_option maxRecDepth 100000 in
theorem DX8_setFades_0 : decode cX8_setFades 0 = .ok (.iload_n 2, 1) ∧ decode cX8_setFades 1 = .ok (.i2l, 1) ∧ decode cX8_setFades 2 = .ok (.lconst 0, 1) ∧ decode cX8_setFades 3 = .ok (.ldc2_w 68, 3) ∧ decode cX8_setFades 6 = .ok (.invokestatic 45, 3) ∧ decode cX8_setFades 9 = .ok (.ifCond .eq 30, 3) ∧ decode cX8_setFades 12 = .ok (.iload_n 3, 1) ∧ decode cX8_setFades 13 = .ok (.i2l, 1) ∧ decode cX8_setFades 14 = .ok (.lconst 0, 1) ∧ decode cX8_setFades 15 = .ok (.ldc2_w 68, 3) := by decide +kernel
theorem dX8_setFades_0 : decode cX8_setFades 0 = .ok (.iload_n 2, 1) := DX8_setFades_0.1
theorem dX8_setFades_1 : decode cX8_setFades 1 = .ok (.i2l, 1) := DX8_setFades_0.2.1
theorem dX8_setFades_2 : decode cX8_setFades 2 = .ok (.lconst 0, 1) := DX8_setFades_0.2.2.1
theorem dX8_setFades_3 : decode cX8_setFades 3 = .ok (.ldc2_w 68, 3) := DX8_setFades_0.2.2.2.1
theorem dX8_setFades_6 : decode cX8_setFades 6 = .ok (.invokestatic 45, 3) := DX8_setFades_0.2.2.2.2.1
theorem dX8_setFades_9 : decode cX8_setFades 9 = .ok (.ifCond .eq 30, 3) := DX8_setFades_0.2.2.2.2.2.1
theorem dX8_setFades_12 : decode cX8_setFades 12 = .ok (.iload_n 3, 1) := DX8_setFades_0.2.2.2.2.2.2.1
theorem dX8_setFades_13 : decode cX8_setFades 13 = .ok (.i2l, 1) := DX8_setFades_0.2.2.2.2.2.2.2.1
theorem dX8_setFades_14 : decode cX8_setFades 14 = .ok (.lconst 0, 1) := DX8_setFades_0.2.2.2.2.2.2.2.2.1
theorem dX8_setFades_15 : decode cX8_setFades 15 = .ok (.ldc2_w 68, 3) := DX8_setFades_0.2.2.2.2.2.2.2.2.2
set_option maxRecDepth 100000 in
theorem DX8_setFades_1 : decode cX8_setFades 18 = .ok (.invokestatic 45, 3) ∧ decode cX8_setFades 21 = .ok (.ifCond .eq 18, 3) ∧ decode cX8_setFades 24 = .ok (.iload 4, 2) ∧ decode cX8_setFades 26 = .ok (.i2l, 1) ∧ decode cX8_setFades 27 = .ok (.lconst 0, 1) ∧ decode cX8_setFades 28 = .ok (.lconst 1, 1) ∧ decode cX8_setFades 29 = .ok (.invokestatic 45, 3) ∧ decode cX8_setFades 32 = .ok (.ifCond .eq 7, 3) ∧ decode cX8_setFades 35 = .ok (.iconst 1, 1) ∧ decode cX8_setFades 36 = .ok (.goto 4, 3) := by decide +kernel
theorem dX8_setFades_18 : decode cX8_setFades 18 = .ok (.invokestatic 45, 3) := DX8_setFades_1.1
theorem dX8_setFades_21 : decode cX8_setFades 21 = .ok (.ifCond .eq 18, 3) := DX8_setFades_1.2.1
theorem dX8_setFades_24 : decode cX8_setFades 24 = .ok (.iload 4, 2) := DX8_setFades_1.2.2.1
theorem dX8_setFades_26 : decode cX8_setFades 26 = .ok (.i2l, 1) := DX8_setFades_1.2.2.2.1
theorem dX8_setFades_27 : decode cX8_setFades 27 = .ok (.lconst 0, 1) := DX8_setFades_1.2.2.2.2.1
theorem dX8_setFades_28 : decode cX8_setFades 28 = .ok (.lconst 1, 1) := DX8_setFades_1.2.2.2.2.2.1
theorem dX8_setFades_29 : decode cX8_setFades 29 = .ok (.invokestatic 45, 3) := DX8_setFades_1.2.2.2.2.2.2.1
theorem dX8_setFades_32 : decode cX8_setFades 32 = .ok (.ifCond .eq 7, 3) := DX8_setFades_1.2.2.2.2.2.2.2.1
theorem dX8_setFades_35 : decode cX8_setFades 35 = .ok (.iconst 1, 1) := DX8_setFades_1.2.2.2.2.2.2.2.2.1
theorem dX8_setFades_36 : decode cX8_setFades 36 = .ok (.goto 4, 3) := DX8_setFades_1.2.2.2.2.2.2.2.2.2
set_option maxRecDepth 100000 in
theorem DX8_setFades_2 : decode cX8_setFades 39 = .ok (.iconst 0, 1) ∧ decode cX8_setFades 40 = .ok (.istore 5, 2) ∧ decode cX8_setFades 42 = .ok (.aload_n 0, 1) ∧ decode cX8_setFades 43 = .ok (.aload_n 0, 1) ∧ decode cX8_setFades 44 = .ok (.iload_n 1, 1) ∧ decode cX8_setFades 45 = .ok (.invokevirtual 136, 3) ∧ decode cX8_setFades 48 = .ok (.ifCond .ne 7, 3) ∧ decode cX8_setFades 51 = .ok (.iconst 1, 1) ∧ decode cX8_setFades 52 = .ok (.goto 13, 3) ∧ decode cX8_setFades 55 = .ok (.iload 5, 2) := by decide +kernel
theorem dX8_setFades_39 : decode cX8_setFades 39 = .ok (.iconst 0, 1) := DX8_setFades_2.1
theorem dX8_setFades_40 : decode cX8_setFades 40 = .ok (.istore 5, 2) := DX8_setFades_2.2.1
theorem dX8_setFades_42 : decode cX8_setFades 42 = .ok (.aload_n 0, 1) := DX8_setFades_2.2.2.1
theorem dX8_setFades_43 : decode cX8_setFades 43 = .ok (.aload_n 0, 1) := DX8_setFades_2.2.2.2.1
theorem dX8_setFades_44 : decode cX8_setFades 44 = .ok (.iload_n 1, 1) := DX8_setFades_2.2.2.2.2.1
theorem dX8_setFades_45 : decode cX8_setFades 45 = .ok (.invokevirtual 136, 3) := DX8_setFades_2.2.2.2.2.2.1
theorem dX8_setFades_48 : decode cX8_setFades 48 = .ok (.ifCond .ne 7, 3) := DX8_setFades_2.2.2.2.2.2.2.1
theorem dX8_setFades_51 : decode cX8_setFades 51 = .ok (.iconst 1, 1) := DX8_setFades_2.2.2.2.2.2.2.2.1
theorem dX8_setFades_52 : decode cX8_setFades 52 = .ok (.goto 13, 3) := DX8_setFades_2.2.2.2.2.2.2.2.2.1
theorem dX8_setFades_55 : decode cX8_setFades 55 = .ok (.iload 5, 2) := DX8_setFades_2.2.2.2.2.2.2.2.2.2
set_option maxRecDepth 100000 in
theorem DX8_setFades_3 : decode cX8_setFades 57 = .ok (.ifCond .eq 7, 3) ∧ decode cX8_setFades 60 = .ok (.iconst 0, 1) ∧ decode cX8_setFades 61 = .ok (.goto 4, 3) ∧ decode cX8_setFades 64 = .ok (.iconst 2, 1) ∧ decode cX8_setFades 65 = .ok (.invokevirtual 73, 3) ∧ decode cX8_setFades 68 = .ok (.ifCond .eq 5, 3) ∧ decode cX8_setFades 71 = .ok (.iconst 0, 1) ∧ decode cX8_setFades 72 = .ok (.ireturn, 1) ∧ decode cX8_setFades 73 = .ok (.bipush 33, 2) ∧ decode cX8_setFades 75 = .ok (.bipush 9, 2) := by decide +kernel
theorem dX8_setFades_57 : decode cX8_setFades 57 = .ok (.ifCond .eq 7, 3) := DX8_setFades_3.1
theorem dX8_setFades_60 : decode cX8_setFades 60 = .ok (.iconst 0, 1) := DX8_setFades_3.2.1
theorem dX8_setFades_61 : decode cX8_setFades 61 = .ok (.goto 4, 3) := DX8_setFades_3.2.2.1
theorem dX8_setFades_64 : decode cX8_setFades 64 = .ok (.iconst 2, 1) := DX8_setFades_3.2.2.2.1
theorem dX8_setFades_65 : decode cX8_setFades 65 = .ok (.invokevirtual 73, 3) := DX8_setFades_3.2.2.2.2.1
theorem dX8_setFades_68 : decode cX8_setFades 68 = .ok (.ifCond .eq 5, 3) := DX8_setFades_3.2.2.2.2.2.1
theorem dX8_setFades_71 : decode cX8_setFades 71 = .ok (.iconst 0, 1) := DX8_setFades_3.2.2.2.2.2.2.1
theorem dX8_setFades_72 : decode cX8_setFades 72 = .ok (.ireturn, 1) := DX8_setFades_3.2.2.2.2.2.2.2.1
theorem dX8_setFades_73 : decode cX8_setFades 73 = .ok (.bipush 33, 2) := DX8_setFades_3.2.2.2.2.2.2.2.2.1
theorem dX8_setFades_75 : decode cX8_setFades 75 = .ok (.bipush 9, 2) := DX8_setFades_3.2.2.2.2.2.2.2.2.2
set_option maxRecDepth 100000 in
theorem DX8_setFades_4 : decode cX8_setFades 77 = .ok (.iload_n 1, 1) ∧ decode cX8_setFades 78 = .ok (.imul, 1) ∧ decode cX8_setFades 79 = .ok (.iadd, 1) ∧ decode cX8_setFades 80 = .ok (.istore 6, 2) ∧ decode cX8_setFades 82 = .ok (.aload_n 0, 1) ∧ decode cX8_setFades 83 = .ok (.getfield 7, 3) ∧ decode cX8_setFades 86 = .ok (.iload 6, 2) ∧ decode cX8_setFades 88 = .ok (.bipush 7, 2) ∧ decode cX8_setFades 90 = .ok (.iadd, 1) ∧ decode cX8_setFades 91 = .ok (.iload_n 3, 1) := by decide +kernel
theorem dX8_setFades_77 : decode cX8_setFades 77 = .ok (.iload_n 1, 1) := DX8_setFades_4.1
theorem dX8_setFades_78 : decode cX8_setFades 78 = .ok (.imul, 1) := DX8_setFades_4.2.1
theorem dX8_setFades_79 : decode cX8_setFades 79 = .ok (.iadd, 1) := DX8_setFades_4.2.2.1
theorem dX8_setFades_80 : decode cX8_setFades 80 = .ok (.istore 6, 2) := DX8_setFades_4.2.2.2.1
theorem dX8_setFades_82 : decode cX8_setFades 82 = .ok (.aload_n 0, 1) := DX8_setFades_4.2.2.2.2.1
theorem dX8_setFades_83 : decode cX8_setFades 83 = .ok (.getfield 7, 3) := DX8_setFades_4.2.2.2.2.2.1
theorem dX8_setFades_86 : decode cX8_setFades 86 = .ok (.iload 6, 2) := DX8_setFades_4.2.2.2.2.2.2.1
theorem dX8_setFades_88 : decode cX8_setFades 88 = .ok (.bipush 7, 2) := DX8_setFades_4.2.2.2.2.2.2.2.1
theorem dX8_setFades_90 : decode cX8_setFades 90 = .ok (.iadd, 1) := DX8_setFades_4.2.2.2.2.2.2.2.2.1
theorem dX8_setFades_91 : decode cX8_setFades 91 = .ok (.iload_n 3, 1) := DX8_setFades_4.2.2.2.2.2.2.2.2.2
set_option maxRecDepth 100000 in
theorem DX8_setFades_5 : decode cX8_setFades 92 = .ok (.iastore, 1) ∧ decode cX8_setFades 93 = .ok (.aload_n 0, 1) ∧ decode cX8_setFades 94 = .ok (.getfield 7, 3) ∧ decode cX8_setFades 97 = .ok (.iload 6, 2) ∧ decode cX8_setFades 99 = .ok (.bipush 8, 2) ∧ decode cX8_setFades 101 = .ok (.iadd, 1) ∧ decode cX8_setFades 102 = .ok (.iload 4, 2) ∧ decode cX8_setFades 104 = .ok (.iastore, 1) ∧ decode cX8_setFades 105 = .ok (.aload_n 0, 1) ∧ decode cX8_setFades 106 = .ok (.iload 6, 2) := by decide +kernel
theorem dX8_setFades_92 : decode cX8_setFades 92 = .ok (.iastore, 1) := DX8_setFades_5.1
theorem dX8_setFades_93 : decode cX8_setFades 93 = .ok (.aload_n 0, 1) := DX8_setFades_5.2.1
theorem dX8_setFades_94 : decode cX8_setFades 94 = .ok (.getfield 7, 3) := DX8_setFades_5.2.2.1
theorem dX8_setFades_97 : decode cX8_setFades 97 = .ok (.iload 6, 2) := DX8_setFades_5.2.2.2.1
theorem dX8_setFades_99 : decode cX8_setFades 99 = .ok (.bipush 8, 2) := DX8_setFades_5.2.2.2.2.1
theorem dX8_setFades_101 : decode cX8_setFades 101 = .ok (.iadd, 1) := DX8_setFades_5.2.2.2.2.2.1
theorem dX8_setFades_102 : decode cX8_setFades 102 = .ok (.iload 4, 2) := DX8_setFades_5.2.2.2.2.2.2.1
theorem dX8_setFades_104 : decode cX8_setFades 104 = .ok (.iastore, 1) := DX8_setFades_5.2.2.2.2.2.2.2.1
theorem dX8_setFades_105 : decode cX8_setFades 105 = .ok (.aload_n 0, 1) := DX8_setFades_5.2.2.2.2.2.2.2.2.1
theorem dX8_setFades_106 : decode cX8_setFades 106 = .ok (.iload 6, 2) := DX8_setFades_5.2.2.2.2.2.2.2.2.2
set_option maxRecDepth 100000 in
theorem DX8_setFades_6 : decode cX8_setFades 108 = .ok (.bipush 6, 2) ∧ decode cX8_setFades 110 = .ok (.iadd, 1) ∧ decode cX8_setFades 111 = .ok (.iload_n 2, 1) ∧ decode cX8_setFades 112 = .ok (.invokevirtual 76, 3) ∧ decode cX8_setFades 115 = .ok (.ireturn, 1) := by decide +kernel
theorem dX8_setFades_108 : decode cX8_setFades 108 = .ok (.bipush 6, 2) := DX8_setFades_6.1
theorem dX8_setFades_110 : decode cX8_setFades 110 = .ok (.iadd, 1) := DX8_setFades_6.2.1
theorem dX8_setFades_111 : decode cX8_setFades 111 = .ok (.iload_n 2, 1) := DX8_setFades_6.2.2.1
theorem dX8_setFades_112 : decode cX8_setFades 112 = .ok (.invokevirtual 76, 3) := DX8_setFades_6.2.2.2.1
theorem dX8_setFades_115 : decode cX8_setFades 115 = .ok (.ireturn, 1) := DX8_setFades_6.2.2.2.2
set_option maxRecDepth 100000 in
theorem DX8_moveClip_0 : decode cX8_moveClip 0 = .ok (.aload_n 0, 1) ∧ decode cX8_moveClip 1 = .ok (.iload_n 1, 1) ∧ decode cX8_moveClip 2 = .ok (.invokevirtual 136, 3) ∧ decode cX8_moveClip 5 = .ok (.ifCond .ne 17, 3) ∧ decode cX8_moveClip 8 = .ok (.aload_n 0, 1) ∧ decode cX8_moveClip 9 = .ok (.iconst 1, 1) ∧ decode cX8_moveClip 10 = .ok (.invokevirtual 51, 3) ∧ decode cX8_moveClip 13 = .ok (.ifCond .eq 7, 3) ∧ decode cX8_moveClip 16 = .ok (.iconst 0, 1) ∧ decode cX8_moveClip 17 = .ok (.goto 4, 3) := by decide +kernel
theorem dX8_moveClip_0 : decode cX8_moveClip 0 = .ok (.aload_n 0, 1) := DX8_moveClip_0.1
theorem dX8_moveClip_1 : decode cX8_moveClip 1 = .ok (.iload_n 1, 1) := DX8_moveClip_0.2.1
theorem dX8_moveClip_2 : decode cX8_moveClip 2 = .ok (.invokevirtual 136, 3) := DX8_moveClip_0.2.2.1
theorem dX8_moveClip_5 : decode cX8_moveClip 5 = .ok (.ifCond .ne 17, 3) := DX8_moveClip_0.2.2.2.1
theorem dX8_moveClip_8 : decode cX8_moveClip 8 = .ok (.aload_n 0, 1) := DX8_moveClip_0.2.2.2.2.1
theorem dX8_moveClip_9 : decode cX8_moveClip 9 = .ok (.iconst 1, 1) := DX8_moveClip_0.2.2.2.2.2.1
theorem dX8_moveClip_10 : decode cX8_moveClip 10 = .ok (.invokevirtual 51, 3) := DX8_moveClip_0.2.2.2.2.2.2.1
theorem dX8_moveClip_13 : decode cX8_moveClip 13 = .ok (.ifCond .eq 7, 3) := DX8_moveClip_0.2.2.2.2.2.2.2.1
theorem dX8_moveClip_16 : decode cX8_moveClip 16 = .ok (.iconst 0, 1) := DX8_moveClip_0.2.2.2.2.2.2.2.2.1
theorem dX8_moveClip_17 : decode cX8_moveClip 17 = .ok (.goto 4, 3) := DX8_moveClip_0.2.2.2.2.2.2.2.2.2
set_option maxRecDepth 100000 in
theorem DX8_moveClip_1 : decode cX8_moveClip 20 = .ok (.iconst (-1), 1) ∧ decode cX8_moveClip 21 = .ok (.ireturn, 1) ∧ decode cX8_moveClip 22 = .ok (.aload_n 0, 1) ∧ decode cX8_moveClip 23 = .ok (.invokevirtual 119, 3) ∧ decode cX8_moveClip 26 = .ok (.iload_n 2, 1) ∧ decode cX8_moveClip 27 = .ok (.i2l, 1) ∧ decode cX8_moveClip 28 = .ok (.lconst 0, 1) ∧ decode cX8_moveClip 29 = .ok (.sipush 4000, 3) ∧ decode cX8_moveClip 32 = .ok (.aload_n 0, 1) ∧ decode cX8_moveClip 33 = .ok (.iload_n 1, 1) := by decide +kernel
theorem dX8_moveClip_20 : decode cX8_moveClip 20 = .ok (.iconst (-1), 1) := DX8_moveClip_1.1
theorem dX8_moveClip_21 : decode cX8_moveClip 21 = .ok (.ireturn, 1) := DX8_moveClip_1.2.1
theorem dX8_moveClip_22 : decode cX8_moveClip 22 = .ok (.aload_n 0, 1) := DX8_moveClip_1.2.2.1
theorem dX8_moveClip_23 : decode cX8_moveClip 23 = .ok (.invokevirtual 119, 3) := DX8_moveClip_1.2.2.2.1
theorem dX8_moveClip_26 : decode cX8_moveClip 26 = .ok (.iload_n 2, 1) := DX8_moveClip_1.2.2.2.2.1
theorem dX8_moveClip_27 : decode cX8_moveClip 27 = .ok (.i2l, 1) := DX8_moveClip_1.2.2.2.2.2.1
theorem dX8_moveClip_28 : decode cX8_moveClip 28 = .ok (.lconst 0, 1) := DX8_moveClip_1.2.2.2.2.2.2.1
theorem dX8_moveClip_29 : decode cX8_moveClip 29 = .ok (.sipush 4000, 3) := DX8_moveClip_1.2.2.2.2.2.2.2.1
theorem dX8_moveClip_32 : decode cX8_moveClip 32 = .ok (.aload_n 0, 1) := DX8_moveClip_1.2.2.2.2.2.2.2.2.1
theorem dX8_moveClip_33 : decode cX8_moveClip 33 = .ok (.iload_n 1, 1) := DX8_moveClip_1.2.2.2.2.2.2.2.2.2
set_option maxRecDepth 100000 in
theorem DX8_moveClip_2 : decode cX8_moveClip 34 = .ok (.iconst 4, 1) ∧ decode cX8_moveClip 35 = .ok (.invokevirtual 98, 3) ∧ decode cX8_moveClip 38 = .ok (.isub, 1) ∧ decode cX8_moveClip 39 = .ok (.i2l, 1) ∧ decode cX8_moveClip 40 = .ok (.invokestatic 45, 3) ∧ decode cX8_moveClip 43 = .ok (.istore_n 3, 1) ∧ decode cX8_moveClip 44 = .ok (.aload_n 0, 1) ∧ decode cX8_moveClip 45 = .ok (.iload_n 1, 1) ∧ decode cX8_moveClip 46 = .ok (.iconst 2, 1) ∧ decode cX8_moveClip 47 = .ok (.iload_n 2, 1) := by decide +kernel
theorem dX8_moveClip_34 : decode cX8_moveClip 34 = .ok (.iconst 4, 1) := DX8_moveClip_2.1
theorem dX8_moveClip_35 : decode cX8_moveClip 35 = .ok (.invokevirtual 98, 3) := DX8_moveClip_2.2.1
theorem dX8_moveClip_38 : decode cX8_moveClip 38 = .ok (.isub, 1) := DX8_moveClip_2.2.2.1
theorem dX8_moveClip_39 : decode cX8_moveClip 39 = .ok (.i2l, 1) := DX8_moveClip_2.2.2.2.1
theorem dX8_moveClip_40 : decode cX8_moveClip 40 = .ok (.invokestatic 45, 3) := DX8_moveClip_2.2.2.2.2.1
theorem dX8_moveClip_43 : decode cX8_moveClip 43 = .ok (.istore_n 3, 1) := DX8_moveClip_2.2.2.2.2.2.1
theorem dX8_moveClip_44 : decode cX8_moveClip 44 = .ok (.aload_n 0, 1) := DX8_moveClip_2.2.2.2.2.2.2.1
theorem dX8_moveClip_45 : decode cX8_moveClip 45 = .ok (.iload_n 1, 1) := DX8_moveClip_2.2.2.2.2.2.2.2.1
theorem dX8_moveClip_46 : decode cX8_moveClip 46 = .ok (.iconst 2, 1) := DX8_moveClip_2.2.2.2.2.2.2.2.2.1
theorem dX8_moveClip_47 : decode cX8_moveClip 47 = .ok (.iload_n 2, 1) := DX8_moveClip_2.2.2.2.2.2.2.2.2.2
set_option maxRecDepth 100000 in
theorem DX8_moveClip_3 : decode cX8_moveClip 48 = .ok (.invokevirtual 122, 3) ∧ decode cX8_moveClip 51 = .ok (.aload_n 0, 1) ∧ decode cX8_moveClip 52 = .ok (.iload_n 1, 1) ∧ decode cX8_moveClip 53 = .ok (.invokevirtual 126, 3) ∧ decode cX8_moveClip 56 = .ok (.istore 4, 2) ∧ decode cX8_moveClip 58 = .ok (.aload_n 0, 1) ∧ decode cX8_moveClip 59 = .ok (.iload_n 3, 1) ∧ decode cX8_moveClip 60 = .ok (.ifCond .ne 7, 3) ∧ decode cX8_moveClip 63 = .ok (.iconst 2, 1) ∧ decode cX8_moveClip 64 = .ok (.goto 15, 3) := by decide +kernel
theorem dX8_moveClip_48 : decode cX8_moveClip 48 = .ok (.invokevirtual 122, 3) := DX8_moveClip_3.1
theorem dX8_moveClip_51 : decode cX8_moveClip 51 = .ok (.aload_n 0, 1) := DX8_moveClip_3.2.1
theorem dX8_moveClip_52 : decode cX8_moveClip 52 = .ok (.iload_n 1, 1) := DX8_moveClip_3.2.2.1
theorem dX8_moveClip_53 : decode cX8_moveClip 53 = .ok (.invokevirtual 126, 3) := DX8_moveClip_3.2.2.2.1
theorem dX8_moveClip_56 : decode cX8_moveClip 56 = .ok (.istore 4, 2) := DX8_moveClip_3.2.2.2.2.1
theorem dX8_moveClip_58 : decode cX8_moveClip 58 = .ok (.aload_n 0, 1) := DX8_moveClip_3.2.2.2.2.2.1
theorem dX8_moveClip_59 : decode cX8_moveClip 59 = .ok (.iload_n 3, 1) := DX8_moveClip_3.2.2.2.2.2.2.1
theorem dX8_moveClip_60 : decode cX8_moveClip 60 = .ok (.ifCond .ne 7, 3) := DX8_moveClip_3.2.2.2.2.2.2.2.1
theorem dX8_moveClip_63 : decode cX8_moveClip 63 = .ok (.iconst 2, 1) := DX8_moveClip_3.2.2.2.2.2.2.2.2.1
theorem dX8_moveClip_64 : decode cX8_moveClip 64 = .ok (.goto 15, 3) := DX8_moveClip_3.2.2.2.2.2.2.2.2.2
set_option maxRecDepth 100000 in
theorem DX8_moveClip_4 : decode cX8_moveClip 67 = .ok (.aload_n 0, 1) ∧ decode cX8_moveClip 68 = .ok (.invokevirtual 129, 3) ∧ decode cX8_moveClip 71 = .ok (.ifCond .eq 7, 3) ∧ decode cX8_moveClip 74 = .ok (.iconst 0, 1) ∧ decode cX8_moveClip 75 = .ok (.goto 4, 3) ∧ decode cX8_moveClip 78 = .ok (.iconst 3, 1) ∧ decode cX8_moveClip 79 = .ok (.invokevirtual 73, 3) ∧ decode cX8_moveClip 82 = .ok (.ifCond .eq 5, 3) ∧ decode cX8_moveClip 85 = .ok (.iconst 0, 1) ∧ decode cX8_moveClip 86 = .ok (.ireturn, 1) := by decide +kernel
theorem dX8_moveClip_67 : decode cX8_moveClip 67 = .ok (.aload_n 0, 1) := DX8_moveClip_4.1
theorem dX8_moveClip_68 : decode cX8_moveClip 68 = .ok (.invokevirtual 129, 3) := DX8_moveClip_4.2.1
theorem dX8_moveClip_71 : decode cX8_moveClip 71 = .ok (.ifCond .eq 7, 3) := DX8_moveClip_4.2.2.1
theorem dX8_moveClip_74 : decode cX8_moveClip 74 = .ok (.iconst 0, 1) := DX8_moveClip_4.2.2.2.1
theorem dX8_moveClip_75 : decode cX8_moveClip 75 = .ok (.goto 4, 3) := DX8_moveClip_4.2.2.2.2.1
theorem dX8_moveClip_78 : decode cX8_moveClip 78 = .ok (.iconst 3, 1) := DX8_moveClip_4.2.2.2.2.2.1
theorem dX8_moveClip_79 : decode cX8_moveClip 79 = .ok (.invokevirtual 73, 3) := DX8_moveClip_4.2.2.2.2.2.2.1
theorem dX8_moveClip_82 : decode cX8_moveClip 82 = .ok (.ifCond .eq 5, 3) := DX8_moveClip_4.2.2.2.2.2.2.2.1
theorem dX8_moveClip_85 : decode cX8_moveClip 85 = .ok (.iconst 0, 1) := DX8_moveClip_4.2.2.2.2.2.2.2.2.1
theorem dX8_moveClip_86 : decode cX8_moveClip 86 = .ok (.ireturn, 1) := DX8_moveClip_4.2.2.2.2.2.2.2.2.2
set_option maxRecDepth 100000 in
theorem DX8_moveClip_5 : decode cX8_moveClip 87 = .ok (.aload_n 0, 1) ∧ decode cX8_moveClip 88 = .ok (.invokevirtual 133, 3) ∧ decode cX8_moveClip 91 = .ok (.iload 4, 2) ∧ decode cX8_moveClip 93 = .ok (.ireturn, 1) := by decide +kernel
theorem dX8_moveClip_87 : decode cX8_moveClip 87 = .ok (.aload_n 0, 1) := DX8_moveClip_5.1
theorem dX8_moveClip_88 : decode cX8_moveClip 88 = .ok (.invokevirtual 133, 3) := DX8_moveClip_5.2.1
theorem dX8_moveClip_91 : decode cX8_moveClip 91 = .ok (.iload 4, 2) := DX8_moveClip_5.2.2.1
theorem dX8_moveClip_93 : decode cX8_moveClip 93 = .ok (.ireturn, 1) := DX8_moveClip_5.2.2.2
set_option maxRecDepth 100000 in
theorem DX8_limitsFades_0 : decode cX8_limitsFades 0 = .ok (.aload_n 0, 1) ∧ decode cX8_limitsFades 1 = .ok (.iload_n 1, 1) ∧ decode cX8_limitsFades 2 = .ok (.iconst 4, 1) ∧ decode cX8_limitsFades 3 = .ok (.invokevirtual 98, 3) ∧ decode cX8_limitsFades 6 = .ok (.istore_n 2, 1) ∧ decode cX8_limitsFades 7 = .ok (.aload_n 0, 1) ∧ decode cX8_limitsFades 8 = .ok (.iload_n 1, 1) ∧ decode cX8_limitsFades 9 = .ok (.bipush 6, 2) ∧ decode cX8_limitsFades 11 = .ok (.aload_n 0, 1) ∧ decode cX8_limitsFades 12 = .ok (.iload_n 1, 1) := by decide +kernel
theorem dX8_limitsFades_0 : decode cX8_limitsFades 0 = .ok (.aload_n 0, 1) := DX8_limitsFades_0.1
theorem dX8_limitsFades_1 : decode cX8_limitsFades 1 = .ok (.iload_n 1, 1) := DX8_limitsFades_0.2.1
theorem dX8_limitsFades_2 : decode cX8_limitsFades 2 = .ok (.iconst 4, 1) := DX8_limitsFades_0.2.2.1
theorem dX8_limitsFades_3 : decode cX8_limitsFades 3 = .ok (.invokevirtual 98, 3) := DX8_limitsFades_0.2.2.2.1
theorem dX8_limitsFades_6 : decode cX8_limitsFades 6 = .ok (.istore_n 2, 1) := DX8_limitsFades_0.2.2.2.2.1
theorem dX8_limitsFades_7 : decode cX8_limitsFades 7 = .ok (.aload_n 0, 1) := DX8_limitsFades_0.2.2.2.2.2.1
theorem dX8_limitsFades_8 : decode cX8_limitsFades 8 = .ok (.iload_n 1, 1) := DX8_limitsFades_0.2.2.2.2.2.2.1
theorem dX8_limitsFades_9 : decode cX8_limitsFades 9 = .ok (.bipush 6, 2) := DX8_limitsFades_0.2.2.2.2.2.2.2.1
theorem dX8_limitsFades_11 : decode cX8_limitsFades 11 = .ok (.aload_n 0, 1) := DX8_limitsFades_0.2.2.2.2.2.2.2.2.1
theorem dX8_limitsFades_12 : decode cX8_limitsFades 12 = .ok (.iload_n 1, 1) := DX8_limitsFades_0.2.2.2.2.2.2.2.2.2
set_option maxRecDepth 100000 in
theorem DX8_limitsFades_1 : decode cX8_limitsFades 13 = .ok (.bipush 6, 2) ∧ decode cX8_limitsFades 15 = .ok (.invokevirtual 98, 3) ∧ decode cX8_limitsFades 18 = .ok (.iload_n 2, 1) ∧ decode cX8_limitsFades 19 = .ok (.if_icmp .ge 13, 3) ∧ decode cX8_limitsFades 22 = .ok (.aload_n 0, 1) ∧ decode cX8_limitsFades 23 = .ok (.iload_n 1, 1) ∧ decode cX8_limitsFades 24 = .ok (.bipush 6, 2) ∧ decode cX8_limitsFades 26 = .ok (.invokevirtual 98, 3) ∧ decode cX8_limitsFades 29 = .ok (.goto 4, 3) ∧ decode cX8_limitsFades 32 = .ok (.iload_n 2, 1) := by decide +kernel
theorem dX8_limitsFades_13 : decode cX8_limitsFades 13 = .ok (.bipush 6, 2) := DX8_limitsFades_1.1
theorem dX8_limitsFades_15 : decode cX8_limitsFades 15 = .ok (.invokevirtual 98, 3) := DX8_limitsFades_1.2.1
theorem dX8_limitsFades_18 : decode cX8_limitsFades 18 = .ok (.iload_n 2, 1) := DX8_limitsFades_1.2.2.1
theorem dX8_limitsFades_19 : decode cX8_limitsFades 19 = .ok (.if_icmp .ge 13, 3) := DX8_limitsFades_1.2.2.2.1
theorem dX8_limitsFades_22 : decode cX8_limitsFades 22 = .ok (.aload_n 0, 1) := DX8_limitsFades_1.2.2.2.2.1
theorem dX8_limitsFades_23 : decode cX8_limitsFades 23 = .ok (.iload_n 1, 1) := DX8_limitsFades_1.2.2.2.2.2.1
theorem dX8_limitsFades_24 : decode cX8_limitsFades 24 = .ok (.bipush 6, 2) := DX8_limitsFades_1.2.2.2.2.2.2.1
theorem dX8_limitsFades_26 : decode cX8_limitsFades 26 = .ok (.invokevirtual 98, 3) := DX8_limitsFades_1.2.2.2.2.2.2.2.1
theorem dX8_limitsFades_29 : decode cX8_limitsFades 29 = .ok (.goto 4, 3) := DX8_limitsFades_1.2.2.2.2.2.2.2.2.1
theorem dX8_limitsFades_32 : decode cX8_limitsFades 32 = .ok (.iload_n 2, 1) := DX8_limitsFades_1.2.2.2.2.2.2.2.2.2
set_option maxRecDepth 100000 in
theorem DX8_limitsFades_2 : decode cX8_limitsFades 33 = .ok (.invokevirtual 122, 3) ∧ decode cX8_limitsFades 36 = .ok (.aload_n 0, 1) ∧ decode cX8_limitsFades 37 = .ok (.iload_n 1, 1) ∧ decode cX8_limitsFades 38 = .ok (.bipush 7, 2) ∧ decode cX8_limitsFades 40 = .ok (.aload_n 0, 1) ∧ decode cX8_limitsFades 41 = .ok (.iload_n 1, 1) ∧ decode cX8_limitsFades 42 = .ok (.bipush 7, 2) ∧ decode cX8_limitsFades 44 = .ok (.invokevirtual 98, 3) ∧ decode cX8_limitsFades 47 = .ok (.iload_n 2, 1) ∧ decode cX8_limitsFades 48 = .ok (.if_icmp .ge 13, 3) := by decide +kernel
theorem dX8_limitsFades_33 : decode cX8_limitsFades 33 = .ok (.invokevirtual 122, 3) := DX8_limitsFades_2.1
theorem dX8_limitsFades_36 : decode cX8_limitsFades 36 = .ok (.aload_n 0, 1) := DX8_limitsFades_2.2.1
theorem dX8_limitsFades_37 : decode cX8_limitsFades 37 = .ok (.iload_n 1, 1) := DX8_limitsFades_2.2.2.1
theorem dX8_limitsFades_38 : decode cX8_limitsFades 38 = .ok (.bipush 7, 2) := DX8_limitsFades_2.2.2.2.1
theorem dX8_limitsFades_40 : decode cX8_limitsFades 40 = .ok (.aload_n 0, 1) := DX8_limitsFades_2.2.2.2.2.1
theorem dX8_limitsFades_41 : decode cX8_limitsFades 41 = .ok (.iload_n 1, 1) := DX8_limitsFades_2.2.2.2.2.2.1
theorem dX8_limitsFades_42 : decode cX8_limitsFades 42 = .ok (.bipush 7, 2) := DX8_limitsFades_2.2.2.2.2.2.2.1
theorem dX8_limitsFades_44 : decode cX8_limitsFades 44 = .ok (.invokevirtual 98, 3) := DX8_limitsFades_2.2.2.2.2.2.2.2.1
theorem dX8_limitsFades_47 : decode cX8_limitsFades 47 = .ok (.iload_n 2, 1) := DX8_limitsFades_2.2.2.2.2.2.2.2.2.1
theorem dX8_limitsFades_48 : decode cX8_limitsFades 48 = .ok (.if_icmp .ge 13, 3) := DX8_limitsFades_2.2.2.2.2.2.2.2.2.2
set_option maxRecDepth 100000 in
theorem DX8_limitsFades_3 : decode cX8_limitsFades 51 = .ok (.aload_n 0, 1) ∧ decode cX8_limitsFades 52 = .ok (.iload_n 1, 1) ∧ decode cX8_limitsFades 53 = .ok (.bipush 7, 2) ∧ decode cX8_limitsFades 55 = .ok (.invokevirtual 98, 3) ∧ decode cX8_limitsFades 58 = .ok (.goto 4, 3) ∧ decode cX8_limitsFades 61 = .ok (.iload_n 2, 1) ∧ decode cX8_limitsFades 62 = .ok (.invokevirtual 122, 3) ∧ decode cX8_limitsFades 65 = .ok (.return_, 1) := by decide +kernel
theorem dX8_limitsFades_51 : decode cX8_limitsFades 51 = .ok (.aload_n 0, 1) := DX8_limitsFades_3.1
theorem dX8_limitsFades_52 : decode cX8_limitsFades 52 = .ok (.iload_n 1, 1) := DX8_limitsFades_3.2.1
theorem dX8_limitsFades_53 : decode cX8_limitsFades 53 = .ok (.bipush 7, 2) := DX8_limitsFades_3.2.2.1
theorem dX8_limitsFades_55 : decode cX8_limitsFades 55 = .ok (.invokevirtual 98, 3) := DX8_limitsFades_3.2.2.2.1
theorem dX8_limitsFades_58 : decode cX8_limitsFades 58 = .ok (.goto 4, 3) := DX8_limitsFades_3.2.2.2.2.1
theorem dX8_limitsFades_61 : decode cX8_limitsFades 61 = .ok (.iload_n 2, 1) := DX8_limitsFades_3.2.2.2.2.2.1
theorem dX8_limitsFades_62 : decode cX8_limitsFades 62 = .ok (.invokevirtual 122, 3) := DX8_limitsFades_3.2.2.2.2.2.2.1
theorem dX8_limitsFades_65 : decode cX8_limitsFades 65 = .ok (.return_, 1) := DX8_limitsFades_3.2.2.2.2.2.2.2
set_option maxRecDepth 100000 in
theorem DX8_cuts_0 : decode cX8_cuts 0 = .ok (.aload_n 0, 1) ∧ decode cX8_cuts 1 = .ok (.iload_n 1, 1) ∧ decode cX8_cuts 2 = .ok (.iconst 2, 1) ∧ decode cX8_cuts 3 = .ok (.aload_n 0, 1) ∧ decode cX8_cuts 4 = .ok (.iload_n 1, 1) ∧ decode cX8_cuts 5 = .ok (.iconst 2, 1) ∧ decode cX8_cuts 6 = .ok (.invokevirtual 98, 3) ∧ decode cX8_cuts 9 = .ok (.iload_n 2, 1) ∧ decode cX8_cuts 10 = .ok (.iadd, 1) ∧ decode cX8_cuts 11 = .ok (.invokevirtual 122, 3) := by decide +kernel
theorem dX8_cuts_0 : decode cX8_cuts 0 = .ok (.aload_n 0, 1) := DX8_cuts_0.1
theorem dX8_cuts_1 : decode cX8_cuts 1 = .ok (.iload_n 1, 1) := DX8_cuts_0.2.1
theorem dX8_cuts_2 : decode cX8_cuts 2 = .ok (.iconst 2, 1) := DX8_cuts_0.2.2.1
theorem dX8_cuts_3 : decode cX8_cuts 3 = .ok (.aload_n 0, 1) := DX8_cuts_0.2.2.2.1
theorem dX8_cuts_4 : decode cX8_cuts 4 = .ok (.iload_n 1, 1) := DX8_cuts_0.2.2.2.2.1
theorem dX8_cuts_5 : decode cX8_cuts 5 = .ok (.iconst 2, 1) := DX8_cuts_0.2.2.2.2.2.1
theorem dX8_cuts_6 : decode cX8_cuts 6 = .ok (.invokevirtual 98, 3) := DX8_cuts_0.2.2.2.2.2.2.1
theorem dX8_cuts_9 : decode cX8_cuts 9 = .ok (.iload_n 2, 1) := DX8_cuts_0.2.2.2.2.2.2.2.1
theorem dX8_cuts_10 : decode cX8_cuts 10 = .ok (.iadd, 1) := DX8_cuts_0.2.2.2.2.2.2.2.2.1
theorem dX8_cuts_11 : decode cX8_cuts 11 = .ok (.invokevirtual 122, 3) := DX8_cuts_0.2.2.2.2.2.2.2.2.2
set_option maxRecDepth 100000 in
theorem DX8_cuts_1 : decode cX8_cuts 14 = .ok (.aload_n 0, 1) ∧ decode cX8_cuts 15 = .ok (.iload_n 1, 1) ∧ decode cX8_cuts 16 = .ok (.iconst 3, 1) ∧ decode cX8_cuts 17 = .ok (.aload_n 0, 1) ∧ decode cX8_cuts 18 = .ok (.iload_n 1, 1) ∧ decode cX8_cuts 19 = .ok (.iconst 3, 1) ∧ decode cX8_cuts 20 = .ok (.invokevirtual 98, 3) ∧ decode cX8_cuts 23 = .ok (.iload_n 2, 1) ∧ decode cX8_cuts 24 = .ok (.iadd, 1) ∧ decode cX8_cuts 25 = .ok (.invokevirtual 122, 3) := by decide +kernel
theorem dX8_cuts_14 : decode cX8_cuts 14 = .ok (.aload_n 0, 1) := DX8_cuts_1.1
theorem dX8_cuts_15 : decode cX8_cuts 15 = .ok (.iload_n 1, 1) := DX8_cuts_1.2.1
theorem dX8_cuts_16 : decode cX8_cuts 16 = .ok (.iconst 3, 1) := DX8_cuts_1.2.2.1
theorem dX8_cuts_17 : decode cX8_cuts 17 = .ok (.aload_n 0, 1) := DX8_cuts_1.2.2.2.1
theorem dX8_cuts_18 : decode cX8_cuts 18 = .ok (.iload_n 1, 1) := DX8_cuts_1.2.2.2.2.1
theorem dX8_cuts_19 : decode cX8_cuts 19 = .ok (.iconst 3, 1) := DX8_cuts_1.2.2.2.2.2.1
theorem dX8_cuts_20 : decode cX8_cuts 20 = .ok (.invokevirtual 98, 3) := DX8_cuts_1.2.2.2.2.2.2.1
theorem dX8_cuts_23 : decode cX8_cuts 23 = .ok (.iload_n 2, 1) := DX8_cuts_1.2.2.2.2.2.2.2.1
theorem dX8_cuts_24 : decode cX8_cuts 24 = .ok (.iadd, 1) := DX8_cuts_1.2.2.2.2.2.2.2.2.1
theorem dX8_cuts_25 : decode cX8_cuts 25 = .ok (.invokevirtual 122, 3) := DX8_cuts_1.2.2.2.2.2.2.2.2.2
set_option maxRecDepth 100000 in
theorem DX8_cuts_2 : decode cX8_cuts 28 = .ok (.aload_n 0, 1) ∧ decode cX8_cuts 29 = .ok (.iload_n 1, 1) ∧ decode cX8_cuts 30 = .ok (.iconst 4, 1) ∧ decode cX8_cuts 31 = .ok (.aload_n 0, 1) ∧ decode cX8_cuts 32 = .ok (.iload_n 1, 1) ∧ decode cX8_cuts 33 = .ok (.iconst 4, 1) ∧ decode cX8_cuts 34 = .ok (.invokevirtual 98, 3) ∧ decode cX8_cuts 37 = .ok (.iload_n 2, 1) ∧ decode cX8_cuts 38 = .ok (.isub, 1) ∧ decode cX8_cuts 39 = .ok (.iload_n 3, 1) := by decide +kernel
theorem dX8_cuts_28 : decode cX8_cuts 28 = .ok (.aload_n 0, 1) := DX8_cuts_2.1
theorem dX8_cuts_29 : decode cX8_cuts 29 = .ok (.iload_n 1, 1) := DX8_cuts_2.2.1
theorem dX8_cuts_30 : decode cX8_cuts 30 = .ok (.iconst 4, 1) := DX8_cuts_2.2.2.1
theorem dX8_cuts_31 : decode cX8_cuts 31 = .ok (.aload_n 0, 1) := DX8_cuts_2.2.2.2.1
theorem dX8_cuts_32 : decode cX8_cuts 32 = .ok (.iload_n 1, 1) := DX8_cuts_2.2.2.2.2.1
theorem dX8_cuts_33 : decode cX8_cuts 33 = .ok (.iconst 4, 1) := DX8_cuts_2.2.2.2.2.2.1
theorem dX8_cuts_34 : decode cX8_cuts 34 = .ok (.invokevirtual 98, 3) := DX8_cuts_2.2.2.2.2.2.2.1
theorem dX8_cuts_37 : decode cX8_cuts 37 = .ok (.iload_n 2, 1) := DX8_cuts_2.2.2.2.2.2.2.2.1
theorem dX8_cuts_38 : decode cX8_cuts 38 = .ok (.isub, 1) := DX8_cuts_2.2.2.2.2.2.2.2.2.1
theorem dX8_cuts_39 : decode cX8_cuts 39 = .ok (.iload_n 3, 1) := DX8_cuts_2.2.2.2.2.2.2.2.2.2
set_option maxRecDepth 100000 in
theorem DX8_cuts_3 : decode cX8_cuts 40 = .ok (.isub, 1) ∧ decode cX8_cuts 41 = .ok (.invokevirtual 122, 3) ∧ decode cX8_cuts 44 = .ok (.aload_n 0, 1) ∧ decode cX8_cuts 45 = .ok (.iload_n 1, 1) ∧ decode cX8_cuts 46 = .ok (.invokevirtual 139, 3) ∧ decode cX8_cuts 49 = .ok (.return_, 1) := by decide +kernel
theorem dX8_cuts_40 : decode cX8_cuts 40 = .ok (.isub, 1) := DX8_cuts_3.1
theorem dX8_cuts_41 : decode cX8_cuts 41 = .ok (.invokevirtual 122, 3) := DX8_cuts_3.2.1
theorem dX8_cuts_44 : decode cX8_cuts 44 = .ok (.aload_n 0, 1) := DX8_cuts_3.2.2.1
theorem dX8_cuts_45 : decode cX8_cuts 45 = .ok (.iload_n 1, 1) := DX8_cuts_3.2.2.2.1
theorem dX8_cuts_46 : decode cX8_cuts 46 = .ok (.invokevirtual 139, 3) := DX8_cuts_3.2.2.2.2.1
theorem dX8_cuts_49 : decode cX8_cuts 49 = .ok (.return_, 1) := DX8_cuts_3.2.2.2.2.2
set_option maxRecDepth 100000 in
theorem DX8_trimClip_0 : decode cX8_trimClip 0 = .ok (.aload_n 0, 1) ∧ decode cX8_trimClip 1 = .ok (.iload_n 1, 1) ∧ decode cX8_trimClip 2 = .ok (.invokevirtual 136, 3) ∧ decode cX8_trimClip 5 = .ok (.ifCond .ne 17, 3) ∧ decode cX8_trimClip 8 = .ok (.aload_n 0, 1) ∧ decode cX8_trimClip 9 = .ok (.iconst 1, 1) ∧ decode cX8_trimClip 10 = .ok (.invokevirtual 51, 3) ∧ decode cX8_trimClip 13 = .ok (.ifCond .eq 7, 3) ∧ decode cX8_trimClip 16 = .ok (.iconst 0, 1) ∧ decode cX8_trimClip 17 = .ok (.goto 4, 3) := by decide +kernel
theorem dX8_trimClip_0 : decode cX8_trimClip 0 = .ok (.aload_n 0, 1) := DX8_trimClip_0.1
theorem dX8_trimClip_1 : decode cX8_trimClip 1 = .ok (.iload_n 1, 1) := DX8_trimClip_0.2.1
theorem dX8_trimClip_2 : decode cX8_trimClip 2 = .ok (.invokevirtual 136, 3) := DX8_trimClip_0.2.2.1
theorem dX8_trimClip_5 : decode cX8_trimClip 5 = .ok (.ifCond .ne 17, 3) := DX8_trimClip_0.2.2.2.1
theorem dX8_trimClip_8 : decode cX8_trimClip 8 = .ok (.aload_n 0, 1) := DX8_trimClip_0.2.2.2.2.1
theorem dX8_trimClip_9 : decode cX8_trimClip 9 = .ok (.iconst 1, 1) := DX8_trimClip_0.2.2.2.2.2.1
theorem dX8_trimClip_10 : decode cX8_trimClip 10 = .ok (.invokevirtual 51, 3) := DX8_trimClip_0.2.2.2.2.2.2.1
theorem dX8_trimClip_13 : decode cX8_trimClip 13 = .ok (.ifCond .eq 7, 3) := DX8_trimClip_0.2.2.2.2.2.2.2.1
theorem dX8_trimClip_16 : decode cX8_trimClip 16 = .ok (.iconst 0, 1) := DX8_trimClip_0.2.2.2.2.2.2.2.2.1
theorem dX8_trimClip_17 : decode cX8_trimClip 17 = .ok (.goto 4, 3) := DX8_trimClip_0.2.2.2.2.2.2.2.2.2
set_option maxRecDepth 100000 in
theorem DX8_trimClip_1 : decode cX8_trimClip 20 = .ok (.iconst (-1), 1) ∧ decode cX8_trimClip 21 = .ok (.ireturn, 1) ∧ decode cX8_trimClip 22 = .ok (.aload_n 0, 1) ∧ decode cX8_trimClip 23 = .ok (.invokevirtual 119, 3) ∧ decode cX8_trimClip 26 = .ok (.iload_n 2, 1) ∧ decode cX8_trimClip 27 = .ok (.ifCond .lt 41, 3) ∧ decode cX8_trimClip 30 = .ok (.iload_n 3, 1) ∧ decode cX8_trimClip 31 = .ok (.ifCond .lt 37, 3) ∧ decode cX8_trimClip 34 = .ok (.iload_n 2, 1) ∧ decode cX8_trimClip 35 = .ok (.i2l, 1) := by decide +kernel
theorem dX8_trimClip_20 : decode cX8_trimClip 20 = .ok (.iconst (-1), 1) := DX8_trimClip_1.1
theorem dX8_trimClip_21 : decode cX8_trimClip 21 = .ok (.ireturn, 1) := DX8_trimClip_1.2.1
theorem dX8_trimClip_22 : decode cX8_trimClip 22 = .ok (.aload_n 0, 1) := DX8_trimClip_1.2.2.1
theorem dX8_trimClip_23 : decode cX8_trimClip 23 = .ok (.invokevirtual 119, 3) := DX8_trimClip_1.2.2.2.1
theorem dX8_trimClip_26 : decode cX8_trimClip 26 = .ok (.iload_n 2, 1) := DX8_trimClip_1.2.2.2.2.1
theorem dX8_trimClip_27 : decode cX8_trimClip 27 = .ok (.ifCond .lt 41, 3) := DX8_trimClip_1.2.2.2.2.2.1
theorem dX8_trimClip_30 : decode cX8_trimClip 30 = .ok (.iload_n 3, 1) := DX8_trimClip_1.2.2.2.2.2.2.1
theorem dX8_trimClip_31 : decode cX8_trimClip 31 = .ok (.ifCond .lt 37, 3) := DX8_trimClip_1.2.2.2.2.2.2.2.1
theorem dX8_trimClip_34 : decode cX8_trimClip 34 = .ok (.iload_n 2, 1) := DX8_trimClip_1.2.2.2.2.2.2.2.2.1
theorem dX8_trimClip_35 : decode cX8_trimClip 35 = .ok (.i2l, 1) := DX8_trimClip_1.2.2.2.2.2.2.2.2.2
set_option maxRecDepth 100000 in
theorem DX8_trimClip_2 : decode cX8_trimClip 36 = .ok (.iload_n 3, 1) ∧ decode cX8_trimClip 37 = .ok (.i2l, 1) ∧ decode cX8_trimClip 38 = .ok (.ladd, 1) ∧ decode cX8_trimClip 39 = .ok (.aload_n 0, 1) ∧ decode cX8_trimClip 40 = .ok (.iload_n 1, 1) ∧ decode cX8_trimClip 41 = .ok (.iconst 4, 1) ∧ decode cX8_trimClip 42 = .ok (.invokevirtual 98, 3) ∧ decode cX8_trimClip 45 = .ok (.i2l, 1) ∧ decode cX8_trimClip 46 = .ok (.lcmp, 1) ∧ decode cX8_trimClip 47 = .ok (.ifCond .ge 21, 3) := by decide +kernel
theorem dX8_trimClip_36 : decode cX8_trimClip 36 = .ok (.iload_n 3, 1) := DX8_trimClip_2.1
theorem dX8_trimClip_37 : decode cX8_trimClip 37 = .ok (.i2l, 1) := DX8_trimClip_2.2.1
theorem dX8_trimClip_38 : decode cX8_trimClip 38 = .ok (.ladd, 1) := DX8_trimClip_2.2.2.1
theorem dX8_trimClip_39 : decode cX8_trimClip 39 = .ok (.aload_n 0, 1) := DX8_trimClip_2.2.2.2.1
theorem dX8_trimClip_40 : decode cX8_trimClip 40 = .ok (.iload_n 1, 1) := DX8_trimClip_2.2.2.2.2.1
theorem dX8_trimClip_41 : decode cX8_trimClip 41 = .ok (.iconst 4, 1) := DX8_trimClip_2.2.2.2.2.2.1
theorem dX8_trimClip_42 : decode cX8_trimClip 42 = .ok (.invokevirtual 98, 3) := DX8_trimClip_2.2.2.2.2.2.2.1
theorem dX8_trimClip_45 : decode cX8_trimClip 45 = .ok (.i2l, 1) := DX8_trimClip_2.2.2.2.2.2.2.2.1
theorem dX8_trimClip_46 : decode cX8_trimClip 46 = .ok (.lcmp, 1) := DX8_trimClip_2.2.2.2.2.2.2.2.2.1
theorem dX8_trimClip_47 : decode cX8_trimClip 47 = .ok (.ifCond .ge 21, 3) := DX8_trimClip_2.2.2.2.2.2.2.2.2.2
set_option maxRecDepth 100000 in
theorem DX8_trimClip_3 : decode cX8_trimClip 50 = .ok (.aload_n 0, 1) ∧ decode cX8_trimClip 51 = .ok (.iload_n 1, 1) ∧ decode cX8_trimClip 52 = .ok (.iconst 3, 1) ∧ decode cX8_trimClip 53 = .ok (.invokevirtual 98, 3) ∧ decode cX8_trimClip 56 = .ok (.iload_n 2, 1) ∧ decode cX8_trimClip 57 = .ok (.iadd, 1) ∧ decode cX8_trimClip 58 = .ok (.invokestatic 114, 3) ∧ decode cX8_trimClip 61 = .ok (.ifCond .eq 7, 3) ∧ decode cX8_trimClip 64 = .ok (.iconst 1, 1) ∧ decode cX8_trimClip 65 = .ok (.goto 4, 3) := by decide +kernel
theorem dX8_trimClip_50 : decode cX8_trimClip 50 = .ok (.aload_n 0, 1) := DX8_trimClip_3.1
theorem dX8_trimClip_51 : decode cX8_trimClip 51 = .ok (.iload_n 1, 1) := DX8_trimClip_3.2.1
theorem dX8_trimClip_52 : decode cX8_trimClip 52 = .ok (.iconst 3, 1) := DX8_trimClip_3.2.2.1
theorem dX8_trimClip_53 : decode cX8_trimClip 53 = .ok (.invokevirtual 98, 3) := DX8_trimClip_3.2.2.2.1
theorem dX8_trimClip_56 : decode cX8_trimClip 56 = .ok (.iload_n 2, 1) := DX8_trimClip_3.2.2.2.2.1
theorem dX8_trimClip_57 : decode cX8_trimClip 57 = .ok (.iadd, 1) := DX8_trimClip_3.2.2.2.2.2.1
theorem dX8_trimClip_58 : decode cX8_trimClip 58 = .ok (.invokestatic 114, 3) := DX8_trimClip_3.2.2.2.2.2.2.1
theorem dX8_trimClip_61 : decode cX8_trimClip 61 = .ok (.ifCond .eq 7, 3) := DX8_trimClip_3.2.2.2.2.2.2.2.1
theorem dX8_trimClip_64 : decode cX8_trimClip 64 = .ok (.iconst 1, 1) := DX8_trimClip_3.2.2.2.2.2.2.2.2.1
theorem dX8_trimClip_65 : decode cX8_trimClip 65 = .ok (.goto 4, 3) := DX8_trimClip_3.2.2.2.2.2.2.2.2.2
set_option maxRecDepth 100000 in
theorem DX8_trimClip_4 : decode cX8_trimClip 68 = .ok (.iconst 0, 1) ∧ decode cX8_trimClip 69 = .ok (.istore 4, 2) ∧ decode cX8_trimClip 71 = .ok (.iload 4, 2) ∧ decode cX8_trimClip 73 = .ok (.ifCond .ne 17, 3) ∧ decode cX8_trimClip 76 = .ok (.aload_n 0, 1) ∧ decode cX8_trimClip 77 = .ok (.iconst 2, 1) ∧ decode cX8_trimClip 78 = .ok (.invokevirtual 51, 3) ∧ decode cX8_trimClip 81 = .ok (.ifCond .eq 7, 3) ∧ decode cX8_trimClip 84 = .ok (.iconst 0, 1) ∧ decode cX8_trimClip 85 = .ok (.goto 4, 3) := by decide +kernel
theorem dX8_trimClip_68 : decode cX8_trimClip 68 = .ok (.iconst 0, 1) := DX8_trimClip_4.1
theorem dX8_trimClip_69 : decode cX8_trimClip 69 = .ok (.istore 4, 2) := DX8_trimClip_4.2.1
theorem dX8_trimClip_71 : decode cX8_trimClip 71 = .ok (.iload 4, 2) := DX8_trimClip_4.2.2.1
theorem dX8_trimClip_73 : decode cX8_trimClip 73 = .ok (.ifCond .ne 17, 3) := DX8_trimClip_4.2.2.2.1
theorem dX8_trimClip_76 : decode cX8_trimClip 76 = .ok (.aload_n 0, 1) := DX8_trimClip_4.2.2.2.2.1
theorem dX8_trimClip_77 : decode cX8_trimClip 77 = .ok (.iconst 2, 1) := DX8_trimClip_4.2.2.2.2.2.1
theorem dX8_trimClip_78 : decode cX8_trimClip 78 = .ok (.invokevirtual 51, 3) := DX8_trimClip_4.2.2.2.2.2.2.1
theorem dX8_trimClip_81 : decode cX8_trimClip 81 = .ok (.ifCond .eq 7, 3) := DX8_trimClip_4.2.2.2.2.2.2.2.1
theorem dX8_trimClip_84 : decode cX8_trimClip 84 = .ok (.iconst 0, 1) := DX8_trimClip_4.2.2.2.2.2.2.2.2.1
theorem dX8_trimClip_85 : decode cX8_trimClip 85 = .ok (.goto 4, 3) := DX8_trimClip_4.2.2.2.2.2.2.2.2.2
set_option maxRecDepth 100000 in
theorem DX8_trimClip_5 : decode cX8_trimClip 88 = .ok (.iconst (-1), 1) ∧ decode cX8_trimClip 89 = .ok (.ireturn, 1) ∧ decode cX8_trimClip 90 = .ok (.aload_n 0, 1) ∧ decode cX8_trimClip 91 = .ok (.iload_n 1, 1) ∧ decode cX8_trimClip 92 = .ok (.iload_n 2, 1) ∧ decode cX8_trimClip 93 = .ok (.iload_n 3, 1) ∧ decode cX8_trimClip 94 = .ok (.invokevirtual 143, 3) ∧ decode cX8_trimClip 97 = .ok (.aload_n 0, 1) ∧ decode cX8_trimClip 98 = .ok (.iload_n 1, 1) ∧ decode cX8_trimClip 99 = .ok (.iconst 4, 1) := by decide +kernel
theorem dX8_trimClip_88 : decode cX8_trimClip 88 = .ok (.iconst (-1), 1) := DX8_trimClip_5.1
theorem dX8_trimClip_89 : decode cX8_trimClip 89 = .ok (.ireturn, 1) := DX8_trimClip_5.2.1
theorem dX8_trimClip_90 : decode cX8_trimClip 90 = .ok (.aload_n 0, 1) := DX8_trimClip_5.2.2.1
theorem dX8_trimClip_91 : decode cX8_trimClip 91 = .ok (.iload_n 1, 1) := DX8_trimClip_5.2.2.2.1
theorem dX8_trimClip_92 : decode cX8_trimClip 92 = .ok (.iload_n 2, 1) := DX8_trimClip_5.2.2.2.2.1
theorem dX8_trimClip_93 : decode cX8_trimClip 93 = .ok (.iload_n 3, 1) := DX8_trimClip_5.2.2.2.2.2.1
theorem dX8_trimClip_94 : decode cX8_trimClip 94 = .ok (.invokevirtual 143, 3) := DX8_trimClip_5.2.2.2.2.2.2.1
theorem dX8_trimClip_97 : decode cX8_trimClip 97 = .ok (.aload_n 0, 1) := DX8_trimClip_5.2.2.2.2.2.2.2.1
theorem dX8_trimClip_98 : decode cX8_trimClip 98 = .ok (.iload_n 1, 1) := DX8_trimClip_5.2.2.2.2.2.2.2.2.1
theorem dX8_trimClip_99 : decode cX8_trimClip 99 = .ok (.iconst 4, 1) := DX8_trimClip_5.2.2.2.2.2.2.2.2.2
set_option maxRecDepth 100000 in
theorem DX8_trimClip_6 : decode cX8_trimClip 100 = .ok (.invokevirtual 98, 3) ∧ decode cX8_trimClip 103 = .ok (.istore 5, 2) ∧ decode cX8_trimClip 105 = .ok (.aload_n 0, 1) ∧ decode cX8_trimClip 106 = .ok (.iload_n 1, 1) ∧ decode cX8_trimClip 107 = .ok (.invokevirtual 126, 3) ∧ decode cX8_trimClip 110 = .ok (.istore 6, 2) ∧ decode cX8_trimClip 112 = .ok (.aload_n 0, 1) ∧ decode cX8_trimClip 113 = .ok (.aload_n 0, 1) ∧ decode cX8_trimClip 114 = .ok (.invokevirtual 129, 3) ∧ decode cX8_trimClip 117 = .ok (.ifCond .eq 7, 3) := by decide +kernel
theorem dX8_trimClip_100 : decode cX8_trimClip 100 = .ok (.invokevirtual 98, 3) := DX8_trimClip_6.1
theorem dX8_trimClip_103 : decode cX8_trimClip 103 = .ok (.istore 5, 2) := DX8_trimClip_6.2.1
theorem dX8_trimClip_105 : decode cX8_trimClip 105 = .ok (.aload_n 0, 1) := DX8_trimClip_6.2.2.1
theorem dX8_trimClip_106 : decode cX8_trimClip 106 = .ok (.iload_n 1, 1) := DX8_trimClip_6.2.2.2.1
theorem dX8_trimClip_107 : decode cX8_trimClip 107 = .ok (.invokevirtual 126, 3) := DX8_trimClip_6.2.2.2.2.1
theorem dX8_trimClip_110 : decode cX8_trimClip 110 = .ok (.istore 6, 2) := DX8_trimClip_6.2.2.2.2.2.1
theorem dX8_trimClip_112 : decode cX8_trimClip 112 = .ok (.aload_n 0, 1) := DX8_trimClip_6.2.2.2.2.2.2.1
theorem dX8_trimClip_113 : decode cX8_trimClip 113 = .ok (.aload_n 0, 1) := DX8_trimClip_6.2.2.2.2.2.2.2.1
theorem dX8_trimClip_114 : decode cX8_trimClip 114 = .ok (.invokevirtual 129, 3) := DX8_trimClip_6.2.2.2.2.2.2.2.2.1
theorem dX8_trimClip_117 : decode cX8_trimClip 117 = .ok (.ifCond .eq 7, 3) := DX8_trimClip_6.2.2.2.2.2.2.2.2.2
set_option maxRecDepth 100000 in
theorem DX8_trimClip_7 : decode cX8_trimClip 120 = .ok (.iconst 0, 1) ∧ decode cX8_trimClip 121 = .ok (.goto 4, 3) ∧ decode cX8_trimClip 124 = .ok (.iconst 3, 1) ∧ decode cX8_trimClip 125 = .ok (.invokevirtual 73, 3) ∧ decode cX8_trimClip 128 = .ok (.ifCond .eq 5, 3) ∧ decode cX8_trimClip 131 = .ok (.iconst 0, 1) ∧ decode cX8_trimClip 132 = .ok (.ireturn, 1) ∧ decode cX8_trimClip 133 = .ok (.aload_n 0, 1) ∧ decode cX8_trimClip 134 = .ok (.invokevirtual 133, 3) ∧ decode cX8_trimClip 137 = .ok (.iload 5, 2) := by decide +kernel
theorem dX8_trimClip_120 : decode cX8_trimClip 120 = .ok (.iconst 0, 1) := DX8_trimClip_7.1
theorem dX8_trimClip_121 : decode cX8_trimClip 121 = .ok (.goto 4, 3) := DX8_trimClip_7.2.1
theorem dX8_trimClip_124 : decode cX8_trimClip 124 = .ok (.iconst 3, 1) := DX8_trimClip_7.2.2.1
theorem dX8_trimClip_125 : decode cX8_trimClip 125 = .ok (.invokevirtual 73, 3) := DX8_trimClip_7.2.2.2.1
theorem dX8_trimClip_128 : decode cX8_trimClip 128 = .ok (.ifCond .eq 5, 3) := DX8_trimClip_7.2.2.2.2.1
theorem dX8_trimClip_131 : decode cX8_trimClip 131 = .ok (.iconst 0, 1) := DX8_trimClip_7.2.2.2.2.2.1
theorem dX8_trimClip_132 : decode cX8_trimClip 132 = .ok (.ireturn, 1) := DX8_trimClip_7.2.2.2.2.2.2.1
theorem dX8_trimClip_133 : decode cX8_trimClip 133 = .ok (.aload_n 0, 1) := DX8_trimClip_7.2.2.2.2.2.2.2.1
theorem dX8_trimClip_134 : decode cX8_trimClip 134 = .ok (.invokevirtual 133, 3) := DX8_trimClip_7.2.2.2.2.2.2.2.2.1
theorem dX8_trimClip_137 : decode cX8_trimClip 137 = .ok (.iload 5, 2) := DX8_trimClip_7.2.2.2.2.2.2.2.2.2
set_option maxRecDepth 100000 in
theorem DX8_trimClip_8 : decode cX8_trimClip 139 = .ok (.ireturn, 1) := by decide +kernel
theorem dX8_trimClip_139 : decode cX8_trimClip 139 = .ok (.ireturn, 1) := DX8_trimClip_8
set_option maxRecDepth 100000 in
theorem DX8_splitClip_0 : decode cX8_splitClip 0 = .ok (.aload_n 0, 1) ∧ decode cX8_splitClip 1 = .ok (.iload_n 1, 1) ∧ decode cX8_splitClip 2 = .ok (.invokevirtual 136, 3) ∧ decode cX8_splitClip 5 = .ok (.ifCond .ne 17, 3) ∧ decode cX8_splitClip 8 = .ok (.aload_n 0, 1) ∧ decode cX8_splitClip 9 = .ok (.iconst 1, 1) ∧ decode cX8_splitClip 10 = .ok (.invokevirtual 51, 3) ∧ decode cX8_splitClip 13 = .ok (.ifCond .eq 7, 3) ∧ decode cX8_splitClip 16 = .ok (.iconst 0, 1) ∧ decode cX8_splitClip 17 = .ok (.goto 4, 3) := by decide +kernel
theorem dX8_splitClip_0 : decode cX8_splitClip 0 = .ok (.aload_n 0, 1) := DX8_splitClip_0.1
theorem dX8_splitClip_1 : decode cX8_splitClip 1 = .ok (.iload_n 1, 1) := DX8_splitClip_0.2.1
theorem dX8_splitClip_2 : decode cX8_splitClip 2 = .ok (.invokevirtual 136, 3) := DX8_splitClip_0.2.2.1
theorem dX8_splitClip_5 : decode cX8_splitClip 5 = .ok (.ifCond .ne 17, 3) := DX8_splitClip_0.2.2.2.1
theorem dX8_splitClip_8 : decode cX8_splitClip 8 = .ok (.aload_n 0, 1) := DX8_splitClip_0.2.2.2.2.1
theorem dX8_splitClip_9 : decode cX8_splitClip 9 = .ok (.iconst 1, 1) := DX8_splitClip_0.2.2.2.2.2.1
theorem dX8_splitClip_10 : decode cX8_splitClip 10 = .ok (.invokevirtual 51, 3) := DX8_splitClip_0.2.2.2.2.2.2.1
theorem dX8_splitClip_13 : decode cX8_splitClip 13 = .ok (.ifCond .eq 7, 3) := DX8_splitClip_0.2.2.2.2.2.2.2.1
theorem dX8_splitClip_16 : decode cX8_splitClip 16 = .ok (.iconst 0, 1) := DX8_splitClip_0.2.2.2.2.2.2.2.2.1
theorem dX8_splitClip_17 : decode cX8_splitClip 17 = .ok (.goto 4, 3) := DX8_splitClip_0.2.2.2.2.2.2.2.2.2
set_option maxRecDepth 100000 in
theorem DX8_splitClip_1 : decode cX8_splitClip 20 = .ok (.iconst (-1), 1) ∧ decode cX8_splitClip 21 = .ok (.ireturn, 1) ∧ decode cX8_splitClip 22 = .ok (.aload_n 0, 1) ∧ decode cX8_splitClip 23 = .ok (.invokevirtual 119, 3) ∧ decode cX8_splitClip 26 = .ok (.iload_n 2, 1) ∧ decode cX8_splitClip 27 = .ok (.aload_n 0, 1) ∧ decode cX8_splitClip 28 = .ok (.iload_n 1, 1) ∧ decode cX8_splitClip 29 = .ok (.iconst 2, 1) ∧ decode cX8_splitClip 30 = .ok (.invokevirtual 98, 3) ∧ decode cX8_splitClip 33 = .ok (.isub, 1) := by decide +kernel
theorem dX8_splitClip_20 : decode cX8_splitClip 20 = .ok (.iconst (-1), 1) := DX8_splitClip_1.1
theorem dX8_splitClip_21 : decode cX8_splitClip 21 = .ok (.ireturn, 1) := DX8_splitClip_1.2.1
theorem dX8_splitClip_22 : decode cX8_splitClip 22 = .ok (.aload_n 0, 1) := DX8_splitClip_1.2.2.1
theorem dX8_splitClip_23 : decode cX8_splitClip 23 = .ok (.invokevirtual 119, 3) := DX8_splitClip_1.2.2.2.1
theorem dX8_splitClip_26 : decode cX8_splitClip 26 = .ok (.iload_n 2, 1) := DX8_splitClip_1.2.2.2.2.1
theorem dX8_splitClip_27 : decode cX8_splitClip 27 = .ok (.aload_n 0, 1) := DX8_splitClip_1.2.2.2.2.2.1
theorem dX8_splitClip_28 : decode cX8_splitClip 28 = .ok (.iload_n 1, 1) := DX8_splitClip_1.2.2.2.2.2.2.1
theorem dX8_splitClip_29 : decode cX8_splitClip 29 = .ok (.iconst 2, 1) := DX8_splitClip_1.2.2.2.2.2.2.2.1
theorem dX8_splitClip_30 : decode cX8_splitClip 30 = .ok (.invokevirtual 98, 3) := DX8_splitClip_1.2.2.2.2.2.2.2.2.1
theorem dX8_splitClip_33 : decode cX8_splitClip 33 = .ok (.isub, 1) := DX8_splitClip_1.2.2.2.2.2.2.2.2.2
set_option maxRecDepth 100000 in
theorem DX8_splitClip_2 : decode cX8_splitClip 34 = .ok (.istore_n 3, 1) ∧ decode cX8_splitClip 35 = .ok (.iload_n 2, 1) ∧ decode cX8_splitClip 36 = .ok (.aload_n 0, 1) ∧ decode cX8_splitClip 37 = .ok (.iload_n 1, 1) ∧ decode cX8_splitClip 38 = .ok (.iconst 2, 1) ∧ decode cX8_splitClip 39 = .ok (.invokevirtual 98, 3) ∧ decode cX8_splitClip 42 = .ok (.if_icmp .le 30, 3) ∧ decode cX8_splitClip 45 = .ok (.iload_n 2, 1) ∧ decode cX8_splitClip 46 = .ok (.aload_n 0, 1) ∧ decode cX8_splitClip 47 = .ok (.iload_n 1, 1) := by decide +kernel
theorem dX8_splitClip_34 : decode cX8_splitClip 34 = .ok (.istore_n 3, 1) := DX8_splitClip_2.1
theorem dX8_splitClip_35 : decode cX8_splitClip 35 = .ok (.iload_n 2, 1) := DX8_splitClip_2.2.1
theorem dX8_splitClip_36 : decode cX8_splitClip 36 = .ok (.aload_n 0, 1) := DX8_splitClip_2.2.2.1
theorem dX8_splitClip_37 : decode cX8_splitClip 37 = .ok (.iload_n 1, 1) := DX8_splitClip_2.2.2.2.1
theorem dX8_splitClip_38 : decode cX8_splitClip 38 = .ok (.iconst 2, 1) := DX8_splitClip_2.2.2.2.2.1
theorem dX8_splitClip_39 : decode cX8_splitClip 39 = .ok (.invokevirtual 98, 3) := DX8_splitClip_2.2.2.2.2.2.1
theorem dX8_splitClip_42 : decode cX8_splitClip 42 = .ok (.if_icmp .le 30, 3) := DX8_splitClip_2.2.2.2.2.2.2.1
theorem dX8_splitClip_45 : decode cX8_splitClip 45 = .ok (.iload_n 2, 1) := DX8_splitClip_2.2.2.2.2.2.2.2.1
theorem dX8_splitClip_46 : decode cX8_splitClip 46 = .ok (.aload_n 0, 1) := DX8_splitClip_2.2.2.2.2.2.2.2.2.1
theorem dX8_splitClip_47 : decode cX8_splitClip 47 = .ok (.iload_n 1, 1) := DX8_splitClip_2.2.2.2.2.2.2.2.2.2
set_option maxRecDepth 100000 in
theorem DX8_splitClip_3 : decode cX8_splitClip 48 = .ok (.invokevirtual 108, 3) ∧ decode cX8_splitClip 51 = .ok (.if_icmp .ge 21, 3) ∧ decode cX8_splitClip 54 = .ok (.aload_n 0, 1) ∧ decode cX8_splitClip 55 = .ok (.iload_n 1, 1) ∧ decode cX8_splitClip 56 = .ok (.iconst 3, 1) ∧ decode cX8_splitClip 57 = .ok (.invokevirtual 98, 3) ∧ decode cX8_splitClip 60 = .ok (.iload_n 3, 1) ∧ decode cX8_splitClip 61 = .ok (.iadd, 1) ∧ decode cX8_splitClip 62 = .ok (.invokestatic 114, 3) ∧ decode cX8_splitClip 65 = .ok (.ifCond .eq 7, 3) := by decide +kernel
theorem dX8_splitClip_48 : decode cX8_splitClip 48 = .ok (.invokevirtual 108, 3) := DX8_splitClip_3.1
theorem dX8_splitClip_51 : decode cX8_splitClip 51 = .ok (.if_icmp .ge 21, 3) := DX8_splitClip_3.2.1
theorem dX8_splitClip_54 : decode cX8_splitClip 54 = .ok (.aload_n 0, 1) := DX8_splitClip_3.2.2.1
theorem dX8_splitClip_55 : decode cX8_splitClip 55 = .ok (.iload_n 1, 1) := DX8_splitClip_3.2.2.2.1
theorem dX8_splitClip_56 : decode cX8_splitClip 56 = .ok (.iconst 3, 1) := DX8_splitClip_3.2.2.2.2.1
theorem dX8_splitClip_57 : decode cX8_splitClip 57 = .ok (.invokevirtual 98, 3) := DX8_splitClip_3.2.2.2.2.2.1
theorem dX8_splitClip_60 : decode cX8_splitClip 60 = .ok (.iload_n 3, 1) := DX8_splitClip_3.2.2.2.2.2.2.1
theorem dX8_splitClip_61 : decode cX8_splitClip 61 = .ok (.iadd, 1) := DX8_splitClip_3.2.2.2.2.2.2.2.1
theorem dX8_splitClip_62 : decode cX8_splitClip 62 = .ok (.invokestatic 114, 3) := DX8_splitClip_3.2.2.2.2.2.2.2.2.1
theorem dX8_splitClip_65 : decode cX8_splitClip 65 = .ok (.ifCond .eq 7, 3) := DX8_splitClip_3.2.2.2.2.2.2.2.2.2
set_option maxRecDepth 100000 in
theorem DX8_splitClip_4 : decode cX8_splitClip 68 = .ok (.iconst 1, 1) ∧ decode cX8_splitClip 69 = .ok (.goto 4, 3) ∧ decode cX8_splitClip 72 = .ok (.iconst 0, 1) ∧ decode cX8_splitClip 73 = .ok (.istore 4, 2) ∧ decode cX8_splitClip 75 = .ok (.iload 4, 2) ∧ decode cX8_splitClip 77 = .ok (.ifCond .eq 12, 3) ∧ decode cX8_splitClip 80 = .ok (.aload_n 0, 1) ∧ decode cX8_splitClip 81 = .ok (.getfield 95, 3) ∧ decode cX8_splitClip 84 = .ok (.bipush 12, 2) ∧ decode cX8_splitClip 86 = .ok (.if_icmp .ne 26, 3) := by decide +kernel
theorem dX8_splitClip_68 : decode cX8_splitClip 68 = .ok (.iconst 1, 1) := DX8_splitClip_4.1
theorem dX8_splitClip_69 : decode cX8_splitClip 69 = .ok (.goto 4, 3) := DX8_splitClip_4.2.1
theorem dX8_splitClip_72 : decode cX8_splitClip 72 = .ok (.iconst 0, 1) := DX8_splitClip_4.2.2.1
theorem dX8_splitClip_73 : decode cX8_splitClip 73 = .ok (.istore 4, 2) := DX8_splitClip_4.2.2.2.1
theorem dX8_splitClip_75 : decode cX8_splitClip 75 = .ok (.iload 4, 2) := DX8_splitClip_4.2.2.2.2.1
theorem dX8_splitClip_77 : decode cX8_splitClip 77 = .ok (.ifCond .eq 12, 3) := DX8_splitClip_4.2.2.2.2.2.1
theorem dX8_splitClip_80 : decode cX8_splitClip 80 = .ok (.aload_n 0, 1) := DX8_splitClip_4.2.2.2.2.2.2.1
theorem dX8_splitClip_81 : decode cX8_splitClip 81 = .ok (.getfield 95, 3) := DX8_splitClip_4.2.2.2.2.2.2.2.1
theorem dX8_splitClip_84 : decode cX8_splitClip 84 = .ok (.bipush 12, 2) := DX8_splitClip_4.2.2.2.2.2.2.2.2.1
theorem dX8_splitClip_86 : decode cX8_splitClip 86 = .ok (.if_icmp .ne 26, 3) := DX8_splitClip_4.2.2.2.2.2.2.2.2.2
set_option maxRecDepth 100000 in
theorem DX8_splitClip_5 : decode cX8_splitClip 89 = .ok (.aload_n 0, 1) ∧ decode cX8_splitClip 90 = .ok (.iload 4, 2) ∧ decode cX8_splitClip 92 = .ok (.ifCond .eq 7, 3) ∧ decode cX8_splitClip 95 = .ok (.iconst 3, 1) ∧ decode cX8_splitClip 96 = .ok (.goto 4, 3) ∧ decode cX8_splitClip 99 = .ok (.iconst 2, 1) ∧ decode cX8_splitClip 100 = .ok (.invokevirtual 51, 3) ∧ decode cX8_splitClip 103 = .ok (.ifCond .eq 7, 3) ∧ decode cX8_splitClip 106 = .ok (.iconst 0, 1) ∧ decode cX8_splitClip 107 = .ok (.goto 4, 3) := by decide +kernel
theorem dX8_splitClip_89 : decode cX8_splitClip 89 = .ok (.aload_n 0, 1) := DX8_splitClip_5.1
theorem dX8_splitClip_90 : decode cX8_splitClip 90 = .ok (.iload 4, 2) := DX8_splitClip_5.2.1
theorem dX8_splitClip_92 : decode cX8_splitClip 92 = .ok (.ifCond .eq 7, 3) := DX8_splitClip_5.2.2.1
theorem dX8_splitClip_95 : decode cX8_splitClip 95 = .ok (.iconst 3, 1) := DX8_splitClip_5.2.2.2.1
theorem dX8_splitClip_96 : decode cX8_splitClip 96 = .ok (.goto 4, 3) := DX8_splitClip_5.2.2.2.2.1
theorem dX8_splitClip_99 : decode cX8_splitClip 99 = .ok (.iconst 2, 1) := DX8_splitClip_5.2.2.2.2.2.1
theorem dX8_splitClip_100 : decode cX8_splitClip 100 = .ok (.invokevirtual 51, 3) := DX8_splitClip_5.2.2.2.2.2.2.1
theorem dX8_splitClip_103 : decode cX8_splitClip 103 = .ok (.ifCond .eq 7, 3) := DX8_splitClip_5.2.2.2.2.2.2.2.1
theorem dX8_splitClip_106 : decode cX8_splitClip 106 = .ok (.iconst 0, 1) := DX8_splitClip_5.2.2.2.2.2.2.2.2.1
theorem dX8_splitClip_107 : decode cX8_splitClip 107 = .ok (.goto 4, 3) := DX8_splitClip_5.2.2.2.2.2.2.2.2.2
set_option maxRecDepth 100000 in
theorem DX8_splitClip_6 : decode cX8_splitClip 110 = .ok (.iconst (-1), 1) ∧ decode cX8_splitClip 111 = .ok (.ireturn, 1) ∧ decode cX8_splitClip 112 = .ok (.aload_n 0, 1) ∧ decode cX8_splitClip 113 = .ok (.iload_n 1, 1) ∧ decode cX8_splitClip 114 = .ok (.iconst 4, 1) ∧ decode cX8_splitClip 115 = .ok (.invokevirtual 98, 3) ∧ decode cX8_splitClip 118 = .ok (.iload_n 3, 1) ∧ decode cX8_splitClip 119 = .ok (.isub, 1) ∧ decode cX8_splitClip 120 = .ok (.istore 5, 2) ∧ decode cX8_splitClip 122 = .ok (.aload_n 0, 1) := by decide +kernel
theorem dX8_splitClip_110 : decode cX8_splitClip 110 = .ok (.iconst (-1), 1) := DX8_splitClip_6.1
theorem dX8_splitClip_111 : decode cX8_splitClip 111 = .ok (.ireturn, 1) := DX8_splitClip_6.2.1
theorem dX8_splitClip_112 : decode cX8_splitClip 112 = .ok (.aload_n 0, 1) := DX8_splitClip_6.2.2.1
theorem dX8_splitClip_113 : decode cX8_splitClip 113 = .ok (.iload_n 1, 1) := DX8_splitClip_6.2.2.2.1
theorem dX8_splitClip_114 : decode cX8_splitClip 114 = .ok (.iconst 4, 1) := DX8_splitClip_6.2.2.2.2.1
theorem dX8_splitClip_115 : decode cX8_splitClip 115 = .ok (.invokevirtual 98, 3) := DX8_splitClip_6.2.2.2.2.2.1
theorem dX8_splitClip_118 : decode cX8_splitClip 118 = .ok (.iload_n 3, 1) := DX8_splitClip_6.2.2.2.2.2.2.1
theorem dX8_splitClip_119 : decode cX8_splitClip 119 = .ok (.isub, 1) := DX8_splitClip_6.2.2.2.2.2.2.2.1
theorem dX8_splitClip_120 : decode cX8_splitClip 120 = .ok (.istore 5, 2) := DX8_splitClip_6.2.2.2.2.2.2.2.2.1
theorem dX8_splitClip_122 : decode cX8_splitClip 122 = .ok (.aload_n 0, 1) := DX8_splitClip_6.2.2.2.2.2.2.2.2.2
set_option maxRecDepth 100000 in
theorem DX8_splitClip_7 : decode cX8_splitClip 123 = .ok (.iload_n 1, 1) ∧ decode cX8_splitClip 124 = .ok (.aload_n 0, 1) ∧ decode cX8_splitClip 125 = .ok (.getfield 95, 3) ∧ decode cX8_splitClip 128 = .ok (.invokevirtual 101, 3) ∧ decode cX8_splitClip 131 = .ok (.aload_n 0, 1) ∧ decode cX8_splitClip 132 = .ok (.dup, 1) ∧ decode cX8_splitClip 133 = .ok (.getfield 95, 3) ∧ decode cX8_splitClip 136 = .ok (.iconst 1, 1) ∧ decode cX8_splitClip 137 = .ok (.iadd, 1) ∧ decode cX8_splitClip 138 = .ok (.putfield 95, 3) := by decide +kernel
theorem dX8_splitClip_123 : decode cX8_splitClip 123 = .ok (.iload_n 1, 1) := DX8_splitClip_7.1
theorem dX8_splitClip_124 : decode cX8_splitClip 124 = .ok (.aload_n 0, 1) := DX8_splitClip_7.2.1
theorem dX8_splitClip_125 : decode cX8_splitClip 125 = .ok (.getfield 95, 3) := DX8_splitClip_7.2.2.1
theorem dX8_splitClip_128 : decode cX8_splitClip 128 = .ok (.invokevirtual 101, 3) := DX8_splitClip_7.2.2.2.1
theorem dX8_splitClip_131 : decode cX8_splitClip 131 = .ok (.aload_n 0, 1) := DX8_splitClip_7.2.2.2.2.1
theorem dX8_splitClip_132 : decode cX8_splitClip 132 = .ok (.dup, 1) := DX8_splitClip_7.2.2.2.2.2.1
theorem dX8_splitClip_133 : decode cX8_splitClip 133 = .ok (.getfield 95, 3) := DX8_splitClip_7.2.2.2.2.2.2.1
theorem dX8_splitClip_136 : decode cX8_splitClip 136 = .ok (.iconst 1, 1) := DX8_splitClip_7.2.2.2.2.2.2.2.1
theorem dX8_splitClip_137 : decode cX8_splitClip 137 = .ok (.iadd, 1) := DX8_splitClip_7.2.2.2.2.2.2.2.2.1
theorem dX8_splitClip_138 : decode cX8_splitClip 138 = .ok (.putfield 95, 3) := DX8_splitClip_7.2.2.2.2.2.2.2.2.2
set_option maxRecDepth 100000 in
theorem DX8_splitClip_8 : decode cX8_splitClip 141 = .ok (.aload_n 0, 1) ∧ decode cX8_splitClip 142 = .ok (.aload_n 0, 1) ∧ decode cX8_splitClip 143 = .ok (.getfield 95, 3) ∧ decode cX8_splitClip 146 = .ok (.iconst 1, 1) ∧ decode cX8_splitClip 147 = .ok (.isub, 1) ∧ decode cX8_splitClip 148 = .ok (.iload_n 3, 1) ∧ decode cX8_splitClip 149 = .ok (.iconst 0, 1) ∧ decode cX8_splitClip 150 = .ok (.invokevirtual 143, 3) ∧ decode cX8_splitClip 153 = .ok (.aload_n 0, 1) ∧ decode cX8_splitClip 154 = .ok (.aload_n 0, 1) := by decide +kernel
theorem dX8_splitClip_141 : decode cX8_splitClip 141 = .ok (.aload_n 0, 1) := DX8_splitClip_8.1
theorem dX8_splitClip_142 : decode cX8_splitClip 142 = .ok (.aload_n 0, 1) := DX8_splitClip_8.2.1
theorem dX8_splitClip_143 : decode cX8_splitClip 143 = .ok (.getfield 95, 3) := DX8_splitClip_8.2.2.1
theorem dX8_splitClip_146 : decode cX8_splitClip 146 = .ok (.iconst 1, 1) := DX8_splitClip_8.2.2.2.1
theorem dX8_splitClip_147 : decode cX8_splitClip 147 = .ok (.isub, 1) := DX8_splitClip_8.2.2.2.2.1
theorem dX8_splitClip_148 : decode cX8_splitClip 148 = .ok (.iload_n 3, 1) := DX8_splitClip_8.2.2.2.2.2.1
theorem dX8_splitClip_149 : decode cX8_splitClip 149 = .ok (.iconst 0, 1) := DX8_splitClip_8.2.2.2.2.2.2.1
theorem dX8_splitClip_150 : decode cX8_splitClip 150 = .ok (.invokevirtual 143, 3) := DX8_splitClip_8.2.2.2.2.2.2.2.1
theorem dX8_splitClip_153 : decode cX8_splitClip 153 = .ok (.aload_n 0, 1) := DX8_splitClip_8.2.2.2.2.2.2.2.2.1
theorem dX8_splitClip_154 : decode cX8_splitClip 154 = .ok (.aload_n 0, 1) := DX8_splitClip_8.2.2.2.2.2.2.2.2.2
set_option maxRecDepth 100000 in
theorem DX8_splitClip_9 : decode cX8_splitClip 155 = .ok (.getfield 95, 3) ∧ decode cX8_splitClip 158 = .ok (.iconst 1, 1) ∧ decode cX8_splitClip 159 = .ok (.isub, 1) ∧ decode cX8_splitClip 160 = .ok (.bipush 6, 2) ∧ decode cX8_splitClip 162 = .ok (.iconst 0, 1) ∧ decode cX8_splitClip 163 = .ok (.invokevirtual 122, 3) ∧ decode cX8_splitClip 166 = .ok (.aload_n 0, 1) ∧ decode cX8_splitClip 167 = .ok (.iload_n 1, 1) ∧ decode cX8_splitClip 168 = .ok (.iconst 0, 1) ∧ decode cX8_splitClip 169 = .ok (.iload 5, 2) := by decide +kernel
theorem dX8_splitClip_155 : decode cX8_splitClip 155 = .ok (.getfield 95, 3) := DX8_splitClip_9.1
theorem dX8_splitClip_158 : decode cX8_splitClip 158 = .ok (.iconst 1, 1) := DX8_splitClip_9.2.1
theorem dX8_splitClip_159 : decode cX8_splitClip 159 = .ok (.isub, 1) := DX8_splitClip_9.2.2.1
theorem dX8_splitClip_160 : decode cX8_splitClip 160 = .ok (.bipush 6, 2) := DX8_splitClip_9.2.2.2.1
theorem dX8_splitClip_162 : decode cX8_splitClip 162 = .ok (.iconst 0, 1) := DX8_splitClip_9.2.2.2.2.1
theorem dX8_splitClip_163 : decode cX8_splitClip 163 = .ok (.invokevirtual 122, 3) := DX8_splitClip_9.2.2.2.2.2.1
theorem dX8_splitClip_166 : decode cX8_splitClip 166 = .ok (.aload_n 0, 1) := DX8_splitClip_9.2.2.2.2.2.2.1
theorem dX8_splitClip_167 : decode cX8_splitClip 167 = .ok (.iload_n 1, 1) := DX8_splitClip_9.2.2.2.2.2.2.2.1
theorem dX8_splitClip_168 : decode cX8_splitClip 168 = .ok (.iconst 0, 1) := DX8_splitClip_9.2.2.2.2.2.2.2.2.1
theorem dX8_splitClip_169 : decode cX8_splitClip 169 = .ok (.iload 5, 2) := DX8_splitClip_9.2.2.2.2.2.2.2.2.2
set_option maxRecDepth 100000 in
theorem DX8_splitClip_10 : decode cX8_splitClip 171 = .ok (.invokevirtual 143, 3) ∧ decode cX8_splitClip 174 = .ok (.aload_n 0, 1) ∧ decode cX8_splitClip 175 = .ok (.iload_n 1, 1) ∧ decode cX8_splitClip 176 = .ok (.bipush 7, 2) ∧ decode cX8_splitClip 178 = .ok (.iconst 0, 1) ∧ decode cX8_splitClip 179 = .ok (.invokevirtual 122, 3) ∧ decode cX8_splitClip 182 = .ok (.aload_n 0, 1) ∧ decode cX8_splitClip 183 = .ok (.aload_n 0, 1) ∧ decode cX8_splitClip 184 = .ok (.getfield 95, 3) ∧ decode cX8_splitClip 187 = .ok (.iconst 1, 1) := by decide +kernel
theorem dX8_splitClip_171 : decode cX8_splitClip 171 = .ok (.invokevirtual 143, 3) := DX8_splitClip_10.1
theorem dX8_splitClip_174 : decode cX8_splitClip 174 = .ok (.aload_n 0, 1) := DX8_splitClip_10.2.1
theorem dX8_splitClip_175 : decode cX8_splitClip 175 = .ok (.iload_n 1, 1) := DX8_splitClip_10.2.2.1
theorem dX8_splitClip_176 : decode cX8_splitClip 176 = .ok (.bipush 7, 2) := DX8_splitClip_10.2.2.2.1
theorem dX8_splitClip_178 : decode cX8_splitClip 178 = .ok (.iconst 0, 1) := DX8_splitClip_10.2.2.2.2.1
theorem dX8_splitClip_179 : decode cX8_splitClip 179 = .ok (.invokevirtual 122, 3) := DX8_splitClip_10.2.2.2.2.2.1
theorem dX8_splitClip_182 : decode cX8_splitClip 182 = .ok (.aload_n 0, 1) := DX8_splitClip_10.2.2.2.2.2.2.1
theorem dX8_splitClip_183 : decode cX8_splitClip 183 = .ok (.aload_n 0, 1) := DX8_splitClip_10.2.2.2.2.2.2.2.1
theorem dX8_splitClip_184 : decode cX8_splitClip 184 = .ok (.getfield 95, 3) := DX8_splitClip_10.2.2.2.2.2.2.2.2.1
theorem dX8_splitClip_187 : decode cX8_splitClip 187 = .ok (.iconst 1, 1) := DX8_splitClip_10.2.2.2.2.2.2.2.2.2
set_option maxRecDepth 100000 in
theorem DX8_splitClip_11 : decode cX8_splitClip 188 = .ok (.isub, 1) ∧ decode cX8_splitClip 189 = .ok (.invokevirtual 126, 3) ∧ decode cX8_splitClip 192 = .ok (.istore 6, 2) ∧ decode cX8_splitClip 194 = .ok (.aload_n 0, 1) ∧ decode cX8_splitClip 195 = .ok (.aload_n 0, 1) ∧ decode cX8_splitClip 196 = .ok (.invokevirtual 129, 3) ∧ decode cX8_splitClip 199 = .ok (.ifCond .eq 7, 3) ∧ decode cX8_splitClip 202 = .ok (.iconst 0, 1) ∧ decode cX8_splitClip 203 = .ok (.goto 4, 3) ∧ decode cX8_splitClip 206 = .ok (.iconst 4, 1) := by decide +kernel
theorem dX8_splitClip_188 : decode cX8_splitClip 188 = .ok (.isub, 1) := DX8_splitClip_11.1
theorem dX8_splitClip_189 : decode cX8_splitClip 189 = .ok (.invokevirtual 126, 3) := DX8_splitClip_11.2.1
theorem dX8_splitClip_192 : decode cX8_splitClip 192 = .ok (.istore 6, 2) := DX8_splitClip_11.2.2.1
theorem dX8_splitClip_194 : decode cX8_splitClip 194 = .ok (.aload_n 0, 1) := DX8_splitClip_11.2.2.2.1
theorem dX8_splitClip_195 : decode cX8_splitClip 195 = .ok (.aload_n 0, 1) := DX8_splitClip_11.2.2.2.2.1
theorem dX8_splitClip_196 : decode cX8_splitClip 196 = .ok (.invokevirtual 129, 3) := DX8_splitClip_11.2.2.2.2.2.1
theorem dX8_splitClip_199 : decode cX8_splitClip 199 = .ok (.ifCond .eq 7, 3) := DX8_splitClip_11.2.2.2.2.2.2.1
theorem dX8_splitClip_202 : decode cX8_splitClip 202 = .ok (.iconst 0, 1) := DX8_splitClip_11.2.2.2.2.2.2.2.1
theorem dX8_splitClip_203 : decode cX8_splitClip 203 = .ok (.goto 4, 3) := DX8_splitClip_11.2.2.2.2.2.2.2.2.1
theorem dX8_splitClip_206 : decode cX8_splitClip 206 = .ok (.iconst 4, 1) := DX8_splitClip_11.2.2.2.2.2.2.2.2.2
set_option maxRecDepth 100000 in
theorem DX8_splitClip_12 : decode cX8_splitClip 207 = .ok (.invokevirtual 73, 3) ∧ decode cX8_splitClip 210 = .ok (.ifCond .eq 5, 3) ∧ decode cX8_splitClip 213 = .ok (.iconst 0, 1) ∧ decode cX8_splitClip 214 = .ok (.ireturn, 1) ∧ decode cX8_splitClip 215 = .ok (.aload_n 0, 1) ∧ decode cX8_splitClip 216 = .ok (.invokevirtual 133, 3) ∧ decode cX8_splitClip 219 = .ok (.iload 6, 2) ∧ decode cX8_splitClip 221 = .ok (.ireturn, 1) := by decide +kernel
theorem dX8_splitClip_207 : decode cX8_splitClip 207 = .ok (.invokevirtual 73, 3) := DX8_splitClip_12.1
theorem dX8_splitClip_210 : decode cX8_splitClip 210 = .ok (.ifCond .eq 5, 3) := DX8_splitClip_12.2.1
theorem dX8_splitClip_213 : decode cX8_splitClip 213 = .ok (.iconst 0, 1) := DX8_splitClip_12.2.2.1
theorem dX8_splitClip_214 : decode cX8_splitClip 214 = .ok (.ireturn, 1) := DX8_splitClip_12.2.2.2.1
theorem dX8_splitClip_215 : decode cX8_splitClip 215 = .ok (.aload_n 0, 1) := DX8_splitClip_12.2.2.2.2.1
theorem dX8_splitClip_216 : decode cX8_splitClip 216 = .ok (.invokevirtual 133, 3) := DX8_splitClip_12.2.2.2.2.2.1
theorem dX8_splitClip_219 : decode cX8_splitClip 219 = .ok (.iload 6, 2) := DX8_splitClip_12.2.2.2.2.2.2.1
theorem dX8_splitClip_221 : decode cX8_splitClip 221 = .ok (.ireturn, 1) := DX8_splitClip_12.2.2.2.2.2.2.2
set_option maxRecDepth 100000 in
theorem DX8_removeClip_0 : decode cX8_removeClip 0 = .ok (.aload_n 0, 1) ∧ decode cX8_removeClip 1 = .ok (.aload_n 0, 1) ∧ decode cX8_removeClip 2 = .ok (.iload_n 1, 1) ∧ decode cX8_removeClip 3 = .ok (.invokevirtual 136, 3) ∧ decode cX8_removeClip 6 = .ok (.ifCond .eq 7, 3) ∧ decode cX8_removeClip 9 = .ok (.iconst 0, 1) ∧ decode cX8_removeClip 10 = .ok (.goto 4, 3) ∧ decode cX8_removeClip 13 = .ok (.iconst 1, 1) ∧ decode cX8_removeClip 14 = .ok (.invokevirtual 73, 3) ∧ decode cX8_removeClip 17 = .ok (.ifCond .eq 5, 3) := by decide +kernel
theorem dX8_removeClip_0 : decode cX8_removeClip 0 = .ok (.aload_n 0, 1) := DX8_removeClip_0.1
theorem dX8_removeClip_1 : decode cX8_removeClip 1 = .ok (.aload_n 0, 1) := DX8_removeClip_0.2.1
theorem dX8_removeClip_2 : decode cX8_removeClip 2 = .ok (.iload_n 1, 1) := DX8_removeClip_0.2.2.1
theorem dX8_removeClip_3 : decode cX8_removeClip 3 = .ok (.invokevirtual 136, 3) := DX8_removeClip_0.2.2.2.1
theorem dX8_removeClip_6 : decode cX8_removeClip 6 = .ok (.ifCond .eq 7, 3) := DX8_removeClip_0.2.2.2.2.1
theorem dX8_removeClip_9 : decode cX8_removeClip 9 = .ok (.iconst 0, 1) := DX8_removeClip_0.2.2.2.2.2.1
theorem dX8_removeClip_10 : decode cX8_removeClip 10 = .ok (.goto 4, 3) := DX8_removeClip_0.2.2.2.2.2.2.1
theorem dX8_removeClip_13 : decode cX8_removeClip 13 = .ok (.iconst 1, 1) := DX8_removeClip_0.2.2.2.2.2.2.2.1
theorem dX8_removeClip_14 : decode cX8_removeClip 14 = .ok (.invokevirtual 73, 3) := DX8_removeClip_0.2.2.2.2.2.2.2.2.1
theorem dX8_removeClip_17 : decode cX8_removeClip 17 = .ok (.ifCond .eq 5, 3) := DX8_removeClip_0.2.2.2.2.2.2.2.2.2
set_option maxRecDepth 100000 in
theorem DX8_removeClip_1 : decode cX8_removeClip 20 = .ok (.iconst 0, 1) ∧ decode cX8_removeClip 21 = .ok (.ireturn, 1) ∧ decode cX8_removeClip 22 = .ok (.aload_n 0, 1) ∧ decode cX8_removeClip 23 = .ok (.invokevirtual 119, 3) ∧ decode cX8_removeClip 26 = .ok (.aload_n 0, 1) ∧ decode cX8_removeClip 27 = .ok (.iload_n 1, 1) ∧ decode cX8_removeClip 28 = .ok (.invokevirtual 146, 3) ∧ decode cX8_removeClip 31 = .ok (.aload_n 0, 1) ∧ decode cX8_removeClip 32 = .ok (.invokevirtual 133, 3) ∧ decode cX8_removeClip 35 = .ok (.aload_n 0, 1) := by decide +kernel
theorem dX8_removeClip_20 : decode cX8_removeClip 20 = .ok (.iconst 0, 1) := DX8_removeClip_1.1
theorem dX8_removeClip_21 : decode cX8_removeClip 21 = .ok (.ireturn, 1) := DX8_removeClip_1.2.1
theorem dX8_removeClip_22 : decode cX8_removeClip 22 = .ok (.aload_n 0, 1) := DX8_removeClip_1.2.2.1
theorem dX8_removeClip_23 : decode cX8_removeClip 23 = .ok (.invokevirtual 119, 3) := DX8_removeClip_1.2.2.2.1
theorem dX8_removeClip_26 : decode cX8_removeClip 26 = .ok (.aload_n 0, 1) := DX8_removeClip_1.2.2.2.2.1
theorem dX8_removeClip_27 : decode cX8_removeClip 27 = .ok (.iload_n 1, 1) := DX8_removeClip_1.2.2.2.2.2.1
theorem dX8_removeClip_28 : decode cX8_removeClip 28 = .ok (.invokevirtual 146, 3) := DX8_removeClip_1.2.2.2.2.2.2.1
theorem dX8_removeClip_31 : decode cX8_removeClip 31 = .ok (.aload_n 0, 1) := DX8_removeClip_1.2.2.2.2.2.2.2.1
theorem dX8_removeClip_32 : decode cX8_removeClip 32 = .ok (.invokevirtual 133, 3) := DX8_removeClip_1.2.2.2.2.2.2.2.2.1
theorem dX8_removeClip_35 : decode cX8_removeClip 35 = .ok (.aload_n 0, 1) := DX8_removeClip_1.2.2.2.2.2.2.2.2.2
set_option maxRecDepth 100000 in
theorem DX8_removeClip_2 : decode cX8_removeClip 36 = .ok (.getfield 95, 3) ∧ decode cX8_removeClip 39 = .ok (.ireturn, 1) := by decide +kernel
theorem dX8_removeClip_36 : decode cX8_removeClip 36 = .ok (.getfield 95, 3) := DX8_removeClip_2.1
theorem dX8_removeClip_39 : decode cX8_removeClip 39 = .ok (.ireturn, 1) := DX8_removeClip_2.2
set_option maxRecDepth 100000 in
theorem DX8_deletes_0 : decode cX8_deletes 0 = .ok (.aload_n 0, 1) ∧ decode cX8_deletes 1 = .ok (.iload_n 1, 1) ∧ decode cX8_deletes 2 = .ok (.iconst 2, 1) ∧ decode cX8_deletes 3 = .ok (.invokevirtual 98, 3) ∧ decode cX8_deletes 6 = .ok (.istore 4, 2) ∧ decode cX8_deletes 8 = .ok (.aload_n 0, 1) ∧ decode cX8_deletes 9 = .ok (.iload_n 1, 1) ∧ decode cX8_deletes 10 = .ok (.invokevirtual 108, 3) ∧ decode cX8_deletes 13 = .ok (.istore 5, 2) ∧ decode cX8_deletes 15 = .ok (.iload 4, 2) := by decide +kernel
theorem dX8_deletes_0 : decode cX8_deletes 0 = .ok (.aload_n 0, 1) := DX8_deletes_0.1
theorem dX8_deletes_1 : decode cX8_deletes 1 = .ok (.iload_n 1, 1) := DX8_deletes_0.2.1
theorem dX8_deletes_2 : decode cX8_deletes 2 = .ok (.iconst 2, 1) := DX8_deletes_0.2.2.1
theorem dX8_deletes_3 : decode cX8_deletes 3 = .ok (.invokevirtual 98, 3) := DX8_deletes_0.2.2.2.1
theorem dX8_deletes_6 : decode cX8_deletes 6 = .ok (.istore 4, 2) := DX8_deletes_0.2.2.2.2.1
theorem dX8_deletes_8 : decode cX8_deletes 8 = .ok (.aload_n 0, 1) := DX8_deletes_0.2.2.2.2.2.1
theorem dX8_deletes_9 : decode cX8_deletes 9 = .ok (.iload_n 1, 1) := DX8_deletes_0.2.2.2.2.2.2.1
theorem dX8_deletes_10 : decode cX8_deletes 10 = .ok (.invokevirtual 108, 3) := DX8_deletes_0.2.2.2.2.2.2.2.1
theorem dX8_deletes_13 : decode cX8_deletes 13 = .ok (.istore 5, 2) := DX8_deletes_0.2.2.2.2.2.2.2.2.1
theorem dX8_deletes_15 : decode cX8_deletes 15 = .ok (.iload 4, 2) := DX8_deletes_0.2.2.2.2.2.2.2.2.2
set_option maxRecDepth 100000 in
theorem DX8_deletes_1 : decode cX8_deletes 17 = .ok (.iload_n 2, 1) ∧ decode cX8_deletes 18 = .ok (.if_icmp .ge 22, 3) ∧ decode cX8_deletes 21 = .ok (.iload 5, 2) ∧ decode cX8_deletes 23 = .ok (.iload_n 2, 1) ∧ decode cX8_deletes 24 = .ok (.if_icmp .le 16, 3) ∧ decode cX8_deletes 27 = .ok (.aload_n 0, 1) ∧ decode cX8_deletes 28 = .ok (.iload_n 1, 1) ∧ decode cX8_deletes 29 = .ok (.iconst 0, 1) ∧ decode cX8_deletes 30 = .ok (.iload 5, 2) ∧ decode cX8_deletes 32 = .ok (.iload_n 2, 1) := by decide +kernel
theorem dX8_deletes_17 : decode cX8_deletes 17 = .ok (.iload_n 2, 1) := DX8_deletes_1.1
theorem dX8_deletes_18 : decode cX8_deletes 18 = .ok (.if_icmp .ge 22, 3) := DX8_deletes_1.2.1
theorem dX8_deletes_21 : decode cX8_deletes 21 = .ok (.iload 5, 2) := DX8_deletes_1.2.2.1
theorem dX8_deletes_23 : decode cX8_deletes 23 = .ok (.iload_n 2, 1) := DX8_deletes_1.2.2.2.1
theorem dX8_deletes_24 : decode cX8_deletes 24 = .ok (.if_icmp .le 16, 3) := DX8_deletes_1.2.2.2.2.1
theorem dX8_deletes_27 : decode cX8_deletes 27 = .ok (.aload_n 0, 1) := DX8_deletes_1.2.2.2.2.2.1
theorem dX8_deletes_28 : decode cX8_deletes 28 = .ok (.iload_n 1, 1) := DX8_deletes_1.2.2.2.2.2.2.1
theorem dX8_deletes_29 : decode cX8_deletes 29 = .ok (.iconst 0, 1) := DX8_deletes_1.2.2.2.2.2.2.2.1
theorem dX8_deletes_30 : decode cX8_deletes 30 = .ok (.iload 5, 2) := DX8_deletes_1.2.2.2.2.2.2.2.2.1
theorem dX8_deletes_32 : decode cX8_deletes 32 = .ok (.iload_n 2, 1) := DX8_deletes_1.2.2.2.2.2.2.2.2.2
set_option maxRecDepth 100000 in
theorem DX8_deletes_2 : decode cX8_deletes 33 = .ok (.isub, 1) ∧ decode cX8_deletes 34 = .ok (.invokevirtual 143, 3) ∧ decode cX8_deletes 37 = .ok (.goto 25, 3) ∧ decode cX8_deletes 40 = .ok (.iload 4, 2) ∧ decode cX8_deletes 42 = .ok (.iload_n 2, 1) ∧ decode cX8_deletes 43 = .ok (.if_icmp .lt 19, 3) ∧ decode cX8_deletes 46 = .ok (.iload 4, 2) ∧ decode cX8_deletes 48 = .ok (.iload_n 3, 1) ∧ decode cX8_deletes 49 = .ok (.if_icmp .ge 13, 3) ∧ decode cX8_deletes 52 = .ok (.aload_n 0, 1) := by decide +kernel
theorem dX8_deletes_33 : decode cX8_deletes 33 = .ok (.isub, 1) := DX8_deletes_2.1
theorem dX8_deletes_34 : decode cX8_deletes 34 = .ok (.invokevirtual 143, 3) := DX8_deletes_2.2.1
theorem dX8_deletes_37 : decode cX8_deletes 37 = .ok (.goto 25, 3) := DX8_deletes_2.2.2.1
theorem dX8_deletes_40 : decode cX8_deletes 40 = .ok (.iload 4, 2) := DX8_deletes_2.2.2.2.1
theorem dX8_deletes_42 : decode cX8_deletes 42 = .ok (.iload_n 2, 1) := DX8_deletes_2.2.2.2.2.1
theorem dX8_deletes_43 : decode cX8_deletes 43 = .ok (.if_icmp .lt 19, 3) := DX8_deletes_2.2.2.2.2.2.1
theorem dX8_deletes_46 : decode cX8_deletes 46 = .ok (.iload 4, 2) := DX8_deletes_2.2.2.2.2.2.2.1
theorem dX8_deletes_48 : decode cX8_deletes 48 = .ok (.iload_n 3, 1) := DX8_deletes_2.2.2.2.2.2.2.2.1
theorem dX8_deletes_49 : decode cX8_deletes 49 = .ok (.if_icmp .ge 13, 3) := DX8_deletes_2.2.2.2.2.2.2.2.2.1
theorem dX8_deletes_52 : decode cX8_deletes 52 = .ok (.aload_n 0, 1) := DX8_deletes_2.2.2.2.2.2.2.2.2.2
set_option maxRecDepth 100000 in
theorem DX8_deletes_3 : decode cX8_deletes 53 = .ok (.iload_n 1, 1) ∧ decode cX8_deletes 54 = .ok (.iload_n 3, 1) ∧ decode cX8_deletes 55 = .ok (.iload 4, 2) ∧ decode cX8_deletes 57 = .ok (.isub, 1) ∧ decode cX8_deletes 58 = .ok (.iconst 0, 1) ∧ decode cX8_deletes 59 = .ok (.invokevirtual 143, 3) ∧ decode cX8_deletes 62 = .ok (.aload_n 0, 1) ∧ decode cX8_deletes 63 = .ok (.iload_n 1, 1) ∧ decode cX8_deletes 64 = .ok (.iconst 2, 1) ∧ decode cX8_deletes 65 = .ok (.invokevirtual 98, 3) := by decide +kernel
theorem dX8_deletes_53 : decode cX8_deletes 53 = .ok (.iload_n 1, 1) := DX8_deletes_3.1
theorem dX8_deletes_54 : decode cX8_deletes 54 = .ok (.iload_n 3, 1) := DX8_deletes_3.2.1
theorem dX8_deletes_55 : decode cX8_deletes 55 = .ok (.iload 4, 2) := DX8_deletes_3.2.2.1
theorem dX8_deletes_57 : decode cX8_deletes 57 = .ok (.isub, 1) := DX8_deletes_3.2.2.2.1
theorem dX8_deletes_58 : decode cX8_deletes 58 = .ok (.iconst 0, 1) := DX8_deletes_3.2.2.2.2.1
theorem dX8_deletes_59 : decode cX8_deletes 59 = .ok (.invokevirtual 143, 3) := DX8_deletes_3.2.2.2.2.2.1
theorem dX8_deletes_62 : decode cX8_deletes 62 = .ok (.aload_n 0, 1) := DX8_deletes_3.2.2.2.2.2.2.1
theorem dX8_deletes_63 : decode cX8_deletes 63 = .ok (.iload_n 1, 1) := DX8_deletes_3.2.2.2.2.2.2.2.1
theorem dX8_deletes_64 : decode cX8_deletes 64 = .ok (.iconst 2, 1) := DX8_deletes_3.2.2.2.2.2.2.2.2.1
theorem dX8_deletes_65 : decode cX8_deletes 65 = .ok (.invokevirtual 98, 3) := DX8_deletes_3.2.2.2.2.2.2.2.2.2
set_option maxRecDepth 100000 in
theorem DX8_deletes_4 : decode cX8_deletes 68 = .ok (.iload_n 3, 1) ∧ decode cX8_deletes 69 = .ok (.if_icmp .lt 19, 3) ∧ decode cX8_deletes 72 = .ok (.aload_n 0, 1) ∧ decode cX8_deletes 73 = .ok (.iload_n 1, 1) ∧ decode cX8_deletes 74 = .ok (.iconst 2, 1) ∧ decode cX8_deletes 75 = .ok (.aload_n 0, 1) ∧ decode cX8_deletes 76 = .ok (.iload_n 1, 1) ∧ decode cX8_deletes 77 = .ok (.iconst 2, 1) ∧ decode cX8_deletes 78 = .ok (.invokevirtual 98, 3) ∧ decode cX8_deletes 81 = .ok (.iload_n 3, 1) := by decide +kernel
theorem dX8_deletes_68 : decode cX8_deletes 68 = .ok (.iload_n 3, 1) := DX8_deletes_4.1
theorem dX8_deletes_69 : decode cX8_deletes 69 = .ok (.if_icmp .lt 19, 3) := DX8_deletes_4.2.1
theorem dX8_deletes_72 : decode cX8_deletes 72 = .ok (.aload_n 0, 1) := DX8_deletes_4.2.2.1
theorem dX8_deletes_73 : decode cX8_deletes 73 = .ok (.iload_n 1, 1) := DX8_deletes_4.2.2.2.1
theorem dX8_deletes_74 : decode cX8_deletes 74 = .ok (.iconst 2, 1) := DX8_deletes_4.2.2.2.2.1
theorem dX8_deletes_75 : decode cX8_deletes 75 = .ok (.aload_n 0, 1) := DX8_deletes_4.2.2.2.2.2.1
theorem dX8_deletes_76 : decode cX8_deletes 76 = .ok (.iload_n 1, 1) := DX8_deletes_4.2.2.2.2.2.2.1
theorem dX8_deletes_77 : decode cX8_deletes 77 = .ok (.iconst 2, 1) := DX8_deletes_4.2.2.2.2.2.2.2.1
theorem dX8_deletes_78 : decode cX8_deletes 78 = .ok (.invokevirtual 98, 3) := DX8_deletes_4.2.2.2.2.2.2.2.2.1
theorem dX8_deletes_81 : decode cX8_deletes 81 = .ok (.iload_n 3, 1) := DX8_deletes_4.2.2.2.2.2.2.2.2.2
set_option maxRecDepth 100000 in
theorem DX8_deletes_5 : decode cX8_deletes 82 = .ok (.iload_n 2, 1) ∧ decode cX8_deletes 83 = .ok (.isub, 1) ∧ decode cX8_deletes 84 = .ok (.isub, 1) ∧ decode cX8_deletes 85 = .ok (.invokevirtual 122, 3) ∧ decode cX8_deletes 88 = .ok (.aload_n 0, 1) ∧ decode cX8_deletes 89 = .ok (.iload_n 1, 1) ∧ decode cX8_deletes 90 = .ok (.iconst 3, 1) ∧ decode cX8_deletes 91 = .ok (.invokevirtual 98, 3) ∧ decode cX8_deletes 94 = .ok (.sipush 4000, 3) ∧ decode cX8_deletes 97 = .ok (.if_icmp .ge 7, 3) := by decide +kernel
theorem dX8_deletes_82 : decode cX8_deletes 82 = .ok (.iload_n 2, 1) := DX8_deletes_5.1
theorem dX8_deletes_83 : decode cX8_deletes 83 = .ok (.isub, 1) := DX8_deletes_5.2.1
theorem dX8_deletes_84 : decode cX8_deletes 84 = .ok (.isub, 1) := DX8_deletes_5.2.2.1
theorem dX8_deletes_85 : decode cX8_deletes 85 = .ok (.invokevirtual 122, 3) := DX8_deletes_5.2.2.2.1
theorem dX8_deletes_88 : decode cX8_deletes 88 = .ok (.aload_n 0, 1) := DX8_deletes_5.2.2.2.2.1
theorem dX8_deletes_89 : decode cX8_deletes 89 = .ok (.iload_n 1, 1) := DX8_deletes_5.2.2.2.2.2.1
theorem dX8_deletes_90 : decode cX8_deletes 90 = .ok (.iconst 3, 1) := DX8_deletes_5.2.2.2.2.2.2.1
theorem dX8_deletes_91 : decode cX8_deletes 91 = .ok (.invokevirtual 98, 3) := DX8_deletes_5.2.2.2.2.2.2.2.1
theorem dX8_deletes_94 : decode cX8_deletes 94 = .ok (.sipush 4000, 3) := DX8_deletes_5.2.2.2.2.2.2.2.2.1
theorem dX8_deletes_97 : decode cX8_deletes 97 = .ok (.if_icmp .ge 7, 3) := DX8_deletes_5.2.2.2.2.2.2.2.2.2
set_option maxRecDepth 100000 in
theorem DX8_deletes_6 : decode cX8_deletes 100 = .ok (.iconst 1, 1) ∧ decode cX8_deletes 101 = .ok (.goto 4, 3) ∧ decode cX8_deletes 104 = .ok (.iconst 0, 1) ∧ decode cX8_deletes 105 = .ok (.ireturn, 1) := by decide +kernel
theorem dX8_deletes_100 : decode cX8_deletes 100 = .ok (.iconst 1, 1) := DX8_deletes_6.1
theorem dX8_deletes_101 : decode cX8_deletes 101 = .ok (.goto 4, 3) := DX8_deletes_6.2.1
theorem dX8_deletes_104 : decode cX8_deletes 104 = .ok (.iconst 0, 1) := DX8_deletes_6.2.2.1
theorem dX8_deletes_105 : decode cX8_deletes 105 = .ok (.ireturn, 1) := DX8_deletes_6.2.2.2
set_option maxRecDepth 100000 in
theorem DX8_deleteTime_0 : decode cX8_deleteTime 0 = .ok (.iload_n 3, 1) ∧ decode cX8_deleteTime 1 = .ok (.i2l, 1) ∧ decode cX8_deleteTime 2 = .ok (.lconst 1, 1) ∧ decode cX8_deleteTime 3 = .ok (.ldc2_w 68, 3) ∧ decode cX8_deleteTime 6 = .ok (.invokestatic 45, 3) ∧ decode cX8_deleteTime 9 = .ok (.ifCond .eq 20, 3) ∧ decode cX8_deleteTime 12 = .ok (.iload_n 2, 1) ∧ decode cX8_deleteTime 13 = .ok (.i2l, 1) ∧ decode cX8_deleteTime 14 = .ok (.lconst 0, 1) ∧ decode cX8_deleteTime 15 = .ok (.iload_n 3, 1) := by decide +kernel
theorem dX8_deleteTime_0 : decode cX8_deleteTime 0 = .ok (.iload_n 3, 1) := DX8_deleteTime_0.1
theorem dX8_deleteTime_1 : decode cX8_deleteTime 1 = .ok (.i2l, 1) := DX8_deleteTime_0.2.1
theorem dX8_deleteTime_2 : decode cX8_deleteTime 2 = .ok (.lconst 1, 1) := DX8_deleteTime_0.2.2.1
theorem dX8_deleteTime_3 : decode cX8_deleteTime 3 = .ok (.ldc2_w 68, 3) := DX8_deleteTime_0.2.2.2.1
theorem dX8_deleteTime_6 : decode cX8_deleteTime 6 = .ok (.invokestatic 45, 3) := DX8_deleteTime_0.2.2.2.2.1
theorem dX8_deleteTime_9 : decode cX8_deleteTime 9 = .ok (.ifCond .eq 20, 3) := DX8_deleteTime_0.2.2.2.2.2.1
theorem dX8_deleteTime_12 : decode cX8_deleteTime 12 = .ok (.iload_n 2, 1) := DX8_deleteTime_0.2.2.2.2.2.2.1
theorem dX8_deleteTime_13 : decode cX8_deleteTime 13 = .ok (.i2l, 1) := DX8_deleteTime_0.2.2.2.2.2.2.2.1
theorem dX8_deleteTime_14 : decode cX8_deleteTime 14 = .ok (.lconst 0, 1) := DX8_deleteTime_0.2.2.2.2.2.2.2.2.1
theorem dX8_deleteTime_15 : decode cX8_deleteTime 15 = .ok (.iload_n 3, 1) := DX8_deleteTime_0.2.2.2.2.2.2.2.2.2
set_option maxRecDepth 100000 in
theorem DX8_deleteTime_1 : decode cX8_deleteTime 16 = .ok (.iconst 1, 1) ∧ decode cX8_deleteTime 17 = .ok (.isub, 1) ∧ decode cX8_deleteTime 18 = .ok (.i2l, 1) ∧ decode cX8_deleteTime 19 = .ok (.invokestatic 45, 3) ∧ decode cX8_deleteTime 22 = .ok (.ifCond .eq 7, 3) ∧ decode cX8_deleteTime 25 = .ok (.iconst 1, 1) ∧ decode cX8_deleteTime 26 = .ok (.goto 4, 3) ∧ decode cX8_deleteTime 29 = .ok (.iconst 0, 1) ∧ decode cX8_deleteTime 30 = .ok (.istore 4, 2) ∧ decode cX8_deleteTime 32 = .ok (.iload_n 1, 1) := by decide +kernel
theorem dX8_deleteTime_16 : decode cX8_deleteTime 16 = .ok (.iconst 1, 1) := DX8_deleteTime_1.1
theorem dX8_deleteTime_17 : decode cX8_deleteTime 17 = .ok (.isub, 1) := DX8_deleteTime_1.2.1
theorem dX8_deleteTime_18 : decode cX8_deleteTime 18 = .ok (.i2l, 1) := DX8_deleteTime_1.2.2.1
theorem dX8_deleteTime_19 : decode cX8_deleteTime 19 = .ok (.invokestatic 45, 3) := DX8_deleteTime_1.2.2.2.1
theorem dX8_deleteTime_22 : decode cX8_deleteTime 22 = .ok (.ifCond .eq 7, 3) := DX8_deleteTime_1.2.2.2.2.1
theorem dX8_deleteTime_25 : decode cX8_deleteTime 25 = .ok (.iconst 1, 1) := DX8_deleteTime_1.2.2.2.2.2.1
theorem dX8_deleteTime_26 : decode cX8_deleteTime 26 = .ok (.goto 4, 3) := DX8_deleteTime_1.2.2.2.2.2.2.1
theorem dX8_deleteTime_29 : decode cX8_deleteTime 29 = .ok (.iconst 0, 1) := DX8_deleteTime_1.2.2.2.2.2.2.2.1
theorem dX8_deleteTime_30 : decode cX8_deleteTime 30 = .ok (.istore 4, 2) := DX8_deleteTime_1.2.2.2.2.2.2.2.2.1
theorem dX8_deleteTime_32 : decode cX8_deleteTime 32 = .ok (.iload_n 1, 1) := DX8_deleteTime_1.2.2.2.2.2.2.2.2.2
set_option maxRecDepth 100000 in
theorem DX8_deleteTime_2 : decode cX8_deleteTime 33 = .ok (.invokestatic 111, 3) ∧ decode cX8_deleteTime 36 = .ok (.ifCond .eq 8, 3) ∧ decode cX8_deleteTime 39 = .ok (.iload 4, 2) ∧ decode cX8_deleteTime 41 = .ok (.ifCond .ne 28, 3) ∧ decode cX8_deleteTime 44 = .ok (.aload_n 0, 1) ∧ decode cX8_deleteTime 45 = .ok (.iload_n 1, 1) ∧ decode cX8_deleteTime 46 = .ok (.invokestatic 111, 3) ∧ decode cX8_deleteTime 49 = .ok (.ifCond .eq 7, 3) ∧ decode cX8_deleteTime 52 = .ok (.iconst 2, 1) ∧ decode cX8_deleteTime 53 = .ok (.goto 4, 3) := by decide +kernel
theorem dX8_deleteTime_33 : decode cX8_deleteTime 33 = .ok (.invokestatic 111, 3) := DX8_deleteTime_2.1
theorem dX8_deleteTime_36 : decode cX8_deleteTime 36 = .ok (.ifCond .eq 8, 3) := DX8_deleteTime_2.2.1
theorem dX8_deleteTime_39 : decode cX8_deleteTime 39 = .ok (.iload 4, 2) := DX8_deleteTime_2.2.2.1
theorem dX8_deleteTime_41 : decode cX8_deleteTime 41 = .ok (.ifCond .ne 28, 3) := DX8_deleteTime_2.2.2.2.1
theorem dX8_deleteTime_44 : decode cX8_deleteTime 44 = .ok (.aload_n 0, 1) := DX8_deleteTime_2.2.2.2.2.1
theorem dX8_deleteTime_45 : decode cX8_deleteTime 45 = .ok (.iload_n 1, 1) := DX8_deleteTime_2.2.2.2.2.2.1
theorem dX8_deleteTime_46 : decode cX8_deleteTime 46 = .ok (.invokestatic 111, 3) := DX8_deleteTime_2.2.2.2.2.2.2.1
theorem dX8_deleteTime_49 : decode cX8_deleteTime 49 = .ok (.ifCond .eq 7, 3) := DX8_deleteTime_2.2.2.2.2.2.2.2.1
theorem dX8_deleteTime_52 : decode cX8_deleteTime 52 = .ok (.iconst 2, 1) := DX8_deleteTime_2.2.2.2.2.2.2.2.2.1
theorem dX8_deleteTime_53 : decode cX8_deleteTime 53 = .ok (.goto 4, 3) := DX8_deleteTime_2.2.2.2.2.2.2.2.2.2
set_option maxRecDepth 100000 in
theorem DX8_deleteTime_3 : decode cX8_deleteTime 56 = .ok (.iconst 1, 1) ∧ decode cX8_deleteTime 57 = .ok (.invokevirtual 51, 3) ∧ decode cX8_deleteTime 60 = .ok (.ifCond .eq 7, 3) ∧ decode cX8_deleteTime 63 = .ok (.iconst 0, 1) ∧ decode cX8_deleteTime 64 = .ok (.goto 4, 3) ∧ decode cX8_deleteTime 67 = .ok (.iconst (-1), 1) ∧ decode cX8_deleteTime 68 = .ok (.ireturn, 1) ∧ decode cX8_deleteTime 69 = .ok (.aload_n 0, 1) ∧ decode cX8_deleteTime 70 = .ok (.invokevirtual 119, 3) ∧ decode cX8_deleteTime 73 = .ok (.iconst 0, 1) := by decide +kernel
theorem dX8_deleteTime_56 : decode cX8_deleteTime 56 = .ok (.iconst 1, 1) := DX8_deleteTime_3.1
theorem dX8_deleteTime_57 : decode cX8_deleteTime 57 = .ok (.invokevirtual 51, 3) := DX8_deleteTime_3.2.1
theorem dX8_deleteTime_60 : decode cX8_deleteTime 60 = .ok (.ifCond .eq 7, 3) := DX8_deleteTime_3.2.2.1
theorem dX8_deleteTime_63 : decode cX8_deleteTime 63 = .ok (.iconst 0, 1) := DX8_deleteTime_3.2.2.2.1
theorem dX8_deleteTime_64 : decode cX8_deleteTime 64 = .ok (.goto 4, 3) := DX8_deleteTime_3.2.2.2.2.1
theorem dX8_deleteTime_67 : decode cX8_deleteTime 67 = .ok (.iconst (-1), 1) := DX8_deleteTime_3.2.2.2.2.2.1
theorem dX8_deleteTime_68 : decode cX8_deleteTime 68 = .ok (.ireturn, 1) := DX8_deleteTime_3.2.2.2.2.2.2.1
theorem dX8_deleteTime_69 : decode cX8_deleteTime 69 = .ok (.aload_n 0, 1) := DX8_deleteTime_3.2.2.2.2.2.2.2.1
theorem dX8_deleteTime_70 : decode cX8_deleteTime 70 = .ok (.invokevirtual 119, 3) := DX8_deleteTime_3.2.2.2.2.2.2.2.2.1
theorem dX8_deleteTime_73 : decode cX8_deleteTime 73 = .ok (.iconst 0, 1) := DX8_deleteTime_3.2.2.2.2.2.2.2.2.2
set_option maxRecDepth 100000 in
theorem DX8_deleteTime_4 : decode cX8_deleteTime 74 = .ok (.istore 5, 2) ∧ decode cX8_deleteTime 76 = .ok (.aload_n 0, 1) ∧ decode cX8_deleteTime 77 = .ok (.getfield 95, 3) ∧ decode cX8_deleteTime 80 = .ok (.iconst 1, 1) ∧ decode cX8_deleteTime 81 = .ok (.isub, 1) ∧ decode cX8_deleteTime 82 = .ok (.istore 6, 2) ∧ decode cX8_deleteTime 84 = .ok (.iload 6, 2) ∧ decode cX8_deleteTime 86 = .ok (.ifCond .lt 50, 3) ∧ decode cX8_deleteTime 89 = .ok (.aload_n 0, 1) ∧ decode cX8_deleteTime 90 = .ok (.iload 6, 2) := by decide +kernel
theorem dX8_deleteTime_74 : decode cX8_deleteTime 74 = .ok (.istore 5, 2) := DX8_deleteTime_4.1
theorem dX8_deleteTime_76 : decode cX8_deleteTime 76 = .ok (.aload_n 0, 1) := DX8_deleteTime_4.2.1
theorem dX8_deleteTime_77 : decode cX8_deleteTime 77 = .ok (.getfield 95, 3) := DX8_deleteTime_4.2.2.1
theorem dX8_deleteTime_80 : decode cX8_deleteTime 80 = .ok (.iconst 1, 1) := DX8_deleteTime_4.2.2.2.1
theorem dX8_deleteTime_81 : decode cX8_deleteTime 81 = .ok (.isub, 1) := DX8_deleteTime_4.2.2.2.2.1
theorem dX8_deleteTime_82 : decode cX8_deleteTime 82 = .ok (.istore 6, 2) := DX8_deleteTime_4.2.2.2.2.2.1
theorem dX8_deleteTime_84 : decode cX8_deleteTime 84 = .ok (.iload 6, 2) := DX8_deleteTime_4.2.2.2.2.2.2.1
theorem dX8_deleteTime_86 : decode cX8_deleteTime 86 = .ok (.ifCond .lt 50, 3) := DX8_deleteTime_4.2.2.2.2.2.2.2.1
theorem dX8_deleteTime_89 : decode cX8_deleteTime 89 = .ok (.aload_n 0, 1) := DX8_deleteTime_4.2.2.2.2.2.2.2.2.1
theorem dX8_deleteTime_90 : decode cX8_deleteTime 90 = .ok (.iload 6, 2) := DX8_deleteTime_4.2.2.2.2.2.2.2.2.2
set_option maxRecDepth 100000 in
theorem DX8_deleteTime_5 : decode cX8_deleteTime 92 = .ok (.iconst 0, 1) ∧ decode cX8_deleteTime 93 = .ok (.invokevirtual 98, 3) ∧ decode cX8_deleteTime 96 = .ok (.iload_n 1, 1) ∧ decode cX8_deleteTime 97 = .ok (.if_icmp .ne 33, 3) ∧ decode cX8_deleteTime 100 = .ok (.aload_n 0, 1) ∧ decode cX8_deleteTime 101 = .ok (.iload 6, 2) ∧ decode cX8_deleteTime 103 = .ok (.iconst 2, 1) ∧ decode cX8_deleteTime 104 = .ok (.invokevirtual 98, 3) ∧ decode cX8_deleteTime 107 = .ok (.iload_n 2, 1) ∧ decode cX8_deleteTime 108 = .ok (.if_icmp .lt 22, 3) := by decide +kernel
theorem dX8_deleteTime_92 : decode cX8_deleteTime 92 = .ok (.iconst 0, 1) := DX8_deleteTime_5.1
theorem dX8_deleteTime_93 : decode cX8_deleteTime 93 = .ok (.invokevirtual 98, 3) := DX8_deleteTime_5.2.1
theorem dX8_deleteTime_96 : decode cX8_deleteTime 96 = .ok (.iload_n 1, 1) := DX8_deleteTime_5.2.2.1
theorem dX8_deleteTime_97 : decode cX8_deleteTime 97 = .ok (.if_icmp .ne 33, 3) := DX8_deleteTime_5.2.2.2.1
theorem dX8_deleteTime_100 : decode cX8_deleteTime 100 = .ok (.aload_n 0, 1) := DX8_deleteTime_5.2.2.2.2.1
theorem dX8_deleteTime_101 : decode cX8_deleteTime 101 = .ok (.iload 6, 2) := DX8_deleteTime_5.2.2.2.2.2.1
theorem dX8_deleteTime_103 : decode cX8_deleteTime 103 = .ok (.iconst 2, 1) := DX8_deleteTime_5.2.2.2.2.2.2.1
theorem dX8_deleteTime_104 : decode cX8_deleteTime 104 = .ok (.invokevirtual 98, 3) := DX8_deleteTime_5.2.2.2.2.2.2.2.1
theorem dX8_deleteTime_107 : decode cX8_deleteTime 107 = .ok (.iload_n 2, 1) := DX8_deleteTime_5.2.2.2.2.2.2.2.2.1
theorem dX8_deleteTime_108 : decode cX8_deleteTime 108 = .ok (.if_icmp .lt 22, 3) := DX8_deleteTime_5.2.2.2.2.2.2.2.2.2
set_option maxRecDepth 100000 in
theorem DX8_deleteTime_6 : decode cX8_deleteTime 111 = .ok (.aload_n 0, 1) ∧ decode cX8_deleteTime 112 = .ok (.iload 6, 2) ∧ decode cX8_deleteTime 114 = .ok (.invokevirtual 108, 3) ∧ decode cX8_deleteTime 117 = .ok (.iload_n 3, 1) ∧ decode cX8_deleteTime 118 = .ok (.if_icmp .gt 12, 3) ∧ decode cX8_deleteTime 121 = .ok (.aload_n 0, 1) ∧ decode cX8_deleteTime 122 = .ok (.iload 6, 2) ∧ decode cX8_deleteTime 124 = .ok (.invokevirtual 146, 3) ∧ decode cX8_deleteTime 127 = .ok (.iinc 5 1, 3) ∧ decode cX8_deleteTime 130 = .ok (.iinc 6 (-1), 3) := by decide +kernel
theorem dX8_deleteTime_111 : decode cX8_deleteTime 111 = .ok (.aload_n 0, 1) := DX8_deleteTime_6.1
theorem dX8_deleteTime_112 : decode cX8_deleteTime 112 = .ok (.iload 6, 2) := DX8_deleteTime_6.2.1
theorem dX8_deleteTime_114 : decode cX8_deleteTime 114 = .ok (.invokevirtual 108, 3) := DX8_deleteTime_6.2.2.1
theorem dX8_deleteTime_117 : decode cX8_deleteTime 117 = .ok (.iload_n 3, 1) := DX8_deleteTime_6.2.2.2.1
theorem dX8_deleteTime_118 : decode cX8_deleteTime 118 = .ok (.if_icmp .gt 12, 3) := DX8_deleteTime_6.2.2.2.2.1
theorem dX8_deleteTime_121 : decode cX8_deleteTime 121 = .ok (.aload_n 0, 1) := DX8_deleteTime_6.2.2.2.2.2.1
theorem dX8_deleteTime_122 : decode cX8_deleteTime 122 = .ok (.iload 6, 2) := DX8_deleteTime_6.2.2.2.2.2.2.1
theorem dX8_deleteTime_124 : decode cX8_deleteTime 124 = .ok (.invokevirtual 146, 3) := DX8_deleteTime_6.2.2.2.2.2.2.2.1
theorem dX8_deleteTime_127 : decode cX8_deleteTime 127 = .ok (.iinc 5 1, 3) := DX8_deleteTime_6.2.2.2.2.2.2.2.2.1
theorem dX8_deleteTime_130 : decode cX8_deleteTime 130 = .ok (.iinc 6 (-1), 3) := DX8_deleteTime_6.2.2.2.2.2.2.2.2.2
set_option maxRecDepth 100000 in
theorem DX8_deleteTime_7 : decode cX8_deleteTime 133 = .ok (.goto (-49), 3) ∧ decode cX8_deleteTime 136 = .ok (.iconst 1, 1) ∧ decode cX8_deleteTime 137 = .ok (.istore 6, 2) ∧ decode cX8_deleteTime 139 = .ok (.iconst 0, 1) ∧ decode cX8_deleteTime 140 = .ok (.istore 7, 2) ∧ decode cX8_deleteTime 142 = .ok (.iload 7, 2) ∧ decode cX8_deleteTime 144 = .ok (.aload_n 0, 1) ∧ decode cX8_deleteTime 145 = .ok (.getfield 95, 3) ∧ decode cX8_deleteTime 148 = .ok (.if_icmp .ge 43, 3) ∧ decode cX8_deleteTime 151 = .ok (.aload_n 0, 1) := by decide +kernel
theorem dX8_deleteTime_133 : decode cX8_deleteTime 133 = .ok (.goto (-49), 3) := DX8_deleteTime_7.1
theorem dX8_deleteTime_136 : decode cX8_deleteTime 136 = .ok (.iconst 1, 1) := DX8_deleteTime_7.2.1
theorem dX8_deleteTime_137 : decode cX8_deleteTime 137 = .ok (.istore 6, 2) := DX8_deleteTime_7.2.2.1
theorem dX8_deleteTime_139 : decode cX8_deleteTime 139 = .ok (.iconst 0, 1) := DX8_deleteTime_7.2.2.2.1
theorem dX8_deleteTime_140 : decode cX8_deleteTime 140 = .ok (.istore 7, 2) := DX8_deleteTime_7.2.2.2.2.1
theorem dX8_deleteTime_142 : decode cX8_deleteTime 142 = .ok (.iload 7, 2) := DX8_deleteTime_7.2.2.2.2.2.1
theorem dX8_deleteTime_144 : decode cX8_deleteTime 144 = .ok (.aload_n 0, 1) := DX8_deleteTime_7.2.2.2.2.2.2.1
theorem dX8_deleteTime_145 : decode cX8_deleteTime 145 = .ok (.getfield 95, 3) := DX8_deleteTime_7.2.2.2.2.2.2.2.1
theorem dX8_deleteTime_148 : decode cX8_deleteTime 148 = .ok (.if_icmp .ge 43, 3) := DX8_deleteTime_7.2.2.2.2.2.2.2.2.1
theorem dX8_deleteTime_151 : decode cX8_deleteTime 151 = .ok (.aload_n 0, 1) := DX8_deleteTime_7.2.2.2.2.2.2.2.2.2
set_option maxRecDepth 100000 in
theorem DX8_deleteTime_8 : decode cX8_deleteTime 152 = .ok (.iload 7, 2) ∧ decode cX8_deleteTime 154 = .ok (.iconst 0, 1) ∧ decode cX8_deleteTime 155 = .ok (.invokevirtual 98, 3) ∧ decode cX8_deleteTime 158 = .ok (.iload_n 1, 1) ∧ decode cX8_deleteTime 159 = .ok (.if_icmp .ne 14, 3) ∧ decode cX8_deleteTime 162 = .ok (.aload_n 0, 1) ∧ decode cX8_deleteTime 163 = .ok (.iload 7, 2) ∧ decode cX8_deleteTime 165 = .ok (.iload_n 2, 1) ∧ decode cX8_deleteTime 166 = .ok (.iload_n 3, 1) ∧ decode cX8_deleteTime 167 = .ok (.invokevirtual 149, 3) := by decide +kernel
theorem dX8_deleteTime_152 : decode cX8_deleteTime 152 = .ok (.iload 7, 2) := DX8_deleteTime_8.1
theorem dX8_deleteTime_154 : decode cX8_deleteTime 154 = .ok (.iconst 0, 1) := DX8_deleteTime_8.2.1
theorem dX8_deleteTime_155 : decode cX8_deleteTime 155 = .ok (.invokevirtual 98, 3) := DX8_deleteTime_8.2.2.1
theorem dX8_deleteTime_158 : decode cX8_deleteTime 158 = .ok (.iload_n 1, 1) := DX8_deleteTime_8.2.2.2.1
theorem dX8_deleteTime_159 : decode cX8_deleteTime 159 = .ok (.if_icmp .ne 14, 3) := DX8_deleteTime_8.2.2.2.2.1
theorem dX8_deleteTime_162 : decode cX8_deleteTime 162 = .ok (.aload_n 0, 1) := DX8_deleteTime_8.2.2.2.2.2.1
theorem dX8_deleteTime_163 : decode cX8_deleteTime 163 = .ok (.iload 7, 2) := DX8_deleteTime_8.2.2.2.2.2.2.1
theorem dX8_deleteTime_165 : decode cX8_deleteTime 165 = .ok (.iload_n 2, 1) := DX8_deleteTime_8.2.2.2.2.2.2.2.1
theorem dX8_deleteTime_166 : decode cX8_deleteTime 166 = .ok (.iload_n 3, 1) := DX8_deleteTime_8.2.2.2.2.2.2.2.2.1
theorem dX8_deleteTime_167 : decode cX8_deleteTime 167 = .ok (.invokevirtual 149, 3) := DX8_deleteTime_8.2.2.2.2.2.2.2.2.2
set_option maxRecDepth 100000 in
theorem DX8_deleteTime_9 : decode cX8_deleteTime 170 = .ok (.ifCond .eq 12, 3) ∧ decode cX8_deleteTime 173 = .ok (.iload 6, 2) ∧ decode cX8_deleteTime 175 = .ok (.ifCond .eq 7, 3) ∧ decode cX8_deleteTime 178 = .ok (.iconst 1, 1) ∧ decode cX8_deleteTime 179 = .ok (.goto 4, 3) ∧ decode cX8_deleteTime 182 = .ok (.iconst 0, 1) ∧ decode cX8_deleteTime 183 = .ok (.istore 6, 2) ∧ decode cX8_deleteTime 185 = .ok (.iinc 7 1, 3) ∧ decode cX8_deleteTime 188 = .ok (.goto (-46), 3) ∧ decode cX8_deleteTime 191 = .ok (.aload_n 0, 1) := by decide +kernel
theorem dX8_deleteTime_170 : decode cX8_deleteTime 170 = .ok (.ifCond .eq 12, 3) := DX8_deleteTime_9.1
theorem dX8_deleteTime_173 : decode cX8_deleteTime 173 = .ok (.iload 6, 2) := DX8_deleteTime_9.2.1
theorem dX8_deleteTime_175 : decode cX8_deleteTime 175 = .ok (.ifCond .eq 7, 3) := DX8_deleteTime_9.2.2.1
theorem dX8_deleteTime_178 : decode cX8_deleteTime 178 = .ok (.iconst 1, 1) := DX8_deleteTime_9.2.2.2.1
theorem dX8_deleteTime_179 : decode cX8_deleteTime 179 = .ok (.goto 4, 3) := DX8_deleteTime_9.2.2.2.2.1
theorem dX8_deleteTime_182 : decode cX8_deleteTime 182 = .ok (.iconst 0, 1) := DX8_deleteTime_9.2.2.2.2.2.1
theorem dX8_deleteTime_183 : decode cX8_deleteTime 183 = .ok (.istore 6, 2) := DX8_deleteTime_9.2.2.2.2.2.2.1
theorem dX8_deleteTime_185 : decode cX8_deleteTime 185 = .ok (.iinc 7 1, 3) := DX8_deleteTime_9.2.2.2.2.2.2.2.1
theorem dX8_deleteTime_188 : decode cX8_deleteTime 188 = .ok (.goto (-46), 3) := DX8_deleteTime_9.2.2.2.2.2.2.2.2.1
theorem dX8_deleteTime_191 : decode cX8_deleteTime 191 = .ok (.aload_n 0, 1) := DX8_deleteTime_9.2.2.2.2.2.2.2.2.2
set_option maxRecDepth 100000 in
theorem DX8_deleteTime_10 : decode cX8_deleteTime 192 = .ok (.invokevirtual 153, 3) ∧ decode cX8_deleteTime 195 = .ok (.aload_n 0, 1) ∧ decode cX8_deleteTime 196 = .ok (.iload 6, 2) ∧ decode cX8_deleteTime 198 = .ok (.ifCond .ne 7, 3) ∧ decode cX8_deleteTime 201 = .ok (.iconst 2, 1) ∧ decode cX8_deleteTime 202 = .ok (.goto 15, 3) ∧ decode cX8_deleteTime 205 = .ok (.aload_n 0, 1) ∧ decode cX8_deleteTime 206 = .ok (.invokevirtual 129, 3) ∧ decode cX8_deleteTime 209 = .ok (.ifCond .eq 7, 3) ∧ decode cX8_deleteTime 212 = .ok (.iconst 0, 1) := by decide +kernel
theorem dX8_deleteTime_192 : decode cX8_deleteTime 192 = .ok (.invokevirtual 153, 3) := DX8_deleteTime_10.1
theorem dX8_deleteTime_195 : decode cX8_deleteTime 195 = .ok (.aload_n 0, 1) := DX8_deleteTime_10.2.1
theorem dX8_deleteTime_196 : decode cX8_deleteTime 196 = .ok (.iload 6, 2) := DX8_deleteTime_10.2.2.1
theorem dX8_deleteTime_198 : decode cX8_deleteTime 198 = .ok (.ifCond .ne 7, 3) := DX8_deleteTime_10.2.2.2.1
theorem dX8_deleteTime_201 : decode cX8_deleteTime 201 = .ok (.iconst 2, 1) := DX8_deleteTime_10.2.2.2.2.1
theorem dX8_deleteTime_202 : decode cX8_deleteTime 202 = .ok (.goto 15, 3) := DX8_deleteTime_10.2.2.2.2.2.1
theorem dX8_deleteTime_205 : decode cX8_deleteTime 205 = .ok (.aload_n 0, 1) := DX8_deleteTime_10.2.2.2.2.2.2.1
theorem dX8_deleteTime_206 : decode cX8_deleteTime 206 = .ok (.invokevirtual 129, 3) := DX8_deleteTime_10.2.2.2.2.2.2.2.1
theorem dX8_deleteTime_209 : decode cX8_deleteTime 209 = .ok (.ifCond .eq 7, 3) := DX8_deleteTime_10.2.2.2.2.2.2.2.2.1
theorem dX8_deleteTime_212 : decode cX8_deleteTime 212 = .ok (.iconst 0, 1) := DX8_deleteTime_10.2.2.2.2.2.2.2.2.2
set_option maxRecDepth 100000 in
theorem DX8_deleteTime_11 : decode cX8_deleteTime 213 = .ok (.goto 4, 3) ∧ decode cX8_deleteTime 216 = .ok (.iconst 3, 1) ∧ decode cX8_deleteTime 217 = .ok (.invokevirtual 73, 3) ∧ decode cX8_deleteTime 220 = .ok (.ifCond .eq 5, 3) ∧ decode cX8_deleteTime 223 = .ok (.iconst 0, 1) ∧ decode cX8_deleteTime 224 = .ok (.ireturn, 1) ∧ decode cX8_deleteTime 225 = .ok (.aload_n 0, 1) ∧ decode cX8_deleteTime 226 = .ok (.invokevirtual 133, 3) ∧ decode cX8_deleteTime 229 = .ok (.iload 5, 2) ∧ decode cX8_deleteTime 231 = .ok (.ireturn, 1) := by decide +kernel
theorem dX8_deleteTime_213 : decode cX8_deleteTime 213 = .ok (.goto 4, 3) := DX8_deleteTime_11.1
theorem dX8_deleteTime_216 : decode cX8_deleteTime 216 = .ok (.iconst 3, 1) := DX8_deleteTime_11.2.1
theorem dX8_deleteTime_217 : decode cX8_deleteTime 217 = .ok (.invokevirtual 73, 3) := DX8_deleteTime_11.2.2.1
theorem dX8_deleteTime_220 : decode cX8_deleteTime 220 = .ok (.ifCond .eq 5, 3) := DX8_deleteTime_11.2.2.2.1
theorem dX8_deleteTime_223 : decode cX8_deleteTime 223 = .ok (.iconst 0, 1) := DX8_deleteTime_11.2.2.2.2.1
theorem dX8_deleteTime_224 : decode cX8_deleteTime 224 = .ok (.ireturn, 1) := DX8_deleteTime_11.2.2.2.2.2.1
theorem dX8_deleteTime_225 : decode cX8_deleteTime 225 = .ok (.aload_n 0, 1) := DX8_deleteTime_11.2.2.2.2.2.2.1
theorem dX8_deleteTime_226 : decode cX8_deleteTime 226 = .ok (.invokevirtual 133, 3) := DX8_deleteTime_11.2.2.2.2.2.2.2.1
theorem dX8_deleteTime_229 : decode cX8_deleteTime 229 = .ok (.iload 5, 2) := DX8_deleteTime_11.2.2.2.2.2.2.2.2.1
theorem dX8_deleteTime_231 : decode cX8_deleteTime 231 = .ok (.ireturn, 1) := DX8_deleteTime_11.2.2.2.2.2.2.2.2.2
set_option maxRecDepth 100000 in
theorem DX8_ordersAll_0 : decode cX8_ordersAll 0 = .ok (.iconst 1, 1) ∧ decode cX8_ordersAll 1 = .ok (.istore_n 1, 1) ∧ decode cX8_ordersAll 2 = .ok (.iload_n 1, 1) ∧ decode cX8_ordersAll 3 = .ok (.aload_n 0, 1) ∧ decode cX8_ordersAll 4 = .ok (.getfield 95, 3) ∧ decode cX8_ordersAll 7 = .ok (.if_icmp .ge 61, 3) ∧ decode cX8_ordersAll 10 = .ok (.iload_n 1, 1) ∧ decode cX8_ordersAll 11 = .ok (.istore_n 2, 1) ∧ decode cX8_ordersAll 12 = .ok (.iload_n 2, 1) ∧ decode cX8_ordersAll 13 = .ok (.ifCond .le 43, 3) := by decide +kernel
theorem dX8_ordersAll_0 : decode cX8_ordersAll 0 = .ok (.iconst 1, 1) := DX8_ordersAll_0.1
theorem dX8_ordersAll_1 : decode cX8_ordersAll 1 = .ok (.istore_n 1, 1) := DX8_ordersAll_0.2.1
theorem dX8_ordersAll_2 : decode cX8_ordersAll 2 = .ok (.iload_n 1, 1) := DX8_ordersAll_0.2.2.1
theorem dX8_ordersAll_3 : decode cX8_ordersAll 3 = .ok (.aload_n 0, 1) := DX8_ordersAll_0.2.2.2.1
theorem dX8_ordersAll_4 : decode cX8_ordersAll 4 = .ok (.getfield 95, 3) := DX8_ordersAll_0.2.2.2.2.1
theorem dX8_ordersAll_7 : decode cX8_ordersAll 7 = .ok (.if_icmp .ge 61, 3) := DX8_ordersAll_0.2.2.2.2.2.1
theorem dX8_ordersAll_10 : decode cX8_ordersAll 10 = .ok (.iload_n 1, 1) := DX8_ordersAll_0.2.2.2.2.2.2.1
theorem dX8_ordersAll_11 : decode cX8_ordersAll 11 = .ok (.istore_n 2, 1) := DX8_ordersAll_0.2.2.2.2.2.2.2.1
theorem dX8_ordersAll_12 : decode cX8_ordersAll 12 = .ok (.iload_n 2, 1) := DX8_ordersAll_0.2.2.2.2.2.2.2.2.1
theorem dX8_ordersAll_13 : decode cX8_ordersAll 13 = .ok (.ifCond .le 43, 3) := DX8_ordersAll_0.2.2.2.2.2.2.2.2.2
set_option maxRecDepth 100000 in
theorem DX8_ordersAll_1 : decode cX8_ordersAll 16 = .ok (.aload_n 0, 1) ∧ decode cX8_ordersAll 17 = .ok (.iload_n 2, 1) ∧ decode cX8_ordersAll 18 = .ok (.iconst 1, 1) ∧ decode cX8_ordersAll 19 = .ok (.isub, 1) ∧ decode cX8_ordersAll 20 = .ok (.iconst 0, 1) ∧ decode cX8_ordersAll 21 = .ok (.invokevirtual 98, 3) ∧ decode cX8_ordersAll 24 = .ok (.aload_n 0, 1) ∧ decode cX8_ordersAll 25 = .ok (.iload_n 1, 1) ∧ decode cX8_ordersAll 26 = .ok (.iconst 0, 1) ∧ decode cX8_ordersAll 27 = .ok (.invokevirtual 98, 3) := by decide +kernel
theorem dX8_ordersAll_16 : decode cX8_ordersAll 16 = .ok (.aload_n 0, 1) := DX8_ordersAll_1.1
theorem dX8_ordersAll_17 : decode cX8_ordersAll 17 = .ok (.iload_n 2, 1) := DX8_ordersAll_1.2.1
theorem dX8_ordersAll_18 : decode cX8_ordersAll 18 = .ok (.iconst 1, 1) := DX8_ordersAll_1.2.2.1
theorem dX8_ordersAll_19 : decode cX8_ordersAll 19 = .ok (.isub, 1) := DX8_ordersAll_1.2.2.2.1
theorem dX8_ordersAll_20 : decode cX8_ordersAll 20 = .ok (.iconst 0, 1) := DX8_ordersAll_1.2.2.2.2.1
theorem dX8_ordersAll_21 : decode cX8_ordersAll 21 = .ok (.invokevirtual 98, 3) := DX8_ordersAll_1.2.2.2.2.2.1
theorem dX8_ordersAll_24 : decode cX8_ordersAll 24 = .ok (.aload_n 0, 1) := DX8_ordersAll_1.2.2.2.2.2.2.1
theorem dX8_ordersAll_25 : decode cX8_ordersAll 25 = .ok (.iload_n 1, 1) := DX8_ordersAll_1.2.2.2.2.2.2.2.1
theorem dX8_ordersAll_26 : decode cX8_ordersAll 26 = .ok (.iconst 0, 1) := DX8_ordersAll_1.2.2.2.2.2.2.2.2.1
theorem dX8_ordersAll_27 : decode cX8_ordersAll 27 = .ok (.invokevirtual 98, 3) := DX8_ordersAll_1.2.2.2.2.2.2.2.2.2
set_option maxRecDepth 100000 in
theorem DX8_ordersAll_2 : decode cX8_ordersAll 30 = .ok (.if_icmp .ne 26, 3) ∧ decode cX8_ordersAll 33 = .ok (.aload_n 0, 1) ∧ decode cX8_ordersAll 34 = .ok (.iload_n 2, 1) ∧ decode cX8_ordersAll 35 = .ok (.iconst 1, 1) ∧ decode cX8_ordersAll 36 = .ok (.isub, 1) ∧ decode cX8_ordersAll 37 = .ok (.iconst 2, 1) ∧ decode cX8_ordersAll 38 = .ok (.invokevirtual 98, 3) ∧ decode cX8_ordersAll 41 = .ok (.aload_n 0, 1) ∧ decode cX8_ordersAll 42 = .ok (.iload_n 1, 1) ∧ decode cX8_ordersAll 43 = .ok (.iconst 2, 1) := by decide +kernel
theorem dX8_ordersAll_30 : decode cX8_ordersAll 30 = .ok (.if_icmp .ne 26, 3) := DX8_ordersAll_2.1
theorem dX8_ordersAll_33 : decode cX8_ordersAll 33 = .ok (.aload_n 0, 1) := DX8_ordersAll_2.2.1
theorem dX8_ordersAll_34 : decode cX8_ordersAll 34 = .ok (.iload_n 2, 1) := DX8_ordersAll_2.2.2.1
theorem dX8_ordersAll_35 : decode cX8_ordersAll 35 = .ok (.iconst 1, 1) := DX8_ordersAll_2.2.2.2.1
theorem dX8_ordersAll_36 : decode cX8_ordersAll 36 = .ok (.isub, 1) := DX8_ordersAll_2.2.2.2.2.1
theorem dX8_ordersAll_37 : decode cX8_ordersAll 37 = .ok (.iconst 2, 1) := DX8_ordersAll_2.2.2.2.2.2.1
theorem dX8_ordersAll_38 : decode cX8_ordersAll 38 = .ok (.invokevirtual 98, 3) := DX8_ordersAll_2.2.2.2.2.2.2.1
theorem dX8_ordersAll_41 : decode cX8_ordersAll 41 = .ok (.aload_n 0, 1) := DX8_ordersAll_2.2.2.2.2.2.2.2.1
theorem dX8_ordersAll_42 : decode cX8_ordersAll 42 = .ok (.iload_n 1, 1) := DX8_ordersAll_2.2.2.2.2.2.2.2.2.1
theorem dX8_ordersAll_43 : decode cX8_ordersAll 43 = .ok (.iconst 2, 1) := DX8_ordersAll_2.2.2.2.2.2.2.2.2.2
set_option maxRecDepth 100000 in
theorem DX8_ordersAll_3 : decode cX8_ordersAll 44 = .ok (.invokevirtual 98, 3) ∧ decode cX8_ordersAll 47 = .ok (.if_icmp .le 9, 3) ∧ decode cX8_ordersAll 50 = .ok (.iinc 2 (-1), 3) ∧ decode cX8_ordersAll 53 = .ok (.goto (-41), 3) ∧ decode cX8_ordersAll 56 = .ok (.aload_n 0, 1) ∧ decode cX8_ordersAll 57 = .ok (.iload_n 1, 1) ∧ decode cX8_ordersAll 58 = .ok (.iload_n 2, 1) ∧ decode cX8_ordersAll 59 = .ok (.invokevirtual 105, 3) ∧ decode cX8_ordersAll 62 = .ok (.iinc 1 1, 3) ∧ decode cX8_ordersAll 65 = .ok (.goto (-63), 3) := by decide +kernel
theorem dX8_ordersAll_44 : decode cX8_ordersAll 44 = .ok (.invokevirtual 98, 3) := DX8_ordersAll_3.1
theorem dX8_ordersAll_47 : decode cX8_ordersAll 47 = .ok (.if_icmp .le 9, 3) := DX8_ordersAll_3.2.1
theorem dX8_ordersAll_50 : decode cX8_ordersAll 50 = .ok (.iinc 2 (-1), 3) := DX8_ordersAll_3.2.2.1
theorem dX8_ordersAll_53 : decode cX8_ordersAll 53 = .ok (.goto (-41), 3) := DX8_ordersAll_3.2.2.2.1
theorem dX8_ordersAll_56 : decode cX8_ordersAll 56 = .ok (.aload_n 0, 1) := DX8_ordersAll_3.2.2.2.2.1
theorem dX8_ordersAll_57 : decode cX8_ordersAll 57 = .ok (.iload_n 1, 1) := DX8_ordersAll_3.2.2.2.2.2.1
theorem dX8_ordersAll_58 : decode cX8_ordersAll 58 = .ok (.iload_n 2, 1) := DX8_ordersAll_3.2.2.2.2.2.2.1
theorem dX8_ordersAll_59 : decode cX8_ordersAll 59 = .ok (.invokevirtual 105, 3) := DX8_ordersAll_3.2.2.2.2.2.2.2.1
theorem dX8_ordersAll_62 : decode cX8_ordersAll 62 = .ok (.iinc 1 1, 3) := DX8_ordersAll_3.2.2.2.2.2.2.2.2.1
theorem dX8_ordersAll_65 : decode cX8_ordersAll 65 = .ok (.goto (-63), 3) := DX8_ordersAll_3.2.2.2.2.2.2.2.2.2
set_option maxRecDepth 100000 in
theorem DX8_ordersAll_4 : decode cX8_ordersAll 68 = .ok (.return_, 1) := by decide +kernel
theorem dX8_ordersAll_68 : decode cX8_ordersAll 68 = .ok (.return_, 1) := DX8_ordersAll_4
set_option maxRecDepth 100000 in
theorem DX8_clips_0 : decode cX8_clips 0 = .ok (.aload_n 0, 1) ∧ decode cX8_clips 1 = .ok (.iconst 0, 1) ∧ decode cX8_clips 2 = .ok (.putfield 39, 3) ∧ decode cX8_clips 5 = .ok (.aload_n 0, 1) ∧ decode cX8_clips 6 = .ok (.getfield 7, 3) ∧ decode cX8_clips 9 = .ok (.bipush 8, 2) ∧ decode cX8_clips 11 = .ok (.iaload, 1) ∧ decode cX8_clips 12 = .ok (.ireturn, 1) := by decide +kernel
theorem dX8_clips_0 : decode cX8_clips 0 = .ok (.aload_n 0, 1) := DX8_clips_0.1
theorem dX8_clips_1 : decode cX8_clips 1 = .ok (.iconst 0, 1) := DX8_clips_0.2.1
theorem dX8_clips_2 : decode cX8_clips 2 = .ok (.putfield 39, 3) := DX8_clips_0.2.2.1
theorem dX8_clips_5 : decode cX8_clips 5 = .ok (.aload_n 0, 1) := DX8_clips_0.2.2.2.1
theorem dX8_clips_6 : decode cX8_clips 6 = .ok (.getfield 7, 3) := DX8_clips_0.2.2.2.2.1
theorem dX8_clips_9 : decode cX8_clips 9 = .ok (.bipush 8, 2) := DX8_clips_0.2.2.2.2.2.1
theorem dX8_clips_11 : decode cX8_clips 11 = .ok (.iaload, 1) := DX8_clips_0.2.2.2.2.2.2.1
theorem dX8_clips_12 : decode cX8_clips 12 = .ok (.ireturn, 1) := DX8_clips_0.2.2.2.2.2.2.2
set_option maxRecDepth 100000 in
theorem DX8_clipOf_0 : decode cX8_clipOf 0 = .ok (.aload_n 0, 1) ∧ decode cX8_clipOf 1 = .ok (.getfield 7, 3) ∧ decode cX8_clipOf 4 = .ok (.bipush 33, 2) ∧ decode cX8_clipOf 6 = .ok (.bipush 9, 2) ∧ decode cX8_clipOf 8 = .ok (.iload_n 1, 1) ∧ decode cX8_clipOf 9 = .ok (.imul, 1) ∧ decode cX8_clipOf 10 = .ok (.iadd, 1) ∧ decode cX8_clipOf 11 = .ok (.iload_n 2, 1) ∧ decode cX8_clipOf 12 = .ok (.iadd, 1) ∧ decode cX8_clipOf 13 = .ok (.iaload, 1) := by decide +kernel
theorem dX8_clipOf_0 : decode cX8_clipOf 0 = .ok (.aload_n 0, 1) := DX8_clipOf_0.1
theorem dX8_clipOf_1 : decode cX8_clipOf 1 = .ok (.getfield 7, 3) := DX8_clipOf_0.2.1
theorem dX8_clipOf_4 : decode cX8_clipOf 4 = .ok (.bipush 33, 2) := DX8_clipOf_0.2.2.1
theorem dX8_clipOf_6 : decode cX8_clipOf 6 = .ok (.bipush 9, 2) := DX8_clipOf_0.2.2.2.1
theorem dX8_clipOf_8 : decode cX8_clipOf 8 = .ok (.iload_n 1, 1) := DX8_clipOf_0.2.2.2.2.1
theorem dX8_clipOf_9 : decode cX8_clipOf 9 = .ok (.imul, 1) := DX8_clipOf_0.2.2.2.2.2.1
theorem dX8_clipOf_10 : decode cX8_clipOf 10 = .ok (.iadd, 1) := DX8_clipOf_0.2.2.2.2.2.2.1
theorem dX8_clipOf_11 : decode cX8_clipOf 11 = .ok (.iload_n 2, 1) := DX8_clipOf_0.2.2.2.2.2.2.2.1
theorem dX8_clipOf_12 : decode cX8_clipOf 12 = .ok (.iadd, 1) := DX8_clipOf_0.2.2.2.2.2.2.2.2.1
theorem dX8_clipOf_13 : decode cX8_clipOf 13 = .ok (.iaload, 1) := DX8_clipOf_0.2.2.2.2.2.2.2.2.2
set_option maxRecDepth 100000 in
theorem DX8_clipOf_1 : decode cX8_clipOf 14 = .ok (.ireturn, 1) := by decide +kernel
theorem dX8_clipOf_14 : decode cX8_clipOf 14 = .ok (.ireturn, 1) := DX8_clipOf_1
set_option maxRecDepth 100000 in
theorem DX8_clip_0 : decode cX8_clip 0 = .ok (.aload_n 0, 1) ∧ decode cX8_clip 1 = .ok (.aload_n 0, 1) ∧ decode cX8_clip 2 = .ok (.iload_n 1, 1) ∧ decode cX8_clip 3 = .ok (.invokevirtual 136, 3) ∧ decode cX8_clip 6 = .ok (.ifCond .ne 7, 3) ∧ decode cX8_clip 9 = .ok (.iconst 1, 1) ∧ decode cX8_clip 10 = .ok (.goto 20, 3) ∧ decode cX8_clip 13 = .ok (.iload_n 2, 1) ∧ decode cX8_clip 14 = .ok (.i2l, 1) ∧ decode cX8_clip 15 = .ok (.lconst 0, 1) := by decide +kernel
theorem dX8_clip_0 : decode cX8_clip 0 = .ok (.aload_n 0, 1) := DX8_clip_0.1
theorem dX8_clip_1 : decode cX8_clip 1 = .ok (.aload_n 0, 1) := DX8_clip_0.2.1
theorem dX8_clip_2 : decode cX8_clip 2 = .ok (.iload_n 1, 1) := DX8_clip_0.2.2.1
theorem dX8_clip_3 : decode cX8_clip 3 = .ok (.invokevirtual 136, 3) := DX8_clip_0.2.2.2.1
theorem dX8_clip_6 : decode cX8_clip 6 = .ok (.ifCond .ne 7, 3) := DX8_clip_0.2.2.2.2.1
theorem dX8_clip_9 : decode cX8_clip 9 = .ok (.iconst 1, 1) := DX8_clip_0.2.2.2.2.2.1
theorem dX8_clip_10 : decode cX8_clip 10 = .ok (.goto 20, 3) := DX8_clip_0.2.2.2.2.2.2.1
theorem dX8_clip_13 : decode cX8_clip 13 = .ok (.iload_n 2, 1) := DX8_clip_0.2.2.2.2.2.2.2.1
theorem dX8_clip_14 : decode cX8_clip 14 = .ok (.i2l, 1) := DX8_clip_0.2.2.2.2.2.2.2.2.1
theorem dX8_clip_15 : decode cX8_clip 15 = .ok (.lconst 0, 1) := DX8_clip_0.2.2.2.2.2.2.2.2.2
set_option maxRecDepth 100000 in
theorem DX8_clip_1 : decode cX8_clip 16 = .ok (.ldc2_w 156, 3) ∧ decode cX8_clip 19 = .ok (.invokestatic 45, 3) ∧ decode cX8_clip 22 = .ok (.ifCond .eq 7, 3) ∧ decode cX8_clip 25 = .ok (.iconst 0, 1) ∧ decode cX8_clip 26 = .ok (.goto 4, 3) ∧ decode cX8_clip 29 = .ok (.iconst 2, 1) ∧ decode cX8_clip 30 = .ok (.invokevirtual 51, 3) ∧ decode cX8_clip 33 = .ok (.ifCond .eq 7, 3) ∧ decode cX8_clip 36 = .ok (.iconst 0, 1) ∧ decode cX8_clip 37 = .ok (.goto 9, 3) := by decide +kernel
theorem dX8_clip_16 : decode cX8_clip 16 = .ok (.ldc2_w 156, 3) := DX8_clip_1.1
theorem dX8_clip_19 : decode cX8_clip 19 = .ok (.invokestatic 45, 3) := DX8_clip_1.2.1
theorem dX8_clip_22 : decode cX8_clip 22 = .ok (.ifCond .eq 7, 3) := DX8_clip_1.2.2.1
theorem dX8_clip_25 : decode cX8_clip 25 = .ok (.iconst 0, 1) := DX8_clip_1.2.2.2.1
theorem dX8_clip_26 : decode cX8_clip 26 = .ok (.goto 4, 3) := DX8_clip_1.2.2.2.2.1
theorem dX8_clip_29 : decode cX8_clip 29 = .ok (.iconst 2, 1) := DX8_clip_1.2.2.2.2.2.1
theorem dX8_clip_30 : decode cX8_clip 30 = .ok (.invokevirtual 51, 3) := DX8_clip_1.2.2.2.2.2.2.1
theorem dX8_clip_33 : decode cX8_clip 33 = .ok (.ifCond .eq 7, 3) := DX8_clip_1.2.2.2.2.2.2.2.1
theorem dX8_clip_36 : decode cX8_clip 36 = .ok (.iconst 0, 1) := DX8_clip_1.2.2.2.2.2.2.2.2.1
theorem dX8_clip_37 : decode cX8_clip 37 = .ok (.goto 9, 3) := DX8_clip_1.2.2.2.2.2.2.2.2.2
set_option maxRecDepth 100000 in
theorem DX8_clip_2 : decode cX8_clip 40 = .ok (.aload_n 0, 1) ∧ decode cX8_clip 41 = .ok (.iload_n 1, 1) ∧ decode cX8_clip 42 = .ok (.iload_n 2, 1) ∧ decode cX8_clip 43 = .ok (.invokevirtual 158, 3) ∧ decode cX8_clip 46 = .ok (.ireturn, 1) := by decide +kernel
theorem dX8_clip_40 : decode cX8_clip 40 = .ok (.aload_n 0, 1) := DX8_clip_2.1
theorem dX8_clip_41 : decode cX8_clip 41 = .ok (.iload_n 1, 1) := DX8_clip_2.2.1
theorem dX8_clip_42 : decode cX8_clip 42 = .ok (.iload_n 2, 1) := DX8_clip_2.2.2.1
theorem dX8_clip_43 : decode cX8_clip 43 = .ok (.invokevirtual 158, 3) := DX8_clip_2.2.2.2.1
theorem dX8_clip_46 : decode cX8_clip 46 = .ok (.ireturn, 1) := DX8_clip_2.2.2.2.2
set_option maxRecDepth 100000 in
theorem DX8_clipEnd_0 : decode cX8_clipEnd 0 = .ok (.aload_n 0, 1) ∧ decode cX8_clipEnd 1 = .ok (.iload_n 1, 1) ∧ decode cX8_clipEnd 2 = .ok (.iconst 2, 1) ∧ decode cX8_clipEnd 3 = .ok (.invokevirtual 158, 3) ∧ decode cX8_clipEnd 6 = .ok (.aload_n 0, 1) ∧ decode cX8_clipEnd 7 = .ok (.iload_n 1, 1) ∧ decode cX8_clipEnd 8 = .ok (.iconst 4, 1) ∧ decode cX8_clipEnd 9 = .ok (.invokevirtual 158, 3) ∧ decode cX8_clipEnd 12 = .ok (.iadd, 1) ∧ decode cX8_clipEnd 13 = .ok (.ireturn, 1) := by decide +kernel
theorem dX8_clipEnd_0 : decode cX8_clipEnd 0 = .ok (.aload_n 0, 1) := DX8_clipEnd_0.1
theorem dX8_clipEnd_1 : decode cX8_clipEnd 1 = .ok (.iload_n 1, 1) := DX8_clipEnd_0.2.1
theorem dX8_clipEnd_2 : decode cX8_clipEnd 2 = .ok (.iconst 2, 1) := DX8_clipEnd_0.2.2.1
theorem dX8_clipEnd_3 : decode cX8_clipEnd 3 = .ok (.invokevirtual 158, 3) := DX8_clipEnd_0.2.2.2.1
theorem dX8_clipEnd_6 : decode cX8_clipEnd 6 = .ok (.aload_n 0, 1) := DX8_clipEnd_0.2.2.2.2.1
theorem dX8_clipEnd_7 : decode cX8_clipEnd 7 = .ok (.iload_n 1, 1) := DX8_clipEnd_0.2.2.2.2.2.1
theorem dX8_clipEnd_8 : decode cX8_clipEnd 8 = .ok (.iconst 4, 1) := DX8_clipEnd_0.2.2.2.2.2.2.1
theorem dX8_clipEnd_9 : decode cX8_clipEnd 9 = .ok (.invokevirtual 158, 3) := DX8_clipEnd_0.2.2.2.2.2.2.2.1
theorem dX8_clipEnd_12 : decode cX8_clipEnd 12 = .ok (.iadd, 1) := DX8_clipEnd_0.2.2.2.2.2.2.2.2.1
theorem dX8_clipEnd_13 : decode cX8_clipEnd 13 = .ok (.ireturn, 1) := DX8_clipEnd_0.2.2.2.2.2.2.2.2.2
set_option maxRecDepth 100000 in
theorem DX8_covers_0 : decode cX8_covers 0 = .ok (.iload_n 2, 1) ∧ decode cX8_covers 1 = .ok (.aload_n 0, 1) ∧ decode cX8_covers 2 = .ok (.iload_n 1, 1) ∧ decode cX8_covers 3 = .ok (.iconst 2, 1) ∧ decode cX8_covers 4 = .ok (.invokevirtual 158, 3) ∧ decode cX8_covers 7 = .ok (.if_icmp .lt 16, 3) ∧ decode cX8_covers 10 = .ok (.iload_n 2, 1) ∧ decode cX8_covers 11 = .ok (.aload_n 0, 1) ∧ decode cX8_covers 12 = .ok (.iload_n 1, 1) ∧ decode cX8_covers 13 = .ok (.invokevirtual 161, 3) := by decide +kernel
theorem dX8_covers_0 : decode cX8_covers 0 = .ok (.iload_n 2, 1) := DX8_covers_0.1
theorem dX8_covers_1 : decode cX8_covers 1 = .ok (.aload_n 0, 1) := DX8_covers_0.2.1
theorem dX8_covers_2 : decode cX8_covers 2 = .ok (.iload_n 1, 1) := DX8_covers_0.2.2.1
theorem dX8_covers_3 : decode cX8_covers 3 = .ok (.iconst 2, 1) := DX8_covers_0.2.2.2.1
theorem dX8_covers_4 : decode cX8_covers 4 = .ok (.invokevirtual 158, 3) := DX8_covers_0.2.2.2.2.1
theorem dX8_covers_7 : decode cX8_covers 7 = .ok (.if_icmp .lt 16, 3) := DX8_covers_0.2.2.2.2.2.1
theorem dX8_covers_10 : decode cX8_covers 10 = .ok (.iload_n 2, 1) := DX8_covers_0.2.2.2.2.2.2.1
theorem dX8_covers_11 : decode cX8_covers 11 = .ok (.aload_n 0, 1) := DX8_covers_0.2.2.2.2.2.2.2.1
theorem dX8_covers_12 : decode cX8_covers 12 = .ok (.iload_n 1, 1) := DX8_covers_0.2.2.2.2.2.2.2.2.1
theorem dX8_covers_13 : decode cX8_covers 13 = .ok (.invokevirtual 161, 3) := DX8_covers_0.2.2.2.2.2.2.2.2.2
set_option maxRecDepth 100000 in
theorem DX8_covers_1 : decode cX8_covers 16 = .ok (.if_icmp .ge 7, 3) ∧ decode cX8_covers 19 = .ok (.iconst 1, 1) ∧ decode cX8_covers 20 = .ok (.goto 4, 3) ∧ decode cX8_covers 23 = .ok (.iconst 0, 1) ∧ decode cX8_covers 24 = .ok (.ireturn, 1) := by decide +kernel
theorem dX8_covers_16 : decode cX8_covers 16 = .ok (.if_icmp .ge 7, 3) := DX8_covers_1.1
theorem dX8_covers_19 : decode cX8_covers 19 = .ok (.iconst 1, 1) := DX8_covers_1.2.1
theorem dX8_covers_20 : decode cX8_covers 20 = .ok (.goto 4, 3) := DX8_covers_1.2.2.1
theorem dX8_covers_23 : decode cX8_covers 23 = .ok (.iconst 0, 1) := DX8_covers_1.2.2.2.1
theorem dX8_covers_24 : decode cX8_covers 24 = .ok (.ireturn, 1) := DX8_covers_1.2.2.2.2
set_option maxRecDepth 100000 in
theorem DX8_faded_0 : decode cX8_faded 0 = .ok (.iload_n 1, 1) ∧ decode cX8_faded 1 = .ok (.iload_n 2, 1) ∧ decode cX8_faded 2 = .ok (.if_icmp .lt 5, 3) ∧ decode cX8_faded 5 = .ok (.iload_n 0, 1) ∧ decode cX8_faded 6 = .ok (.ireturn, 1) ∧ decode cX8_faded 7 = .ok (.sipush 1000, 3) ∧ decode cX8_faded 10 = .ok (.iload_n 1, 1) ∧ decode cX8_faded 11 = .ok (.imul, 1) ∧ decode cX8_faded 12 = .ok (.iload_n 2, 1) ∧ decode cX8_faded 13 = .ok (.idiv, 1) := by decide +kernel
theorem dX8_faded_0 : decode cX8_faded 0 = .ok (.iload_n 1, 1) := DX8_faded_0.1
theorem dX8_faded_1 : decode cX8_faded 1 = .ok (.iload_n 2, 1) := DX8_faded_0.2.1
theorem dX8_faded_2 : decode cX8_faded 2 = .ok (.if_icmp .lt 5, 3) := DX8_faded_0.2.2.1
theorem dX8_faded_5 : decode cX8_faded 5 = .ok (.iload_n 0, 1) := DX8_faded_0.2.2.2.1
theorem dX8_faded_6 : decode cX8_faded 6 = .ok (.ireturn, 1) := DX8_faded_0.2.2.2.2.1
theorem dX8_faded_7 : decode cX8_faded 7 = .ok (.sipush 1000, 3) := DX8_faded_0.2.2.2.2.2.1
theorem dX8_faded_10 : decode cX8_faded 10 = .ok (.iload_n 1, 1) := DX8_faded_0.2.2.2.2.2.2.1
theorem dX8_faded_11 : decode cX8_faded 11 = .ok (.imul, 1) := DX8_faded_0.2.2.2.2.2.2.2.1
theorem dX8_faded_12 : decode cX8_faded 12 = .ok (.iload_n 2, 1) := DX8_faded_0.2.2.2.2.2.2.2.2.1
theorem dX8_faded_13 : decode cX8_faded 13 = .ok (.idiv, 1) := DX8_faded_0.2.2.2.2.2.2.2.2.2
set_option maxRecDepth 100000 in
theorem DX8_faded_1 : decode cX8_faded 14 = .ok (.istore 4, 2) ∧ decode cX8_faded 16 = .ok (.iload_n 0, 1) ∧ decode cX8_faded 17 = .ok (.i2l, 1) ∧ decode cX8_faded 18 = .ok (.iload_n 3, 1) ∧ decode cX8_faded 19 = .ok (.iconst 1, 1) ∧ decode cX8_faded 20 = .ok (.if_icmp .ne 15, 3) ∧ decode cX8_faded 23 = .ok (.iload 4, 2) ∧ decode cX8_faded 25 = .ok (.iload 4, 2) ∧ decode cX8_faded 27 = .ok (.imul, 1) ∧ decode cX8_faded 28 = .ok (.sipush 1000, 3) := by decide +kernel
theorem dX8_faded_14 : decode cX8_faded 14 = .ok (.istore 4, 2) := DX8_faded_1.1
theorem dX8_faded_16 : decode cX8_faded 16 = .ok (.iload_n 0, 1) := DX8_faded_1.2.1
theorem dX8_faded_17 : decode cX8_faded 17 = .ok (.i2l, 1) := DX8_faded_1.2.2.1
theorem dX8_faded_18 : decode cX8_faded 18 = .ok (.iload_n 3, 1) := DX8_faded_1.2.2.2.1
theorem dX8_faded_19 : decode cX8_faded 19 = .ok (.iconst 1, 1) := DX8_faded_1.2.2.2.2.1
theorem dX8_faded_20 : decode cX8_faded 20 = .ok (.if_icmp .ne 15, 3) := DX8_faded_1.2.2.2.2.2.1
theorem dX8_faded_23 : decode cX8_faded 23 = .ok (.iload 4, 2) := DX8_faded_1.2.2.2.2.2.2.1
theorem dX8_faded_25 : decode cX8_faded 25 = .ok (.iload 4, 2) := DX8_faded_1.2.2.2.2.2.2.2.1
theorem dX8_faded_27 : decode cX8_faded 27 = .ok (.imul, 1) := DX8_faded_1.2.2.2.2.2.2.2.2.1
theorem dX8_faded_28 : decode cX8_faded 28 = .ok (.sipush 1000, 3) := DX8_faded_1.2.2.2.2.2.2.2.2.2
set_option maxRecDepth 100000 in
theorem DX8_faded_2 : decode cX8_faded 31 = .ok (.idiv, 1) ∧ decode cX8_faded 32 = .ok (.goto 5, 3) ∧ decode cX8_faded 35 = .ok (.iload 4, 2) ∧ decode cX8_faded 37 = .ok (.invokestatic 164, 3) ∧ decode cX8_faded 40 = .ok (.ireturn, 1) := by decide +kernel
theorem dX8_faded_31 : decode cX8_faded 31 = .ok (.idiv, 1) := DX8_faded_2.1
theorem dX8_faded_32 : decode cX8_faded 32 = .ok (.goto 5, 3) := DX8_faded_2.2.1
theorem dX8_faded_35 : decode cX8_faded 35 = .ok (.iload 4, 2) := DX8_faded_2.2.2.1
theorem dX8_faded_37 : decode cX8_faded 37 = .ok (.invokestatic 164, 3) := DX8_faded_2.2.2.2.1
theorem dX8_faded_40 : decode cX8_faded 40 = .ok (.ireturn, 1) := DX8_faded_2.2.2.2.2
set_option maxRecDepth 100000 in
theorem DX8_raw_0 : decode cX8_raw 0 = .ok (.iload_n 2, 1) ∧ decode cX8_raw 1 = .ok (.aload_n 0, 1) ∧ decode cX8_raw 2 = .ok (.iload_n 1, 1) ∧ decode cX8_raw 3 = .ok (.iconst 2, 1) ∧ decode cX8_raw 4 = .ok (.invokevirtual 158, 3) ∧ decode cX8_raw 7 = .ok (.isub, 1) ∧ decode cX8_raw 8 = .ok (.istore_n 3, 1) ∧ decode cX8_raw 9 = .ok (.aload_n 0, 1) ∧ decode cX8_raw 10 = .ok (.iload_n 1, 1) ∧ decode cX8_raw 11 = .ok (.iconst 1, 1) := by decide +kernel
theorem dX8_raw_0 : decode cX8_raw 0 = .ok (.iload_n 2, 1) := DX8_raw_0.1
theorem dX8_raw_1 : decode cX8_raw 1 = .ok (.aload_n 0, 1) := DX8_raw_0.2.1
theorem dX8_raw_2 : decode cX8_raw 2 = .ok (.iload_n 1, 1) := DX8_raw_0.2.2.1
theorem dX8_raw_3 : decode cX8_raw 3 = .ok (.iconst 2, 1) := DX8_raw_0.2.2.2.1
theorem dX8_raw_4 : decode cX8_raw 4 = .ok (.invokevirtual 158, 3) := DX8_raw_0.2.2.2.2.1
theorem dX8_raw_7 : decode cX8_raw 7 = .ok (.isub, 1) := DX8_raw_0.2.2.2.2.2.1
theorem dX8_raw_8 : decode cX8_raw 8 = .ok (.istore_n 3, 1) := DX8_raw_0.2.2.2.2.2.2.1
theorem dX8_raw_9 : decode cX8_raw 9 = .ok (.aload_n 0, 1) := DX8_raw_0.2.2.2.2.2.2.2.1
theorem dX8_raw_10 : decode cX8_raw 10 = .ok (.iload_n 1, 1) := DX8_raw_0.2.2.2.2.2.2.2.2.1
theorem dX8_raw_11 : decode cX8_raw 11 = .ok (.iconst 1, 1) := DX8_raw_0.2.2.2.2.2.2.2.2.2
set_option maxRecDepth 100000 in
theorem DX8_raw_1 : decode cX8_raw 12 = .ok (.invokevirtual 158, 3) ∧ decode cX8_raw 15 = .ok (.istore 4, 2) ∧ decode cX8_raw 17 = .ok (.aload_n 0, 1) ∧ decode cX8_raw 18 = .ok (.iload_n 1, 1) ∧ decode cX8_raw 19 = .ok (.iconst 3, 1) ∧ decode cX8_raw 20 = .ok (.invokevirtual 158, 3) ∧ decode cX8_raw 23 = .ok (.iload_n 3, 1) ∧ decode cX8_raw 24 = .ok (.iadd, 1) ∧ decode cX8_raw 25 = .ok (.istore 5, 2) ∧ decode cX8_raw 27 = .ok (.aload_n 0, 1) := by decide +kernel
theorem dX8_raw_12 : decode cX8_raw 12 = .ok (.invokevirtual 158, 3) := DX8_raw_1.1
theorem dX8_raw_15 : decode cX8_raw 15 = .ok (.istore 4, 2) := DX8_raw_1.2.1
theorem dX8_raw_17 : decode cX8_raw 17 = .ok (.aload_n 0, 1) := DX8_raw_1.2.2.1
theorem dX8_raw_18 : decode cX8_raw 18 = .ok (.iload_n 1, 1) := DX8_raw_1.2.2.2.1
theorem dX8_raw_19 : decode cX8_raw 19 = .ok (.iconst 3, 1) := DX8_raw_1.2.2.2.2.1
theorem dX8_raw_20 : decode cX8_raw 20 = .ok (.invokevirtual 158, 3) := DX8_raw_1.2.2.2.2.2.1
theorem dX8_raw_23 : decode cX8_raw 23 = .ok (.iload_n 3, 1) := DX8_raw_1.2.2.2.2.2.2.1
theorem dX8_raw_24 : decode cX8_raw 24 = .ok (.iadd, 1) := DX8_raw_1.2.2.2.2.2.2.2.1
theorem dX8_raw_25 : decode cX8_raw 25 = .ok (.istore 5, 2) := DX8_raw_1.2.2.2.2.2.2.2.2.1
theorem dX8_raw_27 : decode cX8_raw 27 = .ok (.aload_n 0, 1) := DX8_raw_1.2.2.2.2.2.2.2.2.2
set_option maxRecDepth 100000 in
theorem DX8_raw_2 : decode cX8_raw 28 = .ok (.iload 4, 2) ∧ decode cX8_raw 30 = .ok (.iload 5, 2) ∧ decode cX8_raw 32 = .ok (.invokevirtual 88, 3) ∧ decode cX8_raw 35 = .ok (.ifCond .eq 15, 3) ∧ decode cX8_raw 38 = .ok (.aload_n 0, 1) ∧ decode cX8_raw 39 = .ok (.iload 4, 2) ∧ decode cX8_raw 41 = .ok (.iload 5, 2) ∧ decode cX8_raw 43 = .ok (.invokevirtual 92, 3) ∧ decode cX8_raw 46 = .ok (.i2l, 1) ∧ decode cX8_raw 47 = .ok (.goto 4, 3) := by decide +kernel
theorem dX8_raw_28 : decode cX8_raw 28 = .ok (.iload 4, 2) := DX8_raw_2.1
theorem dX8_raw_30 : decode cX8_raw 30 = .ok (.iload 5, 2) := DX8_raw_2.2.1
theorem dX8_raw_32 : decode cX8_raw 32 = .ok (.invokevirtual 88, 3) := DX8_raw_2.2.2.1
theorem dX8_raw_35 : decode cX8_raw 35 = .ok (.ifCond .eq 15, 3) := DX8_raw_2.2.2.2.1
theorem dX8_raw_38 : decode cX8_raw 38 = .ok (.aload_n 0, 1) := DX8_raw_2.2.2.2.2.1
theorem dX8_raw_39 : decode cX8_raw 39 = .ok (.iload 4, 2) := DX8_raw_2.2.2.2.2.2.1
theorem dX8_raw_41 : decode cX8_raw 41 = .ok (.iload 5, 2) := DX8_raw_2.2.2.2.2.2.2.1
theorem dX8_raw_43 : decode cX8_raw 43 = .ok (.invokevirtual 92, 3) := DX8_raw_2.2.2.2.2.2.2.2.1
theorem dX8_raw_46 : decode cX8_raw 46 = .ok (.i2l, 1) := DX8_raw_2.2.2.2.2.2.2.2.2.1
theorem dX8_raw_47 : decode cX8_raw 47 = .ok (.goto 4, 3) := DX8_raw_2.2.2.2.2.2.2.2.2.2
set_option maxRecDepth 100000 in
theorem DX8_raw_3 : decode cX8_raw 50 = .ok (.lconst 0, 1) ∧ decode cX8_raw 51 = .ok (.aload_n 0, 1) ∧ decode cX8_raw 52 = .ok (.iload_n 1, 1) ∧ decode cX8_raw 53 = .ok (.iconst 5, 1) ∧ decode cX8_raw 54 = .ok (.invokevirtual 158, 3) ∧ decode cX8_raw 57 = .ok (.invokestatic 164, 3) ∧ decode cX8_raw 60 = .ok (.istore 6, 2) ∧ decode cX8_raw 62 = .ok (.iload 6, 2) ∧ decode cX8_raw 64 = .ok (.iload_n 3, 1) ∧ decode cX8_raw 65 = .ok (.aload_n 0, 1) := by decide +kernel
theorem dX8_raw_50 : decode cX8_raw 50 = .ok (.lconst 0, 1) := DX8_raw_3.1
theorem dX8_raw_51 : decode cX8_raw 51 = .ok (.aload_n 0, 1) := DX8_raw_3.2.1
theorem dX8_raw_52 : decode cX8_raw 52 = .ok (.iload_n 1, 1) := DX8_raw_3.2.2.1
theorem dX8_raw_53 : decode cX8_raw 53 = .ok (.iconst 5, 1) := DX8_raw_3.2.2.2.1
theorem dX8_raw_54 : decode cX8_raw 54 = .ok (.invokevirtual 158, 3) := DX8_raw_3.2.2.2.2.1
theorem dX8_raw_57 : decode cX8_raw 57 = .ok (.invokestatic 164, 3) := DX8_raw_3.2.2.2.2.2.1
theorem dX8_raw_60 : decode cX8_raw 60 = .ok (.istore 6, 2) := DX8_raw_3.2.2.2.2.2.2.1
theorem dX8_raw_62 : decode cX8_raw 62 = .ok (.iload 6, 2) := DX8_raw_3.2.2.2.2.2.2.2.1
theorem dX8_raw_64 : decode cX8_raw 64 = .ok (.iload_n 3, 1) := DX8_raw_3.2.2.2.2.2.2.2.2.1
theorem dX8_raw_65 : decode cX8_raw 65 = .ok (.aload_n 0, 1) := DX8_raw_3.2.2.2.2.2.2.2.2.2
set_option maxRecDepth 100000 in
theorem DX8_raw_4 : decode cX8_raw 66 = .ok (.iload_n 1, 1) ∧ decode cX8_raw 67 = .ok (.bipush 6, 2) ∧ decode cX8_raw 69 = .ok (.invokevirtual 158, 3) ∧ decode cX8_raw 72 = .ok (.aload_n 0, 1) ∧ decode cX8_raw 73 = .ok (.iload_n 1, 1) ∧ decode cX8_raw 74 = .ok (.bipush 8, 2) ∧ decode cX8_raw 76 = .ok (.invokevirtual 158, 3) ∧ decode cX8_raw 79 = .ok (.invokestatic 168, 3) ∧ decode cX8_raw 82 = .ok (.istore 6, 2) ∧ decode cX8_raw 84 = .ok (.iload 6, 2) := by decide +kernel
theorem dX8_raw_66 : decode cX8_raw 66 = .ok (.iload_n 1, 1) := DX8_raw_4.1
theorem dX8_raw_67 : decode cX8_raw 67 = .ok (.bipush 6, 2) := DX8_raw_4.2.1
theorem dX8_raw_69 : decode cX8_raw 69 = .ok (.invokevirtual 158, 3) := DX8_raw_4.2.2.1
theorem dX8_raw_72 : decode cX8_raw 72 = .ok (.aload_n 0, 1) := DX8_raw_4.2.2.2.1
theorem dX8_raw_73 : decode cX8_raw 73 = .ok (.iload_n 1, 1) := DX8_raw_4.2.2.2.2.1
theorem dX8_raw_74 : decode cX8_raw 74 = .ok (.bipush 8, 2) := DX8_raw_4.2.2.2.2.2.1
theorem dX8_raw_76 : decode cX8_raw 76 = .ok (.invokevirtual 158, 3) := DX8_raw_4.2.2.2.2.2.2.1
theorem dX8_raw_79 : decode cX8_raw 79 = .ok (.invokestatic 168, 3) := DX8_raw_4.2.2.2.2.2.2.2.1
theorem dX8_raw_82 : decode cX8_raw 82 = .ok (.istore 6, 2) := DX8_raw_4.2.2.2.2.2.2.2.2.1
theorem dX8_raw_84 : decode cX8_raw 84 = .ok (.iload 6, 2) := DX8_raw_4.2.2.2.2.2.2.2.2.2
set_option maxRecDepth 100000 in
theorem DX8_raw_5 : decode cX8_raw 86 = .ok (.aload_n 0, 1) ∧ decode cX8_raw 87 = .ok (.iload_n 1, 1) ∧ decode cX8_raw 88 = .ok (.iconst 4, 1) ∧ decode cX8_raw 89 = .ok (.invokevirtual 158, 3) ∧ decode cX8_raw 92 = .ok (.iconst 1, 1) ∧ decode cX8_raw 93 = .ok (.isub, 1) ∧ decode cX8_raw 94 = .ok (.iload_n 3, 1) ∧ decode cX8_raw 95 = .ok (.isub, 1) ∧ decode cX8_raw 96 = .ok (.aload_n 0, 1) ∧ decode cX8_raw 97 = .ok (.iload_n 1, 1) := by decide +kernel
theorem dX8_raw_86 : decode cX8_raw 86 = .ok (.aload_n 0, 1) := DX8_raw_5.1
theorem dX8_raw_87 : decode cX8_raw 87 = .ok (.iload_n 1, 1) := DX8_raw_5.2.1
theorem dX8_raw_88 : decode cX8_raw 88 = .ok (.iconst 4, 1) := DX8_raw_5.2.2.1
theorem dX8_raw_89 : decode cX8_raw 89 = .ok (.invokevirtual 158, 3) := DX8_raw_5.2.2.2.1
theorem dX8_raw_92 : decode cX8_raw 92 = .ok (.iconst 1, 1) := DX8_raw_5.2.2.2.2.1
theorem dX8_raw_93 : decode cX8_raw 93 = .ok (.isub, 1) := DX8_raw_5.2.2.2.2.2.1
theorem dX8_raw_94 : decode cX8_raw 94 = .ok (.iload_n 3, 1) := DX8_raw_5.2.2.2.2.2.2.1
theorem dX8_raw_95 : decode cX8_raw 95 = .ok (.isub, 1) := DX8_raw_5.2.2.2.2.2.2.2.1
theorem dX8_raw_96 : decode cX8_raw 96 = .ok (.aload_n 0, 1) := DX8_raw_5.2.2.2.2.2.2.2.2.1
theorem dX8_raw_97 : decode cX8_raw 97 = .ok (.iload_n 1, 1) := DX8_raw_5.2.2.2.2.2.2.2.2.2
set_option maxRecDepth 100000 in
theorem DX8_raw_6 : decode cX8_raw 98 = .ok (.bipush 7, 2) ∧ decode cX8_raw 100 = .ok (.invokevirtual 158, 3) ∧ decode cX8_raw 103 = .ok (.aload_n 0, 1) ∧ decode cX8_raw 104 = .ok (.iload_n 1, 1) ∧ decode cX8_raw 105 = .ok (.bipush 8, 2) ∧ decode cX8_raw 107 = .ok (.invokevirtual 158, 3) ∧ decode cX8_raw 110 = .ok (.invokestatic 168, 3) ∧ decode cX8_raw 113 = .ok (.ireturn, 1) := by decide +kernel
theorem dX8_raw_98 : decode cX8_raw 98 = .ok (.bipush 7, 2) := DX8_raw_6.1
theorem dX8_raw_100 : decode cX8_raw 100 = .ok (.invokevirtual 158, 3) := DX8_raw_6.2.1
theorem dX8_raw_103 : decode cX8_raw 103 = .ok (.aload_n 0, 1) := DX8_raw_6.2.2.1
theorem dX8_raw_104 : decode cX8_raw 104 = .ok (.iload_n 1, 1) := DX8_raw_6.2.2.2.1
theorem dX8_raw_105 : decode cX8_raw 105 = .ok (.bipush 8, 2) := DX8_raw_6.2.2.2.2.1
theorem dX8_raw_107 : decode cX8_raw 107 = .ok (.invokevirtual 158, 3) := DX8_raw_6.2.2.2.2.2.1
theorem dX8_raw_110 : decode cX8_raw 110 = .ok (.invokestatic 168, 3) := DX8_raw_6.2.2.2.2.2.2.1
theorem dX8_raw_113 : decode cX8_raw 113 = .ok (.ireturn, 1) := DX8_raw_6.2.2.2.2.2.2.2
set_option maxRecDepth 100000 in
theorem DX8_clipValue_0 : decode cX8_clipValue 0 = .ok (.aload_n 0, 1) ∧ decode cX8_clipValue 1 = .ok (.aload_n 0, 1) ∧ decode cX8_clipValue 2 = .ok (.iload_n 1, 1) ∧ decode cX8_clipValue 3 = .ok (.invokevirtual 136, 3) ∧ decode cX8_clipValue 6 = .ok (.ifCond .ne 7, 3) ∧ decode cX8_clipValue 9 = .ok (.iconst 1, 1) ∧ decode cX8_clipValue 10 = .ok (.goto 17, 3) ∧ decode cX8_clipValue 13 = .ok (.aload_n 0, 1) ∧ decode cX8_clipValue 14 = .ok (.iload_n 1, 1) ∧ decode cX8_clipValue 15 = .ok (.iload_n 2, 1) := by decide +kernel
theorem dX8_clipValue_0 : decode cX8_clipValue 0 = .ok (.aload_n 0, 1) := DX8_clipValue_0.1
theorem dX8_clipValue_1 : decode cX8_clipValue 1 = .ok (.aload_n 0, 1) := DX8_clipValue_0.2.1
theorem dX8_clipValue_2 : decode cX8_clipValue 2 = .ok (.iload_n 1, 1) := DX8_clipValue_0.2.2.1
theorem dX8_clipValue_3 : decode cX8_clipValue 3 = .ok (.invokevirtual 136, 3) := DX8_clipValue_0.2.2.2.1
theorem dX8_clipValue_6 : decode cX8_clipValue 6 = .ok (.ifCond .ne 7, 3) := DX8_clipValue_0.2.2.2.2.1
theorem dX8_clipValue_9 : decode cX8_clipValue 9 = .ok (.iconst 1, 1) := DX8_clipValue_0.2.2.2.2.2.1
theorem dX8_clipValue_10 : decode cX8_clipValue 10 = .ok (.goto 17, 3) := DX8_clipValue_0.2.2.2.2.2.2.1
theorem dX8_clipValue_13 : decode cX8_clipValue 13 = .ok (.aload_n 0, 1) := DX8_clipValue_0.2.2.2.2.2.2.2.1
theorem dX8_clipValue_14 : decode cX8_clipValue 14 = .ok (.iload_n 1, 1) := DX8_clipValue_0.2.2.2.2.2.2.2.2.1
theorem dX8_clipValue_15 : decode cX8_clipValue 15 = .ok (.iload_n 2, 1) := DX8_clipValue_0.2.2.2.2.2.2.2.2.2
set_option maxRecDepth 100000 in
theorem DX8_clipValue_1 : decode cX8_clipValue 16 = .ok (.invokevirtual 172, 3) ∧ decode cX8_clipValue 19 = .ok (.ifCond .eq 7, 3) ∧ decode cX8_clipValue 22 = .ok (.iconst 0, 1) ∧ decode cX8_clipValue 23 = .ok (.goto 4, 3) ∧ decode cX8_clipValue 26 = .ok (.iconst 2, 1) ∧ decode cX8_clipValue 27 = .ok (.invokevirtual 51, 3) ∧ decode cX8_clipValue 30 = .ok (.ifCond .eq 7, 3) ∧ decode cX8_clipValue 33 = .ok (.iconst 0, 1) ∧ decode cX8_clipValue 34 = .ok (.goto 9, 3) ∧ decode cX8_clipValue 37 = .ok (.aload_n 0, 1) := by decide +kernel
theorem dX8_clipValue_16 : decode cX8_clipValue 16 = .ok (.invokevirtual 172, 3) := DX8_clipValue_1.1
theorem dX8_clipValue_19 : decode cX8_clipValue 19 = .ok (.ifCond .eq 7, 3) := DX8_clipValue_1.2.1
theorem dX8_clipValue_22 : decode cX8_clipValue 22 = .ok (.iconst 0, 1) := DX8_clipValue_1.2.2.1
theorem dX8_clipValue_23 : decode cX8_clipValue 23 = .ok (.goto 4, 3) := DX8_clipValue_1.2.2.2.1
theorem dX8_clipValue_26 : decode cX8_clipValue 26 = .ok (.iconst 2, 1) := DX8_clipValue_1.2.2.2.2.1
theorem dX8_clipValue_27 : decode cX8_clipValue 27 = .ok (.invokevirtual 51, 3) := DX8_clipValue_1.2.2.2.2.2.1
theorem dX8_clipValue_30 : decode cX8_clipValue 30 = .ok (.ifCond .eq 7, 3) := DX8_clipValue_1.2.2.2.2.2.2.1
theorem dX8_clipValue_33 : decode cX8_clipValue 33 = .ok (.iconst 0, 1) := DX8_clipValue_1.2.2.2.2.2.2.2.1
theorem dX8_clipValue_34 : decode cX8_clipValue 34 = .ok (.goto 9, 3) := DX8_clipValue_1.2.2.2.2.2.2.2.2.1
theorem dX8_clipValue_37 : decode cX8_clipValue 37 = .ok (.aload_n 0, 1) := DX8_clipValue_1.2.2.2.2.2.2.2.2.2
set_option maxRecDepth 100000 in
theorem DX8_clipValue_2 : decode cX8_clipValue 38 = .ok (.iload_n 1, 1) ∧ decode cX8_clipValue 39 = .ok (.iload_n 2, 1) ∧ decode cX8_clipValue 40 = .ok (.invokevirtual 175, 3) ∧ decode cX8_clipValue 43 = .ok (.ireturn, 1) := by decide +kernel
theorem dX8_clipValue_38 : decode cX8_clipValue 38 = .ok (.iload_n 1, 1) := DX8_clipValue_2.1
theorem dX8_clipValue_39 : decode cX8_clipValue 39 = .ok (.iload_n 2, 1) := DX8_clipValue_2.2.1
theorem dX8_clipValue_40 : decode cX8_clipValue 40 = .ok (.invokevirtual 175, 3) := DX8_clipValue_2.2.2.1
theorem dX8_clipValue_43 : decode cX8_clipValue 43 = .ok (.ireturn, 1) := DX8_clipValue_2.2.2.2
set_option maxRecDepth 100000 in
theorem DX8_setTrack_0 : decode cX8_setTrack 0 = .ok (.iload_n 2, 1) ∧ decode cX8_setTrack 1 = .ok (.i2l, 1) ∧ decode cX8_setTrack 2 = .ok (.lconst 0, 1) ∧ decode cX8_setTrack 3 = .ok (.ldc2_w 117, 3) ∧ decode cX8_setTrack 6 = .ok (.invokestatic 45, 3) ∧ decode cX8_setTrack 9 = .ok (.ifCond .eq 21, 3) ∧ decode cX8_setTrack 12 = .ok (.iload_n 3, 1) ∧ decode cX8_setTrack 13 = .ok (.i2l, 1) ∧ decode cX8_setTrack 14 = .ok (.ldc2_w 178, 3) ∧ decode cX8_setTrack 17 = .ok (.ldc2_w 180, 3) := by decide +kernel
theorem dX8_setTrack_0 : decode cX8_setTrack 0 = .ok (.iload_n 2, 1) := DX8_setTrack_0.1
theorem dX8_setTrack_1 : decode cX8_setTrack 1 = .ok (.i2l, 1) := DX8_setTrack_0.2.1
theorem dX8_setTrack_2 : decode cX8_setTrack 2 = .ok (.lconst 0, 1) := DX8_setTrack_0.2.2.1
theorem dX8_setTrack_3 : decode cX8_setTrack 3 = .ok (.ldc2_w 117, 3) := DX8_setTrack_0.2.2.2.1
theorem dX8_setTrack_6 : decode cX8_setTrack 6 = .ok (.invokestatic 45, 3) := DX8_setTrack_0.2.2.2.2.1
theorem dX8_setTrack_9 : decode cX8_setTrack 9 = .ok (.ifCond .eq 21, 3) := DX8_setTrack_0.2.2.2.2.2.1
theorem dX8_setTrack_12 : decode cX8_setTrack 12 = .ok (.iload_n 3, 1) := DX8_setTrack_0.2.2.2.2.2.2.1
theorem dX8_setTrack_13 : decode cX8_setTrack 13 = .ok (.i2l, 1) := DX8_setTrack_0.2.2.2.2.2.2.2.1
theorem dX8_setTrack_14 : decode cX8_setTrack 14 = .ok (.ldc2_w 178, 3) := DX8_setTrack_0.2.2.2.2.2.2.2.2.1
theorem dX8_setTrack_17 : decode cX8_setTrack 17 = .ok (.ldc2_w 180, 3) := DX8_setTrack_0.2.2.2.2.2.2.2.2.2
set_option maxRecDepth 100000 in
theorem DX8_setTrack_1 : decode cX8_setTrack 20 = .ok (.invokestatic 45, 3) ∧ decode cX8_setTrack 23 = .ok (.ifCond .eq 7, 3) ∧ decode cX8_setTrack 26 = .ok (.iconst 1, 1) ∧ decode cX8_setTrack 27 = .ok (.goto 4, 3) ∧ decode cX8_setTrack 30 = .ok (.iconst 0, 1) ∧ decode cX8_setTrack 31 = .ok (.istore 6, 2) ∧ decode cX8_setTrack 33 = .ok (.aload_n 0, 1) ∧ decode cX8_setTrack 34 = .ok (.iload_n 1, 1) ∧ decode cX8_setTrack 35 = .ok (.invokestatic 111, 3) ∧ decode cX8_setTrack 38 = .ok (.ifCond .ne 7, 3) := by decide +kernel
theorem dX8_setTrack_20 : decode cX8_setTrack 20 = .ok (.invokestatic 45, 3) := DX8_setTrack_1.1
theorem dX8_setTrack_23 : decode cX8_setTrack 23 = .ok (.ifCond .eq 7, 3) := DX8_setTrack_1.2.1
theorem dX8_setTrack_26 : decode cX8_setTrack 26 = .ok (.iconst 1, 1) := DX8_setTrack_1.2.2.1
theorem dX8_setTrack_27 : decode cX8_setTrack 27 = .ok (.goto 4, 3) := DX8_setTrack_1.2.2.2.1
theorem dX8_setTrack_30 : decode cX8_setTrack 30 = .ok (.iconst 0, 1) := DX8_setTrack_1.2.2.2.2.1
theorem dX8_setTrack_31 : decode cX8_setTrack 31 = .ok (.istore 6, 2) := DX8_setTrack_1.2.2.2.2.2.1
theorem dX8_setTrack_33 : decode cX8_setTrack 33 = .ok (.aload_n 0, 1) := DX8_setTrack_1.2.2.2.2.2.2.1
theorem dX8_setTrack_34 : decode cX8_setTrack 34 = .ok (.iload_n 1, 1) := DX8_setTrack_1.2.2.2.2.2.2.2.1
theorem dX8_setTrack_35 : decode cX8_setTrack 35 = .ok (.invokestatic 111, 3) := DX8_setTrack_1.2.2.2.2.2.2.2.2.1
theorem dX8_setTrack_38 : decode cX8_setTrack 38 = .ok (.ifCond .ne 7, 3) := DX8_setTrack_1.2.2.2.2.2.2.2.2.2
set_option maxRecDepth 100000 in
theorem DX8_setTrack_2 : decode cX8_setTrack 41 = .ok (.iconst 1, 1) ∧ decode cX8_setTrack 42 = .ok (.goto 13, 3) ∧ decode cX8_setTrack 45 = .ok (.iload 6, 2) ∧ decode cX8_setTrack 47 = .ok (.ifCond .eq 7, 3) ∧ decode cX8_setTrack 50 = .ok (.iconst 0, 1) ∧ decode cX8_setTrack 51 = .ok (.goto 4, 3) ∧ decode cX8_setTrack 54 = .ok (.iconst 2, 1) ∧ decode cX8_setTrack 55 = .ok (.invokevirtual 73, 3) ∧ decode cX8_setTrack 58 = .ok (.ifCond .eq 5, 3) ∧ decode cX8_setTrack 61 = .ok (.iconst 0, 1) := by decide +kernel
theorem dX8_setTrack_41 : decode cX8_setTrack 41 = .ok (.iconst 1, 1) := DX8_setTrack_2.1
theorem dX8_setTrack_42 : decode cX8_setTrack 42 = .ok (.goto 13, 3) := DX8_setTrack_2.2.1
theorem dX8_setTrack_45 : decode cX8_setTrack 45 = .ok (.iload 6, 2) := DX8_setTrack_2.2.2.1
theorem dX8_setTrack_47 : decode cX8_setTrack 47 = .ok (.ifCond .eq 7, 3) := DX8_setTrack_2.2.2.2.1
theorem dX8_setTrack_50 : decode cX8_setTrack 50 = .ok (.iconst 0, 1) := DX8_setTrack_2.2.2.2.2.1
theorem dX8_setTrack_51 : decode cX8_setTrack 51 = .ok (.goto 4, 3) := DX8_setTrack_2.2.2.2.2.2.1
theorem dX8_setTrack_54 : decode cX8_setTrack 54 = .ok (.iconst 2, 1) := DX8_setTrack_2.2.2.2.2.2.2.1
theorem dX8_setTrack_55 : decode cX8_setTrack 55 = .ok (.invokevirtual 73, 3) := DX8_setTrack_2.2.2.2.2.2.2.2.1
theorem dX8_setTrack_58 : decode cX8_setTrack 58 = .ok (.ifCond .eq 5, 3) := DX8_setTrack_2.2.2.2.2.2.2.2.2.1
theorem dX8_setTrack_61 : decode cX8_setTrack 61 = .ok (.iconst 0, 1) := DX8_setTrack_2.2.2.2.2.2.2.2.2.2
set_option maxRecDepth 100000 in
theorem DX8_setTrack_3 : decode cX8_setTrack 62 = .ok (.ireturn, 1) ∧ decode cX8_setTrack 63 = .ok (.iload_n 1, 1) ∧ decode cX8_setTrack 64 = .ok (.invokestatic 35, 3) ∧ decode cX8_setTrack 67 = .ok (.istore 7, 2) ∧ decode cX8_setTrack 69 = .ok (.aload_n 0, 1) ∧ decode cX8_setTrack 70 = .ok (.getfield 7, 3) ∧ decode cX8_setTrack 73 = .ok (.iload 7, 2) ∧ decode cX8_setTrack 75 = .ok (.iconst 1, 1) ∧ decode cX8_setTrack 76 = .ok (.iadd, 1) ∧ decode cX8_setTrack 77 = .ok (.iload_n 3, 1) := by decide +kernel
theorem dX8_setTrack_62 : decode cX8_setTrack 62 = .ok (.ireturn, 1) := DX8_setTrack_3.1
theorem dX8_setTrack_63 : decode cX8_setTrack 63 = .ok (.iload_n 1, 1) := DX8_setTrack_3.2.1
theorem dX8_setTrack_64 : decode cX8_setTrack 64 = .ok (.invokestatic 35, 3) := DX8_setTrack_3.2.2.1
theorem dX8_setTrack_67 : decode cX8_setTrack 67 = .ok (.istore 7, 2) := DX8_setTrack_3.2.2.2.1
theorem dX8_setTrack_69 : decode cX8_setTrack 69 = .ok (.aload_n 0, 1) := DX8_setTrack_3.2.2.2.2.1
theorem dX8_setTrack_70 : decode cX8_setTrack 70 = .ok (.getfield 7, 3) := DX8_setTrack_3.2.2.2.2.2.1
theorem dX8_setTrack_73 : decode cX8_setTrack 73 = .ok (.iload 7, 2) := DX8_setTrack_3.2.2.2.2.2.2.1
theorem dX8_setTrack_75 : decode cX8_setTrack 75 = .ok (.iconst 1, 1) := DX8_setTrack_3.2.2.2.2.2.2.2.1
theorem dX8_setTrack_76 : decode cX8_setTrack 76 = .ok (.iadd, 1) := DX8_setTrack_3.2.2.2.2.2.2.2.2.1
theorem dX8_setTrack_77 : decode cX8_setTrack 77 = .ok (.iload_n 3, 1) := DX8_setTrack_3.2.2.2.2.2.2.2.2.2
set_option maxRecDepth 100000 in
theorem DX8_setTrack_4 : decode cX8_setTrack 78 = .ok (.iastore, 1) ∧ decode cX8_setTrack 79 = .ok (.aload_n 0, 1) ∧ decode cX8_setTrack 80 = .ok (.getfield 7, 3) ∧ decode cX8_setTrack 83 = .ok (.iload 7, 2) ∧ decode cX8_setTrack 85 = .ok (.iconst 2, 1) ∧ decode cX8_setTrack 86 = .ok (.iadd, 1) ∧ decode cX8_setTrack 87 = .ok (.iload 4, 2) ∧ decode cX8_setTrack 89 = .ok (.ifCond .eq 7, 3) ∧ decode cX8_setTrack 92 = .ok (.iconst 1, 1) ∧ decode cX8_setTrack 93 = .ok (.goto 4, 3) := by decide +kernel
theorem dX8_setTrack_78 : decode cX8_setTrack 78 = .ok (.iastore, 1) := DX8_setTrack_4.1
theorem dX8_setTrack_79 : decode cX8_setTrack 79 = .ok (.aload_n 0, 1) := DX8_setTrack_4.2.1
theorem dX8_setTrack_80 : decode cX8_setTrack 80 = .ok (.getfield 7, 3) := DX8_setTrack_4.2.2.1
theorem dX8_setTrack_83 : decode cX8_setTrack 83 = .ok (.iload 7, 2) := DX8_setTrack_4.2.2.2.1
theorem dX8_setTrack_85 : decode cX8_setTrack 85 = .ok (.iconst 2, 1) := DX8_setTrack_4.2.2.2.2.1
theorem dX8_setTrack_86 : decode cX8_setTrack 86 = .ok (.iadd, 1) := DX8_setTrack_4.2.2.2.2.2.1
theorem dX8_setTrack_87 : decode cX8_setTrack 87 = .ok (.iload 4, 2) := DX8_setTrack_4.2.2.2.2.2.2.1
theorem dX8_setTrack_89 : decode cX8_setTrack 89 = .ok (.ifCond .eq 7, 3) := DX8_setTrack_4.2.2.2.2.2.2.2.1
theorem dX8_setTrack_92 : decode cX8_setTrack 92 = .ok (.iconst 1, 1) := DX8_setTrack_4.2.2.2.2.2.2.2.2.1
theorem dX8_setTrack_93 : decode cX8_setTrack 93 = .ok (.goto 4, 3) := DX8_setTrack_4.2.2.2.2.2.2.2.2.2
set_option maxRecDepth 100000 in
theorem DX8_setTrack_5 : decode cX8_setTrack 96 = .ok (.iconst 0, 1) ∧ decode cX8_setTrack 97 = .ok (.iastore, 1) ∧ decode cX8_setTrack 98 = .ok (.aload_n 0, 1) ∧ decode cX8_setTrack 99 = .ok (.getfield 7, 3) ∧ decode cX8_setTrack 102 = .ok (.iload 7, 2) ∧ decode cX8_setTrack 104 = .ok (.iconst 3, 1) ∧ decode cX8_setTrack 105 = .ok (.iadd, 1) ∧ decode cX8_setTrack 106 = .ok (.iload 5, 2) ∧ decode cX8_setTrack 108 = .ok (.ifCond .eq 7, 3) ∧ decode cX8_setTrack 111 = .ok (.iconst 1, 1) := by decide +kernel
theorem dX8_setTrack_96 : decode cX8_setTrack 96 = .ok (.iconst 0, 1) := DX8_setTrack_5.1
theorem dX8_setTrack_97 : decode cX8_setTrack 97 = .ok (.iastore, 1) := DX8_setTrack_5.2.1
theorem dX8_setTrack_98 : decode cX8_setTrack 98 = .ok (.aload_n 0, 1) := DX8_setTrack_5.2.2.1
theorem dX8_setTrack_99 : decode cX8_setTrack 99 = .ok (.getfield 7, 3) := DX8_setTrack_5.2.2.2.1
theorem dX8_setTrack_102 : decode cX8_setTrack 102 = .ok (.iload 7, 2) := DX8_setTrack_5.2.2.2.2.1
theorem dX8_setTrack_104 : decode cX8_setTrack 104 = .ok (.iconst 3, 1) := DX8_setTrack_5.2.2.2.2.2.1
theorem dX8_setTrack_105 : decode cX8_setTrack 105 = .ok (.iadd, 1) := DX8_setTrack_5.2.2.2.2.2.2.1
theorem dX8_setTrack_106 : decode cX8_setTrack 106 = .ok (.iload 5, 2) := DX8_setTrack_5.2.2.2.2.2.2.2.1
theorem dX8_setTrack_108 : decode cX8_setTrack 108 = .ok (.ifCond .eq 7, 3) := DX8_setTrack_5.2.2.2.2.2.2.2.2.1
theorem dX8_setTrack_111 : decode cX8_setTrack 111 = .ok (.iconst 1, 1) := DX8_setTrack_5.2.2.2.2.2.2.2.2.2
set_option maxRecDepth 100000 in
theorem DX8_setTrack_6 : decode cX8_setTrack 112 = .ok (.goto 4, 3) ∧ decode cX8_setTrack 115 = .ok (.iconst 0, 1) ∧ decode cX8_setTrack 116 = .ok (.iastore, 1) ∧ decode cX8_setTrack 117 = .ok (.aload_n 0, 1) ∧ decode cX8_setTrack 118 = .ok (.iload 7, 2) ∧ decode cX8_setTrack 120 = .ok (.iload_n 2, 1) ∧ decode cX8_setTrack 121 = .ok (.invokevirtual 76, 3) ∧ decode cX8_setTrack 124 = .ok (.ireturn, 1) := by decide +kernel
theorem dX8_setTrack_112 : decode cX8_setTrack 112 = .ok (.goto 4, 3) := DX8_setTrack_6.1
theorem dX8_setTrack_115 : decode cX8_setTrack 115 = .ok (.iconst 0, 1) := DX8_setTrack_6.2.1
theorem dX8_setTrack_116 : decode cX8_setTrack 116 = .ok (.iastore, 1) := DX8_setTrack_6.2.2.1
theorem dX8_setTrack_117 : decode cX8_setTrack 117 = .ok (.aload_n 0, 1) := DX8_setTrack_6.2.2.2.1
theorem dX8_setTrack_118 : decode cX8_setTrack 118 = .ok (.iload 7, 2) := DX8_setTrack_6.2.2.2.2.1
theorem dX8_setTrack_120 : decode cX8_setTrack 120 = .ok (.iload_n 2, 1) := DX8_setTrack_6.2.2.2.2.2.1
theorem dX8_setTrack_121 : decode cX8_setTrack 121 = .ok (.invokevirtual 76, 3) := DX8_setTrack_6.2.2.2.2.2.2.1
theorem dX8_setTrack_124 : decode cX8_setTrack 124 = .ok (.ireturn, 1) := DX8_setTrack_6.2.2.2.2.2.2.2
set_option maxRecDepth 100000 in
theorem DX8_pointsAhead_0 : decode cX8_pointsAhead 0 = .ok (.iload_n 1, 1) ∧ decode cX8_pointsAhead 1 = .ok (.invokestatic 35, 3) ∧ decode cX8_pointsAhead 4 = .ok (.istore_n 3, 1) ∧ decode cX8_pointsAhead 5 = .ok (.iconst 0, 1) ∧ decode cX8_pointsAhead 6 = .ok (.istore 4, 2) ∧ decode cX8_pointsAhead 8 = .ok (.iload 4, 2) ∧ decode cX8_pointsAhead 10 = .ok (.aload_n 0, 1) ∧ decode cX8_pointsAhead 11 = .ok (.getfield 7, 3) ∧ decode cX8_pointsAhead 14 = .ok (.iload_n 3, 1) ∧ decode cX8_pointsAhead 15 = .ok (.iconst 4, 1) := by decide +kernel
theorem dX8_pointsAhead_0 : decode cX8_pointsAhead 0 = .ok (.iload_n 1, 1) := DX8_pointsAhead_0.1
theorem dX8_pointsAhead_1 : decode cX8_pointsAhead 1 = .ok (.invokestatic 35, 3) := DX8_pointsAhead_0.2.1
theorem dX8_pointsAhead_4 : decode cX8_pointsAhead 4 = .ok (.istore_n 3, 1) := DX8_pointsAhead_0.2.2.1
theorem dX8_pointsAhead_5 : decode cX8_pointsAhead 5 = .ok (.iconst 0, 1) := DX8_pointsAhead_0.2.2.2.1
theorem dX8_pointsAhead_6 : decode cX8_pointsAhead 6 = .ok (.istore 4, 2) := DX8_pointsAhead_0.2.2.2.2.1
theorem dX8_pointsAhead_8 : decode cX8_pointsAhead 8 = .ok (.iload 4, 2) := DX8_pointsAhead_0.2.2.2.2.2.1
theorem dX8_pointsAhead_10 : decode cX8_pointsAhead 10 = .ok (.aload_n 0, 1) := DX8_pointsAhead_0.2.2.2.2.2.2.1
theorem dX8_pointsAhead_11 : decode cX8_pointsAhead 11 = .ok (.getfield 7, 3) := DX8_pointsAhead_0.2.2.2.2.2.2.2.1
theorem dX8_pointsAhead_14 : decode cX8_pointsAhead 14 = .ok (.iload_n 3, 1) := DX8_pointsAhead_0.2.2.2.2.2.2.2.2.1
theorem dX8_pointsAhead_15 : decode cX8_pointsAhead 15 = .ok (.iconst 4, 1) := DX8_pointsAhead_0.2.2.2.2.2.2.2.2.2
set_option maxRecDepth 100000 in
theorem DX8_pointsAhead_1 : decode cX8_pointsAhead 16 = .ok (.iadd, 1) ∧ decode cX8_pointsAhead 17 = .ok (.iaload, 1) ∧ decode cX8_pointsAhead 18 = .ok (.if_icmp .ge 26, 3) ∧ decode cX8_pointsAhead 21 = .ok (.aload_n 0, 1) ∧ decode cX8_pointsAhead 22 = .ok (.getfield 7, 3) ∧ decode cX8_pointsAhead 25 = .ok (.iload_n 3, 1) ∧ decode cX8_pointsAhead 26 = .ok (.iconst 5, 1) ∧ decode cX8_pointsAhead 27 = .ok (.iadd, 1) ∧ decode cX8_pointsAhead 28 = .ok (.iconst 3, 1) ∧ decode cX8_pointsAhead 29 = .ok (.iload 4, 2) := by decide +kernel
theorem dX8_pointsAhead_16 : decode cX8_pointsAhead 16 = .ok (.iadd, 1) := DX8_pointsAhead_1.1
theorem dX8_pointsAhead_17 : decode cX8_pointsAhead 17 = .ok (.iaload, 1) := DX8_pointsAhead_1.2.1
theorem dX8_pointsAhead_18 : decode cX8_pointsAhead 18 = .ok (.if_icmp .ge 26, 3) := DX8_pointsAhead_1.2.2.1
theorem dX8_pointsAhead_21 : decode cX8_pointsAhead 21 = .ok (.aload_n 0, 1) := DX8_pointsAhead_1.2.2.2.1
theorem dX8_pointsAhead_22 : decode cX8_pointsAhead 22 = .ok (.getfield 7, 3) := DX8_pointsAhead_1.2.2.2.2.1
theorem dX8_pointsAhead_25 : decode cX8_pointsAhead 25 = .ok (.iload_n 3, 1) := DX8_pointsAhead_1.2.2.2.2.2.1
theorem dX8_pointsAhead_26 : decode cX8_pointsAhead 26 = .ok (.iconst 5, 1) := DX8_pointsAhead_1.2.2.2.2.2.2.1
theorem dX8_pointsAhead_27 : decode cX8_pointsAhead 27 = .ok (.iadd, 1) := DX8_pointsAhead_1.2.2.2.2.2.2.2.1
theorem dX8_pointsAhead_28 : decode cX8_pointsAhead 28 = .ok (.iconst 3, 1) := DX8_pointsAhead_1.2.2.2.2.2.2.2.2.1
theorem dX8_pointsAhead_29 : decode cX8_pointsAhead 29 = .ok (.iload 4, 2) := DX8_pointsAhead_1.2.2.2.2.2.2.2.2.2
set_option maxRecDepth 100000 in
theorem DX8_pointsAhead_2 : decode cX8_pointsAhead 31 = .ok (.imul, 1) ∧ decode cX8_pointsAhead 32 = .ok (.iadd, 1) ∧ decode cX8_pointsAhead 33 = .ok (.iaload, 1) ∧ decode cX8_pointsAhead 34 = .ok (.iload_n 2, 1) ∧ decode cX8_pointsAhead 35 = .ok (.if_icmp .ge 9, 3) ∧ decode cX8_pointsAhead 38 = .ok (.iinc 4 1, 3) ∧ decode cX8_pointsAhead 41 = .ok (.goto (-33), 3) ∧ decode cX8_pointsAhead 44 = .ok (.iload 4, 2) ∧ decode cX8_pointsAhead 46 = .ok (.ireturn, 1) := by decide +kernel
theorem dX8_pointsAhead_31 : decode cX8_pointsAhead 31 = .ok (.imul, 1) := DX8_pointsAhead_2.1
theorem dX8_pointsAhead_32 : decode cX8_pointsAhead 32 = .ok (.iadd, 1) := DX8_pointsAhead_2.2.1
theorem dX8_pointsAhead_33 : decode cX8_pointsAhead 33 = .ok (.iaload, 1) := DX8_pointsAhead_2.2.2.1
theorem dX8_pointsAhead_34 : decode cX8_pointsAhead 34 = .ok (.iload_n 2, 1) := DX8_pointsAhead_2.2.2.2.1
theorem dX8_pointsAhead_35 : decode cX8_pointsAhead 35 = .ok (.if_icmp .ge 9, 3) := DX8_pointsAhead_2.2.2.2.2.1
theorem dX8_pointsAhead_38 : decode cX8_pointsAhead 38 = .ok (.iinc 4 1, 3) := DX8_pointsAhead_2.2.2.2.2.2.1
theorem dX8_pointsAhead_41 : decode cX8_pointsAhead 41 = .ok (.goto (-33), 3) := DX8_pointsAhead_2.2.2.2.2.2.2.1
theorem dX8_pointsAhead_44 : decode cX8_pointsAhead 44 = .ok (.iload 4, 2) := DX8_pointsAhead_2.2.2.2.2.2.2.2.1
theorem dX8_pointsAhead_46 : decode cX8_pointsAhead 46 = .ok (.ireturn, 1) := DX8_pointsAhead_2.2.2.2.2.2.2.2.2
set_option maxRecDepth 100000 in
theorem DX8_hasPoint_0 : decode cX8_hasPoint 0 = .ok (.aload_n 0, 1) ∧ decode cX8_hasPoint 1 = .ok (.iload_n 1, 1) ∧ decode cX8_hasPoint 2 = .ok (.iload_n 2, 1) ∧ decode cX8_hasPoint 3 = .ok (.invokevirtual 182, 3) ∧ decode cX8_hasPoint 6 = .ok (.istore_n 3, 1) ∧ decode cX8_hasPoint 7 = .ok (.iload_n 3, 1) ∧ decode cX8_hasPoint 8 = .ok (.aload_n 0, 1) ∧ decode cX8_hasPoint 9 = .ok (.getfield 7, 3) ∧ decode cX8_hasPoint 12 = .ok (.iload_n 1, 1) ∧ decode cX8_hasPoint 13 = .ok (.invokestatic 35, 3) := by decide +kernel
theorem dX8_hasPoint_0 : decode cX8_hasPoint 0 = .ok (.aload_n 0, 1) := DX8_hasPoint_0.1
theorem dX8_hasPoint_1 : decode cX8_hasPoint 1 = .ok (.iload_n 1, 1) := DX8_hasPoint_0.2.1
theorem dX8_hasPoint_2 : decode cX8_hasPoint 2 = .ok (.iload_n 2, 1) := DX8_hasPoint_0.2.2.1
theorem dX8_hasPoint_3 : decode cX8_hasPoint 3 = .ok (.invokevirtual 182, 3) := DX8_hasPoint_0.2.2.2.1
theorem dX8_hasPoint_6 : decode cX8_hasPoint 6 = .ok (.istore_n 3, 1) := DX8_hasPoint_0.2.2.2.2.1
theorem dX8_hasPoint_7 : decode cX8_hasPoint 7 = .ok (.iload_n 3, 1) := DX8_hasPoint_0.2.2.2.2.2.1
theorem dX8_hasPoint_8 : decode cX8_hasPoint 8 = .ok (.aload_n 0, 1) := DX8_hasPoint_0.2.2.2.2.2.2.1
theorem dX8_hasPoint_9 : decode cX8_hasPoint 9 = .ok (.getfield 7, 3) := DX8_hasPoint_0.2.2.2.2.2.2.2.1
theorem dX8_hasPoint_12 : decode cX8_hasPoint 12 = .ok (.iload_n 1, 1) := DX8_hasPoint_0.2.2.2.2.2.2.2.2.1
theorem dX8_hasPoint_13 : decode cX8_hasPoint 13 = .ok (.invokestatic 35, 3) := DX8_hasPoint_0.2.2.2.2.2.2.2.2.2
set_option maxRecDepth 100000 in
theorem DX8_hasPoint_1 : decode cX8_hasPoint 16 = .ok (.iconst 4, 1) ∧ decode cX8_hasPoint 17 = .ok (.iadd, 1) ∧ decode cX8_hasPoint 18 = .ok (.iaload, 1) ∧ decode cX8_hasPoint 19 = .ok (.if_icmp .ge 26, 3) ∧ decode cX8_hasPoint 22 = .ok (.aload_n 0, 1) ∧ decode cX8_hasPoint 23 = .ok (.getfield 7, 3) ∧ decode cX8_hasPoint 26 = .ok (.iload_n 1, 1) ∧ decode cX8_hasPoint 27 = .ok (.invokestatic 35, 3) ∧ decode cX8_hasPoint 30 = .ok (.iconst 5, 1) ∧ decode cX8_hasPoint 31 = .ok (.iadd, 1) := by decide +kernel
theorem dX8_hasPoint_16 : decode cX8_hasPoint 16 = .ok (.iconst 4, 1) := DX8_hasPoint_1.1
theorem dX8_hasPoint_17 : decode cX8_hasPoint 17 = .ok (.iadd, 1) := DX8_hasPoint_1.2.1
theorem dX8_hasPoint_18 : decode cX8_hasPoint 18 = .ok (.iaload, 1) := DX8_hasPoint_1.2.2.1
theorem dX8_hasPoint_19 : decode cX8_hasPoint 19 = .ok (.if_icmp .ge 26, 3) := DX8_hasPoint_1.2.2.2.1
theorem dX8_hasPoint_22 : decode cX8_hasPoint 22 = .ok (.aload_n 0, 1) := DX8_hasPoint_1.2.2.2.2.1
theorem dX8_hasPoint_23 : decode cX8_hasPoint 23 = .ok (.getfield 7, 3) := DX8_hasPoint_1.2.2.2.2.2.1
theorem dX8_hasPoint_26 : decode cX8_hasPoint 26 = .ok (.iload_n 1, 1) := DX8_hasPoint_1.2.2.2.2.2.2.1
theorem dX8_hasPoint_27 : decode cX8_hasPoint 27 = .ok (.invokestatic 35, 3) := DX8_hasPoint_1.2.2.2.2.2.2.2.1
theorem dX8_hasPoint_30 : decode cX8_hasPoint 30 = .ok (.iconst 5, 1) := DX8_hasPoint_1.2.2.2.2.2.2.2.2.1
theorem dX8_hasPoint_31 : decode cX8_hasPoint 31 = .ok (.iadd, 1) := DX8_hasPoint_1.2.2.2.2.2.2.2.2.2
set_option maxRecDepth 100000 in
theorem DX8_hasPoint_2 : decode cX8_hasPoint 32 = .ok (.iconst 3, 1) ∧ decode cX8_hasPoint 33 = .ok (.iload_n 3, 1) ∧ decode cX8_hasPoint 34 = .ok (.imul, 1) ∧ decode cX8_hasPoint 35 = .ok (.iadd, 1) ∧ decode cX8_hasPoint 36 = .ok (.iaload, 1) ∧ decode cX8_hasPoint 37 = .ok (.iload_n 2, 1) ∧ decode cX8_hasPoint 38 = .ok (.if_icmp .ne 7, 3) ∧ decode cX8_hasPoint 41 = .ok (.iconst 1, 1) ∧ decode cX8_hasPoint 42 = .ok (.goto 4, 3) ∧ decode cX8_hasPoint 45 = .ok (.iconst 0, 1) := by decide +kernel
theorem dX8_hasPoint_32 : decode cX8_hasPoint 32 = .ok (.iconst 3, 1) := DX8_hasPoint_2.1
theorem dX8_hasPoint_33 : decode cX8_hasPoint 33 = .ok (.iload_n 3, 1) := DX8_hasPoint_2.2.1
theorem dX8_hasPoint_34 : decode cX8_hasPoint 34 = .ok (.imul, 1) := DX8_hasPoint_2.2.2.1
theorem dX8_hasPoint_35 : decode cX8_hasPoint 35 = .ok (.iadd, 1) := DX8_hasPoint_2.2.2.2.1
theorem dX8_hasPoint_36 : decode cX8_hasPoint 36 = .ok (.iaload, 1) := DX8_hasPoint_2.2.2.2.2.1
theorem dX8_hasPoint_37 : decode cX8_hasPoint 37 = .ok (.iload_n 2, 1) := DX8_hasPoint_2.2.2.2.2.2.1
theorem dX8_hasPoint_38 : decode cX8_hasPoint 38 = .ok (.if_icmp .ne 7, 3) := DX8_hasPoint_2.2.2.2.2.2.2.1
theorem dX8_hasPoint_41 : decode cX8_hasPoint 41 = .ok (.iconst 1, 1) := DX8_hasPoint_2.2.2.2.2.2.2.2.1
theorem dX8_hasPoint_42 : decode cX8_hasPoint 42 = .ok (.goto 4, 3) := DX8_hasPoint_2.2.2.2.2.2.2.2.2.1
theorem dX8_hasPoint_45 : decode cX8_hasPoint 45 = .ok (.iconst 0, 1) := DX8_hasPoint_2.2.2.2.2.2.2.2.2.2
set_option maxRecDepth 100000 in
theorem DX8_hasPoint_3 : decode cX8_hasPoint 46 = .ok (.ireturn, 1) := by decide +kernel
theorem dX8_hasPoint_46 : decode cX8_hasPoint 46 = .ok (.ireturn, 1) := DX8_hasPoint_3
set_option maxRecDepth 100000 in
theorem DX8_setPoint_0 : decode cX8_setPoint 0 = .ok (.iload_n 1, 1) ∧ decode cX8_setPoint 1 = .ok (.invokestatic 111, 3) ∧ decode cX8_setPoint 4 = .ok (.istore 5, 2) ∧ decode cX8_setPoint 6 = .ok (.iload 5, 2) ∧ decode cX8_setPoint 8 = .ok (.ifCond .eq 26, 3) ∧ decode cX8_setPoint 11 = .ok (.iload_n 2, 1) ∧ decode cX8_setPoint 12 = .ok (.invokestatic 114, 3) ∧ decode cX8_setPoint 15 = .ok (.ifCond .eq 19, 3) ∧ decode cX8_setPoint 18 = .ok (.iload_n 3, 1) ∧ decode cX8_setPoint 19 = .ok (.i2l, 1) := by decide +kernel
theorem dX8_setPoint_0 : decode cX8_setPoint 0 = .ok (.iload_n 1, 1) := DX8_setPoint_0.1
theorem dX8_setPoint_1 : decode cX8_setPoint 1 = .ok (.invokestatic 111, 3) := DX8_setPoint_0.2.1
theorem dX8_setPoint_4 : decode cX8_setPoint 4 = .ok (.istore 5, 2) := DX8_setPoint_0.2.2.1
theorem dX8_setPoint_6 : decode cX8_setPoint 6 = .ok (.iload 5, 2) := DX8_setPoint_0.2.2.2.1
theorem dX8_setPoint_8 : decode cX8_setPoint 8 = .ok (.ifCond .eq 26, 3) := DX8_setPoint_0.2.2.2.2.1
theorem dX8_setPoint_11 : decode cX8_setPoint 11 = .ok (.iload_n 2, 1) := DX8_setPoint_0.2.2.2.2.2.1
theorem dX8_setPoint_12 : decode cX8_setPoint 12 = .ok (.invokestatic 114, 3) := DX8_setPoint_0.2.2.2.2.2.2.1
theorem dX8_setPoint_15 : decode cX8_setPoint 15 = .ok (.ifCond .eq 19, 3) := DX8_setPoint_0.2.2.2.2.2.2.2.1
theorem dX8_setPoint_18 : decode cX8_setPoint 18 = .ok (.iload_n 3, 1) := DX8_setPoint_0.2.2.2.2.2.2.2.2.1
theorem dX8_setPoint_19 : decode cX8_setPoint 19 = .ok (.i2l, 1) := DX8_setPoint_0.2.2.2.2.2.2.2.2.2
set_option maxRecDepth 100000 in
theorem DX8_setPoint_1 : decode cX8_setPoint 20 = .ok (.lconst 0, 1) ∧ decode cX8_setPoint 21 = .ok (.ldc2_w 117, 3) ∧ decode cX8_setPoint 24 = .ok (.invokestatic 45, 3) ∧ decode cX8_setPoint 27 = .ok (.ifCond .eq 7, 3) ∧ decode cX8_setPoint 30 = .ok (.iconst 1, 1) ∧ decode cX8_setPoint 31 = .ok (.goto 4, 3) ∧ decode cX8_setPoint 34 = .ok (.iconst 0, 1) ∧ decode cX8_setPoint 35 = .ok (.istore 6, 2) ∧ decode cX8_setPoint 37 = .ok (.iload 6, 2) ∧ decode cX8_setPoint 39 = .ok (.ifCond .eq 16, 3) := by decide +kernel
theorem dX8_setPoint_20 : decode cX8_setPoint 20 = .ok (.lconst 0, 1) := DX8_setPoint_1.1
theorem dX8_setPoint_21 : decode cX8_setPoint 21 = .ok (.ldc2_w 117, 3) := DX8_setPoint_1.2.1
theorem dX8_setPoint_24 : decode cX8_setPoint 24 = .ok (.invokestatic 45, 3) := DX8_setPoint_1.2.2.1
theorem dX8_setPoint_27 : decode cX8_setPoint 27 = .ok (.ifCond .eq 7, 3) := DX8_setPoint_1.2.2.2.1
theorem dX8_setPoint_30 : decode cX8_setPoint 30 = .ok (.iconst 1, 1) := DX8_setPoint_1.2.2.2.2.1
theorem dX8_setPoint_31 : decode cX8_setPoint 31 = .ok (.goto 4, 3) := DX8_setPoint_1.2.2.2.2.2.1
theorem dX8_setPoint_34 : decode cX8_setPoint 34 = .ok (.iconst 0, 1) := DX8_setPoint_1.2.2.2.2.2.2.1
theorem dX8_setPoint_35 : decode cX8_setPoint 35 = .ok (.istore 6, 2) := DX8_setPoint_1.2.2.2.2.2.2.2.1
theorem dX8_setPoint_37 : decode cX8_setPoint 37 = .ok (.iload 6, 2) := DX8_setPoint_1.2.2.2.2.2.2.2.2.1
theorem dX8_setPoint_39 : decode cX8_setPoint 39 = .ok (.ifCond .eq 16, 3) := DX8_setPoint_1.2.2.2.2.2.2.2.2.2
set_option maxRecDepth 100000 in
theorem DX8_setPoint_2 : decode cX8_setPoint 42 = .ok (.aload_n 0, 1) ∧ decode cX8_setPoint 43 = .ok (.iload_n 1, 1) ∧ decode cX8_setPoint 44 = .ok (.iload_n 2, 1) ∧ decode cX8_setPoint 45 = .ok (.invokevirtual 185, 3) ∧ decode cX8_setPoint 48 = .ok (.ifCond .eq 7, 3) ∧ decode cX8_setPoint 51 = .ok (.iconst 1, 1) ∧ decode cX8_setPoint 52 = .ok (.goto 4, 3) ∧ decode cX8_setPoint 55 = .ok (.iconst 0, 1) ∧ decode cX8_setPoint 56 = .ok (.istore 7, 2) ∧ decode cX8_setPoint 58 = .ok (.aload_n 0, 1) := by decide +kernel
theorem dX8_setPoint_42 : decode cX8_setPoint 42 = .ok (.aload_n 0, 1) := DX8_setPoint_2.1
theorem dX8_setPoint_43 : decode cX8_setPoint 43 = .ok (.iload_n 1, 1) := DX8_setPoint_2.2.1
theorem dX8_setPoint_44 : decode cX8_setPoint 44 = .ok (.iload_n 2, 1) := DX8_setPoint_2.2.2.1
theorem dX8_setPoint_45 : decode cX8_setPoint 45 = .ok (.invokevirtual 185, 3) := DX8_setPoint_2.2.2.2.1
theorem dX8_setPoint_48 : decode cX8_setPoint 48 = .ok (.ifCond .eq 7, 3) := DX8_setPoint_2.2.2.2.2.1
theorem dX8_setPoint_51 : decode cX8_setPoint 51 = .ok (.iconst 1, 1) := DX8_setPoint_2.2.2.2.2.2.1
theorem dX8_setPoint_52 : decode cX8_setPoint 52 = .ok (.goto 4, 3) := DX8_setPoint_2.2.2.2.2.2.2.1
theorem dX8_setPoint_55 : decode cX8_setPoint 55 = .ok (.iconst 0, 1) := DX8_setPoint_2.2.2.2.2.2.2.2.1
theorem dX8_setPoint_56 : decode cX8_setPoint 56 = .ok (.istore 7, 2) := DX8_setPoint_2.2.2.2.2.2.2.2.2.1
theorem dX8_setPoint_58 : decode cX8_setPoint 58 = .ok (.aload_n 0, 1) := DX8_setPoint_2.2.2.2.2.2.2.2.2.2
set_option maxRecDepth 100000 in
theorem DX8_setPoint_3 : decode cX8_setPoint 59 = .ok (.iload 5, 2) ∧ decode cX8_setPoint 61 = .ok (.ifCond .ne 7, 3) ∧ decode cX8_setPoint 64 = .ok (.iconst 1, 1) ∧ decode cX8_setPoint 65 = .ok (.goto 38, 3) ∧ decode cX8_setPoint 68 = .ok (.iload 6, 2) ∧ decode cX8_setPoint 70 = .ok (.ifCond .ne 7, 3) ∧ decode cX8_setPoint 73 = .ok (.iconst 2, 1) ∧ decode cX8_setPoint 74 = .ok (.goto 29, 3) ∧ decode cX8_setPoint 77 = .ok (.iload 7, 2) ∧ decode cX8_setPoint 79 = .ok (.ifCond .ne 23, 3) := by decide +kernel
theorem dX8_setPoint_59 : decode cX8_setPoint 59 = .ok (.iload 5, 2) := DX8_setPoint_3.1
theorem dX8_setPoint_61 : decode cX8_setPoint 61 = .ok (.ifCond .ne 7, 3) := DX8_setPoint_3.2.1
theorem dX8_setPoint_64 : decode cX8_setPoint 64 = .ok (.iconst 1, 1) := DX8_setPoint_3.2.2.1
theorem dX8_setPoint_65 : decode cX8_setPoint 65 = .ok (.goto 38, 3) := DX8_setPoint_3.2.2.2.1
theorem dX8_setPoint_68 : decode cX8_setPoint 68 = .ok (.iload 6, 2) := DX8_setPoint_3.2.2.2.2.1
theorem dX8_setPoint_70 : decode cX8_setPoint 70 = .ok (.ifCond .ne 7, 3) := DX8_setPoint_3.2.2.2.2.2.1
theorem dX8_setPoint_73 : decode cX8_setPoint 73 = .ok (.iconst 2, 1) := DX8_setPoint_3.2.2.2.2.2.2.1
theorem dX8_setPoint_74 : decode cX8_setPoint 74 = .ok (.goto 29, 3) := DX8_setPoint_3.2.2.2.2.2.2.2.1
theorem dX8_setPoint_77 : decode cX8_setPoint 77 = .ok (.iload 7, 2) := DX8_setPoint_3.2.2.2.2.2.2.2.2.1
theorem dX8_setPoint_79 : decode cX8_setPoint 79 = .ok (.ifCond .ne 23, 3) := DX8_setPoint_3.2.2.2.2.2.2.2.2.2
set_option maxRecDepth 100000 in
theorem DX8_setPoint_4 : decode cX8_setPoint 82 = .ok (.aload_n 0, 1) ∧ decode cX8_setPoint 83 = .ok (.getfield 7, 3) ∧ decode cX8_setPoint 86 = .ok (.iload_n 1, 1) ∧ decode cX8_setPoint 87 = .ok (.invokestatic 35, 3) ∧ decode cX8_setPoint 90 = .ok (.iconst 4, 1) ∧ decode cX8_setPoint 91 = .ok (.iadd, 1) ∧ decode cX8_setPoint 92 = .ok (.iaload, 1) ∧ decode cX8_setPoint 93 = .ok (.bipush 8, 2) ∧ decode cX8_setPoint 95 = .ok (.if_icmp .ne 7, 3) ∧ decode cX8_setPoint 98 = .ok (.iconst 3, 1) := by decide +kernel
theorem dX8_setPoint_82 : decode cX8_setPoint 82 = .ok (.aload_n 0, 1) := DX8_setPoint_4.1
theorem dX8_setPoint_83 : decode cX8_setPoint 83 = .ok (.getfield 7, 3) := DX8_setPoint_4.2.1
theorem dX8_setPoint_86 : decode cX8_setPoint 86 = .ok (.iload_n 1, 1) := DX8_setPoint_4.2.2.1
theorem dX8_setPoint_87 : decode cX8_setPoint 87 = .ok (.invokestatic 35, 3) := DX8_setPoint_4.2.2.2.1
theorem dX8_setPoint_90 : decode cX8_setPoint 90 = .ok (.iconst 4, 1) := DX8_setPoint_4.2.2.2.2.1
theorem dX8_setPoint_91 : decode cX8_setPoint 91 = .ok (.iadd, 1) := DX8_setPoint_4.2.2.2.2.2.1
theorem dX8_setPoint_92 : decode cX8_setPoint 92 = .ok (.iaload, 1) := DX8_setPoint_4.2.2.2.2.2.2.1
theorem dX8_setPoint_93 : decode cX8_setPoint 93 = .ok (.bipush 8, 2) := DX8_setPoint_4.2.2.2.2.2.2.2.1
theorem dX8_setPoint_95 : decode cX8_setPoint 95 = .ok (.if_icmp .ne 7, 3) := DX8_setPoint_4.2.2.2.2.2.2.2.2.1
theorem dX8_setPoint_98 : decode cX8_setPoint 98 = .ok (.iconst 3, 1) := DX8_setPoint_4.2.2.2.2.2.2.2.2.2
set_option maxRecDepth 100000 in
theorem DX8_setPoint_5 : decode cX8_setPoint 99 = .ok (.goto 4, 3) ∧ decode cX8_setPoint 102 = .ok (.iconst 0, 1) ∧ decode cX8_setPoint 103 = .ok (.invokevirtual 73, 3) ∧ decode cX8_setPoint 106 = .ok (.ifCond .eq 5, 3) ∧ decode cX8_setPoint 109 = .ok (.iconst 0, 1) ∧ decode cX8_setPoint 110 = .ok (.ireturn, 1) ∧ decode cX8_setPoint 111 = .ok (.iload_n 1, 1) ∧ decode cX8_setPoint 112 = .ok (.invokestatic 35, 3) ∧ decode cX8_setPoint 115 = .ok (.istore 8, 2) ∧ decode cX8_setPoint 117 = .ok (.aload_n 0, 1) := by decide +kernel
theorem dX8_setPoint_99 : decode cX8_setPoint 99 = .ok (.goto 4, 3) := DX8_setPoint_5.1
theorem dX8_setPoint_102 : decode cX8_setPoint 102 = .ok (.iconst 0, 1) := DX8_setPoint_5.2.1
theorem dX8_setPoint_103 : decode cX8_setPoint 103 = .ok (.invokevirtual 73, 3) := DX8_setPoint_5.2.2.1
theorem dX8_setPoint_106 : decode cX8_setPoint 106 = .ok (.ifCond .eq 5, 3) := DX8_setPoint_5.2.2.2.1
theorem dX8_setPoint_109 : decode cX8_setPoint 109 = .ok (.iconst 0, 1) := DX8_setPoint_5.2.2.2.2.1
theorem dX8_setPoint_110 : decode cX8_setPoint 110 = .ok (.ireturn, 1) := DX8_setPoint_5.2.2.2.2.2.1
theorem dX8_setPoint_111 : decode cX8_setPoint 111 = .ok (.iload_n 1, 1) := DX8_setPoint_5.2.2.2.2.2.2.1
theorem dX8_setPoint_112 : decode cX8_setPoint 112 = .ok (.invokestatic 35, 3) := DX8_setPoint_5.2.2.2.2.2.2.2.1
theorem dX8_setPoint_115 : decode cX8_setPoint 115 = .ok (.istore 8, 2) := DX8_setPoint_5.2.2.2.2.2.2.2.2.1
theorem dX8_setPoint_117 : decode cX8_setPoint 117 = .ok (.aload_n 0, 1) := DX8_setPoint_5.2.2.2.2.2.2.2.2.2
set_option maxRecDepth 100000 in
theorem DX8_setPoint_6 : decode cX8_setPoint 118 = .ok (.iload_n 1, 1) ∧ decode cX8_setPoint 119 = .ok (.iload_n 2, 1) ∧ decode cX8_setPoint 120 = .ok (.invokevirtual 182, 3) ∧ decode cX8_setPoint 123 = .ok (.istore 9, 2) ∧ decode cX8_setPoint 125 = .ok (.iload 7, 2) ∧ decode cX8_setPoint 127 = .ok (.ifCond .ne 72, 3) ∧ decode cX8_setPoint 130 = .ok (.iconst 3, 1) ∧ decode cX8_setPoint 131 = .ok (.aload_n 0, 1) ∧ decode cX8_setPoint 132 = .ok (.getfield 7, 3) ∧ decode cX8_setPoint 135 = .ok (.iload 8, 2) := by decide +kernel
theorem dX8_setPoint_118 : decode cX8_setPoint 118 = .ok (.iload_n 1, 1) := DX8_setPoint_6.1
theorem dX8_setPoint_119 : decode cX8_setPoint 119 = .ok (.iload_n 2, 1) := DX8_setPoint_6.2.1
theorem dX8_setPoint_120 : decode cX8_setPoint 120 = .ok (.invokevirtual 182, 3) := DX8_setPoint_6.2.2.1
theorem dX8_setPoint_123 : decode cX8_setPoint 123 = .ok (.istore 9, 2) := DX8_setPoint_6.2.2.2.1
theorem dX8_setPoint_125 : decode cX8_setPoint 125 = .ok (.iload 7, 2) := DX8_setPoint_6.2.2.2.2.1
theorem dX8_setPoint_127 : decode cX8_setPoint 127 = .ok (.ifCond .ne 72, 3) := DX8_setPoint_6.2.2.2.2.2.1
theorem dX8_setPoint_130 : decode cX8_setPoint 130 = .ok (.iconst 3, 1) := DX8_setPoint_6.2.2.2.2.2.2.1
theorem dX8_setPoint_131 : decode cX8_setPoint 131 = .ok (.aload_n 0, 1) := DX8_setPoint_6.2.2.2.2.2.2.2.1
theorem dX8_setPoint_132 : decode cX8_setPoint 132 = .ok (.getfield 7, 3) := DX8_setPoint_6.2.2.2.2.2.2.2.2.1
theorem dX8_setPoint_135 : decode cX8_setPoint 135 = .ok (.iload 8, 2) := DX8_setPoint_6.2.2.2.2.2.2.2.2.2
set_option maxRecDepth 100000 in
theorem DX8_setPoint_7 : decode cX8_setPoint 137 = .ok (.iconst 4, 1) ∧ decode cX8_setPoint 138 = .ok (.iadd, 1) ∧ decode cX8_setPoint 139 = .ok (.iaload, 1) ∧ decode cX8_setPoint 140 = .ok (.imul, 1) ∧ decode cX8_setPoint 141 = .ok (.iconst 1, 1) ∧ decode cX8_setPoint 142 = .ok (.isub, 1) ∧ decode cX8_setPoint 143 = .ok (.istore 10, 2) ∧ decode cX8_setPoint 145 = .ok (.iload 10, 2) ∧ decode cX8_setPoint 147 = .ok (.iconst 3, 1) ∧ decode cX8_setPoint 148 = .ok (.iload 9, 2) := by decide +kernel
theorem dX8_setPoint_137 : decode cX8_setPoint 137 = .ok (.iconst 4, 1) := DX8_setPoint_7.1
theorem dX8_setPoint_138 : decode cX8_setPoint 138 = .ok (.iadd, 1) := DX8_setPoint_7.2.1
theorem dX8_setPoint_139 : decode cX8_setPoint 139 = .ok (.iaload, 1) := DX8_setPoint_7.2.2.1
theorem dX8_setPoint_140 : decode cX8_setPoint 140 = .ok (.imul, 1) := DX8_setPoint_7.2.2.2.1
theorem dX8_setPoint_141 : decode cX8_setPoint 141 = .ok (.iconst 1, 1) := DX8_setPoint_7.2.2.2.2.1
theorem dX8_setPoint_142 : decode cX8_setPoint 142 = .ok (.isub, 1) := DX8_setPoint_7.2.2.2.2.2.1
theorem dX8_setPoint_143 : decode cX8_setPoint 143 = .ok (.istore 10, 2) := DX8_setPoint_7.2.2.2.2.2.2.1
theorem dX8_setPoint_145 : decode cX8_setPoint 145 = .ok (.iload 10, 2) := DX8_setPoint_7.2.2.2.2.2.2.2.1
theorem dX8_setPoint_147 : decode cX8_setPoint 147 = .ok (.iconst 3, 1) := DX8_setPoint_7.2.2.2.2.2.2.2.2.1
theorem dX8_setPoint_148 : decode cX8_setPoint 148 = .ok (.iload 9, 2) := DX8_setPoint_7.2.2.2.2.2.2.2.2.2
set_option maxRecDepth 100000 in
theorem DX8_setPoint_8 : decode cX8_setPoint 150 = .ok (.imul, 1) ∧ decode cX8_setPoint 151 = .ok (.if_icmp .lt 35, 3) ∧ decode cX8_setPoint 154 = .ok (.aload_n 0, 1) ∧ decode cX8_setPoint 155 = .ok (.getfield 7, 3) ∧ decode cX8_setPoint 158 = .ok (.iload 8, 2) ∧ decode cX8_setPoint 160 = .ok (.iconst 5, 1) ∧ decode cX8_setPoint 161 = .ok (.iadd, 1) ∧ decode cX8_setPoint 162 = .ok (.iload 10, 2) ∧ decode cX8_setPoint 164 = .ok (.iadd, 1) ∧ decode cX8_setPoint 165 = .ok (.iconst 3, 1) := by decide +kernel
theorem dX8_setPoint_150 : decode cX8_setPoint 150 = .ok (.imul, 1) := DX8_setPoint_8.1
theorem dX8_setPoint_151 : decode cX8_setPoint 151 = .ok (.if_icmp .lt 35, 3) := DX8_setPoint_8.2.1
theorem dX8_setPoint_154 : decode cX8_setPoint 154 = .ok (.aload_n 0, 1) := DX8_setPoint_8.2.2.1
theorem dX8_setPoint_155 : decode cX8_setPoint 155 = .ok (.getfield 7, 3) := DX8_setPoint_8.2.2.2.1
theorem dX8_setPoint_158 : decode cX8_setPoint 158 = .ok (.iload 8, 2) := DX8_setPoint_8.2.2.2.2.1
theorem dX8_setPoint_160 : decode cX8_setPoint 160 = .ok (.iconst 5, 1) := DX8_setPoint_8.2.2.2.2.2.1
theorem dX8_setPoint_161 : decode cX8_setPoint 161 = .ok (.iadd, 1) := DX8_setPoint_8.2.2.2.2.2.2.1
theorem dX8_setPoint_162 : decode cX8_setPoint 162 = .ok (.iload 10, 2) := DX8_setPoint_8.2.2.2.2.2.2.2.1
theorem dX8_setPoint_164 : decode cX8_setPoint 164 = .ok (.iadd, 1) := DX8_setPoint_8.2.2.2.2.2.2.2.2.1
theorem dX8_setPoint_165 : decode cX8_setPoint 165 = .ok (.iconst 3, 1) := DX8_setPoint_8.2.2.2.2.2.2.2.2.2
set_option maxRecDepth 100000 in
theorem DX8_setPoint_9 : decode cX8_setPoint 166 = .ok (.iadd, 1) ∧ decode cX8_setPoint 167 = .ok (.aload_n 0, 1) ∧ decode cX8_setPoint 168 = .ok (.getfield 7, 3) ∧ decode cX8_setPoint 171 = .ok (.iload 8, 2) ∧ decode cX8_setPoint 173 = .ok (.iconst 5, 1) ∧ decode cX8_setPoint 174 = .ok (.iadd, 1) ∧ decode cX8_setPoint 175 = .ok (.iload 10, 2) ∧ decode cX8_setPoint 177 = .ok (.iadd, 1) ∧ decode cX8_setPoint 178 = .ok (.iaload, 1) ∧ decode cX8_setPoint 179 = .ok (.iastore, 1) := by decide +kernel
theorem dX8_setPoint_166 : decode cX8_setPoint 166 = .ok (.iadd, 1) := DX8_setPoint_9.1
theorem dX8_setPoint_167 : decode cX8_setPoint 167 = .ok (.aload_n 0, 1) := DX8_setPoint_9.2.1
theorem dX8_setPoint_168 : decode cX8_setPoint 168 = .ok (.getfield 7, 3) := DX8_setPoint_9.2.2.1
theorem dX8_setPoint_171 : decode cX8_setPoint 171 = .ok (.iload 8, 2) := DX8_setPoint_9.2.2.2.1
theorem dX8_setPoint_173 : decode cX8_setPoint 173 = .ok (.iconst 5, 1) := DX8_setPoint_9.2.2.2.2.1
theorem dX8_setPoint_174 : decode cX8_setPoint 174 = .ok (.iadd, 1) := DX8_setPoint_9.2.2.2.2.2.1
theorem dX8_setPoint_175 : decode cX8_setPoint 175 = .ok (.iload 10, 2) := DX8_setPoint_9.2.2.2.2.2.2.1
theorem dX8_setPoint_177 : decode cX8_setPoint 177 = .ok (.iadd, 1) := DX8_setPoint_9.2.2.2.2.2.2.2.1
theorem dX8_setPoint_178 : decode cX8_setPoint 178 = .ok (.iaload, 1) := DX8_setPoint_9.2.2.2.2.2.2.2.2.1
theorem dX8_setPoint_179 : decode cX8_setPoint 179 = .ok (.iastore, 1) := DX8_setPoint_9.2.2.2.2.2.2.2.2.2
set_option maxRecDepth 100000 in
theorem DX8_setPoint_10 : decode cX8_setPoint 180 = .ok (.iinc 10 (-1), 3) ∧ decode cX8_setPoint 183 = .ok (.goto (-38), 3) ∧ decode cX8_setPoint 186 = .ok (.aload_n 0, 1) ∧ decode cX8_setPoint 187 = .ok (.getfield 7, 3) ∧ decode cX8_setPoint 190 = .ok (.iload 8, 2) ∧ decode cX8_setPoint 192 = .ok (.iconst 4, 1) ∧ decode cX8_setPoint 193 = .ok (.iadd, 1) ∧ decode cX8_setPoint 194 = .ok (.dup2, 1) ∧ decode cX8_setPoint 195 = .ok (.iaload, 1) ∧ decode cX8_setPoint 196 = .ok (.iconst 1, 1) := by decide +kernel
theorem dX8_setPoint_180 : decode cX8_setPoint 180 = .ok (.iinc 10 (-1), 3) := DX8_setPoint_10.1
theorem dX8_setPoint_183 : decode cX8_setPoint 183 = .ok (.goto (-38), 3) := DX8_setPoint_10.2.1
theorem dX8_setPoint_186 : decode cX8_setPoint 186 = .ok (.aload_n 0, 1) := DX8_setPoint_10.2.2.1
theorem dX8_setPoint_187 : decode cX8_setPoint 187 = .ok (.getfield 7, 3) := DX8_setPoint_10.2.2.2.1
theorem dX8_setPoint_190 : decode cX8_setPoint 190 = .ok (.iload 8, 2) := DX8_setPoint_10.2.2.2.2.1
theorem dX8_setPoint_192 : decode cX8_setPoint 192 = .ok (.iconst 4, 1) := DX8_setPoint_10.2.2.2.2.2.1
theorem dX8_setPoint_193 : decode cX8_setPoint 193 = .ok (.iadd, 1) := DX8_setPoint_10.2.2.2.2.2.2.1
theorem dX8_setPoint_194 : decode cX8_setPoint 194 = .ok (.dup2, 1) := DX8_setPoint_10.2.2.2.2.2.2.2.1
theorem dX8_setPoint_195 : decode cX8_setPoint 195 = .ok (.iaload, 1) := DX8_setPoint_10.2.2.2.2.2.2.2.2.1
theorem dX8_setPoint_196 : decode cX8_setPoint 196 = .ok (.iconst 1, 1) := DX8_setPoint_10.2.2.2.2.2.2.2.2.2
set_option maxRecDepth 100000 in
theorem DX8_setPoint_11 : decode cX8_setPoint 197 = .ok (.iadd, 1) ∧ decode cX8_setPoint 198 = .ok (.iastore, 1) ∧ decode cX8_setPoint 199 = .ok (.aload_n 0, 1) ∧ decode cX8_setPoint 200 = .ok (.getfield 7, 3) ∧ decode cX8_setPoint 203 = .ok (.iload 8, 2) ∧ decode cX8_setPoint 205 = .ok (.iconst 5, 1) ∧ decode cX8_setPoint 206 = .ok (.iadd, 1) ∧ decode cX8_setPoint 207 = .ok (.iconst 3, 1) ∧ decode cX8_setPoint 208 = .ok (.iload 9, 2) ∧ decode cX8_setPoint 210 = .ok (.imul, 1) := by decide +kernel
theorem dX8_setPoint_197 : decode cX8_setPoint 197 = .ok (.iadd, 1) := DX8_setPoint_11.1
theorem dX8_setPoint_198 : decode cX8_setPoint 198 = .ok (.iastore, 1) := DX8_setPoint_11.2.1
theorem dX8_setPoint_199 : decode cX8_setPoint 199 = .ok (.aload_n 0, 1) := DX8_setPoint_11.2.2.1
theorem dX8_setPoint_200 : decode cX8_setPoint 200 = .ok (.getfield 7, 3) := DX8_setPoint_11.2.2.2.1
theorem dX8_setPoint_203 : decode cX8_setPoint 203 = .ok (.iload 8, 2) := DX8_setPoint_11.2.2.2.2.1
theorem dX8_setPoint_205 : decode cX8_setPoint 205 = .ok (.iconst 5, 1) := DX8_setPoint_11.2.2.2.2.2.1
theorem dX8_setPoint_206 : decode cX8_setPoint 206 = .ok (.iadd, 1) := DX8_setPoint_11.2.2.2.2.2.2.1
theorem dX8_setPoint_207 : decode cX8_setPoint 207 = .ok (.iconst 3, 1) := DX8_setPoint_11.2.2.2.2.2.2.2.1
theorem dX8_setPoint_208 : decode cX8_setPoint 208 = .ok (.iload 9, 2) := DX8_setPoint_11.2.2.2.2.2.2.2.2.1
theorem dX8_setPoint_210 : decode cX8_setPoint 210 = .ok (.imul, 1) := DX8_setPoint_11.2.2.2.2.2.2.2.2.2
set_option maxRecDepth 100000 in
theorem DX8_setPoint_12 : decode cX8_setPoint 211 = .ok (.iadd, 1) ∧ decode cX8_setPoint 212 = .ok (.iload_n 2, 1) ∧ decode cX8_setPoint 213 = .ok (.iastore, 1) ∧ decode cX8_setPoint 214 = .ok (.aload_n 0, 1) ∧ decode cX8_setPoint 215 = .ok (.getfield 7, 3) ∧ decode cX8_setPoint 218 = .ok (.iload 8, 2) ∧ decode cX8_setPoint 220 = .ok (.iconst 5, 1) ∧ decode cX8_setPoint 221 = .ok (.iadd, 1) ∧ decode cX8_setPoint 222 = .ok (.iconst 3, 1) ∧ decode cX8_setPoint 223 = .ok (.iload 9, 2) := by decide +kernel
theorem dX8_setPoint_211 : decode cX8_setPoint 211 = .ok (.iadd, 1) := DX8_setPoint_12.1
theorem dX8_setPoint_212 : decode cX8_setPoint 212 = .ok (.iload_n 2, 1) := DX8_setPoint_12.2.1
theorem dX8_setPoint_213 : decode cX8_setPoint 213 = .ok (.iastore, 1) := DX8_setPoint_12.2.2.1
theorem dX8_setPoint_214 : decode cX8_setPoint 214 = .ok (.aload_n 0, 1) := DX8_setPoint_12.2.2.2.1
theorem dX8_setPoint_215 : decode cX8_setPoint 215 = .ok (.getfield 7, 3) := DX8_setPoint_12.2.2.2.2.1
theorem dX8_setPoint_218 : decode cX8_setPoint 218 = .ok (.iload 8, 2) := DX8_setPoint_12.2.2.2.2.2.1
theorem dX8_setPoint_220 : decode cX8_setPoint 220 = .ok (.iconst 5, 1) := DX8_setPoint_12.2.2.2.2.2.2.1
theorem dX8_setPoint_221 : decode cX8_setPoint 221 = .ok (.iadd, 1) := DX8_setPoint_12.2.2.2.2.2.2.2.1
theorem dX8_setPoint_222 : decode cX8_setPoint 222 = .ok (.iconst 3, 1) := DX8_setPoint_12.2.2.2.2.2.2.2.2.1
theorem dX8_setPoint_223 : decode cX8_setPoint 223 = .ok (.iload 9, 2) := DX8_setPoint_12.2.2.2.2.2.2.2.2.2
set_option maxRecDepth 100000 in
theorem DX8_setPoint_13 : decode cX8_setPoint 225 = .ok (.imul, 1) ∧ decode cX8_setPoint 226 = .ok (.iadd, 1) ∧ decode cX8_setPoint 227 = .ok (.iconst 1, 1) ∧ decode cX8_setPoint 228 = .ok (.iadd, 1) ∧ decode cX8_setPoint 229 = .ok (.iload_n 3, 1) ∧ decode cX8_setPoint 230 = .ok (.iastore, 1) ∧ decode cX8_setPoint 231 = .ok (.aload_n 0, 1) ∧ decode cX8_setPoint 232 = .ok (.getfield 7, 3) ∧ decode cX8_setPoint 235 = .ok (.iload 8, 2) ∧ decode cX8_setPoint 237 = .ok (.iconst 5, 1) := by decide +kernel
theorem dX8_setPoint_225 : decode cX8_setPoint 225 = .ok (.imul, 1) := DX8_setPoint_13.1
theorem dX8_setPoint_226 : decode cX8_setPoint 226 = .ok (.iadd, 1) := DX8_setPoint_13.2.1
theorem dX8_setPoint_227 : decode cX8_setPoint 227 = .ok (.iconst 1, 1) := DX8_setPoint_13.2.2.1
theorem dX8_setPoint_228 : decode cX8_setPoint 228 = .ok (.iadd, 1) := DX8_setPoint_13.2.2.2.1
theorem dX8_setPoint_229 : decode cX8_setPoint 229 = .ok (.iload_n 3, 1) := DX8_setPoint_13.2.2.2.2.1
theorem dX8_setPoint_230 : decode cX8_setPoint 230 = .ok (.iastore, 1) := DX8_setPoint_13.2.2.2.2.2.1
theorem dX8_setPoint_231 : decode cX8_setPoint 231 = .ok (.aload_n 0, 1) := DX8_setPoint_13.2.2.2.2.2.2.1
theorem dX8_setPoint_232 : decode cX8_setPoint 232 = .ok (.getfield 7, 3) := DX8_setPoint_13.2.2.2.2.2.2.2.1
theorem dX8_setPoint_235 : decode cX8_setPoint 235 = .ok (.iload 8, 2) := DX8_setPoint_13.2.2.2.2.2.2.2.2.1
theorem dX8_setPoint_237 : decode cX8_setPoint 237 = .ok (.iconst 5, 1) := DX8_setPoint_13.2.2.2.2.2.2.2.2.2
set_option maxRecDepth 100000 in
theorem DX8_setPoint_14 : decode cX8_setPoint 238 = .ok (.iadd, 1) ∧ decode cX8_setPoint 239 = .ok (.iconst 3, 1) ∧ decode cX8_setPoint 240 = .ok (.iload 9, 2) ∧ decode cX8_setPoint 242 = .ok (.imul, 1) ∧ decode cX8_setPoint 243 = .ok (.iadd, 1) ∧ decode cX8_setPoint 244 = .ok (.iconst 2, 1) ∧ decode cX8_setPoint 245 = .ok (.iadd, 1) ∧ decode cX8_setPoint 246 = .ok (.iload 4, 2) ∧ decode cX8_setPoint 248 = .ok (.ifCond .eq 7, 3) ∧ decode cX8_setPoint 251 = .ok (.iconst 1, 1) := by decide +kernel
theorem dX8_setPoint_238 : decode cX8_setPoint 238 = .ok (.iadd, 1) := DX8_setPoint_14.1
theorem dX8_setPoint_239 : decode cX8_setPoint 239 = .ok (.iconst 3, 1) := DX8_setPoint_14.2.1
theorem dX8_setPoint_240 : decode cX8_setPoint 240 = .ok (.iload 9, 2) := DX8_setPoint_14.2.2.1
theorem dX8_setPoint_242 : decode cX8_setPoint 242 = .ok (.imul, 1) := DX8_setPoint_14.2.2.2.1
theorem dX8_setPoint_243 : decode cX8_setPoint 243 = .ok (.iadd, 1) := DX8_setPoint_14.2.2.2.2.1
theorem dX8_setPoint_244 : decode cX8_setPoint 244 = .ok (.iconst 2, 1) := DX8_setPoint_14.2.2.2.2.2.1
theorem dX8_setPoint_245 : decode cX8_setPoint 245 = .ok (.iadd, 1) := DX8_setPoint_14.2.2.2.2.2.2.1
theorem dX8_setPoint_246 : decode cX8_setPoint 246 = .ok (.iload 4, 2) := DX8_setPoint_14.2.2.2.2.2.2.2.1
theorem dX8_setPoint_248 : decode cX8_setPoint 248 = .ok (.ifCond .eq 7, 3) := DX8_setPoint_14.2.2.2.2.2.2.2.2.1
theorem dX8_setPoint_251 : decode cX8_setPoint 251 = .ok (.iconst 1, 1) := DX8_setPoint_14.2.2.2.2.2.2.2.2.2
set_option maxRecDepth 100000 in
theorem DX8_setPoint_15 : decode cX8_setPoint 252 = .ok (.goto 4, 3) ∧ decode cX8_setPoint 255 = .ok (.iconst 0, 1) ∧ decode cX8_setPoint 256 = .ok (.iastore, 1) ∧ decode cX8_setPoint 257 = .ok (.aload_n 0, 1) ∧ decode cX8_setPoint 258 = .ok (.getfield 7, 3) ∧ decode cX8_setPoint 261 = .ok (.iload 8, 2) ∧ decode cX8_setPoint 263 = .ok (.iconst 4, 1) ∧ decode cX8_setPoint 264 = .ok (.iadd, 1) ∧ decode cX8_setPoint 265 = .ok (.iaload, 1) ∧ decode cX8_setPoint 266 = .ok (.ireturn, 1) := by decide +kernel
theorem dX8_setPoint_252 : decode cX8_setPoint 252 = .ok (.goto 4, 3) := DX8_setPoint_15.1
theorem dX8_setPoint_255 : decode cX8_setPoint 255 = .ok (.iconst 0, 1) := DX8_setPoint_15.2.1
theorem dX8_setPoint_256 : decode cX8_setPoint 256 = .ok (.iastore, 1) := DX8_setPoint_15.2.2.1
theorem dX8_setPoint_257 : decode cX8_setPoint 257 = .ok (.aload_n 0, 1) := DX8_setPoint_15.2.2.2.1
theorem dX8_setPoint_258 : decode cX8_setPoint 258 = .ok (.getfield 7, 3) := DX8_setPoint_15.2.2.2.2.1
theorem dX8_setPoint_261 : decode cX8_setPoint 261 = .ok (.iload 8, 2) := DX8_setPoint_15.2.2.2.2.2.1
theorem dX8_setPoint_263 : decode cX8_setPoint 263 = .ok (.iconst 4, 1) := DX8_setPoint_15.2.2.2.2.2.2.1
theorem dX8_setPoint_264 : decode cX8_setPoint 264 = .ok (.iadd, 1) := DX8_setPoint_15.2.2.2.2.2.2.2.1
theorem dX8_setPoint_265 : decode cX8_setPoint 265 = .ok (.iaload, 1) := DX8_setPoint_15.2.2.2.2.2.2.2.2.1
theorem dX8_setPoint_266 : decode cX8_setPoint 266 = .ok (.ireturn, 1) := DX8_setPoint_15.2.2.2.2.2.2.2.2.2
set_option maxRecDepth 100000 in
theorem DX8_removePoint_0 : decode cX8_removePoint 0 = .ok (.aload_n 0, 1) ∧ decode cX8_removePoint 1 = .ok (.iload_n 1, 1) ∧ decode cX8_removePoint 2 = .ok (.invokestatic 111, 3) ∧ decode cX8_removePoint 5 = .ok (.ifCond .ne 7, 3) ∧ decode cX8_removePoint 8 = .ok (.iconst 1, 1) ∧ decode cX8_removePoint 9 = .ok (.goto 17, 3) ∧ decode cX8_removePoint 12 = .ok (.aload_n 0, 1) ∧ decode cX8_removePoint 13 = .ok (.iload_n 1, 1) ∧ decode cX8_removePoint 14 = .ok (.iload_n 2, 1) ∧ decode cX8_removePoint 15 = .ok (.invokevirtual 185, 3) := by decide +kernel
theorem dX8_removePoint_0 : decode cX8_removePoint 0 = .ok (.aload_n 0, 1) := DX8_removePoint_0.1
theorem dX8_removePoint_1 : decode cX8_removePoint 1 = .ok (.iload_n 1, 1) := DX8_removePoint_0.2.1
theorem dX8_removePoint_2 : decode cX8_removePoint 2 = .ok (.invokestatic 111, 3) := DX8_removePoint_0.2.2.1
theorem dX8_removePoint_5 : decode cX8_removePoint 5 = .ok (.ifCond .ne 7, 3) := DX8_removePoint_0.2.2.2.1
theorem dX8_removePoint_8 : decode cX8_removePoint 8 = .ok (.iconst 1, 1) := DX8_removePoint_0.2.2.2.2.1
theorem dX8_removePoint_9 : decode cX8_removePoint 9 = .ok (.goto 17, 3) := DX8_removePoint_0.2.2.2.2.2.1
theorem dX8_removePoint_12 : decode cX8_removePoint 12 = .ok (.aload_n 0, 1) := DX8_removePoint_0.2.2.2.2.2.2.1
theorem dX8_removePoint_13 : decode cX8_removePoint 13 = .ok (.iload_n 1, 1) := DX8_removePoint_0.2.2.2.2.2.2.2.1
theorem dX8_removePoint_14 : decode cX8_removePoint 14 = .ok (.iload_n 2, 1) := DX8_removePoint_0.2.2.2.2.2.2.2.2.1
theorem dX8_removePoint_15 : decode cX8_removePoint 15 = .ok (.invokevirtual 185, 3) := DX8_removePoint_0.2.2.2.2.2.2.2.2.2
set_option maxRecDepth 100000 in
theorem DX8_removePoint_1 : decode cX8_removePoint 18 = .ok (.ifCond .eq 7, 3) ∧ decode cX8_removePoint 21 = .ok (.iconst 0, 1) ∧ decode cX8_removePoint 22 = .ok (.goto 4, 3) ∧ decode cX8_removePoint 25 = .ok (.iconst 2, 1) ∧ decode cX8_removePoint 26 = .ok (.invokevirtual 73, 3) ∧ decode cX8_removePoint 29 = .ok (.ifCond .eq 5, 3) ∧ decode cX8_removePoint 32 = .ok (.iconst 0, 1) ∧ decode cX8_removePoint 33 = .ok (.ireturn, 1) ∧ decode cX8_removePoint 34 = .ok (.iload_n 1, 1) ∧ decode cX8_removePoint 35 = .ok (.invokestatic 35, 3) := by decide +kernel
theorem dX8_removePoint_18 : decode cX8_removePoint 18 = .ok (.ifCond .eq 7, 3) := DX8_removePoint_1.1
theorem dX8_removePoint_21 : decode cX8_removePoint 21 = .ok (.iconst 0, 1) := DX8_removePoint_1.2.1
theorem dX8_removePoint_22 : decode cX8_removePoint 22 = .ok (.goto 4, 3) := DX8_removePoint_1.2.2.1
theorem dX8_removePoint_25 : decode cX8_removePoint 25 = .ok (.iconst 2, 1) := DX8_removePoint_1.2.2.2.1
theorem dX8_removePoint_26 : decode cX8_removePoint 26 = .ok (.invokevirtual 73, 3) := DX8_removePoint_1.2.2.2.2.1
theorem dX8_removePoint_29 : decode cX8_removePoint 29 = .ok (.ifCond .eq 5, 3) := DX8_removePoint_1.2.2.2.2.2.1
theorem dX8_removePoint_32 : decode cX8_removePoint 32 = .ok (.iconst 0, 1) := DX8_removePoint_1.2.2.2.2.2.2.1
theorem dX8_removePoint_33 : decode cX8_removePoint 33 = .ok (.ireturn, 1) := DX8_removePoint_1.2.2.2.2.2.2.2.1
theorem dX8_removePoint_34 : decode cX8_removePoint 34 = .ok (.iload_n 1, 1) := DX8_removePoint_1.2.2.2.2.2.2.2.2.1
theorem dX8_removePoint_35 : decode cX8_removePoint 35 = .ok (.invokestatic 35, 3) := DX8_removePoint_1.2.2.2.2.2.2.2.2.2
set_option maxRecDepth 100000 in
theorem DX8_removePoint_2 : decode cX8_removePoint 38 = .ok (.istore_n 3, 1) ∧ decode cX8_removePoint 39 = .ok (.aload_n 0, 1) ∧ decode cX8_removePoint 40 = .ok (.getfield 7, 3) ∧ decode cX8_removePoint 43 = .ok (.iload_n 3, 1) ∧ decode cX8_removePoint 44 = .ok (.iconst 4, 1) ∧ decode cX8_removePoint 45 = .ok (.iadd, 1) ∧ decode cX8_removePoint 46 = .ok (.dup2, 1) ∧ decode cX8_removePoint 47 = .ok (.iaload, 1) ∧ decode cX8_removePoint 48 = .ok (.iconst 1, 1) ∧ decode cX8_removePoint 49 = .ok (.isub, 1) := by decide +kernel
theorem dX8_removePoint_38 : decode cX8_removePoint 38 = .ok (.istore_n 3, 1) := DX8_removePoint_2.1
theorem dX8_removePoint_39 : decode cX8_removePoint 39 = .ok (.aload_n 0, 1) := DX8_removePoint_2.2.1
theorem dX8_removePoint_40 : decode cX8_removePoint 40 = .ok (.getfield 7, 3) := DX8_removePoint_2.2.2.1
theorem dX8_removePoint_43 : decode cX8_removePoint 43 = .ok (.iload_n 3, 1) := DX8_removePoint_2.2.2.2.1
theorem dX8_removePoint_44 : decode cX8_removePoint 44 = .ok (.iconst 4, 1) := DX8_removePoint_2.2.2.2.2.1
theorem dX8_removePoint_45 : decode cX8_removePoint 45 = .ok (.iadd, 1) := DX8_removePoint_2.2.2.2.2.2.1
theorem dX8_removePoint_46 : decode cX8_removePoint 46 = .ok (.dup2, 1) := DX8_removePoint_2.2.2.2.2.2.2.1
theorem dX8_removePoint_47 : decode cX8_removePoint 47 = .ok (.iaload, 1) := DX8_removePoint_2.2.2.2.2.2.2.2.1
theorem dX8_removePoint_48 : decode cX8_removePoint 48 = .ok (.iconst 1, 1) := DX8_removePoint_2.2.2.2.2.2.2.2.2.1
theorem dX8_removePoint_49 : decode cX8_removePoint 49 = .ok (.isub, 1) := DX8_removePoint_2.2.2.2.2.2.2.2.2.2
set_option maxRecDepth 100000 in
theorem DX8_removePoint_3 : decode cX8_removePoint 50 = .ok (.iastore, 1) ∧ decode cX8_removePoint 51 = .ok (.iconst 3, 1) ∧ decode cX8_removePoint 52 = .ok (.aload_n 0, 1) ∧ decode cX8_removePoint 53 = .ok (.iload_n 1, 1) ∧ decode cX8_removePoint 54 = .ok (.iload_n 2, 1) ∧ decode cX8_removePoint 55 = .ok (.invokevirtual 182, 3) ∧ decode cX8_removePoint 58 = .ok (.imul, 1) ∧ decode cX8_removePoint 59 = .ok (.istore 4, 2) ∧ decode cX8_removePoint 61 = .ok (.iload 4, 2) ∧ decode cX8_removePoint 63 = .ok (.iconst 3, 1) := by decide +kernel
theorem dX8_removePoint_50 : decode cX8_removePoint 50 = .ok (.iastore, 1) := DX8_removePoint_3.1
theorem dX8_removePoint_51 : decode cX8_removePoint 51 = .ok (.iconst 3, 1) := DX8_removePoint_3.2.1
theorem dX8_removePoint_52 : decode cX8_removePoint 52 = .ok (.aload_n 0, 1) := DX8_removePoint_3.2.2.1
theorem dX8_removePoint_53 : decode cX8_removePoint 53 = .ok (.iload_n 1, 1) := DX8_removePoint_3.2.2.2.1
theorem dX8_removePoint_54 : decode cX8_removePoint 54 = .ok (.iload_n 2, 1) := DX8_removePoint_3.2.2.2.2.1
theorem dX8_removePoint_55 : decode cX8_removePoint 55 = .ok (.invokevirtual 182, 3) := DX8_removePoint_3.2.2.2.2.2.1
theorem dX8_removePoint_58 : decode cX8_removePoint 58 = .ok (.imul, 1) := DX8_removePoint_3.2.2.2.2.2.2.1
theorem dX8_removePoint_59 : decode cX8_removePoint 59 = .ok (.istore 4, 2) := DX8_removePoint_3.2.2.2.2.2.2.2.1
theorem dX8_removePoint_61 : decode cX8_removePoint 61 = .ok (.iload 4, 2) := DX8_removePoint_3.2.2.2.2.2.2.2.2.1
theorem dX8_removePoint_63 : decode cX8_removePoint 63 = .ok (.iconst 3, 1) := DX8_removePoint_3.2.2.2.2.2.2.2.2.2
set_option maxRecDepth 100000 in
theorem DX8_removePoint_4 : decode cX8_removePoint 64 = .ok (.aload_n 0, 1) ∧ decode cX8_removePoint 65 = .ok (.getfield 7, 3) ∧ decode cX8_removePoint 68 = .ok (.iload_n 3, 1) ∧ decode cX8_removePoint 69 = .ok (.iconst 4, 1) ∧ decode cX8_removePoint 70 = .ok (.iadd, 1) ∧ decode cX8_removePoint 71 = .ok (.iaload, 1) ∧ decode cX8_removePoint 72 = .ok (.imul, 1) ∧ decode cX8_removePoint 73 = .ok (.if_icmp .ge 33, 3) ∧ decode cX8_removePoint 76 = .ok (.aload_n 0, 1) ∧ decode cX8_removePoint 77 = .ok (.getfield 7, 3) := by decide +kernel
theorem dX8_removePoint_64 : decode cX8_removePoint 64 = .ok (.aload_n 0, 1) := DX8_removePoint_4.1
theorem dX8_removePoint_65 : decode cX8_removePoint 65 = .ok (.getfield 7, 3) := DX8_removePoint_4.2.1
theorem dX8_removePoint_68 : decode cX8_removePoint 68 = .ok (.iload_n 3, 1) := DX8_removePoint_4.2.2.1
theorem dX8_removePoint_69 : decode cX8_removePoint 69 = .ok (.iconst 4, 1) := DX8_removePoint_4.2.2.2.1
theorem dX8_removePoint_70 : decode cX8_removePoint 70 = .ok (.iadd, 1) := DX8_removePoint_4.2.2.2.2.1
theorem dX8_removePoint_71 : decode cX8_removePoint 71 = .ok (.iaload, 1) := DX8_removePoint_4.2.2.2.2.2.1
theorem dX8_removePoint_72 : decode cX8_removePoint 72 = .ok (.imul, 1) := DX8_removePoint_4.2.2.2.2.2.2.1
theorem dX8_removePoint_73 : decode cX8_removePoint 73 = .ok (.if_icmp .ge 33, 3) := DX8_removePoint_4.2.2.2.2.2.2.2.1
theorem dX8_removePoint_76 : decode cX8_removePoint 76 = .ok (.aload_n 0, 1) := DX8_removePoint_4.2.2.2.2.2.2.2.2.1
theorem dX8_removePoint_77 : decode cX8_removePoint 77 = .ok (.getfield 7, 3) := DX8_removePoint_4.2.2.2.2.2.2.2.2.2
set_option maxRecDepth 100000 in
theorem DX8_removePoint_5 : decode cX8_removePoint 80 = .ok (.iload_n 3, 1) ∧ decode cX8_removePoint 81 = .ok (.iconst 5, 1) ∧ decode cX8_removePoint 82 = .ok (.iadd, 1) ∧ decode cX8_removePoint 83 = .ok (.iload 4, 2) ∧ decode cX8_removePoint 85 = .ok (.iadd, 1) ∧ decode cX8_removePoint 86 = .ok (.aload_n 0, 1) ∧ decode cX8_removePoint 87 = .ok (.getfield 7, 3) ∧ decode cX8_removePoint 90 = .ok (.iload_n 3, 1) ∧ decode cX8_removePoint 91 = .ok (.iconst 5, 1) ∧ decode cX8_removePoint 92 = .ok (.iadd, 1) := by decide +kernel
theorem dX8_removePoint_80 : decode cX8_removePoint 80 = .ok (.iload_n 3, 1) := DX8_removePoint_5.1
theorem dX8_removePoint_81 : decode cX8_removePoint 81 = .ok (.iconst 5, 1) := DX8_removePoint_5.2.1
theorem dX8_removePoint_82 : decode cX8_removePoint 82 = .ok (.iadd, 1) := DX8_removePoint_5.2.2.1
theorem dX8_removePoint_83 : decode cX8_removePoint 83 = .ok (.iload 4, 2) := DX8_removePoint_5.2.2.2.1
theorem dX8_removePoint_85 : decode cX8_removePoint 85 = .ok (.iadd, 1) := DX8_removePoint_5.2.2.2.2.1
theorem dX8_removePoint_86 : decode cX8_removePoint 86 = .ok (.aload_n 0, 1) := DX8_removePoint_5.2.2.2.2.2.1
theorem dX8_removePoint_87 : decode cX8_removePoint 87 = .ok (.getfield 7, 3) := DX8_removePoint_5.2.2.2.2.2.2.1
theorem dX8_removePoint_90 : decode cX8_removePoint 90 = .ok (.iload_n 3, 1) := DX8_removePoint_5.2.2.2.2.2.2.2.1
theorem dX8_removePoint_91 : decode cX8_removePoint 91 = .ok (.iconst 5, 1) := DX8_removePoint_5.2.2.2.2.2.2.2.2.1
theorem dX8_removePoint_92 : decode cX8_removePoint 92 = .ok (.iadd, 1) := DX8_removePoint_5.2.2.2.2.2.2.2.2.2
set_option maxRecDepth 100000 in
theorem DX8_removePoint_6 : decode cX8_removePoint 93 = .ok (.iload 4, 2) ∧ decode cX8_removePoint 95 = .ok (.iadd, 1) ∧ decode cX8_removePoint 96 = .ok (.iconst 3, 1) ∧ decode cX8_removePoint 97 = .ok (.iadd, 1) ∧ decode cX8_removePoint 98 = .ok (.iaload, 1) ∧ decode cX8_removePoint 99 = .ok (.iastore, 1) ∧ decode cX8_removePoint 100 = .ok (.iinc 4 1, 3) ∧ decode cX8_removePoint 103 = .ok (.goto (-42), 3) ∧ decode cX8_removePoint 106 = .ok (.aload_n 0, 1) ∧ decode cX8_removePoint 107 = .ok (.getfield 7, 3) := by decide +kernel
theorem dX8_removePoint_93 : decode cX8_removePoint 93 = .ok (.iload 4, 2) := DX8_removePoint_6.1
theorem dX8_removePoint_95 : decode cX8_removePoint 95 = .ok (.iadd, 1) := DX8_removePoint_6.2.1
theorem dX8_removePoint_96 : decode cX8_removePoint 96 = .ok (.iconst 3, 1) := DX8_removePoint_6.2.2.1
theorem dX8_removePoint_97 : decode cX8_removePoint 97 = .ok (.iadd, 1) := DX8_removePoint_6.2.2.2.1
theorem dX8_removePoint_98 : decode cX8_removePoint 98 = .ok (.iaload, 1) := DX8_removePoint_6.2.2.2.2.1
theorem dX8_removePoint_99 : decode cX8_removePoint 99 = .ok (.iastore, 1) := DX8_removePoint_6.2.2.2.2.2.1
theorem dX8_removePoint_100 : decode cX8_removePoint 100 = .ok (.iinc 4 1, 3) := DX8_removePoint_6.2.2.2.2.2.2.1
theorem dX8_removePoint_103 : decode cX8_removePoint 103 = .ok (.goto (-42), 3) := DX8_removePoint_6.2.2.2.2.2.2.2.1
theorem dX8_removePoint_106 : decode cX8_removePoint 106 = .ok (.aload_n 0, 1) := DX8_removePoint_6.2.2.2.2.2.2.2.2.1
theorem dX8_removePoint_107 : decode cX8_removePoint 107 = .ok (.getfield 7, 3) := DX8_removePoint_6.2.2.2.2.2.2.2.2.2
set_option maxRecDepth 100000 in
theorem DX8_removePoint_7 : decode cX8_removePoint 110 = .ok (.iload_n 3, 1) ∧ decode cX8_removePoint 111 = .ok (.iconst 4, 1) ∧ decode cX8_removePoint 112 = .ok (.iadd, 1) ∧ decode cX8_removePoint 113 = .ok (.iaload, 1) ∧ decode cX8_removePoint 114 = .ok (.ireturn, 1) := by decide +kernel
theorem dX8_removePoint_110 : decode cX8_removePoint 110 = .ok (.iload_n 3, 1) := DX8_removePoint_7.1
theorem dX8_removePoint_111 : decode cX8_removePoint 111 = .ok (.iconst 4, 1) := DX8_removePoint_7.2.1
theorem dX8_removePoint_112 : decode cX8_removePoint 112 = .ok (.iadd, 1) := DX8_removePoint_7.2.2.1
theorem dX8_removePoint_113 : decode cX8_removePoint 113 = .ok (.iaload, 1) := DX8_removePoint_7.2.2.2.1
theorem dX8_removePoint_114 : decode cX8_removePoint 114 = .ok (.ireturn, 1) := DX8_removePoint_7.2.2.2.2
set_option maxRecDepth 100000 in
theorem DX8_laneAt_0 : decode cX8_laneAt 0 = .ok (.iload_n 1, 1) ∧ decode cX8_laneAt 1 = .ok (.invokestatic 35, 3) ∧ decode cX8_laneAt 4 = .ok (.iconst 5, 1) ∧ decode cX8_laneAt 5 = .ok (.iadd, 1) ∧ decode cX8_laneAt 6 = .ok (.istore_n 3, 1) ∧ decode cX8_laneAt 7 = .ok (.aload_n 0, 1) ∧ decode cX8_laneAt 8 = .ok (.getfield 7, 3) ∧ decode cX8_laneAt 11 = .ok (.iload_n 1, 1) ∧ decode cX8_laneAt 12 = .ok (.invokestatic 35, 3) ∧ decode cX8_laneAt 15 = .ok (.iconst 4, 1) := by decide +kernel
theorem dX8_laneAt_0 : decode cX8_laneAt 0 = .ok (.iload_n 1, 1) := DX8_laneAt_0.1
theorem dX8_laneAt_1 : decode cX8_laneAt 1 = .ok (.invokestatic 35, 3) := DX8_laneAt_0.2.1
theorem dX8_laneAt_4 : decode cX8_laneAt 4 = .ok (.iconst 5, 1) := DX8_laneAt_0.2.2.1
theorem dX8_laneAt_5 : decode cX8_laneAt 5 = .ok (.iadd, 1) := DX8_laneAt_0.2.2.2.1
theorem dX8_laneAt_6 : decode cX8_laneAt 6 = .ok (.istore_n 3, 1) := DX8_laneAt_0.2.2.2.2.1
theorem dX8_laneAt_7 : decode cX8_laneAt 7 = .ok (.aload_n 0, 1) := DX8_laneAt_0.2.2.2.2.2.1
theorem dX8_laneAt_8 : decode cX8_laneAt 8 = .ok (.getfield 7, 3) := DX8_laneAt_0.2.2.2.2.2.2.1
theorem dX8_laneAt_11 : decode cX8_laneAt 11 = .ok (.iload_n 1, 1) := DX8_laneAt_0.2.2.2.2.2.2.2.1
theorem dX8_laneAt_12 : decode cX8_laneAt 12 = .ok (.invokestatic 35, 3) := DX8_laneAt_0.2.2.2.2.2.2.2.2.1
theorem dX8_laneAt_15 : decode cX8_laneAt 15 = .ok (.iconst 4, 1) := DX8_laneAt_0.2.2.2.2.2.2.2.2.2
set_option maxRecDepth 100000 in
theorem DX8_laneAt_1 : decode cX8_laneAt 16 = .ok (.iadd, 1) ∧ decode cX8_laneAt 17 = .ok (.iaload, 1) ∧ decode cX8_laneAt 18 = .ok (.istore 4, 2) ∧ decode cX8_laneAt 20 = .ok (.aload_n 0, 1) ∧ decode cX8_laneAt 21 = .ok (.iload_n 1, 1) ∧ decode cX8_laneAt 22 = .ok (.iload_n 2, 1) ∧ decode cX8_laneAt 23 = .ok (.iconst 1, 1) ∧ decode cX8_laneAt 24 = .ok (.iadd, 1) ∧ decode cX8_laneAt 25 = .ok (.invokevirtual 182, 3) ∧ decode cX8_laneAt 28 = .ok (.istore 5, 2) := by decide +kernel
theorem dX8_laneAt_16 : decode cX8_laneAt 16 = .ok (.iadd, 1) := DX8_laneAt_1.1
theorem dX8_laneAt_17 : decode cX8_laneAt 17 = .ok (.iaload, 1) := DX8_laneAt_1.2.1
theorem dX8_laneAt_18 : decode cX8_laneAt 18 = .ok (.istore 4, 2) := DX8_laneAt_1.2.2.1
theorem dX8_laneAt_20 : decode cX8_laneAt 20 = .ok (.aload_n 0, 1) := DX8_laneAt_1.2.2.2.1
theorem dX8_laneAt_21 : decode cX8_laneAt 21 = .ok (.iload_n 1, 1) := DX8_laneAt_1.2.2.2.2.1
theorem dX8_laneAt_22 : decode cX8_laneAt 22 = .ok (.iload_n 2, 1) := DX8_laneAt_1.2.2.2.2.2.1
theorem dX8_laneAt_23 : decode cX8_laneAt 23 = .ok (.iconst 1, 1) := DX8_laneAt_1.2.2.2.2.2.2.1
theorem dX8_laneAt_24 : decode cX8_laneAt 24 = .ok (.iadd, 1) := DX8_laneAt_1.2.2.2.2.2.2.2.1
theorem dX8_laneAt_25 : decode cX8_laneAt 25 = .ok (.invokevirtual 182, 3) := DX8_laneAt_1.2.2.2.2.2.2.2.2.1
theorem dX8_laneAt_28 : decode cX8_laneAt 28 = .ok (.istore 5, 2) := DX8_laneAt_1.2.2.2.2.2.2.2.2.2
set_option maxRecDepth 100000 in
theorem DX8_laneAt_2 : decode cX8_laneAt 30 = .ok (.iload 4, 2) ∧ decode cX8_laneAt 32 = .ok (.ifCond .ne 7, 3) ∧ decode cX8_laneAt 35 = .ok (.sipush 1000, 3) ∧ decode cX8_laneAt 38 = .ok (.ireturn, 1) ∧ decode cX8_laneAt 39 = .ok (.iload 5, 2) ∧ decode cX8_laneAt 41 = .ok (.ifCond .eq 27, 3) ∧ decode cX8_laneAt 44 = .ok (.iload 5, 2) ∧ decode cX8_laneAt 46 = .ok (.iload 4, 2) ∧ decode cX8_laneAt 48 = .ok (.if_icmp .eq 20, 3) ∧ decode cX8_laneAt 51 = .ok (.aload_n 0, 1) := by decide +kernel
theorem dX8_laneAt_30 : decode cX8_laneAt 30 = .ok (.iload 4, 2) := DX8_laneAt_2.1
theorem dX8_laneAt_32 : decode cX8_laneAt 32 = .ok (.ifCond .ne 7, 3) := DX8_laneAt_2.2.1
theorem dX8_laneAt_35 : decode cX8_laneAt 35 = .ok (.sipush 1000, 3) := DX8_laneAt_2.2.2.1
theorem dX8_laneAt_38 : decode cX8_laneAt 38 = .ok (.ireturn, 1) := DX8_laneAt_2.2.2.2.1
theorem dX8_laneAt_39 : decode cX8_laneAt 39 = .ok (.iload 5, 2) := DX8_laneAt_2.2.2.2.2.1
theorem dX8_laneAt_41 : decode cX8_laneAt 41 = .ok (.ifCond .eq 27, 3) := DX8_laneAt_2.2.2.2.2.2.1
theorem dX8_laneAt_44 : decode cX8_laneAt 44 = .ok (.iload 5, 2) := DX8_laneAt_2.2.2.2.2.2.2.1
theorem dX8_laneAt_46 : decode cX8_laneAt 46 = .ok (.iload 4, 2) := DX8_laneAt_2.2.2.2.2.2.2.2.1
theorem dX8_laneAt_48 : decode cX8_laneAt 48 = .ok (.if_icmp .eq 20, 3) := DX8_laneAt_2.2.2.2.2.2.2.2.2.1
theorem dX8_laneAt_51 : decode cX8_laneAt 51 = .ok (.aload_n 0, 1) := DX8_laneAt_2.2.2.2.2.2.2.2.2.2
set_option maxRecDepth 100000 in
theorem DX8_laneAt_3 : decode cX8_laneAt 52 = .ok (.getfield 7, 3) ∧ decode cX8_laneAt 55 = .ok (.iload_n 3, 1) ∧ decode cX8_laneAt 56 = .ok (.iconst 3, 1) ∧ decode cX8_laneAt 57 = .ok (.iload 5, 2) ∧ decode cX8_laneAt 59 = .ok (.imul, 1) ∧ decode cX8_laneAt 60 = .ok (.iadd, 1) ∧ decode cX8_laneAt 61 = .ok (.iconst 1, 1) ∧ decode cX8_laneAt 62 = .ok (.isub, 1) ∧ decode cX8_laneAt 63 = .ok (.iaload, 1) ∧ decode cX8_laneAt 64 = .ok (.iconst 1, 1) := by decide +kernel
theorem dX8_laneAt_52 : decode cX8_laneAt 52 = .ok (.getfield 7, 3) := DX8_laneAt_3.1
theorem dX8_laneAt_55 : decode cX8_laneAt 55 = .ok (.iload_n 3, 1) := DX8_laneAt_3.2.1
theorem dX8_laneAt_56 : decode cX8_laneAt 56 = .ok (.iconst 3, 1) := DX8_laneAt_3.2.2.1
theorem dX8_laneAt_57 : decode cX8_laneAt 57 = .ok (.iload 5, 2) := DX8_laneAt_3.2.2.2.1
theorem dX8_laneAt_59 : decode cX8_laneAt 59 = .ok (.imul, 1) := DX8_laneAt_3.2.2.2.2.1
theorem dX8_laneAt_60 : decode cX8_laneAt 60 = .ok (.iadd, 1) := DX8_laneAt_3.2.2.2.2.2.1
theorem dX8_laneAt_61 : decode cX8_laneAt 61 = .ok (.iconst 1, 1) := DX8_laneAt_3.2.2.2.2.2.2.1
theorem dX8_laneAt_62 : decode cX8_laneAt 62 = .ok (.isub, 1) := DX8_laneAt_3.2.2.2.2.2.2.2.1
theorem dX8_laneAt_63 : decode cX8_laneAt 63 = .ok (.iaload, 1) := DX8_laneAt_3.2.2.2.2.2.2.2.2.1
theorem dX8_laneAt_64 : decode cX8_laneAt 64 = .ok (.iconst 1, 1) := DX8_laneAt_3.2.2.2.2.2.2.2.2.2
set_option maxRecDepth 100000 in
theorem DX8_laneAt_4 : decode cX8_laneAt 65 = .ok (.if_icmp .ne 26, 3) ∧ decode cX8_laneAt 68 = .ok (.aload_n 0, 1) ∧ decode cX8_laneAt 69 = .ok (.getfield 7, 3) ∧ decode cX8_laneAt 72 = .ok (.iload_n 3, 1) ∧ decode cX8_laneAt 73 = .ok (.iload 5, 2) ∧ decode cX8_laneAt 75 = .ok (.ifCond .ne 7, 3) ∧ decode cX8_laneAt 78 = .ok (.iconst 1, 1) ∧ decode cX8_laneAt 79 = .ok (.goto 9, 3) ∧ decode cX8_laneAt 82 = .ok (.iconst 3, 1) ∧ decode cX8_laneAt 83 = .ok (.iload 5, 2) := by decide +kernel
theorem dX8_laneAt_65 : decode cX8_laneAt 65 = .ok (.if_icmp .ne 26, 3) := DX8_laneAt_4.1
theorem dX8_laneAt_68 : decode cX8_laneAt 68 = .ok (.aload_n 0, 1) := DX8_laneAt_4.2.1
theorem dX8_laneAt_69 : decode cX8_laneAt 69 = .ok (.getfield 7, 3) := DX8_laneAt_4.2.2.1
theorem dX8_laneAt_72 : decode cX8_laneAt 72 = .ok (.iload_n 3, 1) := DX8_laneAt_4.2.2.2.1
theorem dX8_laneAt_73 : decode cX8_laneAt 73 = .ok (.iload 5, 2) := DX8_laneAt_4.2.2.2.2.1
theorem dX8_laneAt_75 : decode cX8_laneAt 75 = .ok (.ifCond .ne 7, 3) := DX8_laneAt_4.2.2.2.2.2.1
theorem dX8_laneAt_78 : decode cX8_laneAt 78 = .ok (.iconst 1, 1) := DX8_laneAt_4.2.2.2.2.2.2.1
theorem dX8_laneAt_79 : decode cX8_laneAt 79 = .ok (.goto 9, 3) := DX8_laneAt_4.2.2.2.2.2.2.2.1
theorem dX8_laneAt_82 : decode cX8_laneAt 82 = .ok (.iconst 3, 1) := DX8_laneAt_4.2.2.2.2.2.2.2.2.1
theorem dX8_laneAt_83 : decode cX8_laneAt 83 = .ok (.iload 5, 2) := DX8_laneAt_4.2.2.2.2.2.2.2.2.2
set_option maxRecDepth 100000 in
theorem DX8_laneAt_5 : decode cX8_laneAt 85 = .ok (.imul, 1) ∧ decode cX8_laneAt 86 = .ok (.iconst 2, 1) ∧ decode cX8_laneAt 87 = .ok (.isub, 1) ∧ decode cX8_laneAt 88 = .ok (.iadd, 1) ∧ decode cX8_laneAt 89 = .ok (.iaload, 1) ∧ decode cX8_laneAt 90 = .ok (.ireturn, 1) ∧ decode cX8_laneAt 91 = .ok (.iload_n 3, 1) ∧ decode cX8_laneAt 92 = .ok (.iconst 3, 1) ∧ decode cX8_laneAt 93 = .ok (.iload 5, 2) ∧ decode cX8_laneAt 95 = .ok (.imul, 1) := by decide +kernel
theorem dX8_laneAt_85 : decode cX8_laneAt 85 = .ok (.imul, 1) := DX8_laneAt_5.1
theorem dX8_laneAt_86 : decode cX8_laneAt 86 = .ok (.iconst 2, 1) := DX8_laneAt_5.2.1
theorem dX8_laneAt_87 : decode cX8_laneAt 87 = .ok (.isub, 1) := DX8_laneAt_5.2.2.1
theorem dX8_laneAt_88 : decode cX8_laneAt 88 = .ok (.iadd, 1) := DX8_laneAt_5.2.2.2.1
theorem dX8_laneAt_89 : decode cX8_laneAt 89 = .ok (.iaload, 1) := DX8_laneAt_5.2.2.2.2.1
theorem dX8_laneAt_90 : decode cX8_laneAt 90 = .ok (.ireturn, 1) := DX8_laneAt_5.2.2.2.2.2.1
theorem dX8_laneAt_91 : decode cX8_laneAt 91 = .ok (.iload_n 3, 1) := DX8_laneAt_5.2.2.2.2.2.2.1
theorem dX8_laneAt_92 : decode cX8_laneAt 92 = .ok (.iconst 3, 1) := DX8_laneAt_5.2.2.2.2.2.2.2.1
theorem dX8_laneAt_93 : decode cX8_laneAt 93 = .ok (.iload 5, 2) := DX8_laneAt_5.2.2.2.2.2.2.2.2.1
theorem dX8_laneAt_95 : decode cX8_laneAt 95 = .ok (.imul, 1) := DX8_laneAt_5.2.2.2.2.2.2.2.2.2
set_option maxRecDepth 100000 in
theorem DX8_laneAt_6 : decode cX8_laneAt 96 = .ok (.iadd, 1) ∧ decode cX8_laneAt 97 = .ok (.iconst 3, 1) ∧ decode cX8_laneAt 98 = .ok (.isub, 1) ∧ decode cX8_laneAt 99 = .ok (.istore 6, 2) ∧ decode cX8_laneAt 101 = .ok (.aload_n 0, 1) ∧ decode cX8_laneAt 102 = .ok (.getfield 7, 3) ∧ decode cX8_laneAt 105 = .ok (.iload 6, 2) ∧ decode cX8_laneAt 107 = .ok (.iconst 4, 1) ∧ decode cX8_laneAt 108 = .ok (.iadd, 1) ∧ decode cX8_laneAt 109 = .ok (.iaload, 1) := by decide +kernel
theorem dX8_laneAt_96 : decode cX8_laneAt 96 = .ok (.iadd, 1) := DX8_laneAt_6.1
theorem dX8_laneAt_97 : decode cX8_laneAt 97 = .ok (.iconst 3, 1) := DX8_laneAt_6.2.1
theorem dX8_laneAt_98 : decode cX8_laneAt 98 = .ok (.isub, 1) := DX8_laneAt_6.2.2.1
theorem dX8_laneAt_99 : decode cX8_laneAt 99 = .ok (.istore 6, 2) := DX8_laneAt_6.2.2.2.1
theorem dX8_laneAt_101 : decode cX8_laneAt 101 = .ok (.aload_n 0, 1) := DX8_laneAt_6.2.2.2.2.1
theorem dX8_laneAt_102 : decode cX8_laneAt 102 = .ok (.getfield 7, 3) := DX8_laneAt_6.2.2.2.2.2.1
theorem dX8_laneAt_105 : decode cX8_laneAt 105 = .ok (.iload 6, 2) := DX8_laneAt_6.2.2.2.2.2.2.1
theorem dX8_laneAt_107 : decode cX8_laneAt 107 = .ok (.iconst 4, 1) := DX8_laneAt_6.2.2.2.2.2.2.2.1
theorem dX8_laneAt_108 : decode cX8_laneAt 108 = .ok (.iadd, 1) := DX8_laneAt_6.2.2.2.2.2.2.2.2.1
theorem dX8_laneAt_109 : decode cX8_laneAt 109 = .ok (.iaload, 1) := DX8_laneAt_6.2.2.2.2.2.2.2.2.2
set_option maxRecDepth 100000 in
theorem DX8_laneAt_7 : decode cX8_laneAt 110 = .ok (.aload_n 0, 1) ∧ decode cX8_laneAt 111 = .ok (.getfield 7, 3) ∧ decode cX8_laneAt 114 = .ok (.iload 6, 2) ∧ decode cX8_laneAt 116 = .ok (.iconst 1, 1) ∧ decode cX8_laneAt 117 = .ok (.iadd, 1) ∧ decode cX8_laneAt 118 = .ok (.iaload, 1) ∧ decode cX8_laneAt 119 = .ok (.isub, 1) ∧ decode cX8_laneAt 120 = .ok (.i2l, 1) ∧ decode cX8_laneAt 121 = .ok (.iload_n 2, 1) ∧ decode cX8_laneAt 122 = .ok (.aload_n 0, 1) := by decide +kernel
theorem dX8_laneAt_110 : decode cX8_laneAt 110 = .ok (.aload_n 0, 1) := DX8_laneAt_7.1
theorem dX8_laneAt_111 : decode cX8_laneAt 111 = .ok (.getfield 7, 3) := DX8_laneAt_7.2.1
theorem dX8_laneAt_114 : decode cX8_laneAt 114 = .ok (.iload 6, 2) := DX8_laneAt_7.2.2.1
theorem dX8_laneAt_116 : decode cX8_laneAt 116 = .ok (.iconst 1, 1) := DX8_laneAt_7.2.2.2.1
theorem dX8_laneAt_117 : decode cX8_laneAt 117 = .ok (.iadd, 1) := DX8_laneAt_7.2.2.2.2.1
theorem dX8_laneAt_118 : decode cX8_laneAt 118 = .ok (.iaload, 1) := DX8_laneAt_7.2.2.2.2.2.1
theorem dX8_laneAt_119 : decode cX8_laneAt 119 = .ok (.isub, 1) := DX8_laneAt_7.2.2.2.2.2.2.1
theorem dX8_laneAt_120 : decode cX8_laneAt 120 = .ok (.i2l, 1) := DX8_laneAt_7.2.2.2.2.2.2.2.1
theorem dX8_laneAt_121 : decode cX8_laneAt 121 = .ok (.iload_n 2, 1) := DX8_laneAt_7.2.2.2.2.2.2.2.2.1
theorem dX8_laneAt_122 : decode cX8_laneAt 122 = .ok (.aload_n 0, 1) := DX8_laneAt_7.2.2.2.2.2.2.2.2.2
set_option maxRecDepth 100000 in
theorem DX8_laneAt_8 : decode cX8_laneAt 123 = .ok (.getfield 7, 3) ∧ decode cX8_laneAt 126 = .ok (.iload 6, 2) ∧ decode cX8_laneAt 128 = .ok (.iaload, 1) ∧ decode cX8_laneAt 129 = .ok (.isub, 1) ∧ decode cX8_laneAt 130 = .ok (.i2l, 1) ∧ decode cX8_laneAt 131 = .ok (.lmul, 1) ∧ decode cX8_laneAt 132 = .ok (.lstore 7, 2) ∧ decode cX8_laneAt 134 = .ok (.aload_n 0, 1) ∧ decode cX8_laneAt 135 = .ok (.getfield 7, 3) ∧ decode cX8_laneAt 138 = .ok (.iload 6, 2) := by decide +kernel
theorem dX8_laneAt_123 : decode cX8_laneAt 123 = .ok (.getfield 7, 3) := DX8_laneAt_8.1
theorem dX8_laneAt_126 : decode cX8_laneAt 126 = .ok (.iload 6, 2) := DX8_laneAt_8.2.1
theorem dX8_laneAt_128 : decode cX8_laneAt 128 = .ok (.iaload, 1) := DX8_laneAt_8.2.2.1
theorem dX8_laneAt_129 : decode cX8_laneAt 129 = .ok (.isub, 1) := DX8_laneAt_8.2.2.2.1
theorem dX8_laneAt_130 : decode cX8_laneAt 130 = .ok (.i2l, 1) := DX8_laneAt_8.2.2.2.2.1
theorem dX8_laneAt_131 : decode cX8_laneAt 131 = .ok (.lmul, 1) := DX8_laneAt_8.2.2.2.2.2.1
theorem dX8_laneAt_132 : decode cX8_laneAt 132 = .ok (.lstore 7, 2) := DX8_laneAt_8.2.2.2.2.2.2.1
theorem dX8_laneAt_134 : decode cX8_laneAt 134 = .ok (.aload_n 0, 1) := DX8_laneAt_8.2.2.2.2.2.2.2.1
theorem dX8_laneAt_135 : decode cX8_laneAt 135 = .ok (.getfield 7, 3) := DX8_laneAt_8.2.2.2.2.2.2.2.2.1
theorem dX8_laneAt_138 : decode cX8_laneAt 138 = .ok (.iload 6, 2) := DX8_laneAt_8.2.2.2.2.2.2.2.2.2
set_option maxRecDepth 100000 in
theorem DX8_laneAt_9 : decode cX8_laneAt 140 = .ok (.iconst 1, 1) ∧ decode cX8_laneAt 141 = .ok (.iadd, 1) ∧ decode cX8_laneAt 142 = .ok (.iaload, 1) ∧ decode cX8_laneAt 143 = .ok (.lload 7, 2) ∧ decode cX8_laneAt 145 = .ok (.aload_n 0, 1) ∧ decode cX8_laneAt 146 = .ok (.getfield 7, 3) ∧ decode cX8_laneAt 149 = .ok (.iload 6, 2) ∧ decode cX8_laneAt 151 = .ok (.iconst 3, 1) ∧ decode cX8_laneAt 152 = .ok (.iadd, 1) ∧ decode cX8_laneAt 153 = .ok (.iaload, 1) := by decide +kernel
theorem dX8_laneAt_140 : decode cX8_laneAt 140 = .ok (.iconst 1, 1) := DX8_laneAt_9.1
theorem dX8_laneAt_141 : decode cX8_laneAt 141 = .ok (.iadd, 1) := DX8_laneAt_9.2.1
theorem dX8_laneAt_142 : decode cX8_laneAt 142 = .ok (.iaload, 1) := DX8_laneAt_9.2.2.1
theorem dX8_laneAt_143 : decode cX8_laneAt 143 = .ok (.lload 7, 2) := DX8_laneAt_9.2.2.2.1
theorem dX8_laneAt_145 : decode cX8_laneAt 145 = .ok (.aload_n 0, 1) := DX8_laneAt_9.2.2.2.2.1
theorem dX8_laneAt_146 : decode cX8_laneAt 146 = .ok (.getfield 7, 3) := DX8_laneAt_9.2.2.2.2.2.1
theorem dX8_laneAt_149 : decode cX8_laneAt 149 = .ok (.iload 6, 2) := DX8_laneAt_9.2.2.2.2.2.2.1
theorem dX8_laneAt_151 : decode cX8_laneAt 151 = .ok (.iconst 3, 1) := DX8_laneAt_9.2.2.2.2.2.2.2.1
theorem dX8_laneAt_152 : decode cX8_laneAt 152 = .ok (.iadd, 1) := DX8_laneAt_9.2.2.2.2.2.2.2.2.1
theorem dX8_laneAt_153 : decode cX8_laneAt 153 = .ok (.iaload, 1) := DX8_laneAt_9.2.2.2.2.2.2.2.2.2
set_option maxRecDepth 100000 in
theorem DX8_laneAt_10 : decode cX8_laneAt 154 = .ok (.aload_n 0, 1) ∧ decode cX8_laneAt 155 = .ok (.getfield 7, 3) ∧ decode cX8_laneAt 158 = .ok (.iload 6, 2) ∧ decode cX8_laneAt 160 = .ok (.iaload, 1) ∧ decode cX8_laneAt 161 = .ok (.isub, 1) ∧ decode cX8_laneAt 162 = .ok (.i2l, 1) ∧ decode cX8_laneAt 163 = .ok (.invokestatic 60, 3) ∧ decode cX8_laneAt 166 = .ok (.l2i, 1) ∧ decode cX8_laneAt 167 = .ok (.iadd, 1) ∧ decode cX8_laneAt 168 = .ok (.ireturn, 1) := by decide +kernel
theorem dX8_laneAt_154 : decode cX8_laneAt 154 = .ok (.aload_n 0, 1) := DX8_laneAt_10.1
theorem dX8_laneAt_155 : decode cX8_laneAt 155 = .ok (.getfield 7, 3) := DX8_laneAt_10.2.1
theorem dX8_laneAt_158 : decode cX8_laneAt 158 = .ok (.iload 6, 2) := DX8_laneAt_10.2.2.1
theorem dX8_laneAt_160 : decode cX8_laneAt 160 = .ok (.iaload, 1) := DX8_laneAt_10.2.2.2.1
theorem dX8_laneAt_161 : decode cX8_laneAt 161 = .ok (.isub, 1) := DX8_laneAt_10.2.2.2.2.1
theorem dX8_laneAt_162 : decode cX8_laneAt 162 = .ok (.i2l, 1) := DX8_laneAt_10.2.2.2.2.2.1
theorem dX8_laneAt_163 : decode cX8_laneAt 163 = .ok (.invokestatic 60, 3) := DX8_laneAt_10.2.2.2.2.2.2.1
theorem dX8_laneAt_166 : decode cX8_laneAt 166 = .ok (.l2i, 1) := DX8_laneAt_10.2.2.2.2.2.2.2.1
theorem dX8_laneAt_167 : decode cX8_laneAt 167 = .ok (.iadd, 1) := DX8_laneAt_10.2.2.2.2.2.2.2.2.1
theorem dX8_laneAt_168 : decode cX8_laneAt 168 = .ok (.ireturn, 1) := DX8_laneAt_10.2.2.2.2.2.2.2.2.2
set_option maxRecDepth 100000 in
theorem DX8_automation_0 : decode cX8_automation 0 = .ok (.aload_n 0, 1) ∧ decode cX8_automation 1 = .ok (.iload_n 1, 1) ∧ decode cX8_automation 2 = .ok (.invokestatic 111, 3) ∧ decode cX8_automation 5 = .ok (.ifCond .ne 7, 3) ∧ decode cX8_automation 8 = .ok (.iconst 1, 1) ∧ decode cX8_automation 9 = .ok (.goto 15, 3) ∧ decode cX8_automation 12 = .ok (.iload_n 2, 1) ∧ decode cX8_automation 13 = .ok (.invokestatic 114, 3) ∧ decode cX8_automation 16 = .ok (.ifCond .eq 7, 3) ∧ decode cX8_automation 19 = .ok (.iconst 0, 1) := by decide +kernel
theorem dX8_automation_0 : decode cX8_automation 0 = .ok (.aload_n 0, 1) := DX8_automation_0.1
theorem dX8_automation_1 : decode cX8_automation 1 = .ok (.iload_n 1, 1) := DX8_automation_0.2.1
theorem dX8_automation_2 : decode cX8_automation 2 = .ok (.invokestatic 111, 3) := DX8_automation_0.2.2.1
theorem dX8_automation_5 : decode cX8_automation 5 = .ok (.ifCond .ne 7, 3) := DX8_automation_0.2.2.2.1
theorem dX8_automation_8 : decode cX8_automation 8 = .ok (.iconst 1, 1) := DX8_automation_0.2.2.2.2.1
theorem dX8_automation_9 : decode cX8_automation 9 = .ok (.goto 15, 3) := DX8_automation_0.2.2.2.2.2.1
theorem dX8_automation_12 : decode cX8_automation 12 = .ok (.iload_n 2, 1) := DX8_automation_0.2.2.2.2.2.2.1
theorem dX8_automation_13 : decode cX8_automation 13 = .ok (.invokestatic 114, 3) := DX8_automation_0.2.2.2.2.2.2.2.1
theorem dX8_automation_16 : decode cX8_automation 16 = .ok (.ifCond .eq 7, 3) := DX8_automation_0.2.2.2.2.2.2.2.2.1
theorem dX8_automation_19 : decode cX8_automation 19 = .ok (.iconst 0, 1) := DX8_automation_0.2.2.2.2.2.2.2.2.2
set_option maxRecDepth 100000 in
theorem DX8_automation_1 : decode cX8_automation 20 = .ok (.goto 4, 3) ∧ decode cX8_automation 23 = .ok (.iconst 2, 1) ∧ decode cX8_automation 24 = .ok (.invokevirtual 51, 3) ∧ decode cX8_automation 27 = .ok (.ifCond .eq 7, 3) ∧ decode cX8_automation 30 = .ok (.iconst 0, 1) ∧ decode cX8_automation 31 = .ok (.goto 9, 3) ∧ decode cX8_automation 34 = .ok (.aload_n 0, 1) ∧ decode cX8_automation 35 = .ok (.iload_n 1, 1) ∧ decode cX8_automation 36 = .ok (.iload_n 2, 1) ∧ decode cX8_automation 37 = .ok (.invokevirtual 188, 3) := by decide +kernel
theorem dX8_automation_20 : decode cX8_automation 20 = .ok (.goto 4, 3) := DX8_automation_1.1
theorem dX8_automation_23 : decode cX8_automation 23 = .ok (.iconst 2, 1) := DX8_automation_1.2.1
theorem dX8_automation_24 : decode cX8_automation 24 = .ok (.invokevirtual 51, 3) := DX8_automation_1.2.2.1
theorem dX8_automation_27 : decode cX8_automation 27 = .ok (.ifCond .eq 7, 3) := DX8_automation_1.2.2.2.1
theorem dX8_automation_30 : decode cX8_automation 30 = .ok (.iconst 0, 1) := DX8_automation_1.2.2.2.2.1
theorem dX8_automation_31 : decode cX8_automation 31 = .ok (.goto 9, 3) := DX8_automation_1.2.2.2.2.2.1
theorem dX8_automation_34 : decode cX8_automation 34 = .ok (.aload_n 0, 1) := DX8_automation_1.2.2.2.2.2.2.1
theorem dX8_automation_35 : decode cX8_automation 35 = .ok (.iload_n 1, 1) := DX8_automation_1.2.2.2.2.2.2.2.1
theorem dX8_automation_36 : decode cX8_automation 36 = .ok (.iload_n 2, 1) := DX8_automation_1.2.2.2.2.2.2.2.2.1
theorem dX8_automation_37 : decode cX8_automation 37 = .ok (.invokevirtual 188, 3) := DX8_automation_1.2.2.2.2.2.2.2.2.2
set_option maxRecDepth 100000 in
theorem DX8_automation_2 : decode cX8_automation 40 = .ok (.ireturn, 1) := by decide +kernel
theorem dX8_automation_40 : decode cX8_automation 40 = .ok (.ireturn, 1) := DX8_automation_2
set_option maxRecDepth 100000 in
theorem DX8_isKey_0 : decode cX8_isKey 0 = .ok (.iconst 0, 1) ∧ decode cX8_isKey 1 = .ok (.istore_n 2, 1) ∧ decode cX8_isKey 2 = .ok (.iconst 0, 1) ∧ decode cX8_isKey 3 = .ok (.istore_n 3, 1) ∧ decode cX8_isKey 4 = .ok (.iload_n 3, 1) ∧ decode cX8_isKey 5 = .ok (.iconst 4, 1) ∧ decode cX8_isKey 6 = .ok (.if_icmp .ge 35, 3) ∧ decode cX8_isKey 9 = .ok (.iload_n 2, 1) ∧ decode cX8_isKey 10 = .ok (.ifCond .ne 19, 3) ∧ decode cX8_isKey 13 = .ok (.aload_n 0, 1) := by decide +kernel
theorem dX8_isKey_0 : decode cX8_isKey 0 = .ok (.iconst 0, 1) := DX8_isKey_0.1
theorem dX8_isKey_1 : decode cX8_isKey 1 = .ok (.istore_n 2, 1) := DX8_isKey_0.2.1
theorem dX8_isKey_2 : decode cX8_isKey 2 = .ok (.iconst 0, 1) := DX8_isKey_0.2.2.1
theorem dX8_isKey_3 : decode cX8_isKey 3 = .ok (.istore_n 3, 1) := DX8_isKey_0.2.2.2.1
theorem dX8_isKey_4 : decode cX8_isKey 4 = .ok (.iload_n 3, 1) := DX8_isKey_0.2.2.2.2.1
theorem dX8_isKey_5 : decode cX8_isKey 5 = .ok (.iconst 4, 1) := DX8_isKey_0.2.2.2.2.2.1
theorem dX8_isKey_6 : decode cX8_isKey 6 = .ok (.if_icmp .ge 35, 3) := DX8_isKey_0.2.2.2.2.2.2.1
theorem dX8_isKey_9 : decode cX8_isKey 9 = .ok (.iload_n 2, 1) := DX8_isKey_0.2.2.2.2.2.2.2.1
theorem dX8_isKey_10 : decode cX8_isKey 10 = .ok (.ifCond .ne 19, 3) := DX8_isKey_0.2.2.2.2.2.2.2.2.1
theorem dX8_isKey_13 : decode cX8_isKey 13 = .ok (.aload_n 0, 1) := DX8_isKey_0.2.2.2.2.2.2.2.2.2
set_option maxRecDepth 100000 in
theorem DX8_isKey_1 : decode cX8_isKey 14 = .ok (.getfield 7, 3) ∧ decode cX8_isKey 17 = .ok (.iload_n 3, 1) ∧ decode cX8_isKey 18 = .ok (.invokestatic 35, 3) ∧ decode cX8_isKey 21 = .ok (.bipush 29, 2) ∧ decode cX8_isKey 23 = .ok (.iadd, 1) ∧ decode cX8_isKey 24 = .ok (.iaload, 1) ∧ decode cX8_isKey 25 = .ok (.iload_n 1, 1) ∧ decode cX8_isKey 26 = .ok (.if_icmp .ne 7, 3) ∧ decode cX8_isKey 29 = .ok (.iconst 1, 1) ∧ decode cX8_isKey 30 = .ok (.goto 4, 3) := by decide +kernel
theorem dX8_isKey_14 : decode cX8_isKey 14 = .ok (.getfield 7, 3) := DX8_isKey_1.1
theorem dX8_isKey_17 : decode cX8_isKey 17 = .ok (.iload_n 3, 1) := DX8_isKey_1.2.1
theorem dX8_isKey_18 : decode cX8_isKey 18 = .ok (.invokestatic 35, 3) := DX8_isKey_1.2.2.1
theorem dX8_isKey_21 : decode cX8_isKey 21 = .ok (.bipush 29, 2) := DX8_isKey_1.2.2.2.1
theorem dX8_isKey_23 : decode cX8_isKey 23 = .ok (.iadd, 1) := DX8_isKey_1.2.2.2.2.1
theorem dX8_isKey_24 : decode cX8_isKey 24 = .ok (.iaload, 1) := DX8_isKey_1.2.2.2.2.2.1
theorem dX8_isKey_25 : decode cX8_isKey 25 = .ok (.iload_n 1, 1) := DX8_isKey_1.2.2.2.2.2.2.1
theorem dX8_isKey_26 : decode cX8_isKey 26 = .ok (.if_icmp .ne 7, 3) := DX8_isKey_1.2.2.2.2.2.2.2.1
theorem dX8_isKey_29 : decode cX8_isKey 29 = .ok (.iconst 1, 1) := DX8_isKey_1.2.2.2.2.2.2.2.2.1
theorem dX8_isKey_30 : decode cX8_isKey 30 = .ok (.goto 4, 3) := DX8_isKey_1.2.2.2.2.2.2.2.2.2
set_option maxRecDepth 100000 in
theorem DX8_isKey_2 : decode cX8_isKey 33 = .ok (.iconst 0, 1) ∧ decode cX8_isKey 34 = .ok (.istore_n 2, 1) ∧ decode cX8_isKey 35 = .ok (.iinc 3 1, 3) ∧ decode cX8_isKey 38 = .ok (.goto (-34), 3) ∧ decode cX8_isKey 41 = .ok (.iload_n 2, 1) ∧ decode cX8_isKey 42 = .ok (.ireturn, 1) := by decide +kernel
theorem dX8_isKey_33 : decode cX8_isKey 33 = .ok (.iconst 0, 1) := DX8_isKey_2.1
theorem dX8_isKey_34 : decode cX8_isKey 34 = .ok (.istore_n 2, 1) := DX8_isKey_2.2.1
theorem dX8_isKey_35 : decode cX8_isKey 35 = .ok (.iinc 3 1, 3) := DX8_isKey_2.2.2.1
theorem dX8_isKey_38 : decode cX8_isKey 38 = .ok (.goto (-34), 3) := DX8_isKey_2.2.2.2.1
theorem dX8_isKey_41 : decode cX8_isKey 41 = .ok (.iload_n 2, 1) := DX8_isKey_2.2.2.2.2.1
theorem dX8_isKey_42 : decode cX8_isKey 42 = .ok (.ireturn, 1) := DX8_isKey_2.2.2.2.2.2
set_option maxRecDepth 100000 in
theorem DX8_duck_0 : decode cX8_duck 0 = .ok (.iload_n 1, 1) ∧ decode cX8_duck 1 = .ok (.invokestatic 111, 3) ∧ decode cX8_duck 4 = .ok (.istore 7, 2) ∧ decode cX8_duck 6 = .ok (.iload_n 2, 1) ∧ decode cX8_duck 7 = .ok (.invokestatic 111, 3) ∧ decode cX8_duck 10 = .ok (.ifCond .eq 58, 3) ∧ decode cX8_duck 13 = .ok (.iload_n 3, 1) ∧ decode cX8_duck 14 = .ok (.i2l, 1) ∧ decode cX8_duck 15 = .ok (.lconst 0, 1) ∧ decode cX8_duck 16 = .ok (.ldc2_w 191, 3) := by decide +kernel
theorem dX8_duck_0 : decode cX8_duck 0 = .ok (.iload_n 1, 1) := DX8_duck_0.1
theorem dX8_duck_1 : decode cX8_duck 1 = .ok (.invokestatic 111, 3) := DX8_duck_0.2.1
theorem dX8_duck_4 : decode cX8_duck 4 = .ok (.istore 7, 2) := DX8_duck_0.2.2.1
theorem dX8_duck_6 : decode cX8_duck 6 = .ok (.iload_n 2, 1) := DX8_duck_0.2.2.2.1
theorem dX8_duck_7 : decode cX8_duck 7 = .ok (.invokestatic 111, 3) := DX8_duck_0.2.2.2.2.1
theorem dX8_duck_10 : decode cX8_duck 10 = .ok (.ifCond .eq 58, 3) := DX8_duck_0.2.2.2.2.2.1
theorem dX8_duck_13 : decode cX8_duck 13 = .ok (.iload_n 3, 1) := DX8_duck_0.2.2.2.2.2.2.1
theorem dX8_duck_14 : decode cX8_duck 14 = .ok (.i2l, 1) := DX8_duck_0.2.2.2.2.2.2.2.1
theorem dX8_duck_15 : decode cX8_duck 15 = .ok (.lconst 0, 1) := DX8_duck_0.2.2.2.2.2.2.2.2.1
theorem dX8_duck_16 : decode cX8_duck 16 = .ok (.ldc2_w 191, 3) := DX8_duck_0.2.2.2.2.2.2.2.2.2
set_option maxRecDepth 100000 in
theorem DX8_duck_1 : decode cX8_duck 19 = .ok (.invokestatic 45, 3) ∧ decode cX8_duck 22 = .ok (.ifCond .eq 46, 3) ∧ decode cX8_duck 25 = .ok (.iload 4, 2) ∧ decode cX8_duck 27 = .ok (.i2l, 1) ∧ decode cX8_duck 28 = .ok (.lconst 0, 1) ∧ decode cX8_duck 29 = .ok (.ldc2_w 58, 3) ∧ decode cX8_duck 32 = .ok (.invokestatic 45, 3) ∧ decode cX8_duck 35 = .ok (.ifCond .eq 33, 3) ∧ decode cX8_duck 38 = .ok (.iload 5, 2) ∧ decode cX8_duck 40 = .ok (.i2l, 1) := by decide +kernel
theorem dX8_duck_19 : decode cX8_duck 19 = .ok (.invokestatic 45, 3) := DX8_duck_1.1
theorem dX8_duck_22 : decode cX8_duck 22 = .ok (.ifCond .eq 46, 3) := DX8_duck_1.2.1
theorem dX8_duck_25 : decode cX8_duck 25 = .ok (.iload 4, 2) := DX8_duck_1.2.2.1
theorem dX8_duck_27 : decode cX8_duck 27 = .ok (.i2l, 1) := DX8_duck_1.2.2.2.1
theorem dX8_duck_28 : decode cX8_duck 28 = .ok (.lconst 0, 1) := DX8_duck_1.2.2.2.2.1
theorem dX8_duck_29 : decode cX8_duck 29 = .ok (.ldc2_w 58, 3) := DX8_duck_1.2.2.2.2.2.1
theorem dX8_duck_32 : decode cX8_duck 32 = .ok (.invokestatic 45, 3) := DX8_duck_1.2.2.2.2.2.2.1
theorem dX8_duck_35 : decode cX8_duck 35 = .ok (.ifCond .eq 33, 3) := DX8_duck_1.2.2.2.2.2.2.2.1
theorem dX8_duck_38 : decode cX8_duck 38 = .ok (.iload 5, 2) := DX8_duck_1.2.2.2.2.2.2.2.2.1
theorem dX8_duck_40 : decode cX8_duck 40 = .ok (.i2l, 1) := DX8_duck_1.2.2.2.2.2.2.2.2.2
set_option maxRecDepth 100000 in
theorem DX8_duck_2 : decode cX8_duck 41 = .ok (.lconst 1, 1) ∧ decode cX8_duck 42 = .ok (.ldc2_w 58, 3) ∧ decode cX8_duck 45 = .ok (.invokestatic 45, 3) ∧ decode cX8_duck 48 = .ok (.ifCond .eq 20, 3) ∧ decode cX8_duck 51 = .ok (.iload 6, 2) ∧ decode cX8_duck 53 = .ok (.i2l, 1) ∧ decode cX8_duck 54 = .ok (.lconst 1, 1) ∧ decode cX8_duck 55 = .ok (.ldc2_w 58, 3) ∧ decode cX8_duck 58 = .ok (.invokestatic 45, 3) ∧ decode cX8_duck 61 = .ok (.ifCond .eq 7, 3) := by decide +kernel
theorem dX8_duck_41 : decode cX8_duck 41 = .ok (.lconst 1, 1) := DX8_duck_2.1
theorem dX8_duck_42 : decode cX8_duck 42 = .ok (.ldc2_w 58, 3) := DX8_duck_2.2.1
theorem dX8_duck_45 : decode cX8_duck 45 = .ok (.invokestatic 45, 3) := DX8_duck_2.2.2.1
theorem dX8_duck_48 : decode cX8_duck 48 = .ok (.ifCond .eq 20, 3) := DX8_duck_2.2.2.2.1
theorem dX8_duck_51 : decode cX8_duck 51 = .ok (.iload 6, 2) := DX8_duck_2.2.2.2.2.1
theorem dX8_duck_53 : decode cX8_duck 53 = .ok (.i2l, 1) := DX8_duck_2.2.2.2.2.2.1
theorem dX8_duck_54 : decode cX8_duck 54 = .ok (.lconst 1, 1) := DX8_duck_2.2.2.2.2.2.2.1
theorem dX8_duck_55 : decode cX8_duck 55 = .ok (.ldc2_w 58, 3) := DX8_duck_2.2.2.2.2.2.2.2.1
theorem dX8_duck_58 : decode cX8_duck 58 = .ok (.invokestatic 45, 3) := DX8_duck_2.2.2.2.2.2.2.2.2.1
theorem dX8_duck_61 : decode cX8_duck 61 = .ok (.ifCond .eq 7, 3) := DX8_duck_2.2.2.2.2.2.2.2.2.2
set_option maxRecDepth 100000 in
theorem DX8_duck_3 : decode cX8_duck 64 = .ok (.iconst 1, 1) ∧ decode cX8_duck 65 = .ok (.goto 4, 3) ∧ decode cX8_duck 68 = .ok (.iconst 0, 1) ∧ decode cX8_duck 69 = .ok (.istore 8, 2) ∧ decode cX8_duck 71 = .ok (.iload 7, 2) ∧ decode cX8_duck 73 = .ok (.ifCond .eq 41, 3) ∧ decode cX8_duck 76 = .ok (.iload 8, 2) ∧ decode cX8_duck 78 = .ok (.ifCond .eq 36, 3) ∧ decode cX8_duck 81 = .ok (.iload_n 2, 1) ∧ decode cX8_duck 82 = .ok (.iload_n 1, 1) := by decide +kernel
theorem dX8_duck_64 : decode cX8_duck 64 = .ok (.iconst 1, 1) := DX8_duck_3.1
theorem dX8_duck_65 : decode cX8_duck 65 = .ok (.goto 4, 3) := DX8_duck_3.2.1
theorem dX8_duck_68 : decode cX8_duck 68 = .ok (.iconst 0, 1) := DX8_duck_3.2.2.1
theorem dX8_duck_69 : decode cX8_duck 69 = .ok (.istore 8, 2) := DX8_duck_3.2.2.2.1
theorem dX8_duck_71 : decode cX8_duck 71 = .ok (.iload 7, 2) := DX8_duck_3.2.2.2.2.1
theorem dX8_duck_73 : decode cX8_duck 73 = .ok (.ifCond .eq 41, 3) := DX8_duck_3.2.2.2.2.2.1
theorem dX8_duck_76 : decode cX8_duck 76 = .ok (.iload 8, 2) := DX8_duck_3.2.2.2.2.2.2.1
theorem dX8_duck_78 : decode cX8_duck 78 = .ok (.ifCond .eq 36, 3) := DX8_duck_3.2.2.2.2.2.2.2.1
theorem dX8_duck_81 : decode cX8_duck 81 = .ok (.iload_n 2, 1) := DX8_duck_3.2.2.2.2.2.2.2.2.1
theorem dX8_duck_82 : decode cX8_duck 82 = .ok (.iload_n 1, 1) := DX8_duck_3.2.2.2.2.2.2.2.2.2
set_option maxRecDepth 100000 in
theorem DX8_duck_4 : decode cX8_duck 83 = .ok (.if_icmp .eq 31, 3) ∧ decode cX8_duck 86 = .ok (.aload_n 0, 1) ∧ decode cX8_duck 87 = .ok (.getfield 7, 3) ∧ decode cX8_duck 90 = .ok (.iload_n 2, 1) ∧ decode cX8_duck 91 = .ok (.invokestatic 35, 3) ∧ decode cX8_duck 94 = .ok (.bipush 29, 2) ∧ decode cX8_duck 96 = .ok (.iadd, 1) ∧ decode cX8_duck 97 = .ok (.iaload, 1) ∧ decode cX8_duck 98 = .ok (.iconst (-1), 1) ∧ decode cX8_duck 99 = .ok (.if_icmp .ne 15, 3) := by decide +kernel
theorem dX8_duck_83 : decode cX8_duck 83 = .ok (.if_icmp .eq 31, 3) := DX8_duck_4.1
theorem dX8_duck_86 : decode cX8_duck 86 = .ok (.aload_n 0, 1) := DX8_duck_4.2.1
theorem dX8_duck_87 : decode cX8_duck 87 = .ok (.getfield 7, 3) := DX8_duck_4.2.2.1
theorem dX8_duck_90 : decode cX8_duck 90 = .ok (.iload_n 2, 1) := DX8_duck_4.2.2.2.1
theorem dX8_duck_91 : decode cX8_duck 91 = .ok (.invokestatic 35, 3) := DX8_duck_4.2.2.2.2.1
theorem dX8_duck_94 : decode cX8_duck 94 = .ok (.bipush 29, 2) := DX8_duck_4.2.2.2.2.2.1
theorem dX8_duck_96 : decode cX8_duck 96 = .ok (.iadd, 1) := DX8_duck_4.2.2.2.2.2.2.1
theorem dX8_duck_97 : decode cX8_duck 97 = .ok (.iaload, 1) := DX8_duck_4.2.2.2.2.2.2.2.1
theorem dX8_duck_98 : decode cX8_duck 98 = .ok (.iconst (-1), 1) := DX8_duck_4.2.2.2.2.2.2.2.2.1
theorem dX8_duck_99 : decode cX8_duck 99 = .ok (.if_icmp .ne 15, 3) := DX8_duck_4.2.2.2.2.2.2.2.2.2
set_option maxRecDepth 100000 in
theorem DX8_duck_5 : decode cX8_duck 102 = .ok (.aload_n 0, 1) ∧ decode cX8_duck 103 = .ok (.iload_n 1, 1) ∧ decode cX8_duck 104 = .ok (.invokevirtual 193, 3) ∧ decode cX8_duck 107 = .ok (.ifCond .ne 7, 3) ∧ decode cX8_duck 110 = .ok (.iconst 1, 1) ∧ decode cX8_duck 111 = .ok (.goto 4, 3) ∧ decode cX8_duck 114 = .ok (.iconst 0, 1) ∧ decode cX8_duck 115 = .ok (.istore 9, 2) ∧ decode cX8_duck 117 = .ok (.aload_n 0, 1) ∧ decode cX8_duck 118 = .ok (.iload 7, 2) := by decide +kernel
theorem dX8_duck_102 : decode cX8_duck 102 = .ok (.aload_n 0, 1) := DX8_duck_5.1
theorem dX8_duck_103 : decode cX8_duck 103 = .ok (.iload_n 1, 1) := DX8_duck_5.2.1
theorem dX8_duck_104 : decode cX8_duck 104 = .ok (.invokevirtual 193, 3) := DX8_duck_5.2.2.1
theorem dX8_duck_107 : decode cX8_duck 107 = .ok (.ifCond .ne 7, 3) := DX8_duck_5.2.2.2.1
theorem dX8_duck_110 : decode cX8_duck 110 = .ok (.iconst 1, 1) := DX8_duck_5.2.2.2.2.1
theorem dX8_duck_111 : decode cX8_duck 111 = .ok (.goto 4, 3) := DX8_duck_5.2.2.2.2.2.1
theorem dX8_duck_114 : decode cX8_duck 114 = .ok (.iconst 0, 1) := DX8_duck_5.2.2.2.2.2.2.1
theorem dX8_duck_115 : decode cX8_duck 115 = .ok (.istore 9, 2) := DX8_duck_5.2.2.2.2.2.2.2.1
theorem dX8_duck_117 : decode cX8_duck 117 = .ok (.aload_n 0, 1) := DX8_duck_5.2.2.2.2.2.2.2.2.1
theorem dX8_duck_118 : decode cX8_duck 118 = .ok (.iload 7, 2) := DX8_duck_5.2.2.2.2.2.2.2.2.2
set_option maxRecDepth 100000 in
theorem DX8_duck_6 : decode cX8_duck 120 = .ok (.ifCond .ne 7, 3) ∧ decode cX8_duck 123 = .ok (.iconst 1, 1) ∧ decode cX8_duck 124 = .ok (.goto 22, 3) ∧ decode cX8_duck 127 = .ok (.iload 8, 2) ∧ decode cX8_duck 129 = .ok (.ifCond .ne 7, 3) ∧ decode cX8_duck 132 = .ok (.iconst 2, 1) ∧ decode cX8_duck 133 = .ok (.goto 13, 3) ∧ decode cX8_duck 136 = .ok (.iload 9, 2) ∧ decode cX8_duck 138 = .ok (.ifCond .eq 7, 3) ∧ decode cX8_duck 141 = .ok (.iconst 0, 1) := by decide +kernel
theorem dX8_duck_120 : decode cX8_duck 120 = .ok (.ifCond .ne 7, 3) := DX8_duck_6.1
theorem dX8_duck_123 : decode cX8_duck 123 = .ok (.iconst 1, 1) := DX8_duck_6.2.1
theorem dX8_duck_124 : decode cX8_duck 124 = .ok (.goto 22, 3) := DX8_duck_6.2.2.1
theorem dX8_duck_127 : decode cX8_duck 127 = .ok (.iload 8, 2) := DX8_duck_6.2.2.2.1
theorem dX8_duck_129 : decode cX8_duck 129 = .ok (.ifCond .ne 7, 3) := DX8_duck_6.2.2.2.2.1
theorem dX8_duck_132 : decode cX8_duck 132 = .ok (.iconst 2, 1) := DX8_duck_6.2.2.2.2.2.1
theorem dX8_duck_133 : decode cX8_duck 133 = .ok (.goto 13, 3) := DX8_duck_6.2.2.2.2.2.2.1
theorem dX8_duck_136 : decode cX8_duck 136 = .ok (.iload 9, 2) := DX8_duck_6.2.2.2.2.2.2.2.1
theorem dX8_duck_138 : decode cX8_duck 138 = .ok (.ifCond .eq 7, 3) := DX8_duck_6.2.2.2.2.2.2.2.2.1
theorem dX8_duck_141 : decode cX8_duck 141 = .ok (.iconst 0, 1) := DX8_duck_6.2.2.2.2.2.2.2.2.2
set_option maxRecDepth 100000 in
theorem DX8_duck_7 : decode cX8_duck 142 = .ok (.goto 4, 3) ∧ decode cX8_duck 145 = .ok (.iconst 3, 1) ∧ decode cX8_duck 146 = .ok (.invokevirtual 73, 3) ∧ decode cX8_duck 149 = .ok (.ifCond .eq 5, 3) ∧ decode cX8_duck 152 = .ok (.iconst 0, 1) ∧ decode cX8_duck 153 = .ok (.ireturn, 1) ∧ decode cX8_duck 154 = .ok (.iload_n 1, 1) ∧ decode cX8_duck 155 = .ok (.invokestatic 35, 3) ∧ decode cX8_duck 158 = .ok (.istore 10, 2) ∧ decode cX8_duck 160 = .ok (.aload_n 0, 1) := by decide +kernel
theorem dX8_duck_142 : decode cX8_duck 142 = .ok (.goto 4, 3) := DX8_duck_7.1
theorem dX8_duck_145 : decode cX8_duck 145 = .ok (.iconst 3, 1) := DX8_duck_7.2.1
theorem dX8_duck_146 : decode cX8_duck 146 = .ok (.invokevirtual 73, 3) := DX8_duck_7.2.2.1
theorem dX8_duck_149 : decode cX8_duck 149 = .ok (.ifCond .eq 5, 3) := DX8_duck_7.2.2.2.1
theorem dX8_duck_152 : decode cX8_duck 152 = .ok (.iconst 0, 1) := DX8_duck_7.2.2.2.2.1
theorem dX8_duck_153 : decode cX8_duck 153 = .ok (.ireturn, 1) := DX8_duck_7.2.2.2.2.2.1
theorem dX8_duck_154 : decode cX8_duck 154 = .ok (.iload_n 1, 1) := DX8_duck_7.2.2.2.2.2.2.1
theorem dX8_duck_155 : decode cX8_duck 155 = .ok (.invokestatic 35, 3) := DX8_duck_7.2.2.2.2.2.2.2.1
theorem dX8_duck_158 : decode cX8_duck 158 = .ok (.istore 10, 2) := DX8_duck_7.2.2.2.2.2.2.2.2.1
theorem dX8_duck_160 : decode cX8_duck 160 = .ok (.aload_n 0, 1) := DX8_duck_7.2.2.2.2.2.2.2.2.2
set_option maxRecDepth 100000 in
theorem DX8_duck_8 : decode cX8_duck 161 = .ok (.getfield 7, 3) ∧ decode cX8_duck 164 = .ok (.iload 10, 2) ∧ decode cX8_duck 166 = .ok (.bipush 30, 2) ∧ decode cX8_duck 168 = .ok (.iadd, 1) ∧ decode cX8_duck 169 = .ok (.iload_n 3, 1) ∧ decode cX8_duck 170 = .ok (.iastore, 1) ∧ decode cX8_duck 171 = .ok (.aload_n 0, 1) ∧ decode cX8_duck 172 = .ok (.getfield 7, 3) ∧ decode cX8_duck 175 = .ok (.iload 10, 2) ∧ decode cX8_duck 177 = .ok (.bipush 31, 2) := by decide +kernel
theorem dX8_duck_161 : decode cX8_duck 161 = .ok (.getfield 7, 3) := DX8_duck_8.1
theorem dX8_duck_164 : decode cX8_duck 164 = .ok (.iload 10, 2) := DX8_duck_8.2.1
theorem dX8_duck_166 : decode cX8_duck 166 = .ok (.bipush 30, 2) := DX8_duck_8.2.2.1
theorem dX8_duck_168 : decode cX8_duck 168 = .ok (.iadd, 1) := DX8_duck_8.2.2.2.1
theorem dX8_duck_169 : decode cX8_duck 169 = .ok (.iload_n 3, 1) := DX8_duck_8.2.2.2.2.1
theorem dX8_duck_170 : decode cX8_duck 170 = .ok (.iastore, 1) := DX8_duck_8.2.2.2.2.2.1
theorem dX8_duck_171 : decode cX8_duck 171 = .ok (.aload_n 0, 1) := DX8_duck_8.2.2.2.2.2.2.1
theorem dX8_duck_172 : decode cX8_duck 172 = .ok (.getfield 7, 3) := DX8_duck_8.2.2.2.2.2.2.2.1
theorem dX8_duck_175 : decode cX8_duck 175 = .ok (.iload 10, 2) := DX8_duck_8.2.2.2.2.2.2.2.2.1
theorem dX8_duck_177 : decode cX8_duck 177 = .ok (.bipush 31, 2) := DX8_duck_8.2.2.2.2.2.2.2.2.2
set_option maxRecDepth 100000 in
theorem DX8_duck_9 : decode cX8_duck 179 = .ok (.iadd, 1) ∧ decode cX8_duck 180 = .ok (.iload 4, 2) ∧ decode cX8_duck 182 = .ok (.iastore, 1) ∧ decode cX8_duck 183 = .ok (.aload_n 0, 1) ∧ decode cX8_duck 184 = .ok (.getfield 7, 3) ∧ decode cX8_duck 187 = .ok (.iload 10, 2) ∧ decode cX8_duck 189 = .ok (.bipush 32, 2) ∧ decode cX8_duck 191 = .ok (.iadd, 1) ∧ decode cX8_duck 192 = .ok (.iload 5, 2) ∧ decode cX8_duck 194 = .ok (.iastore, 1) := by decide +kernel
theorem dX8_duck_179 : decode cX8_duck 179 = .ok (.iadd, 1) := DX8_duck_9.1
theorem dX8_duck_180 : decode cX8_duck 180 = .ok (.iload 4, 2) := DX8_duck_9.2.1
theorem dX8_duck_182 : decode cX8_duck 182 = .ok (.iastore, 1) := DX8_duck_9.2.2.1
theorem dX8_duck_183 : decode cX8_duck 183 = .ok (.aload_n 0, 1) := DX8_duck_9.2.2.2.1
theorem dX8_duck_184 : decode cX8_duck 184 = .ok (.getfield 7, 3) := DX8_duck_9.2.2.2.2.1
theorem dX8_duck_187 : decode cX8_duck 187 = .ok (.iload 10, 2) := DX8_duck_9.2.2.2.2.2.1
theorem dX8_duck_189 : decode cX8_duck 189 = .ok (.bipush 32, 2) := DX8_duck_9.2.2.2.2.2.2.1
theorem dX8_duck_191 : decode cX8_duck 191 = .ok (.iadd, 1) := DX8_duck_9.2.2.2.2.2.2.2.1
theorem dX8_duck_192 : decode cX8_duck 192 = .ok (.iload 5, 2) := DX8_duck_9.2.2.2.2.2.2.2.2.1
theorem dX8_duck_194 : decode cX8_duck 194 = .ok (.iastore, 1) := DX8_duck_9.2.2.2.2.2.2.2.2.2
set_option maxRecDepth 100000 in
theorem DX8_duck_10 : decode cX8_duck 195 = .ok (.aload_n 0, 1) ∧ decode cX8_duck 196 = .ok (.getfield 7, 3) ∧ decode cX8_duck 199 = .ok (.iload 10, 2) ∧ decode cX8_duck 201 = .ok (.bipush 33, 2) ∧ decode cX8_duck 203 = .ok (.iadd, 1) ∧ decode cX8_duck 204 = .ok (.iload 6, 2) ∧ decode cX8_duck 206 = .ok (.iastore, 1) ∧ decode cX8_duck 207 = .ok (.aload_n 0, 1) ∧ decode cX8_duck 208 = .ok (.iload 10, 2) ∧ decode cX8_duck 210 = .ok (.bipush 29, 2) := by decide +kernel
theorem dX8_duck_195 : decode cX8_duck 195 = .ok (.aload_n 0, 1) := DX8_duck_10.1
theorem dX8_duck_196 : decode cX8_duck 196 = .ok (.getfield 7, 3) := DX8_duck_10.2.1
theorem dX8_duck_199 : decode cX8_duck 199 = .ok (.iload 10, 2) := DX8_duck_10.2.2.1
theorem dX8_duck_201 : decode cX8_duck 201 = .ok (.bipush 33, 2) := DX8_duck_10.2.2.2.1
theorem dX8_duck_203 : decode cX8_duck 203 = .ok (.iadd, 1) := DX8_duck_10.2.2.2.2.1
theorem dX8_duck_204 : decode cX8_duck 204 = .ok (.iload 6, 2) := DX8_duck_10.2.2.2.2.2.1
theorem dX8_duck_206 : decode cX8_duck 206 = .ok (.iastore, 1) := DX8_duck_10.2.2.2.2.2.2.1
theorem dX8_duck_207 : decode cX8_duck 207 = .ok (.aload_n 0, 1) := DX8_duck_10.2.2.2.2.2.2.2.1
theorem dX8_duck_208 : decode cX8_duck 208 = .ok (.iload 10, 2) := DX8_duck_10.2.2.2.2.2.2.2.2.1
theorem dX8_duck_210 : decode cX8_duck 210 = .ok (.bipush 29, 2) := DX8_duck_10.2.2.2.2.2.2.2.2.2
set_option maxRecDepth 100000 in
theorem DX8_duck_11 : decode cX8_duck 212 = .ok (.iadd, 1) ∧ decode cX8_duck 213 = .ok (.iload_n 2, 1) ∧ decode cX8_duck 214 = .ok (.invokevirtual 76, 3) ∧ decode cX8_duck 217 = .ok (.ireturn, 1) := by decide +kernel
theorem dX8_duck_212 : decode cX8_duck 212 = .ok (.iadd, 1) := DX8_duck_11.1
theorem dX8_duck_213 : decode cX8_duck 213 = .ok (.iload_n 2, 1) := DX8_duck_11.2.1
theorem dX8_duck_214 : decode cX8_duck 214 = .ok (.invokevirtual 76, 3) := DX8_duck_11.2.2.1
theorem dX8_duck_217 : decode cX8_duck 217 = .ok (.ireturn, 1) := DX8_duck_11.2.2.2
set_option maxRecDepth 100000 in
theorem DX8_endDuck_0 : decode cX8_endDuck 0 = .ok (.aload_n 0, 1) ∧ decode cX8_endDuck 1 = .ok (.iload_n 1, 1) ∧ decode cX8_endDuck 2 = .ok (.invokestatic 111, 3) ∧ decode cX8_endDuck 5 = .ok (.ifCond .eq 7, 3) ∧ decode cX8_endDuck 8 = .ok (.iconst 0, 1) ∧ decode cX8_endDuck 9 = .ok (.goto 4, 3) ∧ decode cX8_endDuck 12 = .ok (.iconst 1, 1) ∧ decode cX8_endDuck 13 = .ok (.invokevirtual 73, 3) ∧ decode cX8_endDuck 16 = .ok (.ifCond .eq 7, 3) ∧ decode cX8_endDuck 19 = .ok (.iconst 0, 1) := by decide +kernel
theorem dX8_endDuck_0 : decode cX8_endDuck 0 = .ok (.aload_n 0, 1) := DX8_endDuck_0.1
theorem dX8_endDuck_1 : decode cX8_endDuck 1 = .ok (.iload_n 1, 1) := DX8_endDuck_0.2.1
theorem dX8_endDuck_2 : decode cX8_endDuck 2 = .ok (.invokestatic 111, 3) := DX8_endDuck_0.2.2.1
theorem dX8_endDuck_5 : decode cX8_endDuck 5 = .ok (.ifCond .eq 7, 3) := DX8_endDuck_0.2.2.2.1
theorem dX8_endDuck_8 : decode cX8_endDuck 8 = .ok (.iconst 0, 1) := DX8_endDuck_0.2.2.2.2.1
theorem dX8_endDuck_9 : decode cX8_endDuck 9 = .ok (.goto 4, 3) := DX8_endDuck_0.2.2.2.2.2.1
theorem dX8_endDuck_12 : decode cX8_endDuck 12 = .ok (.iconst 1, 1) := DX8_endDuck_0.2.2.2.2.2.2.1
theorem dX8_endDuck_13 : decode cX8_endDuck 13 = .ok (.invokevirtual 73, 3) := DX8_endDuck_0.2.2.2.2.2.2.2.1
theorem dX8_endDuck_16 : decode cX8_endDuck 16 = .ok (.ifCond .eq 7, 3) := DX8_endDuck_0.2.2.2.2.2.2.2.2.1
theorem dX8_endDuck_19 : decode cX8_endDuck 19 = .ok (.iconst 0, 1) := DX8_endDuck_0.2.2.2.2.2.2.2.2.2
set_option maxRecDepth 100000 in
theorem DX8_endDuck_1 : decode cX8_endDuck 20 = .ok (.goto 15, 3) ∧ decode cX8_endDuck 23 = .ok (.aload_n 0, 1) ∧ decode cX8_endDuck 24 = .ok (.iload_n 1, 1) ∧ decode cX8_endDuck 25 = .ok (.invokestatic 35, 3) ∧ decode cX8_endDuck 28 = .ok (.bipush 29, 2) ∧ decode cX8_endDuck 30 = .ok (.iadd, 1) ∧ decode cX8_endDuck 31 = .ok (.iconst (-1), 1) ∧ decode cX8_endDuck 32 = .ok (.invokevirtual 76, 3) ∧ decode cX8_endDuck 35 = .ok (.ireturn, 1) := by decide +kernel
theorem dX8_endDuck_20 : decode cX8_endDuck 20 = .ok (.goto 15, 3) := DX8_endDuck_1.1
theorem dX8_endDuck_23 : decode cX8_endDuck 23 = .ok (.aload_n 0, 1) := DX8_endDuck_1.2.1
theorem dX8_endDuck_24 : decode cX8_endDuck 24 = .ok (.iload_n 1, 1) := DX8_endDuck_1.2.2.1
theorem dX8_endDuck_25 : decode cX8_endDuck 25 = .ok (.invokestatic 35, 3) := DX8_endDuck_1.2.2.2.1
theorem dX8_endDuck_28 : decode cX8_endDuck 28 = .ok (.bipush 29, 2) := DX8_endDuck_1.2.2.2.2.1
theorem dX8_endDuck_30 : decode cX8_endDuck 30 = .ok (.iadd, 1) := DX8_endDuck_1.2.2.2.2.2.1
theorem dX8_endDuck_31 : decode cX8_endDuck 31 = .ok (.iconst (-1), 1) := DX8_endDuck_1.2.2.2.2.2.2.1
theorem dX8_endDuck_32 : decode cX8_endDuck 32 = .ok (.invokevirtual 76, 3) := DX8_endDuck_1.2.2.2.2.2.2.2.1
theorem dX8_endDuck_35 : decode cX8_endDuck 35 = .ok (.ireturn, 1) := DX8_endDuck_1.2.2.2.2.2.2.2.2
set_option maxRecDepth 100000 in
theorem DX8_dry_0 : decode cX8_dry 0 = .ok (.iconst (-1), 1) ∧ decode cX8_dry 1 = .ok (.istore_n 3, 1) ∧ decode cX8_dry 2 = .ok (.iconst (-1), 1) ∧ decode cX8_dry 3 = .ok (.istore 4, 2) ∧ decode cX8_dry 5 = .ok (.iconst 0, 1) ∧ decode cX8_dry 6 = .ok (.istore 5, 2) ∧ decode cX8_dry 8 = .ok (.iload 5, 2) ∧ decode cX8_dry 10 = .ok (.aload_n 0, 1) ∧ decode cX8_dry 11 = .ok (.getfield 7, 3) ∧ decode cX8_dry 14 = .ok (.bipush 8, 2) := by decide +kernel
theorem dX8_dry_0 : decode cX8_dry 0 = .ok (.iconst (-1), 1) := DX8_dry_0.1
theorem dX8_dry_1 : decode cX8_dry 1 = .ok (.istore_n 3, 1) := DX8_dry_0.2.1
theorem dX8_dry_2 : decode cX8_dry 2 = .ok (.iconst (-1), 1) := DX8_dry_0.2.2.1
theorem dX8_dry_3 : decode cX8_dry 3 = .ok (.istore 4, 2) := DX8_dry_0.2.2.2.1
theorem dX8_dry_5 : decode cX8_dry 5 = .ok (.iconst 0, 1) := DX8_dry_0.2.2.2.2.1
theorem dX8_dry_6 : decode cX8_dry 6 = .ok (.istore 5, 2) := DX8_dry_0.2.2.2.2.2.1
theorem dX8_dry_8 : decode cX8_dry 8 = .ok (.iload 5, 2) := DX8_dry_0.2.2.2.2.2.2.1
theorem dX8_dry_10 : decode cX8_dry 10 = .ok (.aload_n 0, 1) := DX8_dry_0.2.2.2.2.2.2.2.1
theorem dX8_dry_11 : decode cX8_dry 11 = .ok (.getfield 7, 3) := DX8_dry_0.2.2.2.2.2.2.2.2.1
theorem dX8_dry_14 : decode cX8_dry 14 = .ok (.bipush 8, 2) := DX8_dry_0.2.2.2.2.2.2.2.2.2
set_option maxRecDepth 100000 in
theorem DX8_dry_1 : decode cX8_dry 16 = .ok (.iaload, 1) ∧ decode cX8_dry 17 = .ok (.if_icmp .ge 55, 3) ∧ decode cX8_dry 20 = .ok (.aload_n 0, 1) ∧ decode cX8_dry 21 = .ok (.iload 5, 2) ∧ decode cX8_dry 23 = .ok (.iconst 0, 1) ∧ decode cX8_dry 24 = .ok (.invokevirtual 158, 3) ∧ decode cX8_dry 27 = .ok (.iload_n 1, 1) ∧ decode cX8_dry 28 = .ok (.if_icmp .ne 38, 3) ∧ decode cX8_dry 31 = .ok (.aload_n 0, 1) ∧ decode cX8_dry 32 = .ok (.iload 5, 2) := by decide +kernel
theorem dX8_dry_16 : decode cX8_dry 16 = .ok (.iaload, 1) := DX8_dry_1.1
theorem dX8_dry_17 : decode cX8_dry 17 = .ok (.if_icmp .ge 55, 3) := DX8_dry_1.2.1
theorem dX8_dry_20 : decode cX8_dry 20 = .ok (.aload_n 0, 1) := DX8_dry_1.2.2.1
theorem dX8_dry_21 : decode cX8_dry 21 = .ok (.iload 5, 2) := DX8_dry_1.2.2.2.1
theorem dX8_dry_23 : decode cX8_dry 23 = .ok (.iconst 0, 1) := DX8_dry_1.2.2.2.2.1
theorem dX8_dry_24 : decode cX8_dry 24 = .ok (.invokevirtual 158, 3) := DX8_dry_1.2.2.2.2.2.1
theorem dX8_dry_27 : decode cX8_dry 27 = .ok (.iload_n 1, 1) := DX8_dry_1.2.2.2.2.2.2.1
theorem dX8_dry_28 : decode cX8_dry 28 = .ok (.if_icmp .ne 38, 3) := DX8_dry_1.2.2.2.2.2.2.2.1
theorem dX8_dry_31 : decode cX8_dry 31 = .ok (.aload_n 0, 1) := DX8_dry_1.2.2.2.2.2.2.2.2.1
theorem dX8_dry_32 : decode cX8_dry 32 = .ok (.iload 5, 2) := DX8_dry_1.2.2.2.2.2.2.2.2.2
set_option maxRecDepth 100000 in
theorem DX8_dry_2 : decode cX8_dry 34 = .ok (.iload_n 2, 1) ∧ decode cX8_dry 35 = .ok (.invokevirtual 172, 3) ∧ decode cX8_dry 38 = .ok (.ifCond .eq 28, 3) ∧ decode cX8_dry 41 = .ok (.iload_n 3, 1) ∧ decode cX8_dry 42 = .ok (.iconst (-1), 1) ∧ decode cX8_dry 43 = .ok (.if_icmp .ne 7, 3) ∧ decode cX8_dry 46 = .ok (.iconst (-1), 1) ∧ decode cX8_dry 47 = .ok (.goto 5, 3) ∧ decode cX8_dry 50 = .ok (.iload 5, 2) ∧ decode cX8_dry 52 = .ok (.istore 4, 2) := by decide +kernel
theorem dX8_dry_34 : decode cX8_dry 34 = .ok (.iload_n 2, 1) := DX8_dry_2.1
theorem dX8_dry_35 : decode cX8_dry 35 = .ok (.invokevirtual 172, 3) := DX8_dry_2.2.1
theorem dX8_dry_38 : decode cX8_dry 38 = .ok (.ifCond .eq 28, 3) := DX8_dry_2.2.2.1
theorem dX8_dry_41 : decode cX8_dry 41 = .ok (.iload_n 3, 1) := DX8_dry_2.2.2.2.1
theorem dX8_dry_42 : decode cX8_dry 42 = .ok (.iconst (-1), 1) := DX8_dry_2.2.2.2.2.1
theorem dX8_dry_43 : decode cX8_dry 43 = .ok (.if_icmp .ne 7, 3) := DX8_dry_2.2.2.2.2.2.1
theorem dX8_dry_46 : decode cX8_dry 46 = .ok (.iconst (-1), 1) := DX8_dry_2.2.2.2.2.2.2.1
theorem dX8_dry_47 : decode cX8_dry 47 = .ok (.goto 5, 3) := DX8_dry_2.2.2.2.2.2.2.2.1
theorem dX8_dry_50 : decode cX8_dry 50 = .ok (.iload 5, 2) := DX8_dry_2.2.2.2.2.2.2.2.2.1
theorem dX8_dry_52 : decode cX8_dry 52 = .ok (.istore 4, 2) := DX8_dry_2.2.2.2.2.2.2.2.2.2
set_option maxRecDepth 100000 in
theorem DX8_dry_3 : decode cX8_dry 54 = .ok (.iload_n 3, 1) ∧ decode cX8_dry 55 = .ok (.iconst (-1), 1) ∧ decode cX8_dry 56 = .ok (.if_icmp .ne 8, 3) ∧ decode cX8_dry 59 = .ok (.iload 5, 2) ∧ decode cX8_dry 61 = .ok (.goto 4, 3) ∧ decode cX8_dry 64 = .ok (.iload_n 3, 1) ∧ decode cX8_dry 65 = .ok (.istore_n 3, 1) ∧ decode cX8_dry 66 = .ok (.iinc 5 1, 3) ∧ decode cX8_dry 69 = .ok (.goto (-61), 3) ∧ decode cX8_dry 72 = .ok (.iload_n 3, 1) := by decide +kernel
theorem dX8_dry_54 : decode cX8_dry 54 = .ok (.iload_n 3, 1) := DX8_dry_3.1
theorem dX8_dry_55 : decode cX8_dry 55 = .ok (.iconst (-1), 1) := DX8_dry_3.2.1
theorem dX8_dry_56 : decode cX8_dry 56 = .ok (.if_icmp .ne 8, 3) := DX8_dry_3.2.2.1
theorem dX8_dry_59 : decode cX8_dry 59 = .ok (.iload 5, 2) := DX8_dry_3.2.2.2.1
theorem dX8_dry_61 : decode cX8_dry 61 = .ok (.goto 4, 3) := DX8_dry_3.2.2.2.2.1
theorem dX8_dry_64 : decode cX8_dry 64 = .ok (.iload_n 3, 1) := DX8_dry_3.2.2.2.2.2.1
theorem dX8_dry_65 : decode cX8_dry 65 = .ok (.istore_n 3, 1) := DX8_dry_3.2.2.2.2.2.2.1
theorem dX8_dry_66 : decode cX8_dry 66 = .ok (.iinc 5 1, 3) := DX8_dry_3.2.2.2.2.2.2.2.1
theorem dX8_dry_69 : decode cX8_dry 69 = .ok (.goto (-61), 3) := DX8_dry_3.2.2.2.2.2.2.2.2.1
theorem dX8_dry_72 : decode cX8_dry 72 = .ok (.iload_n 3, 1) := DX8_dry_3.2.2.2.2.2.2.2.2.2
set_option maxRecDepth 100000 in
theorem DX8_dry_4 : decode cX8_dry 73 = .ok (.iconst (-1), 1) ∧ decode cX8_dry 74 = .ok (.if_icmp .ne 7, 3) ∧ decode cX8_dry 77 = .ok (.iconst 0, 1) ∧ decode cX8_dry 78 = .ok (.goto 9, 3) ∧ decode cX8_dry 81 = .ok (.aload_n 0, 1) ∧ decode cX8_dry 82 = .ok (.iload_n 3, 1) ∧ decode cX8_dry 83 = .ok (.iload_n 2, 1) ∧ decode cX8_dry 84 = .ok (.invokevirtual 175, 3) ∧ decode cX8_dry 87 = .ok (.istore 5, 2) ∧ decode cX8_dry 89 = .ok (.iload 4, 2) := by decide +kernel
theorem dX8_dry_73 : decode cX8_dry 73 = .ok (.iconst (-1), 1) := DX8_dry_4.1
theorem dX8_dry_74 : decode cX8_dry 74 = .ok (.if_icmp .ne 7, 3) := DX8_dry_4.2.1
theorem dX8_dry_77 : decode cX8_dry 77 = .ok (.iconst 0, 1) := DX8_dry_4.2.2.1
theorem dX8_dry_78 : decode cX8_dry 78 = .ok (.goto 9, 3) := DX8_dry_4.2.2.2.1
theorem dX8_dry_81 : decode cX8_dry 81 = .ok (.aload_n 0, 1) := DX8_dry_4.2.2.2.2.1
theorem dX8_dry_82 : decode cX8_dry 82 = .ok (.iload_n 3, 1) := DX8_dry_4.2.2.2.2.2.1
theorem dX8_dry_83 : decode cX8_dry 83 = .ok (.iload_n 2, 1) := DX8_dry_4.2.2.2.2.2.2.1
theorem dX8_dry_84 : decode cX8_dry 84 = .ok (.invokevirtual 175, 3) := DX8_dry_4.2.2.2.2.2.2.2.1
theorem dX8_dry_87 : decode cX8_dry 87 = .ok (.istore 5, 2) := DX8_dry_4.2.2.2.2.2.2.2.2.1
theorem dX8_dry_89 : decode cX8_dry 89 = .ok (.iload 4, 2) := DX8_dry_4.2.2.2.2.2.2.2.2.2
set_option maxRecDepth 100000 in
theorem DX8_dry_5 : decode cX8_dry 91 = .ok (.iconst (-1), 1) ∧ decode cX8_dry 92 = .ok (.if_icmp .eq 60, 3) ∧ decode cX8_dry 95 = .ok (.sipush 1000, 3) ∧ decode cX8_dry 98 = .ok (.iload_n 2, 1) ∧ decode cX8_dry 99 = .ok (.aload_n 0, 1) ∧ decode cX8_dry 100 = .ok (.iload 4, 2) ∧ decode cX8_dry 102 = .ok (.iconst 2, 1) ∧ decode cX8_dry 103 = .ok (.invokevirtual 158, 3) ∧ decode cX8_dry 106 = .ok (.isub, 1) ∧ decode cX8_dry 107 = .ok (.imul, 1) := by decide +kernel
theorem dX8_dry_91 : decode cX8_dry 91 = .ok (.iconst (-1), 1) := DX8_dry_5.1
theorem dX8_dry_92 : decode cX8_dry 92 = .ok (.if_icmp .eq 60, 3) := DX8_dry_5.2.1
theorem dX8_dry_95 : decode cX8_dry 95 = .ok (.sipush 1000, 3) := DX8_dry_5.2.2.1
theorem dX8_dry_98 : decode cX8_dry 98 = .ok (.iload_n 2, 1) := DX8_dry_5.2.2.2.1
theorem dX8_dry_99 : decode cX8_dry 99 = .ok (.aload_n 0, 1) := DX8_dry_5.2.2.2.2.1
theorem dX8_dry_100 : decode cX8_dry 100 = .ok (.iload 4, 2) := DX8_dry_5.2.2.2.2.2.1
theorem dX8_dry_102 : decode cX8_dry 102 = .ok (.iconst 2, 1) := DX8_dry_5.2.2.2.2.2.2.1
theorem dX8_dry_103 : decode cX8_dry 103 = .ok (.invokevirtual 158, 3) := DX8_dry_5.2.2.2.2.2.2.2.1
theorem dX8_dry_106 : decode cX8_dry 106 = .ok (.isub, 1) := DX8_dry_5.2.2.2.2.2.2.2.2.1
theorem dX8_dry_107 : decode cX8_dry 107 = .ok (.imul, 1) := DX8_dry_5.2.2.2.2.2.2.2.2.2
set_option maxRecDepth 100000 in
theorem DX8_dry_6 : decode cX8_dry 108 = .ok (.aload_n 0, 1) ∧ decode cX8_dry 109 = .ok (.iload_n 3, 1) ∧ decode cX8_dry 110 = .ok (.invokevirtual 161, 3) ∧ decode cX8_dry 113 = .ok (.aload_n 0, 1) ∧ decode cX8_dry 114 = .ok (.iload 4, 2) ∧ decode cX8_dry 116 = .ok (.iconst 2, 1) ∧ decode cX8_dry 117 = .ok (.invokevirtual 158, 3) ∧ decode cX8_dry 120 = .ok (.isub, 1) ∧ decode cX8_dry 121 = .ok (.idiv, 1) ∧ decode cX8_dry 122 = .ok (.istore 6, 2) := by decide +kernel
theorem dX8_dry_108 : decode cX8_dry 108 = .ok (.aload_n 0, 1) := DX8_dry_6.1
theorem dX8_dry_109 : decode cX8_dry 109 = .ok (.iload_n 3, 1) := DX8_dry_6.2.1
theorem dX8_dry_110 : decode cX8_dry 110 = .ok (.invokevirtual 161, 3) := DX8_dry_6.2.2.1
theorem dX8_dry_113 : decode cX8_dry 113 = .ok (.aload_n 0, 1) := DX8_dry_6.2.2.2.1
theorem dX8_dry_114 : decode cX8_dry 114 = .ok (.iload 4, 2) := DX8_dry_6.2.2.2.2.1
theorem dX8_dry_116 : decode cX8_dry 116 = .ok (.iconst 2, 1) := DX8_dry_6.2.2.2.2.2.1
theorem dX8_dry_117 : decode cX8_dry 117 = .ok (.invokevirtual 158, 3) := DX8_dry_6.2.2.2.2.2.2.1
theorem dX8_dry_120 : decode cX8_dry 120 = .ok (.isub, 1) := DX8_dry_6.2.2.2.2.2.2.2.1
theorem dX8_dry_121 : decode cX8_dry 121 = .ok (.idiv, 1) := DX8_dry_6.2.2.2.2.2.2.2.2.1
theorem dX8_dry_122 : decode cX8_dry 122 = .ok (.istore 6, 2) := DX8_dry_6.2.2.2.2.2.2.2.2.2
set_option maxRecDepth 100000 in
theorem DX8_dry_7 : decode cX8_dry 124 = .ok (.iload 5, 2) ∧ decode cX8_dry 126 = .ok (.i2l, 1) ∧ decode cX8_dry 127 = .ok (.sipush 1000, 3) ∧ decode cX8_dry 130 = .ok (.iload 6, 2) ∧ decode cX8_dry 132 = .ok (.isub, 1) ∧ decode cX8_dry 133 = .ok (.invokestatic 164, 3) ∧ decode cX8_dry 136 = .ok (.aload_n 0, 1) ∧ decode cX8_dry 137 = .ok (.iload 4, 2) ∧ decode cX8_dry 139 = .ok (.iload_n 2, 1) ∧ decode cX8_dry 140 = .ok (.invokevirtual 175, 3) := by decide +kernel
theorem dX8_dry_124 : decode cX8_dry 124 = .ok (.iload 5, 2) := DX8_dry_7.1
theorem dX8_dry_126 : decode cX8_dry 126 = .ok (.i2l, 1) := DX8_dry_7.2.1
theorem dX8_dry_127 : decode cX8_dry 127 = .ok (.sipush 1000, 3) := DX8_dry_7.2.2.1
theorem dX8_dry_130 : decode cX8_dry 130 = .ok (.iload 6, 2) := DX8_dry_7.2.2.2.1
theorem dX8_dry_132 : decode cX8_dry 132 = .ok (.isub, 1) := DX8_dry_7.2.2.2.2.1
theorem dX8_dry_133 : decode cX8_dry 133 = .ok (.invokestatic 164, 3) := DX8_dry_7.2.2.2.2.2.1
theorem dX8_dry_136 : decode cX8_dry 136 = .ok (.aload_n 0, 1) := DX8_dry_7.2.2.2.2.2.2.1
theorem dX8_dry_137 : decode cX8_dry 137 = .ok (.iload 4, 2) := DX8_dry_7.2.2.2.2.2.2.2.1
theorem dX8_dry_139 : decode cX8_dry 139 = .ok (.iload_n 2, 1) := DX8_dry_7.2.2.2.2.2.2.2.2.1
theorem dX8_dry_140 : decode cX8_dry 140 = .ok (.invokevirtual 175, 3) := DX8_dry_7.2.2.2.2.2.2.2.2.2
set_option maxRecDepth 100000 in
theorem DX8_dry_8 : decode cX8_dry 143 = .ok (.i2l, 1) ∧ decode cX8_dry 144 = .ok (.iload 6, 2) ∧ decode cX8_dry 146 = .ok (.invokestatic 164, 3) ∧ decode cX8_dry 149 = .ok (.iadd, 1) ∧ decode cX8_dry 150 = .ok (.istore 5, 2) ∧ decode cX8_dry 152 = .ok (.iload 5, 2) ∧ decode cX8_dry 154 = .ok (.i2l, 1) ∧ decode cX8_dry 155 = .ok (.aload_n 0, 1) ∧ decode cX8_dry 156 = .ok (.getfield 7, 3) ∧ decode cX8_dry 159 = .ok (.iload_n 1, 1) := by decide +kernel
theorem dX8_dry_143 : decode cX8_dry 143 = .ok (.i2l, 1) := DX8_dry_8.1
theorem dX8_dry_144 : decode cX8_dry 144 = .ok (.iload 6, 2) := DX8_dry_8.2.1
theorem dX8_dry_146 : decode cX8_dry 146 = .ok (.invokestatic 164, 3) := DX8_dry_8.2.2.1
theorem dX8_dry_149 : decode cX8_dry 149 = .ok (.iadd, 1) := DX8_dry_8.2.2.2.1
theorem dX8_dry_150 : decode cX8_dry 150 = .ok (.istore 5, 2) := DX8_dry_8.2.2.2.2.1
theorem dX8_dry_152 : decode cX8_dry 152 = .ok (.iload 5, 2) := DX8_dry_8.2.2.2.2.2.1
theorem dX8_dry_154 : decode cX8_dry 154 = .ok (.i2l, 1) := DX8_dry_8.2.2.2.2.2.2.1
theorem dX8_dry_155 : decode cX8_dry 155 = .ok (.aload_n 0, 1) := DX8_dry_8.2.2.2.2.2.2.2.1
theorem dX8_dry_156 : decode cX8_dry 156 = .ok (.getfield 7, 3) := DX8_dry_8.2.2.2.2.2.2.2.2.1
theorem dX8_dry_159 : decode cX8_dry 159 = .ok (.iload_n 1, 1) := DX8_dry_8.2.2.2.2.2.2.2.2.2
set_option maxRecDepth 100000 in
theorem DX8_dry_9 : decode cX8_dry 160 = .ok (.invokestatic 35, 3) ∧ decode cX8_dry 163 = .ok (.iaload, 1) ∧ decode cX8_dry 164 = .ok (.invokestatic 164, 3) ∧ decode cX8_dry 167 = .ok (.i2l, 1) ∧ decode cX8_dry 168 = .ok (.aload_n 0, 1) ∧ decode cX8_dry 169 = .ok (.iload_n 1, 1) ∧ decode cX8_dry 170 = .ok (.iload_n 2, 1) ∧ decode cX8_dry 171 = .ok (.invokevirtual 188, 3) ∧ decode cX8_dry 174 = .ok (.invokestatic 164, 3) ∧ decode cX8_dry 177 = .ok (.ireturn, 1) := by decide +kernel
theorem dX8_dry_160 : decode cX8_dry 160 = .ok (.invokestatic 35, 3) := DX8_dry_9.1
theorem dX8_dry_163 : decode cX8_dry 163 = .ok (.iaload, 1) := DX8_dry_9.2.1
theorem dX8_dry_164 : decode cX8_dry 164 = .ok (.invokestatic 164, 3) := DX8_dry_9.2.2.1
theorem dX8_dry_167 : decode cX8_dry 167 = .ok (.i2l, 1) := DX8_dry_9.2.2.2.1
theorem dX8_dry_168 : decode cX8_dry 168 = .ok (.aload_n 0, 1) := DX8_dry_9.2.2.2.2.1
theorem dX8_dry_169 : decode cX8_dry 169 = .ok (.iload_n 1, 1) := DX8_dry_9.2.2.2.2.2.1
theorem dX8_dry_170 : decode cX8_dry 170 = .ok (.iload_n 2, 1) := DX8_dry_9.2.2.2.2.2.2.1
theorem dX8_dry_171 : decode cX8_dry 171 = .ok (.invokevirtual 188, 3) := DX8_dry_9.2.2.2.2.2.2.2.1
theorem dX8_dry_174 : decode cX8_dry 174 = .ok (.invokestatic 164, 3) := DX8_dry_9.2.2.2.2.2.2.2.2.1
theorem dX8_dry_177 : decode cX8_dry 177 = .ok (.ireturn, 1) := DX8_dry_9.2.2.2.2.2.2.2.2.2
set_option maxRecDepth 100000 in
theorem DX8_levelOf_0 : decode cX8_levelOf 0 = .ok (.iconst 0, 1) ∧ decode cX8_levelOf 1 = .ok (.istore_n 3, 1) ∧ decode cX8_levelOf 2 = .ok (.bipush 40, 2) ∧ decode cX8_levelOf 4 = .ok (.iload_n 2, 1) ∧ decode cX8_levelOf 5 = .ok (.imul, 1) ∧ decode cX8_levelOf 6 = .ok (.istore 4, 2) ∧ decode cX8_levelOf 8 = .ok (.iload 4, 2) ∧ decode cX8_levelOf 10 = .ok (.bipush 40, 2) ∧ decode cX8_levelOf 12 = .ok (.iload_n 2, 1) ∧ decode cX8_levelOf 13 = .ok (.iconst 1, 1) := by decide +kernel
theorem dX8_levelOf_0 : decode cX8_levelOf 0 = .ok (.iconst 0, 1) := DX8_levelOf_0.1
theorem dX8_levelOf_1 : decode cX8_levelOf 1 = .ok (.istore_n 3, 1) := DX8_levelOf_0.2.1
theorem dX8_levelOf_2 : decode cX8_levelOf 2 = .ok (.bipush 40, 2) := DX8_levelOf_0.2.2.1
theorem dX8_levelOf_4 : decode cX8_levelOf 4 = .ok (.iload_n 2, 1) := DX8_levelOf_0.2.2.2.1
theorem dX8_levelOf_5 : decode cX8_levelOf 5 = .ok (.imul, 1) := DX8_levelOf_0.2.2.2.2.1
theorem dX8_levelOf_6 : decode cX8_levelOf 6 = .ok (.istore 4, 2) := DX8_levelOf_0.2.2.2.2.2.1
theorem dX8_levelOf_8 : decode cX8_levelOf 8 = .ok (.iload 4, 2) := DX8_levelOf_0.2.2.2.2.2.2.1
theorem dX8_levelOf_10 : decode cX8_levelOf 10 = .ok (.bipush 40, 2) := DX8_levelOf_0.2.2.2.2.2.2.2.1
theorem dX8_levelOf_12 : decode cX8_levelOf 12 = .ok (.iload_n 2, 1) := DX8_levelOf_0.2.2.2.2.2.2.2.2.1
theorem dX8_levelOf_13 : decode cX8_levelOf 13 = .ok (.iconst 1, 1) := DX8_levelOf_0.2.2.2.2.2.2.2.2.2
set_option maxRecDepth 100000 in
theorem DX8_levelOf_1 : decode cX8_levelOf 14 = .ok (.iadd, 1) ∧ decode cX8_levelOf 15 = .ok (.imul, 1) ∧ decode cX8_levelOf 16 = .ok (.if_icmp .ge 46, 3) ∧ decode cX8_levelOf 19 = .ok (.aload_n 0, 1) ∧ decode cX8_levelOf 20 = .ok (.iload_n 1, 1) ∧ decode cX8_levelOf 21 = .ok (.iload 4, 2) ∧ decode cX8_levelOf 23 = .ok (.invokevirtual 196, 3) ∧ decode cX8_levelOf 26 = .ok (.istore 5, 2) ∧ decode cX8_levelOf 28 = .ok (.iload 5, 2) ∧ decode cX8_levelOf 30 = .ok (.ifCond .ge 9, 3) := by decide +kernel
theorem dX8_levelOf_14 : decode cX8_levelOf 14 = .ok (.iadd, 1) := DX8_levelOf_1.1
theorem dX8_levelOf_15 : decode cX8_levelOf 15 = .ok (.imul, 1) := DX8_levelOf_1.2.1
theorem dX8_levelOf_16 : decode cX8_levelOf 16 = .ok (.if_icmp .ge 46, 3) := DX8_levelOf_1.2.2.1
theorem dX8_levelOf_19 : decode cX8_levelOf 19 = .ok (.aload_n 0, 1) := DX8_levelOf_1.2.2.2.1
theorem dX8_levelOf_20 : decode cX8_levelOf 20 = .ok (.iload_n 1, 1) := DX8_levelOf_1.2.2.2.2.1
theorem dX8_levelOf_21 : decode cX8_levelOf 21 = .ok (.iload 4, 2) := DX8_levelOf_1.2.2.2.2.2.1
theorem dX8_levelOf_23 : decode cX8_levelOf 23 = .ok (.invokevirtual 196, 3) := DX8_levelOf_1.2.2.2.2.2.2.1
theorem dX8_levelOf_26 : decode cX8_levelOf 26 = .ok (.istore 5, 2) := DX8_levelOf_1.2.2.2.2.2.2.2.1
theorem dX8_levelOf_28 : decode cX8_levelOf 28 = .ok (.iload 5, 2) := DX8_levelOf_1.2.2.2.2.2.2.2.2.1
theorem dX8_levelOf_30 : decode cX8_levelOf 30 = .ok (.ifCond .ge 9, 3) := DX8_levelOf_1.2.2.2.2.2.2.2.2.2
set_option maxRecDepth 100000 in
theorem DX8_levelOf_2 : decode cX8_levelOf 33 = .ok (.iload 5, 2) ∧ decode cX8_levelOf 35 = .ok (.ineg, 1) ∧ decode cX8_levelOf 36 = .ok (.goto 5, 3) ∧ decode cX8_levelOf 39 = .ok (.iload 5, 2) ∧ decode cX8_levelOf 41 = .ok (.istore 6, 2) ∧ decode cX8_levelOf 43 = .ok (.iload 6, 2) ∧ decode cX8_levelOf 45 = .ok (.iload_n 3, 1) ∧ decode cX8_levelOf 46 = .ok (.if_icmp .le 8, 3) ∧ decode cX8_levelOf 49 = .ok (.iload 6, 2) ∧ decode cX8_levelOf 51 = .ok (.goto 4, 3) := by decide +kernel
theorem dX8_levelOf_33 : decode cX8_levelOf 33 = .ok (.iload 5, 2) := DX8_levelOf_2.1
theorem dX8_levelOf_35 : decode cX8_levelOf 35 = .ok (.ineg, 1) := DX8_levelOf_2.2.1
theorem dX8_levelOf_36 : decode cX8_levelOf 36 = .ok (.goto 5, 3) := DX8_levelOf_2.2.2.1
theorem dX8_levelOf_39 : decode cX8_levelOf 39 = .ok (.iload 5, 2) := DX8_levelOf_2.2.2.2.1
theorem dX8_levelOf_41 : decode cX8_levelOf 41 = .ok (.istore 6, 2) := DX8_levelOf_2.2.2.2.2.1
theorem dX8_levelOf_43 : decode cX8_levelOf 43 = .ok (.iload 6, 2) := DX8_levelOf_2.2.2.2.2.2.1
theorem dX8_levelOf_45 : decode cX8_levelOf 45 = .ok (.iload_n 3, 1) := DX8_levelOf_2.2.2.2.2.2.2.1
theorem dX8_levelOf_46 : decode cX8_levelOf 46 = .ok (.if_icmp .le 8, 3) := DX8_levelOf_2.2.2.2.2.2.2.2.1
theorem dX8_levelOf_49 : decode cX8_levelOf 49 = .ok (.iload 6, 2) := DX8_levelOf_2.2.2.2.2.2.2.2.2.1
theorem dX8_levelOf_51 : decode cX8_levelOf 51 = .ok (.goto 4, 3) := DX8_levelOf_2.2.2.2.2.2.2.2.2.2
set_option maxRecDepth 100000 in
theorem DX8_levelOf_3 : decode cX8_levelOf 54 = .ok (.iload_n 3, 1) ∧ decode cX8_levelOf 55 = .ok (.istore_n 3, 1) ∧ decode cX8_levelOf 56 = .ok (.iinc 4 1, 3) ∧ decode cX8_levelOf 59 = .ok (.goto (-51), 3) ∧ decode cX8_levelOf 62 = .ok (.iload_n 3, 1) ∧ decode cX8_levelOf 63 = .ok (.ireturn, 1) := by decide +kernel
theorem dX8_levelOf_54 : decode cX8_levelOf 54 = .ok (.iload_n 3, 1) := DX8_levelOf_3.1
theorem dX8_levelOf_55 : decode cX8_levelOf 55 = .ok (.istore_n 3, 1) := DX8_levelOf_3.2.1
theorem dX8_levelOf_56 : decode cX8_levelOf 56 = .ok (.iinc 4 1, 3) := DX8_levelOf_3.2.2.1
theorem dX8_levelOf_59 : decode cX8_levelOf 59 = .ok (.goto (-51), 3) := DX8_levelOf_3.2.2.2.1
theorem dX8_levelOf_62 : decode cX8_levelOf 62 = .ok (.iload_n 3, 1) := DX8_levelOf_3.2.2.2.2.1
theorem dX8_levelOf_63 : decode cX8_levelOf 63 = .ok (.ireturn, 1) := DX8_levelOf_3.2.2.2.2.2
set_option maxRecDepth 100000 in
theorem DX8_laysDuck_0 : decode cX8_laysDuck 0 = .ok (.iload_n 1, 1) ∧ decode cX8_laysDuck 1 = .ok (.invokestatic 35, 3) ∧ decode cX8_laysDuck 4 = .ok (.istore_n 3, 1) ∧ decode cX8_laysDuck 5 = .ok (.aload_n 0, 1) ∧ decode cX8_laysDuck 6 = .ok (.getfield 7, 3) ∧ decode cX8_laysDuck 9 = .ok (.iload_n 3, 1) ∧ decode cX8_laysDuck 10 = .ok (.bipush 29, 2) ∧ decode cX8_laysDuck 12 = .ok (.iadd, 1) ∧ decode cX8_laysDuck 13 = .ok (.iaload, 1) ∧ decode cX8_laysDuck 14 = .ok (.istore 4, 2) := by decide +kernel
theorem dX8_laysDuck_0 : decode cX8_laysDuck 0 = .ok (.iload_n 1, 1) := DX8_laysDuck_0.1
theorem dX8_laysDuck_1 : decode cX8_laysDuck 1 = .ok (.invokestatic 35, 3) := DX8_laysDuck_0.2.1
theorem dX8_laysDuck_4 : decode cX8_laysDuck 4 = .ok (.istore_n 3, 1) := DX8_laysDuck_0.2.2.1
theorem dX8_laysDuck_5 : decode cX8_laysDuck 5 = .ok (.aload_n 0, 1) := DX8_laysDuck_0.2.2.2.1
theorem dX8_laysDuck_6 : decode cX8_laysDuck 6 = .ok (.getfield 7, 3) := DX8_laysDuck_0.2.2.2.2.1
theorem dX8_laysDuck_9 : decode cX8_laysDuck 9 = .ok (.iload_n 3, 1) := DX8_laysDuck_0.2.2.2.2.2.1
theorem dX8_laysDuck_10 : decode cX8_laysDuck 10 = .ok (.bipush 29, 2) := DX8_laysDuck_0.2.2.2.2.2.2.1
theorem dX8_laysDuck_12 : decode cX8_laysDuck 12 = .ok (.iadd, 1) := DX8_laysDuck_0.2.2.2.2.2.2.2.1
theorem dX8_laysDuck_13 : decode cX8_laysDuck 13 = .ok (.iaload, 1) := DX8_laysDuck_0.2.2.2.2.2.2.2.2.1
theorem dX8_laysDuck_14 : decode cX8_laysDuck 14 = .ok (.istore 4, 2) := DX8_laysDuck_0.2.2.2.2.2.2.2.2.2
set_option maxRecDepth 100000 in
theorem DX8_laysDuck_1 : decode cX8_laysDuck 16 = .ok (.aload_n 0, 1) ∧ decode cX8_laysDuck 17 = .ok (.getfield 32, 3) ∧ decode cX8_laysDuck 20 = .ok (.bipush 100, 2) ∧ decode cX8_laysDuck 22 = .ok (.iload_n 1, 1) ∧ decode cX8_laysDuck 23 = .ok (.imul, 1) ∧ decode cX8_laysDuck 24 = .ok (.sipush 1000, 3) ∧ decode cX8_laysDuck 27 = .ok (.iastore, 1) ∧ decode cX8_laysDuck 28 = .ok (.iconst 1, 1) ∧ decode cX8_laysDuck 29 = .ok (.istore 5, 2) ∧ decode cX8_laysDuck 31 = .ok (.iload 5, 2) := by decide +kernel
theorem dX8_laysDuck_16 : decode cX8_laysDuck 16 = .ok (.aload_n 0, 1) := DX8_laysDuck_1.1
theorem dX8_laysDuck_17 : decode cX8_laysDuck 17 = .ok (.getfield 32, 3) := DX8_laysDuck_1.2.1
theorem dX8_laysDuck_20 : decode cX8_laysDuck 20 = .ok (.bipush 100, 2) := DX8_laysDuck_1.2.2.1
theorem dX8_laysDuck_22 : decode cX8_laysDuck 22 = .ok (.iload_n 1, 1) := DX8_laysDuck_1.2.2.2.1
theorem dX8_laysDuck_23 : decode cX8_laysDuck 23 = .ok (.imul, 1) := DX8_laysDuck_1.2.2.2.2.1
theorem dX8_laysDuck_24 : decode cX8_laysDuck 24 = .ok (.sipush 1000, 3) := DX8_laysDuck_1.2.2.2.2.2.1
theorem dX8_laysDuck_27 : decode cX8_laysDuck 27 = .ok (.iastore, 1) := DX8_laysDuck_1.2.2.2.2.2.2.1
theorem dX8_laysDuck_28 : decode cX8_laysDuck 28 = .ok (.iconst 1, 1) := DX8_laysDuck_1.2.2.2.2.2.2.2.1
theorem dX8_laysDuck_29 : decode cX8_laysDuck 29 = .ok (.istore 5, 2) := DX8_laysDuck_1.2.2.2.2.2.2.2.2.1
theorem dX8_laysDuck_31 : decode cX8_laysDuck 31 = .ok (.iload 5, 2) := DX8_laysDuck_1.2.2.2.2.2.2.2.2.2
set_option maxRecDepth 100000 in
theorem DX8_laysDuck_2 : decode cX8_laysDuck 33 = .ok (.iload_n 2, 1) ∧ decode cX8_laysDuck 34 = .ok (.if_icmp .gt 152, 3) ∧ decode cX8_laysDuck 37 = .ok (.iload 4, 2) ∧ decode cX8_laysDuck 39 = .ok (.iconst (-1), 1) ∧ decode cX8_laysDuck 40 = .ok (.if_icmp .eq 146, 3) ∧ decode cX8_laysDuck 43 = .ok (.aload_n 0, 1) ∧ decode cX8_laysDuck 44 = .ok (.getfield 32, 3) ∧ decode cX8_laysDuck 47 = .ok (.bipush 100, 2) ∧ decode cX8_laysDuck 49 = .ok (.iload_n 1, 1) ∧ decode cX8_laysDuck 50 = .ok (.imul, 1) := by decide +kernel
theorem dX8_laysDuck_33 : decode cX8_laysDuck 33 = .ok (.iload_n 2, 1) := DX8_laysDuck_2.1
theorem dX8_laysDuck_34 : decode cX8_laysDuck 34 = .ok (.if_icmp .gt 152, 3) := DX8_laysDuck_2.2.1
theorem dX8_laysDuck_37 : decode cX8_laysDuck 37 = .ok (.iload 4, 2) := DX8_laysDuck_2.2.2.1
theorem dX8_laysDuck_39 : decode cX8_laysDuck 39 = .ok (.iconst (-1), 1) := DX8_laysDuck_2.2.2.2.1
theorem dX8_laysDuck_40 : decode cX8_laysDuck 40 = .ok (.if_icmp .eq 146, 3) := DX8_laysDuck_2.2.2.2.2.1
theorem dX8_laysDuck_43 : decode cX8_laysDuck 43 = .ok (.aload_n 0, 1) := DX8_laysDuck_2.2.2.2.2.2.1
theorem dX8_laysDuck_44 : decode cX8_laysDuck 44 = .ok (.getfield 32, 3) := DX8_laysDuck_2.2.2.2.2.2.2.1
theorem dX8_laysDuck_47 : decode cX8_laysDuck 47 = .ok (.bipush 100, 2) := DX8_laysDuck_2.2.2.2.2.2.2.2.1
theorem dX8_laysDuck_49 : decode cX8_laysDuck 49 = .ok (.iload_n 1, 1) := DX8_laysDuck_2.2.2.2.2.2.2.2.2.1
theorem dX8_laysDuck_50 : decode cX8_laysDuck 50 = .ok (.imul, 1) := DX8_laysDuck_2.2.2.2.2.2.2.2.2.2
set_option maxRecDepth 100000 in
theorem DX8_laysDuck_3 : decode cX8_laysDuck 51 = .ok (.iload 5, 2) ∧ decode cX8_laysDuck 53 = .ok (.iadd, 1) ∧ decode cX8_laysDuck 54 = .ok (.iconst 1, 1) ∧ decode cX8_laysDuck 55 = .ok (.isub, 1) ∧ decode cX8_laysDuck 56 = .ok (.iaload, 1) ∧ decode cX8_laysDuck 57 = .ok (.istore 6, 2) ∧ decode cX8_laysDuck 59 = .ok (.aload_n 0, 1) ∧ decode cX8_laysDuck 60 = .ok (.iload 4, 2) ∧ decode cX8_laysDuck 62 = .ok (.iload 5, 2) ∧ decode cX8_laysDuck 64 = .ok (.iconst 1, 1) := by decide +kernel
theorem dX8_laysDuck_51 : decode cX8_laysDuck 51 = .ok (.iload 5, 2) := DX8_laysDuck_3.1
theorem dX8_laysDuck_53 : decode cX8_laysDuck 53 = .ok (.iadd, 1) := DX8_laysDuck_3.2.1
theorem dX8_laysDuck_54 : decode cX8_laysDuck 54 = .ok (.iconst 1, 1) := DX8_laysDuck_3.2.2.1
theorem dX8_laysDuck_55 : decode cX8_laysDuck 55 = .ok (.isub, 1) := DX8_laysDuck_3.2.2.2.1
theorem dX8_laysDuck_56 : decode cX8_laysDuck 56 = .ok (.iaload, 1) := DX8_laysDuck_3.2.2.2.2.1
theorem dX8_laysDuck_57 : decode cX8_laysDuck 57 = .ok (.istore 6, 2) := DX8_laysDuck_3.2.2.2.2.2.1
theorem dX8_laysDuck_59 : decode cX8_laysDuck 59 = .ok (.aload_n 0, 1) := DX8_laysDuck_3.2.2.2.2.2.2.1
theorem dX8_laysDuck_60 : decode cX8_laysDuck 60 = .ok (.iload 4, 2) := DX8_laysDuck_3.2.2.2.2.2.2.2.1
theorem dX8_laysDuck_62 : decode cX8_laysDuck 62 = .ok (.iload 5, 2) := DX8_laysDuck_3.2.2.2.2.2.2.2.2.1
theorem dX8_laysDuck_64 : decode cX8_laysDuck 64 = .ok (.iconst 1, 1) := DX8_laysDuck_3.2.2.2.2.2.2.2.2.2
set_option maxRecDepth 100000 in
theorem DX8_laysDuck_4 : decode cX8_laysDuck 65 = .ok (.isub, 1) ∧ decode cX8_laysDuck 66 = .ok (.invokevirtual 199, 3) ∧ decode cX8_laysDuck 69 = .ok (.aload_n 0, 1) ∧ decode cX8_laysDuck 70 = .ok (.getfield 7, 3) ∧ decode cX8_laysDuck 73 = .ok (.iload_n 3, 1) ∧ decode cX8_laysDuck 74 = .ok (.bipush 30, 2) ∧ decode cX8_laysDuck 76 = .ok (.iadd, 1) ∧ decode cX8_laysDuck 77 = .ok (.iaload, 1) ∧ decode cX8_laysDuck 78 = .ok (.if_icmp .lt 7, 3) ∧ decode cX8_laysDuck 81 = .ok (.iconst 1, 1) := by decide +kernel
theorem dX8_laysDuck_65 : decode cX8_laysDuck 65 = .ok (.isub, 1) := DX8_laysDuck_4.1
theorem dX8_laysDuck_66 : decode cX8_laysDuck 66 = .ok (.invokevirtual 199, 3) := DX8_laysDuck_4.2.1
theorem dX8_laysDuck_69 : decode cX8_laysDuck 69 = .ok (.aload_n 0, 1) := DX8_laysDuck_4.2.2.1
theorem dX8_laysDuck_70 : decode cX8_laysDuck 70 = .ok (.getfield 7, 3) := DX8_laysDuck_4.2.2.2.1
theorem dX8_laysDuck_73 : decode cX8_laysDuck 73 = .ok (.iload_n 3, 1) := DX8_laysDuck_4.2.2.2.2.1
theorem dX8_laysDuck_74 : decode cX8_laysDuck 74 = .ok (.bipush 30, 2) := DX8_laysDuck_4.2.2.2.2.2.1
theorem dX8_laysDuck_76 : decode cX8_laysDuck 76 = .ok (.iadd, 1) := DX8_laysDuck_4.2.2.2.2.2.2.1
theorem dX8_laysDuck_77 : decode cX8_laysDuck 77 = .ok (.iaload, 1) := DX8_laysDuck_4.2.2.2.2.2.2.2.1
theorem dX8_laysDuck_78 : decode cX8_laysDuck 78 = .ok (.if_icmp .lt 7, 3) := DX8_laysDuck_4.2.2.2.2.2.2.2.2.1
theorem dX8_laysDuck_81 : decode cX8_laysDuck 81 = .ok (.iconst 1, 1) := DX8_laysDuck_4.2.2.2.2.2.2.2.2.2
set_option maxRecDepth 100000 in
theorem DX8_laysDuck_5 : decode cX8_laysDuck 82 = .ok (.goto 4, 3) ∧ decode cX8_laysDuck 85 = .ok (.iconst 0, 1) ∧ decode cX8_laysDuck 86 = .ok (.istore 7, 2) ∧ decode cX8_laysDuck 88 = .ok (.iload 6, 2) ∧ decode cX8_laysDuck 90 = .ok (.aload_n 0, 1) ∧ decode cX8_laysDuck 91 = .ok (.getfield 7, 3) ∧ decode cX8_laysDuck 94 = .ok (.iload_n 3, 1) ∧ decode cX8_laysDuck 95 = .ok (.bipush 32, 2) ∧ decode cX8_laysDuck 97 = .ok (.iadd, 1) ∧ decode cX8_laysDuck 98 = .ok (.iaload, 1) := by decide +kernel
theorem dX8_laysDuck_82 : decode cX8_laysDuck 82 = .ok (.goto 4, 3) := DX8_laysDuck_5.1
theorem dX8_laysDuck_85 : decode cX8_laysDuck 85 = .ok (.iconst 0, 1) := DX8_laysDuck_5.2.1
theorem dX8_laysDuck_86 : decode cX8_laysDuck 86 = .ok (.istore 7, 2) := DX8_laysDuck_5.2.2.1
theorem dX8_laysDuck_88 : decode cX8_laysDuck 88 = .ok (.iload 6, 2) := DX8_laysDuck_5.2.2.2.1
theorem dX8_laysDuck_90 : decode cX8_laysDuck 90 = .ok (.aload_n 0, 1) := DX8_laysDuck_5.2.2.2.2.1
theorem dX8_laysDuck_91 : decode cX8_laysDuck 91 = .ok (.getfield 7, 3) := DX8_laysDuck_5.2.2.2.2.2.1
theorem dX8_laysDuck_94 : decode cX8_laysDuck 94 = .ok (.iload_n 3, 1) := DX8_laysDuck_5.2.2.2.2.2.2.1
theorem dX8_laysDuck_95 : decode cX8_laysDuck 95 = .ok (.bipush 32, 2) := DX8_laysDuck_5.2.2.2.2.2.2.2.1
theorem dX8_laysDuck_97 : decode cX8_laysDuck 97 = .ok (.iadd, 1) := DX8_laysDuck_5.2.2.2.2.2.2.2.2.1
theorem dX8_laysDuck_98 : decode cX8_laysDuck 98 = .ok (.iaload, 1) := DX8_laysDuck_5.2.2.2.2.2.2.2.2.2
set_option maxRecDepth 100000 in
theorem DX8_laysDuck_6 : decode cX8_laysDuck 99 = .ok (.isub, 1) ∧ decode cX8_laysDuck 100 = .ok (.istore 8, 2) ∧ decode cX8_laysDuck 102 = .ok (.iload 6, 2) ∧ decode cX8_laysDuck 104 = .ok (.aload_n 0, 1) ∧ decode cX8_laysDuck 105 = .ok (.getfield 7, 3) ∧ decode cX8_laysDuck 108 = .ok (.iload_n 3, 1) ∧ decode cX8_laysDuck 109 = .ok (.bipush 33, 2) ∧ decode cX8_laysDuck 111 = .ok (.iadd, 1) ∧ decode cX8_laysDuck 112 = .ok (.iaload, 1) ∧ decode cX8_laysDuck 113 = .ok (.iadd, 1) := by decide +kernel
theorem dX8_laysDuck_99 : decode cX8_laysDuck 99 = .ok (.isub, 1) := DX8_laysDuck_6.1
theorem dX8_laysDuck_100 : decode cX8_laysDuck 100 = .ok (.istore 8, 2) := DX8_laysDuck_6.2.1
theorem dX8_laysDuck_102 : decode cX8_laysDuck 102 = .ok (.iload 6, 2) := DX8_laysDuck_6.2.2.1
theorem dX8_laysDuck_104 : decode cX8_laysDuck 104 = .ok (.aload_n 0, 1) := DX8_laysDuck_6.2.2.2.1
theorem dX8_laysDuck_105 : decode cX8_laysDuck 105 = .ok (.getfield 7, 3) := DX8_laysDuck_6.2.2.2.2.1
theorem dX8_laysDuck_108 : decode cX8_laysDuck 108 = .ok (.iload_n 3, 1) := DX8_laysDuck_6.2.2.2.2.2.1
theorem dX8_laysDuck_109 : decode cX8_laysDuck 109 = .ok (.bipush 33, 2) := DX8_laysDuck_6.2.2.2.2.2.2.1
theorem dX8_laysDuck_111 : decode cX8_laysDuck 111 = .ok (.iadd, 1) := DX8_laysDuck_6.2.2.2.2.2.2.2.1
theorem dX8_laysDuck_112 : decode cX8_laysDuck 112 = .ok (.iaload, 1) := DX8_laysDuck_6.2.2.2.2.2.2.2.2.1
theorem dX8_laysDuck_113 : decode cX8_laysDuck 113 = .ok (.iadd, 1) := DX8_laysDuck_6.2.2.2.2.2.2.2.2.2
set_option maxRecDepth 100000 in
theorem DX8_laysDuck_7 : decode cX8_laysDuck 114 = .ok (.istore 9, 2) ∧ decode cX8_laysDuck 116 = .ok (.aload_n 0, 1) ∧ decode cX8_laysDuck 117 = .ok (.getfield 32, 3) ∧ decode cX8_laysDuck 120 = .ok (.bipush 100, 2) ∧ decode cX8_laysDuck 122 = .ok (.iload_n 1, 1) ∧ decode cX8_laysDuck 123 = .ok (.imul, 1) ∧ decode cX8_laysDuck 124 = .ok (.iload 5, 2) ∧ decode cX8_laysDuck 126 = .ok (.iadd, 1) ∧ decode cX8_laysDuck 127 = .ok (.iload 7, 2) ∧ decode cX8_laysDuck 129 = .ok (.ifCond .eq 34, 3) := by decide +kernel
theorem dX8_laysDuck_114 : decode cX8_laysDuck 114 = .ok (.istore 9, 2) := DX8_laysDuck_7.1
theorem dX8_laysDuck_116 : decode cX8_laysDuck 116 = .ok (.aload_n 0, 1) := DX8_laysDuck_7.2.1
theorem dX8_laysDuck_117 : decode cX8_laysDuck 117 = .ok (.getfield 32, 3) := DX8_laysDuck_7.2.2.1
theorem dX8_laysDuck_120 : decode cX8_laysDuck 120 = .ok (.bipush 100, 2) := DX8_laysDuck_7.2.2.2.1
theorem dX8_laysDuck_122 : decode cX8_laysDuck 122 = .ok (.iload_n 1, 1) := DX8_laysDuck_7.2.2.2.2.1
theorem dX8_laysDuck_123 : decode cX8_laysDuck 123 = .ok (.imul, 1) := DX8_laysDuck_7.2.2.2.2.2.1
theorem dX8_laysDuck_124 : decode cX8_laysDuck 124 = .ok (.iload 5, 2) := DX8_laysDuck_7.2.2.2.2.2.2.1
theorem dX8_laysDuck_126 : decode cX8_laysDuck 126 = .ok (.iadd, 1) := DX8_laysDuck_7.2.2.2.2.2.2.2.1
theorem dX8_laysDuck_127 : decode cX8_laysDuck 127 = .ok (.iload 7, 2) := DX8_laysDuck_7.2.2.2.2.2.2.2.2.1
theorem dX8_laysDuck_129 : decode cX8_laysDuck 129 = .ok (.ifCond .eq 34, 3) := DX8_laysDuck_7.2.2.2.2.2.2.2.2.2
set_option maxRecDepth 100000 in
theorem DX8_laysDuck_8 : decode cX8_laysDuck 132 = .ok (.iload 8, 2) ∧ decode cX8_laysDuck 134 = .ok (.aload_n 0, 1) ∧ decode cX8_laysDuck 135 = .ok (.getfield 7, 3) ∧ decode cX8_laysDuck 138 = .ok (.iload_n 3, 1) ∧ decode cX8_laysDuck 139 = .ok (.bipush 31, 2) ∧ decode cX8_laysDuck 141 = .ok (.iadd, 1) ∧ decode cX8_laysDuck 142 = .ok (.iaload, 1) ∧ decode cX8_laysDuck 143 = .ok (.if_icmp .le 8, 3) ∧ decode cX8_laysDuck 146 = .ok (.iload 8, 2) ∧ decode cX8_laysDuck 148 = .ok (.goto 31, 3) := by decide +kernel
theorem dX8_laysDuck_132 : decode cX8_laysDuck 132 = .ok (.iload 8, 2) := DX8_laysDuck_8.1
theorem dX8_laysDuck_134 : decode cX8_laysDuck 134 = .ok (.aload_n 0, 1) := DX8_laysDuck_8.2.1
theorem dX8_laysDuck_135 : decode cX8_laysDuck 135 = .ok (.getfield 7, 3) := DX8_laysDuck_8.2.2.1
theorem dX8_laysDuck_138 : decode cX8_laysDuck 138 = .ok (.iload_n 3, 1) := DX8_laysDuck_8.2.2.2.1
theorem dX8_laysDuck_139 : decode cX8_laysDuck 139 = .ok (.bipush 31, 2) := DX8_laysDuck_8.2.2.2.2.1
theorem dX8_laysDuck_141 : decode cX8_laysDuck 141 = .ok (.iadd, 1) := DX8_laysDuck_8.2.2.2.2.2.1
theorem dX8_laysDuck_142 : decode cX8_laysDuck 142 = .ok (.iaload, 1) := DX8_laysDuck_8.2.2.2.2.2.2.1
theorem dX8_laysDuck_143 : decode cX8_laysDuck 143 = .ok (.if_icmp .le 8, 3) := DX8_laysDuck_8.2.2.2.2.2.2.2.1
theorem dX8_laysDuck_146 : decode cX8_laysDuck 146 = .ok (.iload 8, 2) := DX8_laysDuck_8.2.2.2.2.2.2.2.2.1
theorem dX8_laysDuck_148 : decode cX8_laysDuck 148 = .ok (.goto 31, 3) := DX8_laysDuck_8.2.2.2.2.2.2.2.2.2
set_option maxRecDepth 100000 in
theorem DX8_laysDuck_9 : decode cX8_laysDuck 151 = .ok (.aload_n 0, 1) ∧ decode cX8_laysDuck 152 = .ok (.getfield 7, 3) ∧ decode cX8_laysDuck 155 = .ok (.iload_n 3, 1) ∧ decode cX8_laysDuck 156 = .ok (.bipush 31, 2) ∧ decode cX8_laysDuck 158 = .ok (.iadd, 1) ∧ decode cX8_laysDuck 159 = .ok (.iaload, 1) ∧ decode cX8_laysDuck 160 = .ok (.goto 19, 3) ∧ decode cX8_laysDuck 163 = .ok (.iload 9, 2) ∧ decode cX8_laysDuck 165 = .ok (.sipush 1000, 3) ∧ decode cX8_laysDuck 168 = .ok (.if_icmp .ge 8, 3) := by decide +kernel
theorem dX8_laysDuck_151 : decode cX8_laysDuck 151 = .ok (.aload_n 0, 1) := DX8_laysDuck_9.1
theorem dX8_laysDuck_152 : decode cX8_laysDuck 152 = .ok (.getfield 7, 3) := DX8_laysDuck_9.2.1
theorem dX8_laysDuck_155 : decode cX8_laysDuck 155 = .ok (.iload_n 3, 1) := DX8_laysDuck_9.2.2.1
theorem dX8_laysDuck_156 : decode cX8_laysDuck 156 = .ok (.bipush 31, 2) := DX8_laysDuck_9.2.2.2.1
theorem dX8_laysDuck_158 : decode cX8_laysDuck 158 = .ok (.iadd, 1) := DX8_laysDuck_9.2.2.2.2.1
theorem dX8_laysDuck_159 : decode cX8_laysDuck 159 = .ok (.iaload, 1) := DX8_laysDuck_9.2.2.2.2.2.1
theorem dX8_laysDuck_160 : decode cX8_laysDuck 160 = .ok (.goto 19, 3) := DX8_laysDuck_9.2.2.2.2.2.2.1
theorem dX8_laysDuck_163 : decode cX8_laysDuck 163 = .ok (.iload 9, 2) := DX8_laysDuck_9.2.2.2.2.2.2.2.1
theorem dX8_laysDuck_165 : decode cX8_laysDuck 165 = .ok (.sipush 1000, 3) := DX8_laysDuck_9.2.2.2.2.2.2.2.2.1
theorem dX8_laysDuck_168 : decode cX8_laysDuck 168 = .ok (.if_icmp .ge 8, 3) := DX8_laysDuck_9.2.2.2.2.2.2.2.2.2
set_option maxRecDepth 100000 in
theorem DX8_laysDuck_10 : decode cX8_laysDuck 171 = .ok (.iload 9, 2) ∧ decode cX8_laysDuck 173 = .ok (.goto 6, 3) ∧ decode cX8_laysDuck 176 = .ok (.sipush 1000, 3) ∧ decode cX8_laysDuck 179 = .ok (.iastore, 1) ∧ decode cX8_laysDuck 180 = .ok (.iinc 5 1, 3) ∧ decode cX8_laysDuck 183 = .ok (.goto (-152), 3) ∧ decode cX8_laysDuck 186 = .ok (.return_, 1) := by decide +kernel
theorem dX8_laysDuck_171 : decode cX8_laysDuck 171 = .ok (.iload 9, 2) := DX8_laysDuck_10.1
theorem dX8_laysDuck_173 : decode cX8_laysDuck 173 = .ok (.goto 6, 3) := DX8_laysDuck_10.2.1
theorem dX8_laysDuck_176 : decode cX8_laysDuck 176 = .ok (.sipush 1000, 3) := DX8_laysDuck_10.2.2.1
theorem dX8_laysDuck_179 : decode cX8_laysDuck 179 = .ok (.iastore, 1) := DX8_laysDuck_10.2.2.2.1
theorem dX8_laysDuck_180 : decode cX8_laysDuck 180 = .ok (.iinc 5 1, 3) := DX8_laysDuck_10.2.2.2.2.1
theorem dX8_laysDuck_183 : decode cX8_laysDuck 183 = .ok (.goto (-152), 3) := DX8_laysDuck_10.2.2.2.2.2.1
theorem dX8_laysDuck_186 : decode cX8_laysDuck 186 = .ok (.return_, 1) := DX8_laysDuck_10.2.2.2.2.2.2
set_option maxRecDepth 100000 in
theorem DX8_duckAt_0 : decode cX8_duckAt 0 = .ok (.iload_n 2, 1) ∧ decode cX8_duckAt 1 = .ok (.bipush 40, 2) ∧ decode cX8_duckAt 3 = .ok (.idiv, 1) ∧ decode cX8_duckAt 4 = .ok (.istore_n 3, 1) ∧ decode cX8_duckAt 5 = .ok (.iload_n 3, 1) ∧ decode cX8_duckAt 6 = .ok (.ifCond .ne 9, 3) ∧ decode cX8_duckAt 9 = .ok (.sipush 1000, 3) ∧ decode cX8_duckAt 12 = .ok (.goto 16, 3) ∧ decode cX8_duckAt 15 = .ok (.aload_n 0, 1) ∧ decode cX8_duckAt 16 = .ok (.getfield 32, 3) := by decide +kernel
theorem dX8_duckAt_0 : decode cX8_duckAt 0 = .ok (.iload_n 2, 1) := DX8_duckAt_0.1
theorem dX8_duckAt_1 : decode cX8_duckAt 1 = .ok (.bipush 40, 2) := DX8_duckAt_0.2.1
theorem dX8_duckAt_3 : decode cX8_duckAt 3 = .ok (.idiv, 1) := DX8_duckAt_0.2.2.1
theorem dX8_duckAt_4 : decode cX8_duckAt 4 = .ok (.istore_n 3, 1) := DX8_duckAt_0.2.2.2.1
theorem dX8_duckAt_5 : decode cX8_duckAt 5 = .ok (.iload_n 3, 1) := DX8_duckAt_0.2.2.2.2.1
theorem dX8_duckAt_6 : decode cX8_duckAt 6 = .ok (.ifCond .ne 9, 3) := DX8_duckAt_0.2.2.2.2.2.1
theorem dX8_duckAt_9 : decode cX8_duckAt 9 = .ok (.sipush 1000, 3) := DX8_duckAt_0.2.2.2.2.2.2.1
theorem dX8_duckAt_12 : decode cX8_duckAt 12 = .ok (.goto 16, 3) := DX8_duckAt_0.2.2.2.2.2.2.2.1
theorem dX8_duckAt_15 : decode cX8_duckAt 15 = .ok (.aload_n 0, 1) := DX8_duckAt_0.2.2.2.2.2.2.2.2.1
theorem dX8_duckAt_16 : decode cX8_duckAt 16 = .ok (.getfield 32, 3) := DX8_duckAt_0.2.2.2.2.2.2.2.2.2
set_option maxRecDepth 100000 in
theorem DX8_duckAt_1 : decode cX8_duckAt 19 = .ok (.bipush 100, 2) ∧ decode cX8_duckAt 21 = .ok (.iload_n 1, 1) ∧ decode cX8_duckAt 22 = .ok (.imul, 1) ∧ decode cX8_duckAt 23 = .ok (.iload_n 3, 1) ∧ decode cX8_duckAt 24 = .ok (.iadd, 1) ∧ decode cX8_duckAt 25 = .ok (.iconst 1, 1) ∧ decode cX8_duckAt 26 = .ok (.isub, 1) ∧ decode cX8_duckAt 27 = .ok (.iaload, 1) ∧ decode cX8_duckAt 28 = .ok (.istore 4, 2) ∧ decode cX8_duckAt 30 = .ok (.iload 4, 2) := by decide +kernel
theorem dX8_duckAt_19 : decode cX8_duckAt 19 = .ok (.bipush 100, 2) := DX8_duckAt_1.1
theorem dX8_duckAt_21 : decode cX8_duckAt 21 = .ok (.iload_n 1, 1) := DX8_duckAt_1.2.1
theorem dX8_duckAt_22 : decode cX8_duckAt 22 = .ok (.imul, 1) := DX8_duckAt_1.2.2.1
theorem dX8_duckAt_23 : decode cX8_duckAt 23 = .ok (.iload_n 3, 1) := DX8_duckAt_1.2.2.2.1
theorem dX8_duckAt_24 : decode cX8_duckAt 24 = .ok (.iadd, 1) := DX8_duckAt_1.2.2.2.2.1
theorem dX8_duckAt_25 : decode cX8_duckAt 25 = .ok (.iconst 1, 1) := DX8_duckAt_1.2.2.2.2.2.1
theorem dX8_duckAt_26 : decode cX8_duckAt 26 = .ok (.isub, 1) := DX8_duckAt_1.2.2.2.2.2.2.1
theorem dX8_duckAt_27 : decode cX8_duckAt 27 = .ok (.iaload, 1) := DX8_duckAt_1.2.2.2.2.2.2.2.1
theorem dX8_duckAt_28 : decode cX8_duckAt 28 = .ok (.istore 4, 2) := DX8_duckAt_1.2.2.2.2.2.2.2.2.1
theorem dX8_duckAt_30 : decode cX8_duckAt 30 = .ok (.iload 4, 2) := DX8_duckAt_1.2.2.2.2.2.2.2.2.2
set_option maxRecDepth 100000 in
theorem DX8_duckAt_2 : decode cX8_duckAt 32 = .ok (.aload_n 0, 1) ∧ decode cX8_duckAt 33 = .ok (.getfield 32, 3) ∧ decode cX8_duckAt 36 = .ok (.bipush 100, 2) ∧ decode cX8_duckAt 38 = .ok (.iload_n 1, 1) ∧ decode cX8_duckAt 39 = .ok (.imul, 1) ∧ decode cX8_duckAt 40 = .ok (.iload_n 3, 1) ∧ decode cX8_duckAt 41 = .ok (.iadd, 1) ∧ decode cX8_duckAt 42 = .ok (.iaload, 1) ∧ decode cX8_duckAt 43 = .ok (.iload 4, 2) ∧ decode cX8_duckAt 45 = .ok (.isub, 1) := by decide +kernel
theorem dX8_duckAt_32 : decode cX8_duckAt 32 = .ok (.aload_n 0, 1) := DX8_duckAt_2.1
theorem dX8_duckAt_33 : decode cX8_duckAt 33 = .ok (.getfield 32, 3) := DX8_duckAt_2.2.1
theorem dX8_duckAt_36 : decode cX8_duckAt 36 = .ok (.bipush 100, 2) := DX8_duckAt_2.2.2.1
theorem dX8_duckAt_38 : decode cX8_duckAt 38 = .ok (.iload_n 1, 1) := DX8_duckAt_2.2.2.2.1
theorem dX8_duckAt_39 : decode cX8_duckAt 39 = .ok (.imul, 1) := DX8_duckAt_2.2.2.2.2.1
theorem dX8_duckAt_40 : decode cX8_duckAt 40 = .ok (.iload_n 3, 1) := DX8_duckAt_2.2.2.2.2.2.1
theorem dX8_duckAt_41 : decode cX8_duckAt 41 = .ok (.iadd, 1) := DX8_duckAt_2.2.2.2.2.2.2.1
theorem dX8_duckAt_42 : decode cX8_duckAt 42 = .ok (.iaload, 1) := DX8_duckAt_2.2.2.2.2.2.2.2.1
theorem dX8_duckAt_43 : decode cX8_duckAt 43 = .ok (.iload 4, 2) := DX8_duckAt_2.2.2.2.2.2.2.2.2.1
theorem dX8_duckAt_45 : decode cX8_duckAt 45 = .ok (.isub, 1) := DX8_duckAt_2.2.2.2.2.2.2.2.2.2
set_option maxRecDepth 100000 in
theorem DX8_duckAt_3 : decode cX8_duckAt 46 = .ok (.i2l, 1) ∧ decode cX8_duckAt 47 = .ok (.iload_n 2, 1) ∧ decode cX8_duckAt 48 = .ok (.bipush 40, 2) ∧ decode cX8_duckAt 50 = .ok (.iload_n 3, 1) ∧ decode cX8_duckAt 51 = .ok (.imul, 1) ∧ decode cX8_duckAt 52 = .ok (.isub, 1) ∧ decode cX8_duckAt 53 = .ok (.i2l, 1) ∧ decode cX8_duckAt 54 = .ok (.lmul, 1) ∧ decode cX8_duckAt 55 = .ok (.ldc2_w 202, 3) ∧ decode cX8_duckAt 58 = .ok (.invokestatic 60, 3) := by decide +kernel
theorem dX8_duckAt_46 : decode cX8_duckAt 46 = .ok (.i2l, 1) := DX8_duckAt_3.1
theorem dX8_duckAt_47 : decode cX8_duckAt 47 = .ok (.iload_n 2, 1) := DX8_duckAt_3.2.1
theorem dX8_duckAt_48 : decode cX8_duckAt 48 = .ok (.bipush 40, 2) := DX8_duckAt_3.2.2.1
theorem dX8_duckAt_50 : decode cX8_duckAt 50 = .ok (.iload_n 3, 1) := DX8_duckAt_3.2.2.2.1
theorem dX8_duckAt_51 : decode cX8_duckAt 51 = .ok (.imul, 1) := DX8_duckAt_3.2.2.2.2.1
theorem dX8_duckAt_52 : decode cX8_duckAt 52 = .ok (.isub, 1) := DX8_duckAt_3.2.2.2.2.2.1
theorem dX8_duckAt_53 : decode cX8_duckAt 53 = .ok (.i2l, 1) := DX8_duckAt_3.2.2.2.2.2.2.1
theorem dX8_duckAt_54 : decode cX8_duckAt 54 = .ok (.lmul, 1) := DX8_duckAt_3.2.2.2.2.2.2.2.1
theorem dX8_duckAt_55 : decode cX8_duckAt 55 = .ok (.ldc2_w 202, 3) := DX8_duckAt_3.2.2.2.2.2.2.2.2.1
theorem dX8_duckAt_58 : decode cX8_duckAt 58 = .ok (.invokestatic 60, 3) := DX8_duckAt_3.2.2.2.2.2.2.2.2.2
set_option maxRecDepth 100000 in
theorem DX8_duckAt_4 : decode cX8_duckAt 61 = .ok (.l2i, 1) ∧ decode cX8_duckAt 62 = .ok (.iadd, 1) ∧ decode cX8_duckAt 63 = .ok (.ireturn, 1) := by decide +kernel
theorem dX8_duckAt_61 : decode cX8_duckAt 61 = .ok (.l2i, 1) := DX8_duckAt_4.1
theorem dX8_duckAt_62 : decode cX8_duckAt 62 = .ok (.iadd, 1) := DX8_duckAt_4.2.1
theorem dX8_duckAt_63 : decode cX8_duckAt 63 = .ok (.ireturn, 1) := DX8_duckAt_4.2.2
set_option maxRecDepth 100000 in
theorem DX8_duckGain_0 : decode cX8_duckGain 0 = .ok (.aload_n 0, 1) ∧ decode cX8_duckGain 1 = .ok (.iload_n 1, 1) ∧ decode cX8_duckGain 2 = .ok (.invokestatic 111, 3) ∧ decode cX8_duckGain 5 = .ok (.ifCond .ne 7, 3) ∧ decode cX8_duckGain 8 = .ok (.iconst 1, 1) ∧ decode cX8_duckGain 9 = .ok (.goto 15, 3) ∧ decode cX8_duckGain 12 = .ok (.iload_n 2, 1) ∧ decode cX8_duckGain 13 = .ok (.invokestatic 114, 3) ∧ decode cX8_duckGain 16 = .ok (.ifCond .eq 7, 3) ∧ decode cX8_duckGain 19 = .ok (.iconst 0, 1) := by decide +kernel
theorem dX8_duckGain_0 : decode cX8_duckGain 0 = .ok (.aload_n 0, 1) := DX8_duckGain_0.1
theorem dX8_duckGain_1 : decode cX8_duckGain 1 = .ok (.iload_n 1, 1) := DX8_duckGain_0.2.1
theorem dX8_duckGain_2 : decode cX8_duckGain 2 = .ok (.invokestatic 111, 3) := DX8_duckGain_0.2.2.1
theorem dX8_duckGain_5 : decode cX8_duckGain 5 = .ok (.ifCond .ne 7, 3) := DX8_duckGain_0.2.2.2.1
theorem dX8_duckGain_8 : decode cX8_duckGain 8 = .ok (.iconst 1, 1) := DX8_duckGain_0.2.2.2.2.1
theorem dX8_duckGain_9 : decode cX8_duckGain 9 = .ok (.goto 15, 3) := DX8_duckGain_0.2.2.2.2.2.1
theorem dX8_duckGain_12 : decode cX8_duckGain 12 = .ok (.iload_n 2, 1) := DX8_duckGain_0.2.2.2.2.2.2.1
theorem dX8_duckGain_13 : decode cX8_duckGain 13 = .ok (.invokestatic 114, 3) := DX8_duckGain_0.2.2.2.2.2.2.2.1
theorem dX8_duckGain_16 : decode cX8_duckGain 16 = .ok (.ifCond .eq 7, 3) := DX8_duckGain_0.2.2.2.2.2.2.2.2.1
theorem dX8_duckGain_19 : decode cX8_duckGain 19 = .ok (.iconst 0, 1) := DX8_duckGain_0.2.2.2.2.2.2.2.2.2
set_option maxRecDepth 100000 in
theorem DX8_duckGain_1 : decode cX8_duckGain 20 = .ok (.goto 4, 3) ∧ decode cX8_duckGain 23 = .ok (.iconst 2, 1) ∧ decode cX8_duckGain 24 = .ok (.invokevirtual 51, 3) ∧ decode cX8_duckGain 27 = .ok (.ifCond .eq 5, 3) ∧ decode cX8_duckGain 30 = .ok (.iconst 0, 1) ∧ decode cX8_duckGain 31 = .ok (.ireturn, 1) ∧ decode cX8_duckGain 32 = .ok (.aload_n 0, 1) ∧ decode cX8_duckGain 33 = .ok (.getfield 7, 3) ∧ decode cX8_duckGain 36 = .ok (.iload_n 1, 1) ∧ decode cX8_duckGain 37 = .ok (.invokestatic 35, 3) := by decide +kernel
theorem dX8_duckGain_20 : decode cX8_duckGain 20 = .ok (.goto 4, 3) := DX8_duckGain_1.1
theorem dX8_duckGain_23 : decode cX8_duckGain 23 = .ok (.iconst 2, 1) := DX8_duckGain_1.2.1
theorem dX8_duckGain_24 : decode cX8_duckGain 24 = .ok (.invokevirtual 51, 3) := DX8_duckGain_1.2.2.1
theorem dX8_duckGain_27 : decode cX8_duckGain 27 = .ok (.ifCond .eq 5, 3) := DX8_duckGain_1.2.2.2.1
theorem dX8_duckGain_30 : decode cX8_duckGain 30 = .ok (.iconst 0, 1) := DX8_duckGain_1.2.2.2.2.1
theorem dX8_duckGain_31 : decode cX8_duckGain 31 = .ok (.ireturn, 1) := DX8_duckGain_1.2.2.2.2.2.1
theorem dX8_duckGain_32 : decode cX8_duckGain 32 = .ok (.aload_n 0, 1) := DX8_duckGain_1.2.2.2.2.2.2.1
theorem dX8_duckGain_33 : decode cX8_duckGain 33 = .ok (.getfield 7, 3) := DX8_duckGain_1.2.2.2.2.2.2.2.1
theorem dX8_duckGain_36 : decode cX8_duckGain 36 = .ok (.iload_n 1, 1) := DX8_duckGain_1.2.2.2.2.2.2.2.2.1
theorem dX8_duckGain_37 : decode cX8_duckGain 37 = .ok (.invokestatic 35, 3) := DX8_duckGain_1.2.2.2.2.2.2.2.2.2
set_option maxRecDepth 100000 in
theorem DX8_duckGain_2 : decode cX8_duckGain 40 = .ok (.bipush 29, 2) ∧ decode cX8_duckGain 42 = .ok (.iadd, 1) ∧ decode cX8_duckGain 43 = .ok (.iaload, 1) ∧ decode cX8_duckGain 44 = .ok (.iconst (-1), 1) ∧ decode cX8_duckGain 45 = .ok (.if_icmp .ne 7, 3) ∧ decode cX8_duckGain 48 = .ok (.sipush 1000, 3) ∧ decode cX8_duckGain 51 = .ok (.ireturn, 1) ∧ decode cX8_duckGain 52 = .ok (.aload_n 0, 1) ∧ decode cX8_duckGain 53 = .ok (.iload_n 1, 1) ∧ decode cX8_duckGain 54 = .ok (.iload_n 2, 1) := by decide +kernel
theorem dX8_duckGain_40 : decode cX8_duckGain 40 = .ok (.bipush 29, 2) := DX8_duckGain_2.1
theorem dX8_duckGain_42 : decode cX8_duckGain 42 = .ok (.iadd, 1) := DX8_duckGain_2.2.1
theorem dX8_duckGain_43 : decode cX8_duckGain 43 = .ok (.iaload, 1) := DX8_duckGain_2.2.2.1
theorem dX8_duckGain_44 : decode cX8_duckGain 44 = .ok (.iconst (-1), 1) := DX8_duckGain_2.2.2.2.1
theorem dX8_duckGain_45 : decode cX8_duckGain 45 = .ok (.if_icmp .ne 7, 3) := DX8_duckGain_2.2.2.2.2.1
theorem dX8_duckGain_48 : decode cX8_duckGain 48 = .ok (.sipush 1000, 3) := DX8_duckGain_2.2.2.2.2.2.1
theorem dX8_duckGain_51 : decode cX8_duckGain 51 = .ok (.ireturn, 1) := DX8_duckGain_2.2.2.2.2.2.2.1
theorem dX8_duckGain_52 : decode cX8_duckGain 52 = .ok (.aload_n 0, 1) := DX8_duckGain_2.2.2.2.2.2.2.2.1
theorem dX8_duckGain_53 : decode cX8_duckGain 53 = .ok (.iload_n 1, 1) := DX8_duckGain_2.2.2.2.2.2.2.2.2.1
theorem dX8_duckGain_54 : decode cX8_duckGain 54 = .ok (.iload_n 2, 1) := DX8_duckGain_2.2.2.2.2.2.2.2.2.2
set_option maxRecDepth 100000 in
theorem DX8_duckGain_3 : decode cX8_duckGain 55 = .ok (.bipush 40, 2) ∧ decode cX8_duckGain 57 = .ok (.idiv, 1) ∧ decode cX8_duckGain 58 = .ok (.invokevirtual 204, 3) ∧ decode cX8_duckGain 61 = .ok (.aload_n 0, 1) ∧ decode cX8_duckGain 62 = .ok (.iload_n 1, 1) ∧ decode cX8_duckGain 63 = .ok (.iload_n 2, 1) ∧ decode cX8_duckGain 64 = .ok (.invokevirtual 207, 3) ∧ decode cX8_duckGain 67 = .ok (.ireturn, 1) := by decide +kernel
theorem dX8_duckGain_55 : decode cX8_duckGain 55 = .ok (.bipush 40, 2) := DX8_duckGain_3.1
theorem dX8_duckGain_57 : decode cX8_duckGain 57 = .ok (.idiv, 1) := DX8_duckGain_3.2.1
theorem dX8_duckGain_58 : decode cX8_duckGain 58 = .ok (.invokevirtual 204, 3) := DX8_duckGain_3.2.2.1
theorem dX8_duckGain_61 : decode cX8_duckGain 61 = .ok (.aload_n 0, 1) := DX8_duckGain_3.2.2.2.1
theorem dX8_duckGain_62 : decode cX8_duckGain 62 = .ok (.iload_n 1, 1) := DX8_duckGain_3.2.2.2.2.1
theorem dX8_duckGain_63 : decode cX8_duckGain 63 = .ok (.iload_n 2, 1) := DX8_duckGain_3.2.2.2.2.2.1
theorem dX8_duckGain_64 : decode cX8_duckGain 64 = .ok (.invokevirtual 207, 3) := DX8_duckGain_3.2.2.2.2.2.2.1
theorem dX8_duckGain_67 : decode cX8_duckGain 67 = .ok (.ireturn, 1) := DX8_duckGain_3.2.2.2.2.2.2.2
set_option maxRecDepth 100000 in
theorem DX8_valueAt_0 : decode cX8_valueAt 0 = .ok (.aload_n 0, 1) ∧ decode cX8_valueAt 1 = .ok (.iload_n 1, 1) ∧ decode cX8_valueAt 2 = .ok (.iload_n 2, 1) ∧ decode cX8_valueAt 3 = .ok (.invokevirtual 196, 3) ∧ decode cX8_valueAt 6 = .ok (.istore_n 3, 1) ∧ decode cX8_valueAt 7 = .ok (.aload_n 0, 1) ∧ decode cX8_valueAt 8 = .ok (.getfield 7, 3) ∧ decode cX8_valueAt 11 = .ok (.iload_n 1, 1) ∧ decode cX8_valueAt 12 = .ok (.invokestatic 35, 3) ∧ decode cX8_valueAt 15 = .ok (.bipush 29, 2) := by decide +kernel
theorem dX8_valueAt_0 : decode cX8_valueAt 0 = .ok (.aload_n 0, 1) := DX8_valueAt_0.1
theorem dX8_valueAt_1 : decode cX8_valueAt 1 = .ok (.iload_n 1, 1) := DX8_valueAt_0.2.1
theorem dX8_valueAt_2 : decode cX8_valueAt 2 = .ok (.iload_n 2, 1) := DX8_valueAt_0.2.2.1
theorem dX8_valueAt_3 : decode cX8_valueAt 3 = .ok (.invokevirtual 196, 3) := DX8_valueAt_0.2.2.2.1
theorem dX8_valueAt_6 : decode cX8_valueAt 6 = .ok (.istore_n 3, 1) := DX8_valueAt_0.2.2.2.2.1
theorem dX8_valueAt_7 : decode cX8_valueAt 7 = .ok (.aload_n 0, 1) := DX8_valueAt_0.2.2.2.2.2.1
theorem dX8_valueAt_8 : decode cX8_valueAt 8 = .ok (.getfield 7, 3) := DX8_valueAt_0.2.2.2.2.2.2.1
theorem dX8_valueAt_11 : decode cX8_valueAt 11 = .ok (.iload_n 1, 1) := DX8_valueAt_0.2.2.2.2.2.2.2.1
theorem dX8_valueAt_12 : decode cX8_valueAt 12 = .ok (.invokestatic 35, 3) := DX8_valueAt_0.2.2.2.2.2.2.2.2.1
theorem dX8_valueAt_15 : decode cX8_valueAt 15 = .ok (.bipush 29, 2) := DX8_valueAt_0.2.2.2.2.2.2.2.2.2
set_option maxRecDepth 100000 in
theorem DX8_valueAt_1 : decode cX8_valueAt 17 = .ok (.iadd, 1) ∧ decode cX8_valueAt 18 = .ok (.iaload, 1) ∧ decode cX8_valueAt 19 = .ok (.iconst (-1), 1) ∧ decode cX8_valueAt 20 = .ok (.if_icmp .ne 7, 3) ∧ decode cX8_valueAt 23 = .ok (.iload_n 3, 1) ∧ decode cX8_valueAt 24 = .ok (.goto 14, 3) ∧ decode cX8_valueAt 27 = .ok (.iload_n 3, 1) ∧ decode cX8_valueAt 28 = .ok (.i2l, 1) ∧ decode cX8_valueAt 29 = .ok (.aload_n 0, 1) ∧ decode cX8_valueAt 30 = .ok (.iload_n 1, 1) := by decide +kernel
theorem dX8_valueAt_17 : decode cX8_valueAt 17 = .ok (.iadd, 1) := DX8_valueAt_1.1
theorem dX8_valueAt_18 : decode cX8_valueAt 18 = .ok (.iaload, 1) := DX8_valueAt_1.2.1
theorem dX8_valueAt_19 : decode cX8_valueAt 19 = .ok (.iconst (-1), 1) := DX8_valueAt_1.2.2.1
theorem dX8_valueAt_20 : decode cX8_valueAt 20 = .ok (.if_icmp .ne 7, 3) := DX8_valueAt_1.2.2.2.1
theorem dX8_valueAt_23 : decode cX8_valueAt 23 = .ok (.iload_n 3, 1) := DX8_valueAt_1.2.2.2.2.1
theorem dX8_valueAt_24 : decode cX8_valueAt 24 = .ok (.goto 14, 3) := DX8_valueAt_1.2.2.2.2.2.1
theorem dX8_valueAt_27 : decode cX8_valueAt 27 = .ok (.iload_n 3, 1) := DX8_valueAt_1.2.2.2.2.2.2.1
theorem dX8_valueAt_28 : decode cX8_valueAt 28 = .ok (.i2l, 1) := DX8_valueAt_1.2.2.2.2.2.2.2.1
theorem dX8_valueAt_29 : decode cX8_valueAt 29 = .ok (.aload_n 0, 1) := DX8_valueAt_1.2.2.2.2.2.2.2.2.1
theorem dX8_valueAt_30 : decode cX8_valueAt 30 = .ok (.iload_n 1, 1) := DX8_valueAt_1.2.2.2.2.2.2.2.2.2
set_option maxRecDepth 100000 in
theorem DX8_valueAt_2 : decode cX8_valueAt 31 = .ok (.iload_n 2, 1) ∧ decode cX8_valueAt 32 = .ok (.invokevirtual 207, 3) ∧ decode cX8_valueAt 35 = .ok (.invokestatic 164, 3) ∧ decode cX8_valueAt 38 = .ok (.ireturn, 1) := by decide +kernel
theorem dX8_valueAt_31 : decode cX8_valueAt 31 = .ok (.iload_n 2, 1) := DX8_valueAt_2.1
theorem dX8_valueAt_32 : decode cX8_valueAt 32 = .ok (.invokevirtual 207, 3) := DX8_valueAt_2.2.1
theorem dX8_valueAt_35 : decode cX8_valueAt 35 = .ok (.invokestatic 164, 3) := DX8_valueAt_2.2.2.1
theorem dX8_valueAt_38 : decode cX8_valueAt 38 = .ok (.ireturn, 1) := DX8_valueAt_2.2.2.2
set_option maxRecDepth 100000 in
theorem DX8_trackValue_0 : decode cX8_trackValue 0 = .ok (.aload_n 0, 1) ∧ decode cX8_trackValue 1 = .ok (.iload_n 1, 1) ∧ decode cX8_trackValue 2 = .ok (.invokestatic 111, 3) ∧ decode cX8_trackValue 5 = .ok (.ifCond .ne 7, 3) ∧ decode cX8_trackValue 8 = .ok (.iconst 1, 1) ∧ decode cX8_trackValue 9 = .ok (.goto 15, 3) ∧ decode cX8_trackValue 12 = .ok (.iload_n 2, 1) ∧ decode cX8_trackValue 13 = .ok (.invokestatic 114, 3) ∧ decode cX8_trackValue 16 = .ok (.ifCond .eq 7, 3) ∧ decode cX8_trackValue 19 = .ok (.iconst 0, 1) := by decide +kernel
theorem dX8_trackValue_0 : decode cX8_trackValue 0 = .ok (.aload_n 0, 1) := DX8_trackValue_0.1
theorem dX8_trackValue_1 : decode cX8_trackValue 1 = .ok (.iload_n 1, 1) := DX8_trackValue_0.2.1
theorem dX8_trackValue_2 : decode cX8_trackValue 2 = .ok (.invokestatic 111, 3) := DX8_trackValue_0.2.2.1
theorem dX8_trackValue_5 : decode cX8_trackValue 5 = .ok (.ifCond .ne 7, 3) := DX8_trackValue_0.2.2.2.1
theorem dX8_trackValue_8 : decode cX8_trackValue 8 = .ok (.iconst 1, 1) := DX8_trackValue_0.2.2.2.2.1
theorem dX8_trackValue_9 : decode cX8_trackValue 9 = .ok (.goto 15, 3) := DX8_trackValue_0.2.2.2.2.2.1
theorem dX8_trackValue_12 : decode cX8_trackValue 12 = .ok (.iload_n 2, 1) := DX8_trackValue_0.2.2.2.2.2.2.1
theorem dX8_trackValue_13 : decode cX8_trackValue 13 = .ok (.invokestatic 114, 3) := DX8_trackValue_0.2.2.2.2.2.2.2.1
theorem dX8_trackValue_16 : decode cX8_trackValue 16 = .ok (.ifCond .eq 7, 3) := DX8_trackValue_0.2.2.2.2.2.2.2.2.1
theorem dX8_trackValue_19 : decode cX8_trackValue 19 = .ok (.iconst 0, 1) := DX8_trackValue_0.2.2.2.2.2.2.2.2.2
set_option maxRecDepth 100000 in
theorem DX8_trackValue_1 : decode cX8_trackValue 20 = .ok (.goto 4, 3) ∧ decode cX8_trackValue 23 = .ok (.iconst 2, 1) ∧ decode cX8_trackValue 24 = .ok (.invokevirtual 51, 3) ∧ decode cX8_trackValue 27 = .ok (.ifCond .eq 5, 3) ∧ decode cX8_trackValue 30 = .ok (.iconst 0, 1) ∧ decode cX8_trackValue 31 = .ok (.ireturn, 1) ∧ decode cX8_trackValue 32 = .ok (.aload_n 0, 1) ∧ decode cX8_trackValue 33 = .ok (.iload_n 1, 1) ∧ decode cX8_trackValue 34 = .ok (.iload_n 2, 1) ∧ decode cX8_trackValue 35 = .ok (.bipush 40, 2) := by decide +kernel
theorem dX8_trackValue_20 : decode cX8_trackValue 20 = .ok (.goto 4, 3) := DX8_trackValue_1.1
theorem dX8_trackValue_23 : decode cX8_trackValue 23 = .ok (.iconst 2, 1) := DX8_trackValue_1.2.1
theorem dX8_trackValue_24 : decode cX8_trackValue 24 = .ok (.invokevirtual 51, 3) := DX8_trackValue_1.2.2.1
theorem dX8_trackValue_27 : decode cX8_trackValue 27 = .ok (.ifCond .eq 5, 3) := DX8_trackValue_1.2.2.2.1
theorem dX8_trackValue_30 : decode cX8_trackValue 30 = .ok (.iconst 0, 1) := DX8_trackValue_1.2.2.2.2.1
theorem dX8_trackValue_31 : decode cX8_trackValue 31 = .ok (.ireturn, 1) := DX8_trackValue_1.2.2.2.2.2.1
theorem dX8_trackValue_32 : decode cX8_trackValue 32 = .ok (.aload_n 0, 1) := DX8_trackValue_1.2.2.2.2.2.2.1
theorem dX8_trackValue_33 : decode cX8_trackValue 33 = .ok (.iload_n 1, 1) := DX8_trackValue_1.2.2.2.2.2.2.2.1
theorem dX8_trackValue_34 : decode cX8_trackValue 34 = .ok (.iload_n 2, 1) := DX8_trackValue_1.2.2.2.2.2.2.2.2.1
theorem dX8_trackValue_35 : decode cX8_trackValue 35 = .ok (.bipush 40, 2) := DX8_trackValue_1.2.2.2.2.2.2.2.2.2
set_option maxRecDepth 100000 in
theorem DX8_trackValue_2 : decode cX8_trackValue 37 = .ok (.idiv, 1) ∧ decode cX8_trackValue 38 = .ok (.invokevirtual 204, 3) ∧ decode cX8_trackValue 41 = .ok (.aload_n 0, 1) ∧ decode cX8_trackValue 42 = .ok (.iload_n 1, 1) ∧ decode cX8_trackValue 43 = .ok (.iload_n 2, 1) ∧ decode cX8_trackValue 44 = .ok (.invokevirtual 210, 3) ∧ decode cX8_trackValue 47 = .ok (.ireturn, 1) := by decide +kernel
theorem dX8_trackValue_37 : decode cX8_trackValue 37 = .ok (.idiv, 1) := DX8_trackValue_2.1
theorem dX8_trackValue_38 : decode cX8_trackValue 38 = .ok (.invokevirtual 204, 3) := DX8_trackValue_2.2.1
theorem dX8_trackValue_41 : decode cX8_trackValue 41 = .ok (.aload_n 0, 1) := DX8_trackValue_2.2.2.1
theorem dX8_trackValue_42 : decode cX8_trackValue 42 = .ok (.iload_n 1, 1) := DX8_trackValue_2.2.2.2.1
theorem dX8_trackValue_43 : decode cX8_trackValue 43 = .ok (.iload_n 2, 1) := DX8_trackValue_2.2.2.2.2.1
theorem dX8_trackValue_44 : decode cX8_trackValue 44 = .ok (.invokevirtual 210, 3) := DX8_trackValue_2.2.2.2.2.2.1
theorem dX8_trackValue_47 : decode cX8_trackValue 47 = .ok (.ireturn, 1) := DX8_trackValue_2.2.2.2.2.2.2
set_option maxRecDepth 100000 in
theorem DX8_isHeard_0 : decode cX8_isHeard 0 = .ok (.iconst 0, 1) ∧ decode cX8_isHeard 1 = .ok (.istore_n 2, 1) ∧ decode cX8_isHeard 2 = .ok (.iconst 0, 1) ∧ decode cX8_isHeard 3 = .ok (.istore_n 3, 1) ∧ decode cX8_isHeard 4 = .ok (.iload_n 3, 1) ∧ decode cX8_isHeard 5 = .ok (.iconst 4, 1) ∧ decode cX8_isHeard 6 = .ok (.if_icmp .ge 34, 3) ∧ decode cX8_isHeard 9 = .ok (.iload_n 2, 1) ∧ decode cX8_isHeard 10 = .ok (.ifCond .ne 18, 3) ∧ decode cX8_isHeard 13 = .ok (.aload_n 0, 1) := by decide +kernel
theorem dX8_isHeard_0 : decode cX8_isHeard 0 = .ok (.iconst 0, 1) := DX8_isHeard_0.1
theorem dX8_isHeard_1 : decode cX8_isHeard 1 = .ok (.istore_n 2, 1) := DX8_isHeard_0.2.1
theorem dX8_isHeard_2 : decode cX8_isHeard 2 = .ok (.iconst 0, 1) := DX8_isHeard_0.2.2.1
theorem dX8_isHeard_3 : decode cX8_isHeard 3 = .ok (.istore_n 3, 1) := DX8_isHeard_0.2.2.2.1
theorem dX8_isHeard_4 : decode cX8_isHeard 4 = .ok (.iload_n 3, 1) := DX8_isHeard_0.2.2.2.2.1
theorem dX8_isHeard_5 : decode cX8_isHeard 5 = .ok (.iconst 4, 1) := DX8_isHeard_0.2.2.2.2.2.1
theorem dX8_isHeard_6 : decode cX8_isHeard 6 = .ok (.if_icmp .ge 34, 3) := DX8_isHeard_0.2.2.2.2.2.2.1
theorem dX8_isHeard_9 : decode cX8_isHeard 9 = .ok (.iload_n 2, 1) := DX8_isHeard_0.2.2.2.2.2.2.2.1
theorem dX8_isHeard_10 : decode cX8_isHeard 10 = .ok (.ifCond .ne 18, 3) := DX8_isHeard_0.2.2.2.2.2.2.2.2.1
theorem dX8_isHeard_13 : decode cX8_isHeard 13 = .ok (.aload_n 0, 1) := DX8_isHeard_0.2.2.2.2.2.2.2.2.2
set_option maxRecDepth 100000 in
theorem DX8_isHeard_1 : decode cX8_isHeard 14 = .ok (.getfield 7, 3) ∧ decode cX8_isHeard 17 = .ok (.iload_n 3, 1) ∧ decode cX8_isHeard 18 = .ok (.invokestatic 35, 3) ∧ decode cX8_isHeard 21 = .ok (.iconst 3, 1) ∧ decode cX8_isHeard 22 = .ok (.iadd, 1) ∧ decode cX8_isHeard 23 = .ok (.iaload, 1) ∧ decode cX8_isHeard 24 = .ok (.iconst 1, 1) ∧ decode cX8_isHeard 25 = .ok (.if_icmp .ne 7, 3) ∧ decode cX8_isHeard 28 = .ok (.iconst 1, 1) ∧ decode cX8_isHeard 29 = .ok (.goto 4, 3) := by decide +kernel
theorem dX8_isHeard_14 : decode cX8_isHeard 14 = .ok (.getfield 7, 3) := DX8_isHeard_1.1
theorem dX8_isHeard_17 : decode cX8_isHeard 17 = .ok (.iload_n 3, 1) := DX8_isHeard_1.2.1
theorem dX8_isHeard_18 : decode cX8_isHeard 18 = .ok (.invokestatic 35, 3) := DX8_isHeard_1.2.2.1
theorem dX8_isHeard_21 : decode cX8_isHeard 21 = .ok (.iconst 3, 1) := DX8_isHeard_1.2.2.2.1
theorem dX8_isHeard_22 : decode cX8_isHeard 22 = .ok (.iadd, 1) := DX8_isHeard_1.2.2.2.2.1
theorem dX8_isHeard_23 : decode cX8_isHeard 23 = .ok (.iaload, 1) := DX8_isHeard_1.2.2.2.2.2.1
theorem dX8_isHeard_24 : decode cX8_isHeard 24 = .ok (.iconst 1, 1) := DX8_isHeard_1.2.2.2.2.2.2.1
theorem dX8_isHeard_25 : decode cX8_isHeard 25 = .ok (.if_icmp .ne 7, 3) := DX8_isHeard_1.2.2.2.2.2.2.2.1
theorem dX8_isHeard_28 : decode cX8_isHeard 28 = .ok (.iconst 1, 1) := DX8_isHeard_1.2.2.2.2.2.2.2.2.1
theorem dX8_isHeard_29 : decode cX8_isHeard 29 = .ok (.goto 4, 3) := DX8_isHeard_1.2.2.2.2.2.2.2.2.2
set_option maxRecDepth 100000 in
theorem DX8_isHeard_2 : decode cX8_isHeard 32 = .ok (.iconst 0, 1) ∧ decode cX8_isHeard 33 = .ok (.istore_n 2, 1) ∧ decode cX8_isHeard 34 = .ok (.iinc 3 1, 3) ∧ decode cX8_isHeard 37 = .ok (.goto (-33), 3) ∧ decode cX8_isHeard 40 = .ok (.aload_n 0, 1) ∧ decode cX8_isHeard 41 = .ok (.getfield 7, 3) ∧ decode cX8_isHeard 44 = .ok (.iload_n 1, 1) ∧ decode cX8_isHeard 45 = .ok (.invokestatic 35, 3) ∧ decode cX8_isHeard 48 = .ok (.iconst 2, 1) ∧ decode cX8_isHeard 49 = .ok (.iadd, 1) := by decide +kernel
theorem dX8_isHeard_32 : decode cX8_isHeard 32 = .ok (.iconst 0, 1) := DX8_isHeard_2.1
theorem dX8_isHeard_33 : decode cX8_isHeard 33 = .ok (.istore_n 2, 1) := DX8_isHeard_2.2.1
theorem dX8_isHeard_34 : decode cX8_isHeard 34 = .ok (.iinc 3 1, 3) := DX8_isHeard_2.2.2.1
theorem dX8_isHeard_37 : decode cX8_isHeard 37 = .ok (.goto (-33), 3) := DX8_isHeard_2.2.2.2.1
theorem dX8_isHeard_40 : decode cX8_isHeard 40 = .ok (.aload_n 0, 1) := DX8_isHeard_2.2.2.2.2.1
theorem dX8_isHeard_41 : decode cX8_isHeard 41 = .ok (.getfield 7, 3) := DX8_isHeard_2.2.2.2.2.2.1
theorem dX8_isHeard_44 : decode cX8_isHeard 44 = .ok (.iload_n 1, 1) := DX8_isHeard_2.2.2.2.2.2.2.1
theorem dX8_isHeard_45 : decode cX8_isHeard 45 = .ok (.invokestatic 35, 3) := DX8_isHeard_2.2.2.2.2.2.2.2.1
theorem dX8_isHeard_48 : decode cX8_isHeard 48 = .ok (.iconst 2, 1) := DX8_isHeard_2.2.2.2.2.2.2.2.2.1
theorem dX8_isHeard_49 : decode cX8_isHeard 49 = .ok (.iadd, 1) := DX8_isHeard_2.2.2.2.2.2.2.2.2.2
set_option maxRecDepth 100000 in
theorem DX8_isHeard_3 : decode cX8_isHeard 50 = .ok (.iaload, 1) ∧ decode cX8_isHeard 51 = .ok (.ifCond .ne 26, 3) ∧ decode cX8_isHeard 54 = .ok (.iload_n 2, 1) ∧ decode cX8_isHeard 55 = .ok (.ifCond .eq 18, 3) ∧ decode cX8_isHeard 58 = .ok (.aload_n 0, 1) ∧ decode cX8_isHeard 59 = .ok (.getfield 7, 3) ∧ decode cX8_isHeard 62 = .ok (.iload_n 1, 1) ∧ decode cX8_isHeard 63 = .ok (.invokestatic 35, 3) ∧ decode cX8_isHeard 66 = .ok (.iconst 3, 1) ∧ decode cX8_isHeard 67 = .ok (.iadd, 1) := by decide +kernel
theorem dX8_isHeard_50 : decode cX8_isHeard 50 = .ok (.iaload, 1) := DX8_isHeard_3.1
theorem dX8_isHeard_51 : decode cX8_isHeard 51 = .ok (.ifCond .ne 26, 3) := DX8_isHeard_3.2.1
theorem dX8_isHeard_54 : decode cX8_isHeard 54 = .ok (.iload_n 2, 1) := DX8_isHeard_3.2.2.1
theorem dX8_isHeard_55 : decode cX8_isHeard 55 = .ok (.ifCond .eq 18, 3) := DX8_isHeard_3.2.2.2.1
theorem dX8_isHeard_58 : decode cX8_isHeard 58 = .ok (.aload_n 0, 1) := DX8_isHeard_3.2.2.2.2.1
theorem dX8_isHeard_59 : decode cX8_isHeard 59 = .ok (.getfield 7, 3) := DX8_isHeard_3.2.2.2.2.2.1
theorem dX8_isHeard_62 : decode cX8_isHeard 62 = .ok (.iload_n 1, 1) := DX8_isHeard_3.2.2.2.2.2.2.1
theorem dX8_isHeard_63 : decode cX8_isHeard 63 = .ok (.invokestatic 35, 3) := DX8_isHeard_3.2.2.2.2.2.2.2.1
theorem dX8_isHeard_66 : decode cX8_isHeard 66 = .ok (.iconst 3, 1) := DX8_isHeard_3.2.2.2.2.2.2.2.2.1
theorem dX8_isHeard_67 : decode cX8_isHeard 67 = .ok (.iadd, 1) := DX8_isHeard_3.2.2.2.2.2.2.2.2.2
set_option maxRecDepth 100000 in
theorem DX8_isHeard_4 : decode cX8_isHeard 68 = .ok (.iaload, 1) ∧ decode cX8_isHeard 69 = .ok (.iconst 1, 1) ∧ decode cX8_isHeard 70 = .ok (.if_icmp .ne 7, 3) ∧ decode cX8_isHeard 73 = .ok (.iconst 1, 1) ∧ decode cX8_isHeard 74 = .ok (.goto 4, 3) ∧ decode cX8_isHeard 77 = .ok (.iconst 0, 1) ∧ decode cX8_isHeard 78 = .ok (.ireturn, 1) := by decide +kernel
theorem dX8_isHeard_68 : decode cX8_isHeard 68 = .ok (.iaload, 1) := DX8_isHeard_4.1
theorem dX8_isHeard_69 : decode cX8_isHeard 69 = .ok (.iconst 1, 1) := DX8_isHeard_4.2.1
theorem dX8_isHeard_70 : decode cX8_isHeard 70 = .ok (.if_icmp .ne 7, 3) := DX8_isHeard_4.2.2.1
theorem dX8_isHeard_73 : decode cX8_isHeard 73 = .ok (.iconst 1, 1) := DX8_isHeard_4.2.2.2.1
theorem dX8_isHeard_74 : decode cX8_isHeard 74 = .ok (.goto 4, 3) := DX8_isHeard_4.2.2.2.2.1
theorem dX8_isHeard_77 : decode cX8_isHeard 77 = .ok (.iconst 0, 1) := DX8_isHeard_4.2.2.2.2.2.1
theorem dX8_isHeard_78 : decode cX8_isHeard 78 = .ok (.ireturn, 1) := DX8_isHeard_4.2.2.2.2.2.2
set_option maxRecDepth 100000 in
theorem DX8_isAudible_0 : decode cX8_isAudible 0 = .ok (.aload_n 0, 1) ∧ decode cX8_isAudible 1 = .ok (.iload_n 1, 1) ∧ decode cX8_isAudible 2 = .ok (.invokestatic 111, 3) ∧ decode cX8_isAudible 5 = .ok (.ifCond .eq 7, 3) ∧ decode cX8_isAudible 8 = .ok (.iconst 0, 1) ∧ decode cX8_isAudible 9 = .ok (.goto 4, 3) ∧ decode cX8_isAudible 12 = .ok (.iconst 1, 1) ∧ decode cX8_isAudible 13 = .ok (.invokevirtual 51, 3) ∧ decode cX8_isAudible 16 = .ok (.ifCond .ne 15, 3) ∧ decode cX8_isAudible 19 = .ok (.aload_n 0, 1) := by decide +kernel
theorem dX8_isAudible_0 : decode cX8_isAudible 0 = .ok (.aload_n 0, 1) := DX8_isAudible_0.1
theorem dX8_isAudible_1 : decode cX8_isAudible 1 = .ok (.iload_n 1, 1) := DX8_isAudible_0.2.1
theorem dX8_isAudible_2 : decode cX8_isAudible 2 = .ok (.invokestatic 111, 3) := DX8_isAudible_0.2.2.1
theorem dX8_isAudible_5 : decode cX8_isAudible 5 = .ok (.ifCond .eq 7, 3) := DX8_isAudible_0.2.2.2.1
theorem dX8_isAudible_8 : decode cX8_isAudible 8 = .ok (.iconst 0, 1) := DX8_isAudible_0.2.2.2.2.1
theorem dX8_isAudible_9 : decode cX8_isAudible 9 = .ok (.goto 4, 3) := DX8_isAudible_0.2.2.2.2.2.1
theorem dX8_isAudible_12 : decode cX8_isAudible 12 = .ok (.iconst 1, 1) := DX8_isAudible_0.2.2.2.2.2.2.1
theorem dX8_isAudible_13 : decode cX8_isAudible 13 = .ok (.invokevirtual 51, 3) := DX8_isAudible_0.2.2.2.2.2.2.2.1
theorem dX8_isAudible_16 : decode cX8_isAudible 16 = .ok (.ifCond .ne 15, 3) := DX8_isAudible_0.2.2.2.2.2.2.2.2.1
theorem dX8_isAudible_19 : decode cX8_isAudible 19 = .ok (.aload_n 0, 1) := DX8_isAudible_0.2.2.2.2.2.2.2.2.2
set_option maxRecDepth 100000 in
theorem DX8_isAudible_1 : decode cX8_isAudible 20 = .ok (.iload_n 1, 1) ∧ decode cX8_isAudible 21 = .ok (.invokevirtual 213, 3) ∧ decode cX8_isAudible 24 = .ok (.ifCond .eq 7, 3) ∧ decode cX8_isAudible 27 = .ok (.iconst 1, 1) ∧ decode cX8_isAudible 28 = .ok (.goto 4, 3) ∧ decode cX8_isAudible 31 = .ok (.iconst 0, 1) ∧ decode cX8_isAudible 32 = .ok (.ireturn, 1) := by decide +kernel
theorem dX8_isAudible_20 : decode cX8_isAudible 20 = .ok (.iload_n 1, 1) := DX8_isAudible_1.1
theorem dX8_isAudible_21 : decode cX8_isAudible 21 = .ok (.invokevirtual 213, 3) := DX8_isAudible_1.2.1
theorem dX8_isAudible_24 : decode cX8_isAudible 24 = .ok (.ifCond .eq 7, 3) := DX8_isAudible_1.2.2.1
theorem dX8_isAudible_27 : decode cX8_isAudible 27 = .ok (.iconst 1, 1) := DX8_isAudible_1.2.2.2.1
theorem dX8_isAudible_28 : decode cX8_isAudible 28 = .ok (.goto 4, 3) := DX8_isAudible_1.2.2.2.2.1
theorem dX8_isAudible_31 : decode cX8_isAudible 31 = .ok (.iconst 0, 1) := DX8_isAudible_1.2.2.2.2.2.1
theorem dX8_isAudible_32 : decode cX8_isAudible 32 = .ok (.ireturn, 1) := DX8_isAudible_1.2.2.2.2.2.2
set_option maxRecDepth 100000 in
theorem DX8_laysDucks_0 : decode cX8_laysDucks 0 = .ok (.iconst 0, 1) ∧ decode cX8_laysDucks 1 = .ok (.istore_n 2, 1) ∧ decode cX8_laysDucks 2 = .ok (.iload_n 2, 1) ∧ decode cX8_laysDucks 3 = .ok (.iconst 4, 1) ∧ decode cX8_laysDucks 4 = .ok (.if_icmp .ge 15, 3) ∧ decode cX8_laysDucks 7 = .ok (.aload_n 0, 1) ∧ decode cX8_laysDucks 8 = .ok (.iload_n 2, 1) ∧ decode cX8_laysDucks 9 = .ok (.iload_n 1, 1) ∧ decode cX8_laysDucks 10 = .ok (.invokevirtual 204, 3) ∧ decode cX8_laysDucks 13 = .ok (.iinc 2 1, 3) := by decide +kernel
theorem dX8_laysDucks_0 : decode cX8_laysDucks 0 = .ok (.iconst 0, 1) := DX8_laysDucks_0.1
theorem dX8_laysDucks_1 : decode cX8_laysDucks 1 = .ok (.istore_n 2, 1) := DX8_laysDucks_0.2.1
theorem dX8_laysDucks_2 : decode cX8_laysDucks 2 = .ok (.iload_n 2, 1) := DX8_laysDucks_0.2.2.1
theorem dX8_laysDucks_3 : decode cX8_laysDucks 3 = .ok (.iconst 4, 1) := DX8_laysDucks_0.2.2.2.1
theorem dX8_laysDucks_4 : decode cX8_laysDucks 4 = .ok (.if_icmp .ge 15, 3) := DX8_laysDucks_0.2.2.2.2.1
theorem dX8_laysDucks_7 : decode cX8_laysDucks 7 = .ok (.aload_n 0, 1) := DX8_laysDucks_0.2.2.2.2.2.1
theorem dX8_laysDucks_8 : decode cX8_laysDucks 8 = .ok (.iload_n 2, 1) := DX8_laysDucks_0.2.2.2.2.2.2.1
theorem dX8_laysDucks_9 : decode cX8_laysDucks 9 = .ok (.iload_n 1, 1) := DX8_laysDucks_0.2.2.2.2.2.2.2.1
theorem dX8_laysDucks_10 : decode cX8_laysDucks 10 = .ok (.invokevirtual 204, 3) := DX8_laysDucks_0.2.2.2.2.2.2.2.2.1
theorem dX8_laysDucks_13 : decode cX8_laysDucks 13 = .ok (.iinc 2 1, 3) := DX8_laysDucks_0.2.2.2.2.2.2.2.2.2
set_option maxRecDepth 100000 in
theorem DX8_laysDucks_1 : decode cX8_laysDucks 16 = .ok (.goto (-14), 3) ∧ decode cX8_laysDucks 19 = .ok (.return_, 1) := by decide +kernel
theorem dX8_laysDucks_16 : decode cX8_laysDucks 16 = .ok (.goto (-14), 3) := DX8_laysDucks_1.1
theorem dX8_laysDucks_19 : decode cX8_laysDucks 19 = .ok (.return_, 1) := DX8_laysDucks_1.2
set_option maxRecDepth 100000 in
theorem DX8_limited_0 : decode cX8_limited 0 = .ok (.aload_n 0, 1) ∧ decode cX8_limited 1 = .ok (.dup, 1) ∧ decode cX8_limited 2 = .ok (.getfield 216, 3) ∧ decode cX8_limited 5 = .ok (.iload_n 1, 1) ∧ decode cX8_limited 6 = .ok (.sipush 32767, 3) ∧ decode cX8_limited 9 = .ok (.if_icmp .gt 10, 3) ∧ decode cX8_limited 12 = .ok (.iload_n 1, 1) ∧ decode cX8_limited 13 = .ok (.sipush (-32767), 3) ∧ decode cX8_limited 16 = .ok (.if_icmp .ge 7, 3) ∧ decode cX8_limited 19 = .ok (.iconst 1, 1) := by decide +kernel
theorem dX8_limited_0 : decode cX8_limited 0 = .ok (.aload_n 0, 1) := DX8_limited_0.1
theorem dX8_limited_1 : decode cX8_limited 1 = .ok (.dup, 1) := DX8_limited_0.2.1
theorem dX8_limited_2 : decode cX8_limited 2 = .ok (.getfield 216, 3) := DX8_limited_0.2.2.1
theorem dX8_limited_5 : decode cX8_limited 5 = .ok (.iload_n 1, 1) := DX8_limited_0.2.2.2.1
theorem dX8_limited_6 : decode cX8_limited 6 = .ok (.sipush 32767, 3) := DX8_limited_0.2.2.2.2.1
theorem dX8_limited_9 : decode cX8_limited 9 = .ok (.if_icmp .gt 10, 3) := DX8_limited_0.2.2.2.2.2.1
theorem dX8_limited_12 : decode cX8_limited 12 = .ok (.iload_n 1, 1) := DX8_limited_0.2.2.2.2.2.2.1
theorem dX8_limited_13 : decode cX8_limited 13 = .ok (.sipush (-32767), 3) := DX8_limited_0.2.2.2.2.2.2.2.1
theorem dX8_limited_16 : decode cX8_limited 16 = .ok (.if_icmp .ge 7, 3) := DX8_limited_0.2.2.2.2.2.2.2.2.1
theorem dX8_limited_19 : decode cX8_limited 19 = .ok (.iconst 1, 1) := DX8_limited_0.2.2.2.2.2.2.2.2.2
set_option maxRecDepth 100000 in
theorem DX8_limited_1 : decode cX8_limited 20 = .ok (.goto 4, 3) ∧ decode cX8_limited 23 = .ok (.iconst 0, 1) ∧ decode cX8_limited 24 = .ok (.iadd, 1) ∧ decode cX8_limited 25 = .ok (.putfield 216, 3) ∧ decode cX8_limited 28 = .ok (.iload_n 1, 1) ∧ decode cX8_limited 29 = .ok (.sipush 32767, 3) ∧ decode cX8_limited 32 = .ok (.if_icmp .le 9, 3) ∧ decode cX8_limited 35 = .ok (.sipush 32767, 3) ∧ decode cX8_limited 38 = .ok (.goto 17, 3) ∧ decode cX8_limited 41 = .ok (.iload_n 1, 1) := by decide +kernel
theorem dX8_limited_20 : decode cX8_limited 20 = .ok (.goto 4, 3) := DX8_limited_1.1
theorem dX8_limited_23 : decode cX8_limited 23 = .ok (.iconst 0, 1) := DX8_limited_1.2.1
theorem dX8_limited_24 : decode cX8_limited 24 = .ok (.iadd, 1) := DX8_limited_1.2.2.1
theorem dX8_limited_25 : decode cX8_limited 25 = .ok (.putfield 216, 3) := DX8_limited_1.2.2.2.1
theorem dX8_limited_28 : decode cX8_limited 28 = .ok (.iload_n 1, 1) := DX8_limited_1.2.2.2.2.1
theorem dX8_limited_29 : decode cX8_limited 29 = .ok (.sipush 32767, 3) := DX8_limited_1.2.2.2.2.2.1
theorem dX8_limited_32 : decode cX8_limited 32 = .ok (.if_icmp .le 9, 3) := DX8_limited_1.2.2.2.2.2.2.1
theorem dX8_limited_35 : decode cX8_limited 35 = .ok (.sipush 32767, 3) := DX8_limited_1.2.2.2.2.2.2.2.1
theorem dX8_limited_38 : decode cX8_limited 38 = .ok (.goto 17, 3) := DX8_limited_1.2.2.2.2.2.2.2.2.1
theorem dX8_limited_41 : decode cX8_limited 41 = .ok (.iload_n 1, 1) := DX8_limited_1.2.2.2.2.2.2.2.2.2
set_option maxRecDepth 100000 in
theorem DX8_limited_2 : decode cX8_limited 42 = .ok (.sipush (-32767), 3) ∧ decode cX8_limited 45 = .ok (.if_icmp .ge 9, 3) ∧ decode cX8_limited 48 = .ok (.sipush (-32767), 3) ∧ decode cX8_limited 51 = .ok (.goto 4, 3) ∧ decode cX8_limited 54 = .ok (.iload_n 1, 1) ∧ decode cX8_limited 55 = .ok (.ireturn, 1) := by decide +kernel
theorem dX8_limited_42 : decode cX8_limited 42 = .ok (.sipush (-32767), 3) := DX8_limited_2.1
theorem dX8_limited_45 : decode cX8_limited 45 = .ok (.if_icmp .ge 9, 3) := DX8_limited_2.2.1
theorem dX8_limited_48 : decode cX8_limited 48 = .ok (.sipush (-32767), 3) := DX8_limited_2.2.2.1
theorem dX8_limited_51 : decode cX8_limited 51 = .ok (.goto 4, 3) := DX8_limited_2.2.2.2.1
theorem dX8_limited_54 : decode cX8_limited 54 = .ok (.iload_n 1, 1) := DX8_limited_2.2.2.2.2.1
theorem dX8_limited_55 : decode cX8_limited 55 = .ok (.ireturn, 1) := DX8_limited_2.2.2.2.2.2
set_option maxRecDepth 100000 in
theorem DX8_mixes_0 : decode cX8_mixes 0 = .ok (.lconst 0, 1) ∧ decode cX8_mixes 1 = .ok (.lstore_n 2, 1) ∧ decode cX8_mixes 2 = .ok (.lconst 0, 1) ∧ decode cX8_mixes 3 = .ok (.lstore 4, 2) ∧ decode cX8_mixes 5 = .ok (.iconst 0, 1) ∧ decode cX8_mixes 6 = .ok (.istore 6, 2) ∧ decode cX8_mixes 8 = .ok (.iload 6, 2) ∧ decode cX8_mixes 10 = .ok (.iconst 4, 1) ∧ decode cX8_mixes 11 = .ok (.if_icmp .ge 98, 3) ∧ decode cX8_mixes 14 = .ok (.aload_n 0, 1) := by decide +kernel
theorem dX8_mixes_0 : decode cX8_mixes 0 = .ok (.lconst 0, 1) := DX8_mixes_0.1
theorem dX8_mixes_1 : decode cX8_mixes 1 = .ok (.lstore_n 2, 1) := DX8_mixes_0.2.1
theorem dX8_mixes_2 : decode cX8_mixes 2 = .ok (.lconst 0, 1) := DX8_mixes_0.2.2.1
theorem dX8_mixes_3 : decode cX8_mixes 3 = .ok (.lstore 4, 2) := DX8_mixes_0.2.2.2.1
theorem dX8_mixes_5 : decode cX8_mixes 5 = .ok (.iconst 0, 1) := DX8_mixes_0.2.2.2.2.1
theorem dX8_mixes_6 : decode cX8_mixes 6 = .ok (.istore 6, 2) := DX8_mixes_0.2.2.2.2.2.1
theorem dX8_mixes_8 : decode cX8_mixes 8 = .ok (.iload 6, 2) := DX8_mixes_0.2.2.2.2.2.2.1
theorem dX8_mixes_10 : decode cX8_mixes 10 = .ok (.iconst 4, 1) := DX8_mixes_0.2.2.2.2.2.2.2.1
theorem dX8_mixes_11 : decode cX8_mixes 11 = .ok (.if_icmp .ge 98, 3) := DX8_mixes_0.2.2.2.2.2.2.2.2.1
theorem dX8_mixes_14 : decode cX8_mixes 14 = .ok (.aload_n 0, 1) := DX8_mixes_0.2.2.2.2.2.2.2.2.2
set_option maxRecDepth 100000 in
theorem DX8_mixes_1 : decode cX8_mixes 15 = .ok (.iload 6, 2) ∧ decode cX8_mixes 17 = .ok (.invokevirtual 213, 3) ∧ decode cX8_mixes 20 = .ok (.ifCond .eq 83, 3) ∧ decode cX8_mixes 23 = .ok (.aload_n 0, 1) ∧ decode cX8_mixes 24 = .ok (.iload 6, 2) ∧ decode cX8_mixes 26 = .ok (.iload_n 1, 1) ∧ decode cX8_mixes 27 = .ok (.invokevirtual 210, 3) ∧ decode cX8_mixes 30 = .ok (.i2l, 1) ∧ decode cX8_mixes 31 = .ok (.lstore 7, 2) ∧ decode cX8_mixes 33 = .ok (.aload_n 0, 1) := by decide +kernel
theorem dX8_mixes_15 : decode cX8_mixes 15 = .ok (.iload 6, 2) := DX8_mixes_1.1
theorem dX8_mixes_17 : decode cX8_mixes 17 = .ok (.invokevirtual 213, 3) := DX8_mixes_1.2.1
theorem dX8_mixes_20 : decode cX8_mixes 20 = .ok (.ifCond .eq 83, 3) := DX8_mixes_1.2.2.1
theorem dX8_mixes_23 : decode cX8_mixes 23 = .ok (.aload_n 0, 1) := DX8_mixes_1.2.2.2.1
theorem dX8_mixes_24 : decode cX8_mixes 24 = .ok (.iload 6, 2) := DX8_mixes_1.2.2.2.2.1
theorem dX8_mixes_26 : decode cX8_mixes 26 = .ok (.iload_n 1, 1) := DX8_mixes_1.2.2.2.2.2.1
theorem dX8_mixes_27 : decode cX8_mixes 27 = .ok (.invokevirtual 210, 3) := DX8_mixes_1.2.2.2.2.2.2.1
theorem dX8_mixes_30 : decode cX8_mixes 30 = .ok (.i2l, 1) := DX8_mixes_1.2.2.2.2.2.2.2.1
theorem dX8_mixes_31 : decode cX8_mixes 31 = .ok (.lstore 7, 2) := DX8_mixes_1.2.2.2.2.2.2.2.2.1
theorem dX8_mixes_33 : decode cX8_mixes 33 = .ok (.aload_n 0, 1) := DX8_mixes_1.2.2.2.2.2.2.2.2.2
set_option maxRecDepth 100000 in
theorem DX8_mixes_2 : decode cX8_mixes 34 = .ok (.getfield 7, 3) ∧ decode cX8_mixes 37 = .ok (.iload 6, 2) ∧ decode cX8_mixes 39 = .ok (.invokestatic 35, 3) ∧ decode cX8_mixes 42 = .ok (.iconst 1, 1) ∧ decode cX8_mixes 43 = .ok (.iadd, 1) ∧ decode cX8_mixes 44 = .ok (.iaload, 1) ∧ decode cX8_mixes 45 = .ok (.istore 9, 2) ∧ decode cX8_mixes 47 = .ok (.lload_n 2, 1) ∧ decode cX8_mixes 48 = .ok (.lload 7, 2) ∧ decode cX8_mixes 50 = .ok (.bipush 100, 2) := by decide +kernel
theorem dX8_mixes_34 : decode cX8_mixes 34 = .ok (.getfield 7, 3) := DX8_mixes_2.1
theorem dX8_mixes_37 : decode cX8_mixes 37 = .ok (.iload 6, 2) := DX8_mixes_2.2.1
theorem dX8_mixes_39 : decode cX8_mixes 39 = .ok (.invokestatic 35, 3) := DX8_mixes_2.2.2.1
theorem dX8_mixes_42 : decode cX8_mixes 42 = .ok (.iconst 1, 1) := DX8_mixes_2.2.2.2.1
theorem dX8_mixes_43 : decode cX8_mixes 43 = .ok (.iadd, 1) := DX8_mixes_2.2.2.2.2.1
theorem dX8_mixes_44 : decode cX8_mixes 44 = .ok (.iaload, 1) := DX8_mixes_2.2.2.2.2.2.1
theorem dX8_mixes_45 : decode cX8_mixes 45 = .ok (.istore 9, 2) := DX8_mixes_2.2.2.2.2.2.2.1
theorem dX8_mixes_47 : decode cX8_mixes 47 = .ok (.lload_n 2, 1) := DX8_mixes_2.2.2.2.2.2.2.2.1
theorem dX8_mixes_48 : decode cX8_mixes 48 = .ok (.lload 7, 2) := DX8_mixes_2.2.2.2.2.2.2.2.2.1
theorem dX8_mixes_50 : decode cX8_mixes 50 = .ok (.bipush 100, 2) := DX8_mixes_2.2.2.2.2.2.2.2.2.2
set_option maxRecDepth 100000 in
theorem DX8_mixes_3 : decode cX8_mixes 52 = .ok (.iload 9, 2) ∧ decode cX8_mixes 54 = .ok (.ifCond .le 8, 3) ∧ decode cX8_mixes 57 = .ok (.iload 9, 2) ∧ decode cX8_mixes 59 = .ok (.goto 4, 3) ∧ decode cX8_mixes 62 = .ok (.iconst 0, 1) ∧ decode cX8_mixes 63 = .ok (.isub, 1) ∧ decode cX8_mixes 64 = .ok (.i2l, 1) ∧ decode cX8_mixes 65 = .ok (.lmul, 1) ∧ decode cX8_mixes 66 = .ok (.ldc2_w 180, 3) ∧ decode cX8_mixes 69 = .ok (.invokestatic 60, 3) := by decide +kernel
theorem dX8_mixes_52 : decode cX8_mixes 52 = .ok (.iload 9, 2) := DX8_mixes_3.1
theorem dX8_mixes_54 : decode cX8_mixes 54 = .ok (.ifCond .le 8, 3) := DX8_mixes_3.2.1
theorem dX8_mixes_57 : decode cX8_mixes 57 = .ok (.iload 9, 2) := DX8_mixes_3.2.2.1
theorem dX8_mixes_59 : decode cX8_mixes 59 = .ok (.goto 4, 3) := DX8_mixes_3.2.2.2.1
theorem dX8_mixes_62 : decode cX8_mixes 62 = .ok (.iconst 0, 1) := DX8_mixes_3.2.2.2.2.1
theorem dX8_mixes_63 : decode cX8_mixes 63 = .ok (.isub, 1) := DX8_mixes_3.2.2.2.2.2.1
theorem dX8_mixes_64 : decode cX8_mixes 64 = .ok (.i2l, 1) := DX8_mixes_3.2.2.2.2.2.2.1
theorem dX8_mixes_65 : decode cX8_mixes 65 = .ok (.lmul, 1) := DX8_mixes_3.2.2.2.2.2.2.2.1
theorem dX8_mixes_66 : decode cX8_mixes 66 = .ok (.ldc2_w 180, 3) := DX8_mixes_3.2.2.2.2.2.2.2.2.1
theorem dX8_mixes_69 : decode cX8_mixes 69 = .ok (.invokestatic 60, 3) := DX8_mixes_3.2.2.2.2.2.2.2.2.2
set_option maxRecDepth 100000 in
theorem DX8_mixes_4 : decode cX8_mixes 72 = .ok (.ladd, 1) ∧ decode cX8_mixes 73 = .ok (.lstore_n 2, 1) ∧ decode cX8_mixes 74 = .ok (.lload 4, 2) ∧ decode cX8_mixes 76 = .ok (.lload 7, 2) ∧ decode cX8_mixes 78 = .ok (.bipush 100, 2) ∧ decode cX8_mixes 80 = .ok (.iload 9, 2) ∧ decode cX8_mixes 82 = .ok (.ifCond .ge 8, 3) ∧ decode cX8_mixes 85 = .ok (.iload 9, 2) ∧ decode cX8_mixes 87 = .ok (.goto 4, 3) ∧ decode cX8_mixes 90 = .ok (.iconst 0, 1) := by decide +kernel
theorem dX8_mixes_72 : decode cX8_mixes 72 = .ok (.ladd, 1) := DX8_mixes_4.1
theorem dX8_mixes_73 : decode cX8_mixes 73 = .ok (.lstore_n 2, 1) := DX8_mixes_4.2.1
theorem dX8_mixes_74 : decode cX8_mixes 74 = .ok (.lload 4, 2) := DX8_mixes_4.2.2.1
theorem dX8_mixes_76 : decode cX8_mixes 76 = .ok (.lload 7, 2) := DX8_mixes_4.2.2.2.1
theorem dX8_mixes_78 : decode cX8_mixes 78 = .ok (.bipush 100, 2) := DX8_mixes_4.2.2.2.2.1
theorem dX8_mixes_80 : decode cX8_mixes 80 = .ok (.iload 9, 2) := DX8_mixes_4.2.2.2.2.2.1
theorem dX8_mixes_82 : decode cX8_mixes 82 = .ok (.ifCond .ge 8, 3) := DX8_mixes_4.2.2.2.2.2.2.1
theorem dX8_mixes_85 : decode cX8_mixes 85 = .ok (.iload 9, 2) := DX8_mixes_4.2.2.2.2.2.2.2.1
theorem dX8_mixes_87 : decode cX8_mixes 87 = .ok (.goto 4, 3) := DX8_mixes_4.2.2.2.2.2.2.2.2.1
theorem dX8_mixes_90 : decode cX8_mixes 90 = .ok (.iconst 0, 1) := DX8_mixes_4.2.2.2.2.2.2.2.2.2
set_option maxRecDepth 100000 in
theorem DX8_mixes_5 : decode cX8_mixes 91 = .ok (.iadd, 1) ∧ decode cX8_mixes 92 = .ok (.i2l, 1) ∧ decode cX8_mixes 93 = .ok (.lmul, 1) ∧ decode cX8_mixes 94 = .ok (.ldc2_w 180, 3) ∧ decode cX8_mixes 97 = .ok (.invokestatic 60, 3) ∧ decode cX8_mixes 100 = .ok (.ladd, 1) ∧ decode cX8_mixes 101 = .ok (.lstore 4, 2) ∧ decode cX8_mixes 103 = .ok (.iinc 6 1, 3) ∧ decode cX8_mixes 106 = .ok (.goto (-98), 3) ∧ decode cX8_mixes 109 = .ok (.aload_n 0, 1) := by decide +kernel
theorem dX8_mixes_91 : decode cX8_mixes 91 = .ok (.iadd, 1) := DX8_mixes_5.1
theorem dX8_mixes_92 : decode cX8_mixes 92 = .ok (.i2l, 1) := DX8_mixes_5.2.1
theorem dX8_mixes_93 : decode cX8_mixes 93 = .ok (.lmul, 1) := DX8_mixes_5.2.2.1
theorem dX8_mixes_94 : decode cX8_mixes 94 = .ok (.ldc2_w 180, 3) := DX8_mixes_5.2.2.2.1
theorem dX8_mixes_97 : decode cX8_mixes 97 = .ok (.invokestatic 60, 3) := DX8_mixes_5.2.2.2.2.1
theorem dX8_mixes_100 : decode cX8_mixes 100 = .ok (.ladd, 1) := DX8_mixes_5.2.2.2.2.2.1
theorem dX8_mixes_101 : decode cX8_mixes 101 = .ok (.lstore 4, 2) := DX8_mixes_5.2.2.2.2.2.2.1
theorem dX8_mixes_103 : decode cX8_mixes 103 = .ok (.iinc 6 1, 3) := DX8_mixes_5.2.2.2.2.2.2.2.1
theorem dX8_mixes_106 : decode cX8_mixes 106 = .ok (.goto (-98), 3) := DX8_mixes_5.2.2.2.2.2.2.2.2.1
theorem dX8_mixes_109 : decode cX8_mixes 109 = .ok (.aload_n 0, 1) := DX8_mixes_5.2.2.2.2.2.2.2.2.2
set_option maxRecDepth 100000 in
theorem DX8_mixes_6 : decode cX8_mixes 110 = .ok (.iconst 0, 1) ∧ decode cX8_mixes 111 = .ok (.putfield 216, 3) ∧ decode cX8_mixes 114 = .ok (.aload_n 0, 1) ∧ decode cX8_mixes 115 = .ok (.aload_n 0, 1) ∧ decode cX8_mixes 116 = .ok (.lload_n 2, 1) ∧ decode cX8_mixes 117 = .ok (.aload_n 0, 1) ∧ decode cX8_mixes 118 = .ok (.getfield 7, 3) ∧ decode cX8_mixes 121 = .ok (.iconst 3, 1) ∧ decode cX8_mixes 122 = .ok (.iaload, 1) ∧ decode cX8_mixes 123 = .ok (.invokestatic 164, 3) := by decide +kernel
theorem dX8_mixes_110 : decode cX8_mixes 110 = .ok (.iconst 0, 1) := DX8_mixes_6.1
theorem dX8_mixes_111 : decode cX8_mixes 111 = .ok (.putfield 216, 3) := DX8_mixes_6.2.1
theorem dX8_mixes_114 : decode cX8_mixes 114 = .ok (.aload_n 0, 1) := DX8_mixes_6.2.2.1
theorem dX8_mixes_115 : decode cX8_mixes 115 = .ok (.aload_n 0, 1) := DX8_mixes_6.2.2.2.1
theorem dX8_mixes_116 : decode cX8_mixes 116 = .ok (.lload_n 2, 1) := DX8_mixes_6.2.2.2.2.1
theorem dX8_mixes_117 : decode cX8_mixes 117 = .ok (.aload_n 0, 1) := DX8_mixes_6.2.2.2.2.2.1
theorem dX8_mixes_118 : decode cX8_mixes 118 = .ok (.getfield 7, 3) := DX8_mixes_6.2.2.2.2.2.2.1
theorem dX8_mixes_121 : decode cX8_mixes 121 = .ok (.iconst 3, 1) := DX8_mixes_6.2.2.2.2.2.2.2.1
theorem dX8_mixes_122 : decode cX8_mixes 122 = .ok (.iaload, 1) := DX8_mixes_6.2.2.2.2.2.2.2.2.1
theorem dX8_mixes_123 : decode cX8_mixes 123 = .ok (.invokestatic 164, 3) := DX8_mixes_6.2.2.2.2.2.2.2.2.2
set_option maxRecDepth 100000 in
theorem DX8_mixes_7 : decode cX8_mixes 126 = .ok (.invokevirtual 219, 3) ∧ decode cX8_mixes 129 = .ok (.putfield 222, 3) ∧ decode cX8_mixes 132 = .ok (.aload_n 0, 1) ∧ decode cX8_mixes 133 = .ok (.aload_n 0, 1) ∧ decode cX8_mixes 134 = .ok (.lload 4, 2) ∧ decode cX8_mixes 136 = .ok (.aload_n 0, 1) ∧ decode cX8_mixes 137 = .ok (.getfield 7, 3) ∧ decode cX8_mixes 140 = .ok (.iconst 3, 1) ∧ decode cX8_mixes 141 = .ok (.iaload, 1) ∧ decode cX8_mixes 142 = .ok (.invokestatic 164, 3) := by decide +kernel
theorem dX8_mixes_126 : decode cX8_mixes 126 = .ok (.invokevirtual 219, 3) := DX8_mixes_7.1
theorem dX8_mixes_129 : decode cX8_mixes 129 = .ok (.putfield 222, 3) := DX8_mixes_7.2.1
theorem dX8_mixes_132 : decode cX8_mixes 132 = .ok (.aload_n 0, 1) := DX8_mixes_7.2.2.1
theorem dX8_mixes_133 : decode cX8_mixes 133 = .ok (.aload_n 0, 1) := DX8_mixes_7.2.2.2.1
theorem dX8_mixes_134 : decode cX8_mixes 134 = .ok (.lload 4, 2) := DX8_mixes_7.2.2.2.2.1
theorem dX8_mixes_136 : decode cX8_mixes 136 = .ok (.aload_n 0, 1) := DX8_mixes_7.2.2.2.2.2.1
theorem dX8_mixes_137 : decode cX8_mixes 137 = .ok (.getfield 7, 3) := DX8_mixes_7.2.2.2.2.2.2.1
theorem dX8_mixes_140 : decode cX8_mixes 140 = .ok (.iconst 3, 1) := DX8_mixes_7.2.2.2.2.2.2.2.1
theorem dX8_mixes_141 : decode cX8_mixes 141 = .ok (.iaload, 1) := DX8_mixes_7.2.2.2.2.2.2.2.2.1
theorem dX8_mixes_142 : decode cX8_mixes 142 = .ok (.invokestatic 164, 3) := DX8_mixes_7.2.2.2.2.2.2.2.2.2
set_option maxRecDepth 100000 in
theorem DX8_mixes_8 : decode cX8_mixes 145 = .ok (.invokevirtual 219, 3) ∧ decode cX8_mixes 148 = .ok (.putfield 225, 3) ∧ decode cX8_mixes 151 = .ok (.return_, 1) := by decide +kernel
theorem dX8_mixes_145 : decode cX8_mixes 145 = .ok (.invokevirtual 219, 3) := DX8_mixes_8.1
theorem dX8_mixes_148 : decode cX8_mixes 148 = .ok (.putfield 225, 3) := DX8_mixes_8.2.1
theorem dX8_mixes_151 : decode cX8_mixes 151 = .ok (.return_, 1) := DX8_mixes_8.2.2
set_option maxRecDepth 100000 in
theorem DX8_setMaster_0 : decode cX8_setMaster 0 = .ok (.aload_n 0, 1) ∧ decode cX8_setMaster 1 = .ok (.iload_n 1, 1) ∧ decode cX8_setMaster 2 = .ok (.i2l, 1) ∧ decode cX8_setMaster 3 = .ok (.lconst 0, 1) ∧ decode cX8_setMaster 4 = .ok (.ldc2_w 117, 3) ∧ decode cX8_setMaster 7 = .ok (.invokestatic 45, 3) ∧ decode cX8_setMaster 10 = .ok (.ifCond .eq 7, 3) ∧ decode cX8_setMaster 13 = .ok (.iconst 0, 1) ∧ decode cX8_setMaster 14 = .ok (.goto 4, 3) ∧ decode cX8_setMaster 17 = .ok (.iconst 1, 1) := by decide +kernel
theorem dX8_setMaster_0 : decode cX8_setMaster 0 = .ok (.aload_n 0, 1) := DX8_setMaster_0.1
theorem dX8_setMaster_1 : decode cX8_setMaster 1 = .ok (.iload_n 1, 1) := DX8_setMaster_0.2.1
theorem dX8_setMaster_2 : decode cX8_setMaster 2 = .ok (.i2l, 1) := DX8_setMaster_0.2.2.1
theorem dX8_setMaster_3 : decode cX8_setMaster 3 = .ok (.lconst 0, 1) := DX8_setMaster_0.2.2.2.1
theorem dX8_setMaster_4 : decode cX8_setMaster 4 = .ok (.ldc2_w 117, 3) := DX8_setMaster_0.2.2.2.2.1
theorem dX8_setMaster_7 : decode cX8_setMaster 7 = .ok (.invokestatic 45, 3) := DX8_setMaster_0.2.2.2.2.2.1
theorem dX8_setMaster_10 : decode cX8_setMaster 10 = .ok (.ifCond .eq 7, 3) := DX8_setMaster_0.2.2.2.2.2.2.1
theorem dX8_setMaster_13 : decode cX8_setMaster 13 = .ok (.iconst 0, 1) := DX8_setMaster_0.2.2.2.2.2.2.2.1
theorem dX8_setMaster_14 : decode cX8_setMaster 14 = .ok (.goto 4, 3) := DX8_setMaster_0.2.2.2.2.2.2.2.2.1
theorem dX8_setMaster_17 : decode cX8_setMaster 17 = .ok (.iconst 1, 1) := DX8_setMaster_0.2.2.2.2.2.2.2.2.2
set_option maxRecDepth 100000 in
theorem DX8_setMaster_1 : decode cX8_setMaster 18 = .ok (.invokevirtual 73, 3) ∧ decode cX8_setMaster 21 = .ok (.ifCond .eq 7, 3) ∧ decode cX8_setMaster 24 = .ok (.iconst 0, 1) ∧ decode cX8_setMaster 25 = .ok (.goto 9, 3) ∧ decode cX8_setMaster 28 = .ok (.aload_n 0, 1) ∧ decode cX8_setMaster 29 = .ok (.iconst 3, 1) ∧ decode cX8_setMaster 30 = .ok (.iload_n 1, 1) ∧ decode cX8_setMaster 31 = .ok (.invokevirtual 76, 3) ∧ decode cX8_setMaster 34 = .ok (.ireturn, 1) := by decide +kernel
theorem dX8_setMaster_18 : decode cX8_setMaster 18 = .ok (.invokevirtual 73, 3) := DX8_setMaster_1.1
theorem dX8_setMaster_21 : decode cX8_setMaster 21 = .ok (.ifCond .eq 7, 3) := DX8_setMaster_1.2.1
theorem dX8_setMaster_24 : decode cX8_setMaster 24 = .ok (.iconst 0, 1) := DX8_setMaster_1.2.2.1
theorem dX8_setMaster_25 : decode cX8_setMaster 25 = .ok (.goto 9, 3) := DX8_setMaster_1.2.2.2.1
theorem dX8_setMaster_28 : decode cX8_setMaster 28 = .ok (.aload_n 0, 1) := DX8_setMaster_1.2.2.2.2.1
theorem dX8_setMaster_29 : decode cX8_setMaster 29 = .ok (.iconst 3, 1) := DX8_setMaster_1.2.2.2.2.2.1
theorem dX8_setMaster_30 : decode cX8_setMaster 30 = .ok (.iload_n 1, 1) := DX8_setMaster_1.2.2.2.2.2.2.1
theorem dX8_setMaster_31 : decode cX8_setMaster 31 = .ok (.invokevirtual 76, 3) := DX8_setMaster_1.2.2.2.2.2.2.2.1
theorem dX8_setMaster_34 : decode cX8_setMaster 34 = .ok (.ireturn, 1) := DX8_setMaster_1.2.2.2.2.2.2.2.2
set_option maxRecDepth 100000 in
theorem DX8_mix_0 : decode cX8_mix 0 = .ok (.aload_n 0, 1) ∧ decode cX8_mix 1 = .ok (.iload_n 1, 1) ∧ decode cX8_mix 2 = .ok (.invokestatic 114, 3) ∧ decode cX8_mix 5 = .ok (.ifCond .eq 7, 3) ∧ decode cX8_mix 8 = .ok (.iconst 0, 1) ∧ decode cX8_mix 9 = .ok (.goto 4, 3) ∧ decode cX8_mix 12 = .ok (.iconst 1, 1) ∧ decode cX8_mix 13 = .ok (.invokevirtual 51, 3) ∧ decode cX8_mix 16 = .ok (.ifCond .eq 5, 3) ∧ decode cX8_mix 19 = .ok (.iconst 0, 1) := by decide +kernel
theorem dX8_mix_0 : decode cX8_mix 0 = .ok (.aload_n 0, 1) := DX8_mix_0.1
theorem dX8_mix_1 : decode cX8_mix 1 = .ok (.iload_n 1, 1) := DX8_mix_0.2.1
theorem dX8_mix_2 : decode cX8_mix 2 = .ok (.invokestatic 114, 3) := DX8_mix_0.2.2.1
theorem dX8_mix_5 : decode cX8_mix 5 = .ok (.ifCond .eq 7, 3) := DX8_mix_0.2.2.2.1
theorem dX8_mix_8 : decode cX8_mix 8 = .ok (.iconst 0, 1) := DX8_mix_0.2.2.2.2.1
theorem dX8_mix_9 : decode cX8_mix 9 = .ok (.goto 4, 3) := DX8_mix_0.2.2.2.2.2.1
theorem dX8_mix_12 : decode cX8_mix 12 = .ok (.iconst 1, 1) := DX8_mix_0.2.2.2.2.2.2.1
theorem dX8_mix_13 : decode cX8_mix 13 = .ok (.invokevirtual 51, 3) := DX8_mix_0.2.2.2.2.2.2.2.1
theorem dX8_mix_16 : decode cX8_mix 16 = .ok (.ifCond .eq 5, 3) := DX8_mix_0.2.2.2.2.2.2.2.2.1
theorem dX8_mix_19 : decode cX8_mix 19 = .ok (.iconst 0, 1) := DX8_mix_0.2.2.2.2.2.2.2.2.2
set_option maxRecDepth 100000 in
theorem DX8_mix_1 : decode cX8_mix 20 = .ok (.ireturn, 1) ∧ decode cX8_mix 21 = .ok (.aload_n 0, 1) ∧ decode cX8_mix 22 = .ok (.iload_n 1, 1) ∧ decode cX8_mix 23 = .ok (.bipush 40, 2) ∧ decode cX8_mix 25 = .ok (.idiv, 1) ∧ decode cX8_mix 26 = .ok (.invokevirtual 228, 3) ∧ decode cX8_mix 29 = .ok (.aload_n 0, 1) ∧ decode cX8_mix 30 = .ok (.iload_n 1, 1) ∧ decode cX8_mix 31 = .ok (.invokevirtual 231, 3) ∧ decode cX8_mix 34 = .ok (.iload_n 2, 1) := by decide +kernel
theorem dX8_mix_20 : decode cX8_mix 20 = .ok (.ireturn, 1) := DX8_mix_1.1
theorem dX8_mix_21 : decode cX8_mix 21 = .ok (.aload_n 0, 1) := DX8_mix_1.2.1
theorem dX8_mix_22 : decode cX8_mix 22 = .ok (.iload_n 1, 1) := DX8_mix_1.2.2.1
theorem dX8_mix_23 : decode cX8_mix 23 = .ok (.bipush 40, 2) := DX8_mix_1.2.2.2.1
theorem dX8_mix_25 : decode cX8_mix 25 = .ok (.idiv, 1) := DX8_mix_1.2.2.2.2.1
theorem dX8_mix_26 : decode cX8_mix 26 = .ok (.invokevirtual 228, 3) := DX8_mix_1.2.2.2.2.2.1
theorem dX8_mix_29 : decode cX8_mix 29 = .ok (.aload_n 0, 1) := DX8_mix_1.2.2.2.2.2.2.1
theorem dX8_mix_30 : decode cX8_mix 30 = .ok (.iload_n 1, 1) := DX8_mix_1.2.2.2.2.2.2.2.1
theorem dX8_mix_31 : decode cX8_mix 31 = .ok (.invokevirtual 231, 3) := DX8_mix_1.2.2.2.2.2.2.2.2.1
theorem dX8_mix_34 : decode cX8_mix 34 = .ok (.iload_n 2, 1) := DX8_mix_1.2.2.2.2.2.2.2.2.2
set_option maxRecDepth 100000 in
theorem DX8_mix_2 : decode cX8_mix 35 = .ok (.ifCond .eq 10, 3) ∧ decode cX8_mix 38 = .ok (.aload_n 0, 1) ∧ decode cX8_mix 39 = .ok (.getfield 225, 3) ∧ decode cX8_mix 42 = .ok (.goto 7, 3) ∧ decode cX8_mix 45 = .ok (.aload_n 0, 1) ∧ decode cX8_mix 46 = .ok (.getfield 222, 3) ∧ decode cX8_mix 49 = .ok (.ireturn, 1) := by decide +kernel
theorem dX8_mix_35 : decode cX8_mix 35 = .ok (.ifCond .eq 10, 3) := DX8_mix_2.1
theorem dX8_mix_38 : decode cX8_mix 38 = .ok (.aload_n 0, 1) := DX8_mix_2.2.1
theorem dX8_mix_39 : decode cX8_mix 39 = .ok (.getfield 225, 3) := DX8_mix_2.2.2.1
theorem dX8_mix_42 : decode cX8_mix 42 = .ok (.goto 7, 3) := DX8_mix_2.2.2.2.1
theorem dX8_mix_45 : decode cX8_mix 45 = .ok (.aload_n 0, 1) := DX8_mix_2.2.2.2.2.1
theorem dX8_mix_46 : decode cX8_mix 46 = .ok (.getfield 222, 3) := DX8_mix_2.2.2.2.2.2.1
theorem dX8_mix_49 : decode cX8_mix 49 = .ok (.ireturn, 1) := DX8_mix_2.2.2.2.2.2.2
set_option maxRecDepth 100000 in
theorem DX8_setLoop_0 : decode cX8_setLoop 0 = .ok (.aload_n 0, 1) ∧ decode cX8_setLoop 1 = .ok (.iload_n 2, 1) ∧ decode cX8_setLoop 2 = .ok (.i2l, 1) ∧ decode cX8_setLoop 3 = .ok (.lconst 1, 1) ∧ decode cX8_setLoop 4 = .ok (.ldc2_w 68, 3) ∧ decode cX8_setLoop 7 = .ok (.invokestatic 45, 3) ∧ decode cX8_setLoop 10 = .ok (.ifCond .eq 20, 3) ∧ decode cX8_setLoop 13 = .ok (.iload_n 1, 1) ∧ decode cX8_setLoop 14 = .ok (.i2l, 1) ∧ decode cX8_setLoop 15 = .ok (.lconst 0, 1) := by decide +kernel
theorem dX8_setLoop_0 : decode cX8_setLoop 0 = .ok (.aload_n 0, 1) := DX8_setLoop_0.1
theorem dX8_setLoop_1 : decode cX8_setLoop 1 = .ok (.iload_n 2, 1) := DX8_setLoop_0.2.1
theorem dX8_setLoop_2 : decode cX8_setLoop 2 = .ok (.i2l, 1) := DX8_setLoop_0.2.2.1
theorem dX8_setLoop_3 : decode cX8_setLoop 3 = .ok (.lconst 1, 1) := DX8_setLoop_0.2.2.2.1
theorem dX8_setLoop_4 : decode cX8_setLoop 4 = .ok (.ldc2_w 68, 3) := DX8_setLoop_0.2.2.2.2.1
theorem dX8_setLoop_7 : decode cX8_setLoop 7 = .ok (.invokestatic 45, 3) := DX8_setLoop_0.2.2.2.2.2.1
theorem dX8_setLoop_10 : decode cX8_setLoop 10 = .ok (.ifCond .eq 20, 3) := DX8_setLoop_0.2.2.2.2.2.2.1
theorem dX8_setLoop_13 : decode cX8_setLoop 13 = .ok (.iload_n 1, 1) := DX8_setLoop_0.2.2.2.2.2.2.2.1
theorem dX8_setLoop_14 : decode cX8_setLoop 14 = .ok (.i2l, 1) := DX8_setLoop_0.2.2.2.2.2.2.2.2.1
theorem dX8_setLoop_15 : decode cX8_setLoop 15 = .ok (.lconst 0, 1) := DX8_setLoop_0.2.2.2.2.2.2.2.2.2
set_option maxRecDepth 100000 in
theorem DX8_setLoop_1 : decode cX8_setLoop 16 = .ok (.iload_n 2, 1) ∧ decode cX8_setLoop 17 = .ok (.iconst 1, 1) ∧ decode cX8_setLoop 18 = .ok (.isub, 1) ∧ decode cX8_setLoop 19 = .ok (.i2l, 1) ∧ decode cX8_setLoop 20 = .ok (.invokestatic 45, 3) ∧ decode cX8_setLoop 23 = .ok (.ifCond .eq 7, 3) ∧ decode cX8_setLoop 26 = .ok (.iconst 0, 1) ∧ decode cX8_setLoop 27 = .ok (.goto 4, 3) ∧ decode cX8_setLoop 30 = .ok (.iconst 1, 1) ∧ decode cX8_setLoop 31 = .ok (.invokevirtual 73, 3) := by decide +kernel
theorem dX8_setLoop_16 : decode cX8_setLoop 16 = .ok (.iload_n 2, 1) := DX8_setLoop_1.1
theorem dX8_setLoop_17 : decode cX8_setLoop 17 = .ok (.iconst 1, 1) := DX8_setLoop_1.2.1
theorem dX8_setLoop_18 : decode cX8_setLoop 18 = .ok (.isub, 1) := DX8_setLoop_1.2.2.1
theorem dX8_setLoop_19 : decode cX8_setLoop 19 = .ok (.i2l, 1) := DX8_setLoop_1.2.2.2.1
theorem dX8_setLoop_20 : decode cX8_setLoop 20 = .ok (.invokestatic 45, 3) := DX8_setLoop_1.2.2.2.2.1
theorem dX8_setLoop_23 : decode cX8_setLoop 23 = .ok (.ifCond .eq 7, 3) := DX8_setLoop_1.2.2.2.2.2.1
theorem dX8_setLoop_26 : decode cX8_setLoop 26 = .ok (.iconst 0, 1) := DX8_setLoop_1.2.2.2.2.2.2.1
theorem dX8_setLoop_27 : decode cX8_setLoop 27 = .ok (.goto 4, 3) := DX8_setLoop_1.2.2.2.2.2.2.2.1
theorem dX8_setLoop_30 : decode cX8_setLoop 30 = .ok (.iconst 1, 1) := DX8_setLoop_1.2.2.2.2.2.2.2.2.1
theorem dX8_setLoop_31 : decode cX8_setLoop 31 = .ok (.invokevirtual 73, 3) := DX8_setLoop_1.2.2.2.2.2.2.2.2.2
set_option maxRecDepth 100000 in
theorem DX8_setLoop_2 : decode cX8_setLoop 34 = .ok (.ifCond .eq 5, 3) ∧ decode cX8_setLoop 37 = .ok (.iconst 0, 1) ∧ decode cX8_setLoop 38 = .ok (.ireturn, 1) ∧ decode cX8_setLoop 39 = .ok (.aload_n 0, 1) ∧ decode cX8_setLoop 40 = .ok (.getfield 7, 3) ∧ decode cX8_setLoop 43 = .ok (.iconst 2, 1) ∧ decode cX8_setLoop 44 = .ok (.iload_n 2, 1) ∧ decode cX8_setLoop 45 = .ok (.iastore, 1) ∧ decode cX8_setLoop 46 = .ok (.aload_n 0, 1) ∧ decode cX8_setLoop 47 = .ok (.iconst 1, 1) := by decide +kernel
theorem dX8_setLoop_34 : decode cX8_setLoop 34 = .ok (.ifCond .eq 5, 3) := DX8_setLoop_2.1
theorem dX8_setLoop_37 : decode cX8_setLoop 37 = .ok (.iconst 0, 1) := DX8_setLoop_2.2.1
theorem dX8_setLoop_38 : decode cX8_setLoop 38 = .ok (.ireturn, 1) := DX8_setLoop_2.2.2.1
theorem dX8_setLoop_39 : decode cX8_setLoop 39 = .ok (.aload_n 0, 1) := DX8_setLoop_2.2.2.2.1
theorem dX8_setLoop_40 : decode cX8_setLoop 40 = .ok (.getfield 7, 3) := DX8_setLoop_2.2.2.2.2.1
theorem dX8_setLoop_43 : decode cX8_setLoop 43 = .ok (.iconst 2, 1) := DX8_setLoop_2.2.2.2.2.2.1
theorem dX8_setLoop_44 : decode cX8_setLoop 44 = .ok (.iload_n 2, 1) := DX8_setLoop_2.2.2.2.2.2.2.1
theorem dX8_setLoop_45 : decode cX8_setLoop 45 = .ok (.iastore, 1) := DX8_setLoop_2.2.2.2.2.2.2.2.1
theorem dX8_setLoop_46 : decode cX8_setLoop 46 = .ok (.aload_n 0, 1) := DX8_setLoop_2.2.2.2.2.2.2.2.2.1
theorem dX8_setLoop_47 : decode cX8_setLoop 47 = .ok (.iconst 1, 1) := DX8_setLoop_2.2.2.2.2.2.2.2.2.2
set_option maxRecDepth 100000 in
theorem DX8_setLoop_3 : decode cX8_setLoop 48 = .ok (.iload_n 1, 1) ∧ decode cX8_setLoop 49 = .ok (.invokevirtual 76, 3) ∧ decode cX8_setLoop 52 = .ok (.ireturn, 1) := by decide +kernel
theorem dX8_setLoop_48 : decode cX8_setLoop 48 = .ok (.iload_n 1, 1) := DX8_setLoop_3.1
theorem dX8_setLoop_49 : decode cX8_setLoop 49 = .ok (.invokevirtual 76, 3) := DX8_setLoop_3.2.1
theorem dX8_setLoop_52 : decode cX8_setLoop 52 = .ok (.ireturn, 1) := DX8_setLoop_3.2.2
set_option maxRecDepth 100000 in
theorem DX8_seek_0 : decode cX8_seek 0 = .ok (.aload_n 0, 1) ∧ decode cX8_seek 1 = .ok (.iload_n 1, 1) ∧ decode cX8_seek 2 = .ok (.invokestatic 114, 3) ∧ decode cX8_seek 5 = .ok (.ifCond .eq 7, 3) ∧ decode cX8_seek 8 = .ok (.iconst 0, 1) ∧ decode cX8_seek 9 = .ok (.goto 4, 3) ∧ decode cX8_seek 12 = .ok (.iconst 1, 1) ∧ decode cX8_seek 13 = .ok (.invokevirtual 73, 3) ∧ decode cX8_seek 16 = .ok (.ifCond .eq 7, 3) ∧ decode cX8_seek 19 = .ok (.iconst 0, 1) := by decide +kernel
theorem dX8_seek_0 : decode cX8_seek 0 = .ok (.aload_n 0, 1) := DX8_seek_0.1
theorem dX8_seek_1 : decode cX8_seek 1 = .ok (.iload_n 1, 1) := DX8_seek_0.2.1
theorem dX8_seek_2 : decode cX8_seek 2 = .ok (.invokestatic 114, 3) := DX8_seek_0.2.2.1
theorem dX8_seek_5 : decode cX8_seek 5 = .ok (.ifCond .eq 7, 3) := DX8_seek_0.2.2.2.1
theorem dX8_seek_8 : decode cX8_seek 8 = .ok (.iconst 0, 1) := DX8_seek_0.2.2.2.2.1
theorem dX8_seek_9 : decode cX8_seek 9 = .ok (.goto 4, 3) := DX8_seek_0.2.2.2.2.2.1
theorem dX8_seek_12 : decode cX8_seek 12 = .ok (.iconst 1, 1) := DX8_seek_0.2.2.2.2.2.2.1
theorem dX8_seek_13 : decode cX8_seek 13 = .ok (.invokevirtual 73, 3) := DX8_seek_0.2.2.2.2.2.2.2.1
theorem dX8_seek_16 : decode cX8_seek 16 = .ok (.ifCond .eq 7, 3) := DX8_seek_0.2.2.2.2.2.2.2.2.1
theorem dX8_seek_19 : decode cX8_seek 19 = .ok (.iconst 0, 1) := DX8_seek_0.2.2.2.2.2.2.2.2.2
set_option maxRecDepth 100000 in
theorem DX8_seek_1 : decode cX8_seek 20 = .ok (.goto 9, 3) ∧ decode cX8_seek 23 = .ok (.aload_n 0, 1) ∧ decode cX8_seek 24 = .ok (.iconst 0, 1) ∧ decode cX8_seek 25 = .ok (.iload_n 1, 1) ∧ decode cX8_seek 26 = .ok (.invokevirtual 76, 3) ∧ decode cX8_seek 29 = .ok (.ireturn, 1) := by decide +kernel
theorem dX8_seek_20 : decode cX8_seek 20 = .ok (.goto 9, 3) := DX8_seek_1.1
theorem dX8_seek_23 : decode cX8_seek 23 = .ok (.aload_n 0, 1) := DX8_seek_1.2.1
theorem dX8_seek_24 : decode cX8_seek 24 = .ok (.iconst 0, 1) := DX8_seek_1.2.2.1
theorem dX8_seek_25 : decode cX8_seek 25 = .ok (.iload_n 1, 1) := DX8_seek_1.2.2.2.1
theorem dX8_seek_26 : decode cX8_seek 26 = .ok (.invokevirtual 76, 3) := DX8_seek_1.2.2.2.2.1
theorem dX8_seek_29 : decode cX8_seek 29 = .ok (.ireturn, 1) := DX8_seek_1.2.2.2.2.2
set_option maxRecDepth 100000 in
theorem DX8_renders_0 : decode cX8_renders 0 = .ok (.aload_n 0, 1) ∧ decode cX8_renders 1 = .ok (.aload_n 0, 1) ∧ decode cX8_renders 2 = .ok (.getfield 7, 3) ∧ decode cX8_renders 5 = .ok (.iconst 0, 1) ∧ decode cX8_renders 6 = .ok (.iaload, 1) ∧ decode cX8_renders 7 = .ok (.invokevirtual 231, 3) ∧ decode cX8_renders 10 = .ok (.aload_n 0, 1) ∧ decode cX8_renders 11 = .ok (.getfield 222, 3) ∧ decode cX8_renders 14 = .ok (.ifCond .ge 11, 3) ∧ decode cX8_renders 17 = .ok (.aload_n 0, 1) := by decide +kernel
theorem dX8_renders_0 : decode cX8_renders 0 = .ok (.aload_n 0, 1) := DX8_renders_0.1
theorem dX8_renders_1 : decode cX8_renders 1 = .ok (.aload_n 0, 1) := DX8_renders_0.2.1
theorem dX8_renders_2 : decode cX8_renders 2 = .ok (.getfield 7, 3) := DX8_renders_0.2.2.1
theorem dX8_renders_5 : decode cX8_renders 5 = .ok (.iconst 0, 1) := DX8_renders_0.2.2.2.1
theorem dX8_renders_6 : decode cX8_renders 6 = .ok (.iaload, 1) := DX8_renders_0.2.2.2.2.1
theorem dX8_renders_7 : decode cX8_renders 7 = .ok (.invokevirtual 231, 3) := DX8_renders_0.2.2.2.2.2.1
theorem dX8_renders_10 : decode cX8_renders 10 = .ok (.aload_n 0, 1) := DX8_renders_0.2.2.2.2.2.2.1
theorem dX8_renders_11 : decode cX8_renders 11 = .ok (.getfield 222, 3) := DX8_renders_0.2.2.2.2.2.2.2.1
theorem dX8_renders_14 : decode cX8_renders 14 = .ok (.ifCond .ge 11, 3) := DX8_renders_0.2.2.2.2.2.2.2.2.1
theorem dX8_renders_17 : decode cX8_renders 17 = .ok (.aload_n 0, 1) := DX8_renders_0.2.2.2.2.2.2.2.2.2
set_option maxRecDepth 100000 in
theorem DX8_renders_1 : decode cX8_renders 18 = .ok (.getfield 222, 3) ∧ decode cX8_renders 21 = .ok (.ineg, 1) ∧ decode cX8_renders 22 = .ok (.goto 7, 3) ∧ decode cX8_renders 25 = .ok (.aload_n 0, 1) ∧ decode cX8_renders 26 = .ok (.getfield 222, 3) ∧ decode cX8_renders 29 = .ok (.istore_n 1, 1) ∧ decode cX8_renders 30 = .ok (.aload_n 0, 1) ∧ decode cX8_renders 31 = .ok (.getfield 225, 3) ∧ decode cX8_renders 34 = .ok (.ifCond .ge 11, 3) ∧ decode cX8_renders 37 = .ok (.aload_n 0, 1) := by decide +kernel
theorem dX8_renders_18 : decode cX8_renders 18 = .ok (.getfield 222, 3) := DX8_renders_1.1
theorem dX8_renders_21 : decode cX8_renders 21 = .ok (.ineg, 1) := DX8_renders_1.2.1
theorem dX8_renders_22 : decode cX8_renders 22 = .ok (.goto 7, 3) := DX8_renders_1.2.2.1
theorem dX8_renders_25 : decode cX8_renders 25 = .ok (.aload_n 0, 1) := DX8_renders_1.2.2.2.1
theorem dX8_renders_26 : decode cX8_renders 26 = .ok (.getfield 222, 3) := DX8_renders_1.2.2.2.2.1
theorem dX8_renders_29 : decode cX8_renders 29 = .ok (.istore_n 1, 1) := DX8_renders_1.2.2.2.2.2.1
theorem dX8_renders_30 : decode cX8_renders 30 = .ok (.aload_n 0, 1) := DX8_renders_1.2.2.2.2.2.2.1
theorem dX8_renders_31 : decode cX8_renders 31 = .ok (.getfield 225, 3) := DX8_renders_1.2.2.2.2.2.2.2.1
theorem dX8_renders_34 : decode cX8_renders 34 = .ok (.ifCond .ge 11, 3) := DX8_renders_1.2.2.2.2.2.2.2.2.1
theorem dX8_renders_37 : decode cX8_renders 37 = .ok (.aload_n 0, 1) := DX8_renders_1.2.2.2.2.2.2.2.2.2
set_option maxRecDepth 100000 in
theorem DX8_renders_2 : decode cX8_renders 38 = .ok (.getfield 225, 3) ∧ decode cX8_renders 41 = .ok (.ineg, 1) ∧ decode cX8_renders 42 = .ok (.goto 7, 3) ∧ decode cX8_renders 45 = .ok (.aload_n 0, 1) ∧ decode cX8_renders 46 = .ok (.getfield 225, 3) ∧ decode cX8_renders 49 = .ok (.istore_n 2, 1) ∧ decode cX8_renders 50 = .ok (.aload_n 0, 1) ∧ decode cX8_renders 51 = .ok (.getfield 7, 3) ∧ decode cX8_renders 54 = .ok (.iconst 4, 1) ∧ decode cX8_renders 55 = .ok (.dup2, 1) := by decide +kernel
theorem dX8_renders_38 : decode cX8_renders 38 = .ok (.getfield 225, 3) := DX8_renders_2.1
theorem dX8_renders_41 : decode cX8_renders 41 = .ok (.ineg, 1) := DX8_renders_2.2.1
theorem dX8_renders_42 : decode cX8_renders 42 = .ok (.goto 7, 3) := DX8_renders_2.2.2.1
theorem dX8_renders_45 : decode cX8_renders 45 = .ok (.aload_n 0, 1) := DX8_renders_2.2.2.2.1
theorem dX8_renders_46 : decode cX8_renders 46 = .ok (.getfield 225, 3) := DX8_renders_2.2.2.2.2.1
theorem dX8_renders_49 : decode cX8_renders 49 = .ok (.istore_n 2, 1) := DX8_renders_2.2.2.2.2.2.1
theorem dX8_renders_50 : decode cX8_renders 50 = .ok (.aload_n 0, 1) := DX8_renders_2.2.2.2.2.2.2.1
theorem dX8_renders_51 : decode cX8_renders 51 = .ok (.getfield 7, 3) := DX8_renders_2.2.2.2.2.2.2.2.1
theorem dX8_renders_54 : decode cX8_renders 54 = .ok (.iconst 4, 1) := DX8_renders_2.2.2.2.2.2.2.2.2.1
theorem dX8_renders_55 : decode cX8_renders 55 = .ok (.dup2, 1) := DX8_renders_2.2.2.2.2.2.2.2.2.2
set_option maxRecDepth 100000 in
theorem DX8_renders_3 : decode cX8_renders 56 = .ok (.iaload, 1) ∧ decode cX8_renders 57 = .ok (.iconst 1, 1) ∧ decode cX8_renders 58 = .ok (.iadd, 1) ∧ decode cX8_renders 59 = .ok (.iastore, 1) ∧ decode cX8_renders 60 = .ok (.aload_n 0, 1) ∧ decode cX8_renders 61 = .ok (.getfield 7, 3) ∧ decode cX8_renders 64 = .ok (.iconst 5, 1) ∧ decode cX8_renders 65 = .ok (.iload_n 1, 1) ∧ decode cX8_renders 66 = .ok (.aload_n 0, 1) ∧ decode cX8_renders 67 = .ok (.getfield 7, 3) := by decide +kernel
theorem dX8_renders_56 : decode cX8_renders 56 = .ok (.iaload, 1) := DX8_renders_3.1
theorem dX8_renders_57 : decode cX8_renders 57 = .ok (.iconst 1, 1) := DX8_renders_3.2.1
theorem dX8_renders_58 : decode cX8_renders 58 = .ok (.iadd, 1) := DX8_renders_3.2.2.1
theorem dX8_renders_59 : decode cX8_renders 59 = .ok (.iastore, 1) := DX8_renders_3.2.2.2.1
theorem dX8_renders_60 : decode cX8_renders 60 = .ok (.aload_n 0, 1) := DX8_renders_3.2.2.2.2.1
theorem dX8_renders_61 : decode cX8_renders 61 = .ok (.getfield 7, 3) := DX8_renders_3.2.2.2.2.2.1
theorem dX8_renders_64 : decode cX8_renders 64 = .ok (.iconst 5, 1) := DX8_renders_3.2.2.2.2.2.2.1
theorem dX8_renders_65 : decode cX8_renders 65 = .ok (.iload_n 1, 1) := DX8_renders_3.2.2.2.2.2.2.2.1
theorem dX8_renders_66 : decode cX8_renders 66 = .ok (.aload_n 0, 1) := DX8_renders_3.2.2.2.2.2.2.2.2.1
theorem dX8_renders_67 : decode cX8_renders 67 = .ok (.getfield 7, 3) := DX8_renders_3.2.2.2.2.2.2.2.2.2
set_option maxRecDepth 100000 in
theorem DX8_renders_4 : decode cX8_renders 70 = .ok (.iconst 5, 1) ∧ decode cX8_renders 71 = .ok (.iaload, 1) ∧ decode cX8_renders 72 = .ok (.if_icmp .le 7, 3) ∧ decode cX8_renders 75 = .ok (.iload_n 1, 1) ∧ decode cX8_renders 76 = .ok (.goto 9, 3) ∧ decode cX8_renders 79 = .ok (.aload_n 0, 1) ∧ decode cX8_renders 80 = .ok (.getfield 7, 3) ∧ decode cX8_renders 83 = .ok (.iconst 5, 1) ∧ decode cX8_renders 84 = .ok (.iaload, 1) ∧ decode cX8_renders 85 = .ok (.iastore, 1) := by decide +kernel
theorem dX8_renders_70 : decode cX8_renders 70 = .ok (.iconst 5, 1) := DX8_renders_4.1
theorem dX8_renders_71 : decode cX8_renders 71 = .ok (.iaload, 1) := DX8_renders_4.2.1
theorem dX8_renders_72 : decode cX8_renders 72 = .ok (.if_icmp .le 7, 3) := DX8_renders_4.2.2.1
theorem dX8_renders_75 : decode cX8_renders 75 = .ok (.iload_n 1, 1) := DX8_renders_4.2.2.2.1
theorem dX8_renders_76 : decode cX8_renders 76 = .ok (.goto 9, 3) := DX8_renders_4.2.2.2.2.1
theorem dX8_renders_79 : decode cX8_renders 79 = .ok (.aload_n 0, 1) := DX8_renders_4.2.2.2.2.2.1
theorem dX8_renders_80 : decode cX8_renders 80 = .ok (.getfield 7, 3) := DX8_renders_4.2.2.2.2.2.2.1
theorem dX8_renders_83 : decode cX8_renders 83 = .ok (.iconst 5, 1) := DX8_renders_4.2.2.2.2.2.2.2.1
theorem dX8_renders_84 : decode cX8_renders 84 = .ok (.iaload, 1) := DX8_renders_4.2.2.2.2.2.2.2.2.1
theorem dX8_renders_85 : decode cX8_renders 85 = .ok (.iastore, 1) := DX8_renders_4.2.2.2.2.2.2.2.2.2
set_option maxRecDepth 100000 in
theorem DX8_renders_5 : decode cX8_renders 86 = .ok (.aload_n 0, 1) ∧ decode cX8_renders 87 = .ok (.getfield 7, 3) ∧ decode cX8_renders 90 = .ok (.bipush 6, 2) ∧ decode cX8_renders 92 = .ok (.iload_n 2, 1) ∧ decode cX8_renders 93 = .ok (.aload_n 0, 1) ∧ decode cX8_renders 94 = .ok (.getfield 7, 3) ∧ decode cX8_renders 97 = .ok (.bipush 6, 2) ∧ decode cX8_renders 99 = .ok (.iaload, 1) ∧ decode cX8_renders 100 = .ok (.if_icmp .le 7, 3) ∧ decode cX8_renders 103 = .ok (.iload_n 2, 1) := by decide +kernel
theorem dX8_renders_86 : decode cX8_renders 86 = .ok (.aload_n 0, 1) := DX8_renders_5.1
theorem dX8_renders_87 : decode cX8_renders 87 = .ok (.getfield 7, 3) := DX8_renders_5.2.1
theorem dX8_renders_90 : decode cX8_renders 90 = .ok (.bipush 6, 2) := DX8_renders_5.2.2.1
theorem dX8_renders_92 : decode cX8_renders 92 = .ok (.iload_n 2, 1) := DX8_renders_5.2.2.2.1
theorem dX8_renders_93 : decode cX8_renders 93 = .ok (.aload_n 0, 1) := DX8_renders_5.2.2.2.2.1
theorem dX8_renders_94 : decode cX8_renders 94 = .ok (.getfield 7, 3) := DX8_renders_5.2.2.2.2.2.1
theorem dX8_renders_97 : decode cX8_renders 97 = .ok (.bipush 6, 2) := DX8_renders_5.2.2.2.2.2.2.1
theorem dX8_renders_99 : decode cX8_renders 99 = .ok (.iaload, 1) := DX8_renders_5.2.2.2.2.2.2.2.1
theorem dX8_renders_100 : decode cX8_renders 100 = .ok (.if_icmp .le 7, 3) := DX8_renders_5.2.2.2.2.2.2.2.2.1
theorem dX8_renders_103 : decode cX8_renders 103 = .ok (.iload_n 2, 1) := DX8_renders_5.2.2.2.2.2.2.2.2.2
set_option maxRecDepth 100000 in
theorem DX8_renders_6 : decode cX8_renders 104 = .ok (.goto 10, 3) ∧ decode cX8_renders 107 = .ok (.aload_n 0, 1) ∧ decode cX8_renders 108 = .ok (.getfield 7, 3) ∧ decode cX8_renders 111 = .ok (.bipush 6, 2) ∧ decode cX8_renders 113 = .ok (.iaload, 1) ∧ decode cX8_renders 114 = .ok (.iastore, 1) ∧ decode cX8_renders 115 = .ok (.aload_n 0, 1) ∧ decode cX8_renders 116 = .ok (.getfield 7, 3) ∧ decode cX8_renders 119 = .ok (.bipush 7, 2) ∧ decode cX8_renders 121 = .ok (.dup2, 1) := by decide +kernel
theorem dX8_renders_104 : decode cX8_renders 104 = .ok (.goto 10, 3) := DX8_renders_6.1
theorem dX8_renders_107 : decode cX8_renders 107 = .ok (.aload_n 0, 1) := DX8_renders_6.2.1
theorem dX8_renders_108 : decode cX8_renders 108 = .ok (.getfield 7, 3) := DX8_renders_6.2.2.1
theorem dX8_renders_111 : decode cX8_renders 111 = .ok (.bipush 6, 2) := DX8_renders_6.2.2.2.1
theorem dX8_renders_113 : decode cX8_renders 113 = .ok (.iaload, 1) := DX8_renders_6.2.2.2.2.1
theorem dX8_renders_114 : decode cX8_renders 114 = .ok (.iastore, 1) := DX8_renders_6.2.2.2.2.2.1
theorem dX8_renders_115 : decode cX8_renders 115 = .ok (.aload_n 0, 1) := DX8_renders_6.2.2.2.2.2.2.1
theorem dX8_renders_116 : decode cX8_renders 116 = .ok (.getfield 7, 3) := DX8_renders_6.2.2.2.2.2.2.2.1
theorem dX8_renders_119 : decode cX8_renders 119 = .ok (.bipush 7, 2) := DX8_renders_6.2.2.2.2.2.2.2.2.1
theorem dX8_renders_121 : decode cX8_renders 121 = .ok (.dup2, 1) := DX8_renders_6.2.2.2.2.2.2.2.2.2
set_option maxRecDepth 100000 in
theorem DX8_renders_7 : decode cX8_renders 122 = .ok (.iaload, 1) ∧ decode cX8_renders 123 = .ok (.aload_n 0, 1) ∧ decode cX8_renders 124 = .ok (.getfield 216, 3) ∧ decode cX8_renders 127 = .ok (.iadd, 1) ∧ decode cX8_renders 128 = .ok (.iastore, 1) ∧ decode cX8_renders 129 = .ok (.aload_n 0, 1) ∧ decode cX8_renders 130 = .ok (.ldc2_w 234, 3) ∧ decode cX8_renders 133 = .ok (.aload_n 0, 1) ∧ decode cX8_renders 134 = .ok (.getfield 15, 3) ∧ decode cX8_renders 137 = .ok (.lmul, 1) := by decide +kernel
theorem dX8_renders_122 : decode cX8_renders 122 = .ok (.iaload, 1) := DX8_renders_7.1
theorem dX8_renders_123 : decode cX8_renders 123 = .ok (.aload_n 0, 1) := DX8_renders_7.2.1
theorem dX8_renders_124 : decode cX8_renders 124 = .ok (.getfield 216, 3) := DX8_renders_7.2.2.1
theorem dX8_renders_127 : decode cX8_renders 127 = .ok (.iadd, 1) := DX8_renders_7.2.2.2.1
theorem dX8_renders_128 : decode cX8_renders 128 = .ok (.iastore, 1) := DX8_renders_7.2.2.2.2.1
theorem dX8_renders_129 : decode cX8_renders 129 = .ok (.aload_n 0, 1) := DX8_renders_7.2.2.2.2.2.1
theorem dX8_renders_130 : decode cX8_renders 130 = .ok (.ldc2_w 234, 3) := DX8_renders_7.2.2.2.2.2.2.1
theorem dX8_renders_133 : decode cX8_renders 133 = .ok (.aload_n 0, 1) := DX8_renders_7.2.2.2.2.2.2.2.1
theorem dX8_renders_134 : decode cX8_renders 134 = .ok (.getfield 15, 3) := DX8_renders_7.2.2.2.2.2.2.2.2.1
theorem dX8_renders_137 : decode cX8_renders 137 = .ok (.lmul, 1) := DX8_renders_7.2.2.2.2.2.2.2.2.2
set_option maxRecDepth 100000 in
theorem DX8_renders_8 : decode cX8_renders 138 = .ok (.aload_n 0, 1) ∧ decode cX8_renders 139 = .ok (.getfield 222, 3) ∧ decode cX8_renders 142 = .ok (.i2l, 1) ∧ decode cX8_renders 143 = .ok (.ladd, 1) ∧ decode cX8_renders 144 = .ok (.putfield 15, 3) ∧ decode cX8_renders 147 = .ok (.aload_n 0, 1) ∧ decode cX8_renders 148 = .ok (.ldc2_w 234, 3) ∧ decode cX8_renders 151 = .ok (.aload_n 0, 1) ∧ decode cX8_renders 152 = .ok (.getfield 15, 3) ∧ decode cX8_renders 155 = .ok (.lmul, 1) := by decide +kernel
theorem dX8_renders_138 : decode cX8_renders 138 = .ok (.aload_n 0, 1) := DX8_renders_8.1
theorem dX8_renders_139 : decode cX8_renders 139 = .ok (.getfield 222, 3) := DX8_renders_8.2.1
theorem dX8_renders_142 : decode cX8_renders 142 = .ok (.i2l, 1) := DX8_renders_8.2.2.1
theorem dX8_renders_143 : decode cX8_renders 143 = .ok (.ladd, 1) := DX8_renders_8.2.2.2.1
theorem dX8_renders_144 : decode cX8_renders 144 = .ok (.putfield 15, 3) := DX8_renders_8.2.2.2.2.1
theorem dX8_renders_147 : decode cX8_renders 147 = .ok (.aload_n 0, 1) := DX8_renders_8.2.2.2.2.2.1
theorem dX8_renders_148 : decode cX8_renders 148 = .ok (.ldc2_w 234, 3) := DX8_renders_8.2.2.2.2.2.2.1
theorem dX8_renders_151 : decode cX8_renders 151 = .ok (.aload_n 0, 1) := DX8_renders_8.2.2.2.2.2.2.2.1
theorem dX8_renders_152 : decode cX8_renders 152 = .ok (.getfield 15, 3) := DX8_renders_8.2.2.2.2.2.2.2.2.1
theorem dX8_renders_155 : decode cX8_renders 155 = .ok (.lmul, 1) := DX8_renders_8.2.2.2.2.2.2.2.2.2
set_option maxRecDepth 100000 in
theorem DX8_renders_9 : decode cX8_renders 156 = .ok (.aload_n 0, 1) ∧ decode cX8_renders 157 = .ok (.getfield 225, 3) ∧ decode cX8_renders 160 = .ok (.i2l, 1) ∧ decode cX8_renders 161 = .ok (.ladd, 1) ∧ decode cX8_renders 162 = .ok (.putfield 15, 3) ∧ decode cX8_renders 165 = .ok (.aload_n 0, 1) ∧ decode cX8_renders 166 = .ok (.getfield 7, 3) ∧ decode cX8_renders 169 = .ok (.iconst 0, 1) ∧ decode cX8_renders 170 = .ok (.dup2, 1) ∧ decode cX8_renders 171 = .ok (.iaload, 1) := by decide +kernel
theorem dX8_renders_156 : decode cX8_renders 156 = .ok (.aload_n 0, 1) := DX8_renders_9.1
theorem dX8_renders_157 : decode cX8_renders 157 = .ok (.getfield 225, 3) := DX8_renders_9.2.1
theorem dX8_renders_160 : decode cX8_renders 160 = .ok (.i2l, 1) := DX8_renders_9.2.2.1
theorem dX8_renders_161 : decode cX8_renders 161 = .ok (.ladd, 1) := DX8_renders_9.2.2.2.1
theorem dX8_renders_162 : decode cX8_renders 162 = .ok (.putfield 15, 3) := DX8_renders_9.2.2.2.2.1
theorem dX8_renders_165 : decode cX8_renders 165 = .ok (.aload_n 0, 1) := DX8_renders_9.2.2.2.2.2.1
theorem dX8_renders_166 : decode cX8_renders 166 = .ok (.getfield 7, 3) := DX8_renders_9.2.2.2.2.2.2.1
theorem dX8_renders_169 : decode cX8_renders 169 = .ok (.iconst 0, 1) := DX8_renders_9.2.2.2.2.2.2.2.1
theorem dX8_renders_170 : decode cX8_renders 170 = .ok (.dup2, 1) := DX8_renders_9.2.2.2.2.2.2.2.2.1
theorem dX8_renders_171 : decode cX8_renders 171 = .ok (.iaload, 1) := DX8_renders_9.2.2.2.2.2.2.2.2.2
set_option maxRecDepth 100000 in
theorem DX8_renders_10 : decode cX8_renders 172 = .ok (.iconst 1, 1) ∧ decode cX8_renders 173 = .ok (.iadd, 1) ∧ decode cX8_renders 174 = .ok (.iastore, 1) ∧ decode cX8_renders 175 = .ok (.aload_n 0, 1) ∧ decode cX8_renders 176 = .ok (.getfield 7, 3) ∧ decode cX8_renders 179 = .ok (.iconst 0, 1) ∧ decode cX8_renders 180 = .ok (.aload_n 0, 1) ∧ decode cX8_renders 181 = .ok (.getfield 7, 3) ∧ decode cX8_renders 184 = .ok (.iconst 0, 1) ∧ decode cX8_renders 185 = .ok (.iaload, 1) := by decide +kernel
theorem dX8_renders_172 : decode cX8_renders 172 = .ok (.iconst 1, 1) := DX8_renders_10.1
theorem dX8_renders_173 : decode cX8_renders 173 = .ok (.iadd, 1) := DX8_renders_10.2.1
theorem dX8_renders_174 : decode cX8_renders 174 = .ok (.iastore, 1) := DX8_renders_10.2.2.1
theorem dX8_renders_175 : decode cX8_renders 175 = .ok (.aload_n 0, 1) := DX8_renders_10.2.2.2.1
theorem dX8_renders_176 : decode cX8_renders 176 = .ok (.getfield 7, 3) := DX8_renders_10.2.2.2.2.1
theorem dX8_renders_179 : decode cX8_renders 179 = .ok (.iconst 0, 1) := DX8_renders_10.2.2.2.2.2.1
theorem dX8_renders_180 : decode cX8_renders 180 = .ok (.aload_n 0, 1) := DX8_renders_10.2.2.2.2.2.2.1
theorem dX8_renders_181 : decode cX8_renders 181 = .ok (.getfield 7, 3) := DX8_renders_10.2.2.2.2.2.2.2.1
theorem dX8_renders_184 : decode cX8_renders 184 = .ok (.iconst 0, 1) := DX8_renders_10.2.2.2.2.2.2.2.2.1
theorem dX8_renders_185 : decode cX8_renders 185 = .ok (.iaload, 1) := DX8_renders_10.2.2.2.2.2.2.2.2.2
set_option maxRecDepth 100000 in
theorem DX8_renders_11 : decode cX8_renders 186 = .ok (.aload_n 0, 1) ∧ decode cX8_renders 187 = .ok (.getfield 7, 3) ∧ decode cX8_renders 190 = .ok (.iconst 2, 1) ∧ decode cX8_renders 191 = .ok (.iaload, 1) ∧ decode cX8_renders 192 = .ok (.if_icmp .eq 15, 3) ∧ decode cX8_renders 195 = .ok (.aload_n 0, 1) ∧ decode cX8_renders 196 = .ok (.getfield 7, 3) ∧ decode cX8_renders 199 = .ok (.iconst 0, 1) ∧ decode cX8_renders 200 = .ok (.iaload, 1) ∧ decode cX8_renders 201 = .ok (.sipush 4000, 3) := by decide +kernel
theorem dX8_renders_186 : decode cX8_renders 186 = .ok (.aload_n 0, 1) := DX8_renders_11.1
theorem dX8_renders_187 : decode cX8_renders 187 = .ok (.getfield 7, 3) := DX8_renders_11.2.1
theorem dX8_renders_190 : decode cX8_renders 190 = .ok (.iconst 2, 1) := DX8_renders_11.2.2.1
theorem dX8_renders_191 : decode cX8_renders 191 = .ok (.iaload, 1) := DX8_renders_11.2.2.2.1
theorem dX8_renders_192 : decode cX8_renders 192 = .ok (.if_icmp .eq 15, 3) := DX8_renders_11.2.2.2.2.1
theorem dX8_renders_195 : decode cX8_renders 195 = .ok (.aload_n 0, 1) := DX8_renders_11.2.2.2.2.2.1
theorem dX8_renders_196 : decode cX8_renders 196 = .ok (.getfield 7, 3) := DX8_renders_11.2.2.2.2.2.2.1
theorem dX8_renders_199 : decode cX8_renders 199 = .ok (.iconst 0, 1) := DX8_renders_11.2.2.2.2.2.2.2.1
theorem dX8_renders_200 : decode cX8_renders 200 = .ok (.iaload, 1) := DX8_renders_11.2.2.2.2.2.2.2.2.1
theorem dX8_renders_201 : decode cX8_renders 201 = .ok (.sipush 4000, 3) := DX8_renders_11.2.2.2.2.2.2.2.2.2
set_option maxRecDepth 100000 in
theorem DX8_renders_12 : decode cX8_renders 204 = .ok (.if_icmp .ne 12, 3) ∧ decode cX8_renders 207 = .ok (.aload_n 0, 1) ∧ decode cX8_renders 208 = .ok (.getfield 7, 3) ∧ decode cX8_renders 211 = .ok (.iconst 1, 1) ∧ decode cX8_renders 212 = .ok (.iaload, 1) ∧ decode cX8_renders 213 = .ok (.goto 9, 3) ∧ decode cX8_renders 216 = .ok (.aload_n 0, 1) ∧ decode cX8_renders 217 = .ok (.getfield 7, 3) ∧ decode cX8_renders 220 = .ok (.iconst 0, 1) ∧ decode cX8_renders 221 = .ok (.iaload, 1) := by decide +kernel
theorem dX8_renders_204 : decode cX8_renders 204 = .ok (.if_icmp .ne 12, 3) := DX8_renders_12.1
theorem dX8_renders_207 : decode cX8_renders 207 = .ok (.aload_n 0, 1) := DX8_renders_12.2.1
theorem dX8_renders_208 : decode cX8_renders 208 = .ok (.getfield 7, 3) := DX8_renders_12.2.2.1
theorem dX8_renders_211 : decode cX8_renders 211 = .ok (.iconst 1, 1) := DX8_renders_12.2.2.2.1
theorem dX8_renders_212 : decode cX8_renders 212 = .ok (.iaload, 1) := DX8_renders_12.2.2.2.2.1
theorem dX8_renders_213 : decode cX8_renders 213 = .ok (.goto 9, 3) := DX8_renders_12.2.2.2.2.2.1
theorem dX8_renders_216 : decode cX8_renders 216 = .ok (.aload_n 0, 1) := DX8_renders_12.2.2.2.2.2.2.1
theorem dX8_renders_217 : decode cX8_renders 217 = .ok (.getfield 7, 3) := DX8_renders_12.2.2.2.2.2.2.2.1
theorem dX8_renders_220 : decode cX8_renders 220 = .ok (.iconst 0, 1) := DX8_renders_12.2.2.2.2.2.2.2.2.1
theorem dX8_renders_221 : decode cX8_renders 221 = .ok (.iaload, 1) := DX8_renders_12.2.2.2.2.2.2.2.2.2
set_option maxRecDepth 100000 in
theorem DX8_renders_13 : decode cX8_renders 222 = .ok (.iastore, 1) ∧ decode cX8_renders 223 = .ok (.return_, 1) := by decide +kernel
theorem dX8_renders_222 : decode cX8_renders 222 = .ok (.iastore, 1) := DX8_renders_13.1
theorem dX8_renders_223 : decode cX8_renders 223 = .ok (.return_, 1) := DX8_renders_13.2
set_option maxRecDepth 100000 in
theorem DX8_render_0 : decode cX8_render 0 = .ok (.aload_n 0, 1) ∧ decode cX8_render 1 = .ok (.iload_n 1, 1) ∧ decode cX8_render 2 = .ok (.i2l, 1) ∧ decode cX8_render 3 = .ok (.lconst 1, 1) ∧ decode cX8_render 4 = .ok (.ldc2_w 58, 3) ∧ decode cX8_render 7 = .ok (.invokestatic 45, 3) ∧ decode cX8_render 10 = .ok (.ifCond .eq 7, 3) ∧ decode cX8_render 13 = .ok (.iconst 0, 1) ∧ decode cX8_render 14 = .ok (.goto 4, 3) ∧ decode cX8_render 17 = .ok (.iconst 1, 1) := by decide +kernel
theorem dX8_render_0 : decode cX8_render 0 = .ok (.aload_n 0, 1) := DX8_render_0.1
theorem dX8_render_1 : decode cX8_render 1 = .ok (.iload_n 1, 1) := DX8_render_0.2.1
theorem dX8_render_2 : decode cX8_render 2 = .ok (.i2l, 1) := DX8_render_0.2.2.1
theorem dX8_render_3 : decode cX8_render 3 = .ok (.lconst 1, 1) := DX8_render_0.2.2.2.1
theorem dX8_render_4 : decode cX8_render 4 = .ok (.ldc2_w 58, 3) := DX8_render_0.2.2.2.2.1
theorem dX8_render_7 : decode cX8_render 7 = .ok (.invokestatic 45, 3) := DX8_render_0.2.2.2.2.2.1
theorem dX8_render_10 : decode cX8_render 10 = .ok (.ifCond .eq 7, 3) := DX8_render_0.2.2.2.2.2.2.1
theorem dX8_render_13 : decode cX8_render 13 = .ok (.iconst 0, 1) := DX8_render_0.2.2.2.2.2.2.2.1
theorem dX8_render_14 : decode cX8_render 14 = .ok (.goto 4, 3) := DX8_render_0.2.2.2.2.2.2.2.2.1
theorem dX8_render_17 : decode cX8_render 17 = .ok (.iconst 1, 1) := DX8_render_0.2.2.2.2.2.2.2.2.2
set_option maxRecDepth 100000 in
theorem DX8_render_1 : decode cX8_render 18 = .ok (.invokevirtual 73, 3) ∧ decode cX8_render 21 = .ok (.ifCond .eq 5, 3) ∧ decode cX8_render 24 = .ok (.iconst 0, 1) ∧ decode cX8_render 25 = .ok (.ireturn, 1) ∧ decode cX8_render 26 = .ok (.aload_n 0, 1) ∧ decode cX8_render 27 = .ok (.bipush 99, 2) ∧ decode cX8_render 29 = .ok (.invokevirtual 228, 3) ∧ decode cX8_render 32 = .ok (.iconst 0, 1) ∧ decode cX8_render 33 = .ok (.istore_n 2, 1) ∧ decode cX8_render 34 = .ok (.iload_n 2, 1) := by decide +kernel
theorem dX8_render_18 : decode cX8_render 18 = .ok (.invokevirtual 73, 3) := DX8_render_1.1
theorem dX8_render_21 : decode cX8_render 21 = .ok (.ifCond .eq 5, 3) := DX8_render_1.2.1
theorem dX8_render_24 : decode cX8_render 24 = .ok (.iconst 0, 1) := DX8_render_1.2.2.1
theorem dX8_render_25 : decode cX8_render 25 = .ok (.ireturn, 1) := DX8_render_1.2.2.2.1
theorem dX8_render_26 : decode cX8_render 26 = .ok (.aload_n 0, 1) := DX8_render_1.2.2.2.2.1
theorem dX8_render_27 : decode cX8_render 27 = .ok (.bipush 99, 2) := DX8_render_1.2.2.2.2.2.1
theorem dX8_render_29 : decode cX8_render 29 = .ok (.invokevirtual 228, 3) := DX8_render_1.2.2.2.2.2.2.1
theorem dX8_render_32 : decode cX8_render 32 = .ok (.iconst 0, 1) := DX8_render_1.2.2.2.2.2.2.2.1
theorem dX8_render_33 : decode cX8_render 33 = .ok (.istore_n 2, 1) := DX8_render_1.2.2.2.2.2.2.2.2.1
theorem dX8_render_34 : decode cX8_render 34 = .ok (.iload_n 2, 1) := DX8_render_1.2.2.2.2.2.2.2.2.2
set_option maxRecDepth 100000 in
theorem DX8_render_2 : decode cX8_render 35 = .ok (.iload_n 1, 1) ∧ decode cX8_render 36 = .ok (.if_icmp .ge 13, 3) ∧ decode cX8_render 39 = .ok (.aload_n 0, 1) ∧ decode cX8_render 40 = .ok (.invokevirtual 236, 3) ∧ decode cX8_render 43 = .ok (.iinc 2 1, 3) ∧ decode cX8_render 46 = .ok (.goto (-12), 3) ∧ decode cX8_render 49 = .ok (.aload_n 0, 1) ∧ decode cX8_render 50 = .ok (.getfield 7, 3) ∧ decode cX8_render 53 = .ok (.iconst 0, 1) ∧ decode cX8_render 54 = .ok (.iaload, 1) := by decide +kernel
theorem dX8_render_35 : decode cX8_render 35 = .ok (.iload_n 1, 1) := DX8_render_2.1
theorem dX8_render_36 : decode cX8_render 36 = .ok (.if_icmp .ge 13, 3) := DX8_render_2.2.1
theorem dX8_render_39 : decode cX8_render 39 = .ok (.aload_n 0, 1) := DX8_render_2.2.2.1
theorem dX8_render_40 : decode cX8_render 40 = .ok (.invokevirtual 236, 3) := DX8_render_2.2.2.2.1
theorem dX8_render_43 : decode cX8_render 43 = .ok (.iinc 2 1, 3) := DX8_render_2.2.2.2.2.1
theorem dX8_render_46 : decode cX8_render 46 = .ok (.goto (-12), 3) := DX8_render_2.2.2.2.2.2.1
theorem dX8_render_49 : decode cX8_render 49 = .ok (.aload_n 0, 1) := DX8_render_2.2.2.2.2.2.2.1
theorem dX8_render_50 : decode cX8_render 50 = .ok (.getfield 7, 3) := DX8_render_2.2.2.2.2.2.2.2.1
theorem dX8_render_53 : decode cX8_render 53 = .ok (.iconst 0, 1) := DX8_render_2.2.2.2.2.2.2.2.2.1
theorem dX8_render_54 : decode cX8_render 54 = .ok (.iaload, 1) := DX8_render_2.2.2.2.2.2.2.2.2.2
set_option maxRecDepth 100000 in
theorem DX8_render_3 : decode cX8_render 55 = .ok (.ireturn, 1) := by decide +kernel
theorem dX8_render_55 : decode cX8_render 55 = .ok (.ireturn, 1) := DX8_render_3
set_option maxRecDepth 100000 in
theorem DX8_meterOf_0 : decode cX8_meterOf 0 = .ok (.iload_n 1, 1) ∧ decode cX8_meterOf 1 = .ok (.iconst 4, 1) ∧ decode cX8_meterOf 2 = .ok (.if_icmp .ge 15, 3) ∧ decode cX8_meterOf 5 = .ok (.aload_n 0, 1) ∧ decode cX8_meterOf 6 = .ok (.getfield 7, 3) ∧ decode cX8_meterOf 9 = .ok (.iconst 4, 1) ∧ decode cX8_meterOf 10 = .ok (.iload_n 1, 1) ∧ decode cX8_meterOf 11 = .ok (.iadd, 1) ∧ decode cX8_meterOf 12 = .ok (.iaload, 1) ∧ decode cX8_meterOf 13 = .ok (.i2l, 1) := by decide +kernel
theorem dX8_meterOf_0 : decode cX8_meterOf 0 = .ok (.iload_n 1, 1) := DX8_meterOf_0.1
theorem dX8_meterOf_1 : decode cX8_meterOf 1 = .ok (.iconst 4, 1) := DX8_meterOf_0.2.1
theorem dX8_meterOf_2 : decode cX8_meterOf 2 = .ok (.if_icmp .ge 15, 3) := DX8_meterOf_0.2.2.1
theorem dX8_meterOf_5 : decode cX8_meterOf 5 = .ok (.aload_n 0, 1) := DX8_meterOf_0.2.2.2.1
theorem dX8_meterOf_6 : decode cX8_meterOf 6 = .ok (.getfield 7, 3) := DX8_meterOf_0.2.2.2.2.1
theorem dX8_meterOf_9 : decode cX8_meterOf 9 = .ok (.iconst 4, 1) := DX8_meterOf_0.2.2.2.2.2.1
theorem dX8_meterOf_10 : decode cX8_meterOf 10 = .ok (.iload_n 1, 1) := DX8_meterOf_0.2.2.2.2.2.2.1
theorem dX8_meterOf_11 : decode cX8_meterOf 11 = .ok (.iadd, 1) := DX8_meterOf_0.2.2.2.2.2.2.2.1
theorem dX8_meterOf_12 : decode cX8_meterOf 12 = .ok (.iaload, 1) := DX8_meterOf_0.2.2.2.2.2.2.2.2.1
theorem dX8_meterOf_13 : decode cX8_meterOf 13 = .ok (.i2l, 1) := DX8_meterOf_0.2.2.2.2.2.2.2.2.2
set_option maxRecDepth 100000 in
theorem DX8_meterOf_1 : decode cX8_meterOf 14 = .ok (.goto 7, 3) ∧ decode cX8_meterOf 17 = .ok (.aload_n 0, 1) ∧ decode cX8_meterOf 18 = .ok (.getfield 15, 3) ∧ decode cX8_meterOf 21 = .ok (.lreturn, 1) := by decide +kernel
theorem dX8_meterOf_14 : decode cX8_meterOf 14 = .ok (.goto 7, 3) := DX8_meterOf_1.1
theorem dX8_meterOf_17 : decode cX8_meterOf 17 = .ok (.aload_n 0, 1) := DX8_meterOf_1.2.1
theorem dX8_meterOf_18 : decode cX8_meterOf 18 = .ok (.getfield 15, 3) := DX8_meterOf_1.2.2.1
theorem dX8_meterOf_21 : decode cX8_meterOf 21 = .ok (.lreturn, 1) := DX8_meterOf_1.2.2.2
set_option maxRecDepth 100000 in
theorem DX8_meter_0 : decode cX8_meter 0 = .ok (.aload_n 0, 1) ∧ decode cX8_meter 1 = .ok (.iload_n 1, 1) ∧ decode cX8_meter 2 = .ok (.i2l, 1) ∧ decode cX8_meter 3 = .ok (.lconst 0, 1) ∧ decode cX8_meter 4 = .ok (.ldc2_w 239, 3) ∧ decode cX8_meter 7 = .ok (.invokestatic 45, 3) ∧ decode cX8_meter 10 = .ok (.ifCond .eq 7, 3) ∧ decode cX8_meter 13 = .ok (.iconst 0, 1) ∧ decode cX8_meter 14 = .ok (.goto 4, 3) ∧ decode cX8_meter 17 = .ok (.iconst 1, 1) := by decide +kernel
theorem dX8_meter_0 : decode cX8_meter 0 = .ok (.aload_n 0, 1) := DX8_meter_0.1
theorem dX8_meter_1 : decode cX8_meter 1 = .ok (.iload_n 1, 1) := DX8_meter_0.2.1
theorem dX8_meter_2 : decode cX8_meter 2 = .ok (.i2l, 1) := DX8_meter_0.2.2.1
theorem dX8_meter_3 : decode cX8_meter 3 = .ok (.lconst 0, 1) := DX8_meter_0.2.2.2.1
theorem dX8_meter_4 : decode cX8_meter 4 = .ok (.ldc2_w 239, 3) := DX8_meter_0.2.2.2.2.1
theorem dX8_meter_7 : decode cX8_meter 7 = .ok (.invokestatic 45, 3) := DX8_meter_0.2.2.2.2.2.1
theorem dX8_meter_10 : decode cX8_meter 10 = .ok (.ifCond .eq 7, 3) := DX8_meter_0.2.2.2.2.2.2.1
theorem dX8_meter_13 : decode cX8_meter 13 = .ok (.iconst 0, 1) := DX8_meter_0.2.2.2.2.2.2.2.1
theorem dX8_meter_14 : decode cX8_meter 14 = .ok (.goto 4, 3) := DX8_meter_0.2.2.2.2.2.2.2.2.1
theorem dX8_meter_17 : decode cX8_meter 17 = .ok (.iconst 1, 1) := DX8_meter_0.2.2.2.2.2.2.2.2.2
set_option maxRecDepth 100000 in
theorem DX8_meter_1 : decode cX8_meter 18 = .ok (.invokevirtual 51, 3) ∧ decode cX8_meter 21 = .ok (.ifCond .eq 7, 3) ∧ decode cX8_meter 24 = .ok (.lconst 0, 1) ∧ decode cX8_meter 25 = .ok (.goto 8, 3) ∧ decode cX8_meter 28 = .ok (.aload_n 0, 1) ∧ decode cX8_meter 29 = .ok (.iload_n 1, 1) ∧ decode cX8_meter 30 = .ok (.invokevirtual 241, 3) ∧ decode cX8_meter 33 = .ok (.lreturn, 1) := by decide +kernel
theorem dX8_meter_18 : decode cX8_meter 18 = .ok (.invokevirtual 51, 3) := DX8_meter_1.1
theorem dX8_meter_21 : decode cX8_meter 21 = .ok (.ifCond .eq 7, 3) := DX8_meter_1.2.1
theorem dX8_meter_24 : decode cX8_meter 24 = .ok (.lconst 0, 1) := DX8_meter_1.2.2.1
theorem dX8_meter_25 : decode cX8_meter 25 = .ok (.goto 8, 3) := DX8_meter_1.2.2.2.1
theorem dX8_meter_28 : decode cX8_meter 28 = .ok (.aload_n 0, 1) := DX8_meter_1.2.2.2.2.1
theorem dX8_meter_29 : decode cX8_meter 29 = .ok (.iload_n 1, 1) := DX8_meter_1.2.2.2.2.2.1
theorem dX8_meter_30 : decode cX8_meter 30 = .ok (.invokevirtual 241, 3) := DX8_meter_1.2.2.2.2.2.2.1
theorem dX8_meter_33 : decode cX8_meter 33 = .ok (.lreturn, 1) := DX8_meter_1.2.2.2.2.2.2.2
set_option maxRecDepth 100000 in
theorem DX8_clearMeters_0 : decode cX8_clearMeters 0 = .ok (.aload_n 0, 1) ∧ decode cX8_clearMeters 1 = .ok (.iconst 0, 1) ∧ decode cX8_clearMeters 2 = .ok (.invokevirtual 73, 3) ∧ decode cX8_clearMeters 5 = .ok (.ifCond .eq 5, 3) ∧ decode cX8_clearMeters 8 = .ok (.lconst 0, 1) ∧ decode cX8_clearMeters 9 = .ok (.lreturn, 1) ∧ decode cX8_clearMeters 10 = .ok (.aload_n 0, 1) ∧ decode cX8_clearMeters 11 = .ok (.ldc2_w 13, 3) ∧ decode cX8_clearMeters 14 = .ok (.putfield 15, 3) ∧ decode cX8_clearMeters 17 = .ok (.iconst 1, 1) := by decide +kernel
theorem dX8_clearMeters_0 : decode cX8_clearMeters 0 = .ok (.aload_n 0, 1) := DX8_clearMeters_0.1
theorem dX8_clearMeters_1 : decode cX8_clearMeters 1 = .ok (.iconst 0, 1) := DX8_clearMeters_0.2.1
theorem dX8_clearMeters_2 : decode cX8_clearMeters 2 = .ok (.invokevirtual 73, 3) := DX8_clearMeters_0.2.2.1
theorem dX8_clearMeters_5 : decode cX8_clearMeters 5 = .ok (.ifCond .eq 5, 3) := DX8_clearMeters_0.2.2.2.1
theorem dX8_clearMeters_8 : decode cX8_clearMeters 8 = .ok (.lconst 0, 1) := DX8_clearMeters_0.2.2.2.2.1
theorem dX8_clearMeters_9 : decode cX8_clearMeters 9 = .ok (.lreturn, 1) := DX8_clearMeters_0.2.2.2.2.2.1
theorem dX8_clearMeters_10 : decode cX8_clearMeters 10 = .ok (.aload_n 0, 1) := DX8_clearMeters_0.2.2.2.2.2.2.1
theorem dX8_clearMeters_11 : decode cX8_clearMeters 11 = .ok (.ldc2_w 13, 3) := DX8_clearMeters_0.2.2.2.2.2.2.2.1
theorem dX8_clearMeters_14 : decode cX8_clearMeters 14 = .ok (.putfield 15, 3) := DX8_clearMeters_0.2.2.2.2.2.2.2.2.1
theorem dX8_clearMeters_17 : decode cX8_clearMeters 17 = .ok (.iconst 1, 1) := DX8_clearMeters_0.2.2.2.2.2.2.2.2.2
set_option maxRecDepth 100000 in
theorem DX8_clearMeters_1 : decode cX8_clearMeters 18 = .ok (.istore_n 1, 1) ∧ decode cX8_clearMeters 19 = .ok (.iload_n 1, 1) ∧ decode cX8_clearMeters 20 = .ok (.iconst 4, 1) ∧ decode cX8_clearMeters 21 = .ok (.if_icmp .ge 18, 3) ∧ decode cX8_clearMeters 24 = .ok (.aload_n 0, 1) ∧ decode cX8_clearMeters 25 = .ok (.getfield 7, 3) ∧ decode cX8_clearMeters 28 = .ok (.iconst 4, 1) ∧ decode cX8_clearMeters 29 = .ok (.iload_n 1, 1) ∧ decode cX8_clearMeters 30 = .ok (.iadd, 1) ∧ decode cX8_clearMeters 31 = .ok (.iconst 0, 1) := by decide +kernel
theorem dX8_clearMeters_18 : decode cX8_clearMeters 18 = .ok (.istore_n 1, 1) := DX8_clearMeters_1.1
theorem dX8_clearMeters_19 : decode cX8_clearMeters 19 = .ok (.iload_n 1, 1) := DX8_clearMeters_1.2.1
theorem dX8_clearMeters_20 : decode cX8_clearMeters 20 = .ok (.iconst 4, 1) := DX8_clearMeters_1.2.2.1
theorem dX8_clearMeters_21 : decode cX8_clearMeters 21 = .ok (.if_icmp .ge 18, 3) := DX8_clearMeters_1.2.2.2.1
theorem dX8_clearMeters_24 : decode cX8_clearMeters 24 = .ok (.aload_n 0, 1) := DX8_clearMeters_1.2.2.2.2.1
theorem dX8_clearMeters_25 : decode cX8_clearMeters 25 = .ok (.getfield 7, 3) := DX8_clearMeters_1.2.2.2.2.2.1
theorem dX8_clearMeters_28 : decode cX8_clearMeters 28 = .ok (.iconst 4, 1) := DX8_clearMeters_1.2.2.2.2.2.2.1
theorem dX8_clearMeters_29 : decode cX8_clearMeters 29 = .ok (.iload_n 1, 1) := DX8_clearMeters_1.2.2.2.2.2.2.2.1
theorem dX8_clearMeters_30 : decode cX8_clearMeters 30 = .ok (.iadd, 1) := DX8_clearMeters_1.2.2.2.2.2.2.2.2.1
theorem dX8_clearMeters_31 : decode cX8_clearMeters 31 = .ok (.iconst 0, 1) := DX8_clearMeters_1.2.2.2.2.2.2.2.2.2
set_option maxRecDepth 100000 in
theorem DX8_clearMeters_2 : decode cX8_clearMeters 32 = .ok (.iastore, 1) ∧ decode cX8_clearMeters 33 = .ok (.iinc 1 1, 3) ∧ decode cX8_clearMeters 36 = .ok (.goto (-17), 3) ∧ decode cX8_clearMeters 39 = .ok (.aload_n 0, 1) ∧ decode cX8_clearMeters 40 = .ok (.iconst 4, 1) ∧ decode cX8_clearMeters 41 = .ok (.iconst 0, 1) ∧ decode cX8_clearMeters 42 = .ok (.invokevirtual 76, 3) ∧ decode cX8_clearMeters 45 = .ok (.i2l, 1) ∧ decode cX8_clearMeters 46 = .ok (.lreturn, 1) := by decide +kernel
theorem dX8_clearMeters_32 : decode cX8_clearMeters 32 = .ok (.iastore, 1) := DX8_clearMeters_2.1
theorem dX8_clearMeters_33 : decode cX8_clearMeters 33 = .ok (.iinc 1 1, 3) := DX8_clearMeters_2.2.1
theorem dX8_clearMeters_36 : decode cX8_clearMeters 36 = .ok (.goto (-17), 3) := DX8_clearMeters_2.2.2.1
theorem dX8_clearMeters_39 : decode cX8_clearMeters 39 = .ok (.aload_n 0, 1) := DX8_clearMeters_2.2.2.2.1
theorem dX8_clearMeters_40 : decode cX8_clearMeters 40 = .ok (.iconst 4, 1) := DX8_clearMeters_2.2.2.2.2.1
theorem dX8_clearMeters_41 : decode cX8_clearMeters 41 = .ok (.iconst 0, 1) := DX8_clearMeters_2.2.2.2.2.2.1
theorem dX8_clearMeters_42 : decode cX8_clearMeters 42 = .ok (.invokevirtual 76, 3) := DX8_clearMeters_2.2.2.2.2.2.2.1
theorem dX8_clearMeters_45 : decode cX8_clearMeters 45 = .ok (.i2l, 1) := DX8_clearMeters_2.2.2.2.2.2.2.2.1
theorem dX8_clearMeters_46 : decode cX8_clearMeters 46 = .ok (.lreturn, 1) := DX8_clearMeters_2.2.2.2.2.2.2.2.2
set_option maxRecDepth 100000 in
theorem DX8_length_0 : decode cX8_length 0 = .ok (.aload_n 0, 1) ∧ decode cX8_length 1 = .ok (.iconst 0, 1) ∧ decode cX8_length 2 = .ok (.putfield 39, 3) ∧ decode cX8_length 5 = .ok (.iconst 0, 1) ∧ decode cX8_length 6 = .ok (.istore_n 1, 1) ∧ decode cX8_length 7 = .ok (.iconst 0, 1) ∧ decode cX8_length 8 = .ok (.istore_n 2, 1) ∧ decode cX8_length 9 = .ok (.iload_n 2, 1) ∧ decode cX8_length 10 = .ok (.aload_n 0, 1) ∧ decode cX8_length 11 = .ok (.getfield 7, 3) := by decide +kernel
theorem dX8_length_0 : decode cX8_length 0 = .ok (.aload_n 0, 1) := DX8_length_0.1
theorem dX8_length_1 : decode cX8_length 1 = .ok (.iconst 0, 1) := DX8_length_0.2.1
theorem dX8_length_2 : decode cX8_length 2 = .ok (.putfield 39, 3) := DX8_length_0.2.2.1
theorem dX8_length_5 : decode cX8_length 5 = .ok (.iconst 0, 1) := DX8_length_0.2.2.2.1
theorem dX8_length_6 : decode cX8_length 6 = .ok (.istore_n 1, 1) := DX8_length_0.2.2.2.2.1
theorem dX8_length_7 : decode cX8_length 7 = .ok (.iconst 0, 1) := DX8_length_0.2.2.2.2.2.1
theorem dX8_length_8 : decode cX8_length 8 = .ok (.istore_n 2, 1) := DX8_length_0.2.2.2.2.2.2.1
theorem dX8_length_9 : decode cX8_length 9 = .ok (.iload_n 2, 1) := DX8_length_0.2.2.2.2.2.2.2.1
theorem dX8_length_10 : decode cX8_length 10 = .ok (.aload_n 0, 1) := DX8_length_0.2.2.2.2.2.2.2.2.1
theorem dX8_length_11 : decode cX8_length 11 = .ok (.getfield 7, 3) := DX8_length_0.2.2.2.2.2.2.2.2.2
set_option maxRecDepth 100000 in
theorem DX8_length_1 : decode cX8_length 14 = .ok (.bipush 8, 2) ∧ decode cX8_length 16 = .ok (.iaload, 1) ∧ decode cX8_length 17 = .ok (.if_icmp .ge 28, 3) ∧ decode cX8_length 20 = .ok (.aload_n 0, 1) ∧ decode cX8_length 21 = .ok (.iload_n 2, 1) ∧ decode cX8_length 22 = .ok (.invokevirtual 161, 3) ∧ decode cX8_length 25 = .ok (.iload_n 1, 1) ∧ decode cX8_length 26 = .ok (.if_icmp .le 11, 3) ∧ decode cX8_length 29 = .ok (.aload_n 0, 1) ∧ decode cX8_length 30 = .ok (.iload_n 2, 1) := by decide +kernel
theorem dX8_length_14 : decode cX8_length 14 = .ok (.bipush 8, 2) := DX8_length_1.1
theorem dX8_length_16 : decode cX8_length 16 = .ok (.iaload, 1) := DX8_length_1.2.1
theorem dX8_length_17 : decode cX8_length 17 = .ok (.if_icmp .ge 28, 3) := DX8_length_1.2.2.1
theorem dX8_length_20 : decode cX8_length 20 = .ok (.aload_n 0, 1) := DX8_length_1.2.2.2.1
theorem dX8_length_21 : decode cX8_length 21 = .ok (.iload_n 2, 1) := DX8_length_1.2.2.2.2.1
theorem dX8_length_22 : decode cX8_length 22 = .ok (.invokevirtual 161, 3) := DX8_length_1.2.2.2.2.2.1
theorem dX8_length_25 : decode cX8_length 25 = .ok (.iload_n 1, 1) := DX8_length_1.2.2.2.2.2.2.1
theorem dX8_length_26 : decode cX8_length 26 = .ok (.if_icmp .le 11, 3) := DX8_length_1.2.2.2.2.2.2.2.1
theorem dX8_length_29 : decode cX8_length 29 = .ok (.aload_n 0, 1) := DX8_length_1.2.2.2.2.2.2.2.2.1
theorem dX8_length_30 : decode cX8_length 30 = .ok (.iload_n 2, 1) := DX8_length_1.2.2.2.2.2.2.2.2.2
set_option maxRecDepth 100000 in
theorem DX8_length_2 : decode cX8_length 31 = .ok (.invokevirtual 161, 3) ∧ decode cX8_length 34 = .ok (.goto 4, 3) ∧ decode cX8_length 37 = .ok (.iload_n 1, 1) ∧ decode cX8_length 38 = .ok (.istore_n 1, 1) ∧ decode cX8_length 39 = .ok (.iinc 2 1, 3) ∧ decode cX8_length 42 = .ok (.goto (-33), 3) ∧ decode cX8_length 45 = .ok (.iload_n 1, 1) ∧ decode cX8_length 46 = .ok (.ireturn, 1) := by decide +kernel
theorem dX8_length_31 : decode cX8_length 31 = .ok (.invokevirtual 161, 3) := DX8_length_2.1
theorem dX8_length_34 : decode cX8_length 34 = .ok (.goto 4, 3) := DX8_length_2.2.1
theorem dX8_length_37 : decode cX8_length 37 = .ok (.iload_n 1, 1) := DX8_length_2.2.2.1
theorem dX8_length_38 : decode cX8_length 38 = .ok (.istore_n 1, 1) := DX8_length_2.2.2.2.1
theorem dX8_length_39 : decode cX8_length 39 = .ok (.iinc 2 1, 3) := DX8_length_2.2.2.2.2.1
theorem dX8_length_42 : decode cX8_length 42 = .ok (.goto (-33), 3) := DX8_length_2.2.2.2.2.2.1
theorem dX8_length_45 : decode cX8_length 45 = .ok (.iload_n 1, 1) := DX8_length_2.2.2.2.2.2.2.1
theorem dX8_length_46 : decode cX8_length 46 = .ok (.ireturn, 1) := DX8_length_2.2.2.2.2.2.2.2
set_option maxRecDepth 100000 in
theorem DX8_undo_0 : decode cX8_undo 0 = .ok (.aload_n 0, 1) ∧ decode cX8_undo 1 = .ok (.aload_n 0, 1) ∧ decode cX8_undo 2 = .ok (.getfield 55, 3) ∧ decode cX8_undo 5 = .ok (.ifCond .le 7, 3) ∧ decode cX8_undo 8 = .ok (.iconst 0, 1) ∧ decode cX8_undo 9 = .ok (.goto 4, 3) ∧ decode cX8_undo 12 = .ok (.iconst 1, 1) ∧ decode cX8_undo 13 = .ok (.invokevirtual 51, 3) ∧ decode cX8_undo 16 = .ok (.ifCond .eq 5, 3) ∧ decode cX8_undo 19 = .ok (.iconst 0, 1) := by decide +kernel
theorem dX8_undo_0 : decode cX8_undo 0 = .ok (.aload_n 0, 1) := DX8_undo_0.1
theorem dX8_undo_1 : decode cX8_undo 1 = .ok (.aload_n 0, 1) := DX8_undo_0.2.1
theorem dX8_undo_2 : decode cX8_undo 2 = .ok (.getfield 55, 3) := DX8_undo_0.2.2.1
theorem dX8_undo_5 : decode cX8_undo 5 = .ok (.ifCond .le 7, 3) := DX8_undo_0.2.2.2.1
theorem dX8_undo_8 : decode cX8_undo 8 = .ok (.iconst 0, 1) := DX8_undo_0.2.2.2.2.1
theorem dX8_undo_9 : decode cX8_undo 9 = .ok (.goto 4, 3) := DX8_undo_0.2.2.2.2.2.1
theorem dX8_undo_12 : decode cX8_undo 12 = .ok (.iconst 1, 1) := DX8_undo_0.2.2.2.2.2.2.1
theorem dX8_undo_13 : decode cX8_undo 13 = .ok (.invokevirtual 51, 3) := DX8_undo_0.2.2.2.2.2.2.2.1
theorem dX8_undo_16 : decode cX8_undo 16 = .ok (.ifCond .eq 5, 3) := DX8_undo_0.2.2.2.2.2.2.2.2.1
theorem dX8_undo_19 : decode cX8_undo 19 = .ok (.iconst 0, 1) := DX8_undo_0.2.2.2.2.2.2.2.2.2
set_option maxRecDepth 100000 in
theorem DX8_undo_1 : decode cX8_undo 20 = .ok (.ireturn, 1) ∧ decode cX8_undo 21 = .ok (.aload_n 0, 1) ∧ decode cX8_undo 22 = .ok (.dup, 1) ∧ decode cX8_undo 23 = .ok (.getfield 55, 3) ∧ decode cX8_undo 26 = .ok (.iconst 1, 1) ∧ decode cX8_undo 27 = .ok (.isub, 1) ∧ decode cX8_undo 28 = .ok (.putfield 55, 3) ∧ decode cX8_undo 31 = .ok (.iconst 0, 1) ∧ decode cX8_undo 32 = .ok (.istore_n 1, 1) ∧ decode cX8_undo 33 = .ok (.iload_n 1, 1) := by decide +kernel
theorem dX8_undo_20 : decode cX8_undo 20 = .ok (.ireturn, 1) := DX8_undo_1.1
theorem dX8_undo_21 : decode cX8_undo 21 = .ok (.aload_n 0, 1) := DX8_undo_1.2.1
theorem dX8_undo_22 : decode cX8_undo 22 = .ok (.dup, 1) := DX8_undo_1.2.2.1
theorem dX8_undo_23 : decode cX8_undo 23 = .ok (.getfield 55, 3) := DX8_undo_1.2.2.2.1
theorem dX8_undo_26 : decode cX8_undo 26 = .ok (.iconst 1, 1) := DX8_undo_1.2.2.2.2.1
theorem dX8_undo_27 : decode cX8_undo 27 = .ok (.isub, 1) := DX8_undo_1.2.2.2.2.2.1
theorem dX8_undo_28 : decode cX8_undo 28 = .ok (.putfield 55, 3) := DX8_undo_1.2.2.2.2.2.2.1
theorem dX8_undo_31 : decode cX8_undo 31 = .ok (.iconst 0, 1) := DX8_undo_1.2.2.2.2.2.2.2.1
theorem dX8_undo_32 : decode cX8_undo 32 = .ok (.istore_n 1, 1) := DX8_undo_1.2.2.2.2.2.2.2.2.1
theorem dX8_undo_33 : decode cX8_undo 33 = .ok (.iload_n 1, 1) := DX8_undo_1.2.2.2.2.2.2.2.2.2
set_option maxRecDepth 100000 in
theorem DX8_undo_2 : decode cX8_undo 34 = .ok (.sipush 277, 3) ∧ decode cX8_undo 37 = .ok (.if_icmp .ge 30, 3) ∧ decode cX8_undo 40 = .ok (.aload_n 0, 1) ∧ decode cX8_undo 41 = .ok (.getfield 7, 3) ∧ decode cX8_undo 44 = .ok (.iload_n 1, 1) ∧ decode cX8_undo 45 = .ok (.aload_n 0, 1) ∧ decode cX8_undo 46 = .ok (.getfield 19, 3) ∧ decode cX8_undo 49 = .ok (.sipush 277, 3) ∧ decode cX8_undo 52 = .ok (.aload_n 0, 1) ∧ decode cX8_undo 53 = .ok (.getfield 55, 3) := by decide +kernel
theorem dX8_undo_34 : decode cX8_undo 34 = .ok (.sipush 277, 3) := DX8_undo_2.1
theorem dX8_undo_37 : decode cX8_undo 37 = .ok (.if_icmp .ge 30, 3) := DX8_undo_2.2.1
theorem dX8_undo_40 : decode cX8_undo 40 = .ok (.aload_n 0, 1) := DX8_undo_2.2.2.1
theorem dX8_undo_41 : decode cX8_undo 41 = .ok (.getfield 7, 3) := DX8_undo_2.2.2.2.1
theorem dX8_undo_44 : decode cX8_undo 44 = .ok (.iload_n 1, 1) := DX8_undo_2.2.2.2.2.1
theorem dX8_undo_45 : decode cX8_undo 45 = .ok (.aload_n 0, 1) := DX8_undo_2.2.2.2.2.2.1
theorem dX8_undo_46 : decode cX8_undo 46 = .ok (.getfield 19, 3) := DX8_undo_2.2.2.2.2.2.2.1
theorem dX8_undo_49 : decode cX8_undo 49 = .ok (.sipush 277, 3) := DX8_undo_2.2.2.2.2.2.2.2.1
theorem dX8_undo_52 : decode cX8_undo 52 = .ok (.aload_n 0, 1) := DX8_undo_2.2.2.2.2.2.2.2.2.1
theorem dX8_undo_53 : decode cX8_undo 53 = .ok (.getfield 55, 3) := DX8_undo_2.2.2.2.2.2.2.2.2.2
set_option maxRecDepth 100000 in
theorem DX8_undo_3 : decode cX8_undo 56 = .ok (.imul, 1) ∧ decode cX8_undo 57 = .ok (.iload_n 1, 1) ∧ decode cX8_undo 58 = .ok (.iadd, 1) ∧ decode cX8_undo 59 = .ok (.iaload, 1) ∧ decode cX8_undo 60 = .ok (.iastore, 1) ∧ decode cX8_undo 61 = .ok (.iinc 1 1, 3) ∧ decode cX8_undo 64 = .ok (.goto (-31), 3) ∧ decode cX8_undo 67 = .ok (.aload_n 0, 1) ∧ decode cX8_undo 68 = .ok (.aload_n 0, 1) ∧ decode cX8_undo 69 = .ok (.getfield 22, 3) := by decide +kernel
theorem dX8_undo_56 : decode cX8_undo 56 = .ok (.imul, 1) := DX8_undo_3.1
theorem dX8_undo_57 : decode cX8_undo 57 = .ok (.iload_n 1, 1) := DX8_undo_3.2.1
theorem dX8_undo_58 : decode cX8_undo 58 = .ok (.iadd, 1) := DX8_undo_3.2.2.1
theorem dX8_undo_59 : decode cX8_undo 59 = .ok (.iaload, 1) := DX8_undo_3.2.2.2.1
theorem dX8_undo_60 : decode cX8_undo 60 = .ok (.iastore, 1) := DX8_undo_3.2.2.2.2.1
theorem dX8_undo_61 : decode cX8_undo 61 = .ok (.iinc 1 1, 3) := DX8_undo_3.2.2.2.2.2.1
theorem dX8_undo_64 : decode cX8_undo 64 = .ok (.goto (-31), 3) := DX8_undo_3.2.2.2.2.2.2.1
theorem dX8_undo_67 : decode cX8_undo 67 = .ok (.aload_n 0, 1) := DX8_undo_3.2.2.2.2.2.2.2.1
theorem dX8_undo_68 : decode cX8_undo 68 = .ok (.aload_n 0, 1) := DX8_undo_3.2.2.2.2.2.2.2.2.1
theorem dX8_undo_69 : decode cX8_undo 69 = .ok (.getfield 22, 3) := DX8_undo_3.2.2.2.2.2.2.2.2.2
set_option maxRecDepth 100000 in
theorem DX8_undo_4 : decode cX8_undo 72 = .ok (.aload_n 0, 1) ∧ decode cX8_undo 73 = .ok (.getfield 55, 3) ∧ decode cX8_undo 76 = .ok (.laload, 1) ∧ decode cX8_undo 77 = .ok (.putfield 15, 3) ∧ decode cX8_undo 80 = .ok (.aload_n 0, 1) ∧ decode cX8_undo 81 = .ok (.getfield 55, 3) ∧ decode cX8_undo 84 = .ok (.ireturn, 1) := by decide +kernel
theorem dX8_undo_72 : decode cX8_undo 72 = .ok (.aload_n 0, 1) := DX8_undo_4.1
theorem dX8_undo_73 : decode cX8_undo 73 = .ok (.getfield 55, 3) := DX8_undo_4.2.1
theorem dX8_undo_76 : decode cX8_undo 76 = .ok (.laload, 1) := DX8_undo_4.2.2.1
theorem dX8_undo_77 : decode cX8_undo 77 = .ok (.putfield 15, 3) := DX8_undo_4.2.2.2.1
theorem dX8_undo_80 : decode cX8_undo 80 = .ok (.aload_n 0, 1) := DX8_undo_4.2.2.2.2.1
theorem dX8_undo_81 : decode cX8_undo 81 = .ok (.getfield 55, 3) := DX8_undo_4.2.2.2.2.2.1
theorem dX8_undo_84 : decode cX8_undo 84 = .ok (.ireturn, 1) := DX8_undo_4.2.2.2.2.2.2
set_option maxRecDepth 100000 in
theorem DX8_hashes_0 : decode cX8_hashes 0 = .ok (.aload_n 0, 1) ∧ decode cX8_hashes 1 = .ok (.ldc2_w 234, 3) ∧ decode cX8_hashes 4 = .ok (.aload_n 0, 1) ∧ decode cX8_hashes 5 = .ok (.getfield 245, 3) ∧ decode cX8_hashes 8 = .ok (.lmul, 1) ∧ decode cX8_hashes 9 = .ok (.lload_n 1, 1) ∧ decode cX8_hashes 10 = .ok (.ladd, 1) ∧ decode cX8_hashes 11 = .ok (.putfield 245, 3) ∧ decode cX8_hashes 14 = .ok (.return_, 1) := by decide +kernel
theorem dX8_hashes_0 : decode cX8_hashes 0 = .ok (.aload_n 0, 1) := DX8_hashes_0.1
theorem dX8_hashes_1 : decode cX8_hashes 1 = .ok (.ldc2_w 234, 3) := DX8_hashes_0.2.1
theorem dX8_hashes_4 : decode cX8_hashes 4 = .ok (.aload_n 0, 1) := DX8_hashes_0.2.2.1
theorem dX8_hashes_5 : decode cX8_hashes 5 = .ok (.getfield 245, 3) := DX8_hashes_0.2.2.2.1
theorem dX8_hashes_8 : decode cX8_hashes 8 = .ok (.lmul, 1) := DX8_hashes_0.2.2.2.2.1
theorem dX8_hashes_9 : decode cX8_hashes 9 = .ok (.lload_n 1, 1) := DX8_hashes_0.2.2.2.2.2.1
theorem dX8_hashes_10 : decode cX8_hashes 10 = .ok (.ladd, 1) := DX8_hashes_0.2.2.2.2.2.2.1
theorem dX8_hashes_11 : decode cX8_hashes 11 = .ok (.putfield 245, 3) := DX8_hashes_0.2.2.2.2.2.2.2.1
theorem dX8_hashes_14 : decode cX8_hashes 14 = .ok (.return_, 1) := DX8_hashes_0.2.2.2.2.2.2.2.2
set_option maxRecDepth 100000 in
theorem DX8_hashesRow_0 : decode cX8_hashesRow 0 = .ok (.iconst 0, 1) ∧ decode cX8_hashesRow 1 = .ok (.istore_n 3, 1) ∧ decode cX8_hashesRow 2 = .ok (.iload_n 3, 1) ∧ decode cX8_hashesRow 3 = .ok (.iload_n 2, 1) ∧ decode cX8_hashesRow 4 = .ok (.if_icmp .ge 22, 3) ∧ decode cX8_hashesRow 7 = .ok (.aload_n 0, 1) ∧ decode cX8_hashesRow 8 = .ok (.aload_n 0, 1) ∧ decode cX8_hashesRow 9 = .ok (.getfield 7, 3) ∧ decode cX8_hashesRow 12 = .ok (.iload_n 1, 1) ∧ decode cX8_hashesRow 13 = .ok (.iload_n 3, 1) := by decide +kernel
theorem dX8_hashesRow_0 : decode cX8_hashesRow 0 = .ok (.iconst 0, 1) := DX8_hashesRow_0.1
theorem dX8_hashesRow_1 : decode cX8_hashesRow 1 = .ok (.istore_n 3, 1) := DX8_hashesRow_0.2.1
theorem dX8_hashesRow_2 : decode cX8_hashesRow 2 = .ok (.iload_n 3, 1) := DX8_hashesRow_0.2.2.1
theorem dX8_hashesRow_3 : decode cX8_hashesRow 3 = .ok (.iload_n 2, 1) := DX8_hashesRow_0.2.2.2.1
theorem dX8_hashesRow_4 : decode cX8_hashesRow 4 = .ok (.if_icmp .ge 22, 3) := DX8_hashesRow_0.2.2.2.2.1
theorem dX8_hashesRow_7 : decode cX8_hashesRow 7 = .ok (.aload_n 0, 1) := DX8_hashesRow_0.2.2.2.2.2.1
theorem dX8_hashesRow_8 : decode cX8_hashesRow 8 = .ok (.aload_n 0, 1) := DX8_hashesRow_0.2.2.2.2.2.2.1
theorem dX8_hashesRow_9 : decode cX8_hashesRow 9 = .ok (.getfield 7, 3) := DX8_hashesRow_0.2.2.2.2.2.2.2.1
theorem dX8_hashesRow_12 : decode cX8_hashesRow 12 = .ok (.iload_n 1, 1) := DX8_hashesRow_0.2.2.2.2.2.2.2.2.1
theorem dX8_hashesRow_13 : decode cX8_hashesRow 13 = .ok (.iload_n 3, 1) := DX8_hashesRow_0.2.2.2.2.2.2.2.2.2
set_option maxRecDepth 100000 in
theorem DX8_hashesRow_1 : decode cX8_hashesRow 14 = .ok (.iadd, 1) ∧ decode cX8_hashesRow 15 = .ok (.iaload, 1) ∧ decode cX8_hashesRow 16 = .ok (.i2l, 1) ∧ decode cX8_hashesRow 17 = .ok (.invokevirtual 248, 3) ∧ decode cX8_hashesRow 20 = .ok (.iinc 3 1, 3) ∧ decode cX8_hashesRow 23 = .ok (.goto (-21), 3) ∧ decode cX8_hashesRow 26 = .ok (.return_, 1) := by decide +kernel
theorem dX8_hashesRow_14 : decode cX8_hashesRow 14 = .ok (.iadd, 1) := DX8_hashesRow_1.1
theorem dX8_hashesRow_15 : decode cX8_hashesRow 15 = .ok (.iaload, 1) := DX8_hashesRow_1.2.1
theorem dX8_hashesRow_16 : decode cX8_hashesRow 16 = .ok (.i2l, 1) := DX8_hashesRow_1.2.2.1
theorem dX8_hashesRow_17 : decode cX8_hashesRow 17 = .ok (.invokevirtual 248, 3) := DX8_hashesRow_1.2.2.2.1
theorem dX8_hashesRow_20 : decode cX8_hashesRow 20 = .ok (.iinc 3 1, 3) := DX8_hashesRow_1.2.2.2.2.1
theorem dX8_hashesRow_23 : decode cX8_hashesRow 23 = .ok (.goto (-21), 3) := DX8_hashesRow_1.2.2.2.2.2.1
theorem dX8_hashesRow_26 : decode cX8_hashesRow 26 = .ok (.return_, 1) := DX8_hashesRow_1.2.2.2.2.2.2
set_option maxRecDepth 100000 in
theorem DX8_digest_0 : decode cX8_digest 0 = .ok (.aload_n 0, 1) ∧ decode cX8_digest 1 = .ok (.iconst 0, 1) ∧ decode cX8_digest 2 = .ok (.putfield 39, 3) ∧ decode cX8_digest 5 = .ok (.aload_n 0, 1) ∧ decode cX8_digest 6 = .ok (.ldc2_w 252, 3) ∧ decode cX8_digest 9 = .ok (.putfield 245, 3) ∧ decode cX8_digest 12 = .ok (.aload_n 0, 1) ∧ decode cX8_digest 13 = .ok (.aload_n 0, 1) ∧ decode cX8_digest 14 = .ok (.getfield 55, 3) ∧ decode cX8_digest 17 = .ok (.i2l, 1) := by decide +kernel
theorem dX8_digest_0 : decode cX8_digest 0 = .ok (.aload_n 0, 1) := DX8_digest_0.1
theorem dX8_digest_1 : decode cX8_digest 1 = .ok (.iconst 0, 1) := DX8_digest_0.2.1
theorem dX8_digest_2 : decode cX8_digest 2 = .ok (.putfield 39, 3) := DX8_digest_0.2.2.1
theorem dX8_digest_5 : decode cX8_digest 5 = .ok (.aload_n 0, 1) := DX8_digest_0.2.2.2.1
theorem dX8_digest_6 : decode cX8_digest 6 = .ok (.ldc2_w 252, 3) := DX8_digest_0.2.2.2.2.1
theorem dX8_digest_9 : decode cX8_digest 9 = .ok (.putfield 245, 3) := DX8_digest_0.2.2.2.2.2.1
theorem dX8_digest_12 : decode cX8_digest 12 = .ok (.aload_n 0, 1) := DX8_digest_0.2.2.2.2.2.2.1
theorem dX8_digest_13 : decode cX8_digest 13 = .ok (.aload_n 0, 1) := DX8_digest_0.2.2.2.2.2.2.2.1
theorem dX8_digest_14 : decode cX8_digest 14 = .ok (.getfield 55, 3) := DX8_digest_0.2.2.2.2.2.2.2.2.1
theorem dX8_digest_17 : decode cX8_digest 17 = .ok (.i2l, 1) := DX8_digest_0.2.2.2.2.2.2.2.2.2
set_option maxRecDepth 100000 in
theorem DX8_digest_1 : decode cX8_digest 18 = .ok (.invokevirtual 248, 3) ∧ decode cX8_digest 21 = .ok (.aload_n 0, 1) ∧ decode cX8_digest 22 = .ok (.iconst 0, 1) ∧ decode cX8_digest 23 = .ok (.bipush 8, 2) ∧ decode cX8_digest 25 = .ok (.invokevirtual 254, 3) ∧ decode cX8_digest 28 = .ok (.aload_n 0, 1) ∧ decode cX8_digest 29 = .ok (.aload_n 0, 1) ∧ decode cX8_digest 30 = .ok (.getfield 15, 3) ∧ decode cX8_digest 33 = .ok (.invokevirtual 248, 3) ∧ decode cX8_digest 36 = .ok (.aload_n 0, 1) := by decide +kernel
theorem dX8_digest_18 : decode cX8_digest 18 = .ok (.invokevirtual 248, 3) := DX8_digest_1.1
theorem dX8_digest_21 : decode cX8_digest 21 = .ok (.aload_n 0, 1) := DX8_digest_1.2.1
theorem dX8_digest_22 : decode cX8_digest 22 = .ok (.iconst 0, 1) := DX8_digest_1.2.2.1
theorem dX8_digest_23 : decode cX8_digest 23 = .ok (.bipush 8, 2) := DX8_digest_1.2.2.2.1
theorem dX8_digest_25 : decode cX8_digest 25 = .ok (.invokevirtual 254, 3) := DX8_digest_1.2.2.2.2.1
theorem dX8_digest_28 : decode cX8_digest 28 = .ok (.aload_n 0, 1) := DX8_digest_1.2.2.2.2.2.1
theorem dX8_digest_29 : decode cX8_digest 29 = .ok (.aload_n 0, 1) := DX8_digest_1.2.2.2.2.2.2.1
theorem dX8_digest_30 : decode cX8_digest 30 = .ok (.getfield 15, 3) := DX8_digest_1.2.2.2.2.2.2.2.1
theorem dX8_digest_33 : decode cX8_digest 33 = .ok (.invokevirtual 248, 3) := DX8_digest_1.2.2.2.2.2.2.2.2.1
theorem dX8_digest_36 : decode cX8_digest 36 = .ok (.aload_n 0, 1) := DX8_digest_1.2.2.2.2.2.2.2.2.2
set_option maxRecDepth 100000 in
theorem DX8_digest_2 : decode cX8_digest 37 = .ok (.bipush 9, 2) ∧ decode cX8_digest 39 = .ok (.bipush 24, 2) ∧ decode cX8_digest 41 = .ok (.invokevirtual 254, 3) ∧ decode cX8_digest 44 = .ok (.aload_n 0, 1) ∧ decode cX8_digest 45 = .ok (.bipush 8, 2) ∧ decode cX8_digest 47 = .ok (.iconst 1, 1) ∧ decode cX8_digest 48 = .ok (.invokevirtual 254, 3) ∧ decode cX8_digest 51 = .ok (.aload_n 0, 1) ∧ decode cX8_digest 52 = .ok (.bipush 33, 2) ∧ decode cX8_digest 54 = .ok (.bipush 9, 2) := by decide +kernel
theorem dX8_digest_37 : decode cX8_digest 37 = .ok (.bipush 9, 2) := DX8_digest_2.1
theorem dX8_digest_39 : decode cX8_digest 39 = .ok (.bipush 24, 2) := DX8_digest_2.2.1
theorem dX8_digest_41 : decode cX8_digest 41 = .ok (.invokevirtual 254, 3) := DX8_digest_2.2.2.1
theorem dX8_digest_44 : decode cX8_digest 44 = .ok (.aload_n 0, 1) := DX8_digest_2.2.2.2.1
theorem dX8_digest_45 : decode cX8_digest 45 = .ok (.bipush 8, 2) := DX8_digest_2.2.2.2.2.1
theorem dX8_digest_47 : decode cX8_digest 47 = .ok (.iconst 1, 1) := DX8_digest_2.2.2.2.2.2.1
theorem dX8_digest_48 : decode cX8_digest 48 = .ok (.invokevirtual 254, 3) := DX8_digest_2.2.2.2.2.2.2.1
theorem dX8_digest_51 : decode cX8_digest 51 = .ok (.aload_n 0, 1) := DX8_digest_2.2.2.2.2.2.2.2.1
theorem dX8_digest_52 : decode cX8_digest 52 = .ok (.bipush 33, 2) := DX8_digest_2.2.2.2.2.2.2.2.2.1
theorem dX8_digest_54 : decode cX8_digest 54 = .ok (.bipush 9, 2) := DX8_digest_2.2.2.2.2.2.2.2.2.2
set_option maxRecDepth 100000 in
theorem DX8_digest_3 : decode cX8_digest 56 = .ok (.aload_n 0, 1) ∧ decode cX8_digest 57 = .ok (.getfield 7, 3) ∧ decode cX8_digest 60 = .ok (.bipush 8, 2) ∧ decode cX8_digest 62 = .ok (.iaload, 1) ∧ decode cX8_digest 63 = .ok (.imul, 1) ∧ decode cX8_digest 64 = .ok (.invokevirtual 254, 3) ∧ decode cX8_digest 67 = .ok (.iconst 0, 1) ∧ decode cX8_digest 68 = .ok (.istore_n 1, 1) ∧ decode cX8_digest 69 = .ok (.iload_n 1, 1) ∧ decode cX8_digest 70 = .ok (.iconst 4, 1) := by decide +kernel
theorem dX8_digest_56 : decode cX8_digest 56 = .ok (.aload_n 0, 1) := DX8_digest_3.1
theorem dX8_digest_57 : decode cX8_digest 57 = .ok (.getfield 7, 3) := DX8_digest_3.2.1
theorem dX8_digest_60 : decode cX8_digest 60 = .ok (.bipush 8, 2) := DX8_digest_3.2.2.1
theorem dX8_digest_62 : decode cX8_digest 62 = .ok (.iaload, 1) := DX8_digest_3.2.2.2.1
theorem dX8_digest_63 : decode cX8_digest 63 = .ok (.imul, 1) := DX8_digest_3.2.2.2.2.1
theorem dX8_digest_64 : decode cX8_digest 64 = .ok (.invokevirtual 254, 3) := DX8_digest_3.2.2.2.2.2.1
theorem dX8_digest_67 : decode cX8_digest 67 = .ok (.iconst 0, 1) := DX8_digest_3.2.2.2.2.2.2.1
theorem dX8_digest_68 : decode cX8_digest 68 = .ok (.istore_n 1, 1) := DX8_digest_3.2.2.2.2.2.2.2.1
theorem dX8_digest_69 : decode cX8_digest 69 = .ok (.iload_n 1, 1) := DX8_digest_3.2.2.2.2.2.2.2.2.1
theorem dX8_digest_70 : decode cX8_digest 70 = .ok (.iconst 4, 1) := DX8_digest_3.2.2.2.2.2.2.2.2.2
set_option maxRecDepth 100000 in
theorem DX8_digest_4 : decode cX8_digest 71 = .ok (.if_icmp .ge 64, 3) ∧ decode cX8_digest 74 = .ok (.aload_n 0, 1) ∧ decode cX8_digest 75 = .ok (.iload_n 1, 1) ∧ decode cX8_digest 76 = .ok (.invokestatic 35, 3) ∧ decode cX8_digest 79 = .ok (.iconst 5, 1) ∧ decode cX8_digest 80 = .ok (.iconst 3, 1) ∧ decode cX8_digest 81 = .ok (.aload_n 0, 1) ∧ decode cX8_digest 82 = .ok (.getfield 7, 3) ∧ decode cX8_digest 85 = .ok (.iload_n 1, 1) ∧ decode cX8_digest 86 = .ok (.invokestatic 35, 3) := by decide +kernel
theorem dX8_digest_71 : decode cX8_digest 71 = .ok (.if_icmp .ge 64, 3) := DX8_digest_4.1
theorem dX8_digest_74 : decode cX8_digest 74 = .ok (.aload_n 0, 1) := DX8_digest_4.2.1
theorem dX8_digest_75 : decode cX8_digest 75 = .ok (.iload_n 1, 1) := DX8_digest_4.2.2.1
theorem dX8_digest_76 : decode cX8_digest 76 = .ok (.invokestatic 35, 3) := DX8_digest_4.2.2.2.1
theorem dX8_digest_79 : decode cX8_digest 79 = .ok (.iconst 5, 1) := DX8_digest_4.2.2.2.2.1
theorem dX8_digest_80 : decode cX8_digest 80 = .ok (.iconst 3, 1) := DX8_digest_4.2.2.2.2.2.1
theorem dX8_digest_81 : decode cX8_digest 81 = .ok (.aload_n 0, 1) := DX8_digest_4.2.2.2.2.2.2.1
theorem dX8_digest_82 : decode cX8_digest 82 = .ok (.getfield 7, 3) := DX8_digest_4.2.2.2.2.2.2.2.1
theorem dX8_digest_85 : decode cX8_digest 85 = .ok (.iload_n 1, 1) := DX8_digest_4.2.2.2.2.2.2.2.2.1
theorem dX8_digest_86 : decode cX8_digest 86 = .ok (.invokestatic 35, 3) := DX8_digest_4.2.2.2.2.2.2.2.2.2
set_option maxRecDepth 100000 in
theorem DX8_digest_5 : decode cX8_digest 89 = .ok (.iconst 4, 1) ∧ decode cX8_digest 90 = .ok (.iadd, 1) ∧ decode cX8_digest 91 = .ok (.iaload, 1) ∧ decode cX8_digest 92 = .ok (.imul, 1) ∧ decode cX8_digest 93 = .ok (.iadd, 1) ∧ decode cX8_digest 94 = .ok (.invokevirtual 254, 3) ∧ decode cX8_digest 97 = .ok (.aload_n 0, 1) ∧ decode cX8_digest 98 = .ok (.iload_n 1, 1) ∧ decode cX8_digest 99 = .ok (.invokestatic 35, 3) ∧ decode cX8_digest 102 = .ok (.bipush 29, 2) := by decide +kernel
theorem dX8_digest_89 : decode cX8_digest 89 = .ok (.iconst 4, 1) := DX8_digest_5.1
theorem dX8_digest_90 : decode cX8_digest 90 = .ok (.iadd, 1) := DX8_digest_5.2.1
theorem dX8_digest_91 : decode cX8_digest 91 = .ok (.iaload, 1) := DX8_digest_5.2.2.1
theorem dX8_digest_92 : decode cX8_digest 92 = .ok (.imul, 1) := DX8_digest_5.2.2.2.1
theorem dX8_digest_93 : decode cX8_digest 93 = .ok (.iadd, 1) := DX8_digest_5.2.2.2.2.1
theorem dX8_digest_94 : decode cX8_digest 94 = .ok (.invokevirtual 254, 3) := DX8_digest_5.2.2.2.2.2.1
theorem dX8_digest_97 : decode cX8_digest 97 = .ok (.aload_n 0, 1) := DX8_digest_5.2.2.2.2.2.2.1
theorem dX8_digest_98 : decode cX8_digest 98 = .ok (.iload_n 1, 1) := DX8_digest_5.2.2.2.2.2.2.2.1
theorem dX8_digest_99 : decode cX8_digest 99 = .ok (.invokestatic 35, 3) := DX8_digest_5.2.2.2.2.2.2.2.2.1
theorem dX8_digest_102 : decode cX8_digest 102 = .ok (.bipush 29, 2) := DX8_digest_5.2.2.2.2.2.2.2.2.2
set_option maxRecDepth 100000 in
theorem DX8_digest_6 : decode cX8_digest 104 = .ok (.iadd, 1) ∧ decode cX8_digest 105 = .ok (.aload_n 0, 1) ∧ decode cX8_digest 106 = .ok (.getfield 7, 3) ∧ decode cX8_digest 109 = .ok (.iload_n 1, 1) ∧ decode cX8_digest 110 = .ok (.invokestatic 35, 3) ∧ decode cX8_digest 113 = .ok (.bipush 29, 2) ∧ decode cX8_digest 115 = .ok (.iadd, 1) ∧ decode cX8_digest 116 = .ok (.iaload, 1) ∧ decode cX8_digest 117 = .ok (.iconst (-1), 1) ∧ decode cX8_digest 118 = .ok (.if_icmp .ne 7, 3) := by decide +kernel
theorem dX8_digest_104 : decode cX8_digest 104 = .ok (.iadd, 1) := DX8_digest_6.1
theorem dX8_digest_105 : decode cX8_digest 105 = .ok (.aload_n 0, 1) := DX8_digest_6.2.1
theorem dX8_digest_106 : decode cX8_digest 106 = .ok (.getfield 7, 3) := DX8_digest_6.2.2.1
theorem dX8_digest_109 : decode cX8_digest 109 = .ok (.iload_n 1, 1) := DX8_digest_6.2.2.2.1
theorem dX8_digest_110 : decode cX8_digest 110 = .ok (.invokestatic 35, 3) := DX8_digest_6.2.2.2.2.1
theorem dX8_digest_113 : decode cX8_digest 113 = .ok (.bipush 29, 2) := DX8_digest_6.2.2.2.2.2.1
theorem dX8_digest_115 : decode cX8_digest 115 = .ok (.iadd, 1) := DX8_digest_6.2.2.2.2.2.2.1
theorem dX8_digest_116 : decode cX8_digest 116 = .ok (.iaload, 1) := DX8_digest_6.2.2.2.2.2.2.2.1
theorem dX8_digest_117 : decode cX8_digest 117 = .ok (.iconst (-1), 1) := DX8_digest_6.2.2.2.2.2.2.2.2.1
theorem dX8_digest_118 : decode cX8_digest 118 = .ok (.if_icmp .ne 7, 3) := DX8_digest_6.2.2.2.2.2.2.2.2.2
set_option maxRecDepth 100000 in
theorem DX8_digest_7 : decode cX8_digest 121 = .ok (.iconst 1, 1) ∧ decode cX8_digest 122 = .ok (.goto 4, 3) ∧ decode cX8_digest 125 = .ok (.iconst 5, 1) ∧ decode cX8_digest 126 = .ok (.invokevirtual 254, 3) ∧ decode cX8_digest 129 = .ok (.iinc 1 1, 3) ∧ decode cX8_digest 132 = .ok (.goto (-63), 3) ∧ decode cX8_digest 135 = .ok (.aload_n 0, 1) ∧ decode cX8_digest 136 = .ok (.bipush 99, 2) ∧ decode cX8_digest 138 = .ok (.invokevirtual 228, 3) ∧ decode cX8_digest 141 = .ok (.iconst 0, 1) := by decide +kernel
theorem dX8_digest_121 : decode cX8_digest 121 = .ok (.iconst 1, 1) := DX8_digest_7.1
theorem dX8_digest_122 : decode cX8_digest 122 = .ok (.goto 4, 3) := DX8_digest_7.2.1
theorem dX8_digest_125 : decode cX8_digest 125 = .ok (.iconst 5, 1) := DX8_digest_7.2.2.1
theorem dX8_digest_126 : decode cX8_digest 126 = .ok (.invokevirtual 254, 3) := DX8_digest_7.2.2.2.1
theorem dX8_digest_129 : decode cX8_digest 129 = .ok (.iinc 1 1, 3) := DX8_digest_7.2.2.2.2.1
theorem dX8_digest_132 : decode cX8_digest 132 = .ok (.goto (-63), 3) := DX8_digest_7.2.2.2.2.2.1
theorem dX8_digest_135 : decode cX8_digest 135 = .ok (.aload_n 0, 1) := DX8_digest_7.2.2.2.2.2.2.1
theorem dX8_digest_136 : decode cX8_digest 136 = .ok (.bipush 99, 2) := DX8_digest_7.2.2.2.2.2.2.2.1
theorem dX8_digest_138 : decode cX8_digest 138 = .ok (.invokevirtual 228, 3) := DX8_digest_7.2.2.2.2.2.2.2.2.1
theorem dX8_digest_141 : decode cX8_digest 141 = .ok (.iconst 0, 1) := DX8_digest_7.2.2.2.2.2.2.2.2.2
set_option maxRecDepth 100000 in
theorem DX8_digest_8 : decode cX8_digest 142 = .ok (.istore_n 1, 1) ∧ decode cX8_digest 143 = .ok (.iload_n 1, 1) ∧ decode cX8_digest 144 = .ok (.sipush 4000, 3) ∧ decode cX8_digest 147 = .ok (.if_icmp .ge 32, 3) ∧ decode cX8_digest 150 = .ok (.aload_n 0, 1) ∧ decode cX8_digest 151 = .ok (.iload_n 1, 1) ∧ decode cX8_digest 152 = .ok (.invokevirtual 231, 3) ∧ decode cX8_digest 155 = .ok (.aload_n 0, 1) ∧ decode cX8_digest 156 = .ok (.aload_n 0, 1) ∧ decode cX8_digest 157 = .ok (.getfield 222, 3) := by decide +kernel
theorem dX8_digest_142 : decode cX8_digest 142 = .ok (.istore_n 1, 1) := DX8_digest_8.1
theorem dX8_digest_143 : decode cX8_digest 143 = .ok (.iload_n 1, 1) := DX8_digest_8.2.1
theorem dX8_digest_144 : decode cX8_digest 144 = .ok (.sipush 4000, 3) := DX8_digest_8.2.2.1
theorem dX8_digest_147 : decode cX8_digest 147 = .ok (.if_icmp .ge 32, 3) := DX8_digest_8.2.2.2.1
theorem dX8_digest_150 : decode cX8_digest 150 = .ok (.aload_n 0, 1) := DX8_digest_8.2.2.2.2.1
theorem dX8_digest_151 : decode cX8_digest 151 = .ok (.iload_n 1, 1) := DX8_digest_8.2.2.2.2.2.1
theorem dX8_digest_152 : decode cX8_digest 152 = .ok (.invokevirtual 231, 3) := DX8_digest_8.2.2.2.2.2.2.1
theorem dX8_digest_155 : decode cX8_digest 155 = .ok (.aload_n 0, 1) := DX8_digest_8.2.2.2.2.2.2.2.1
theorem dX8_digest_156 : decode cX8_digest 156 = .ok (.aload_n 0, 1) := DX8_digest_8.2.2.2.2.2.2.2.2.1
theorem dX8_digest_157 : decode cX8_digest 157 = .ok (.getfield 222, 3) := DX8_digest_8.2.2.2.2.2.2.2.2.2
set_option maxRecDepth 100000 in
theorem DX8_digest_9 : decode cX8_digest 160 = .ok (.i2l, 1) ∧ decode cX8_digest 161 = .ok (.invokevirtual 248, 3) ∧ decode cX8_digest 164 = .ok (.aload_n 0, 1) ∧ decode cX8_digest 165 = .ok (.aload_n 0, 1) ∧ decode cX8_digest 166 = .ok (.getfield 225, 3) ∧ decode cX8_digest 169 = .ok (.i2l, 1) ∧ decode cX8_digest 170 = .ok (.invokevirtual 248, 3) ∧ decode cX8_digest 173 = .ok (.iinc 1 50, 3) ∧ decode cX8_digest 176 = .ok (.goto (-33), 3) ∧ decode cX8_digest 179 = .ok (.aload_n 0, 1) := by decide +kernel
theorem dX8_digest_160 : decode cX8_digest 160 = .ok (.i2l, 1) := DX8_digest_9.1
theorem dX8_digest_161 : decode cX8_digest 161 = .ok (.invokevirtual 248, 3) := DX8_digest_9.2.1
theorem dX8_digest_164 : decode cX8_digest 164 = .ok (.aload_n 0, 1) := DX8_digest_9.2.2.1
theorem dX8_digest_165 : decode cX8_digest 165 = .ok (.aload_n 0, 1) := DX8_digest_9.2.2.2.1
theorem dX8_digest_166 : decode cX8_digest 166 = .ok (.getfield 225, 3) := DX8_digest_9.2.2.2.2.1
theorem dX8_digest_169 : decode cX8_digest 169 = .ok (.i2l, 1) := DX8_digest_9.2.2.2.2.2.1
theorem dX8_digest_170 : decode cX8_digest 170 = .ok (.invokevirtual 248, 3) := DX8_digest_9.2.2.2.2.2.2.1
theorem dX8_digest_173 : decode cX8_digest 173 = .ok (.iinc 1 50, 3) := DX8_digest_9.2.2.2.2.2.2.2.1
theorem dX8_digest_176 : decode cX8_digest 176 = .ok (.goto (-33), 3) := DX8_digest_9.2.2.2.2.2.2.2.2.1
theorem dX8_digest_179 : decode cX8_digest 179 = .ok (.aload_n 0, 1) := DX8_digest_9.2.2.2.2.2.2.2.2.2
set_option maxRecDepth 100000 in
theorem DX8_digest_10 : decode cX8_digest 180 = .ok (.getfield 245, 3) ∧ decode cX8_digest 183 = .ok (.lreturn, 1) := by decide +kernel
theorem dX8_digest_180 : decode cX8_digest 180 = .ok (.getfield 245, 3) := DX8_digest_10.1
theorem dX8_digest_183 : decode cX8_digest 183 = .ok (.lreturn, 1) := DX8_digest_10.2
set_option maxRecDepth 100000 in
theorem DL_setSource_0 : decode cL_setSource 0 = .ok (.aload 6, 2) ∧ decode cL_setSource 2 = .ok (.iconst 0, 1) ∧ decode cL_setSource 3 = .ok (.aload_n 0, 1) ∧ decode cL_setSource 4 = .ok (.iload_n 1, 1) ∧ decode cL_setSource 5 = .ok (.iload_n 2, 1) ∧ decode cL_setSource 6 = .ok (.iload_n 3, 1) ∧ decode cL_setSource 7 = .ok (.iload 4, 2) ∧ decode cL_setSource 9 = .ok (.iload 5, 2) ∧ decode cL_setSource 11 = .ok (.invokevirtual 7, 3) ∧ decode cL_setSource 14 = .ok (.i2l, 1) := by decide +kernel
theorem dL_setSource_0 : decode cL_setSource 0 = .ok (.aload 6, 2) := DL_setSource_0.1
theorem dL_setSource_2 : decode cL_setSource 2 = .ok (.iconst 0, 1) := DL_setSource_0.2.1
theorem dL_setSource_3 : decode cL_setSource 3 = .ok (.aload_n 0, 1) := DL_setSource_0.2.2.1
theorem dL_setSource_4 : decode cL_setSource 4 = .ok (.iload_n 1, 1) := DL_setSource_0.2.2.2.1
theorem dL_setSource_5 : decode cL_setSource 5 = .ok (.iload_n 2, 1) := DL_setSource_0.2.2.2.2.1
theorem dL_setSource_6 : decode cL_setSource 6 = .ok (.iload_n 3, 1) := DL_setSource_0.2.2.2.2.2.1
theorem dL_setSource_7 : decode cL_setSource 7 = .ok (.iload 4, 2) := DL_setSource_0.2.2.2.2.2.2.1
theorem dL_setSource_9 : decode cL_setSource 9 = .ok (.iload 5, 2) := DL_setSource_0.2.2.2.2.2.2.2.1
theorem dL_setSource_11 : decode cL_setSource 11 = .ok (.invokevirtual 7, 3) := DL_setSource_0.2.2.2.2.2.2.2.2.1
theorem dL_setSource_14 : decode cL_setSource 14 = .ok (.i2l, 1) := DL_setSource_0.2.2.2.2.2.2.2.2.2
set_option maxRecDepth 100000 in
theorem DL_setSource_1 : decode cL_setSource 15 = .ok (.lastore, 1) ∧ decode cL_setSource 16 = .ok (.goto 11, 3) ∧ decode cL_setSource 19 = .ok (.astore 7, 2) ∧ decode cL_setSource 21 = .ok (.iconst 1, 1) ∧ decode cL_setSource 22 = .ok (.ireturn, 1) ∧ decode cL_setSource 23 = .ok (.astore 7, 2) ∧ decode cL_setSource 25 = .ok (.iconst 2, 1) ∧ decode cL_setSource 26 = .ok (.ireturn, 1) ∧ decode cL_setSource 27 = .ok (.iconst 0, 1) ∧ decode cL_setSource 28 = .ok (.ireturn, 1) := by decide +kernel
theorem dL_setSource_15 : decode cL_setSource 15 = .ok (.lastore, 1) := DL_setSource_1.1
theorem dL_setSource_16 : decode cL_setSource 16 = .ok (.goto 11, 3) := DL_setSource_1.2.1
theorem dL_setSource_19 : decode cL_setSource 19 = .ok (.astore 7, 2) := DL_setSource_1.2.2.1
theorem dL_setSource_21 : decode cL_setSource 21 = .ok (.iconst 1, 1) := DL_setSource_1.2.2.2.1
theorem dL_setSource_22 : decode cL_setSource 22 = .ok (.ireturn, 1) := DL_setSource_1.2.2.2.2.1
theorem dL_setSource_23 : decode cL_setSource 23 = .ok (.astore 7, 2) := DL_setSource_1.2.2.2.2.2.1
theorem dL_setSource_25 : decode cL_setSource 25 = .ok (.iconst 2, 1) := DL_setSource_1.2.2.2.2.2.2.1
theorem dL_setSource_26 : decode cL_setSource 26 = .ok (.ireturn, 1) := DL_setSource_1.2.2.2.2.2.2.2.1
theorem dL_setSource_27 : decode cL_setSource 27 = .ok (.iconst 0, 1) := DL_setSource_1.2.2.2.2.2.2.2.2.1
theorem dL_setSource_28 : decode cL_setSource 28 = .ok (.ireturn, 1) := DL_setSource_1.2.2.2.2.2.2.2.2.2
set_option maxRecDepth 100000 in
theorem DL_sample_0 : decode cL_sample 0 = .ok (.aload_n 3, 1) ∧ decode cL_sample 1 = .ok (.iconst 0, 1) ∧ decode cL_sample 2 = .ok (.aload_n 0, 1) ∧ decode cL_sample 3 = .ok (.iload_n 1, 1) ∧ decode cL_sample 4 = .ok (.iload_n 2, 1) ∧ decode cL_sample 5 = .ok (.invokevirtual 17, 3) ∧ decode cL_sample 8 = .ok (.i2l, 1) ∧ decode cL_sample 9 = .ok (.lastore, 1) ∧ decode cL_sample 10 = .ok (.goto 7, 3) ∧ decode cL_sample 13 = .ok (.astore 4, 2) := by decide +kernel
theorem dL_sample_0 : decode cL_sample 0 = .ok (.aload_n 3, 1) := DL_sample_0.1
theorem dL_sample_1 : decode cL_sample 1 = .ok (.iconst 0, 1) := DL_sample_0.2.1
theorem dL_sample_2 : decode cL_sample 2 = .ok (.aload_n 0, 1) := DL_sample_0.2.2.1
theorem dL_sample_3 : decode cL_sample 3 = .ok (.iload_n 1, 1) := DL_sample_0.2.2.2.1
theorem dL_sample_4 : decode cL_sample 4 = .ok (.iload_n 2, 1) := DL_sample_0.2.2.2.2.1
theorem dL_sample_5 : decode cL_sample 5 = .ok (.invokevirtual 17, 3) := DL_sample_0.2.2.2.2.2.1
theorem dL_sample_8 : decode cL_sample 8 = .ok (.i2l, 1) := DL_sample_0.2.2.2.2.2.2.1
theorem dL_sample_9 : decode cL_sample 9 = .ok (.lastore, 1) := DL_sample_0.2.2.2.2.2.2.2.1
theorem dL_sample_10 : decode cL_sample 10 = .ok (.goto 7, 3) := DL_sample_0.2.2.2.2.2.2.2.2.1
theorem dL_sample_13 : decode cL_sample 13 = .ok (.astore 4, 2) := DL_sample_0.2.2.2.2.2.2.2.2.2
set_option maxRecDepth 100000 in
theorem DL_sample_1 : decode cL_sample 15 = .ok (.iconst 1, 1) ∧ decode cL_sample 16 = .ok (.ireturn, 1) ∧ decode cL_sample 17 = .ok (.iconst 0, 1) ∧ decode cL_sample 18 = .ok (.ireturn, 1) := by decide +kernel
theorem dL_sample_15 : decode cL_sample 15 = .ok (.iconst 1, 1) := DL_sample_1.1
theorem dL_sample_16 : decode cL_sample 16 = .ok (.ireturn, 1) := DL_sample_1.2.1
theorem dL_sample_17 : decode cL_sample 17 = .ok (.iconst 0, 1) := DL_sample_1.2.2.1
theorem dL_sample_18 : decode cL_sample 18 = .ok (.ireturn, 1) := DL_sample_1.2.2.2
set_option maxRecDepth 100000 in
theorem DL_addClip_0 : decode cL_addClip 0 = .ok (.aload 7, 2) ∧ decode cL_addClip 2 = .ok (.iconst 0, 1) ∧ decode cL_addClip 3 = .ok (.aload_n 0, 1) ∧ decode cL_addClip 4 = .ok (.iload_n 1, 1) ∧ decode cL_addClip 5 = .ok (.iload_n 2, 1) ∧ decode cL_addClip 6 = .ok (.iload_n 3, 1) ∧ decode cL_addClip 7 = .ok (.iload 4, 2) ∧ decode cL_addClip 9 = .ok (.iload 5, 2) ∧ decode cL_addClip 11 = .ok (.iload 6, 2) ∧ decode cL_addClip 13 = .ok (.invokevirtual 21, 3) := by decide +kernel
theorem dL_addClip_0 : decode cL_addClip 0 = .ok (.aload 7, 2) := DL_addClip_0.1
theorem dL_addClip_2 : decode cL_addClip 2 = .ok (.iconst 0, 1) := DL_addClip_0.2.1
theorem dL_addClip_3 : decode cL_addClip 3 = .ok (.aload_n 0, 1) := DL_addClip_0.2.2.1
theorem dL_addClip_4 : decode cL_addClip 4 = .ok (.iload_n 1, 1) := DL_addClip_0.2.2.2.1
theorem dL_addClip_5 : decode cL_addClip 5 = .ok (.iload_n 2, 1) := DL_addClip_0.2.2.2.2.1
theorem dL_addClip_6 : decode cL_addClip 6 = .ok (.iload_n 3, 1) := DL_addClip_0.2.2.2.2.2.1
theorem dL_addClip_7 : decode cL_addClip 7 = .ok (.iload 4, 2) := DL_addClip_0.2.2.2.2.2.2.1
theorem dL_addClip_9 : decode cL_addClip 9 = .ok (.iload 5, 2) := DL_addClip_0.2.2.2.2.2.2.2.1
theorem dL_addClip_11 : decode cL_addClip 11 = .ok (.iload 6, 2) := DL_addClip_0.2.2.2.2.2.2.2.2.1
theorem dL_addClip_13 : decode cL_addClip 13 = .ok (.invokevirtual 21, 3) := DL_addClip_0.2.2.2.2.2.2.2.2.2
set_option maxRecDepth 100000 in
theorem DL_addClip_1 : decode cL_addClip 16 = .ok (.i2l, 1) ∧ decode cL_addClip 17 = .ok (.lastore, 1) ∧ decode cL_addClip 18 = .ok (.goto 15, 3) ∧ decode cL_addClip 21 = .ok (.astore 8, 2) ∧ decode cL_addClip 23 = .ok (.iconst 1, 1) ∧ decode cL_addClip 24 = .ok (.ireturn, 1) ∧ decode cL_addClip 25 = .ok (.astore 8, 2) ∧ decode cL_addClip 27 = .ok (.iconst 2, 1) ∧ decode cL_addClip 28 = .ok (.ireturn, 1) ∧ decode cL_addClip 29 = .ok (.astore 8, 2) := by decide +kernel
theorem dL_addClip_16 : decode cL_addClip 16 = .ok (.i2l, 1) := DL_addClip_1.1
theorem dL_addClip_17 : decode cL_addClip 17 = .ok (.lastore, 1) := DL_addClip_1.2.1
theorem dL_addClip_18 : decode cL_addClip 18 = .ok (.goto 15, 3) := DL_addClip_1.2.2.1
theorem dL_addClip_21 : decode cL_addClip 21 = .ok (.astore 8, 2) := DL_addClip_1.2.2.2.1
theorem dL_addClip_23 : decode cL_addClip 23 = .ok (.iconst 1, 1) := DL_addClip_1.2.2.2.2.1
theorem dL_addClip_24 : decode cL_addClip 24 = .ok (.ireturn, 1) := DL_addClip_1.2.2.2.2.2.1
theorem dL_addClip_25 : decode cL_addClip 25 = .ok (.astore 8, 2) := DL_addClip_1.2.2.2.2.2.2.1
theorem dL_addClip_27 : decode cL_addClip 27 = .ok (.iconst 2, 1) := DL_addClip_1.2.2.2.2.2.2.2.1
theorem dL_addClip_28 : decode cL_addClip 28 = .ok (.ireturn, 1) := DL_addClip_1.2.2.2.2.2.2.2.2.1
theorem dL_addClip_29 : decode cL_addClip 29 = .ok (.astore 8, 2) := DL_addClip_1.2.2.2.2.2.2.2.2.2
set_option maxRecDepth 100000 in
theorem DL_addClip_2 : decode cL_addClip 31 = .ok (.iconst 3, 1) ∧ decode cL_addClip 32 = .ok (.ireturn, 1) ∧ decode cL_addClip 33 = .ok (.iconst 0, 1) ∧ decode cL_addClip 34 = .ok (.ireturn, 1) := by decide +kernel
theorem dL_addClip_31 : decode cL_addClip 31 = .ok (.iconst 3, 1) := DL_addClip_2.1
theorem dL_addClip_32 : decode cL_addClip 32 = .ok (.ireturn, 1) := DL_addClip_2.2.1
theorem dL_addClip_33 : decode cL_addClip 33 = .ok (.iconst 0, 1) := DL_addClip_2.2.2.1
theorem dL_addClip_34 : decode cL_addClip 34 = .ok (.ireturn, 1) := DL_addClip_2.2.2.2
set_option maxRecDepth 100000 in
theorem DL_setFades_0 : decode cL_setFades 0 = .ok (.aload 5, 2) ∧ decode cL_setFades 2 = .ok (.iconst 0, 1) ∧ decode cL_setFades 3 = .ok (.aload_n 0, 1) ∧ decode cL_setFades 4 = .ok (.iload_n 1, 1) ∧ decode cL_setFades 5 = .ok (.iload_n 2, 1) ∧ decode cL_setFades 6 = .ok (.iload_n 3, 1) ∧ decode cL_setFades 7 = .ok (.iload 4, 2) ∧ decode cL_setFades 9 = .ok (.invokevirtual 29, 3) ∧ decode cL_setFades 12 = .ok (.i2l, 1) ∧ decode cL_setFades 13 = .ok (.lastore, 1) := by decide +kernel
theorem dL_setFades_0 : decode cL_setFades 0 = .ok (.aload 5, 2) := DL_setFades_0.1
theorem dL_setFades_2 : decode cL_setFades 2 = .ok (.iconst 0, 1) := DL_setFades_0.2.1
theorem dL_setFades_3 : decode cL_setFades 3 = .ok (.aload_n 0, 1) := DL_setFades_0.2.2.1
theorem dL_setFades_4 : decode cL_setFades 4 = .ok (.iload_n 1, 1) := DL_setFades_0.2.2.2.1
theorem dL_setFades_5 : decode cL_setFades 5 = .ok (.iload_n 2, 1) := DL_setFades_0.2.2.2.2.1
theorem dL_setFades_6 : decode cL_setFades 6 = .ok (.iload_n 3, 1) := DL_setFades_0.2.2.2.2.2.1
theorem dL_setFades_7 : decode cL_setFades 7 = .ok (.iload 4, 2) := DL_setFades_0.2.2.2.2.2.2.1
theorem dL_setFades_9 : decode cL_setFades 9 = .ok (.invokevirtual 29, 3) := DL_setFades_0.2.2.2.2.2.2.2.1
theorem dL_setFades_12 : decode cL_setFades 12 = .ok (.i2l, 1) := DL_setFades_0.2.2.2.2.2.2.2.2.1
theorem dL_setFades_13 : decode cL_setFades 13 = .ok (.lastore, 1) := DL_setFades_0.2.2.2.2.2.2.2.2.2
set_option maxRecDepth 100000 in
theorem DL_setFades_1 : decode cL_setFades 14 = .ok (.goto 11, 3) ∧ decode cL_setFades 17 = .ok (.astore 6, 2) ∧ decode cL_setFades 19 = .ok (.iconst 1, 1) ∧ decode cL_setFades 20 = .ok (.ireturn, 1) ∧ decode cL_setFades 21 = .ok (.astore 6, 2) ∧ decode cL_setFades 23 = .ok (.iconst 2, 1) ∧ decode cL_setFades 24 = .ok (.ireturn, 1) ∧ decode cL_setFades 25 = .ok (.iconst 0, 1) ∧ decode cL_setFades 26 = .ok (.ireturn, 1) := by decide +kernel
theorem dL_setFades_14 : decode cL_setFades 14 = .ok (.goto 11, 3) := DL_setFades_1.1
theorem dL_setFades_17 : decode cL_setFades 17 = .ok (.astore 6, 2) := DL_setFades_1.2.1
theorem dL_setFades_19 : decode cL_setFades 19 = .ok (.iconst 1, 1) := DL_setFades_1.2.2.1
theorem dL_setFades_20 : decode cL_setFades 20 = .ok (.ireturn, 1) := DL_setFades_1.2.2.2.1
theorem dL_setFades_21 : decode cL_setFades 21 = .ok (.astore 6, 2) := DL_setFades_1.2.2.2.2.1
theorem dL_setFades_23 : decode cL_setFades 23 = .ok (.iconst 2, 1) := DL_setFades_1.2.2.2.2.2.1
theorem dL_setFades_24 : decode cL_setFades 24 = .ok (.ireturn, 1) := DL_setFades_1.2.2.2.2.2.2.1
theorem dL_setFades_25 : decode cL_setFades 25 = .ok (.iconst 0, 1) := DL_setFades_1.2.2.2.2.2.2.2.1
theorem dL_setFades_26 : decode cL_setFades 26 = .ok (.ireturn, 1) := DL_setFades_1.2.2.2.2.2.2.2.2
set_option maxRecDepth 100000 in
theorem DL_moveClip_0 : decode cL_moveClip 0 = .ok (.aload_n 3, 1) ∧ decode cL_moveClip 1 = .ok (.iconst 0, 1) ∧ decode cL_moveClip 2 = .ok (.aload_n 0, 1) ∧ decode cL_moveClip 3 = .ok (.iload_n 1, 1) ∧ decode cL_moveClip 4 = .ok (.iload_n 2, 1) ∧ decode cL_moveClip 5 = .ok (.invokevirtual 33, 3) ∧ decode cL_moveClip 8 = .ok (.i2l, 1) ∧ decode cL_moveClip 9 = .ok (.lastore, 1) ∧ decode cL_moveClip 10 = .ok (.goto 15, 3) ∧ decode cL_moveClip 13 = .ok (.astore 4, 2) := by decide +kernel
theorem dL_moveClip_0 : decode cL_moveClip 0 = .ok (.aload_n 3, 1) := DL_moveClip_0.1
theorem dL_moveClip_1 : decode cL_moveClip 1 = .ok (.iconst 0, 1) := DL_moveClip_0.2.1
theorem dL_moveClip_2 : decode cL_moveClip 2 = .ok (.aload_n 0, 1) := DL_moveClip_0.2.2.1
theorem dL_moveClip_3 : decode cL_moveClip 3 = .ok (.iload_n 1, 1) := DL_moveClip_0.2.2.2.1
theorem dL_moveClip_4 : decode cL_moveClip 4 = .ok (.iload_n 2, 1) := DL_moveClip_0.2.2.2.2.1
theorem dL_moveClip_5 : decode cL_moveClip 5 = .ok (.invokevirtual 33, 3) := DL_moveClip_0.2.2.2.2.2.1
theorem dL_moveClip_8 : decode cL_moveClip 8 = .ok (.i2l, 1) := DL_moveClip_0.2.2.2.2.2.2.1
theorem dL_moveClip_9 : decode cL_moveClip 9 = .ok (.lastore, 1) := DL_moveClip_0.2.2.2.2.2.2.2.1
theorem dL_moveClip_10 : decode cL_moveClip 10 = .ok (.goto 15, 3) := DL_moveClip_0.2.2.2.2.2.2.2.2.1
theorem dL_moveClip_13 : decode cL_moveClip 13 = .ok (.astore 4, 2) := DL_moveClip_0.2.2.2.2.2.2.2.2.2
set_option maxRecDepth 100000 in
theorem DL_moveClip_1 : decode cL_moveClip 15 = .ok (.iconst 1, 1) ∧ decode cL_moveClip 16 = .ok (.ireturn, 1) ∧ decode cL_moveClip 17 = .ok (.astore 4, 2) ∧ decode cL_moveClip 19 = .ok (.iconst 2, 1) ∧ decode cL_moveClip 20 = .ok (.ireturn, 1) ∧ decode cL_moveClip 21 = .ok (.astore 4, 2) ∧ decode cL_moveClip 23 = .ok (.iconst 3, 1) ∧ decode cL_moveClip 24 = .ok (.ireturn, 1) ∧ decode cL_moveClip 25 = .ok (.iconst 0, 1) ∧ decode cL_moveClip 26 = .ok (.ireturn, 1) := by decide +kernel
theorem dL_moveClip_15 : decode cL_moveClip 15 = .ok (.iconst 1, 1) := DL_moveClip_1.1
theorem dL_moveClip_16 : decode cL_moveClip 16 = .ok (.ireturn, 1) := DL_moveClip_1.2.1
theorem dL_moveClip_17 : decode cL_moveClip 17 = .ok (.astore 4, 2) := DL_moveClip_1.2.2.1
theorem dL_moveClip_19 : decode cL_moveClip 19 = .ok (.iconst 2, 1) := DL_moveClip_1.2.2.2.1
theorem dL_moveClip_20 : decode cL_moveClip 20 = .ok (.ireturn, 1) := DL_moveClip_1.2.2.2.2.1
theorem dL_moveClip_21 : decode cL_moveClip 21 = .ok (.astore 4, 2) := DL_moveClip_1.2.2.2.2.2.1
theorem dL_moveClip_23 : decode cL_moveClip 23 = .ok (.iconst 3, 1) := DL_moveClip_1.2.2.2.2.2.2.1
theorem dL_moveClip_24 : decode cL_moveClip 24 = .ok (.ireturn, 1) := DL_moveClip_1.2.2.2.2.2.2.2.1
theorem dL_moveClip_25 : decode cL_moveClip 25 = .ok (.iconst 0, 1) := DL_moveClip_1.2.2.2.2.2.2.2.2.1
theorem dL_moveClip_26 : decode cL_moveClip 26 = .ok (.ireturn, 1) := DL_moveClip_1.2.2.2.2.2.2.2.2.2
set_option maxRecDepth 100000 in
theorem DL_trimClip_0 : decode cL_trimClip 0 = .ok (.aload 4, 2) ∧ decode cL_trimClip 2 = .ok (.iconst 0, 1) ∧ decode cL_trimClip 3 = .ok (.aload_n 0, 1) ∧ decode cL_trimClip 4 = .ok (.iload_n 1, 1) ∧ decode cL_trimClip 5 = .ok (.iload_n 2, 1) ∧ decode cL_trimClip 6 = .ok (.iload_n 3, 1) ∧ decode cL_trimClip 7 = .ok (.invokevirtual 36, 3) ∧ decode cL_trimClip 10 = .ok (.i2l, 1) ∧ decode cL_trimClip 11 = .ok (.lastore, 1) ∧ decode cL_trimClip 12 = .ok (.goto 15, 3) := by decide +kernel
theorem dL_trimClip_0 : decode cL_trimClip 0 = .ok (.aload 4, 2) := DL_trimClip_0.1
theorem dL_trimClip_2 : decode cL_trimClip 2 = .ok (.iconst 0, 1) := DL_trimClip_0.2.1
theorem dL_trimClip_3 : decode cL_trimClip 3 = .ok (.aload_n 0, 1) := DL_trimClip_0.2.2.1
theorem dL_trimClip_4 : decode cL_trimClip 4 = .ok (.iload_n 1, 1) := DL_trimClip_0.2.2.2.1
theorem dL_trimClip_5 : decode cL_trimClip 5 = .ok (.iload_n 2, 1) := DL_trimClip_0.2.2.2.2.1
theorem dL_trimClip_6 : decode cL_trimClip 6 = .ok (.iload_n 3, 1) := DL_trimClip_0.2.2.2.2.2.1
theorem dL_trimClip_7 : decode cL_trimClip 7 = .ok (.invokevirtual 36, 3) := DL_trimClip_0.2.2.2.2.2.2.1
theorem dL_trimClip_10 : decode cL_trimClip 10 = .ok (.i2l, 1) := DL_trimClip_0.2.2.2.2.2.2.2.1
theorem dL_trimClip_11 : decode cL_trimClip 11 = .ok (.lastore, 1) := DL_trimClip_0.2.2.2.2.2.2.2.2.1
theorem dL_trimClip_12 : decode cL_trimClip 12 = .ok (.goto 15, 3) := DL_trimClip_0.2.2.2.2.2.2.2.2.2
set_option maxRecDepth 100000 in
theorem DL_trimClip_1 : decode cL_trimClip 15 = .ok (.astore 5, 2) ∧ decode cL_trimClip 17 = .ok (.iconst 1, 1) ∧ decode cL_trimClip 18 = .ok (.ireturn, 1) ∧ decode cL_trimClip 19 = .ok (.astore 5, 2) ∧ decode cL_trimClip 21 = .ok (.iconst 2, 1) ∧ decode cL_trimClip 22 = .ok (.ireturn, 1) ∧ decode cL_trimClip 23 = .ok (.astore 5, 2) ∧ decode cL_trimClip 25 = .ok (.iconst 3, 1) ∧ decode cL_trimClip 26 = .ok (.ireturn, 1) ∧ decode cL_trimClip 27 = .ok (.iconst 0, 1) := by decide +kernel
theorem dL_trimClip_15 : decode cL_trimClip 15 = .ok (.astore 5, 2) := DL_trimClip_1.1
theorem dL_trimClip_17 : decode cL_trimClip 17 = .ok (.iconst 1, 1) := DL_trimClip_1.2.1
theorem dL_trimClip_18 : decode cL_trimClip 18 = .ok (.ireturn, 1) := DL_trimClip_1.2.2.1
theorem dL_trimClip_19 : decode cL_trimClip 19 = .ok (.astore 5, 2) := DL_trimClip_1.2.2.2.1
theorem dL_trimClip_21 : decode cL_trimClip 21 = .ok (.iconst 2, 1) := DL_trimClip_1.2.2.2.2.1
theorem dL_trimClip_22 : decode cL_trimClip 22 = .ok (.ireturn, 1) := DL_trimClip_1.2.2.2.2.2.1
theorem dL_trimClip_23 : decode cL_trimClip 23 = .ok (.astore 5, 2) := DL_trimClip_1.2.2.2.2.2.2.1
theorem dL_trimClip_25 : decode cL_trimClip 25 = .ok (.iconst 3, 1) := DL_trimClip_1.2.2.2.2.2.2.2.1
theorem dL_trimClip_26 : decode cL_trimClip 26 = .ok (.ireturn, 1) := DL_trimClip_1.2.2.2.2.2.2.2.2.1
theorem dL_trimClip_27 : decode cL_trimClip 27 = .ok (.iconst 0, 1) := DL_trimClip_1.2.2.2.2.2.2.2.2.2
set_option maxRecDepth 100000 in
theorem DL_trimClip_2 : decode cL_trimClip 28 = .ok (.ireturn, 1) := by decide +kernel
theorem dL_trimClip_28 : decode cL_trimClip 28 = .ok (.ireturn, 1) := DL_trimClip_2
set_option maxRecDepth 100000 in
theorem DL_splitClip_0 : decode cL_splitClip 0 = .ok (.aload_n 3, 1) ∧ decode cL_splitClip 1 = .ok (.iconst 0, 1) ∧ decode cL_splitClip 2 = .ok (.aload_n 0, 1) ∧ decode cL_splitClip 3 = .ok (.iload_n 1, 1) ∧ decode cL_splitClip 4 = .ok (.iload_n 2, 1) ∧ decode cL_splitClip 5 = .ok (.invokevirtual 40, 3) ∧ decode cL_splitClip 8 = .ok (.i2l, 1) ∧ decode cL_splitClip 9 = .ok (.lastore, 1) ∧ decode cL_splitClip 10 = .ok (.goto 19, 3) ∧ decode cL_splitClip 13 = .ok (.astore 4, 2) := by decide +kernel
theorem dL_splitClip_0 : decode cL_splitClip 0 = .ok (.aload_n 3, 1) := DL_splitClip_0.1
theorem dL_splitClip_1 : decode cL_splitClip 1 = .ok (.iconst 0, 1) := DL_splitClip_0.2.1
theorem dL_splitClip_2 : decode cL_splitClip 2 = .ok (.aload_n 0, 1) := DL_splitClip_0.2.2.1
theorem dL_splitClip_3 : decode cL_splitClip 3 = .ok (.iload_n 1, 1) := DL_splitClip_0.2.2.2.1
theorem dL_splitClip_4 : decode cL_splitClip 4 = .ok (.iload_n 2, 1) := DL_splitClip_0.2.2.2.2.1
theorem dL_splitClip_5 : decode cL_splitClip 5 = .ok (.invokevirtual 40, 3) := DL_splitClip_0.2.2.2.2.2.1
theorem dL_splitClip_8 : decode cL_splitClip 8 = .ok (.i2l, 1) := DL_splitClip_0.2.2.2.2.2.2.1
theorem dL_splitClip_9 : decode cL_splitClip 9 = .ok (.lastore, 1) := DL_splitClip_0.2.2.2.2.2.2.2.1
theorem dL_splitClip_10 : decode cL_splitClip 10 = .ok (.goto 19, 3) := DL_splitClip_0.2.2.2.2.2.2.2.2.1
theorem dL_splitClip_13 : decode cL_splitClip 13 = .ok (.astore 4, 2) := DL_splitClip_0.2.2.2.2.2.2.2.2.2
set_option maxRecDepth 100000 in
theorem DL_splitClip_1 : decode cL_splitClip 15 = .ok (.iconst 1, 1) ∧ decode cL_splitClip 16 = .ok (.ireturn, 1) ∧ decode cL_splitClip 17 = .ok (.astore 4, 2) ∧ decode cL_splitClip 19 = .ok (.iconst 2, 1) ∧ decode cL_splitClip 20 = .ok (.ireturn, 1) ∧ decode cL_splitClip 21 = .ok (.astore 4, 2) ∧ decode cL_splitClip 23 = .ok (.iconst 3, 1) ∧ decode cL_splitClip 24 = .ok (.ireturn, 1) ∧ decode cL_splitClip 25 = .ok (.astore 4, 2) ∧ decode cL_splitClip 27 = .ok (.iconst 4, 1) := by decide +kernel
theorem dL_splitClip_15 : decode cL_splitClip 15 = .ok (.iconst 1, 1) := DL_splitClip_1.1
theorem dL_splitClip_16 : decode cL_splitClip 16 = .ok (.ireturn, 1) := DL_splitClip_1.2.1
theorem dL_splitClip_17 : decode cL_splitClip 17 = .ok (.astore 4, 2) := DL_splitClip_1.2.2.1
theorem dL_splitClip_19 : decode cL_splitClip 19 = .ok (.iconst 2, 1) := DL_splitClip_1.2.2.2.1
theorem dL_splitClip_20 : decode cL_splitClip 20 = .ok (.ireturn, 1) := DL_splitClip_1.2.2.2.2.1
theorem dL_splitClip_21 : decode cL_splitClip 21 = .ok (.astore 4, 2) := DL_splitClip_1.2.2.2.2.2.1
theorem dL_splitClip_23 : decode cL_splitClip 23 = .ok (.iconst 3, 1) := DL_splitClip_1.2.2.2.2.2.2.1
theorem dL_splitClip_24 : decode cL_splitClip 24 = .ok (.ireturn, 1) := DL_splitClip_1.2.2.2.2.2.2.2.1
theorem dL_splitClip_25 : decode cL_splitClip 25 = .ok (.astore 4, 2) := DL_splitClip_1.2.2.2.2.2.2.2.2.1
theorem dL_splitClip_27 : decode cL_splitClip 27 = .ok (.iconst 4, 1) := DL_splitClip_1.2.2.2.2.2.2.2.2.2
set_option maxRecDepth 100000 in
theorem DL_splitClip_2 : decode cL_splitClip 28 = .ok (.ireturn, 1) ∧ decode cL_splitClip 29 = .ok (.iconst 0, 1) ∧ decode cL_splitClip 30 = .ok (.ireturn, 1) := by decide +kernel
theorem dL_splitClip_28 : decode cL_splitClip 28 = .ok (.ireturn, 1) := DL_splitClip_2.1
theorem dL_splitClip_29 : decode cL_splitClip 29 = .ok (.iconst 0, 1) := DL_splitClip_2.2.1
theorem dL_splitClip_30 : decode cL_splitClip 30 = .ok (.ireturn, 1) := DL_splitClip_2.2.2
set_option maxRecDepth 100000 in
theorem DL_removeClip_0 : decode cL_removeClip 0 = .ok (.aload_n 2, 1) ∧ decode cL_removeClip 1 = .ok (.iconst 0, 1) ∧ decode cL_removeClip 2 = .ok (.aload_n 0, 1) ∧ decode cL_removeClip 3 = .ok (.iload_n 1, 1) ∧ decode cL_removeClip 4 = .ok (.invokevirtual 43, 3) ∧ decode cL_removeClip 7 = .ok (.i2l, 1) ∧ decode cL_removeClip 8 = .ok (.lastore, 1) ∧ decode cL_removeClip 9 = .ok (.goto 6, 3) ∧ decode cL_removeClip 12 = .ok (.astore_n 3, 1) ∧ decode cL_removeClip 13 = .ok (.iconst 1, 1) := by decide +kernel
theorem dL_removeClip_0 : decode cL_removeClip 0 = .ok (.aload_n 2, 1) := DL_removeClip_0.1
theorem dL_removeClip_1 : decode cL_removeClip 1 = .ok (.iconst 0, 1) := DL_removeClip_0.2.1
theorem dL_removeClip_2 : decode cL_removeClip 2 = .ok (.aload_n 0, 1) := DL_removeClip_0.2.2.1
theorem dL_removeClip_3 : decode cL_removeClip 3 = .ok (.iload_n 1, 1) := DL_removeClip_0.2.2.2.1
theorem dL_removeClip_4 : decode cL_removeClip 4 = .ok (.invokevirtual 43, 3) := DL_removeClip_0.2.2.2.2.1
theorem dL_removeClip_7 : decode cL_removeClip 7 = .ok (.i2l, 1) := DL_removeClip_0.2.2.2.2.2.1
theorem dL_removeClip_8 : decode cL_removeClip 8 = .ok (.lastore, 1) := DL_removeClip_0.2.2.2.2.2.2.1
theorem dL_removeClip_9 : decode cL_removeClip 9 = .ok (.goto 6, 3) := DL_removeClip_0.2.2.2.2.2.2.2.1
theorem dL_removeClip_12 : decode cL_removeClip 12 = .ok (.astore_n 3, 1) := DL_removeClip_0.2.2.2.2.2.2.2.2.1
theorem dL_removeClip_13 : decode cL_removeClip 13 = .ok (.iconst 1, 1) := DL_removeClip_0.2.2.2.2.2.2.2.2.2
set_option maxRecDepth 100000 in
theorem DL_removeClip_1 : decode cL_removeClip 14 = .ok (.ireturn, 1) ∧ decode cL_removeClip 15 = .ok (.iconst 0, 1) ∧ decode cL_removeClip 16 = .ok (.ireturn, 1) := by decide +kernel
theorem dL_removeClip_14 : decode cL_removeClip 14 = .ok (.ireturn, 1) := DL_removeClip_1.1
theorem dL_removeClip_15 : decode cL_removeClip 15 = .ok (.iconst 0, 1) := DL_removeClip_1.2.1
theorem dL_removeClip_16 : decode cL_removeClip 16 = .ok (.ireturn, 1) := DL_removeClip_1.2.2
set_option maxRecDepth 100000 in
theorem DL_deleteTime_0 : decode cL_deleteTime 0 = .ok (.aload 4, 2) ∧ decode cL_deleteTime 2 = .ok (.iconst 0, 1) ∧ decode cL_deleteTime 3 = .ok (.aload_n 0, 1) ∧ decode cL_deleteTime 4 = .ok (.iload_n 1, 1) ∧ decode cL_deleteTime 5 = .ok (.iload_n 2, 1) ∧ decode cL_deleteTime 6 = .ok (.iload_n 3, 1) ∧ decode cL_deleteTime 7 = .ok (.invokevirtual 47, 3) ∧ decode cL_deleteTime 10 = .ok (.i2l, 1) ∧ decode cL_deleteTime 11 = .ok (.lastore, 1) ∧ decode cL_deleteTime 12 = .ok (.goto 15, 3) := by decide +kernel
theorem dL_deleteTime_0 : decode cL_deleteTime 0 = .ok (.aload 4, 2) := DL_deleteTime_0.1
theorem dL_deleteTime_2 : decode cL_deleteTime 2 = .ok (.iconst 0, 1) := DL_deleteTime_0.2.1
theorem dL_deleteTime_3 : decode cL_deleteTime 3 = .ok (.aload_n 0, 1) := DL_deleteTime_0.2.2.1
theorem dL_deleteTime_4 : decode cL_deleteTime 4 = .ok (.iload_n 1, 1) := DL_deleteTime_0.2.2.2.1
theorem dL_deleteTime_5 : decode cL_deleteTime 5 = .ok (.iload_n 2, 1) := DL_deleteTime_0.2.2.2.2.1
theorem dL_deleteTime_6 : decode cL_deleteTime 6 = .ok (.iload_n 3, 1) := DL_deleteTime_0.2.2.2.2.2.1
theorem dL_deleteTime_7 : decode cL_deleteTime 7 = .ok (.invokevirtual 47, 3) := DL_deleteTime_0.2.2.2.2.2.2.1
theorem dL_deleteTime_10 : decode cL_deleteTime 10 = .ok (.i2l, 1) := DL_deleteTime_0.2.2.2.2.2.2.2.1
theorem dL_deleteTime_11 : decode cL_deleteTime 11 = .ok (.lastore, 1) := DL_deleteTime_0.2.2.2.2.2.2.2.2.1
theorem dL_deleteTime_12 : decode cL_deleteTime 12 = .ok (.goto 15, 3) := DL_deleteTime_0.2.2.2.2.2.2.2.2.2
set_option maxRecDepth 100000 in
theorem DL_deleteTime_1 : decode cL_deleteTime 15 = .ok (.astore 5, 2) ∧ decode cL_deleteTime 17 = .ok (.iconst 1, 1) ∧ decode cL_deleteTime 18 = .ok (.ireturn, 1) ∧ decode cL_deleteTime 19 = .ok (.astore 5, 2) ∧ decode cL_deleteTime 21 = .ok (.iconst 2, 1) ∧ decode cL_deleteTime 22 = .ok (.ireturn, 1) ∧ decode cL_deleteTime 23 = .ok (.astore 5, 2) ∧ decode cL_deleteTime 25 = .ok (.iconst 3, 1) ∧ decode cL_deleteTime 26 = .ok (.ireturn, 1) ∧ decode cL_deleteTime 27 = .ok (.iconst 0, 1) := by decide +kernel
theorem dL_deleteTime_15 : decode cL_deleteTime 15 = .ok (.astore 5, 2) := DL_deleteTime_1.1
theorem dL_deleteTime_17 : decode cL_deleteTime 17 = .ok (.iconst 1, 1) := DL_deleteTime_1.2.1
theorem dL_deleteTime_18 : decode cL_deleteTime 18 = .ok (.ireturn, 1) := DL_deleteTime_1.2.2.1
theorem dL_deleteTime_19 : decode cL_deleteTime 19 = .ok (.astore 5, 2) := DL_deleteTime_1.2.2.2.1
theorem dL_deleteTime_21 : decode cL_deleteTime 21 = .ok (.iconst 2, 1) := DL_deleteTime_1.2.2.2.2.1
theorem dL_deleteTime_22 : decode cL_deleteTime 22 = .ok (.ireturn, 1) := DL_deleteTime_1.2.2.2.2.2.1
theorem dL_deleteTime_23 : decode cL_deleteTime 23 = .ok (.astore 5, 2) := DL_deleteTime_1.2.2.2.2.2.2.1
theorem dL_deleteTime_25 : decode cL_deleteTime 25 = .ok (.iconst 3, 1) := DL_deleteTime_1.2.2.2.2.2.2.2.1
theorem dL_deleteTime_26 : decode cL_deleteTime 26 = .ok (.ireturn, 1) := DL_deleteTime_1.2.2.2.2.2.2.2.2.1
theorem dL_deleteTime_27 : decode cL_deleteTime 27 = .ok (.iconst 0, 1) := DL_deleteTime_1.2.2.2.2.2.2.2.2.2
set_option maxRecDepth 100000 in
theorem DL_deleteTime_2 : decode cL_deleteTime 28 = .ok (.ireturn, 1) := by decide +kernel
theorem dL_deleteTime_28 : decode cL_deleteTime 28 = .ok (.ireturn, 1) := DL_deleteTime_2
set_option maxRecDepth 100000 in
theorem DL_clip_0 : decode cL_clip 0 = .ok (.aload_n 3, 1) ∧ decode cL_clip 1 = .ok (.iconst 0, 1) ∧ decode cL_clip 2 = .ok (.aload_n 0, 1) ∧ decode cL_clip 3 = .ok (.iload_n 1, 1) ∧ decode cL_clip 4 = .ok (.iload_n 2, 1) ∧ decode cL_clip 5 = .ok (.invokevirtual 50, 3) ∧ decode cL_clip 8 = .ok (.i2l, 1) ∧ decode cL_clip 9 = .ok (.lastore, 1) ∧ decode cL_clip 10 = .ok (.goto 11, 3) ∧ decode cL_clip 13 = .ok (.astore 4, 2) := by decide +kernel
theorem dL_clip_0 : decode cL_clip 0 = .ok (.aload_n 3, 1) := DL_clip_0.1
theorem dL_clip_1 : decode cL_clip 1 = .ok (.iconst 0, 1) := DL_clip_0.2.1
theorem dL_clip_2 : decode cL_clip 2 = .ok (.aload_n 0, 1) := DL_clip_0.2.2.1
theorem dL_clip_3 : decode cL_clip 3 = .ok (.iload_n 1, 1) := DL_clip_0.2.2.2.1
theorem dL_clip_4 : decode cL_clip 4 = .ok (.iload_n 2, 1) := DL_clip_0.2.2.2.2.1
theorem dL_clip_5 : decode cL_clip 5 = .ok (.invokevirtual 50, 3) := DL_clip_0.2.2.2.2.2.1
theorem dL_clip_8 : decode cL_clip 8 = .ok (.i2l, 1) := DL_clip_0.2.2.2.2.2.2.1
theorem dL_clip_9 : decode cL_clip 9 = .ok (.lastore, 1) := DL_clip_0.2.2.2.2.2.2.2.1
theorem dL_clip_10 : decode cL_clip 10 = .ok (.goto 11, 3) := DL_clip_0.2.2.2.2.2.2.2.2.1
theorem dL_clip_13 : decode cL_clip 13 = .ok (.astore 4, 2) := DL_clip_0.2.2.2.2.2.2.2.2.2
set_option maxRecDepth 100000 in
theorem DL_clip_1 : decode cL_clip 15 = .ok (.iconst 1, 1) ∧ decode cL_clip 16 = .ok (.ireturn, 1) ∧ decode cL_clip 17 = .ok (.astore 4, 2) ∧ decode cL_clip 19 = .ok (.iconst 2, 1) ∧ decode cL_clip 20 = .ok (.ireturn, 1) ∧ decode cL_clip 21 = .ok (.iconst 0, 1) ∧ decode cL_clip 22 = .ok (.ireturn, 1) := by decide +kernel
theorem dL_clip_15 : decode cL_clip 15 = .ok (.iconst 1, 1) := DL_clip_1.1
theorem dL_clip_16 : decode cL_clip 16 = .ok (.ireturn, 1) := DL_clip_1.2.1
theorem dL_clip_17 : decode cL_clip 17 = .ok (.astore 4, 2) := DL_clip_1.2.2.1
theorem dL_clip_19 : decode cL_clip 19 = .ok (.iconst 2, 1) := DL_clip_1.2.2.2.1
theorem dL_clip_20 : decode cL_clip 20 = .ok (.ireturn, 1) := DL_clip_1.2.2.2.2.1
theorem dL_clip_21 : decode cL_clip 21 = .ok (.iconst 0, 1) := DL_clip_1.2.2.2.2.2.1
theorem dL_clip_22 : decode cL_clip 22 = .ok (.ireturn, 1) := DL_clip_1.2.2.2.2.2.2
set_option maxRecDepth 100000 in
theorem DL_clipValue_0 : decode cL_clipValue 0 = .ok (.aload_n 3, 1) ∧ decode cL_clipValue 1 = .ok (.iconst 0, 1) ∧ decode cL_clipValue 2 = .ok (.aload_n 0, 1) ∧ decode cL_clipValue 3 = .ok (.iload_n 1, 1) ∧ decode cL_clipValue 4 = .ok (.iload_n 2, 1) ∧ decode cL_clipValue 5 = .ok (.invokevirtual 53, 3) ∧ decode cL_clipValue 8 = .ok (.i2l, 1) ∧ decode cL_clipValue 9 = .ok (.lastore, 1) ∧ decode cL_clipValue 10 = .ok (.goto 11, 3) ∧ decode cL_clipValue 13 = .ok (.astore 4, 2) := by decide +kernel
theorem dL_clipValue_0 : decode cL_clipValue 0 = .ok (.aload_n 3, 1) := DL_clipValue_0.1
theorem dL_clipValue_1 : decode cL_clipValue 1 = .ok (.iconst 0, 1) := DL_clipValue_0.2.1
theorem dL_clipValue_2 : decode cL_clipValue 2 = .ok (.aload_n 0, 1) := DL_clipValue_0.2.2.1
theorem dL_clipValue_3 : decode cL_clipValue 3 = .ok (.iload_n 1, 1) := DL_clipValue_0.2.2.2.1
theorem dL_clipValue_4 : decode cL_clipValue 4 = .ok (.iload_n 2, 1) := DL_clipValue_0.2.2.2.2.1
theorem dL_clipValue_5 : decode cL_clipValue 5 = .ok (.invokevirtual 53, 3) := DL_clipValue_0.2.2.2.2.2.1
theorem dL_clipValue_8 : decode cL_clipValue 8 = .ok (.i2l, 1) := DL_clipValue_0.2.2.2.2.2.2.1
theorem dL_clipValue_9 : decode cL_clipValue 9 = .ok (.lastore, 1) := DL_clipValue_0.2.2.2.2.2.2.2.1
theorem dL_clipValue_10 : decode cL_clipValue 10 = .ok (.goto 11, 3) := DL_clipValue_0.2.2.2.2.2.2.2.2.1
theorem dL_clipValue_13 : decode cL_clipValue 13 = .ok (.astore 4, 2) := DL_clipValue_0.2.2.2.2.2.2.2.2.2
set_option maxRecDepth 100000 in
theorem DL_clipValue_1 : decode cL_clipValue 15 = .ok (.iconst 1, 1) ∧ decode cL_clipValue 16 = .ok (.ireturn, 1) ∧ decode cL_clipValue 17 = .ok (.astore 4, 2) ∧ decode cL_clipValue 19 = .ok (.iconst 2, 1) ∧ decode cL_clipValue 20 = .ok (.ireturn, 1) ∧ decode cL_clipValue 21 = .ok (.iconst 0, 1) ∧ decode cL_clipValue 22 = .ok (.ireturn, 1) := by decide +kernel
theorem dL_clipValue_15 : decode cL_clipValue 15 = .ok (.iconst 1, 1) := DL_clipValue_1.1
theorem dL_clipValue_16 : decode cL_clipValue 16 = .ok (.ireturn, 1) := DL_clipValue_1.2.1
theorem dL_clipValue_17 : decode cL_clipValue 17 = .ok (.astore 4, 2) := DL_clipValue_1.2.2.1
theorem dL_clipValue_19 : decode cL_clipValue 19 = .ok (.iconst 2, 1) := DL_clipValue_1.2.2.2.1
theorem dL_clipValue_20 : decode cL_clipValue 20 = .ok (.ireturn, 1) := DL_clipValue_1.2.2.2.2.1
theorem dL_clipValue_21 : decode cL_clipValue 21 = .ok (.iconst 0, 1) := DL_clipValue_1.2.2.2.2.2.1
theorem dL_clipValue_22 : decode cL_clipValue 22 = .ok (.ireturn, 1) := DL_clipValue_1.2.2.2.2.2.2
set_option maxRecDepth 100000 in
theorem DL_setTrack_0 : decode cL_setTrack 0 = .ok (.aload 6, 2) ∧ decode cL_setTrack 2 = .ok (.iconst 0, 1) ∧ decode cL_setTrack 3 = .ok (.aload_n 0, 1) ∧ decode cL_setTrack 4 = .ok (.iload_n 1, 1) ∧ decode cL_setTrack 5 = .ok (.iload_n 2, 1) ∧ decode cL_setTrack 6 = .ok (.iload_n 3, 1) ∧ decode cL_setTrack 7 = .ok (.iload 4, 2) ∧ decode cL_setTrack 9 = .ok (.iload 5, 2) ∧ decode cL_setTrack 11 = .ok (.invokevirtual 56, 3) ∧ decode cL_setTrack 14 = .ok (.i2l, 1) := by decide +kernel
theorem dL_setTrack_0 : decode cL_setTrack 0 = .ok (.aload 6, 2) := DL_setTrack_0.1
theorem dL_setTrack_2 : decode cL_setTrack 2 = .ok (.iconst 0, 1) := DL_setTrack_0.2.1
theorem dL_setTrack_3 : decode cL_setTrack 3 = .ok (.aload_n 0, 1) := DL_setTrack_0.2.2.1
theorem dL_setTrack_4 : decode cL_setTrack 4 = .ok (.iload_n 1, 1) := DL_setTrack_0.2.2.2.1
theorem dL_setTrack_5 : decode cL_setTrack 5 = .ok (.iload_n 2, 1) := DL_setTrack_0.2.2.2.2.1
theorem dL_setTrack_6 : decode cL_setTrack 6 = .ok (.iload_n 3, 1) := DL_setTrack_0.2.2.2.2.2.1
theorem dL_setTrack_7 : decode cL_setTrack 7 = .ok (.iload 4, 2) := DL_setTrack_0.2.2.2.2.2.2.1
theorem dL_setTrack_9 : decode cL_setTrack 9 = .ok (.iload 5, 2) := DL_setTrack_0.2.2.2.2.2.2.2.1
theorem dL_setTrack_11 : decode cL_setTrack 11 = .ok (.invokevirtual 56, 3) := DL_setTrack_0.2.2.2.2.2.2.2.2.1
theorem dL_setTrack_14 : decode cL_setTrack 14 = .ok (.i2l, 1) := DL_setTrack_0.2.2.2.2.2.2.2.2.2
set_option maxRecDepth 100000 in
theorem DL_setTrack_1 : decode cL_setTrack 15 = .ok (.lastore, 1) ∧ decode cL_setTrack 16 = .ok (.goto 11, 3) ∧ decode cL_setTrack 19 = .ok (.astore 7, 2) ∧ decode cL_setTrack 21 = .ok (.iconst 1, 1) ∧ decode cL_setTrack 22 = .ok (.ireturn, 1) ∧ decode cL_setTrack 23 = .ok (.astore 7, 2) ∧ decode cL_setTrack 25 = .ok (.iconst 2, 1) ∧ decode cL_setTrack 26 = .ok (.ireturn, 1) ∧ decode cL_setTrack 27 = .ok (.iconst 0, 1) ∧ decode cL_setTrack 28 = .ok (.ireturn, 1) := by decide +kernel
theorem dL_setTrack_15 : decode cL_setTrack 15 = .ok (.lastore, 1) := DL_setTrack_1.1
theorem dL_setTrack_16 : decode cL_setTrack 16 = .ok (.goto 11, 3) := DL_setTrack_1.2.1
theorem dL_setTrack_19 : decode cL_setTrack 19 = .ok (.astore 7, 2) := DL_setTrack_1.2.2.1
theorem dL_setTrack_21 : decode cL_setTrack 21 = .ok (.iconst 1, 1) := DL_setTrack_1.2.2.2.1
theorem dL_setTrack_22 : decode cL_setTrack 22 = .ok (.ireturn, 1) := DL_setTrack_1.2.2.2.2.1
theorem dL_setTrack_23 : decode cL_setTrack 23 = .ok (.astore 7, 2) := DL_setTrack_1.2.2.2.2.2.1
theorem dL_setTrack_25 : decode cL_setTrack 25 = .ok (.iconst 2, 1) := DL_setTrack_1.2.2.2.2.2.2.1
theorem dL_setTrack_26 : decode cL_setTrack 26 = .ok (.ireturn, 1) := DL_setTrack_1.2.2.2.2.2.2.2.1
theorem dL_setTrack_27 : decode cL_setTrack 27 = .ok (.iconst 0, 1) := DL_setTrack_1.2.2.2.2.2.2.2.2.1
theorem dL_setTrack_28 : decode cL_setTrack 28 = .ok (.ireturn, 1) := DL_setTrack_1.2.2.2.2.2.2.2.2.2
set_option maxRecDepth 100000 in
theorem DL_setPoint_0 : decode cL_setPoint 0 = .ok (.aload 5, 2) ∧ decode cL_setPoint 2 = .ok (.iconst 0, 1) ∧ decode cL_setPoint 3 = .ok (.aload_n 0, 1) ∧ decode cL_setPoint 4 = .ok (.iload_n 1, 1) ∧ decode cL_setPoint 5 = .ok (.iload_n 2, 1) ∧ decode cL_setPoint 6 = .ok (.iload_n 3, 1) ∧ decode cL_setPoint 7 = .ok (.iload 4, 2) ∧ decode cL_setPoint 9 = .ok (.invokevirtual 60, 3) ∧ decode cL_setPoint 12 = .ok (.i2l, 1) ∧ decode cL_setPoint 13 = .ok (.lastore, 1) := by decide +kernel
theorem dL_setPoint_0 : decode cL_setPoint 0 = .ok (.aload 5, 2) := DL_setPoint_0.1
theorem dL_setPoint_2 : decode cL_setPoint 2 = .ok (.iconst 0, 1) := DL_setPoint_0.2.1
theorem dL_setPoint_3 : decode cL_setPoint 3 = .ok (.aload_n 0, 1) := DL_setPoint_0.2.2.1
theorem dL_setPoint_4 : decode cL_setPoint 4 = .ok (.iload_n 1, 1) := DL_setPoint_0.2.2.2.1
theorem dL_setPoint_5 : decode cL_setPoint 5 = .ok (.iload_n 2, 1) := DL_setPoint_0.2.2.2.2.1
theorem dL_setPoint_6 : decode cL_setPoint 6 = .ok (.iload_n 3, 1) := DL_setPoint_0.2.2.2.2.2.1
theorem dL_setPoint_7 : decode cL_setPoint 7 = .ok (.iload 4, 2) := DL_setPoint_0.2.2.2.2.2.2.1
theorem dL_setPoint_9 : decode cL_setPoint 9 = .ok (.invokevirtual 60, 3) := DL_setPoint_0.2.2.2.2.2.2.2.1
theorem dL_setPoint_12 : decode cL_setPoint 12 = .ok (.i2l, 1) := DL_setPoint_0.2.2.2.2.2.2.2.2.1
theorem dL_setPoint_13 : decode cL_setPoint 13 = .ok (.lastore, 1) := DL_setPoint_0.2.2.2.2.2.2.2.2.2
set_option maxRecDepth 100000 in
theorem DL_setPoint_1 : decode cL_setPoint 14 = .ok (.goto 15, 3) ∧ decode cL_setPoint 17 = .ok (.astore 6, 2) ∧ decode cL_setPoint 19 = .ok (.iconst 1, 1) ∧ decode cL_setPoint 20 = .ok (.ireturn, 1) ∧ decode cL_setPoint 21 = .ok (.astore 6, 2) ∧ decode cL_setPoint 23 = .ok (.iconst 2, 1) ∧ decode cL_setPoint 24 = .ok (.ireturn, 1) ∧ decode cL_setPoint 25 = .ok (.astore 6, 2) ∧ decode cL_setPoint 27 = .ok (.iconst 3, 1) ∧ decode cL_setPoint 28 = .ok (.ireturn, 1) := by decide +kernel
theorem dL_setPoint_14 : decode cL_setPoint 14 = .ok (.goto 15, 3) := DL_setPoint_1.1
theorem dL_setPoint_17 : decode cL_setPoint 17 = .ok (.astore 6, 2) := DL_setPoint_1.2.1
theorem dL_setPoint_19 : decode cL_setPoint 19 = .ok (.iconst 1, 1) := DL_setPoint_1.2.2.1
theorem dL_setPoint_20 : decode cL_setPoint 20 = .ok (.ireturn, 1) := DL_setPoint_1.2.2.2.1
theorem dL_setPoint_21 : decode cL_setPoint 21 = .ok (.astore 6, 2) := DL_setPoint_1.2.2.2.2.1
theorem dL_setPoint_23 : decode cL_setPoint 23 = .ok (.iconst 2, 1) := DL_setPoint_1.2.2.2.2.2.1
theorem dL_setPoint_24 : decode cL_setPoint 24 = .ok (.ireturn, 1) := DL_setPoint_1.2.2.2.2.2.2.1
theorem dL_setPoint_25 : decode cL_setPoint 25 = .ok (.astore 6, 2) := DL_setPoint_1.2.2.2.2.2.2.2.1
theorem dL_setPoint_27 : decode cL_setPoint 27 = .ok (.iconst 3, 1) := DL_setPoint_1.2.2.2.2.2.2.2.2.1
theorem dL_setPoint_28 : decode cL_setPoint 28 = .ok (.ireturn, 1) := DL_setPoint_1.2.2.2.2.2.2.2.2.2
set_option maxRecDepth 100000 in
theorem DL_setPoint_2 : decode cL_setPoint 29 = .ok (.iconst 0, 1) ∧ decode cL_setPoint 30 = .ok (.ireturn, 1) := by decide +kernel
theorem dL_setPoint_29 : decode cL_setPoint 29 = .ok (.iconst 0, 1) := DL_setPoint_2.1
theorem dL_setPoint_30 : decode cL_setPoint 30 = .ok (.ireturn, 1) := DL_setPoint_2.2
set_option maxRecDepth 100000 in
theorem DL_removePoint_0 : decode cL_removePoint 0 = .ok (.aload_n 3, 1) ∧ decode cL_removePoint 1 = .ok (.iconst 0, 1) ∧ decode cL_removePoint 2 = .ok (.aload_n 0, 1) ∧ decode cL_removePoint 3 = .ok (.iload_n 1, 1) ∧ decode cL_removePoint 4 = .ok (.iload_n 2, 1) ∧ decode cL_removePoint 5 = .ok (.invokevirtual 64, 3) ∧ decode cL_removePoint 8 = .ok (.i2l, 1) ∧ decode cL_removePoint 9 = .ok (.lastore, 1) ∧ decode cL_removePoint 10 = .ok (.goto 11, 3) ∧ decode cL_removePoint 13 = .ok (.astore 4, 2) := by decide +kernel
theorem dL_removePoint_0 : decode cL_removePoint 0 = .ok (.aload_n 3, 1) := DL_removePoint_0.1
theorem dL_removePoint_1 : decode cL_removePoint 1 = .ok (.iconst 0, 1) := DL_removePoint_0.2.1
theorem dL_removePoint_2 : decode cL_removePoint 2 = .ok (.aload_n 0, 1) := DL_removePoint_0.2.2.1
theorem dL_removePoint_3 : decode cL_removePoint 3 = .ok (.iload_n 1, 1) := DL_removePoint_0.2.2.2.1
theorem dL_removePoint_4 : decode cL_removePoint 4 = .ok (.iload_n 2, 1) := DL_removePoint_0.2.2.2.2.1
theorem dL_removePoint_5 : decode cL_removePoint 5 = .ok (.invokevirtual 64, 3) := DL_removePoint_0.2.2.2.2.2.1
theorem dL_removePoint_8 : decode cL_removePoint 8 = .ok (.i2l, 1) := DL_removePoint_0.2.2.2.2.2.2.1
theorem dL_removePoint_9 : decode cL_removePoint 9 = .ok (.lastore, 1) := DL_removePoint_0.2.2.2.2.2.2.2.1
theorem dL_removePoint_10 : decode cL_removePoint 10 = .ok (.goto 11, 3) := DL_removePoint_0.2.2.2.2.2.2.2.2.1
theorem dL_removePoint_13 : decode cL_removePoint 13 = .ok (.astore 4, 2) := DL_removePoint_0.2.2.2.2.2.2.2.2.2
set_option maxRecDepth 100000 in
theorem DL_removePoint_1 : decode cL_removePoint 15 = .ok (.iconst 1, 1) ∧ decode cL_removePoint 16 = .ok (.ireturn, 1) ∧ decode cL_removePoint 17 = .ok (.astore 4, 2) ∧ decode cL_removePoint 19 = .ok (.iconst 2, 1) ∧ decode cL_removePoint 20 = .ok (.ireturn, 1) ∧ decode cL_removePoint 21 = .ok (.iconst 0, 1) ∧ decode cL_removePoint 22 = .ok (.ireturn, 1) := by decide +kernel
theorem dL_removePoint_15 : decode cL_removePoint 15 = .ok (.iconst 1, 1) := DL_removePoint_1.1
theorem dL_removePoint_16 : decode cL_removePoint 16 = .ok (.ireturn, 1) := DL_removePoint_1.2.1
theorem dL_removePoint_17 : decode cL_removePoint 17 = .ok (.astore 4, 2) := DL_removePoint_1.2.2.1
theorem dL_removePoint_19 : decode cL_removePoint 19 = .ok (.iconst 2, 1) := DL_removePoint_1.2.2.2.1
theorem dL_removePoint_20 : decode cL_removePoint 20 = .ok (.ireturn, 1) := DL_removePoint_1.2.2.2.2.1
theorem dL_removePoint_21 : decode cL_removePoint 21 = .ok (.iconst 0, 1) := DL_removePoint_1.2.2.2.2.2.1
theorem dL_removePoint_22 : decode cL_removePoint 22 = .ok (.ireturn, 1) := DL_removePoint_1.2.2.2.2.2.2
set_option maxRecDepth 100000 in
theorem DL_automation_0 : decode cL_automation 0 = .ok (.aload_n 3, 1) ∧ decode cL_automation 1 = .ok (.iconst 0, 1) ∧ decode cL_automation 2 = .ok (.aload_n 0, 1) ∧ decode cL_automation 3 = .ok (.iload_n 1, 1) ∧ decode cL_automation 4 = .ok (.iload_n 2, 1) ∧ decode cL_automation 5 = .ok (.invokevirtual 67, 3) ∧ decode cL_automation 8 = .ok (.i2l, 1) ∧ decode cL_automation 9 = .ok (.lastore, 1) ∧ decode cL_automation 10 = .ok (.goto 11, 3) ∧ decode cL_automation 13 = .ok (.astore 4, 2) := by decide +kernel
theorem dL_automation_0 : decode cL_automation 0 = .ok (.aload_n 3, 1) := DL_automation_0.1
theorem dL_automation_1 : decode cL_automation 1 = .ok (.iconst 0, 1) := DL_automation_0.2.1
theorem dL_automation_2 : decode cL_automation 2 = .ok (.aload_n 0, 1) := DL_automation_0.2.2.1
theorem dL_automation_3 : decode cL_automation 3 = .ok (.iload_n 1, 1) := DL_automation_0.2.2.2.1
theorem dL_automation_4 : decode cL_automation 4 = .ok (.iload_n 2, 1) := DL_automation_0.2.2.2.2.1
theorem dL_automation_5 : decode cL_automation 5 = .ok (.invokevirtual 67, 3) := DL_automation_0.2.2.2.2.2.1
theorem dL_automation_8 : decode cL_automation 8 = .ok (.i2l, 1) := DL_automation_0.2.2.2.2.2.2.1
theorem dL_automation_9 : decode cL_automation 9 = .ok (.lastore, 1) := DL_automation_0.2.2.2.2.2.2.2.1
theorem dL_automation_10 : decode cL_automation 10 = .ok (.goto 11, 3) := DL_automation_0.2.2.2.2.2.2.2.2.1
theorem dL_automation_13 : decode cL_automation 13 = .ok (.astore 4, 2) := DL_automation_0.2.2.2.2.2.2.2.2.2
set_option maxRecDepth 100000 in
theorem DL_automation_1 : decode cL_automation 15 = .ok (.iconst 1, 1) ∧ decode cL_automation 16 = .ok (.ireturn, 1) ∧ decode cL_automation 17 = .ok (.astore 4, 2) ∧ decode cL_automation 19 = .ok (.iconst 2, 1) ∧ decode cL_automation 20 = .ok (.ireturn, 1) ∧ decode cL_automation 21 = .ok (.iconst 0, 1) ∧ decode cL_automation 22 = .ok (.ireturn, 1) := by decide +kernel
theorem dL_automation_15 : decode cL_automation 15 = .ok (.iconst 1, 1) := DL_automation_1.1
theorem dL_automation_16 : decode cL_automation 16 = .ok (.ireturn, 1) := DL_automation_1.2.1
theorem dL_automation_17 : decode cL_automation 17 = .ok (.astore 4, 2) := DL_automation_1.2.2.1
theorem dL_automation_19 : decode cL_automation 19 = .ok (.iconst 2, 1) := DL_automation_1.2.2.2.1
theorem dL_automation_20 : decode cL_automation 20 = .ok (.ireturn, 1) := DL_automation_1.2.2.2.2.1
theorem dL_automation_21 : decode cL_automation 21 = .ok (.iconst 0, 1) := DL_automation_1.2.2.2.2.2.1
theorem dL_automation_22 : decode cL_automation 22 = .ok (.ireturn, 1) := DL_automation_1.2.2.2.2.2.2
set_option maxRecDepth 100000 in
theorem DL_duck_0 : decode cL_duck 0 = .ok (.aload 7, 2) ∧ decode cL_duck 2 = .ok (.iconst 0, 1) ∧ decode cL_duck 3 = .ok (.aload_n 0, 1) ∧ decode cL_duck 4 = .ok (.iload_n 1, 1) ∧ decode cL_duck 5 = .ok (.iload_n 2, 1) ∧ decode cL_duck 6 = .ok (.iload_n 3, 1) ∧ decode cL_duck 7 = .ok (.iload 4, 2) ∧ decode cL_duck 9 = .ok (.iload 5, 2) ∧ decode cL_duck 11 = .ok (.iload 6, 2) ∧ decode cL_duck 13 = .ok (.invokevirtual 70, 3) := by decide +kernel
theorem dL_duck_0 : decode cL_duck 0 = .ok (.aload 7, 2) := DL_duck_0.1
theorem dL_duck_2 : decode cL_duck 2 = .ok (.iconst 0, 1) := DL_duck_0.2.1
theorem dL_duck_3 : decode cL_duck 3 = .ok (.aload_n 0, 1) := DL_duck_0.2.2.1
theorem dL_duck_4 : decode cL_duck 4 = .ok (.iload_n 1, 1) := DL_duck_0.2.2.2.1
theorem dL_duck_5 : decode cL_duck 5 = .ok (.iload_n 2, 1) := DL_duck_0.2.2.2.2.1
theorem dL_duck_6 : decode cL_duck 6 = .ok (.iload_n 3, 1) := DL_duck_0.2.2.2.2.2.1
theorem dL_duck_7 : decode cL_duck 7 = .ok (.iload 4, 2) := DL_duck_0.2.2.2.2.2.2.1
theorem dL_duck_9 : decode cL_duck 9 = .ok (.iload 5, 2) := DL_duck_0.2.2.2.2.2.2.2.1
theorem dL_duck_11 : decode cL_duck 11 = .ok (.iload 6, 2) := DL_duck_0.2.2.2.2.2.2.2.2.1
theorem dL_duck_13 : decode cL_duck 13 = .ok (.invokevirtual 70, 3) := DL_duck_0.2.2.2.2.2.2.2.2.2
set_option maxRecDepth 100000 in
theorem DL_duck_1 : decode cL_duck 16 = .ok (.i2l, 1) ∧ decode cL_duck 17 = .ok (.lastore, 1) ∧ decode cL_duck 18 = .ok (.goto 15, 3) ∧ decode cL_duck 21 = .ok (.astore 8, 2) ∧ decode cL_duck 23 = .ok (.iconst 1, 1) ∧ decode cL_duck 24 = .ok (.ireturn, 1) ∧ decode cL_duck 25 = .ok (.astore 8, 2) ∧ decode cL_duck 27 = .ok (.iconst 2, 1) ∧ decode cL_duck 28 = .ok (.ireturn, 1) ∧ decode cL_duck 29 = .ok (.astore 8, 2) := by decide +kernel
theorem dL_duck_16 : decode cL_duck 16 = .ok (.i2l, 1) := DL_duck_1.1
theorem dL_duck_17 : decode cL_duck 17 = .ok (.lastore, 1) := DL_duck_1.2.1
theorem dL_duck_18 : decode cL_duck 18 = .ok (.goto 15, 3) := DL_duck_1.2.2.1
theorem dL_duck_21 : decode cL_duck 21 = .ok (.astore 8, 2) := DL_duck_1.2.2.2.1
theorem dL_duck_23 : decode cL_duck 23 = .ok (.iconst 1, 1) := DL_duck_1.2.2.2.2.1
theorem dL_duck_24 : decode cL_duck 24 = .ok (.ireturn, 1) := DL_duck_1.2.2.2.2.2.1
theorem dL_duck_25 : decode cL_duck 25 = .ok (.astore 8, 2) := DL_duck_1.2.2.2.2.2.2.1
theorem dL_duck_27 : decode cL_duck 27 = .ok (.iconst 2, 1) := DL_duck_1.2.2.2.2.2.2.2.1
theorem dL_duck_28 : decode cL_duck 28 = .ok (.ireturn, 1) := DL_duck_1.2.2.2.2.2.2.2.2.1
theorem dL_duck_29 : decode cL_duck 29 = .ok (.astore 8, 2) := DL_duck_1.2.2.2.2.2.2.2.2.2
set_option maxRecDepth 100000 in
theorem DL_duck_2 : decode cL_duck 31 = .ok (.iconst 3, 1) ∧ decode cL_duck 32 = .ok (.ireturn, 1) ∧ decode cL_duck 33 = .ok (.iconst 0, 1) ∧ decode cL_duck 34 = .ok (.ireturn, 1) := by decide +kernel
theorem dL_duck_31 : decode cL_duck 31 = .ok (.iconst 3, 1) := DL_duck_2.1
theorem dL_duck_32 : decode cL_duck 32 = .ok (.ireturn, 1) := DL_duck_2.2.1
theorem dL_duck_33 : decode cL_duck 33 = .ok (.iconst 0, 1) := DL_duck_2.2.2.1
theorem dL_duck_34 : decode cL_duck 34 = .ok (.ireturn, 1) := DL_duck_2.2.2.2
set_option maxRecDepth 100000 in
theorem DL_endDuck_0 : decode cL_endDuck 0 = .ok (.aload_n 2, 1) ∧ decode cL_endDuck 1 = .ok (.iconst 0, 1) ∧ decode cL_endDuck 2 = .ok (.aload_n 0, 1) ∧ decode cL_endDuck 3 = .ok (.iload_n 1, 1) ∧ decode cL_endDuck 4 = .ok (.invokevirtual 73, 3) ∧ decode cL_endDuck 7 = .ok (.i2l, 1) ∧ decode cL_endDuck 8 = .ok (.lastore, 1) ∧ decode cL_endDuck 9 = .ok (.goto 6, 3) ∧ decode cL_endDuck 12 = .ok (.astore_n 3, 1) ∧ decode cL_endDuck 13 = .ok (.iconst 1, 1) := by decide +kernel
theorem dL_endDuck_0 : decode cL_endDuck 0 = .ok (.aload_n 2, 1) := DL_endDuck_0.1
theorem dL_endDuck_1 : decode cL_endDuck 1 = .ok (.iconst 0, 1) := DL_endDuck_0.2.1
theorem dL_endDuck_2 : decode cL_endDuck 2 = .ok (.aload_n 0, 1) := DL_endDuck_0.2.2.1
theorem dL_endDuck_3 : decode cL_endDuck 3 = .ok (.iload_n 1, 1) := DL_endDuck_0.2.2.2.1
theorem dL_endDuck_4 : decode cL_endDuck 4 = .ok (.invokevirtual 73, 3) := DL_endDuck_0.2.2.2.2.1
theorem dL_endDuck_7 : decode cL_endDuck 7 = .ok (.i2l, 1) := DL_endDuck_0.2.2.2.2.2.1
theorem dL_endDuck_8 : decode cL_endDuck 8 = .ok (.lastore, 1) := DL_endDuck_0.2.2.2.2.2.2.1
theorem dL_endDuck_9 : decode cL_endDuck 9 = .ok (.goto 6, 3) := DL_endDuck_0.2.2.2.2.2.2.2.1
theorem dL_endDuck_12 : decode cL_endDuck 12 = .ok (.astore_n 3, 1) := DL_endDuck_0.2.2.2.2.2.2.2.2.1
theorem dL_endDuck_13 : decode cL_endDuck 13 = .ok (.iconst 1, 1) := DL_endDuck_0.2.2.2.2.2.2.2.2.2
set_option maxRecDepth 100000 in
theorem DL_endDuck_1 : decode cL_endDuck 14 = .ok (.ireturn, 1) ∧ decode cL_endDuck 15 = .ok (.iconst 0, 1) ∧ decode cL_endDuck 16 = .ok (.ireturn, 1) := by decide +kernel
theorem dL_endDuck_14 : decode cL_endDuck 14 = .ok (.ireturn, 1) := DL_endDuck_1.1
theorem dL_endDuck_15 : decode cL_endDuck 15 = .ok (.iconst 0, 1) := DL_endDuck_1.2.1
theorem dL_endDuck_16 : decode cL_endDuck 16 = .ok (.ireturn, 1) := DL_endDuck_1.2.2
set_option maxRecDepth 100000 in
theorem DL_duckGain_0 : decode cL_duckGain 0 = .ok (.aload_n 3, 1) ∧ decode cL_duckGain 1 = .ok (.iconst 0, 1) ∧ decode cL_duckGain 2 = .ok (.aload_n 0, 1) ∧ decode cL_duckGain 3 = .ok (.iload_n 1, 1) ∧ decode cL_duckGain 4 = .ok (.iload_n 2, 1) ∧ decode cL_duckGain 5 = .ok (.invokevirtual 76, 3) ∧ decode cL_duckGain 8 = .ok (.i2l, 1) ∧ decode cL_duckGain 9 = .ok (.lastore, 1) ∧ decode cL_duckGain 10 = .ok (.goto 11, 3) ∧ decode cL_duckGain 13 = .ok (.astore 4, 2) := by decide +kernel
theorem dL_duckGain_0 : decode cL_duckGain 0 = .ok (.aload_n 3, 1) := DL_duckGain_0.1
theorem dL_duckGain_1 : decode cL_duckGain 1 = .ok (.iconst 0, 1) := DL_duckGain_0.2.1
theorem dL_duckGain_2 : decode cL_duckGain 2 = .ok (.aload_n 0, 1) := DL_duckGain_0.2.2.1
theorem dL_duckGain_3 : decode cL_duckGain 3 = .ok (.iload_n 1, 1) := DL_duckGain_0.2.2.2.1
theorem dL_duckGain_4 : decode cL_duckGain 4 = .ok (.iload_n 2, 1) := DL_duckGain_0.2.2.2.2.1
theorem dL_duckGain_5 : decode cL_duckGain 5 = .ok (.invokevirtual 76, 3) := DL_duckGain_0.2.2.2.2.2.1
theorem dL_duckGain_8 : decode cL_duckGain 8 = .ok (.i2l, 1) := DL_duckGain_0.2.2.2.2.2.2.1
theorem dL_duckGain_9 : decode cL_duckGain 9 = .ok (.lastore, 1) := DL_duckGain_0.2.2.2.2.2.2.2.1
theorem dL_duckGain_10 : decode cL_duckGain 10 = .ok (.goto 11, 3) := DL_duckGain_0.2.2.2.2.2.2.2.2.1
theorem dL_duckGain_13 : decode cL_duckGain 13 = .ok (.astore 4, 2) := DL_duckGain_0.2.2.2.2.2.2.2.2.2
set_option maxRecDepth 100000 in
theorem DL_duckGain_1 : decode cL_duckGain 15 = .ok (.iconst 1, 1) ∧ decode cL_duckGain 16 = .ok (.ireturn, 1) ∧ decode cL_duckGain 17 = .ok (.astore 4, 2) ∧ decode cL_duckGain 19 = .ok (.iconst 2, 1) ∧ decode cL_duckGain 20 = .ok (.ireturn, 1) ∧ decode cL_duckGain 21 = .ok (.iconst 0, 1) ∧ decode cL_duckGain 22 = .ok (.ireturn, 1) := by decide +kernel
theorem dL_duckGain_15 : decode cL_duckGain 15 = .ok (.iconst 1, 1) := DL_duckGain_1.1
theorem dL_duckGain_16 : decode cL_duckGain 16 = .ok (.ireturn, 1) := DL_duckGain_1.2.1
theorem dL_duckGain_17 : decode cL_duckGain 17 = .ok (.astore 4, 2) := DL_duckGain_1.2.2.1
theorem dL_duckGain_19 : decode cL_duckGain 19 = .ok (.iconst 2, 1) := DL_duckGain_1.2.2.2.1
theorem dL_duckGain_20 : decode cL_duckGain 20 = .ok (.ireturn, 1) := DL_duckGain_1.2.2.2.2.1
theorem dL_duckGain_21 : decode cL_duckGain 21 = .ok (.iconst 0, 1) := DL_duckGain_1.2.2.2.2.2.1
theorem dL_duckGain_22 : decode cL_duckGain 22 = .ok (.ireturn, 1) := DL_duckGain_1.2.2.2.2.2.2
set_option maxRecDepth 100000 in
theorem DL_trackValue_0 : decode cL_trackValue 0 = .ok (.aload_n 3, 1) ∧ decode cL_trackValue 1 = .ok (.iconst 0, 1) ∧ decode cL_trackValue 2 = .ok (.aload_n 0, 1) ∧ decode cL_trackValue 3 = .ok (.iload_n 1, 1) ∧ decode cL_trackValue 4 = .ok (.iload_n 2, 1) ∧ decode cL_trackValue 5 = .ok (.invokevirtual 79, 3) ∧ decode cL_trackValue 8 = .ok (.i2l, 1) ∧ decode cL_trackValue 9 = .ok (.lastore, 1) ∧ decode cL_trackValue 10 = .ok (.goto 11, 3) ∧ decode cL_trackValue 13 = .ok (.astore 4, 2) := by decide +kernel
theorem dL_trackValue_0 : decode cL_trackValue 0 = .ok (.aload_n 3, 1) := DL_trackValue_0.1
theorem dL_trackValue_1 : decode cL_trackValue 1 = .ok (.iconst 0, 1) := DL_trackValue_0.2.1
theorem dL_trackValue_2 : decode cL_trackValue 2 = .ok (.aload_n 0, 1) := DL_trackValue_0.2.2.1
theorem dL_trackValue_3 : decode cL_trackValue 3 = .ok (.iload_n 1, 1) := DL_trackValue_0.2.2.2.1
theorem dL_trackValue_4 : decode cL_trackValue 4 = .ok (.iload_n 2, 1) := DL_trackValue_0.2.2.2.2.1
theorem dL_trackValue_5 : decode cL_trackValue 5 = .ok (.invokevirtual 79, 3) := DL_trackValue_0.2.2.2.2.2.1
theorem dL_trackValue_8 : decode cL_trackValue 8 = .ok (.i2l, 1) := DL_trackValue_0.2.2.2.2.2.2.1
theorem dL_trackValue_9 : decode cL_trackValue 9 = .ok (.lastore, 1) := DL_trackValue_0.2.2.2.2.2.2.2.1
theorem dL_trackValue_10 : decode cL_trackValue 10 = .ok (.goto 11, 3) := DL_trackValue_0.2.2.2.2.2.2.2.2.1
theorem dL_trackValue_13 : decode cL_trackValue 13 = .ok (.astore 4, 2) := DL_trackValue_0.2.2.2.2.2.2.2.2.2
set_option maxRecDepth 100000 in
theorem DL_trackValue_1 : decode cL_trackValue 15 = .ok (.iconst 1, 1) ∧ decode cL_trackValue 16 = .ok (.ireturn, 1) ∧ decode cL_trackValue 17 = .ok (.astore 4, 2) ∧ decode cL_trackValue 19 = .ok (.iconst 2, 1) ∧ decode cL_trackValue 20 = .ok (.ireturn, 1) ∧ decode cL_trackValue 21 = .ok (.iconst 0, 1) ∧ decode cL_trackValue 22 = .ok (.ireturn, 1) := by decide +kernel
theorem dL_trackValue_15 : decode cL_trackValue 15 = .ok (.iconst 1, 1) := DL_trackValue_1.1
theorem dL_trackValue_16 : decode cL_trackValue 16 = .ok (.ireturn, 1) := DL_trackValue_1.2.1
theorem dL_trackValue_17 : decode cL_trackValue 17 = .ok (.astore 4, 2) := DL_trackValue_1.2.2.1
theorem dL_trackValue_19 : decode cL_trackValue 19 = .ok (.iconst 2, 1) := DL_trackValue_1.2.2.2.1
theorem dL_trackValue_20 : decode cL_trackValue 20 = .ok (.ireturn, 1) := DL_trackValue_1.2.2.2.2.1
theorem dL_trackValue_21 : decode cL_trackValue 21 = .ok (.iconst 0, 1) := DL_trackValue_1.2.2.2.2.2.1
theorem dL_trackValue_22 : decode cL_trackValue 22 = .ok (.ireturn, 1) := DL_trackValue_1.2.2.2.2.2.2
set_option maxRecDepth 100000 in
theorem DL_isAudible_0 : decode cL_isAudible 0 = .ok (.aload_n 2, 1) ∧ decode cL_isAudible 1 = .ok (.iconst 0, 1) ∧ decode cL_isAudible 2 = .ok (.aload_n 0, 1) ∧ decode cL_isAudible 3 = .ok (.iload_n 1, 1) ∧ decode cL_isAudible 4 = .ok (.invokevirtual 82, 3) ∧ decode cL_isAudible 7 = .ok (.ifCond .eq 7, 3) ∧ decode cL_isAudible 10 = .ok (.lconst 1, 1) ∧ decode cL_isAudible 11 = .ok (.goto 4, 3) ∧ decode cL_isAudible 14 = .ok (.lconst 0, 1) ∧ decode cL_isAudible 15 = .ok (.lastore, 1) := by decide +kernel
theorem dL_isAudible_0 : decode cL_isAudible 0 = .ok (.aload_n 2, 1) := DL_isAudible_0.1
theorem dL_isAudible_1 : decode cL_isAudible 1 = .ok (.iconst 0, 1) := DL_isAudible_0.2.1
theorem dL_isAudible_2 : decode cL_isAudible 2 = .ok (.aload_n 0, 1) := DL_isAudible_0.2.2.1
theorem dL_isAudible_3 : decode cL_isAudible 3 = .ok (.iload_n 1, 1) := DL_isAudible_0.2.2.2.1
theorem dL_isAudible_4 : decode cL_isAudible 4 = .ok (.invokevirtual 82, 3) := DL_isAudible_0.2.2.2.2.1
theorem dL_isAudible_7 : decode cL_isAudible 7 = .ok (.ifCond .eq 7, 3) := DL_isAudible_0.2.2.2.2.2.1
theorem dL_isAudible_10 : decode cL_isAudible 10 = .ok (.lconst 1, 1) := DL_isAudible_0.2.2.2.2.2.2.1
theorem dL_isAudible_11 : decode cL_isAudible 11 = .ok (.goto 4, 3) := DL_isAudible_0.2.2.2.2.2.2.2.1
theorem dL_isAudible_14 : decode cL_isAudible 14 = .ok (.lconst 0, 1) := DL_isAudible_0.2.2.2.2.2.2.2.2.1
theorem dL_isAudible_15 : decode cL_isAudible 15 = .ok (.lastore, 1) := DL_isAudible_0.2.2.2.2.2.2.2.2.2
set_option maxRecDepth 100000 in
theorem DL_isAudible_1 : decode cL_isAudible 16 = .ok (.goto 6, 3) ∧ decode cL_isAudible 19 = .ok (.astore_n 3, 1) ∧ decode cL_isAudible 20 = .ok (.iconst 1, 1) ∧ decode cL_isAudible 21 = .ok (.ireturn, 1) ∧ decode cL_isAudible 22 = .ok (.iconst 0, 1) ∧ decode cL_isAudible 23 = .ok (.ireturn, 1) := by decide +kernel
theorem dL_isAudible_16 : decode cL_isAudible 16 = .ok (.goto 6, 3) := DL_isAudible_1.1
theorem dL_isAudible_19 : decode cL_isAudible 19 = .ok (.astore_n 3, 1) := DL_isAudible_1.2.1
theorem dL_isAudible_20 : decode cL_isAudible 20 = .ok (.iconst 1, 1) := DL_isAudible_1.2.2.1
theorem dL_isAudible_21 : decode cL_isAudible 21 = .ok (.ireturn, 1) := DL_isAudible_1.2.2.2.1
theorem dL_isAudible_22 : decode cL_isAudible 22 = .ok (.iconst 0, 1) := DL_isAudible_1.2.2.2.2.1
theorem dL_isAudible_23 : decode cL_isAudible 23 = .ok (.ireturn, 1) := DL_isAudible_1.2.2.2.2.2
set_option maxRecDepth 100000 in
theorem DL_setMaster_0 : decode cL_setMaster 0 = .ok (.aload_n 2, 1) ∧ decode cL_setMaster 1 = .ok (.iconst 0, 1) ∧ decode cL_setMaster 2 = .ok (.aload_n 0, 1) ∧ decode cL_setMaster 3 = .ok (.iload_n 1, 1) ∧ decode cL_setMaster 4 = .ok (.invokevirtual 86, 3) ∧ decode cL_setMaster 7 = .ok (.i2l, 1) ∧ decode cL_setMaster 8 = .ok (.lastore, 1) ∧ decode cL_setMaster 9 = .ok (.goto 6, 3) ∧ decode cL_setMaster 12 = .ok (.astore_n 3, 1) ∧ decode cL_setMaster 13 = .ok (.iconst 1, 1) := by decide +kernel
theorem dL_setMaster_0 : decode cL_setMaster 0 = .ok (.aload_n 2, 1) := DL_setMaster_0.1
theorem dL_setMaster_1 : decode cL_setMaster 1 = .ok (.iconst 0, 1) := DL_setMaster_0.2.1
theorem dL_setMaster_2 : decode cL_setMaster 2 = .ok (.aload_n 0, 1) := DL_setMaster_0.2.2.1
theorem dL_setMaster_3 : decode cL_setMaster 3 = .ok (.iload_n 1, 1) := DL_setMaster_0.2.2.2.1
theorem dL_setMaster_4 : decode cL_setMaster 4 = .ok (.invokevirtual 86, 3) := DL_setMaster_0.2.2.2.2.1
theorem dL_setMaster_7 : decode cL_setMaster 7 = .ok (.i2l, 1) := DL_setMaster_0.2.2.2.2.2.1
theorem dL_setMaster_8 : decode cL_setMaster 8 = .ok (.lastore, 1) := DL_setMaster_0.2.2.2.2.2.2.1
theorem dL_setMaster_9 : decode cL_setMaster 9 = .ok (.goto 6, 3) := DL_setMaster_0.2.2.2.2.2.2.2.1
theorem dL_setMaster_12 : decode cL_setMaster 12 = .ok (.astore_n 3, 1) := DL_setMaster_0.2.2.2.2.2.2.2.2.1
theorem dL_setMaster_13 : decode cL_setMaster 13 = .ok (.iconst 1, 1) := DL_setMaster_0.2.2.2.2.2.2.2.2.2
set_option maxRecDepth 100000 in
theorem DL_setMaster_1 : decode cL_setMaster 14 = .ok (.ireturn, 1) ∧ decode cL_setMaster 15 = .ok (.iconst 0, 1) ∧ decode cL_setMaster 16 = .ok (.ireturn, 1) := by decide +kernel
theorem dL_setMaster_14 : decode cL_setMaster 14 = .ok (.ireturn, 1) := DL_setMaster_1.1
theorem dL_setMaster_15 : decode cL_setMaster 15 = .ok (.iconst 0, 1) := DL_setMaster_1.2.1
theorem dL_setMaster_16 : decode cL_setMaster 16 = .ok (.ireturn, 1) := DL_setMaster_1.2.2
set_option maxRecDepth 100000 in
theorem DL_mix_0 : decode cL_mix 0 = .ok (.aload_n 3, 1) ∧ decode cL_mix 1 = .ok (.iconst 0, 1) ∧ decode cL_mix 2 = .ok (.aload_n 0, 1) ∧ decode cL_mix 3 = .ok (.iload_n 1, 1) ∧ decode cL_mix 4 = .ok (.iload_n 2, 1) ∧ decode cL_mix 5 = .ok (.invokevirtual 89, 3) ∧ decode cL_mix 8 = .ok (.i2l, 1) ∧ decode cL_mix 9 = .ok (.lastore, 1) ∧ decode cL_mix 10 = .ok (.goto 7, 3) ∧ decode cL_mix 13 = .ok (.astore 4, 2) := by decide +kernel
theorem dL_mix_0 : decode cL_mix 0 = .ok (.aload_n 3, 1) := DL_mix_0.1
theorem dL_mix_1 : decode cL_mix 1 = .ok (.iconst 0, 1) := DL_mix_0.2.1
theorem dL_mix_2 : decode cL_mix 2 = .ok (.aload_n 0, 1) := DL_mix_0.2.2.1
theorem dL_mix_3 : decode cL_mix 3 = .ok (.iload_n 1, 1) := DL_mix_0.2.2.2.1
theorem dL_mix_4 : decode cL_mix 4 = .ok (.iload_n 2, 1) := DL_mix_0.2.2.2.2.1
theorem dL_mix_5 : decode cL_mix 5 = .ok (.invokevirtual 89, 3) := DL_mix_0.2.2.2.2.2.1
theorem dL_mix_8 : decode cL_mix 8 = .ok (.i2l, 1) := DL_mix_0.2.2.2.2.2.2.1
theorem dL_mix_9 : decode cL_mix 9 = .ok (.lastore, 1) := DL_mix_0.2.2.2.2.2.2.2.1
theorem dL_mix_10 : decode cL_mix 10 = .ok (.goto 7, 3) := DL_mix_0.2.2.2.2.2.2.2.2.1
theorem dL_mix_13 : decode cL_mix 13 = .ok (.astore 4, 2) := DL_mix_0.2.2.2.2.2.2.2.2.2
set_option maxRecDepth 100000 in
theorem DL_mix_1 : decode cL_mix 15 = .ok (.iconst 1, 1) ∧ decode cL_mix 16 = .ok (.ireturn, 1) ∧ decode cL_mix 17 = .ok (.iconst 0, 1) ∧ decode cL_mix 18 = .ok (.ireturn, 1) := by decide +kernel
theorem dL_mix_15 : decode cL_mix 15 = .ok (.iconst 1, 1) := DL_mix_1.1
theorem dL_mix_16 : decode cL_mix 16 = .ok (.ireturn, 1) := DL_mix_1.2.1
theorem dL_mix_17 : decode cL_mix 17 = .ok (.iconst 0, 1) := DL_mix_1.2.2.1
theorem dL_mix_18 : decode cL_mix 18 = .ok (.ireturn, 1) := DL_mix_1.2.2.2
set_option maxRecDepth 100000 in
theorem DL_setLoop_0 : decode cL_setLoop 0 = .ok (.aload_n 3, 1) ∧ decode cL_setLoop 1 = .ok (.iconst 0, 1) ∧ decode cL_setLoop 2 = .ok (.aload_n 0, 1) ∧ decode cL_setLoop 3 = .ok (.iload_n 1, 1) ∧ decode cL_setLoop 4 = .ok (.iload_n 2, 1) ∧ decode cL_setLoop 5 = .ok (.invokevirtual 93, 3) ∧ decode cL_setLoop 8 = .ok (.i2l, 1) ∧ decode cL_setLoop 9 = .ok (.lastore, 1) ∧ decode cL_setLoop 10 = .ok (.goto 7, 3) ∧ decode cL_setLoop 13 = .ok (.astore 4, 2) := by decide +kernel
theorem dL_setLoop_0 : decode cL_setLoop 0 = .ok (.aload_n 3, 1) := DL_setLoop_0.1
theorem dL_setLoop_1 : decode cL_setLoop 1 = .ok (.iconst 0, 1) := DL_setLoop_0.2.1
theorem dL_setLoop_2 : decode cL_setLoop 2 = .ok (.aload_n 0, 1) := DL_setLoop_0.2.2.1
theorem dL_setLoop_3 : decode cL_setLoop 3 = .ok (.iload_n 1, 1) := DL_setLoop_0.2.2.2.1
theorem dL_setLoop_4 : decode cL_setLoop 4 = .ok (.iload_n 2, 1) := DL_setLoop_0.2.2.2.2.1
theorem dL_setLoop_5 : decode cL_setLoop 5 = .ok (.invokevirtual 93, 3) := DL_setLoop_0.2.2.2.2.2.1
theorem dL_setLoop_8 : decode cL_setLoop 8 = .ok (.i2l, 1) := DL_setLoop_0.2.2.2.2.2.2.1
theorem dL_setLoop_9 : decode cL_setLoop 9 = .ok (.lastore, 1) := DL_setLoop_0.2.2.2.2.2.2.2.1
theorem dL_setLoop_10 : decode cL_setLoop 10 = .ok (.goto 7, 3) := DL_setLoop_0.2.2.2.2.2.2.2.2.1
theorem dL_setLoop_13 : decode cL_setLoop 13 = .ok (.astore 4, 2) := DL_setLoop_0.2.2.2.2.2.2.2.2.2
set_option maxRecDepth 100000 in
theorem DL_setLoop_1 : decode cL_setLoop 15 = .ok (.iconst 1, 1) ∧ decode cL_setLoop 16 = .ok (.ireturn, 1) ∧ decode cL_setLoop 17 = .ok (.iconst 0, 1) ∧ decode cL_setLoop 18 = .ok (.ireturn, 1) := by decide +kernel
theorem dL_setLoop_15 : decode cL_setLoop 15 = .ok (.iconst 1, 1) := DL_setLoop_1.1
theorem dL_setLoop_16 : decode cL_setLoop 16 = .ok (.ireturn, 1) := DL_setLoop_1.2.1
theorem dL_setLoop_17 : decode cL_setLoop 17 = .ok (.iconst 0, 1) := DL_setLoop_1.2.2.1
theorem dL_setLoop_18 : decode cL_setLoop 18 = .ok (.ireturn, 1) := DL_setLoop_1.2.2.2
set_option maxRecDepth 100000 in
theorem DL_seek_0 : decode cL_seek 0 = .ok (.aload_n 2, 1) ∧ decode cL_seek 1 = .ok (.iconst 0, 1) ∧ decode cL_seek 2 = .ok (.aload_n 0, 1) ∧ decode cL_seek 3 = .ok (.iload_n 1, 1) ∧ decode cL_seek 4 = .ok (.invokevirtual 96, 3) ∧ decode cL_seek 7 = .ok (.i2l, 1) ∧ decode cL_seek 8 = .ok (.lastore, 1) ∧ decode cL_seek 9 = .ok (.goto 6, 3) ∧ decode cL_seek 12 = .ok (.astore_n 3, 1) ∧ decode cL_seek 13 = .ok (.iconst 1, 1) := by decide +kernel
theorem dL_seek_0 : decode cL_seek 0 = .ok (.aload_n 2, 1) := DL_seek_0.1
theorem dL_seek_1 : decode cL_seek 1 = .ok (.iconst 0, 1) := DL_seek_0.2.1
theorem dL_seek_2 : decode cL_seek 2 = .ok (.aload_n 0, 1) := DL_seek_0.2.2.1
theorem dL_seek_3 : decode cL_seek 3 = .ok (.iload_n 1, 1) := DL_seek_0.2.2.2.1
theorem dL_seek_4 : decode cL_seek 4 = .ok (.invokevirtual 96, 3) := DL_seek_0.2.2.2.2.1
theorem dL_seek_7 : decode cL_seek 7 = .ok (.i2l, 1) := DL_seek_0.2.2.2.2.2.1
theorem dL_seek_8 : decode cL_seek 8 = .ok (.lastore, 1) := DL_seek_0.2.2.2.2.2.2.1
theorem dL_seek_9 : decode cL_seek 9 = .ok (.goto 6, 3) := DL_seek_0.2.2.2.2.2.2.2.1
theorem dL_seek_12 : decode cL_seek 12 = .ok (.astore_n 3, 1) := DL_seek_0.2.2.2.2.2.2.2.2.1
theorem dL_seek_13 : decode cL_seek 13 = .ok (.iconst 1, 1) := DL_seek_0.2.2.2.2.2.2.2.2.2
set_option maxRecDepth 100000 in
theorem DL_seek_1 : decode cL_seek 14 = .ok (.ireturn, 1) ∧ decode cL_seek 15 = .ok (.iconst 0, 1) ∧ decode cL_seek 16 = .ok (.ireturn, 1) := by decide +kernel
theorem dL_seek_14 : decode cL_seek 14 = .ok (.ireturn, 1) := DL_seek_1.1
theorem dL_seek_15 : decode cL_seek 15 = .ok (.iconst 0, 1) := DL_seek_1.2.1
theorem dL_seek_16 : decode cL_seek 16 = .ok (.ireturn, 1) := DL_seek_1.2.2
set_option maxRecDepth 100000 in
theorem DL_render_0 : decode cL_render 0 = .ok (.aload_n 2, 1) ∧ decode cL_render 1 = .ok (.iconst 0, 1) ∧ decode cL_render 2 = .ok (.aload_n 0, 1) ∧ decode cL_render 3 = .ok (.iload_n 1, 1) ∧ decode cL_render 4 = .ok (.invokevirtual 99, 3) ∧ decode cL_render 7 = .ok (.i2l, 1) ∧ decode cL_render 8 = .ok (.lastore, 1) ∧ decode cL_render 9 = .ok (.goto 6, 3) ∧ decode cL_render 12 = .ok (.astore_n 3, 1) ∧ decode cL_render 13 = .ok (.iconst 1, 1) := by decide +kernel
theorem dL_render_0 : decode cL_render 0 = .ok (.aload_n 2, 1) := DL_render_0.1
theorem dL_render_1 : decode cL_render 1 = .ok (.iconst 0, 1) := DL_render_0.2.1
theorem dL_render_2 : decode cL_render 2 = .ok (.aload_n 0, 1) := DL_render_0.2.2.1
theorem dL_render_3 : decode cL_render 3 = .ok (.iload_n 1, 1) := DL_render_0.2.2.2.1
theorem dL_render_4 : decode cL_render 4 = .ok (.invokevirtual 99, 3) := DL_render_0.2.2.2.2.1
theorem dL_render_7 : decode cL_render 7 = .ok (.i2l, 1) := DL_render_0.2.2.2.2.2.1
theorem dL_render_8 : decode cL_render 8 = .ok (.lastore, 1) := DL_render_0.2.2.2.2.2.2.1
theorem dL_render_9 : decode cL_render 9 = .ok (.goto 6, 3) := DL_render_0.2.2.2.2.2.2.2.1
theorem dL_render_12 : decode cL_render 12 = .ok (.astore_n 3, 1) := DL_render_0.2.2.2.2.2.2.2.2.1
theorem dL_render_13 : decode cL_render 13 = .ok (.iconst 1, 1) := DL_render_0.2.2.2.2.2.2.2.2.2
set_option maxRecDepth 100000 in
theorem DL_render_1 : decode cL_render 14 = .ok (.ireturn, 1) ∧ decode cL_render 15 = .ok (.iconst 0, 1) ∧ decode cL_render 16 = .ok (.ireturn, 1) := by decide +kernel
theorem dL_render_14 : decode cL_render 14 = .ok (.ireturn, 1) := DL_render_1.1
theorem dL_render_15 : decode cL_render 15 = .ok (.iconst 0, 1) := DL_render_1.2.1
theorem dL_render_16 : decode cL_render 16 = .ok (.ireturn, 1) := DL_render_1.2.2
set_option maxRecDepth 100000 in
theorem DL_meter_0 : decode cL_meter 0 = .ok (.aload_n 2, 1) ∧ decode cL_meter 1 = .ok (.iconst 0, 1) ∧ decode cL_meter 2 = .ok (.aload_n 0, 1) ∧ decode cL_meter 3 = .ok (.iload_n 1, 1) ∧ decode cL_meter 4 = .ok (.invokevirtual 102, 3) ∧ decode cL_meter 7 = .ok (.lastore, 1) ∧ decode cL_meter 8 = .ok (.goto 6, 3) ∧ decode cL_meter 11 = .ok (.astore_n 3, 1) ∧ decode cL_meter 12 = .ok (.iconst 1, 1) ∧ decode cL_meter 13 = .ok (.ireturn, 1) := by decide +kernel
theorem dL_meter_0 : decode cL_meter 0 = .ok (.aload_n 2, 1) := DL_meter_0.1
theorem dL_meter_1 : decode cL_meter 1 = .ok (.iconst 0, 1) := DL_meter_0.2.1
theorem dL_meter_2 : decode cL_meter 2 = .ok (.aload_n 0, 1) := DL_meter_0.2.2.1
theorem dL_meter_3 : decode cL_meter 3 = .ok (.iload_n 1, 1) := DL_meter_0.2.2.2.1
theorem dL_meter_4 : decode cL_meter 4 = .ok (.invokevirtual 102, 3) := DL_meter_0.2.2.2.2.1
theorem dL_meter_7 : decode cL_meter 7 = .ok (.lastore, 1) := DL_meter_0.2.2.2.2.2.1
theorem dL_meter_8 : decode cL_meter 8 = .ok (.goto 6, 3) := DL_meter_0.2.2.2.2.2.2.1
theorem dL_meter_11 : decode cL_meter 11 = .ok (.astore_n 3, 1) := DL_meter_0.2.2.2.2.2.2.2.1
theorem dL_meter_12 : decode cL_meter 12 = .ok (.iconst 1, 1) := DL_meter_0.2.2.2.2.2.2.2.2.1
theorem dL_meter_13 : decode cL_meter 13 = .ok (.ireturn, 1) := DL_meter_0.2.2.2.2.2.2.2.2.2
set_option maxRecDepth 100000 in
theorem DL_meter_1 : decode cL_meter 14 = .ok (.iconst 0, 1) ∧ decode cL_meter 15 = .ok (.ireturn, 1) := by decide +kernel
theorem dL_meter_14 : decode cL_meter 14 = .ok (.iconst 0, 1) := DL_meter_1.1
theorem dL_meter_15 : decode cL_meter 15 = .ok (.ireturn, 1) := DL_meter_1.2
set_option maxRecDepth 100000 in
theorem DL_undo_0 : decode cL_undo 0 = .ok (.aload_n 1, 1) ∧ decode cL_undo 1 = .ok (.iconst 0, 1) ∧ decode cL_undo 2 = .ok (.aload_n 0, 1) ∧ decode cL_undo 3 = .ok (.invokevirtual 106, 3) ∧ decode cL_undo 6 = .ok (.i2l, 1) ∧ decode cL_undo 7 = .ok (.lastore, 1) ∧ decode cL_undo 8 = .ok (.goto 6, 3) ∧ decode cL_undo 11 = .ok (.astore_n 2, 1) ∧ decode cL_undo 12 = .ok (.iconst 1, 1) ∧ decode cL_undo 13 = .ok (.ireturn, 1) := by decide +kernel
theorem dL_undo_0 : decode cL_undo 0 = .ok (.aload_n 1, 1) := DL_undo_0.1
theorem dL_undo_1 : decode cL_undo 1 = .ok (.iconst 0, 1) := DL_undo_0.2.1
theorem dL_undo_2 : decode cL_undo 2 = .ok (.aload_n 0, 1) := DL_undo_0.2.2.1
theorem dL_undo_3 : decode cL_undo 3 = .ok (.invokevirtual 106, 3) := DL_undo_0.2.2.2.1
theorem dL_undo_6 : decode cL_undo 6 = .ok (.i2l, 1) := DL_undo_0.2.2.2.2.1
theorem dL_undo_7 : decode cL_undo 7 = .ok (.lastore, 1) := DL_undo_0.2.2.2.2.2.1
theorem dL_undo_8 : decode cL_undo 8 = .ok (.goto 6, 3) := DL_undo_0.2.2.2.2.2.2.1
theorem dL_undo_11 : decode cL_undo 11 = .ok (.astore_n 2, 1) := DL_undo_0.2.2.2.2.2.2.2.1
theorem dL_undo_12 : decode cL_undo 12 = .ok (.iconst 1, 1) := DL_undo_0.2.2.2.2.2.2.2.2.1
theorem dL_undo_13 : decode cL_undo 13 = .ok (.ireturn, 1) := DL_undo_0.2.2.2.2.2.2.2.2.2
set_option maxRecDepth 100000 in
theorem DL_undo_1 : decode cL_undo 14 = .ok (.iconst 0, 1) ∧ decode cL_undo 15 = .ok (.ireturn, 1) := by decide +kernel
theorem dL_undo_14 : decode cL_undo 14 = .ok (.iconst 0, 1) := DL_undo_1.1
theorem dL_undo_15 : decode cL_undo 15 = .ok (.ireturn, 1) := DL_undo_1.2
set_option maxRecDepth 100000 in
theorem DL_law_0 : decode cL_law 0 = .ok (.new 8, 3) ∧ decode cL_law 3 = .ok (.dup, 1) ∧ decode cL_law 4 = .ok (.invokespecial 110, 3) ∧ decode cL_law 7 = .ok (.astore_n 1, 1) ∧ decode cL_law 8 = .ok (.new 111, 3) ∧ decode cL_law 11 = .ok (.dup, 1) ∧ decode cL_law 12 = .ok (.invokespecial 113, 3) ∧ decode cL_law 15 = .ok (.astore_n 2, 1) ∧ decode cL_law 16 = .ok (.iconst 1, 1) ∧ decode cL_law 17 = .ok (.newarray .long, 2) := by decide +kernel
theorem dL_law_0 : decode cL_law 0 = .ok (.new 8, 3) := DL_law_0.1
theorem dL_law_3 : decode cL_law 3 = .ok (.dup, 1) := DL_law_0.2.1
theorem dL_law_4 : decode cL_law 4 = .ok (.invokespecial 110, 3) := DL_law_0.2.2.1
theorem dL_law_7 : decode cL_law 7 = .ok (.astore_n 1, 1) := DL_law_0.2.2.2.1
theorem dL_law_8 : decode cL_law 8 = .ok (.new 111, 3) := DL_law_0.2.2.2.2.1
theorem dL_law_11 : decode cL_law 11 = .ok (.dup, 1) := DL_law_0.2.2.2.2.2.1
theorem dL_law_12 : decode cL_law 12 = .ok (.invokespecial 113, 3) := DL_law_0.2.2.2.2.2.2.1
theorem dL_law_15 : decode cL_law 15 = .ok (.astore_n 2, 1) := DL_law_0.2.2.2.2.2.2.2.1
theorem dL_law_16 : decode cL_law 16 = .ok (.iconst 1, 1) := DL_law_0.2.2.2.2.2.2.2.2.1
theorem dL_law_17 : decode cL_law 17 = .ok (.newarray .long, 2) := DL_law_0.2.2.2.2.2.2.2.2.2
set_option maxRecDepth 100000 in
theorem DL_law_1 : decode cL_law 19 = .ok (.astore_n 3, 1) ∧ decode cL_law 20 = .ok (.iconst 0, 1) ∧ decode cL_law 21 = .ok (.istore 4, 2) ∧ decode cL_law 23 = .ok (.iload 4, 2) ∧ decode cL_law 25 = .ok (.aload_n 0, 1) ∧ decode cL_law 26 = .ok (.arraylength, 1) ∧ decode cL_law 27 = .ok (.bipush 7, 2) ∧ decode cL_law 29 = .ok (.isub, 1) ∧ decode cL_law 30 = .ok (.if_icmp .gt 2252, 3) ∧ decode cL_law 33 = .ok (.aload_n 0, 1) := by decide +kernel
theorem dL_law_19 : decode cL_law 19 = .ok (.astore_n 3, 1) := DL_law_1.1
theorem dL_law_20 : decode cL_law 20 = .ok (.iconst 0, 1) := DL_law_1.2.1
theorem dL_law_21 : decode cL_law 21 = .ok (.istore 4, 2) := DL_law_1.2.2.1
theorem dL_law_23 : decode cL_law 23 = .ok (.iload 4, 2) := DL_law_1.2.2.2.1
theorem dL_law_25 : decode cL_law 25 = .ok (.aload_n 0, 1) := DL_law_1.2.2.2.2.1
theorem dL_law_26 : decode cL_law 26 = .ok (.arraylength, 1) := DL_law_1.2.2.2.2.2.1
theorem dL_law_27 : decode cL_law 27 = .ok (.bipush 7, 2) := DL_law_1.2.2.2.2.2.2.1
theorem dL_law_29 : decode cL_law 29 = .ok (.isub, 1) := DL_law_1.2.2.2.2.2.2.2.1
theorem dL_law_30 : decode cL_law 30 = .ok (.if_icmp .gt 2252, 3) := DL_law_1.2.2.2.2.2.2.2.2.1
theorem dL_law_33 : decode cL_law 33 = .ok (.aload_n 0, 1) := DL_law_1.2.2.2.2.2.2.2.2.2
set_option maxRecDepth 100000 in
theorem DL_law_2 : decode cL_law 34 = .ok (.iload 4, 2) ∧ decode cL_law 36 = .ok (.iaload, 1) ∧ decode cL_law 37 = .ok (.bipush 31, 2) ∧ decode cL_law 39 = .ok (.iand, 1) ∧ decode cL_law 40 = .ok (.tableswitch 2236 0 30 #[140, 244, 312, 430, 522, 590, 670, 738, 794, 874, 887, 955, 1023, 1159, 1267, 1335, 1403, 1521, 1577, 1645, 1713, 1776, 1832, 1916, 1984, 2040, 2096, 2151, 2165, 2178, 2222], 140) ∧ decode cL_law 180 = .ok (.aload_n 1, 1) ∧ decode cL_law 181 = .ok (.aload_n 0, 1) ∧ decode cL_law 182 = .ok (.iload 4, 2) ∧ decode cL_law 184 = .ok (.iconst 1, 1) ∧ decode cL_law 185 = .ok (.iadd, 1) := by decide +kernel
theorem dL_law_34 : decode cL_law 34 = .ok (.iload 4, 2) := DL_law_2.1
theorem dL_law_36 : decode cL_law 36 = .ok (.iaload, 1) := DL_law_2.2.1
theorem dL_law_37 : decode cL_law 37 = .ok (.bipush 31, 2) := DL_law_2.2.2.1
theorem dL_law_39 : decode cL_law 39 = .ok (.iand, 1) := DL_law_2.2.2.2.1
theorem dL_law_40 : decode cL_law 40 = .ok (.tableswitch 2236 0 30 #[140, 244, 312, 430, 522, 590, 670, 738, 794, 874, 887, 955, 1023, 1159, 1267, 1335, 1403, 1521, 1577, 1645, 1713, 1776, 1832, 1916, 1984, 2040, 2096, 2151, 2165, 2178, 2222], 140) := DL_law_2.2.2.2.2.1
theorem dL_law_180 : decode cL_law 180 = .ok (.aload_n 1, 1) := DL_law_2.2.2.2.2.2.1
theorem dL_law_181 : decode cL_law 181 = .ok (.aload_n 0, 1) := DL_law_2.2.2.2.2.2.2.1
theorem dL_law_182 : decode cL_law 182 = .ok (.iload 4, 2) := DL_law_2.2.2.2.2.2.2.2.1
theorem dL_law_184 : decode cL_law 184 = .ok (.iconst 1, 1) := DL_law_2.2.2.2.2.2.2.2.2.1
theorem dL_law_185 : decode cL_law 185 = .ok (.iadd, 1) := DL_law_2.2.2.2.2.2.2.2.2.2
set_option maxRecDepth 100000 in
theorem DL_law_3 : decode cL_law 186 = .ok (.iaload, 1) ∧ decode cL_law 187 = .ok (.aload_n 0, 1) ∧ decode cL_law 188 = .ok (.iload 4, 2) ∧ decode cL_law 190 = .ok (.iconst 2, 1) ∧ decode cL_law 191 = .ok (.iadd, 1) ∧ decode cL_law 192 = .ok (.iaload, 1) ∧ decode cL_law 193 = .ok (.aload_n 0, 1) ∧ decode cL_law 194 = .ok (.iload 4, 2) ∧ decode cL_law 196 = .ok (.iconst 3, 1) ∧ decode cL_law 197 = .ok (.iadd, 1) := by decide +kernel
theorem dL_law_186 : decode cL_law 186 = .ok (.iaload, 1) := DL_law_3.1
theorem dL_law_187 : decode cL_law 187 = .ok (.aload_n 0, 1) := DL_law_3.2.1
theorem dL_law_188 : decode cL_law 188 = .ok (.iload 4, 2) := DL_law_3.2.2.1
theorem dL_law_190 : decode cL_law 190 = .ok (.iconst 2, 1) := DL_law_3.2.2.2.1
theorem dL_law_191 : decode cL_law 191 = .ok (.iadd, 1) := DL_law_3.2.2.2.2.1
theorem dL_law_192 : decode cL_law 192 = .ok (.iaload, 1) := DL_law_3.2.2.2.2.2.1
theorem dL_law_193 : decode cL_law 193 = .ok (.aload_n 0, 1) := DL_law_3.2.2.2.2.2.2.1
theorem dL_law_194 : decode cL_law 194 = .ok (.iload 4, 2) := DL_law_3.2.2.2.2.2.2.2.1
theorem dL_law_196 : decode cL_law 196 = .ok (.iconst 3, 1) := DL_law_3.2.2.2.2.2.2.2.2.1
theorem dL_law_197 : decode cL_law 197 = .ok (.iadd, 1) := DL_law_3.2.2.2.2.2.2.2.2.2
set_option maxRecDepth 100000 in
theorem DL_law_4 : decode cL_law 198 = .ok (.iaload, 1) ∧ decode cL_law 199 = .ok (.aload_n 0, 1) ∧ decode cL_law 200 = .ok (.iload 4, 2) ∧ decode cL_law 202 = .ok (.iconst 4, 1) ∧ decode cL_law 203 = .ok (.iadd, 1) ∧ decode cL_law 204 = .ok (.iaload, 1) ∧ decode cL_law 205 = .ok (.aload_n 0, 1) ∧ decode cL_law 206 = .ok (.iload 4, 2) ∧ decode cL_law 208 = .ok (.iconst 5, 1) ∧ decode cL_law 209 = .ok (.iadd, 1) := by decide +kernel
theorem dL_law_198 : decode cL_law 198 = .ok (.iaload, 1) := DL_law_4.1
theorem dL_law_199 : decode cL_law 199 = .ok (.aload_n 0, 1) := DL_law_4.2.1
theorem dL_law_200 : decode cL_law 200 = .ok (.iload 4, 2) := DL_law_4.2.2.1
theorem dL_law_202 : decode cL_law 202 = .ok (.iconst 4, 1) := DL_law_4.2.2.2.1
theorem dL_law_203 : decode cL_law 203 = .ok (.iadd, 1) := DL_law_4.2.2.2.2.1
theorem dL_law_204 : decode cL_law 204 = .ok (.iaload, 1) := DL_law_4.2.2.2.2.2.1
theorem dL_law_205 : decode cL_law 205 = .ok (.aload_n 0, 1) := DL_law_4.2.2.2.2.2.2.1
theorem dL_law_206 : decode cL_law 206 = .ok (.iload 4, 2) := DL_law_4.2.2.2.2.2.2.2.1
theorem dL_law_208 : decode cL_law 208 = .ok (.iconst 5, 1) := DL_law_4.2.2.2.2.2.2.2.2.1
theorem dL_law_209 : decode cL_law 209 = .ok (.iadd, 1) := DL_law_4.2.2.2.2.2.2.2.2.2
set_option maxRecDepth 100000 in
theorem DL_law_5 : decode cL_law 210 = .ok (.iaload, 1) ∧ decode cL_law 211 = .ok (.aload_n 3, 1) ∧ decode cL_law 212 = .ok (.invokestatic 114, 3) ∧ decode cL_law 215 = .ok (.istore 5, 2) ∧ decode cL_law 217 = .ok (.aload_n 2, 1) ∧ decode cL_law 218 = .ok (.aload_n 0, 1) ∧ decode cL_law 219 = .ok (.iload 4, 2) ∧ decode cL_law 221 = .ok (.iconst 1, 1) ∧ decode cL_law 222 = .ok (.iadd, 1) ∧ decode cL_law 223 = .ok (.iaload, 1) := by decide +kernel
theorem dL_law_210 : decode cL_law 210 = .ok (.iaload, 1) := DL_law_5.1
theorem dL_law_211 : decode cL_law 211 = .ok (.aload_n 3, 1) := DL_law_5.2.1
theorem dL_law_212 : decode cL_law 212 = .ok (.invokestatic 114, 3) := DL_law_5.2.2.1
theorem dL_law_215 : decode cL_law 215 = .ok (.istore 5, 2) := DL_law_5.2.2.2.1
theorem dL_law_217 : decode cL_law 217 = .ok (.aload_n 2, 1) := DL_law_5.2.2.2.2.1
theorem dL_law_218 : decode cL_law 218 = .ok (.aload_n 0, 1) := DL_law_5.2.2.2.2.2.1
theorem dL_law_219 : decode cL_law 219 = .ok (.iload 4, 2) := DL_law_5.2.2.2.2.2.2.1
theorem dL_law_221 : decode cL_law 221 = .ok (.iconst 1, 1) := DL_law_5.2.2.2.2.2.2.2.1
theorem dL_law_222 : decode cL_law 222 = .ok (.iadd, 1) := DL_law_5.2.2.2.2.2.2.2.2.1
theorem dL_law_223 : decode cL_law 223 = .ok (.iaload, 1) := DL_law_5.2.2.2.2.2.2.2.2.2
set_option maxRecDepth 100000 in
theorem DL_law_6 : decode cL_law 224 = .ok (.aload_n 0, 1) ∧ decode cL_law 225 = .ok (.iload 4, 2) ∧ decode cL_law 227 = .ok (.iconst 2, 1) ∧ decode cL_law 228 = .ok (.iadd, 1) ∧ decode cL_law 229 = .ok (.iaload, 1) ∧ decode cL_law 230 = .ok (.aload_n 0, 1) ∧ decode cL_law 231 = .ok (.iload 4, 2) ∧ decode cL_law 233 = .ok (.iconst 3, 1) ∧ decode cL_law 234 = .ok (.iadd, 1) ∧ decode cL_law 235 = .ok (.iaload, 1) := by decide +kernel
theorem dL_law_224 : decode cL_law 224 = .ok (.aload_n 0, 1) := DL_law_6.1
theorem dL_law_225 : decode cL_law 225 = .ok (.iload 4, 2) := DL_law_6.2.1
theorem dL_law_227 : decode cL_law 227 = .ok (.iconst 2, 1) := DL_law_6.2.2.1
theorem dL_law_228 : decode cL_law 228 = .ok (.iadd, 1) := DL_law_6.2.2.2.1
theorem dL_law_229 : decode cL_law 229 = .ok (.iaload, 1) := DL_law_6.2.2.2.2.1
theorem dL_law_230 : decode cL_law 230 = .ok (.aload_n 0, 1) := DL_law_6.2.2.2.2.2.1
theorem dL_law_231 : decode cL_law 231 = .ok (.iload 4, 2) := DL_law_6.2.2.2.2.2.2.1
theorem dL_law_233 : decode cL_law 233 = .ok (.iconst 3, 1) := DL_law_6.2.2.2.2.2.2.2.1
theorem dL_law_234 : decode cL_law 234 = .ok (.iadd, 1) := DL_law_6.2.2.2.2.2.2.2.2.1
theorem dL_law_235 : decode cL_law 235 = .ok (.iaload, 1) := DL_law_6.2.2.2.2.2.2.2.2.2
set_option maxRecDepth 100000 in
theorem DL_law_7 : decode cL_law 236 = .ok (.aload_n 0, 1) ∧ decode cL_law 237 = .ok (.iload 4, 2) ∧ decode cL_law 239 = .ok (.iconst 4, 1) ∧ decode cL_law 240 = .ok (.iadd, 1) ∧ decode cL_law 241 = .ok (.iaload, 1) ∧ decode cL_law 242 = .ok (.aload_n 0, 1) ∧ decode cL_law 243 = .ok (.iload 4, 2) ∧ decode cL_law 245 = .ok (.iconst 5, 1) ∧ decode cL_law 246 = .ok (.iadd, 1) ∧ decode cL_law 247 = .ok (.iaload, 1) := by decide +kernel
theorem dL_law_236 : decode cL_law 236 = .ok (.aload_n 0, 1) := DL_law_7.1
theorem dL_law_237 : decode cL_law 237 = .ok (.iload 4, 2) := DL_law_7.2.1
theorem dL_law_239 : decode cL_law 239 = .ok (.iconst 4, 1) := DL_law_7.2.2.1
theorem dL_law_240 : decode cL_law 240 = .ok (.iadd, 1) := DL_law_7.2.2.2.1
theorem dL_law_241 : decode cL_law 241 = .ok (.iaload, 1) := DL_law_7.2.2.2.2.1
theorem dL_law_242 : decode cL_law 242 = .ok (.aload_n 0, 1) := DL_law_7.2.2.2.2.2.1
theorem dL_law_243 : decode cL_law 243 = .ok (.iload 4, 2) := DL_law_7.2.2.2.2.2.2.1
theorem dL_law_245 : decode cL_law 245 = .ok (.iconst 5, 1) := DL_law_7.2.2.2.2.2.2.2.1
theorem dL_law_246 : decode cL_law 246 = .ok (.iadd, 1) := DL_law_7.2.2.2.2.2.2.2.2.1
theorem dL_law_247 : decode cL_law 247 = .ok (.iaload, 1) := DL_law_7.2.2.2.2.2.2.2.2.2
set_option maxRecDepth 100000 in
theorem DL_law_8 : decode cL_law 248 = .ok (.invokevirtual 119, 3) ∧ decode cL_law 251 = .ok (.istore 6, 2) ∧ decode cL_law 253 = .ok (.aload_n 2, 1) ∧ decode cL_law 254 = .ok (.invokevirtual 120, 3) ∧ decode cL_law 257 = .ok (.iload 5, 2) ∧ decode cL_law 259 = .ok (.if_icmp .eq 5, 3) ∧ decode cL_law 262 = .ok (.iconst 0, 1) ∧ decode cL_law 263 = .ok (.ireturn, 1) ∧ decode cL_law 264 = .ok (.iload 5, 2) ∧ decode cL_law 266 = .ok (.ifCond .ne 15, 3) := by decide +kernel
theorem dL_law_248 : decode cL_law 248 = .ok (.invokevirtual 119, 3) := DL_law_8.1
theorem dL_law_251 : decode cL_law 251 = .ok (.istore 6, 2) := DL_law_8.2.1
theorem dL_law_253 : decode cL_law 253 = .ok (.aload_n 2, 1) := DL_law_8.2.2.1
theorem dL_law_254 : decode cL_law 254 = .ok (.invokevirtual 120, 3) := DL_law_8.2.2.2.1
theorem dL_law_257 : decode cL_law 257 = .ok (.iload 5, 2) := DL_law_8.2.2.2.2.1
theorem dL_law_259 : decode cL_law 259 = .ok (.if_icmp .eq 5, 3) := DL_law_8.2.2.2.2.2.1
theorem dL_law_262 : decode cL_law 262 = .ok (.iconst 0, 1) := DL_law_8.2.2.2.2.2.2.1
theorem dL_law_263 : decode cL_law 263 = .ok (.ireturn, 1) := DL_law_8.2.2.2.2.2.2.2.1
theorem dL_law_264 : decode cL_law 264 = .ok (.iload 5, 2) := DL_law_8.2.2.2.2.2.2.2.2.1
theorem dL_law_266 : decode cL_law 266 = .ok (.ifCond .ne 15, 3) := DL_law_8.2.2.2.2.2.2.2.2.2
set_option maxRecDepth 100000 in
theorem DL_law_9 : decode cL_law 269 = .ok (.aload_n 3, 1) ∧ decode cL_law 270 = .ok (.iconst 0, 1) ∧ decode cL_law 271 = .ok (.laload, 1) ∧ decode cL_law 272 = .ok (.iload 6, 2) ∧ decode cL_law 274 = .ok (.i2l, 1) ∧ decode cL_law 275 = .ok (.lcmp, 1) ∧ decode cL_law 276 = .ok (.ifCond .eq 5, 3) ∧ decode cL_law 279 = .ok (.iconst 0, 1) ∧ decode cL_law 280 = .ok (.ireturn, 1) ∧ decode cL_law 281 = .ok (.goto 1995, 3) := by decide +kernel
theorem dL_law_269 : decode cL_law 269 = .ok (.aload_n 3, 1) := DL_law_9.1
theorem dL_law_270 : decode cL_law 270 = .ok (.iconst 0, 1) := DL_law_9.2.1
theorem dL_law_271 : decode cL_law 271 = .ok (.laload, 1) := DL_law_9.2.2.1
theorem dL_law_272 : decode cL_law 272 = .ok (.iload 6, 2) := DL_law_9.2.2.2.1
theorem dL_law_274 : decode cL_law 274 = .ok (.i2l, 1) := DL_law_9.2.2.2.2.1
theorem dL_law_275 : decode cL_law 275 = .ok (.lcmp, 1) := DL_law_9.2.2.2.2.2.1
theorem dL_law_276 : decode cL_law 276 = .ok (.ifCond .eq 5, 3) := DL_law_9.2.2.2.2.2.2.1
theorem dL_law_279 : decode cL_law 279 = .ok (.iconst 0, 1) := DL_law_9.2.2.2.2.2.2.2.1
theorem dL_law_280 : decode cL_law 280 = .ok (.ireturn, 1) := DL_law_9.2.2.2.2.2.2.2.2.1
theorem dL_law_281 : decode cL_law 281 = .ok (.goto 1995, 3) := DL_law_9.2.2.2.2.2.2.2.2.2
set_option maxRecDepth 100000 in
theorem DL_law_10 : decode cL_law 284 = .ok (.aload_n 1, 1) ∧ decode cL_law 285 = .ok (.aload_n 0, 1) ∧ decode cL_law 286 = .ok (.iload 4, 2) ∧ decode cL_law 288 = .ok (.iconst 1, 1) ∧ decode cL_law 289 = .ok (.iadd, 1) ∧ decode cL_law 290 = .ok (.iaload, 1) ∧ decode cL_law 291 = .ok (.aload_n 0, 1) ∧ decode cL_law 292 = .ok (.iload 4, 2) ∧ decode cL_law 294 = .ok (.iconst 2, 1) ∧ decode cL_law 295 = .ok (.iadd, 1) := by decide +kernel
theorem dL_law_284 : decode cL_law 284 = .ok (.aload_n 1, 1) := DL_law_10.1
theorem dL_law_285 : decode cL_law 285 = .ok (.aload_n 0, 1) := DL_law_10.2.1
theorem dL_law_286 : decode cL_law 286 = .ok (.iload 4, 2) := DL_law_10.2.2.1
theorem dL_law_288 : decode cL_law 288 = .ok (.iconst 1, 1) := DL_law_10.2.2.2.1
theorem dL_law_289 : decode cL_law 289 = .ok (.iadd, 1) := DL_law_10.2.2.2.2.1
theorem dL_law_290 : decode cL_law 290 = .ok (.iaload, 1) := DL_law_10.2.2.2.2.2.1
theorem dL_law_291 : decode cL_law 291 = .ok (.aload_n 0, 1) := DL_law_10.2.2.2.2.2.2.1
theorem dL_law_292 : decode cL_law 292 = .ok (.iload 4, 2) := DL_law_10.2.2.2.2.2.2.2.1
theorem dL_law_294 : decode cL_law 294 = .ok (.iconst 2, 1) := DL_law_10.2.2.2.2.2.2.2.2.1
theorem dL_law_295 : decode cL_law 295 = .ok (.iadd, 1) := DL_law_10.2.2.2.2.2.2.2.2.2
set_option maxRecDepth 100000 in
theorem DL_law_11 : decode cL_law 296 = .ok (.iaload, 1) ∧ decode cL_law 297 = .ok (.aload_n 3, 1) ∧ decode cL_law 298 = .ok (.invokestatic 123, 3) ∧ decode cL_law 301 = .ok (.istore 5, 2) ∧ decode cL_law 303 = .ok (.aload_n 2, 1) ∧ decode cL_law 304 = .ok (.aload_n 0, 1) ∧ decode cL_law 305 = .ok (.iload 4, 2) ∧ decode cL_law 307 = .ok (.iconst 1, 1) ∧ decode cL_law 308 = .ok (.iadd, 1) ∧ decode cL_law 309 = .ok (.iaload, 1) := by decide +kernel
theorem dL_law_296 : decode cL_law 296 = .ok (.iaload, 1) := DL_law_11.1
theorem dL_law_297 : decode cL_law 297 = .ok (.aload_n 3, 1) := DL_law_11.2.1
theorem dL_law_298 : decode cL_law 298 = .ok (.invokestatic 123, 3) := DL_law_11.2.2.1
theorem dL_law_301 : decode cL_law 301 = .ok (.istore 5, 2) := DL_law_11.2.2.2.1
theorem dL_law_303 : decode cL_law 303 = .ok (.aload_n 2, 1) := DL_law_11.2.2.2.2.1
theorem dL_law_304 : decode cL_law 304 = .ok (.aload_n 0, 1) := DL_law_11.2.2.2.2.2.1
theorem dL_law_305 : decode cL_law 305 = .ok (.iload 4, 2) := DL_law_11.2.2.2.2.2.2.1
theorem dL_law_307 : decode cL_law 307 = .ok (.iconst 1, 1) := DL_law_11.2.2.2.2.2.2.2.1
theorem dL_law_308 : decode cL_law 308 = .ok (.iadd, 1) := DL_law_11.2.2.2.2.2.2.2.2.1
theorem dL_law_309 : decode cL_law 309 = .ok (.iaload, 1) := DL_law_11.2.2.2.2.2.2.2.2.2
set_option maxRecDepth 100000 in
theorem DL_law_12 : decode cL_law 310 = .ok (.aload_n 0, 1) ∧ decode cL_law 311 = .ok (.iload 4, 2) ∧ decode cL_law 313 = .ok (.iconst 2, 1) ∧ decode cL_law 314 = .ok (.iadd, 1) ∧ decode cL_law 315 = .ok (.iaload, 1) ∧ decode cL_law 316 = .ok (.invokevirtual 126, 3) ∧ decode cL_law 319 = .ok (.istore 6, 2) ∧ decode cL_law 321 = .ok (.aload_n 2, 1) ∧ decode cL_law 322 = .ok (.invokevirtual 120, 3) ∧ decode cL_law 325 = .ok (.iload 5, 2) := by decide +kernel
theorem dL_law_310 : decode cL_law 310 = .ok (.aload_n 0, 1) := DL_law_12.1
theorem dL_law_311 : decode cL_law 311 = .ok (.iload 4, 2) := DL_law_12.2.1
theorem dL_law_313 : decode cL_law 313 = .ok (.iconst 2, 1) := DL_law_12.2.2.1
theorem dL_law_314 : decode cL_law 314 = .ok (.iadd, 1) := DL_law_12.2.2.2.1
theorem dL_law_315 : decode cL_law 315 = .ok (.iaload, 1) := DL_law_12.2.2.2.2.1
theorem dL_law_316 : decode cL_law 316 = .ok (.invokevirtual 126, 3) := DL_law_12.2.2.2.2.2.1
theorem dL_law_319 : decode cL_law 319 = .ok (.istore 6, 2) := DL_law_12.2.2.2.2.2.2.1
theorem dL_law_321 : decode cL_law 321 = .ok (.aload_n 2, 1) := DL_law_12.2.2.2.2.2.2.2.1
theorem dL_law_322 : decode cL_law 322 = .ok (.invokevirtual 120, 3) := DL_law_12.2.2.2.2.2.2.2.2.1
theorem dL_law_325 : decode cL_law 325 = .ok (.iload 5, 2) := DL_law_12.2.2.2.2.2.2.2.2.2
set_option maxRecDepth 100000 in
theorem DL_law_13 : decode cL_law 327 = .ok (.if_icmp .eq 5, 3) ∧ decode cL_law 330 = .ok (.iconst 0, 1) ∧ decode cL_law 331 = .ok (.ireturn, 1) ∧ decode cL_law 332 = .ok (.iload 5, 2) ∧ decode cL_law 334 = .ok (.ifCond .ne 15, 3) ∧ decode cL_law 337 = .ok (.aload_n 3, 1) ∧ decode cL_law 338 = .ok (.iconst 0, 1) ∧ decode cL_law 339 = .ok (.laload, 1) ∧ decode cL_law 340 = .ok (.iload 6, 2) ∧ decode cL_law 342 = .ok (.i2l, 1) := by decide +kernel
theorem dL_law_327 : decode cL_law 327 = .ok (.if_icmp .eq 5, 3) := DL_law_13.1
theorem dL_law_330 : decode cL_law 330 = .ok (.iconst 0, 1) := DL_law_13.2.1
theorem dL_law_331 : decode cL_law 331 = .ok (.ireturn, 1) := DL_law_13.2.2.1
theorem dL_law_332 : decode cL_law 332 = .ok (.iload 5, 2) := DL_law_13.2.2.2.1
theorem dL_law_334 : decode cL_law 334 = .ok (.ifCond .ne 15, 3) := DL_law_13.2.2.2.2.1
theorem dL_law_337 : decode cL_law 337 = .ok (.aload_n 3, 1) := DL_law_13.2.2.2.2.2.1
theorem dL_law_338 : decode cL_law 338 = .ok (.iconst 0, 1) := DL_law_13.2.2.2.2.2.2.1
theorem dL_law_339 : decode cL_law 339 = .ok (.laload, 1) := DL_law_13.2.2.2.2.2.2.2.1
theorem dL_law_340 : decode cL_law 340 = .ok (.iload 6, 2) := DL_law_13.2.2.2.2.2.2.2.2.1
theorem dL_law_342 : decode cL_law 342 = .ok (.i2l, 1) := DL_law_13.2.2.2.2.2.2.2.2.2
set_option maxRecDepth 100000 in
theorem DL_law_14 : decode cL_law 343 = .ok (.lcmp, 1) ∧ decode cL_law 344 = .ok (.ifCond .eq 5, 3) ∧ decode cL_law 347 = .ok (.iconst 0, 1) ∧ decode cL_law 348 = .ok (.ireturn, 1) ∧ decode cL_law 349 = .ok (.goto 1927, 3) ∧ decode cL_law 352 = .ok (.aload_n 1, 1) ∧ decode cL_law 353 = .ok (.aload_n 0, 1) ∧ decode cL_law 354 = .ok (.iload 4, 2) ∧ decode cL_law 356 = .ok (.iconst 1, 1) ∧ decode cL_law 357 = .ok (.iadd, 1) := by decide +kernel
theorem dL_law_343 : decode cL_law 343 = .ok (.lcmp, 1) := DL_law_14.1
theorem dL_law_344 : decode cL_law 344 = .ok (.ifCond .eq 5, 3) := DL_law_14.2.1
theorem dL_law_347 : decode cL_law 347 = .ok (.iconst 0, 1) := DL_law_14.2.2.1
theorem dL_law_348 : decode cL_law 348 = .ok (.ireturn, 1) := DL_law_14.2.2.2.1
theorem dL_law_349 : decode cL_law 349 = .ok (.goto 1927, 3) := DL_law_14.2.2.2.2.1
theorem dL_law_352 : decode cL_law 352 = .ok (.aload_n 1, 1) := DL_law_14.2.2.2.2.2.1
theorem dL_law_353 : decode cL_law 353 = .ok (.aload_n 0, 1) := DL_law_14.2.2.2.2.2.2.1
theorem dL_law_354 : decode cL_law 354 = .ok (.iload 4, 2) := DL_law_14.2.2.2.2.2.2.2.1
theorem dL_law_356 : decode cL_law 356 = .ok (.iconst 1, 1) := DL_law_14.2.2.2.2.2.2.2.2.1
theorem dL_law_357 : decode cL_law 357 = .ok (.iadd, 1) := DL_law_14.2.2.2.2.2.2.2.2.2
set_option maxRecDepth 100000 in
theorem DL_law_15 : decode cL_law 358 = .ok (.iaload, 1) ∧ decode cL_law 359 = .ok (.aload_n 0, 1) ∧ decode cL_law 360 = .ok (.iload 4, 2) ∧ decode cL_law 362 = .ok (.iconst 2, 1) ∧ decode cL_law 363 = .ok (.iadd, 1) ∧ decode cL_law 364 = .ok (.iaload, 1) ∧ decode cL_law 365 = .ok (.aload_n 0, 1) ∧ decode cL_law 366 = .ok (.iload 4, 2) ∧ decode cL_law 368 = .ok (.iconst 3, 1) ∧ decode cL_law 369 = .ok (.iadd, 1) := by decide +kernel
theorem dL_law_358 : decode cL_law 358 = .ok (.iaload, 1) := DL_law_15.1
theorem dL_law_359 : decode cL_law 359 = .ok (.aload_n 0, 1) := DL_law_15.2.1
theorem dL_law_360 : decode cL_law 360 = .ok (.iload 4, 2) := DL_law_15.2.2.1
theorem dL_law_362 : decode cL_law 362 = .ok (.iconst 2, 1) := DL_law_15.2.2.2.1
theorem dL_law_363 : decode cL_law 363 = .ok (.iadd, 1) := DL_law_15.2.2.2.2.1
theorem dL_law_364 : decode cL_law 364 = .ok (.iaload, 1) := DL_law_15.2.2.2.2.2.1
theorem dL_law_365 : decode cL_law 365 = .ok (.aload_n 0, 1) := DL_law_15.2.2.2.2.2.2.1
theorem dL_law_366 : decode cL_law 366 = .ok (.iload 4, 2) := DL_law_15.2.2.2.2.2.2.2.1
theorem dL_law_368 : decode cL_law 368 = .ok (.iconst 3, 1) := DL_law_15.2.2.2.2.2.2.2.2.1
theorem dL_law_369 : decode cL_law 369 = .ok (.iadd, 1) := DL_law_15.2.2.2.2.2.2.2.2.2
set_option maxRecDepth 100000 in
theorem DL_law_16 : decode cL_law 370 = .ok (.iaload, 1) ∧ decode cL_law 371 = .ok (.aload_n 0, 1) ∧ decode cL_law 372 = .ok (.iload 4, 2) ∧ decode cL_law 374 = .ok (.iconst 4, 1) ∧ decode cL_law 375 = .ok (.iadd, 1) ∧ decode cL_law 376 = .ok (.iaload, 1) ∧ decode cL_law 377 = .ok (.aload_n 0, 1) ∧ decode cL_law 378 = .ok (.iload 4, 2) ∧ decode cL_law 380 = .ok (.iconst 5, 1) ∧ decode cL_law 381 = .ok (.iadd, 1) := by decide +kernel
theorem dL_law_370 : decode cL_law 370 = .ok (.iaload, 1) := DL_law_16.1
theorem dL_law_371 : decode cL_law 371 = .ok (.aload_n 0, 1) := DL_law_16.2.1
theorem dL_law_372 : decode cL_law 372 = .ok (.iload 4, 2) := DL_law_16.2.2.1
theorem dL_law_374 : decode cL_law 374 = .ok (.iconst 4, 1) := DL_law_16.2.2.2.1
theorem dL_law_375 : decode cL_law 375 = .ok (.iadd, 1) := DL_law_16.2.2.2.2.1
theorem dL_law_376 : decode cL_law 376 = .ok (.iaload, 1) := DL_law_16.2.2.2.2.2.1
theorem dL_law_377 : decode cL_law 377 = .ok (.aload_n 0, 1) := DL_law_16.2.2.2.2.2.2.1
theorem dL_law_378 : decode cL_law 378 = .ok (.iload 4, 2) := DL_law_16.2.2.2.2.2.2.2.1
theorem dL_law_380 : decode cL_law 380 = .ok (.iconst 5, 1) := DL_law_16.2.2.2.2.2.2.2.2.1
theorem dL_law_381 : decode cL_law 381 = .ok (.iadd, 1) := DL_law_16.2.2.2.2.2.2.2.2.2
set_option maxRecDepth 100000 in
theorem DL_law_17 : decode cL_law 382 = .ok (.iaload, 1) ∧ decode cL_law 383 = .ok (.aload_n 0, 1) ∧ decode cL_law 384 = .ok (.iload 4, 2) ∧ decode cL_law 386 = .ok (.bipush 6, 2) ∧ decode cL_law 388 = .ok (.iadd, 1) ∧ decode cL_law 389 = .ok (.iaload, 1) ∧ decode cL_law 390 = .ok (.aload_n 3, 1) ∧ decode cL_law 391 = .ok (.invokestatic 127, 3) ∧ decode cL_law 394 = .ok (.istore 5, 2) ∧ decode cL_law 396 = .ok (.aload_n 2, 1) := by decide +kernel
theorem dL_law_382 : decode cL_law 382 = .ok (.iaload, 1) := DL_law_17.1
theorem dL_law_383 : decode cL_law 383 = .ok (.aload_n 0, 1) := DL_law_17.2.1
theorem dL_law_384 : decode cL_law 384 = .ok (.iload 4, 2) := DL_law_17.2.2.1
theorem dL_law_386 : decode cL_law 386 = .ok (.bipush 6, 2) := DL_law_17.2.2.2.1
theorem dL_law_388 : decode cL_law 388 = .ok (.iadd, 1) := DL_law_17.2.2.2.2.1
theorem dL_law_389 : decode cL_law 389 = .ok (.iaload, 1) := DL_law_17.2.2.2.2.2.1
theorem dL_law_390 : decode cL_law 390 = .ok (.aload_n 3, 1) := DL_law_17.2.2.2.2.2.2.1
theorem dL_law_391 : decode cL_law 391 = .ok (.invokestatic 127, 3) := DL_law_17.2.2.2.2.2.2.2.1
theorem dL_law_394 : decode cL_law 394 = .ok (.istore 5, 2) := DL_law_17.2.2.2.2.2.2.2.2.1
theorem dL_law_396 : decode cL_law 396 = .ok (.aload_n 2, 1) := DL_law_17.2.2.2.2.2.2.2.2.2
set_option maxRecDepth 100000 in
theorem DL_law_18 : decode cL_law 397 = .ok (.aload_n 0, 1) ∧ decode cL_law 398 = .ok (.iload 4, 2) ∧ decode cL_law 400 = .ok (.iconst 1, 1) ∧ decode cL_law 401 = .ok (.iadd, 1) ∧ decode cL_law 402 = .ok (.iaload, 1) ∧ decode cL_law 403 = .ok (.aload_n 0, 1) ∧ decode cL_law 404 = .ok (.iload 4, 2) ∧ decode cL_law 406 = .ok (.iconst 2, 1) ∧ decode cL_law 407 = .ok (.iadd, 1) ∧ decode cL_law 408 = .ok (.iaload, 1) := by decide +kernel
theorem dL_law_397 : decode cL_law 397 = .ok (.aload_n 0, 1) := DL_law_18.1
theorem dL_law_398 : decode cL_law 398 = .ok (.iload 4, 2) := DL_law_18.2.1
theorem dL_law_400 : decode cL_law 400 = .ok (.iconst 1, 1) := DL_law_18.2.2.1
theorem dL_law_401 : decode cL_law 401 = .ok (.iadd, 1) := DL_law_18.2.2.2.1
theorem dL_law_402 : decode cL_law 402 = .ok (.iaload, 1) := DL_law_18.2.2.2.2.1
theorem dL_law_403 : decode cL_law 403 = .ok (.aload_n 0, 1) := DL_law_18.2.2.2.2.2.1
theorem dL_law_404 : decode cL_law 404 = .ok (.iload 4, 2) := DL_law_18.2.2.2.2.2.2.1
theorem dL_law_406 : decode cL_law 406 = .ok (.iconst 2, 1) := DL_law_18.2.2.2.2.2.2.2.1
theorem dL_law_407 : decode cL_law 407 = .ok (.iadd, 1) := DL_law_18.2.2.2.2.2.2.2.2.1
theorem dL_law_408 : decode cL_law 408 = .ok (.iaload, 1) := DL_law_18.2.2.2.2.2.2.2.2.2
set_option maxRecDepth 100000 in
theorem DL_law_19 : decode cL_law 409 = .ok (.aload_n 0, 1) ∧ decode cL_law 410 = .ok (.iload 4, 2) ∧ decode cL_law 412 = .ok (.iconst 3, 1) ∧ decode cL_law 413 = .ok (.iadd, 1) ∧ decode cL_law 414 = .ok (.iaload, 1) ∧ decode cL_law 415 = .ok (.aload_n 0, 1) ∧ decode cL_law 416 = .ok (.iload 4, 2) ∧ decode cL_law 418 = .ok (.iconst 4, 1) ∧ decode cL_law 419 = .ok (.iadd, 1) ∧ decode cL_law 420 = .ok (.iaload, 1) := by decide +kernel
theorem dL_law_409 : decode cL_law 409 = .ok (.aload_n 0, 1) := DL_law_19.1
theorem dL_law_410 : decode cL_law 410 = .ok (.iload 4, 2) := DL_law_19.2.1
theorem dL_law_412 : decode cL_law 412 = .ok (.iconst 3, 1) := DL_law_19.2.2.1
theorem dL_law_413 : decode cL_law 413 = .ok (.iadd, 1) := DL_law_19.2.2.2.1
theorem dL_law_414 : decode cL_law 414 = .ok (.iaload, 1) := DL_law_19.2.2.2.2.1
theorem dL_law_415 : decode cL_law 415 = .ok (.aload_n 0, 1) := DL_law_19.2.2.2.2.2.1
theorem dL_law_416 : decode cL_law 416 = .ok (.iload 4, 2) := DL_law_19.2.2.2.2.2.2.1
theorem dL_law_418 : decode cL_law 418 = .ok (.iconst 4, 1) := DL_law_19.2.2.2.2.2.2.2.1
theorem dL_law_419 : decode cL_law 419 = .ok (.iadd, 1) := DL_law_19.2.2.2.2.2.2.2.2.1
theorem dL_law_420 : decode cL_law 420 = .ok (.iaload, 1) := DL_law_19.2.2.2.2.2.2.2.2.2
set_option maxRecDepth 100000 in
theorem DL_law_20 : decode cL_law 421 = .ok (.aload_n 0, 1) ∧ decode cL_law 422 = .ok (.iload 4, 2) ∧ decode cL_law 424 = .ok (.iconst 5, 1) ∧ decode cL_law 425 = .ok (.iadd, 1) ∧ decode cL_law 426 = .ok (.iaload, 1) ∧ decode cL_law 427 = .ok (.aload_n 0, 1) ∧ decode cL_law 428 = .ok (.iload 4, 2) ∧ decode cL_law 430 = .ok (.bipush 6, 2) ∧ decode cL_law 432 = .ok (.iadd, 1) ∧ decode cL_law 433 = .ok (.iaload, 1) := by decide +kernel
theorem dL_law_421 : decode cL_law 421 = .ok (.aload_n 0, 1) := DL_law_20.1
theorem dL_law_422 : decode cL_law 422 = .ok (.iload 4, 2) := DL_law_20.2.1
theorem dL_law_424 : decode cL_law 424 = .ok (.iconst 5, 1) := DL_law_20.2.2.1
theorem dL_law_425 : decode cL_law 425 = .ok (.iadd, 1) := DL_law_20.2.2.2.1
theorem dL_law_426 : decode cL_law 426 = .ok (.iaload, 1) := DL_law_20.2.2.2.2.1
theorem dL_law_427 : decode cL_law 427 = .ok (.aload_n 0, 1) := DL_law_20.2.2.2.2.2.1
theorem dL_law_428 : decode cL_law 428 = .ok (.iload 4, 2) := DL_law_20.2.2.2.2.2.2.1
theorem dL_law_430 : decode cL_law 430 = .ok (.bipush 6, 2) := DL_law_20.2.2.2.2.2.2.2.1
theorem dL_law_432 : decode cL_law 432 = .ok (.iadd, 1) := DL_law_20.2.2.2.2.2.2.2.2.1
theorem dL_law_433 : decode cL_law 433 = .ok (.iaload, 1) := DL_law_20.2.2.2.2.2.2.2.2.2
set_option maxRecDepth 100000 in
theorem DL_law_21 : decode cL_law 434 = .ok (.invokevirtual 130, 3) ∧ decode cL_law 437 = .ok (.istore 6, 2) ∧ decode cL_law 439 = .ok (.aload_n 2, 1) ∧ decode cL_law 440 = .ok (.invokevirtual 120, 3) ∧ decode cL_law 443 = .ok (.iload 5, 2) ∧ decode cL_law 445 = .ok (.if_icmp .eq 5, 3) ∧ decode cL_law 448 = .ok (.iconst 0, 1) ∧ decode cL_law 449 = .ok (.ireturn, 1) ∧ decode cL_law 450 = .ok (.iload 5, 2) ∧ decode cL_law 452 = .ok (.ifCond .ne 15, 3) := by decide +kernel
theorem dL_law_434 : decode cL_law 434 = .ok (.invokevirtual 130, 3) := DL_law_21.1
theorem dL_law_437 : decode cL_law 437 = .ok (.istore 6, 2) := DL_law_21.2.1
theorem dL_law_439 : decode cL_law 439 = .ok (.aload_n 2, 1) := DL_law_21.2.2.1
theorem dL_law_440 : decode cL_law 440 = .ok (.invokevirtual 120, 3) := DL_law_21.2.2.2.1
theorem dL_law_443 : decode cL_law 443 = .ok (.iload 5, 2) := DL_law_21.2.2.2.2.1
theorem dL_law_445 : decode cL_law 445 = .ok (.if_icmp .eq 5, 3) := DL_law_21.2.2.2.2.2.1
theorem dL_law_448 : decode cL_law 448 = .ok (.iconst 0, 1) := DL_law_21.2.2.2.2.2.2.1
theorem dL_law_449 : decode cL_law 449 = .ok (.ireturn, 1) := DL_law_21.2.2.2.2.2.2.2.1
theorem dL_law_450 : decode cL_law 450 = .ok (.iload 5, 2) := DL_law_21.2.2.2.2.2.2.2.2.1
theorem dL_law_452 : decode cL_law 452 = .ok (.ifCond .ne 15, 3) := DL_law_21.2.2.2.2.2.2.2.2.2
set_option maxRecDepth 100000 in
theorem DL_law_22 : decode cL_law 455 = .ok (.aload_n 3, 1) ∧ decode cL_law 456 = .ok (.iconst 0, 1) ∧ decode cL_law 457 = .ok (.laload, 1) ∧ decode cL_law 458 = .ok (.iload 6, 2) ∧ decode cL_law 460 = .ok (.i2l, 1) ∧ decode cL_law 461 = .ok (.lcmp, 1) ∧ decode cL_law 462 = .ok (.ifCond .eq 5, 3) ∧ decode cL_law 465 = .ok (.iconst 0, 1) ∧ decode cL_law 466 = .ok (.ireturn, 1) ∧ decode cL_law 467 = .ok (.goto 1809, 3) := by decide +kernel
theorem dL_law_455 : decode cL_law 455 = .ok (.aload_n 3, 1) := DL_law_22.1
theorem dL_law_456 : decode cL_law 456 = .ok (.iconst 0, 1) := DL_law_22.2.1
theorem dL_law_457 : decode cL_law 457 = .ok (.laload, 1) := DL_law_22.2.2.1
theorem dL_law_458 : decode cL_law 458 = .ok (.iload 6, 2) := DL_law_22.2.2.2.1
theorem dL_law_460 : decode cL_law 460 = .ok (.i2l, 1) := DL_law_22.2.2.2.2.1
theorem dL_law_461 : decode cL_law 461 = .ok (.lcmp, 1) := DL_law_22.2.2.2.2.2.1
theorem dL_law_462 : decode cL_law 462 = .ok (.ifCond .eq 5, 3) := DL_law_22.2.2.2.2.2.2.1
theorem dL_law_465 : decode cL_law 465 = .ok (.iconst 0, 1) := DL_law_22.2.2.2.2.2.2.2.1
theorem dL_law_466 : decode cL_law 466 = .ok (.ireturn, 1) := DL_law_22.2.2.2.2.2.2.2.2.1
theorem dL_law_467 : decode cL_law 467 = .ok (.goto 1809, 3) := DL_law_22.2.2.2.2.2.2.2.2.2
set_option maxRecDepth 100000 in
theorem DL_law_23 : decode cL_law 470 = .ok (.aload_n 1, 1) ∧ decode cL_law 471 = .ok (.aload_n 0, 1) ∧ decode cL_law 472 = .ok (.iload 4, 2) ∧ decode cL_law 474 = .ok (.iconst 1, 1) ∧ decode cL_law 475 = .ok (.iadd, 1) ∧ decode cL_law 476 = .ok (.iaload, 1) ∧ decode cL_law 477 = .ok (.aload_n 0, 1) ∧ decode cL_law 478 = .ok (.iload 4, 2) ∧ decode cL_law 480 = .ok (.iconst 2, 1) ∧ decode cL_law 481 = .ok (.iadd, 1) := by decide +kernel
theorem dL_law_470 : decode cL_law 470 = .ok (.aload_n 1, 1) := DL_law_23.1
theorem dL_law_471 : decode cL_law 471 = .ok (.aload_n 0, 1) := DL_law_23.2.1
theorem dL_law_472 : decode cL_law 472 = .ok (.iload 4, 2) := DL_law_23.2.2.1
theorem dL_law_474 : decode cL_law 474 = .ok (.iconst 1, 1) := DL_law_23.2.2.2.1
theorem dL_law_475 : decode cL_law 475 = .ok (.iadd, 1) := DL_law_23.2.2.2.2.1
theorem dL_law_476 : decode cL_law 476 = .ok (.iaload, 1) := DL_law_23.2.2.2.2.2.1
theorem dL_law_477 : decode cL_law 477 = .ok (.aload_n 0, 1) := DL_law_23.2.2.2.2.2.2.1
theorem dL_law_478 : decode cL_law 478 = .ok (.iload 4, 2) := DL_law_23.2.2.2.2.2.2.2.1
theorem dL_law_480 : decode cL_law 480 = .ok (.iconst 2, 1) := DL_law_23.2.2.2.2.2.2.2.2.1
theorem dL_law_481 : decode cL_law 481 = .ok (.iadd, 1) := DL_law_23.2.2.2.2.2.2.2.2.2
set_option maxRecDepth 100000 in
theorem DL_law_24 : decode cL_law 482 = .ok (.iaload, 1) ∧ decode cL_law 483 = .ok (.aload_n 0, 1) ∧ decode cL_law 484 = .ok (.iload 4, 2) ∧ decode cL_law 486 = .ok (.iconst 3, 1) ∧ decode cL_law 487 = .ok (.iadd, 1) ∧ decode cL_law 488 = .ok (.iaload, 1) ∧ decode cL_law 489 = .ok (.aload_n 0, 1) ∧ decode cL_law 490 = .ok (.iload 4, 2) ∧ decode cL_law 492 = .ok (.iconst 4, 1) ∧ decode cL_law 493 = .ok (.iadd, 1) := by decide +kernel
theorem dL_law_482 : decode cL_law 482 = .ok (.iaload, 1) := DL_law_24.1
theorem dL_law_483 : decode cL_law 483 = .ok (.aload_n 0, 1) := DL_law_24.2.1
theorem dL_law_484 : decode cL_law 484 = .ok (.iload 4, 2) := DL_law_24.2.2.1
theorem dL_law_486 : decode cL_law 486 = .ok (.iconst 3, 1) := DL_law_24.2.2.2.1
theorem dL_law_487 : decode cL_law 487 = .ok (.iadd, 1) := DL_law_24.2.2.2.2.1
theorem dL_law_488 : decode cL_law 488 = .ok (.iaload, 1) := DL_law_24.2.2.2.2.2.1
theorem dL_law_489 : decode cL_law 489 = .ok (.aload_n 0, 1) := DL_law_24.2.2.2.2.2.2.1
theorem dL_law_490 : decode cL_law 490 = .ok (.iload 4, 2) := DL_law_24.2.2.2.2.2.2.2.1
theorem dL_law_492 : decode cL_law 492 = .ok (.iconst 4, 1) := DL_law_24.2.2.2.2.2.2.2.2.1
theorem dL_law_493 : decode cL_law 493 = .ok (.iadd, 1) := DL_law_24.2.2.2.2.2.2.2.2.2
set_option maxRecDepth 100000 in
theorem DL_law_25 : decode cL_law 494 = .ok (.iaload, 1) ∧ decode cL_law 495 = .ok (.aload_n 3, 1) ∧ decode cL_law 496 = .ok (.invokestatic 131, 3) ∧ decode cL_law 499 = .ok (.istore 5, 2) ∧ decode cL_law 501 = .ok (.aload_n 2, 1) ∧ decode cL_law 502 = .ok (.aload_n 0, 1) ∧ decode cL_law 503 = .ok (.iload 4, 2) ∧ decode cL_law 505 = .ok (.iconst 1, 1) ∧ decode cL_law 506 = .ok (.iadd, 1) ∧ decode cL_law 507 = .ok (.iaload, 1) := by decide +kernel
theorem dL_law_494 : decode cL_law 494 = .ok (.iaload, 1) := DL_law_25.1
theorem dL_law_495 : decode cL_law 495 = .ok (.aload_n 3, 1) := DL_law_25.2.1
theorem dL_law_496 : decode cL_law 496 = .ok (.invokestatic 131, 3) := DL_law_25.2.2.1
theorem dL_law_499 : decode cL_law 499 = .ok (.istore 5, 2) := DL_law_25.2.2.2.1
theorem dL_law_501 : decode cL_law 501 = .ok (.aload_n 2, 1) := DL_law_25.2.2.2.2.1
theorem dL_law_502 : decode cL_law 502 = .ok (.aload_n 0, 1) := DL_law_25.2.2.2.2.2.1
theorem dL_law_503 : decode cL_law 503 = .ok (.iload 4, 2) := DL_law_25.2.2.2.2.2.2.1
theorem dL_law_505 : decode cL_law 505 = .ok (.iconst 1, 1) := DL_law_25.2.2.2.2.2.2.2.1
theorem dL_law_506 : decode cL_law 506 = .ok (.iadd, 1) := DL_law_25.2.2.2.2.2.2.2.2.1
theorem dL_law_507 : decode cL_law 507 = .ok (.iaload, 1) := DL_law_25.2.2.2.2.2.2.2.2.2
set_option maxRecDepth 100000 in
theorem DL_law_26 : decode cL_law 508 = .ok (.aload_n 0, 1) ∧ decode cL_law 509 = .ok (.iload 4, 2) ∧ decode cL_law 511 = .ok (.iconst 2, 1) ∧ decode cL_law 512 = .ok (.iadd, 1) ∧ decode cL_law 513 = .ok (.iaload, 1) ∧ decode cL_law 514 = .ok (.aload_n 0, 1) ∧ decode cL_law 515 = .ok (.iload 4, 2) ∧ decode cL_law 517 = .ok (.iconst 3, 1) ∧ decode cL_law 518 = .ok (.iadd, 1) ∧ decode cL_law 519 = .ok (.iaload, 1) := by decide +kernel
theorem dL_law_508 : decode cL_law 508 = .ok (.aload_n 0, 1) := DL_law_26.1
theorem dL_law_509 : decode cL_law 509 = .ok (.iload 4, 2) := DL_law_26.2.1
theorem dL_law_511 : decode cL_law 511 = .ok (.iconst 2, 1) := DL_law_26.2.2.1
theorem dL_law_512 : decode cL_law 512 = .ok (.iadd, 1) := DL_law_26.2.2.2.1
theorem dL_law_513 : decode cL_law 513 = .ok (.iaload, 1) := DL_law_26.2.2.2.2.1
theorem dL_law_514 : decode cL_law 514 = .ok (.aload_n 0, 1) := DL_law_26.2.2.2.2.2.1
theorem dL_law_515 : decode cL_law 515 = .ok (.iload 4, 2) := DL_law_26.2.2.2.2.2.2.1
theorem dL_law_517 : decode cL_law 517 = .ok (.iconst 3, 1) := DL_law_26.2.2.2.2.2.2.2.1
theorem dL_law_518 : decode cL_law 518 = .ok (.iadd, 1) := DL_law_26.2.2.2.2.2.2.2.2.1
theorem dL_law_519 : decode cL_law 519 = .ok (.iaload, 1) := DL_law_26.2.2.2.2.2.2.2.2.2
set_option maxRecDepth 100000 in
theorem DL_law_27 : decode cL_law 520 = .ok (.aload_n 0, 1) ∧ decode cL_law 521 = .ok (.iload 4, 2) ∧ decode cL_law 523 = .ok (.iconst 4, 1) ∧ decode cL_law 524 = .ok (.iadd, 1) ∧ decode cL_law 525 = .ok (.iaload, 1) ∧ decode cL_law 526 = .ok (.invokevirtual 134, 3) ∧ decode cL_law 529 = .ok (.istore 6, 2) ∧ decode cL_law 531 = .ok (.aload_n 2, 1) ∧ decode cL_law 532 = .ok (.invokevirtual 120, 3) ∧ decode cL_law 535 = .ok (.iload 5, 2) := by decide +kernel
theorem dL_law_520 : decode cL_law 520 = .ok (.aload_n 0, 1) := DL_law_27.1
theorem dL_law_521 : decode cL_law 521 = .ok (.iload 4, 2) := DL_law_27.2.1
theorem dL_law_523 : decode cL_law 523 = .ok (.iconst 4, 1) := DL_law_27.2.2.1
theorem dL_law_524 : decode cL_law 524 = .ok (.iadd, 1) := DL_law_27.2.2.2.1
theorem dL_law_525 : decode cL_law 525 = .ok (.iaload, 1) := DL_law_27.2.2.2.2.1
theorem dL_law_526 : decode cL_law 526 = .ok (.invokevirtual 134, 3) := DL_law_27.2.2.2.2.2.1
theorem dL_law_529 : decode cL_law 529 = .ok (.istore 6, 2) := DL_law_27.2.2.2.2.2.2.1
theorem dL_law_531 : decode cL_law 531 = .ok (.aload_n 2, 1) := DL_law_27.2.2.2.2.2.2.2.1
theorem dL_law_532 : decode cL_law 532 = .ok (.invokevirtual 120, 3) := DL_law_27.2.2.2.2.2.2.2.2.1
theorem dL_law_535 : decode cL_law 535 = .ok (.iload 5, 2) := DL_law_27.2.2.2.2.2.2.2.2.2
set_option maxRecDepth 100000 in
theorem DL_law_28 : decode cL_law 537 = .ok (.if_icmp .eq 5, 3) ∧ decode cL_law 540 = .ok (.iconst 0, 1) ∧ decode cL_law 541 = .ok (.ireturn, 1) ∧ decode cL_law 542 = .ok (.iload 5, 2) ∧ decode cL_law 544 = .ok (.ifCond .ne 15, 3) ∧ decode cL_law 547 = .ok (.aload_n 3, 1) ∧ decode cL_law 548 = .ok (.iconst 0, 1) ∧ decode cL_law 549 = .ok (.laload, 1) ∧ decode cL_law 550 = .ok (.iload 6, 2) ∧ decode cL_law 552 = .ok (.i2l, 1) := by decide +kernel
theorem dL_law_537 : decode cL_law 537 = .ok (.if_icmp .eq 5, 3) := DL_law_28.1
theorem dL_law_540 : decode cL_law 540 = .ok (.iconst 0, 1) := DL_law_28.2.1
theorem dL_law_541 : decode cL_law 541 = .ok (.ireturn, 1) := DL_law_28.2.2.1
theorem dL_law_542 : decode cL_law 542 = .ok (.iload 5, 2) := DL_law_28.2.2.2.1
theorem dL_law_544 : decode cL_law 544 = .ok (.ifCond .ne 15, 3) := DL_law_28.2.2.2.2.1
theorem dL_law_547 : decode cL_law 547 = .ok (.aload_n 3, 1) := DL_law_28.2.2.2.2.2.1
theorem dL_law_548 : decode cL_law 548 = .ok (.iconst 0, 1) := DL_law_28.2.2.2.2.2.2.1
theorem dL_law_549 : decode cL_law 549 = .ok (.laload, 1) := DL_law_28.2.2.2.2.2.2.2.1
theorem dL_law_550 : decode cL_law 550 = .ok (.iload 6, 2) := DL_law_28.2.2.2.2.2.2.2.2.1
theorem dL_law_552 : decode cL_law 552 = .ok (.i2l, 1) := DL_law_28.2.2.2.2.2.2.2.2.2
set_option maxRecDepth 100000 in
theorem DL_law_29 : decode cL_law 553 = .ok (.lcmp, 1) ∧ decode cL_law 554 = .ok (.ifCond .eq 5, 3) ∧ decode cL_law 557 = .ok (.iconst 0, 1) ∧ decode cL_law 558 = .ok (.ireturn, 1) ∧ decode cL_law 559 = .ok (.goto 1717, 3) ∧ decode cL_law 562 = .ok (.aload_n 1, 1) ∧ decode cL_law 563 = .ok (.aload_n 0, 1) ∧ decode cL_law 564 = .ok (.iload 4, 2) ∧ decode cL_law 566 = .ok (.iconst 1, 1) ∧ decode cL_law 567 = .ok (.iadd, 1) := by decide +kernel
theorem dL_law_553 : decode cL_law 553 = .ok (.lcmp, 1) := DL_law_29.1
theorem dL_law_554 : decode cL_law 554 = .ok (.ifCond .eq 5, 3) := DL_law_29.2.1
theorem dL_law_557 : decode cL_law 557 = .ok (.iconst 0, 1) := DL_law_29.2.2.1
theorem dL_law_558 : decode cL_law 558 = .ok (.ireturn, 1) := DL_law_29.2.2.2.1
theorem dL_law_559 : decode cL_law 559 = .ok (.goto 1717, 3) := DL_law_29.2.2.2.2.1
theorem dL_law_562 : decode cL_law 562 = .ok (.aload_n 1, 1) := DL_law_29.2.2.2.2.2.1
theorem dL_law_563 : decode cL_law 563 = .ok (.aload_n 0, 1) := DL_law_29.2.2.2.2.2.2.1
theorem dL_law_564 : decode cL_law 564 = .ok (.iload 4, 2) := DL_law_29.2.2.2.2.2.2.2.1
theorem dL_law_566 : decode cL_law 566 = .ok (.iconst 1, 1) := DL_law_29.2.2.2.2.2.2.2.2.1
theorem dL_law_567 : decode cL_law 567 = .ok (.iadd, 1) := DL_law_29.2.2.2.2.2.2.2.2.2
set_option maxRecDepth 100000 in
theorem DL_law_30 : decode cL_law 568 = .ok (.iaload, 1) ∧ decode cL_law 569 = .ok (.aload_n 0, 1) ∧ decode cL_law 570 = .ok (.iload 4, 2) ∧ decode cL_law 572 = .ok (.iconst 2, 1) ∧ decode cL_law 573 = .ok (.iadd, 1) ∧ decode cL_law 574 = .ok (.iaload, 1) ∧ decode cL_law 575 = .ok (.aload_n 3, 1) ∧ decode cL_law 576 = .ok (.invokestatic 135, 3) ∧ decode cL_law 579 = .ok (.istore 5, 2) ∧ decode cL_law 581 = .ok (.aload_n 2, 1) := by decide +kernel
theorem dL_law_568 : decode cL_law 568 = .ok (.iaload, 1) := DL_law_30.1
theorem dL_law_569 : decode cL_law 569 = .ok (.aload_n 0, 1) := DL_law_30.2.1
theorem dL_law_570 : decode cL_law 570 = .ok (.iload 4, 2) := DL_law_30.2.2.1
theorem dL_law_572 : decode cL_law 572 = .ok (.iconst 2, 1) := DL_law_30.2.2.2.1
theorem dL_law_573 : decode cL_law 573 = .ok (.iadd, 1) := DL_law_30.2.2.2.2.1
theorem dL_law_574 : decode cL_law 574 = .ok (.iaload, 1) := DL_law_30.2.2.2.2.2.1
theorem dL_law_575 : decode cL_law 575 = .ok (.aload_n 3, 1) := DL_law_30.2.2.2.2.2.2.1
theorem dL_law_576 : decode cL_law 576 = .ok (.invokestatic 135, 3) := DL_law_30.2.2.2.2.2.2.2.1
theorem dL_law_579 : decode cL_law 579 = .ok (.istore 5, 2) := DL_law_30.2.2.2.2.2.2.2.2.1
theorem dL_law_581 : decode cL_law 581 = .ok (.aload_n 2, 1) := DL_law_30.2.2.2.2.2.2.2.2.2
set_option maxRecDepth 100000 in
theorem DL_law_31 : decode cL_law 582 = .ok (.aload_n 0, 1) ∧ decode cL_law 583 = .ok (.iload 4, 2) ∧ decode cL_law 585 = .ok (.iconst 1, 1) ∧ decode cL_law 586 = .ok (.iadd, 1) ∧ decode cL_law 587 = .ok (.iaload, 1) ∧ decode cL_law 588 = .ok (.aload_n 0, 1) ∧ decode cL_law 589 = .ok (.iload 4, 2) ∧ decode cL_law 591 = .ok (.iconst 2, 1) ∧ decode cL_law 592 = .ok (.iadd, 1) ∧ decode cL_law 593 = .ok (.iaload, 1) := by decide +kernel
theorem dL_law_582 : decode cL_law 582 = .ok (.aload_n 0, 1) := DL_law_31.1
theorem dL_law_583 : decode cL_law 583 = .ok (.iload 4, 2) := DL_law_31.2.1
theorem dL_law_585 : decode cL_law 585 = .ok (.iconst 1, 1) := DL_law_31.2.2.1
theorem dL_law_586 : decode cL_law 586 = .ok (.iadd, 1) := DL_law_31.2.2.2.1
theorem dL_law_587 : decode cL_law 587 = .ok (.iaload, 1) := DL_law_31.2.2.2.2.1
theorem dL_law_588 : decode cL_law 588 = .ok (.aload_n 0, 1) := DL_law_31.2.2.2.2.2.1
theorem dL_law_589 : decode cL_law 589 = .ok (.iload 4, 2) := DL_law_31.2.2.2.2.2.2.1
theorem dL_law_591 : decode cL_law 591 = .ok (.iconst 2, 1) := DL_law_31.2.2.2.2.2.2.2.1
theorem dL_law_592 : decode cL_law 592 = .ok (.iadd, 1) := DL_law_31.2.2.2.2.2.2.2.2.1
theorem dL_law_593 : decode cL_law 593 = .ok (.iaload, 1) := DL_law_31.2.2.2.2.2.2.2.2.2
set_option maxRecDepth 100000 in
theorem DL_law_32 : decode cL_law 594 = .ok (.invokevirtual 137, 3) ∧ decode cL_law 597 = .ok (.istore 6, 2) ∧ decode cL_law 599 = .ok (.aload_n 2, 1) ∧ decode cL_law 600 = .ok (.invokevirtual 120, 3) ∧ decode cL_law 603 = .ok (.iload 5, 2) ∧ decode cL_law 605 = .ok (.if_icmp .eq 5, 3) ∧ decode cL_law 608 = .ok (.iconst 0, 1) ∧ decode cL_law 609 = .ok (.ireturn, 1) ∧ decode cL_law 610 = .ok (.iload 5, 2) ∧ decode cL_law 612 = .ok (.ifCond .ne 15, 3) := by decide +kernel
theorem dL_law_594 : decode cL_law 594 = .ok (.invokevirtual 137, 3) := DL_law_32.1
theorem dL_law_597 : decode cL_law 597 = .ok (.istore 6, 2) := DL_law_32.2.1
theorem dL_law_599 : decode cL_law 599 = .ok (.aload_n 2, 1) := DL_law_32.2.2.1
theorem dL_law_600 : decode cL_law 600 = .ok (.invokevirtual 120, 3) := DL_law_32.2.2.2.1
theorem dL_law_603 : decode cL_law 603 = .ok (.iload 5, 2) := DL_law_32.2.2.2.2.1
theorem dL_law_605 : decode cL_law 605 = .ok (.if_icmp .eq 5, 3) := DL_law_32.2.2.2.2.2.1
theorem dL_law_608 : decode cL_law 608 = .ok (.iconst 0, 1) := DL_law_32.2.2.2.2.2.2.1
theorem dL_law_609 : decode cL_law 609 = .ok (.ireturn, 1) := DL_law_32.2.2.2.2.2.2.2.1
theorem dL_law_610 : decode cL_law 610 = .ok (.iload 5, 2) := DL_law_32.2.2.2.2.2.2.2.2.1
theorem dL_law_612 : decode cL_law 612 = .ok (.ifCond .ne 15, 3) := DL_law_32.2.2.2.2.2.2.2.2.2
set_option maxRecDepth 100000 in
theorem DL_law_33 : decode cL_law 615 = .ok (.aload_n 3, 1) ∧ decode cL_law 616 = .ok (.iconst 0, 1) ∧ decode cL_law 617 = .ok (.laload, 1) ∧ decode cL_law 618 = .ok (.iload 6, 2) ∧ decode cL_law 620 = .ok (.i2l, 1) ∧ decode cL_law 621 = .ok (.lcmp, 1) ∧ decode cL_law 622 = .ok (.ifCond .eq 5, 3) ∧ decode cL_law 625 = .ok (.iconst 0, 1) ∧ decode cL_law 626 = .ok (.ireturn, 1) ∧ decode cL_law 627 = .ok (.goto 1649, 3) := by decide +kernel
theorem dL_law_615 : decode cL_law 615 = .ok (.aload_n 3, 1) := DL_law_33.1
theorem dL_law_616 : decode cL_law 616 = .ok (.iconst 0, 1) := DL_law_33.2.1
theorem dL_law_617 : decode cL_law 617 = .ok (.laload, 1) := DL_law_33.2.2.1
theorem dL_law_618 : decode cL_law 618 = .ok (.iload 6, 2) := DL_law_33.2.2.2.1
theorem dL_law_620 : decode cL_law 620 = .ok (.i2l, 1) := DL_law_33.2.2.2.2.1
theorem dL_law_621 : decode cL_law 621 = .ok (.lcmp, 1) := DL_law_33.2.2.2.2.2.1
theorem dL_law_622 : decode cL_law 622 = .ok (.ifCond .eq 5, 3) := DL_law_33.2.2.2.2.2.2.1
theorem dL_law_625 : decode cL_law 625 = .ok (.iconst 0, 1) := DL_law_33.2.2.2.2.2.2.2.1
theorem dL_law_626 : decode cL_law 626 = .ok (.ireturn, 1) := DL_law_33.2.2.2.2.2.2.2.2.1
theorem dL_law_627 : decode cL_law 627 = .ok (.goto 1649, 3) := DL_law_33.2.2.2.2.2.2.2.2.2
set_option maxRecDepth 100000 in
theorem DL_law_34 : decode cL_law 630 = .ok (.aload_n 1, 1) ∧ decode cL_law 631 = .ok (.aload_n 0, 1) ∧ decode cL_law 632 = .ok (.iload 4, 2) ∧ decode cL_law 634 = .ok (.iconst 1, 1) ∧ decode cL_law 635 = .ok (.iadd, 1) ∧ decode cL_law 636 = .ok (.iaload, 1) ∧ decode cL_law 637 = .ok (.aload_n 0, 1) ∧ decode cL_law 638 = .ok (.iload 4, 2) ∧ decode cL_law 640 = .ok (.iconst 2, 1) ∧ decode cL_law 641 = .ok (.iadd, 1) := by decide +kernel
theorem dL_law_630 : decode cL_law 630 = .ok (.aload_n 1, 1) := DL_law_34.1
theorem dL_law_631 : decode cL_law 631 = .ok (.aload_n 0, 1) := DL_law_34.2.1
theorem dL_law_632 : decode cL_law 632 = .ok (.iload 4, 2) := DL_law_34.2.2.1
theorem dL_law_634 : decode cL_law 634 = .ok (.iconst 1, 1) := DL_law_34.2.2.2.1
theorem dL_law_635 : decode cL_law 635 = .ok (.iadd, 1) := DL_law_34.2.2.2.2.1
theorem dL_law_636 : decode cL_law 636 = .ok (.iaload, 1) := DL_law_34.2.2.2.2.2.1
theorem dL_law_637 : decode cL_law 637 = .ok (.aload_n 0, 1) := DL_law_34.2.2.2.2.2.2.1
theorem dL_law_638 : decode cL_law 638 = .ok (.iload 4, 2) := DL_law_34.2.2.2.2.2.2.2.1
theorem dL_law_640 : decode cL_law 640 = .ok (.iconst 2, 1) := DL_law_34.2.2.2.2.2.2.2.2.1
theorem dL_law_641 : decode cL_law 641 = .ok (.iadd, 1) := DL_law_34.2.2.2.2.2.2.2.2.2
set_option maxRecDepth 100000 in
theorem DL_law_35 : decode cL_law 642 = .ok (.iaload, 1) ∧ decode cL_law 643 = .ok (.aload_n 0, 1) ∧ decode cL_law 644 = .ok (.iload 4, 2) ∧ decode cL_law 646 = .ok (.iconst 3, 1) ∧ decode cL_law 647 = .ok (.iadd, 1) ∧ decode cL_law 648 = .ok (.iaload, 1) ∧ decode cL_law 649 = .ok (.aload_n 3, 1) ∧ decode cL_law 650 = .ok (.invokestatic 138, 3) ∧ decode cL_law 653 = .ok (.istore 5, 2) ∧ decode cL_law 655 = .ok (.aload_n 2, 1) := by decide +kernel
theorem dL_law_642 : decode cL_law 642 = .ok (.iaload, 1) := DL_law_35.1
theorem dL_law_643 : decode cL_law 643 = .ok (.aload_n 0, 1) := DL_law_35.2.1
theorem dL_law_644 : decode cL_law 644 = .ok (.iload 4, 2) := DL_law_35.2.2.1
theorem dL_law_646 : decode cL_law 646 = .ok (.iconst 3, 1) := DL_law_35.2.2.2.1
theorem dL_law_647 : decode cL_law 647 = .ok (.iadd, 1) := DL_law_35.2.2.2.2.1
theorem dL_law_648 : decode cL_law 648 = .ok (.iaload, 1) := DL_law_35.2.2.2.2.2.1
theorem dL_law_649 : decode cL_law 649 = .ok (.aload_n 3, 1) := DL_law_35.2.2.2.2.2.2.1
theorem dL_law_650 : decode cL_law 650 = .ok (.invokestatic 138, 3) := DL_law_35.2.2.2.2.2.2.2.1
theorem dL_law_653 : decode cL_law 653 = .ok (.istore 5, 2) := DL_law_35.2.2.2.2.2.2.2.2.1
theorem dL_law_655 : decode cL_law 655 = .ok (.aload_n 2, 1) := DL_law_35.2.2.2.2.2.2.2.2.2
set_option maxRecDepth 100000 in
theorem DL_law_36 : decode cL_law 656 = .ok (.aload_n 0, 1) ∧ decode cL_law 657 = .ok (.iload 4, 2) ∧ decode cL_law 659 = .ok (.iconst 1, 1) ∧ decode cL_law 660 = .ok (.iadd, 1) ∧ decode cL_law 661 = .ok (.iaload, 1) ∧ decode cL_law 662 = .ok (.aload_n 0, 1) ∧ decode cL_law 663 = .ok (.iload 4, 2) ∧ decode cL_law 665 = .ok (.iconst 2, 1) ∧ decode cL_law 666 = .ok (.iadd, 1) ∧ decode cL_law 667 = .ok (.iaload, 1) := by decide +kernel
theorem dL_law_656 : decode cL_law 656 = .ok (.aload_n 0, 1) := DL_law_36.1
theorem dL_law_657 : decode cL_law 657 = .ok (.iload 4, 2) := DL_law_36.2.1
theorem dL_law_659 : decode cL_law 659 = .ok (.iconst 1, 1) := DL_law_36.2.2.1
theorem dL_law_660 : decode cL_law 660 = .ok (.iadd, 1) := DL_law_36.2.2.2.1
theorem dL_law_661 : decode cL_law 661 = .ok (.iaload, 1) := DL_law_36.2.2.2.2.1
theorem dL_law_662 : decode cL_law 662 = .ok (.aload_n 0, 1) := DL_law_36.2.2.2.2.2.1
theorem dL_law_663 : decode cL_law 663 = .ok (.iload 4, 2) := DL_law_36.2.2.2.2.2.2.1
theorem dL_law_665 : decode cL_law 665 = .ok (.iconst 2, 1) := DL_law_36.2.2.2.2.2.2.2.1
theorem dL_law_666 : decode cL_law 666 = .ok (.iadd, 1) := DL_law_36.2.2.2.2.2.2.2.2.1
theorem dL_law_667 : decode cL_law 667 = .ok (.iaload, 1) := DL_law_36.2.2.2.2.2.2.2.2.2
set_option maxRecDepth 100000 in
theorem DL_law_37 : decode cL_law 668 = .ok (.aload_n 0, 1) ∧ decode cL_law 669 = .ok (.iload 4, 2) ∧ decode cL_law 671 = .ok (.iconst 3, 1) ∧ decode cL_law 672 = .ok (.iadd, 1) ∧ decode cL_law 673 = .ok (.iaload, 1) ∧ decode cL_law 674 = .ok (.invokevirtual 141, 3) ∧ decode cL_law 677 = .ok (.istore 6, 2) ∧ decode cL_law 679 = .ok (.aload_n 2, 1) ∧ decode cL_law 680 = .ok (.invokevirtual 120, 3) ∧ decode cL_law 683 = .ok (.iload 5, 2) := by decide +kernel
theorem dL_law_668 : decode cL_law 668 = .ok (.aload_n 0, 1) := DL_law_37.1
theorem dL_law_669 : decode cL_law 669 = .ok (.iload 4, 2) := DL_law_37.2.1
theorem dL_law_671 : decode cL_law 671 = .ok (.iconst 3, 1) := DL_law_37.2.2.1
theorem dL_law_672 : decode cL_law 672 = .ok (.iadd, 1) := DL_law_37.2.2.2.1
theorem dL_law_673 : decode cL_law 673 = .ok (.iaload, 1) := DL_law_37.2.2.2.2.1
theorem dL_law_674 : decode cL_law 674 = .ok (.invokevirtual 141, 3) := DL_law_37.2.2.2.2.2.1
theorem dL_law_677 : decode cL_law 677 = .ok (.istore 6, 2) := DL_law_37.2.2.2.2.2.2.1
theorem dL_law_679 : decode cL_law 679 = .ok (.aload_n 2, 1) := DL_law_37.2.2.2.2.2.2.2.1
theorem dL_law_680 : decode cL_law 680 = .ok (.invokevirtual 120, 3) := DL_law_37.2.2.2.2.2.2.2.2.1
theorem dL_law_683 : decode cL_law 683 = .ok (.iload 5, 2) := DL_law_37.2.2.2.2.2.2.2.2.2
set_option maxRecDepth 100000 in
theorem DL_law_38 : decode cL_law 685 = .ok (.if_icmp .eq 5, 3) ∧ decode cL_law 688 = .ok (.iconst 0, 1) ∧ decode cL_law 689 = .ok (.ireturn, 1) ∧ decode cL_law 690 = .ok (.iload 5, 2) ∧ decode cL_law 692 = .ok (.ifCond .ne 15, 3) ∧ decode cL_law 695 = .ok (.aload_n 3, 1) ∧ decode cL_law 696 = .ok (.iconst 0, 1) ∧ decode cL_law 697 = .ok (.laload, 1) ∧ decode cL_law 698 = .ok (.iload 6, 2) ∧ decode cL_law 700 = .ok (.i2l, 1) := by decide +kernel
theorem dL_law_685 : decode cL_law 685 = .ok (.if_icmp .eq 5, 3) := DL_law_38.1
theorem dL_law_688 : decode cL_law 688 = .ok (.iconst 0, 1) := DL_law_38.2.1
theorem dL_law_689 : decode cL_law 689 = .ok (.ireturn, 1) := DL_law_38.2.2.1
theorem dL_law_690 : decode cL_law 690 = .ok (.iload 5, 2) := DL_law_38.2.2.2.1
theorem dL_law_692 : decode cL_law 692 = .ok (.ifCond .ne 15, 3) := DL_law_38.2.2.2.2.1
theorem dL_law_695 : decode cL_law 695 = .ok (.aload_n 3, 1) := DL_law_38.2.2.2.2.2.1
theorem dL_law_696 : decode cL_law 696 = .ok (.iconst 0, 1) := DL_law_38.2.2.2.2.2.2.1
theorem dL_law_697 : decode cL_law 697 = .ok (.laload, 1) := DL_law_38.2.2.2.2.2.2.2.1
theorem dL_law_698 : decode cL_law 698 = .ok (.iload 6, 2) := DL_law_38.2.2.2.2.2.2.2.2.1
theorem dL_law_700 : decode cL_law 700 = .ok (.i2l, 1) := DL_law_38.2.2.2.2.2.2.2.2.2
set_option maxRecDepth 100000 in
theorem DL_law_39 : decode cL_law 701 = .ok (.lcmp, 1) ∧ decode cL_law 702 = .ok (.ifCond .eq 5, 3) ∧ decode cL_law 705 = .ok (.iconst 0, 1) ∧ decode cL_law 706 = .ok (.ireturn, 1) ∧ decode cL_law 707 = .ok (.goto 1569, 3) ∧ decode cL_law 710 = .ok (.aload_n 1, 1) ∧ decode cL_law 711 = .ok (.aload_n 0, 1) ∧ decode cL_law 712 = .ok (.iload 4, 2) ∧ decode cL_law 714 = .ok (.iconst 1, 1) ∧ decode cL_law 715 = .ok (.iadd, 1) := by decide +kernel
theorem dL_law_701 : decode cL_law 701 = .ok (.lcmp, 1) := DL_law_39.1
theorem dL_law_702 : decode cL_law 702 = .ok (.ifCond .eq 5, 3) := DL_law_39.2.1
theorem dL_law_705 : decode cL_law 705 = .ok (.iconst 0, 1) := DL_law_39.2.2.1
theorem dL_law_706 : decode cL_law 706 = .ok (.ireturn, 1) := DL_law_39.2.2.2.1
theorem dL_law_707 : decode cL_law 707 = .ok (.goto 1569, 3) := DL_law_39.2.2.2.2.1
theorem dL_law_710 : decode cL_law 710 = .ok (.aload_n 1, 1) := DL_law_39.2.2.2.2.2.1
theorem dL_law_711 : decode cL_law 711 = .ok (.aload_n 0, 1) := DL_law_39.2.2.2.2.2.2.1
theorem dL_law_712 : decode cL_law 712 = .ok (.iload 4, 2) := DL_law_39.2.2.2.2.2.2.2.1
theorem dL_law_714 : decode cL_law 714 = .ok (.iconst 1, 1) := DL_law_39.2.2.2.2.2.2.2.2.1
theorem dL_law_715 : decode cL_law 715 = .ok (.iadd, 1) := DL_law_39.2.2.2.2.2.2.2.2.2
set_option maxRecDepth 100000 in
theorem DL_law_40 : decode cL_law 716 = .ok (.iaload, 1) ∧ decode cL_law 717 = .ok (.aload_n 0, 1) ∧ decode cL_law 718 = .ok (.iload 4, 2) ∧ decode cL_law 720 = .ok (.iconst 2, 1) ∧ decode cL_law 721 = .ok (.iadd, 1) ∧ decode cL_law 722 = .ok (.iaload, 1) ∧ decode cL_law 723 = .ok (.aload_n 3, 1) ∧ decode cL_law 724 = .ok (.invokestatic 142, 3) ∧ decode cL_law 727 = .ok (.istore 5, 2) ∧ decode cL_law 729 = .ok (.aload_n 2, 1) := by decide +kernel
theorem dL_law_716 : decode cL_law 716 = .ok (.iaload, 1) := DL_law_40.1
theorem dL_law_717 : decode cL_law 717 = .ok (.aload_n 0, 1) := DL_law_40.2.1
theorem dL_law_718 : decode cL_law 718 = .ok (.iload 4, 2) := DL_law_40.2.2.1
theorem dL_law_720 : decode cL_law 720 = .ok (.iconst 2, 1) := DL_law_40.2.2.2.1
theorem dL_law_721 : decode cL_law 721 = .ok (.iadd, 1) := DL_law_40.2.2.2.2.1
theorem dL_law_722 : decode cL_law 722 = .ok (.iaload, 1) := DL_law_40.2.2.2.2.2.1
theorem dL_law_723 : decode cL_law 723 = .ok (.aload_n 3, 1) := DL_law_40.2.2.2.2.2.2.1
theorem dL_law_724 : decode cL_law 724 = .ok (.invokestatic 142, 3) := DL_law_40.2.2.2.2.2.2.2.1
theorem dL_law_727 : decode cL_law 727 = .ok (.istore 5, 2) := DL_law_40.2.2.2.2.2.2.2.2.1
theorem dL_law_729 : decode cL_law 729 = .ok (.aload_n 2, 1) := DL_law_40.2.2.2.2.2.2.2.2.2
set_option maxRecDepth 100000 in
theorem DL_law_41 : decode cL_law 730 = .ok (.aload_n 0, 1) ∧ decode cL_law 731 = .ok (.iload 4, 2) ∧ decode cL_law 733 = .ok (.iconst 1, 1) ∧ decode cL_law 734 = .ok (.iadd, 1) ∧ decode cL_law 735 = .ok (.iaload, 1) ∧ decode cL_law 736 = .ok (.aload_n 0, 1) ∧ decode cL_law 737 = .ok (.iload 4, 2) ∧ decode cL_law 739 = .ok (.iconst 2, 1) ∧ decode cL_law 740 = .ok (.iadd, 1) ∧ decode cL_law 741 = .ok (.iaload, 1) := by decide +kernel
theorem dL_law_730 : decode cL_law 730 = .ok (.aload_n 0, 1) := DL_law_41.1
theorem dL_law_731 : decode cL_law 731 = .ok (.iload 4, 2) := DL_law_41.2.1
theorem dL_law_733 : decode cL_law 733 = .ok (.iconst 1, 1) := DL_law_41.2.2.1
theorem dL_law_734 : decode cL_law 734 = .ok (.iadd, 1) := DL_law_41.2.2.2.1
theorem dL_law_735 : decode cL_law 735 = .ok (.iaload, 1) := DL_law_41.2.2.2.2.1
theorem dL_law_736 : decode cL_law 736 = .ok (.aload_n 0, 1) := DL_law_41.2.2.2.2.2.1
theorem dL_law_737 : decode cL_law 737 = .ok (.iload 4, 2) := DL_law_41.2.2.2.2.2.2.1
theorem dL_law_739 : decode cL_law 739 = .ok (.iconst 2, 1) := DL_law_41.2.2.2.2.2.2.2.1
theorem dL_law_740 : decode cL_law 740 = .ok (.iadd, 1) := DL_law_41.2.2.2.2.2.2.2.2.1
theorem dL_law_741 : decode cL_law 741 = .ok (.iaload, 1) := DL_law_41.2.2.2.2.2.2.2.2.2
set_option maxRecDepth 100000 in
theorem DL_law_42 : decode cL_law 742 = .ok (.invokevirtual 144, 3) ∧ decode cL_law 745 = .ok (.istore 6, 2) ∧ decode cL_law 747 = .ok (.aload_n 2, 1) ∧ decode cL_law 748 = .ok (.invokevirtual 120, 3) ∧ decode cL_law 751 = .ok (.iload 5, 2) ∧ decode cL_law 753 = .ok (.if_icmp .eq 5, 3) ∧ decode cL_law 756 = .ok (.iconst 0, 1) ∧ decode cL_law 757 = .ok (.ireturn, 1) ∧ decode cL_law 758 = .ok (.iload 5, 2) ∧ decode cL_law 760 = .ok (.ifCond .ne 15, 3) := by decide +kernel
theorem dL_law_742 : decode cL_law 742 = .ok (.invokevirtual 144, 3) := DL_law_42.1
theorem dL_law_745 : decode cL_law 745 = .ok (.istore 6, 2) := DL_law_42.2.1
theorem dL_law_747 : decode cL_law 747 = .ok (.aload_n 2, 1) := DL_law_42.2.2.1
theorem dL_law_748 : decode cL_law 748 = .ok (.invokevirtual 120, 3) := DL_law_42.2.2.2.1
theorem dL_law_751 : decode cL_law 751 = .ok (.iload 5, 2) := DL_law_42.2.2.2.2.1
theorem dL_law_753 : decode cL_law 753 = .ok (.if_icmp .eq 5, 3) := DL_law_42.2.2.2.2.2.1
theorem dL_law_756 : decode cL_law 756 = .ok (.iconst 0, 1) := DL_law_42.2.2.2.2.2.2.1
theorem dL_law_757 : decode cL_law 757 = .ok (.ireturn, 1) := DL_law_42.2.2.2.2.2.2.2.1
theorem dL_law_758 : decode cL_law 758 = .ok (.iload 5, 2) := DL_law_42.2.2.2.2.2.2.2.2.1
theorem dL_law_760 : decode cL_law 760 = .ok (.ifCond .ne 15, 3) := DL_law_42.2.2.2.2.2.2.2.2.2
set_option maxRecDepth 100000 in
theorem DL_law_43 : decode cL_law 763 = .ok (.aload_n 3, 1) ∧ decode cL_law 764 = .ok (.iconst 0, 1) ∧ decode cL_law 765 = .ok (.laload, 1) ∧ decode cL_law 766 = .ok (.iload 6, 2) ∧ decode cL_law 768 = .ok (.i2l, 1) ∧ decode cL_law 769 = .ok (.lcmp, 1) ∧ decode cL_law 770 = .ok (.ifCond .eq 5, 3) ∧ decode cL_law 773 = .ok (.iconst 0, 1) ∧ decode cL_law 774 = .ok (.ireturn, 1) ∧ decode cL_law 775 = .ok (.goto 1501, 3) := by decide +kernel
theorem dL_law_763 : decode cL_law 763 = .ok (.aload_n 3, 1) := DL_law_43.1
theorem dL_law_764 : decode cL_law 764 = .ok (.iconst 0, 1) := DL_law_43.2.1
theorem dL_law_765 : decode cL_law 765 = .ok (.laload, 1) := DL_law_43.2.2.1
theorem dL_law_766 : decode cL_law 766 = .ok (.iload 6, 2) := DL_law_43.2.2.2.1
theorem dL_law_768 : decode cL_law 768 = .ok (.i2l, 1) := DL_law_43.2.2.2.2.1
theorem dL_law_769 : decode cL_law 769 = .ok (.lcmp, 1) := DL_law_43.2.2.2.2.2.1
theorem dL_law_770 : decode cL_law 770 = .ok (.ifCond .eq 5, 3) := DL_law_43.2.2.2.2.2.2.1
theorem dL_law_773 : decode cL_law 773 = .ok (.iconst 0, 1) := DL_law_43.2.2.2.2.2.2.2.1
theorem dL_law_774 : decode cL_law 774 = .ok (.ireturn, 1) := DL_law_43.2.2.2.2.2.2.2.2.1
theorem dL_law_775 : decode cL_law 775 = .ok (.goto 1501, 3) := DL_law_43.2.2.2.2.2.2.2.2.2
set_option maxRecDepth 100000 in
theorem DL_law_44 : decode cL_law 778 = .ok (.aload_n 1, 1) ∧ decode cL_law 779 = .ok (.aload_n 0, 1) ∧ decode cL_law 780 = .ok (.iload 4, 2) ∧ decode cL_law 782 = .ok (.iconst 1, 1) ∧ decode cL_law 783 = .ok (.iadd, 1) ∧ decode cL_law 784 = .ok (.iaload, 1) ∧ decode cL_law 785 = .ok (.aload_n 3, 1) ∧ decode cL_law 786 = .ok (.invokestatic 145, 3) ∧ decode cL_law 789 = .ok (.istore 5, 2) ∧ decode cL_law 791 = .ok (.aload_n 2, 1) := by decide +kernel
theorem dL_law_778 : decode cL_law 778 = .ok (.aload_n 1, 1) := DL_law_44.1
theorem dL_law_779 : decode cL_law 779 = .ok (.aload_n 0, 1) := DL_law_44.2.1
theorem dL_law_780 : decode cL_law 780 = .ok (.iload 4, 2) := DL_law_44.2.2.1
theorem dL_law_782 : decode cL_law 782 = .ok (.iconst 1, 1) := DL_law_44.2.2.2.1
theorem dL_law_783 : decode cL_law 783 = .ok (.iadd, 1) := DL_law_44.2.2.2.2.1
theorem dL_law_784 : decode cL_law 784 = .ok (.iaload, 1) := DL_law_44.2.2.2.2.2.1
theorem dL_law_785 : decode cL_law 785 = .ok (.aload_n 3, 1) := DL_law_44.2.2.2.2.2.2.1
theorem dL_law_786 : decode cL_law 786 = .ok (.invokestatic 145, 3) := DL_law_44.2.2.2.2.2.2.2.1
theorem dL_law_789 : decode cL_law 789 = .ok (.istore 5, 2) := DL_law_44.2.2.2.2.2.2.2.2.1
theorem dL_law_791 : decode cL_law 791 = .ok (.aload_n 2, 1) := DL_law_44.2.2.2.2.2.2.2.2.2
set_option maxRecDepth 100000 in
theorem DL_law_45 : decode cL_law 792 = .ok (.aload_n 0, 1) ∧ decode cL_law 793 = .ok (.iload 4, 2) ∧ decode cL_law 795 = .ok (.iconst 1, 1) ∧ decode cL_law 796 = .ok (.iadd, 1) ∧ decode cL_law 797 = .ok (.iaload, 1) ∧ decode cL_law 798 = .ok (.invokevirtual 148, 3) ∧ decode cL_law 801 = .ok (.istore 6, 2) ∧ decode cL_law 803 = .ok (.aload_n 2, 1) ∧ decode cL_law 804 = .ok (.invokevirtual 120, 3) ∧ decode cL_law 807 = .ok (.iload 5, 2) := by decide +kernel
theorem dL_law_792 : decode cL_law 792 = .ok (.aload_n 0, 1) := DL_law_45.1
theorem dL_law_793 : decode cL_law 793 = .ok (.iload 4, 2) := DL_law_45.2.1
theorem dL_law_795 : decode cL_law 795 = .ok (.iconst 1, 1) := DL_law_45.2.2.1
theorem dL_law_796 : decode cL_law 796 = .ok (.iadd, 1) := DL_law_45.2.2.2.1
theorem dL_law_797 : decode cL_law 797 = .ok (.iaload, 1) := DL_law_45.2.2.2.2.1
theorem dL_law_798 : decode cL_law 798 = .ok (.invokevirtual 148, 3) := DL_law_45.2.2.2.2.2.1
theorem dL_law_801 : decode cL_law 801 = .ok (.istore 6, 2) := DL_law_45.2.2.2.2.2.2.1
theorem dL_law_803 : decode cL_law 803 = .ok (.aload_n 2, 1) := DL_law_45.2.2.2.2.2.2.2.1
theorem dL_law_804 : decode cL_law 804 = .ok (.invokevirtual 120, 3) := DL_law_45.2.2.2.2.2.2.2.2.1
theorem dL_law_807 : decode cL_law 807 = .ok (.iload 5, 2) := DL_law_45.2.2.2.2.2.2.2.2.2
set_option maxRecDepth 100000 in
theorem DL_law_46 : decode cL_law 809 = .ok (.if_icmp .eq 5, 3) ∧ decode cL_law 812 = .ok (.iconst 0, 1) ∧ decode cL_law 813 = .ok (.ireturn, 1) ∧ decode cL_law 814 = .ok (.iload 5, 2) ∧ decode cL_law 816 = .ok (.ifCond .ne 15, 3) ∧ decode cL_law 819 = .ok (.aload_n 3, 1) ∧ decode cL_law 820 = .ok (.iconst 0, 1) ∧ decode cL_law 821 = .ok (.laload, 1) ∧ decode cL_law 822 = .ok (.iload 6, 2) ∧ decode cL_law 824 = .ok (.i2l, 1) := by decide +kernel
theorem dL_law_809 : decode cL_law 809 = .ok (.if_icmp .eq 5, 3) := DL_law_46.1
theorem dL_law_812 : decode cL_law 812 = .ok (.iconst 0, 1) := DL_law_46.2.1
theorem dL_law_813 : decode cL_law 813 = .ok (.ireturn, 1) := DL_law_46.2.2.1
theorem dL_law_814 : decode cL_law 814 = .ok (.iload 5, 2) := DL_law_46.2.2.2.1
theorem dL_law_816 : decode cL_law 816 = .ok (.ifCond .ne 15, 3) := DL_law_46.2.2.2.2.1
theorem dL_law_819 : decode cL_law 819 = .ok (.aload_n 3, 1) := DL_law_46.2.2.2.2.2.1
theorem dL_law_820 : decode cL_law 820 = .ok (.iconst 0, 1) := DL_law_46.2.2.2.2.2.2.1
theorem dL_law_821 : decode cL_law 821 = .ok (.laload, 1) := DL_law_46.2.2.2.2.2.2.2.1
theorem dL_law_822 : decode cL_law 822 = .ok (.iload 6, 2) := DL_law_46.2.2.2.2.2.2.2.2.1
theorem dL_law_824 : decode cL_law 824 = .ok (.i2l, 1) := DL_law_46.2.2.2.2.2.2.2.2.2
set_option maxRecDepth 100000 in
theorem DL_law_47 : decode cL_law 825 = .ok (.lcmp, 1) ∧ decode cL_law 826 = .ok (.ifCond .eq 5, 3) ∧ decode cL_law 829 = .ok (.iconst 0, 1) ∧ decode cL_law 830 = .ok (.ireturn, 1) ∧ decode cL_law 831 = .ok (.goto 1445, 3) ∧ decode cL_law 834 = .ok (.aload_n 1, 1) ∧ decode cL_law 835 = .ok (.aload_n 0, 1) ∧ decode cL_law 836 = .ok (.iload 4, 2) ∧ decode cL_law 838 = .ok (.iconst 1, 1) ∧ decode cL_law 839 = .ok (.iadd, 1) := by decide +kernel
theorem dL_law_825 : decode cL_law 825 = .ok (.lcmp, 1) := DL_law_47.1
theorem dL_law_826 : decode cL_law 826 = .ok (.ifCond .eq 5, 3) := DL_law_47.2.1
theorem dL_law_829 : decode cL_law 829 = .ok (.iconst 0, 1) := DL_law_47.2.2.1
theorem dL_law_830 : decode cL_law 830 = .ok (.ireturn, 1) := DL_law_47.2.2.2.1
theorem dL_law_831 : decode cL_law 831 = .ok (.goto 1445, 3) := DL_law_47.2.2.2.2.1
theorem dL_law_834 : decode cL_law 834 = .ok (.aload_n 1, 1) := DL_law_47.2.2.2.2.2.1
theorem dL_law_835 : decode cL_law 835 = .ok (.aload_n 0, 1) := DL_law_47.2.2.2.2.2.2.1
theorem dL_law_836 : decode cL_law 836 = .ok (.iload 4, 2) := DL_law_47.2.2.2.2.2.2.2.1
theorem dL_law_838 : decode cL_law 838 = .ok (.iconst 1, 1) := DL_law_47.2.2.2.2.2.2.2.2.1
theorem dL_law_839 : decode cL_law 839 = .ok (.iadd, 1) := DL_law_47.2.2.2.2.2.2.2.2.2
set_option maxRecDepth 100000 in
theorem DL_law_48 : decode cL_law 840 = .ok (.iaload, 1) ∧ decode cL_law 841 = .ok (.aload_n 0, 1) ∧ decode cL_law 842 = .ok (.iload 4, 2) ∧ decode cL_law 844 = .ok (.iconst 2, 1) ∧ decode cL_law 845 = .ok (.iadd, 1) ∧ decode cL_law 846 = .ok (.iaload, 1) ∧ decode cL_law 847 = .ok (.aload_n 0, 1) ∧ decode cL_law 848 = .ok (.iload 4, 2) ∧ decode cL_law 850 = .ok (.iconst 3, 1) ∧ decode cL_law 851 = .ok (.iadd, 1) := by decide +kernel
theorem dL_law_840 : decode cL_law 840 = .ok (.iaload, 1) := DL_law_48.1
theorem dL_law_841 : decode cL_law 841 = .ok (.aload_n 0, 1) := DL_law_48.2.1
theorem dL_law_842 : decode cL_law 842 = .ok (.iload 4, 2) := DL_law_48.2.2.1
theorem dL_law_844 : decode cL_law 844 = .ok (.iconst 2, 1) := DL_law_48.2.2.2.1
theorem dL_law_845 : decode cL_law 845 = .ok (.iadd, 1) := DL_law_48.2.2.2.2.1
theorem dL_law_846 : decode cL_law 846 = .ok (.iaload, 1) := DL_law_48.2.2.2.2.2.1
theorem dL_law_847 : decode cL_law 847 = .ok (.aload_n 0, 1) := DL_law_48.2.2.2.2.2.2.1
theorem dL_law_848 : decode cL_law 848 = .ok (.iload 4, 2) := DL_law_48.2.2.2.2.2.2.2.1
theorem dL_law_850 : decode cL_law 850 = .ok (.iconst 3, 1) := DL_law_48.2.2.2.2.2.2.2.2.1
theorem dL_law_851 : decode cL_law 851 = .ok (.iadd, 1) := DL_law_48.2.2.2.2.2.2.2.2.2
set_option maxRecDepth 100000 in
theorem DL_law_49 : decode cL_law 852 = .ok (.iaload, 1) ∧ decode cL_law 853 = .ok (.aload_n 3, 1) ∧ decode cL_law 854 = .ok (.invokestatic 149, 3) ∧ decode cL_law 857 = .ok (.istore 5, 2) ∧ decode cL_law 859 = .ok (.aload_n 2, 1) ∧ decode cL_law 860 = .ok (.aload_n 0, 1) ∧ decode cL_law 861 = .ok (.iload 4, 2) ∧ decode cL_law 863 = .ok (.iconst 1, 1) ∧ decode cL_law 864 = .ok (.iadd, 1) ∧ decode cL_law 865 = .ok (.iaload, 1) := by decide +kernel
theorem dL_law_852 : decode cL_law 852 = .ok (.iaload, 1) := DL_law_49.1
theorem dL_law_853 : decode cL_law 853 = .ok (.aload_n 3, 1) := DL_law_49.2.1
theorem dL_law_854 : decode cL_law 854 = .ok (.invokestatic 149, 3) := DL_law_49.2.2.1
theorem dL_law_857 : decode cL_law 857 = .ok (.istore 5, 2) := DL_law_49.2.2.2.1
theorem dL_law_859 : decode cL_law 859 = .ok (.aload_n 2, 1) := DL_law_49.2.2.2.2.1
theorem dL_law_860 : decode cL_law 860 = .ok (.aload_n 0, 1) := DL_law_49.2.2.2.2.2.1
theorem dL_law_861 : decode cL_law 861 = .ok (.iload 4, 2) := DL_law_49.2.2.2.2.2.2.1
theorem dL_law_863 : decode cL_law 863 = .ok (.iconst 1, 1) := DL_law_49.2.2.2.2.2.2.2.1
theorem dL_law_864 : decode cL_law 864 = .ok (.iadd, 1) := DL_law_49.2.2.2.2.2.2.2.2.1
theorem dL_law_865 : decode cL_law 865 = .ok (.iaload, 1) := DL_law_49.2.2.2.2.2.2.2.2.2
set_option maxRecDepth 100000 in
theorem DL_law_50 : decode cL_law 866 = .ok (.aload_n 0, 1) ∧ decode cL_law 867 = .ok (.iload 4, 2) ∧ decode cL_law 869 = .ok (.iconst 2, 1) ∧ decode cL_law 870 = .ok (.iadd, 1) ∧ decode cL_law 871 = .ok (.iaload, 1) ∧ decode cL_law 872 = .ok (.aload_n 0, 1) ∧ decode cL_law 873 = .ok (.iload 4, 2) ∧ decode cL_law 875 = .ok (.iconst 3, 1) ∧ decode cL_law 876 = .ok (.iadd, 1) ∧ decode cL_law 877 = .ok (.iaload, 1) := by decide +kernel
theorem dL_law_866 : decode cL_law 866 = .ok (.aload_n 0, 1) := DL_law_50.1
theorem dL_law_867 : decode cL_law 867 = .ok (.iload 4, 2) := DL_law_50.2.1
theorem dL_law_869 : decode cL_law 869 = .ok (.iconst 2, 1) := DL_law_50.2.2.1
theorem dL_law_870 : decode cL_law 870 = .ok (.iadd, 1) := DL_law_50.2.2.2.1
theorem dL_law_871 : decode cL_law 871 = .ok (.iaload, 1) := DL_law_50.2.2.2.2.1
theorem dL_law_872 : decode cL_law 872 = .ok (.aload_n 0, 1) := DL_law_50.2.2.2.2.2.1
theorem dL_law_873 : decode cL_law 873 = .ok (.iload 4, 2) := DL_law_50.2.2.2.2.2.2.1
theorem dL_law_875 : decode cL_law 875 = .ok (.iconst 3, 1) := DL_law_50.2.2.2.2.2.2.2.1
theorem dL_law_876 : decode cL_law 876 = .ok (.iadd, 1) := DL_law_50.2.2.2.2.2.2.2.2.1
theorem dL_law_877 : decode cL_law 877 = .ok (.iaload, 1) := DL_law_50.2.2.2.2.2.2.2.2.2
set_option maxRecDepth 100000 in
theorem DL_law_51 : decode cL_law 878 = .ok (.invokevirtual 151, 3) ∧ decode cL_law 881 = .ok (.istore 6, 2) ∧ decode cL_law 883 = .ok (.aload_n 2, 1) ∧ decode cL_law 884 = .ok (.invokevirtual 120, 3) ∧ decode cL_law 887 = .ok (.iload 5, 2) ∧ decode cL_law 889 = .ok (.if_icmp .eq 5, 3) ∧ decode cL_law 892 = .ok (.iconst 0, 1) ∧ decode cL_law 893 = .ok (.ireturn, 1) ∧ decode cL_law 894 = .ok (.iload 5, 2) ∧ decode cL_law 896 = .ok (.ifCond .ne 15, 3) := by decide +kernel
theorem dL_law_878 : decode cL_law 878 = .ok (.invokevirtual 151, 3) := DL_law_51.1
theorem dL_law_881 : decode cL_law 881 = .ok (.istore 6, 2) := DL_law_51.2.1
theorem dL_law_883 : decode cL_law 883 = .ok (.aload_n 2, 1) := DL_law_51.2.2.1
theorem dL_law_884 : decode cL_law 884 = .ok (.invokevirtual 120, 3) := DL_law_51.2.2.2.1
theorem dL_law_887 : decode cL_law 887 = .ok (.iload 5, 2) := DL_law_51.2.2.2.2.1
theorem dL_law_889 : decode cL_law 889 = .ok (.if_icmp .eq 5, 3) := DL_law_51.2.2.2.2.2.1
theorem dL_law_892 : decode cL_law 892 = .ok (.iconst 0, 1) := DL_law_51.2.2.2.2.2.2.1
theorem dL_law_893 : decode cL_law 893 = .ok (.ireturn, 1) := DL_law_51.2.2.2.2.2.2.2.1
theorem dL_law_894 : decode cL_law 894 = .ok (.iload 5, 2) := DL_law_51.2.2.2.2.2.2.2.2.1
theorem dL_law_896 : decode cL_law 896 = .ok (.ifCond .ne 15, 3) := DL_law_51.2.2.2.2.2.2.2.2.2
set_option maxRecDepth 100000 in
theorem DL_law_52 : decode cL_law 899 = .ok (.aload_n 3, 1) ∧ decode cL_law 900 = .ok (.iconst 0, 1) ∧ decode cL_law 901 = .ok (.laload, 1) ∧ decode cL_law 902 = .ok (.iload 6, 2) ∧ decode cL_law 904 = .ok (.i2l, 1) ∧ decode cL_law 905 = .ok (.lcmp, 1) ∧ decode cL_law 906 = .ok (.ifCond .eq 5, 3) ∧ decode cL_law 909 = .ok (.iconst 0, 1) ∧ decode cL_law 910 = .ok (.ireturn, 1) ∧ decode cL_law 911 = .ok (.goto 1365, 3) := by decide +kernel
theorem dL_law_899 : decode cL_law 899 = .ok (.aload_n 3, 1) := DL_law_52.1
theorem dL_law_900 : decode cL_law 900 = .ok (.iconst 0, 1) := DL_law_52.2.1
theorem dL_law_901 : decode cL_law 901 = .ok (.laload, 1) := DL_law_52.2.2.1
theorem dL_law_902 : decode cL_law 902 = .ok (.iload 6, 2) := DL_law_52.2.2.2.1
theorem dL_law_904 : decode cL_law 904 = .ok (.i2l, 1) := DL_law_52.2.2.2.2.1
theorem dL_law_905 : decode cL_law 905 = .ok (.lcmp, 1) := DL_law_52.2.2.2.2.2.1
theorem dL_law_906 : decode cL_law 906 = .ok (.ifCond .eq 5, 3) := DL_law_52.2.2.2.2.2.2.1
theorem dL_law_909 : decode cL_law 909 = .ok (.iconst 0, 1) := DL_law_52.2.2.2.2.2.2.2.1
theorem dL_law_910 : decode cL_law 910 = .ok (.ireturn, 1) := DL_law_52.2.2.2.2.2.2.2.2.1
theorem dL_law_911 : decode cL_law 911 = .ok (.goto 1365, 3) := DL_law_52.2.2.2.2.2.2.2.2.2
set_option maxRecDepth 100000 in
theorem DL_law_53 : decode cL_law 914 = .ok (.aload_n 1, 1) ∧ decode cL_law 915 = .ok (.invokevirtual 152, 3) ∧ decode cL_law 918 = .ok (.aload_n 2, 1) ∧ decode cL_law 919 = .ok (.invokevirtual 155, 3) ∧ decode cL_law 922 = .ok (.if_icmp .eq 1354, 3) ∧ decode cL_law 925 = .ok (.iconst 0, 1) ∧ decode cL_law 926 = .ok (.ireturn, 1) ∧ decode cL_law 927 = .ok (.aload_n 1, 1) ∧ decode cL_law 928 = .ok (.aload_n 0, 1) ∧ decode cL_law 929 = .ok (.iload 4, 2) := by decide +kernel
theorem dL_law_914 : decode cL_law 914 = .ok (.aload_n 1, 1) := DL_law_53.1
theorem dL_law_915 : decode cL_law 915 = .ok (.invokevirtual 152, 3) := DL_law_53.2.1
theorem dL_law_918 : decode cL_law 918 = .ok (.aload_n 2, 1) := DL_law_53.2.2.1
theorem dL_law_919 : decode cL_law 919 = .ok (.invokevirtual 155, 3) := DL_law_53.2.2.2.1
theorem dL_law_922 : decode cL_law 922 = .ok (.if_icmp .eq 1354, 3) := DL_law_53.2.2.2.2.1
theorem dL_law_925 : decode cL_law 925 = .ok (.iconst 0, 1) := DL_law_53.2.2.2.2.2.1
theorem dL_law_926 : decode cL_law 926 = .ok (.ireturn, 1) := DL_law_53.2.2.2.2.2.2.1
theorem dL_law_927 : decode cL_law 927 = .ok (.aload_n 1, 1) := DL_law_53.2.2.2.2.2.2.2.1
theorem dL_law_928 : decode cL_law 928 = .ok (.aload_n 0, 1) := DL_law_53.2.2.2.2.2.2.2.2.1
theorem dL_law_929 : decode cL_law 929 = .ok (.iload 4, 2) := DL_law_53.2.2.2.2.2.2.2.2.2
set_option maxRecDepth 100000 in
theorem DL_law_54 : decode cL_law 931 = .ok (.iconst 1, 1) ∧ decode cL_law 932 = .ok (.iadd, 1) ∧ decode cL_law 933 = .ok (.iaload, 1) ∧ decode cL_law 934 = .ok (.aload_n 0, 1) ∧ decode cL_law 935 = .ok (.iload 4, 2) ∧ decode cL_law 937 = .ok (.iconst 2, 1) ∧ decode cL_law 938 = .ok (.iadd, 1) ∧ decode cL_law 939 = .ok (.iaload, 1) ∧ decode cL_law 940 = .ok (.aload_n 3, 1) ∧ decode cL_law 941 = .ok (.invokestatic 156, 3) := by decide +kernel
theorem dL_law_931 : decode cL_law 931 = .ok (.iconst 1, 1) := DL_law_54.1
theorem dL_law_932 : decode cL_law 932 = .ok (.iadd, 1) := DL_law_54.2.1
theorem dL_law_933 : decode cL_law 933 = .ok (.iaload, 1) := DL_law_54.2.2.1
theorem dL_law_934 : decode cL_law 934 = .ok (.aload_n 0, 1) := DL_law_54.2.2.2.1
theorem dL_law_935 : decode cL_law 935 = .ok (.iload 4, 2) := DL_law_54.2.2.2.2.1
theorem dL_law_937 : decode cL_law 937 = .ok (.iconst 2, 1) := DL_law_54.2.2.2.2.2.1
theorem dL_law_938 : decode cL_law 938 = .ok (.iadd, 1) := DL_law_54.2.2.2.2.2.2.1
theorem dL_law_939 : decode cL_law 939 = .ok (.iaload, 1) := DL_law_54.2.2.2.2.2.2.2.1
theorem dL_law_940 : decode cL_law 940 = .ok (.aload_n 3, 1) := DL_law_54.2.2.2.2.2.2.2.2.1
theorem dL_law_941 : decode cL_law 941 = .ok (.invokestatic 156, 3) := DL_law_54.2.2.2.2.2.2.2.2.2
set_option maxRecDepth 100000 in
theorem DL_law_55 : decode cL_law 944 = .ok (.istore 5, 2) ∧ decode cL_law 946 = .ok (.aload_n 2, 1) ∧ decode cL_law 947 = .ok (.aload_n 0, 1) ∧ decode cL_law 948 = .ok (.iload 4, 2) ∧ decode cL_law 950 = .ok (.iconst 1, 1) ∧ decode cL_law 951 = .ok (.iadd, 1) ∧ decode cL_law 952 = .ok (.iaload, 1) ∧ decode cL_law 953 = .ok (.aload_n 0, 1) ∧ decode cL_law 954 = .ok (.iload 4, 2) ∧ decode cL_law 956 = .ok (.iconst 2, 1) := by decide +kernel
theorem dL_law_944 : decode cL_law 944 = .ok (.istore 5, 2) := DL_law_55.1
theorem dL_law_946 : decode cL_law 946 = .ok (.aload_n 2, 1) := DL_law_55.2.1
theorem dL_law_947 : decode cL_law 947 = .ok (.aload_n 0, 1) := DL_law_55.2.2.1
theorem dL_law_948 : decode cL_law 948 = .ok (.iload 4, 2) := DL_law_55.2.2.2.1
theorem dL_law_950 : decode cL_law 950 = .ok (.iconst 1, 1) := DL_law_55.2.2.2.2.1
theorem dL_law_951 : decode cL_law 951 = .ok (.iadd, 1) := DL_law_55.2.2.2.2.2.1
theorem dL_law_952 : decode cL_law 952 = .ok (.iaload, 1) := DL_law_55.2.2.2.2.2.2.1
theorem dL_law_953 : decode cL_law 953 = .ok (.aload_n 0, 1) := DL_law_55.2.2.2.2.2.2.2.1
theorem dL_law_954 : decode cL_law 954 = .ok (.iload 4, 2) := DL_law_55.2.2.2.2.2.2.2.2.1
theorem dL_law_956 : decode cL_law 956 = .ok (.iconst 2, 1) := DL_law_55.2.2.2.2.2.2.2.2.2
set_option maxRecDepth 100000 in
theorem DL_law_56 : decode cL_law 957 = .ok (.iadd, 1) ∧ decode cL_law 958 = .ok (.iaload, 1) ∧ decode cL_law 959 = .ok (.invokevirtual 158, 3) ∧ decode cL_law 962 = .ok (.istore 6, 2) ∧ decode cL_law 964 = .ok (.aload_n 2, 1) ∧ decode cL_law 965 = .ok (.invokevirtual 120, 3) ∧ decode cL_law 968 = .ok (.iload 5, 2) ∧ decode cL_law 970 = .ok (.if_icmp .eq 5, 3) ∧ decode cL_law 973 = .ok (.iconst 0, 1) ∧ decode cL_law 974 = .ok (.ireturn, 1) := by decide +kernel
theorem dL_law_957 : decode cL_law 957 = .ok (.iadd, 1) := DL_law_56.1
theorem dL_law_958 : decode cL_law 958 = .ok (.iaload, 1) := DL_law_56.2.1
theorem dL_law_959 : decode cL_law 959 = .ok (.invokevirtual 158, 3) := DL_law_56.2.2.1
theorem dL_law_962 : decode cL_law 962 = .ok (.istore 6, 2) := DL_law_56.2.2.2.1
theorem dL_law_964 : decode cL_law 964 = .ok (.aload_n 2, 1) := DL_law_56.2.2.2.2.1
theorem dL_law_965 : decode cL_law 965 = .ok (.invokevirtual 120, 3) := DL_law_56.2.2.2.2.2.1
theorem dL_law_968 : decode cL_law 968 = .ok (.iload 5, 2) := DL_law_56.2.2.2.2.2.2.1
theorem dL_law_970 : decode cL_law 970 = .ok (.if_icmp .eq 5, 3) := DL_law_56.2.2.2.2.2.2.2.1
theorem dL_law_973 : decode cL_law 973 = .ok (.iconst 0, 1) := DL_law_56.2.2.2.2.2.2.2.2.1
theorem dL_law_974 : decode cL_law 974 = .ok (.ireturn, 1) := DL_law_56.2.2.2.2.2.2.2.2.2
set_option maxRecDepth 100000 in
theorem DL_law_57 : decode cL_law 975 = .ok (.iload 5, 2) ∧ decode cL_law 977 = .ok (.ifCond .ne 15, 3) ∧ decode cL_law 980 = .ok (.aload_n 3, 1) ∧ decode cL_law 981 = .ok (.iconst 0, 1) ∧ decode cL_law 982 = .ok (.laload, 1) ∧ decode cL_law 983 = .ok (.iload 6, 2) ∧ decode cL_law 985 = .ok (.i2l, 1) ∧ decode cL_law 986 = .ok (.lcmp, 1) ∧ decode cL_law 987 = .ok (.ifCond .eq 5, 3) ∧ decode cL_law 990 = .ok (.iconst 0, 1) := by decide +kernel
theorem dL_law_975 : decode cL_law 975 = .ok (.iload 5, 2) := DL_law_57.1
theorem dL_law_977 : decode cL_law 977 = .ok (.ifCond .ne 15, 3) := DL_law_57.2.1
theorem dL_law_980 : decode cL_law 980 = .ok (.aload_n 3, 1) := DL_law_57.2.2.1
theorem dL_law_981 : decode cL_law 981 = .ok (.iconst 0, 1) := DL_law_57.2.2.2.1
theorem dL_law_982 : decode cL_law 982 = .ok (.laload, 1) := DL_law_57.2.2.2.2.1
theorem dL_law_983 : decode cL_law 983 = .ok (.iload 6, 2) := DL_law_57.2.2.2.2.2.1
theorem dL_law_985 : decode cL_law 985 = .ok (.i2l, 1) := DL_law_57.2.2.2.2.2.2.1
theorem dL_law_986 : decode cL_law 986 = .ok (.lcmp, 1) := DL_law_57.2.2.2.2.2.2.2.1
theorem dL_law_987 : decode cL_law 987 = .ok (.ifCond .eq 5, 3) := DL_law_57.2.2.2.2.2.2.2.2.1
theorem dL_law_990 : decode cL_law 990 = .ok (.iconst 0, 1) := DL_law_57.2.2.2.2.2.2.2.2.2
set_option maxRecDepth 100000 in
theorem DL_law_58 : decode cL_law 991 = .ok (.ireturn, 1) ∧ decode cL_law 992 = .ok (.goto 1284, 3) ∧ decode cL_law 995 = .ok (.aload_n 1, 1) ∧ decode cL_law 996 = .ok (.aload_n 0, 1) ∧ decode cL_law 997 = .ok (.iload 4, 2) ∧ decode cL_law 999 = .ok (.iconst 1, 1) ∧ decode cL_law 1000 = .ok (.iadd, 1) ∧ decode cL_law 1001 = .ok (.iaload, 1) ∧ decode cL_law 1002 = .ok (.aload_n 0, 1) ∧ decode cL_law 1003 = .ok (.iload 4, 2) := by decide +kernel
theorem dL_law_991 : decode cL_law 991 = .ok (.ireturn, 1) := DL_law_58.1
theorem dL_law_992 : decode cL_law 992 = .ok (.goto 1284, 3) := DL_law_58.2.1
theorem dL_law_995 : decode cL_law 995 = .ok (.aload_n 1, 1) := DL_law_58.2.2.1
theorem dL_law_996 : decode cL_law 996 = .ok (.aload_n 0, 1) := DL_law_58.2.2.2.1
theorem dL_law_997 : decode cL_law 997 = .ok (.iload 4, 2) := DL_law_58.2.2.2.2.1
theorem dL_law_999 : decode cL_law 999 = .ok (.iconst 1, 1) := DL_law_58.2.2.2.2.2.1
theorem dL_law_1000 : decode cL_law 1000 = .ok (.iadd, 1) := DL_law_58.2.2.2.2.2.2.1
theorem dL_law_1001 : decode cL_law 1001 = .ok (.iaload, 1) := DL_law_58.2.2.2.2.2.2.2.1
theorem dL_law_1002 : decode cL_law 1002 = .ok (.aload_n 0, 1) := DL_law_58.2.2.2.2.2.2.2.2.1
theorem dL_law_1003 : decode cL_law 1003 = .ok (.iload 4, 2) := DL_law_58.2.2.2.2.2.2.2.2.2
set_option maxRecDepth 100000 in
theorem DL_law_59 : decode cL_law 1005 = .ok (.iconst 2, 1) ∧ decode cL_law 1006 = .ok (.iadd, 1) ∧ decode cL_law 1007 = .ok (.iaload, 1) ∧ decode cL_law 1008 = .ok (.aload_n 3, 1) ∧ decode cL_law 1009 = .ok (.invokestatic 159, 3) ∧ decode cL_law 1012 = .ok (.istore 5, 2) ∧ decode cL_law 1014 = .ok (.aload_n 2, 1) ∧ decode cL_law 1015 = .ok (.aload_n 0, 1) ∧ decode cL_law 1016 = .ok (.iload 4, 2) ∧ decode cL_law 1018 = .ok (.iconst 1, 1) := by decide +kernel
theorem dL_law_1005 : decode cL_law 1005 = .ok (.iconst 2, 1) := DL_law_59.1
theorem dL_law_1006 : decode cL_law 1006 = .ok (.iadd, 1) := DL_law_59.2.1
theorem dL_law_1007 : decode cL_law 1007 = .ok (.iaload, 1) := DL_law_59.2.2.1
theorem dL_law_1008 : decode cL_law 1008 = .ok (.aload_n 3, 1) := DL_law_59.2.2.2.1
theorem dL_law_1009 : decode cL_law 1009 = .ok (.invokestatic 159, 3) := DL_law_59.2.2.2.2.1
theorem dL_law_1012 : decode cL_law 1012 = .ok (.istore 5, 2) := DL_law_59.2.2.2.2.2.1
theorem dL_law_1014 : decode cL_law 1014 = .ok (.aload_n 2, 1) := DL_law_59.2.2.2.2.2.2.1
theorem dL_law_1015 : decode cL_law 1015 = .ok (.aload_n 0, 1) := DL_law_59.2.2.2.2.2.2.2.1
theorem dL_law_1016 : decode cL_law 1016 = .ok (.iload 4, 2) := DL_law_59.2.2.2.2.2.2.2.2.1
theorem dL_law_1018 : decode cL_law 1018 = .ok (.iconst 1, 1) := DL_law_59.2.2.2.2.2.2.2.2.2
set_option maxRecDepth 100000 in
theorem DL_law_60 : decode cL_law 1019 = .ok (.iadd, 1) ∧ decode cL_law 1020 = .ok (.iaload, 1) ∧ decode cL_law 1021 = .ok (.aload_n 0, 1) ∧ decode cL_law 1022 = .ok (.iload 4, 2) ∧ decode cL_law 1024 = .ok (.iconst 2, 1) ∧ decode cL_law 1025 = .ok (.iadd, 1) ∧ decode cL_law 1026 = .ok (.iaload, 1) ∧ decode cL_law 1027 = .ok (.invokevirtual 161, 3) ∧ decode cL_law 1030 = .ok (.istore 6, 2) ∧ decode cL_law 1032 = .ok (.aload_n 2, 1) := by decide +kernel
theorem dL_law_1019 : decode cL_law 1019 = .ok (.iadd, 1) := DL_law_60.1
theorem dL_law_1020 : decode cL_law 1020 = .ok (.iaload, 1) := DL_law_60.2.1
theorem dL_law_1021 : decode cL_law 1021 = .ok (.aload_n 0, 1) := DL_law_60.2.2.1
theorem dL_law_1022 : decode cL_law 1022 = .ok (.iload 4, 2) := DL_law_60.2.2.2.1
theorem dL_law_1024 : decode cL_law 1024 = .ok (.iconst 2, 1) := DL_law_60.2.2.2.2.1
theorem dL_law_1025 : decode cL_law 1025 = .ok (.iadd, 1) := DL_law_60.2.2.2.2.2.1
theorem dL_law_1026 : decode cL_law 1026 = .ok (.iaload, 1) := DL_law_60.2.2.2.2.2.2.1
theorem dL_law_1027 : decode cL_law 1027 = .ok (.invokevirtual 161, 3) := DL_law_60.2.2.2.2.2.2.2.1
theorem dL_law_1030 : decode cL_law 1030 = .ok (.istore 6, 2) := DL_law_60.2.2.2.2.2.2.2.2.1
theorem dL_law_1032 : decode cL_law 1032 = .ok (.aload_n 2, 1) := DL_law_60.2.2.2.2.2.2.2.2.2
set_option maxRecDepth 100000 in
theorem DL_law_61 : decode cL_law 1033 = .ok (.invokevirtual 120, 3) ∧ decode cL_law 1036 = .ok (.iload 5, 2) ∧ decode cL_law 1038 = .ok (.if_icmp .eq 5, 3) ∧ decode cL_law 1041 = .ok (.iconst 0, 1) ∧ decode cL_law 1042 = .ok (.ireturn, 1) ∧ decode cL_law 1043 = .ok (.iload 5, 2) ∧ decode cL_law 1045 = .ok (.ifCond .ne 15, 3) ∧ decode cL_law 1048 = .ok (.aload_n 3, 1) ∧ decode cL_law 1049 = .ok (.iconst 0, 1) ∧ decode cL_law 1050 = .ok (.laload, 1) := by decide +kernel
theorem dL_law_1033 : decode cL_law 1033 = .ok (.invokevirtual 120, 3) := DL_law_61.1
theorem dL_law_1036 : decode cL_law 1036 = .ok (.iload 5, 2) := DL_law_61.2.1
theorem dL_law_1038 : decode cL_law 1038 = .ok (.if_icmp .eq 5, 3) := DL_law_61.2.2.1
theorem dL_law_1041 : decode cL_law 1041 = .ok (.iconst 0, 1) := DL_law_61.2.2.2.1
theorem dL_law_1042 : decode cL_law 1042 = .ok (.ireturn, 1) := DL_law_61.2.2.2.2.1
theorem dL_law_1043 : decode cL_law 1043 = .ok (.iload 5, 2) := DL_law_61.2.2.2.2.2.1
theorem dL_law_1045 : decode cL_law 1045 = .ok (.ifCond .ne 15, 3) := DL_law_61.2.2.2.2.2.2.1
theorem dL_law_1048 : decode cL_law 1048 = .ok (.aload_n 3, 1) := DL_law_61.2.2.2.2.2.2.2.1
theorem dL_law_1049 : decode cL_law 1049 = .ok (.iconst 0, 1) := DL_law_61.2.2.2.2.2.2.2.2.1
theorem dL_law_1050 : decode cL_law 1050 = .ok (.laload, 1) := DL_law_61.2.2.2.2.2.2.2.2.2
set_option maxRecDepth 100000 in
theorem DL_law_62 : decode cL_law 1051 = .ok (.iload 6, 2) ∧ decode cL_law 1053 = .ok (.i2l, 1) ∧ decode cL_law 1054 = .ok (.lcmp, 1) ∧ decode cL_law 1055 = .ok (.ifCond .eq 5, 3) ∧ decode cL_law 1058 = .ok (.iconst 0, 1) ∧ decode cL_law 1059 = .ok (.ireturn, 1) ∧ decode cL_law 1060 = .ok (.goto 1216, 3) ∧ decode cL_law 1063 = .ok (.aload_n 1, 1) ∧ decode cL_law 1064 = .ok (.aload_n 0, 1) ∧ decode cL_law 1065 = .ok (.iload 4, 2) := by decide +kernel
theorem dL_law_1051 : decode cL_law 1051 = .ok (.iload 6, 2) := DL_law_62.1
theorem dL_law_1053 : decode cL_law 1053 = .ok (.i2l, 1) := DL_law_62.2.1
theorem dL_law_1054 : decode cL_law 1054 = .ok (.lcmp, 1) := DL_law_62.2.2.1
theorem dL_law_1055 : decode cL_law 1055 = .ok (.ifCond .eq 5, 3) := DL_law_62.2.2.2.1
theorem dL_law_1058 : decode cL_law 1058 = .ok (.iconst 0, 1) := DL_law_62.2.2.2.2.1
theorem dL_law_1059 : decode cL_law 1059 = .ok (.ireturn, 1) := DL_law_62.2.2.2.2.2.1
theorem dL_law_1060 : decode cL_law 1060 = .ok (.goto 1216, 3) := DL_law_62.2.2.2.2.2.2.1
theorem dL_law_1063 : decode cL_law 1063 = .ok (.aload_n 1, 1) := DL_law_62.2.2.2.2.2.2.2.1
theorem dL_law_1064 : decode cL_law 1064 = .ok (.aload_n 0, 1) := DL_law_62.2.2.2.2.2.2.2.2.1
theorem dL_law_1065 : decode cL_law 1065 = .ok (.iload 4, 2) := DL_law_62.2.2.2.2.2.2.2.2.2
set_option maxRecDepth 100000 in
theorem DL_law_63 : decode cL_law 1067 = .ok (.iconst 1, 1) ∧ decode cL_law 1068 = .ok (.iadd, 1) ∧ decode cL_law 1069 = .ok (.iaload, 1) ∧ decode cL_law 1070 = .ok (.aload_n 0, 1) ∧ decode cL_law 1071 = .ok (.iload 4, 2) ∧ decode cL_law 1073 = .ok (.iconst 2, 1) ∧ decode cL_law 1074 = .ok (.iadd, 1) ∧ decode cL_law 1075 = .ok (.iaload, 1) ∧ decode cL_law 1076 = .ok (.aload_n 0, 1) ∧ decode cL_law 1077 = .ok (.iload 4, 2) := by decide +kernel
theorem dL_law_1067 : decode cL_law 1067 = .ok (.iconst 1, 1) := DL_law_63.1
theorem dL_law_1068 : decode cL_law 1068 = .ok (.iadd, 1) := DL_law_63.2.1
theorem dL_law_1069 : decode cL_law 1069 = .ok (.iaload, 1) := DL_law_63.2.2.1
theorem dL_law_1070 : decode cL_law 1070 = .ok (.aload_n 0, 1) := DL_law_63.2.2.2.1
theorem dL_law_1071 : decode cL_law 1071 = .ok (.iload 4, 2) := DL_law_63.2.2.2.2.1
theorem dL_law_1073 : decode cL_law 1073 = .ok (.iconst 2, 1) := DL_law_63.2.2.2.2.2.1
theorem dL_law_1074 : decode cL_law 1074 = .ok (.iadd, 1) := DL_law_63.2.2.2.2.2.2.1
theorem dL_law_1075 : decode cL_law 1075 = .ok (.iaload, 1) := DL_law_63.2.2.2.2.2.2.2.1
theorem dL_law_1076 : decode cL_law 1076 = .ok (.aload_n 0, 1) := DL_law_63.2.2.2.2.2.2.2.2.1
theorem dL_law_1077 : decode cL_law 1077 = .ok (.iload 4, 2) := DL_law_63.2.2.2.2.2.2.2.2.2
set_option maxRecDepth 100000 in
theorem DL_law_64 : decode cL_law 1079 = .ok (.iconst 3, 1) ∧ decode cL_law 1080 = .ok (.iadd, 1) ∧ decode cL_law 1081 = .ok (.iaload, 1) ∧ decode cL_law 1082 = .ok (.aload_n 0, 1) ∧ decode cL_law 1083 = .ok (.iload 4, 2) ∧ decode cL_law 1085 = .ok (.iconst 4, 1) ∧ decode cL_law 1086 = .ok (.iadd, 1) ∧ decode cL_law 1087 = .ok (.iaload, 1) ∧ decode cL_law 1088 = .ok (.ifCond .eq 7, 3) ∧ decode cL_law 1091 = .ok (.iconst 1, 1) := by decide +kernel
theorem dL_law_1079 : decode cL_law 1079 = .ok (.iconst 3, 1) := DL_law_64.1
theorem dL_law_1080 : decode cL_law 1080 = .ok (.iadd, 1) := DL_law_64.2.1
theorem dL_law_1081 : decode cL_law 1081 = .ok (.iaload, 1) := DL_law_64.2.2.1
theorem dL_law_1082 : decode cL_law 1082 = .ok (.aload_n 0, 1) := DL_law_64.2.2.2.1
theorem dL_law_1083 : decode cL_law 1083 = .ok (.iload 4, 2) := DL_law_64.2.2.2.2.1
theorem dL_law_1085 : decode cL_law 1085 = .ok (.iconst 4, 1) := DL_law_64.2.2.2.2.2.1
theorem dL_law_1086 : decode cL_law 1086 = .ok (.iadd, 1) := DL_law_64.2.2.2.2.2.2.1
theorem dL_law_1087 : decode cL_law 1087 = .ok (.iaload, 1) := DL_law_64.2.2.2.2.2.2.2.1
theorem dL_law_1088 : decode cL_law 1088 = .ok (.ifCond .eq 7, 3) := DL_law_64.2.2.2.2.2.2.2.2.1
theorem dL_law_1091 : decode cL_law 1091 = .ok (.iconst 1, 1) := DL_law_64.2.2.2.2.2.2.2.2.2
set_option maxRecDepth 100000 in
theorem DL_law_65 : decode cL_law 1092 = .ok (.goto 4, 3) ∧ decode cL_law 1095 = .ok (.iconst 0, 1) ∧ decode cL_law 1096 = .ok (.aload_n 0, 1) ∧ decode cL_law 1097 = .ok (.iload 4, 2) ∧ decode cL_law 1099 = .ok (.iconst 5, 1) ∧ decode cL_law 1100 = .ok (.iadd, 1) ∧ decode cL_law 1101 = .ok (.iaload, 1) ∧ decode cL_law 1102 = .ok (.ifCond .eq 7, 3) ∧ decode cL_law 1105 = .ok (.iconst 1, 1) ∧ decode cL_law 1106 = .ok (.goto 4, 3) := by decide +kernel
theorem dL_law_1092 : decode cL_law 1092 = .ok (.goto 4, 3) := DL_law_65.1
theorem dL_law_1095 : decode cL_law 1095 = .ok (.iconst 0, 1) := DL_law_65.2.1
theorem dL_law_1096 : decode cL_law 1096 = .ok (.aload_n 0, 1) := DL_law_65.2.2.1
theorem dL_law_1097 : decode cL_law 1097 = .ok (.iload 4, 2) := DL_law_65.2.2.2.1
theorem dL_law_1099 : decode cL_law 1099 = .ok (.iconst 5, 1) := DL_law_65.2.2.2.2.1
theorem dL_law_1100 : decode cL_law 1100 = .ok (.iadd, 1) := DL_law_65.2.2.2.2.2.1
theorem dL_law_1101 : decode cL_law 1101 = .ok (.iaload, 1) := DL_law_65.2.2.2.2.2.2.1
theorem dL_law_1102 : decode cL_law 1102 = .ok (.ifCond .eq 7, 3) := DL_law_65.2.2.2.2.2.2.2.1
theorem dL_law_1105 : decode cL_law 1105 = .ok (.iconst 1, 1) := DL_law_65.2.2.2.2.2.2.2.2.1
theorem dL_law_1106 : decode cL_law 1106 = .ok (.goto 4, 3) := DL_law_65.2.2.2.2.2.2.2.2.2
set_option maxRecDepth 100000 in
theorem DL_law_66 : decode cL_law 1109 = .ok (.iconst 0, 1) ∧ decode cL_law 1110 = .ok (.aload_n 3, 1) ∧ decode cL_law 1111 = .ok (.invokestatic 162, 3) ∧ decode cL_law 1114 = .ok (.istore 5, 2) ∧ decode cL_law 1116 = .ok (.aload_n 2, 1) ∧ decode cL_law 1117 = .ok (.aload_n 0, 1) ∧ decode cL_law 1118 = .ok (.iload 4, 2) ∧ decode cL_law 1120 = .ok (.iconst 1, 1) ∧ decode cL_law 1121 = .ok (.iadd, 1) ∧ decode cL_law 1122 = .ok (.iaload, 1) := by decide +kernel
theorem dL_law_1109 : decode cL_law 1109 = .ok (.iconst 0, 1) := DL_law_66.1
theorem dL_law_1110 : decode cL_law 1110 = .ok (.aload_n 3, 1) := DL_law_66.2.1
theorem dL_law_1111 : decode cL_law 1111 = .ok (.invokestatic 162, 3) := DL_law_66.2.2.1
theorem dL_law_1114 : decode cL_law 1114 = .ok (.istore 5, 2) := DL_law_66.2.2.2.1
theorem dL_law_1116 : decode cL_law 1116 = .ok (.aload_n 2, 1) := DL_law_66.2.2.2.2.1
theorem dL_law_1117 : decode cL_law 1117 = .ok (.aload_n 0, 1) := DL_law_66.2.2.2.2.2.1
theorem dL_law_1118 : decode cL_law 1118 = .ok (.iload 4, 2) := DL_law_66.2.2.2.2.2.2.1
theorem dL_law_1120 : decode cL_law 1120 = .ok (.iconst 1, 1) := DL_law_66.2.2.2.2.2.2.2.1
theorem dL_law_1121 : decode cL_law 1121 = .ok (.iadd, 1) := DL_law_66.2.2.2.2.2.2.2.2.1
theorem dL_law_1122 : decode cL_law 1122 = .ok (.iaload, 1) := DL_law_66.2.2.2.2.2.2.2.2.2
set_option maxRecDepth 100000 in
theorem DL_law_67 : decode cL_law 1123 = .ok (.aload_n 0, 1) ∧ decode cL_law 1124 = .ok (.iload 4, 2) ∧ decode cL_law 1126 = .ok (.iconst 2, 1) ∧ decode cL_law 1127 = .ok (.iadd, 1) ∧ decode cL_law 1128 = .ok (.iaload, 1) ∧ decode cL_law 1129 = .ok (.aload_n 0, 1) ∧ decode cL_law 1130 = .ok (.iload 4, 2) ∧ decode cL_law 1132 = .ok (.iconst 3, 1) ∧ decode cL_law 1133 = .ok (.iadd, 1) ∧ decode cL_law 1134 = .ok (.iaload, 1) := by decide +kernel
theorem dL_law_1123 : decode cL_law 1123 = .ok (.aload_n 0, 1) := DL_law_67.1
theorem dL_law_1124 : decode cL_law 1124 = .ok (.iload 4, 2) := DL_law_67.2.1
theorem dL_law_1126 : decode cL_law 1126 = .ok (.iconst 2, 1) := DL_law_67.2.2.1
theorem dL_law_1127 : decode cL_law 1127 = .ok (.iadd, 1) := DL_law_67.2.2.2.1
theorem dL_law_1128 : decode cL_law 1128 = .ok (.iaload, 1) := DL_law_67.2.2.2.2.1
theorem dL_law_1129 : decode cL_law 1129 = .ok (.aload_n 0, 1) := DL_law_67.2.2.2.2.2.1
theorem dL_law_1130 : decode cL_law 1130 = .ok (.iload 4, 2) := DL_law_67.2.2.2.2.2.2.1
theorem dL_law_1132 : decode cL_law 1132 = .ok (.iconst 3, 1) := DL_law_67.2.2.2.2.2.2.2.1
theorem dL_law_1133 : decode cL_law 1133 = .ok (.iadd, 1) := DL_law_67.2.2.2.2.2.2.2.2.1
theorem dL_law_1134 : decode cL_law 1134 = .ok (.iaload, 1) := DL_law_67.2.2.2.2.2.2.2.2.2
set_option maxRecDepth 100000 in
theorem DL_law_68 : decode cL_law 1135 = .ok (.aload_n 0, 1) ∧ decode cL_law 1136 = .ok (.iload 4, 2) ∧ decode cL_law 1138 = .ok (.iconst 4, 1) ∧ decode cL_law 1139 = .ok (.iadd, 1) ∧ decode cL_law 1140 = .ok (.iaload, 1) ∧ decode cL_law 1141 = .ok (.ifCond .eq 7, 3) ∧ decode cL_law 1144 = .ok (.iconst 1, 1) ∧ decode cL_law 1145 = .ok (.goto 4, 3) ∧ decode cL_law 1148 = .ok (.iconst 0, 1) ∧ decode cL_law 1149 = .ok (.aload_n 0, 1) := by decide +kernel
theorem dL_law_1135 : decode cL_law 1135 = .ok (.aload_n 0, 1) := DL_law_68.1
theorem dL_law_1136 : decode cL_law 1136 = .ok (.iload 4, 2) := DL_law_68.2.1
theorem dL_law_1138 : decode cL_law 1138 = .ok (.iconst 4, 1) := DL_law_68.2.2.1
theorem dL_law_1139 : decode cL_law 1139 = .ok (.iadd, 1) := DL_law_68.2.2.2.1
theorem dL_law_1140 : decode cL_law 1140 = .ok (.iaload, 1) := DL_law_68.2.2.2.2.1
theorem dL_law_1141 : decode cL_law 1141 = .ok (.ifCond .eq 7, 3) := DL_law_68.2.2.2.2.2.1
theorem dL_law_1144 : decode cL_law 1144 = .ok (.iconst 1, 1) := DL_law_68.2.2.2.2.2.2.1
theorem dL_law_1145 : decode cL_law 1145 = .ok (.goto 4, 3) := DL_law_68.2.2.2.2.2.2.2.1
theorem dL_law_1148 : decode cL_law 1148 = .ok (.iconst 0, 1) := DL_law_68.2.2.2.2.2.2.2.2.1
theorem dL_law_1149 : decode cL_law 1149 = .ok (.aload_n 0, 1) := DL_law_68.2.2.2.2.2.2.2.2.2
set_option maxRecDepth 100000 in
theorem DL_law_69 : decode cL_law 1150 = .ok (.iload 4, 2) ∧ decode cL_law 1152 = .ok (.iconst 5, 1) ∧ decode cL_law 1153 = .ok (.iadd, 1) ∧ decode cL_law 1154 = .ok (.iaload, 1) ∧ decode cL_law 1155 = .ok (.ifCond .eq 7, 3) ∧ decode cL_law 1158 = .ok (.iconst 1, 1) ∧ decode cL_law 1159 = .ok (.goto 4, 3) ∧ decode cL_law 1162 = .ok (.iconst 0, 1) ∧ decode cL_law 1163 = .ok (.invokevirtual 165, 3) ∧ decode cL_law 1166 = .ok (.istore 6, 2) := by decide +kernel
theorem dL_law_1150 : decode cL_law 1150 = .ok (.iload 4, 2) := DL_law_69.1
theorem dL_law_1152 : decode cL_law 1152 = .ok (.iconst 5, 1) := DL_law_69.2.1
theorem dL_law_1153 : decode cL_law 1153 = .ok (.iadd, 1) := DL_law_69.2.2.1
theorem dL_law_1154 : decode cL_law 1154 = .ok (.iaload, 1) := DL_law_69.2.2.2.1
theorem dL_law_1155 : decode cL_law 1155 = .ok (.ifCond .eq 7, 3) := DL_law_69.2.2.2.2.1
theorem dL_law_1158 : decode cL_law 1158 = .ok (.iconst 1, 1) := DL_law_69.2.2.2.2.2.1
theorem dL_law_1159 : decode cL_law 1159 = .ok (.goto 4, 3) := DL_law_69.2.2.2.2.2.2.1
theorem dL_law_1162 : decode cL_law 1162 = .ok (.iconst 0, 1) := DL_law_69.2.2.2.2.2.2.2.1
theorem dL_law_1163 : decode cL_law 1163 = .ok (.invokevirtual 165, 3) := DL_law_69.2.2.2.2.2.2.2.2.1
theorem dL_law_1166 : decode cL_law 1166 = .ok (.istore 6, 2) := DL_law_69.2.2.2.2.2.2.2.2.2
set_option maxRecDepth 100000 in
theorem DL_law_70 : decode cL_law 1168 = .ok (.aload_n 2, 1) ∧ decode cL_law 1169 = .ok (.invokevirtual 120, 3) ∧ decode cL_law 1172 = .ok (.iload 5, 2) ∧ decode cL_law 1174 = .ok (.if_icmp .eq 5, 3) ∧ decode cL_law 1177 = .ok (.iconst 0, 1) ∧ decode cL_law 1178 = .ok (.ireturn, 1) ∧ decode cL_law 1179 = .ok (.iload 5, 2) ∧ decode cL_law 1181 = .ok (.ifCond .ne 15, 3) ∧ decode cL_law 1184 = .ok (.aload_n 3, 1) ∧ decode cL_law 1185 = .ok (.iconst 0, 1) := by decide +kernel
theorem dL_law_1168 : decode cL_law 1168 = .ok (.aload_n 2, 1) := DL_law_70.1
theorem dL_law_1169 : decode cL_law 1169 = .ok (.invokevirtual 120, 3) := DL_law_70.2.1
theorem dL_law_1172 : decode cL_law 1172 = .ok (.iload 5, 2) := DL_law_70.2.2.1
theorem dL_law_1174 : decode cL_law 1174 = .ok (.if_icmp .eq 5, 3) := DL_law_70.2.2.2.1
theorem dL_law_1177 : decode cL_law 1177 = .ok (.iconst 0, 1) := DL_law_70.2.2.2.2.1
theorem dL_law_1178 : decode cL_law 1178 = .ok (.ireturn, 1) := DL_law_70.2.2.2.2.2.1
theorem dL_law_1179 : decode cL_law 1179 = .ok (.iload 5, 2) := DL_law_70.2.2.2.2.2.2.1
theorem dL_law_1181 : decode cL_law 1181 = .ok (.ifCond .ne 15, 3) := DL_law_70.2.2.2.2.2.2.2.1
theorem dL_law_1184 : decode cL_law 1184 = .ok (.aload_n 3, 1) := DL_law_70.2.2.2.2.2.2.2.2.1
theorem dL_law_1185 : decode cL_law 1185 = .ok (.iconst 0, 1) := DL_law_70.2.2.2.2.2.2.2.2.2
set_option maxRecDepth 100000 in
theorem DL_law_71 : decode cL_law 1186 = .ok (.laload, 1) ∧ decode cL_law 1187 = .ok (.iload 6, 2) ∧ decode cL_law 1189 = .ok (.i2l, 1) ∧ decode cL_law 1190 = .ok (.lcmp, 1) ∧ decode cL_law 1191 = .ok (.ifCond .eq 5, 3) ∧ decode cL_law 1194 = .ok (.iconst 0, 1) ∧ decode cL_law 1195 = .ok (.ireturn, 1) ∧ decode cL_law 1196 = .ok (.goto 1080, 3) ∧ decode cL_law 1199 = .ok (.aload_n 1, 1) ∧ decode cL_law 1200 = .ok (.aload_n 0, 1) := by decide +kernel
theorem dL_law_1186 : decode cL_law 1186 = .ok (.laload, 1) := DL_law_71.1
theorem dL_law_1187 : decode cL_law 1187 = .ok (.iload 6, 2) := DL_law_71.2.1
theorem dL_law_1189 : decode cL_law 1189 = .ok (.i2l, 1) := DL_law_71.2.2.1
theorem dL_law_1190 : decode cL_law 1190 = .ok (.lcmp, 1) := DL_law_71.2.2.2.1
theorem dL_law_1191 : decode cL_law 1191 = .ok (.ifCond .eq 5, 3) := DL_law_71.2.2.2.2.1
theorem dL_law_1194 : decode cL_law 1194 = .ok (.iconst 0, 1) := DL_law_71.2.2.2.2.2.1
theorem dL_law_1195 : decode cL_law 1195 = .ok (.ireturn, 1) := DL_law_71.2.2.2.2.2.2.1
theorem dL_law_1196 : decode cL_law 1196 = .ok (.goto 1080, 3) := DL_law_71.2.2.2.2.2.2.2.1
theorem dL_law_1199 : decode cL_law 1199 = .ok (.aload_n 1, 1) := DL_law_71.2.2.2.2.2.2.2.2.1
theorem dL_law_1200 : decode cL_law 1200 = .ok (.aload_n 0, 1) := DL_law_71.2.2.2.2.2.2.2.2.2
set_option maxRecDepth 100000 in
theorem DL_law_72 : decode cL_law 1201 = .ok (.iload 4, 2) ∧ decode cL_law 1203 = .ok (.iconst 1, 1) ∧ decode cL_law 1204 = .ok (.iadd, 1) ∧ decode cL_law 1205 = .ok (.iaload, 1) ∧ decode cL_law 1206 = .ok (.aload_n 0, 1) ∧ decode cL_law 1207 = .ok (.iload 4, 2) ∧ decode cL_law 1209 = .ok (.iconst 2, 1) ∧ decode cL_law 1210 = .ok (.iadd, 1) ∧ decode cL_law 1211 = .ok (.iaload, 1) ∧ decode cL_law 1212 = .ok (.aload_n 0, 1) := by decide +kernel
theorem dL_law_1201 : decode cL_law 1201 = .ok (.iload 4, 2) := DL_law_72.1
theorem dL_law_1203 : decode cL_law 1203 = .ok (.iconst 1, 1) := DL_law_72.2.1
theorem dL_law_1204 : decode cL_law 1204 = .ok (.iadd, 1) := DL_law_72.2.2.1
theorem dL_law_1205 : decode cL_law 1205 = .ok (.iaload, 1) := DL_law_72.2.2.2.1
theorem dL_law_1206 : decode cL_law 1206 = .ok (.aload_n 0, 1) := DL_law_72.2.2.2.2.1
theorem dL_law_1207 : decode cL_law 1207 = .ok (.iload 4, 2) := DL_law_72.2.2.2.2.2.1
theorem dL_law_1209 : decode cL_law 1209 = .ok (.iconst 2, 1) := DL_law_72.2.2.2.2.2.2.1
theorem dL_law_1210 : decode cL_law 1210 = .ok (.iadd, 1) := DL_law_72.2.2.2.2.2.2.2.1
theorem dL_law_1211 : decode cL_law 1211 = .ok (.iaload, 1) := DL_law_72.2.2.2.2.2.2.2.2.1
theorem dL_law_1212 : decode cL_law 1212 = .ok (.aload_n 0, 1) := DL_law_72.2.2.2.2.2.2.2.2.2
set_option maxRecDepth 100000 in
theorem DL_law_73 : decode cL_law 1213 = .ok (.iload 4, 2) ∧ decode cL_law 1215 = .ok (.iconst 3, 1) ∧ decode cL_law 1216 = .ok (.iadd, 1) ∧ decode cL_law 1217 = .ok (.iaload, 1) ∧ decode cL_law 1218 = .ok (.aload_n 0, 1) ∧ decode cL_law 1219 = .ok (.iload 4, 2) ∧ decode cL_law 1221 = .ok (.iconst 4, 1) ∧ decode cL_law 1222 = .ok (.iadd, 1) ∧ decode cL_law 1223 = .ok (.iaload, 1) ∧ decode cL_law 1224 = .ok (.ifCond .eq 7, 3) := by decide +kernel
theorem dL_law_1213 : decode cL_law 1213 = .ok (.iload 4, 2) := DL_law_73.1
theorem dL_law_1215 : decode cL_law 1215 = .ok (.iconst 3, 1) := DL_law_73.2.1
theorem dL_law_1216 : decode cL_law 1216 = .ok (.iadd, 1) := DL_law_73.2.2.1
theorem dL_law_1217 : decode cL_law 1217 = .ok (.iaload, 1) := DL_law_73.2.2.2.1
theorem dL_law_1218 : decode cL_law 1218 = .ok (.aload_n 0, 1) := DL_law_73.2.2.2.2.1
theorem dL_law_1219 : decode cL_law 1219 = .ok (.iload 4, 2) := DL_law_73.2.2.2.2.2.1
theorem dL_law_1221 : decode cL_law 1221 = .ok (.iconst 4, 1) := DL_law_73.2.2.2.2.2.2.1
theorem dL_law_1222 : decode cL_law 1222 = .ok (.iadd, 1) := DL_law_73.2.2.2.2.2.2.2.1
theorem dL_law_1223 : decode cL_law 1223 = .ok (.iaload, 1) := DL_law_73.2.2.2.2.2.2.2.2.1
theorem dL_law_1224 : decode cL_law 1224 = .ok (.ifCond .eq 7, 3) := DL_law_73.2.2.2.2.2.2.2.2.2
set_option maxRecDepth 100000 in
theorem DL_law_74 : decode cL_law 1227 = .ok (.iconst 1, 1) ∧ decode cL_law 1228 = .ok (.goto 4, 3) ∧ decode cL_law 1231 = .ok (.iconst 0, 1) ∧ decode cL_law 1232 = .ok (.aload_n 3, 1) ∧ decode cL_law 1233 = .ok (.invokestatic 166, 3) ∧ decode cL_law 1236 = .ok (.istore 5, 2) ∧ decode cL_law 1238 = .ok (.aload_n 2, 1) ∧ decode cL_law 1239 = .ok (.aload_n 0, 1) ∧ decode cL_law 1240 = .ok (.iload 4, 2) ∧ decode cL_law 1242 = .ok (.iconst 1, 1) := by decide +kernel
theorem dL_law_1227 : decode cL_law 1227 = .ok (.iconst 1, 1) := DL_law_74.1
theorem dL_law_1228 : decode cL_law 1228 = .ok (.goto 4, 3) := DL_law_74.2.1
theorem dL_law_1231 : decode cL_law 1231 = .ok (.iconst 0, 1) := DL_law_74.2.2.1
theorem dL_law_1232 : decode cL_law 1232 = .ok (.aload_n 3, 1) := DL_law_74.2.2.2.1
theorem dL_law_1233 : decode cL_law 1233 = .ok (.invokestatic 166, 3) := DL_law_74.2.2.2.2.1
theorem dL_law_1236 : decode cL_law 1236 = .ok (.istore 5, 2) := DL_law_74.2.2.2.2.2.1
theorem dL_law_1238 : decode cL_law 1238 = .ok (.aload_n 2, 1) := DL_law_74.2.2.2.2.2.2.1
theorem dL_law_1239 : decode cL_law 1239 = .ok (.aload_n 0, 1) := DL_law_74.2.2.2.2.2.2.2.1
theorem dL_law_1240 : decode cL_law 1240 = .ok (.iload 4, 2) := DL_law_74.2.2.2.2.2.2.2.2.1
theorem dL_law_1242 : decode cL_law 1242 = .ok (.iconst 1, 1) := DL_law_74.2.2.2.2.2.2.2.2.2
set_option maxRecDepth 100000 in
theorem DL_law_75 : decode cL_law 1243 = .ok (.iadd, 1) ∧ decode cL_law 1244 = .ok (.iaload, 1) ∧ decode cL_law 1245 = .ok (.aload_n 0, 1) ∧ decode cL_law 1246 = .ok (.iload 4, 2) ∧ decode cL_law 1248 = .ok (.iconst 2, 1) ∧ decode cL_law 1249 = .ok (.iadd, 1) ∧ decode cL_law 1250 = .ok (.iaload, 1) ∧ decode cL_law 1251 = .ok (.aload_n 0, 1) ∧ decode cL_law 1252 = .ok (.iload 4, 2) ∧ decode cL_law 1254 = .ok (.iconst 3, 1) := by decide +kernel
theorem dL_law_1243 : decode cL_law 1243 = .ok (.iadd, 1) := DL_law_75.1
theorem dL_law_1244 : decode cL_law 1244 = .ok (.iaload, 1) := DL_law_75.2.1
theorem dL_law_1245 : decode cL_law 1245 = .ok (.aload_n 0, 1) := DL_law_75.2.2.1
theorem dL_law_1246 : decode cL_law 1246 = .ok (.iload 4, 2) := DL_law_75.2.2.2.1
theorem dL_law_1248 : decode cL_law 1248 = .ok (.iconst 2, 1) := DL_law_75.2.2.2.2.1
theorem dL_law_1249 : decode cL_law 1249 = .ok (.iadd, 1) := DL_law_75.2.2.2.2.2.1
theorem dL_law_1250 : decode cL_law 1250 = .ok (.iaload, 1) := DL_law_75.2.2.2.2.2.2.1
theorem dL_law_1251 : decode cL_law 1251 = .ok (.aload_n 0, 1) := DL_law_75.2.2.2.2.2.2.2.1
theorem dL_law_1252 : decode cL_law 1252 = .ok (.iload 4, 2) := DL_law_75.2.2.2.2.2.2.2.2.1
theorem dL_law_1254 : decode cL_law 1254 = .ok (.iconst 3, 1) := DL_law_75.2.2.2.2.2.2.2.2.2
set_option maxRecDepth 100000 in
theorem DL_law_76 : decode cL_law 1255 = .ok (.iadd, 1) ∧ decode cL_law 1256 = .ok (.iaload, 1) ∧ decode cL_law 1257 = .ok (.aload_n 0, 1) ∧ decode cL_law 1258 = .ok (.iload 4, 2) ∧ decode cL_law 1260 = .ok (.iconst 4, 1) ∧ decode cL_law 1261 = .ok (.iadd, 1) ∧ decode cL_law 1262 = .ok (.iaload, 1) ∧ decode cL_law 1263 = .ok (.ifCond .eq 7, 3) ∧ decode cL_law 1266 = .ok (.iconst 1, 1) ∧ decode cL_law 1267 = .ok (.goto 4, 3) := by decide +kernel
theorem dL_law_1255 : decode cL_law 1255 = .ok (.iadd, 1) := DL_law_76.1
theorem dL_law_1256 : decode cL_law 1256 = .ok (.iaload, 1) := DL_law_76.2.1
theorem dL_law_1257 : decode cL_law 1257 = .ok (.aload_n 0, 1) := DL_law_76.2.2.1
theorem dL_law_1258 : decode cL_law 1258 = .ok (.iload 4, 2) := DL_law_76.2.2.2.1
theorem dL_law_1260 : decode cL_law 1260 = .ok (.iconst 4, 1) := DL_law_76.2.2.2.2.1
theorem dL_law_1261 : decode cL_law 1261 = .ok (.iadd, 1) := DL_law_76.2.2.2.2.2.1
theorem dL_law_1262 : decode cL_law 1262 = .ok (.iaload, 1) := DL_law_76.2.2.2.2.2.2.1
theorem dL_law_1263 : decode cL_law 1263 = .ok (.ifCond .eq 7, 3) := DL_law_76.2.2.2.2.2.2.2.1
theorem dL_law_1266 : decode cL_law 1266 = .ok (.iconst 1, 1) := DL_law_76.2.2.2.2.2.2.2.2.1
theorem dL_law_1267 : decode cL_law 1267 = .ok (.goto 4, 3) := DL_law_76.2.2.2.2.2.2.2.2.2
set_option maxRecDepth 100000 in
theorem DL_law_77 : decode cL_law 1270 = .ok (.iconst 0, 1) ∧ decode cL_law 1271 = .ok (.invokevirtual 169, 3) ∧ decode cL_law 1274 = .ok (.istore 6, 2) ∧ decode cL_law 1276 = .ok (.aload_n 2, 1) ∧ decode cL_law 1277 = .ok (.invokevirtual 120, 3) ∧ decode cL_law 1280 = .ok (.iload 5, 2) ∧ decode cL_law 1282 = .ok (.if_icmp .eq 5, 3) ∧ decode cL_law 1285 = .ok (.iconst 0, 1) ∧ decode cL_law 1286 = .ok (.ireturn, 1) ∧ decode cL_law 1287 = .ok (.iload 5, 2) := by decide +kernel
theorem dL_law_1270 : decode cL_law 1270 = .ok (.iconst 0, 1) := DL_law_77.1
theorem dL_law_1271 : decode cL_law 1271 = .ok (.invokevirtual 169, 3) := DL_law_77.2.1
theorem dL_law_1274 : decode cL_law 1274 = .ok (.istore 6, 2) := DL_law_77.2.2.1
theorem dL_law_1276 : decode cL_law 1276 = .ok (.aload_n 2, 1) := DL_law_77.2.2.2.1
theorem dL_law_1277 : decode cL_law 1277 = .ok (.invokevirtual 120, 3) := DL_law_77.2.2.2.2.1
theorem dL_law_1280 : decode cL_law 1280 = .ok (.iload 5, 2) := DL_law_77.2.2.2.2.2.1
theorem dL_law_1282 : decode cL_law 1282 = .ok (.if_icmp .eq 5, 3) := DL_law_77.2.2.2.2.2.2.1
theorem dL_law_1285 : decode cL_law 1285 = .ok (.iconst 0, 1) := DL_law_77.2.2.2.2.2.2.2.1
theorem dL_law_1286 : decode cL_law 1286 = .ok (.ireturn, 1) := DL_law_77.2.2.2.2.2.2.2.2.1
theorem dL_law_1287 : decode cL_law 1287 = .ok (.iload 5, 2) := DL_law_77.2.2.2.2.2.2.2.2.2
set_option maxRecDepth 100000 in
theorem DL_law_78 : decode cL_law 1289 = .ok (.ifCond .ne 15, 3) ∧ decode cL_law 1292 = .ok (.aload_n 3, 1) ∧ decode cL_law 1293 = .ok (.iconst 0, 1) ∧ decode cL_law 1294 = .ok (.laload, 1) ∧ decode cL_law 1295 = .ok (.iload 6, 2) ∧ decode cL_law 1297 = .ok (.i2l, 1) ∧ decode cL_law 1298 = .ok (.lcmp, 1) ∧ decode cL_law 1299 = .ok (.ifCond .eq 5, 3) ∧ decode cL_law 1302 = .ok (.iconst 0, 1) ∧ decode cL_law 1303 = .ok (.ireturn, 1) := by decide +kernel
theorem dL_law_1289 : decode cL_law 1289 = .ok (.ifCond .ne 15, 3) := DL_law_78.1
theorem dL_law_1292 : decode cL_law 1292 = .ok (.aload_n 3, 1) := DL_law_78.2.1
theorem dL_law_1293 : decode cL_law 1293 = .ok (.iconst 0, 1) := DL_law_78.2.2.1
theorem dL_law_1294 : decode cL_law 1294 = .ok (.laload, 1) := DL_law_78.2.2.2.1
theorem dL_law_1295 : decode cL_law 1295 = .ok (.iload 6, 2) := DL_law_78.2.2.2.2.1
theorem dL_law_1297 : decode cL_law 1297 = .ok (.i2l, 1) := DL_law_78.2.2.2.2.2.1
theorem dL_law_1298 : decode cL_law 1298 = .ok (.lcmp, 1) := DL_law_78.2.2.2.2.2.2.1
theorem dL_law_1299 : decode cL_law 1299 = .ok (.ifCond .eq 5, 3) := DL_law_78.2.2.2.2.2.2.2.1
theorem dL_law_1302 : decode cL_law 1302 = .ok (.iconst 0, 1) := DL_law_78.2.2.2.2.2.2.2.2.1
theorem dL_law_1303 : decode cL_law 1303 = .ok (.ireturn, 1) := DL_law_78.2.2.2.2.2.2.2.2.2
set_option maxRecDepth 100000 in
theorem DL_law_79 : decode cL_law 1304 = .ok (.goto 972, 3) ∧ decode cL_law 1307 = .ok (.aload_n 1, 1) ∧ decode cL_law 1308 = .ok (.aload_n 0, 1) ∧ decode cL_law 1309 = .ok (.iload 4, 2) ∧ decode cL_law 1311 = .ok (.iconst 1, 1) ∧ decode cL_law 1312 = .ok (.iadd, 1) ∧ decode cL_law 1313 = .ok (.iaload, 1) ∧ decode cL_law 1314 = .ok (.aload_n 0, 1) ∧ decode cL_law 1315 = .ok (.iload 4, 2) ∧ decode cL_law 1317 = .ok (.iconst 2, 1) := by decide +kernel
theorem dL_law_1304 : decode cL_law 1304 = .ok (.goto 972, 3) := DL_law_79.1
theorem dL_law_1307 : decode cL_law 1307 = .ok (.aload_n 1, 1) := DL_law_79.2.1
theorem dL_law_1308 : decode cL_law 1308 = .ok (.aload_n 0, 1) := DL_law_79.2.2.1
theorem dL_law_1309 : decode cL_law 1309 = .ok (.iload 4, 2) := DL_law_79.2.2.2.1
theorem dL_law_1311 : decode cL_law 1311 = .ok (.iconst 1, 1) := DL_law_79.2.2.2.2.1
theorem dL_law_1312 : decode cL_law 1312 = .ok (.iadd, 1) := DL_law_79.2.2.2.2.2.1
theorem dL_law_1313 : decode cL_law 1313 = .ok (.iaload, 1) := DL_law_79.2.2.2.2.2.2.1
theorem dL_law_1314 : decode cL_law 1314 = .ok (.aload_n 0, 1) := DL_law_79.2.2.2.2.2.2.2.1
theorem dL_law_1315 : decode cL_law 1315 = .ok (.iload 4, 2) := DL_law_79.2.2.2.2.2.2.2.2.1
theorem dL_law_1317 : decode cL_law 1317 = .ok (.iconst 2, 1) := DL_law_79.2.2.2.2.2.2.2.2.2
set_option maxRecDepth 100000 in
theorem DL_law_80 : decode cL_law 1318 = .ok (.iadd, 1) ∧ decode cL_law 1319 = .ok (.iaload, 1) ∧ decode cL_law 1320 = .ok (.aload_n 3, 1) ∧ decode cL_law 1321 = .ok (.invokestatic 170, 3) ∧ decode cL_law 1324 = .ok (.istore 5, 2) ∧ decode cL_law 1326 = .ok (.aload_n 2, 1) ∧ decode cL_law 1327 = .ok (.aload_n 0, 1) ∧ decode cL_law 1328 = .ok (.iload 4, 2) ∧ decode cL_law 1330 = .ok (.iconst 1, 1) ∧ decode cL_law 1331 = .ok (.iadd, 1) := by decide +kernel
theorem dL_law_1318 : decode cL_law 1318 = .ok (.iadd, 1) := DL_law_80.1
theorem dL_law_1319 : decode cL_law 1319 = .ok (.iaload, 1) := DL_law_80.2.1
theorem dL_law_1320 : decode cL_law 1320 = .ok (.aload_n 3, 1) := DL_law_80.2.2.1
theorem dL_law_1321 : decode cL_law 1321 = .ok (.invokestatic 170, 3) := DL_law_80.2.2.2.1
theorem dL_law_1324 : decode cL_law 1324 = .ok (.istore 5, 2) := DL_law_80.2.2.2.2.1
theorem dL_law_1326 : decode cL_law 1326 = .ok (.aload_n 2, 1) := DL_law_80.2.2.2.2.2.1
theorem dL_law_1327 : decode cL_law 1327 = .ok (.aload_n 0, 1) := DL_law_80.2.2.2.2.2.2.1
theorem dL_law_1328 : decode cL_law 1328 = .ok (.iload 4, 2) := DL_law_80.2.2.2.2.2.2.2.1
theorem dL_law_1330 : decode cL_law 1330 = .ok (.iconst 1, 1) := DL_law_80.2.2.2.2.2.2.2.2.1
theorem dL_law_1331 : decode cL_law 1331 = .ok (.iadd, 1) := DL_law_80.2.2.2.2.2.2.2.2.2
set_option maxRecDepth 100000 in
theorem DL_law_81 : decode cL_law 1332 = .ok (.iaload, 1) ∧ decode cL_law 1333 = .ok (.aload_n 0, 1) ∧ decode cL_law 1334 = .ok (.iload 4, 2) ∧ decode cL_law 1336 = .ok (.iconst 2, 1) ∧ decode cL_law 1337 = .ok (.iadd, 1) ∧ decode cL_law 1338 = .ok (.iaload, 1) ∧ decode cL_law 1339 = .ok (.invokevirtual 172, 3) ∧ decode cL_law 1342 = .ok (.istore 6, 2) ∧ decode cL_law 1344 = .ok (.aload_n 2, 1) ∧ decode cL_law 1345 = .ok (.invokevirtual 120, 3) := by decide +kernel
theorem dL_law_1332 : decode cL_law 1332 = .ok (.iaload, 1) := DL_law_81.1
theorem dL_law_1333 : decode cL_law 1333 = .ok (.aload_n 0, 1) := DL_law_81.2.1
theorem dL_law_1334 : decode cL_law 1334 = .ok (.iload 4, 2) := DL_law_81.2.2.1
theorem dL_law_1336 : decode cL_law 1336 = .ok (.iconst 2, 1) := DL_law_81.2.2.2.1
theorem dL_law_1337 : decode cL_law 1337 = .ok (.iadd, 1) := DL_law_81.2.2.2.2.1
theorem dL_law_1338 : decode cL_law 1338 = .ok (.iaload, 1) := DL_law_81.2.2.2.2.2.1
theorem dL_law_1339 : decode cL_law 1339 = .ok (.invokevirtual 172, 3) := DL_law_81.2.2.2.2.2.2.1
theorem dL_law_1342 : decode cL_law 1342 = .ok (.istore 6, 2) := DL_law_81.2.2.2.2.2.2.2.1
theorem dL_law_1344 : decode cL_law 1344 = .ok (.aload_n 2, 1) := DL_law_81.2.2.2.2.2.2.2.2.1
theorem dL_law_1345 : decode cL_law 1345 = .ok (.invokevirtual 120, 3) := DL_law_81.2.2.2.2.2.2.2.2.2
set_option maxRecDepth 100000 in
theorem DL_law_82 : decode cL_law 1348 = .ok (.iload 5, 2) ∧ decode cL_law 1350 = .ok (.if_icmp .eq 5, 3) ∧ decode cL_law 1353 = .ok (.iconst 0, 1) ∧ decode cL_law 1354 = .ok (.ireturn, 1) ∧ decode cL_law 1355 = .ok (.iload 5, 2) ∧ decode cL_law 1357 = .ok (.ifCond .ne 15, 3) ∧ decode cL_law 1360 = .ok (.aload_n 3, 1) ∧ decode cL_law 1361 = .ok (.iconst 0, 1) ∧ decode cL_law 1362 = .ok (.laload, 1) ∧ decode cL_law 1363 = .ok (.iload 6, 2) := by decide +kernel
theorem dL_law_1348 : decode cL_law 1348 = .ok (.iload 5, 2) := DL_law_82.1
theorem dL_law_1350 : decode cL_law 1350 = .ok (.if_icmp .eq 5, 3) := DL_law_82.2.1
theorem dL_law_1353 : decode cL_law 1353 = .ok (.iconst 0, 1) := DL_law_82.2.2.1
theorem dL_law_1354 : decode cL_law 1354 = .ok (.ireturn, 1) := DL_law_82.2.2.2.1
theorem dL_law_1355 : decode cL_law 1355 = .ok (.iload 5, 2) := DL_law_82.2.2.2.2.1
theorem dL_law_1357 : decode cL_law 1357 = .ok (.ifCond .ne 15, 3) := DL_law_82.2.2.2.2.2.1
theorem dL_law_1360 : decode cL_law 1360 = .ok (.aload_n 3, 1) := DL_law_82.2.2.2.2.2.2.1
theorem dL_law_1361 : decode cL_law 1361 = .ok (.iconst 0, 1) := DL_law_82.2.2.2.2.2.2.2.1
theorem dL_law_1362 : decode cL_law 1362 = .ok (.laload, 1) := DL_law_82.2.2.2.2.2.2.2.2.1
theorem dL_law_1363 : decode cL_law 1363 = .ok (.iload 6, 2) := DL_law_82.2.2.2.2.2.2.2.2.2
set_option maxRecDepth 100000 in
theorem DL_law_83 : decode cL_law 1365 = .ok (.i2l, 1) ∧ decode cL_law 1366 = .ok (.lcmp, 1) ∧ decode cL_law 1367 = .ok (.ifCond .eq 5, 3) ∧ decode cL_law 1370 = .ok (.iconst 0, 1) ∧ decode cL_law 1371 = .ok (.ireturn, 1) ∧ decode cL_law 1372 = .ok (.goto 904, 3) ∧ decode cL_law 1375 = .ok (.aload_n 1, 1) ∧ decode cL_law 1376 = .ok (.aload_n 0, 1) ∧ decode cL_law 1377 = .ok (.iload 4, 2) ∧ decode cL_law 1379 = .ok (.iconst 1, 1) := by decide +kernel
theorem dL_law_1365 : decode cL_law 1365 = .ok (.i2l, 1) := DL_law_83.1
theorem dL_law_1366 : decode cL_law 1366 = .ok (.lcmp, 1) := DL_law_83.2.1
theorem dL_law_1367 : decode cL_law 1367 = .ok (.ifCond .eq 5, 3) := DL_law_83.2.2.1
theorem dL_law_1370 : decode cL_law 1370 = .ok (.iconst 0, 1) := DL_law_83.2.2.2.1
theorem dL_law_1371 : decode cL_law 1371 = .ok (.ireturn, 1) := DL_law_83.2.2.2.2.1
theorem dL_law_1372 : decode cL_law 1372 = .ok (.goto 904, 3) := DL_law_83.2.2.2.2.2.1
theorem dL_law_1375 : decode cL_law 1375 = .ok (.aload_n 1, 1) := DL_law_83.2.2.2.2.2.2.1
theorem dL_law_1376 : decode cL_law 1376 = .ok (.aload_n 0, 1) := DL_law_83.2.2.2.2.2.2.2.1
theorem dL_law_1377 : decode cL_law 1377 = .ok (.iload 4, 2) := DL_law_83.2.2.2.2.2.2.2.2.1
theorem dL_law_1379 : decode cL_law 1379 = .ok (.iconst 1, 1) := DL_law_83.2.2.2.2.2.2.2.2.2
set_option maxRecDepth 100000 in
theorem DL_law_84 : decode cL_law 1380 = .ok (.iadd, 1) ∧ decode cL_law 1381 = .ok (.iaload, 1) ∧ decode cL_law 1382 = .ok (.aload_n 0, 1) ∧ decode cL_law 1383 = .ok (.iload 4, 2) ∧ decode cL_law 1385 = .ok (.iconst 2, 1) ∧ decode cL_law 1386 = .ok (.iadd, 1) ∧ decode cL_law 1387 = .ok (.iaload, 1) ∧ decode cL_law 1388 = .ok (.aload_n 3, 1) ∧ decode cL_law 1389 = .ok (.invokestatic 173, 3) ∧ decode cL_law 1392 = .ok (.istore 5, 2) := by decide +kernel
theorem dL_law_1380 : decode cL_law 1380 = .ok (.iadd, 1) := DL_law_84.1
theorem dL_law_1381 : decode cL_law 1381 = .ok (.iaload, 1) := DL_law_84.2.1
theorem dL_law_1382 : decode cL_law 1382 = .ok (.aload_n 0, 1) := DL_law_84.2.2.1
theorem dL_law_1383 : decode cL_law 1383 = .ok (.iload 4, 2) := DL_law_84.2.2.2.1
theorem dL_law_1385 : decode cL_law 1385 = .ok (.iconst 2, 1) := DL_law_84.2.2.2.2.1
theorem dL_law_1386 : decode cL_law 1386 = .ok (.iadd, 1) := DL_law_84.2.2.2.2.2.1
theorem dL_law_1387 : decode cL_law 1387 = .ok (.iaload, 1) := DL_law_84.2.2.2.2.2.2.1
theorem dL_law_1388 : decode cL_law 1388 = .ok (.aload_n 3, 1) := DL_law_84.2.2.2.2.2.2.2.1
theorem dL_law_1389 : decode cL_law 1389 = .ok (.invokestatic 173, 3) := DL_law_84.2.2.2.2.2.2.2.2.1
theorem dL_law_1392 : decode cL_law 1392 = .ok (.istore 5, 2) := DL_law_84.2.2.2.2.2.2.2.2.2
set_option maxRecDepth 100000 in
theorem DL_law_85 : decode cL_law 1394 = .ok (.aload_n 2, 1) ∧ decode cL_law 1395 = .ok (.aload_n 0, 1) ∧ decode cL_law 1396 = .ok (.iload 4, 2) ∧ decode cL_law 1398 = .ok (.iconst 1, 1) ∧ decode cL_law 1399 = .ok (.iadd, 1) ∧ decode cL_law 1400 = .ok (.iaload, 1) ∧ decode cL_law 1401 = .ok (.aload_n 0, 1) ∧ decode cL_law 1402 = .ok (.iload 4, 2) ∧ decode cL_law 1404 = .ok (.iconst 2, 1) ∧ decode cL_law 1405 = .ok (.iadd, 1) := by decide +kernel
theorem dL_law_1394 : decode cL_law 1394 = .ok (.aload_n 2, 1) := DL_law_85.1
theorem dL_law_1395 : decode cL_law 1395 = .ok (.aload_n 0, 1) := DL_law_85.2.1
theorem dL_law_1396 : decode cL_law 1396 = .ok (.iload 4, 2) := DL_law_85.2.2.1
theorem dL_law_1398 : decode cL_law 1398 = .ok (.iconst 1, 1) := DL_law_85.2.2.2.1
theorem dL_law_1399 : decode cL_law 1399 = .ok (.iadd, 1) := DL_law_85.2.2.2.2.1
theorem dL_law_1400 : decode cL_law 1400 = .ok (.iaload, 1) := DL_law_85.2.2.2.2.2.1
theorem dL_law_1401 : decode cL_law 1401 = .ok (.aload_n 0, 1) := DL_law_85.2.2.2.2.2.2.1
theorem dL_law_1402 : decode cL_law 1402 = .ok (.iload 4, 2) := DL_law_85.2.2.2.2.2.2.2.1
theorem dL_law_1404 : decode cL_law 1404 = .ok (.iconst 2, 1) := DL_law_85.2.2.2.2.2.2.2.2.1
theorem dL_law_1405 : decode cL_law 1405 = .ok (.iadd, 1) := DL_law_85.2.2.2.2.2.2.2.2.2
set_option maxRecDepth 100000 in
theorem DL_law_86 : decode cL_law 1406 = .ok (.iaload, 1) ∧ decode cL_law 1407 = .ok (.invokevirtual 175, 3) ∧ decode cL_law 1410 = .ok (.istore 6, 2) ∧ decode cL_law 1412 = .ok (.aload_n 2, 1) ∧ decode cL_law 1413 = .ok (.invokevirtual 120, 3) ∧ decode cL_law 1416 = .ok (.iload 5, 2) ∧ decode cL_law 1418 = .ok (.if_icmp .eq 5, 3) ∧ decode cL_law 1421 = .ok (.iconst 0, 1) ∧ decode cL_law 1422 = .ok (.ireturn, 1) ∧ decode cL_law 1423 = .ok (.iload 5, 2) := by decide +kernel
theorem dL_law_1406 : decode cL_law 1406 = .ok (.iaload, 1) := DL_law_86.1
theorem dL_law_1407 : decode cL_law 1407 = .ok (.invokevirtual 175, 3) := DL_law_86.2.1
theorem dL_law_1410 : decode cL_law 1410 = .ok (.istore 6, 2) := DL_law_86.2.2.1
theorem dL_law_1412 : decode cL_law 1412 = .ok (.aload_n 2, 1) := DL_law_86.2.2.2.1
theorem dL_law_1413 : decode cL_law 1413 = .ok (.invokevirtual 120, 3) := DL_law_86.2.2.2.2.1
theorem dL_law_1416 : decode cL_law 1416 = .ok (.iload 5, 2) := DL_law_86.2.2.2.2.2.1
theorem dL_law_1418 : decode cL_law 1418 = .ok (.if_icmp .eq 5, 3) := DL_law_86.2.2.2.2.2.2.1
theorem dL_law_1421 : decode cL_law 1421 = .ok (.iconst 0, 1) := DL_law_86.2.2.2.2.2.2.2.1
theorem dL_law_1422 : decode cL_law 1422 = .ok (.ireturn, 1) := DL_law_86.2.2.2.2.2.2.2.2.1
theorem dL_law_1423 : decode cL_law 1423 = .ok (.iload 5, 2) := DL_law_86.2.2.2.2.2.2.2.2.2
set_option maxRecDepth 100000 in
theorem DL_law_87 : decode cL_law 1425 = .ok (.ifCond .ne 15, 3) ∧ decode cL_law 1428 = .ok (.aload_n 3, 1) ∧ decode cL_law 1429 = .ok (.iconst 0, 1) ∧ decode cL_law 1430 = .ok (.laload, 1) ∧ decode cL_law 1431 = .ok (.iload 6, 2) ∧ decode cL_law 1433 = .ok (.i2l, 1) ∧ decode cL_law 1434 = .ok (.lcmp, 1) ∧ decode cL_law 1435 = .ok (.ifCond .eq 5, 3) ∧ decode cL_law 1438 = .ok (.iconst 0, 1) ∧ decode cL_law 1439 = .ok (.ireturn, 1) := by decide +kernel
theorem dL_law_1425 : decode cL_law 1425 = .ok (.ifCond .ne 15, 3) := DL_law_87.1
theorem dL_law_1428 : decode cL_law 1428 = .ok (.aload_n 3, 1) := DL_law_87.2.1
theorem dL_law_1429 : decode cL_law 1429 = .ok (.iconst 0, 1) := DL_law_87.2.2.1
theorem dL_law_1430 : decode cL_law 1430 = .ok (.laload, 1) := DL_law_87.2.2.2.1
theorem dL_law_1431 : decode cL_law 1431 = .ok (.iload 6, 2) := DL_law_87.2.2.2.2.1
theorem dL_law_1433 : decode cL_law 1433 = .ok (.i2l, 1) := DL_law_87.2.2.2.2.2.1
theorem dL_law_1434 : decode cL_law 1434 = .ok (.lcmp, 1) := DL_law_87.2.2.2.2.2.2.1
theorem dL_law_1435 : decode cL_law 1435 = .ok (.ifCond .eq 5, 3) := DL_law_87.2.2.2.2.2.2.2.1
theorem dL_law_1438 : decode cL_law 1438 = .ok (.iconst 0, 1) := DL_law_87.2.2.2.2.2.2.2.2.1
theorem dL_law_1439 : decode cL_law 1439 = .ok (.ireturn, 1) := DL_law_87.2.2.2.2.2.2.2.2.2
set_option maxRecDepth 100000 in
theorem DL_law_88 : decode cL_law 1440 = .ok (.goto 836, 3) ∧ decode cL_law 1443 = .ok (.aload_n 1, 1) ∧ decode cL_law 1444 = .ok (.aload_n 0, 1) ∧ decode cL_law 1445 = .ok (.iload 4, 2) ∧ decode cL_law 1447 = .ok (.iconst 1, 1) ∧ decode cL_law 1448 = .ok (.iadd, 1) ∧ decode cL_law 1449 = .ok (.iaload, 1) ∧ decode cL_law 1450 = .ok (.aload_n 0, 1) ∧ decode cL_law 1451 = .ok (.iload 4, 2) ∧ decode cL_law 1453 = .ok (.iconst 2, 1) := by decide +kernel
theorem dL_law_1440 : decode cL_law 1440 = .ok (.goto 836, 3) := DL_law_88.1
theorem dL_law_1443 : decode cL_law 1443 = .ok (.aload_n 1, 1) := DL_law_88.2.1
theorem dL_law_1444 : decode cL_law 1444 = .ok (.aload_n 0, 1) := DL_law_88.2.2.1
theorem dL_law_1445 : decode cL_law 1445 = .ok (.iload 4, 2) := DL_law_88.2.2.2.1
theorem dL_law_1447 : decode cL_law 1447 = .ok (.iconst 1, 1) := DL_law_88.2.2.2.2.1
theorem dL_law_1448 : decode cL_law 1448 = .ok (.iadd, 1) := DL_law_88.2.2.2.2.2.1
theorem dL_law_1449 : decode cL_law 1449 = .ok (.iaload, 1) := DL_law_88.2.2.2.2.2.2.1
theorem dL_law_1450 : decode cL_law 1450 = .ok (.aload_n 0, 1) := DL_law_88.2.2.2.2.2.2.2.1
theorem dL_law_1451 : decode cL_law 1451 = .ok (.iload 4, 2) := DL_law_88.2.2.2.2.2.2.2.2.1
theorem dL_law_1453 : decode cL_law 1453 = .ok (.iconst 2, 1) := DL_law_88.2.2.2.2.2.2.2.2.2
set_option maxRecDepth 100000 in
theorem DL_law_89 : decode cL_law 1454 = .ok (.iadd, 1) ∧ decode cL_law 1455 = .ok (.iaload, 1) ∧ decode cL_law 1456 = .ok (.aload_n 0, 1) ∧ decode cL_law 1457 = .ok (.iload 4, 2) ∧ decode cL_law 1459 = .ok (.iconst 3, 1) ∧ decode cL_law 1460 = .ok (.iadd, 1) ∧ decode cL_law 1461 = .ok (.iaload, 1) ∧ decode cL_law 1462 = .ok (.aload_n 0, 1) ∧ decode cL_law 1463 = .ok (.iload 4, 2) ∧ decode cL_law 1465 = .ok (.iconst 4, 1) := by decide +kernel
theorem dL_law_1454 : decode cL_law 1454 = .ok (.iadd, 1) := DL_law_89.1
theorem dL_law_1455 : decode cL_law 1455 = .ok (.iaload, 1) := DL_law_89.2.1
theorem dL_law_1456 : decode cL_law 1456 = .ok (.aload_n 0, 1) := DL_law_89.2.2.1
theorem dL_law_1457 : decode cL_law 1457 = .ok (.iload 4, 2) := DL_law_89.2.2.2.1
theorem dL_law_1459 : decode cL_law 1459 = .ok (.iconst 3, 1) := DL_law_89.2.2.2.2.1
theorem dL_law_1460 : decode cL_law 1460 = .ok (.iadd, 1) := DL_law_89.2.2.2.2.2.1
theorem dL_law_1461 : decode cL_law 1461 = .ok (.iaload, 1) := DL_law_89.2.2.2.2.2.2.1
theorem dL_law_1462 : decode cL_law 1462 = .ok (.aload_n 0, 1) := DL_law_89.2.2.2.2.2.2.2.1
theorem dL_law_1463 : decode cL_law 1463 = .ok (.iload 4, 2) := DL_law_89.2.2.2.2.2.2.2.2.1
theorem dL_law_1465 : decode cL_law 1465 = .ok (.iconst 4, 1) := DL_law_89.2.2.2.2.2.2.2.2.2
set_option maxRecDepth 100000 in
theorem DL_law_90 : decode cL_law 1466 = .ok (.iadd, 1) ∧ decode cL_law 1467 = .ok (.iaload, 1) ∧ decode cL_law 1468 = .ok (.aload_n 0, 1) ∧ decode cL_law 1469 = .ok (.iload 4, 2) ∧ decode cL_law 1471 = .ok (.iconst 5, 1) ∧ decode cL_law 1472 = .ok (.iadd, 1) ∧ decode cL_law 1473 = .ok (.iaload, 1) ∧ decode cL_law 1474 = .ok (.aload_n 0, 1) ∧ decode cL_law 1475 = .ok (.iload 4, 2) ∧ decode cL_law 1477 = .ok (.bipush 6, 2) := by decide +kernel
theorem dL_law_1466 : decode cL_law 1466 = .ok (.iadd, 1) := DL_law_90.1
theorem dL_law_1467 : decode cL_law 1467 = .ok (.iaload, 1) := DL_law_90.2.1
theorem dL_law_1468 : decode cL_law 1468 = .ok (.aload_n 0, 1) := DL_law_90.2.2.1
theorem dL_law_1469 : decode cL_law 1469 = .ok (.iload 4, 2) := DL_law_90.2.2.2.1
theorem dL_law_1471 : decode cL_law 1471 = .ok (.iconst 5, 1) := DL_law_90.2.2.2.2.1
theorem dL_law_1472 : decode cL_law 1472 = .ok (.iadd, 1) := DL_law_90.2.2.2.2.2.1
theorem dL_law_1473 : decode cL_law 1473 = .ok (.iaload, 1) := DL_law_90.2.2.2.2.2.2.1
theorem dL_law_1474 : decode cL_law 1474 = .ok (.aload_n 0, 1) := DL_law_90.2.2.2.2.2.2.2.1
theorem dL_law_1475 : decode cL_law 1475 = .ok (.iload 4, 2) := DL_law_90.2.2.2.2.2.2.2.2.1
theorem dL_law_1477 : decode cL_law 1477 = .ok (.bipush 6, 2) := DL_law_90.2.2.2.2.2.2.2.2.2
set_option maxRecDepth 100000 in
theorem DL_law_91 : decode cL_law 1479 = .ok (.iadd, 1) ∧ decode cL_law 1480 = .ok (.iaload, 1) ∧ decode cL_law 1481 = .ok (.aload_n 3, 1) ∧ decode cL_law 1482 = .ok (.invokestatic 176, 3) ∧ decode cL_law 1485 = .ok (.istore 5, 2) ∧ decode cL_law 1487 = .ok (.aload_n 2, 1) ∧ decode cL_law 1488 = .ok (.aload_n 0, 1) ∧ decode cL_law 1489 = .ok (.iload 4, 2) ∧ decode cL_law 1491 = .ok (.iconst 1, 1) ∧ decode cL_law 1492 = .ok (.iadd, 1) := by decide +kernel
theorem dL_law_1479 : decode cL_law 1479 = .ok (.iadd, 1) := DL_law_91.1
theorem dL_law_1480 : decode cL_law 1480 = .ok (.iaload, 1) := DL_law_91.2.1
theorem dL_law_1481 : decode cL_law 1481 = .ok (.aload_n 3, 1) := DL_law_91.2.2.1
theorem dL_law_1482 : decode cL_law 1482 = .ok (.invokestatic 176, 3) := DL_law_91.2.2.2.1
theorem dL_law_1485 : decode cL_law 1485 = .ok (.istore 5, 2) := DL_law_91.2.2.2.2.1
theorem dL_law_1487 : decode cL_law 1487 = .ok (.aload_n 2, 1) := DL_law_91.2.2.2.2.2.1
theorem dL_law_1488 : decode cL_law 1488 = .ok (.aload_n 0, 1) := DL_law_91.2.2.2.2.2.2.1
theorem dL_law_1489 : decode cL_law 1489 = .ok (.iload 4, 2) := DL_law_91.2.2.2.2.2.2.2.1
theorem dL_law_1491 : decode cL_law 1491 = .ok (.iconst 1, 1) := DL_law_91.2.2.2.2.2.2.2.2.1
theorem dL_law_1492 : decode cL_law 1492 = .ok (.iadd, 1) := DL_law_91.2.2.2.2.2.2.2.2.2
set_option maxRecDepth 100000 in
theorem DL_law_92 : decode cL_law 1493 = .ok (.iaload, 1) ∧ decode cL_law 1494 = .ok (.aload_n 0, 1) ∧ decode cL_law 1495 = .ok (.iload 4, 2) ∧ decode cL_law 1497 = .ok (.iconst 2, 1) ∧ decode cL_law 1498 = .ok (.iadd, 1) ∧ decode cL_law 1499 = .ok (.iaload, 1) ∧ decode cL_law 1500 = .ok (.aload_n 0, 1) ∧ decode cL_law 1501 = .ok (.iload 4, 2) ∧ decode cL_law 1503 = .ok (.iconst 3, 1) ∧ decode cL_law 1504 = .ok (.iadd, 1) := by decide +kernel
theorem dL_law_1493 : decode cL_law 1493 = .ok (.iaload, 1) := DL_law_92.1
theorem dL_law_1494 : decode cL_law 1494 = .ok (.aload_n 0, 1) := DL_law_92.2.1
theorem dL_law_1495 : decode cL_law 1495 = .ok (.iload 4, 2) := DL_law_92.2.2.1
theorem dL_law_1497 : decode cL_law 1497 = .ok (.iconst 2, 1) := DL_law_92.2.2.2.1
theorem dL_law_1498 : decode cL_law 1498 = .ok (.iadd, 1) := DL_law_92.2.2.2.2.1
theorem dL_law_1499 : decode cL_law 1499 = .ok (.iaload, 1) := DL_law_92.2.2.2.2.2.1
theorem dL_law_1500 : decode cL_law 1500 = .ok (.aload_n 0, 1) := DL_law_92.2.2.2.2.2.2.1
theorem dL_law_1501 : decode cL_law 1501 = .ok (.iload 4, 2) := DL_law_92.2.2.2.2.2.2.2.1
theorem dL_law_1503 : decode cL_law 1503 = .ok (.iconst 3, 1) := DL_law_92.2.2.2.2.2.2.2.2.1
theorem dL_law_1504 : decode cL_law 1504 = .ok (.iadd, 1) := DL_law_92.2.2.2.2.2.2.2.2.2
set_option maxRecDepth 100000 in
theorem DL_law_93 : decode cL_law 1505 = .ok (.iaload, 1) ∧ decode cL_law 1506 = .ok (.aload_n 0, 1) ∧ decode cL_law 1507 = .ok (.iload 4, 2) ∧ decode cL_law 1509 = .ok (.iconst 4, 1) ∧ decode cL_law 1510 = .ok (.iadd, 1) ∧ decode cL_law 1511 = .ok (.iaload, 1) ∧ decode cL_law 1512 = .ok (.aload_n 0, 1) ∧ decode cL_law 1513 = .ok (.iload 4, 2) ∧ decode cL_law 1515 = .ok (.iconst 5, 1) ∧ decode cL_law 1516 = .ok (.iadd, 1) := by decide +kernel
theorem dL_law_1505 : decode cL_law 1505 = .ok (.iaload, 1) := DL_law_93.1
theorem dL_law_1506 : decode cL_law 1506 = .ok (.aload_n 0, 1) := DL_law_93.2.1
theorem dL_law_1507 : decode cL_law 1507 = .ok (.iload 4, 2) := DL_law_93.2.2.1
theorem dL_law_1509 : decode cL_law 1509 = .ok (.iconst 4, 1) := DL_law_93.2.2.2.1
theorem dL_law_1510 : decode cL_law 1510 = .ok (.iadd, 1) := DL_law_93.2.2.2.2.1
theorem dL_law_1511 : decode cL_law 1511 = .ok (.iaload, 1) := DL_law_93.2.2.2.2.2.1
theorem dL_law_1512 : decode cL_law 1512 = .ok (.aload_n 0, 1) := DL_law_93.2.2.2.2.2.2.1
theorem dL_law_1513 : decode cL_law 1513 = .ok (.iload 4, 2) := DL_law_93.2.2.2.2.2.2.2.1
theorem dL_law_1515 : decode cL_law 1515 = .ok (.iconst 5, 1) := DL_law_93.2.2.2.2.2.2.2.2.1
theorem dL_law_1516 : decode cL_law 1516 = .ok (.iadd, 1) := DL_law_93.2.2.2.2.2.2.2.2.2
set_option maxRecDepth 100000 in
theorem DL_law_94 : decode cL_law 1517 = .ok (.iaload, 1) ∧ decode cL_law 1518 = .ok (.aload_n 0, 1) ∧ decode cL_law 1519 = .ok (.iload 4, 2) ∧ decode cL_law 1521 = .ok (.bipush 6, 2) ∧ decode cL_law 1523 = .ok (.iadd, 1) ∧ decode cL_law 1524 = .ok (.iaload, 1) ∧ decode cL_law 1525 = .ok (.invokevirtual 178, 3) ∧ decode cL_law 1528 = .ok (.istore 6, 2) ∧ decode cL_law 1530 = .ok (.aload_n 2, 1) ∧ decode cL_law 1531 = .ok (.invokevirtual 120, 3) := by decide +kernel
theorem dL_law_1517 : decode cL_law 1517 = .ok (.iaload, 1) := DL_law_94.1
theorem dL_law_1518 : decode cL_law 1518 = .ok (.aload_n 0, 1) := DL_law_94.2.1
theorem dL_law_1519 : decode cL_law 1519 = .ok (.iload 4, 2) := DL_law_94.2.2.1
theorem dL_law_1521 : decode cL_law 1521 = .ok (.bipush 6, 2) := DL_law_94.2.2.2.1
theorem dL_law_1523 : decode cL_law 1523 = .ok (.iadd, 1) := DL_law_94.2.2.2.2.1
theorem dL_law_1524 : decode cL_law 1524 = .ok (.iaload, 1) := DL_law_94.2.2.2.2.2.1
theorem dL_law_1525 : decode cL_law 1525 = .ok (.invokevirtual 178, 3) := DL_law_94.2.2.2.2.2.2.1
theorem dL_law_1528 : decode cL_law 1528 = .ok (.istore 6, 2) := DL_law_94.2.2.2.2.2.2.2.1
theorem dL_law_1530 : decode cL_law 1530 = .ok (.aload_n 2, 1) := DL_law_94.2.2.2.2.2.2.2.2.1
theorem dL_law_1531 : decode cL_law 1531 = .ok (.invokevirtual 120, 3) := DL_law_94.2.2.2.2.2.2.2.2.2
set_option maxRecDepth 100000 in
theorem DL_law_95 : decode cL_law 1534 = .ok (.iload 5, 2) ∧ decode cL_law 1536 = .ok (.if_icmp .eq 5, 3) ∧ decode cL_law 1539 = .ok (.iconst 0, 1) ∧ decode cL_law 1540 = .ok (.ireturn, 1) ∧ decode cL_law 1541 = .ok (.iload 5, 2) ∧ decode cL_law 1543 = .ok (.ifCond .ne 15, 3) ∧ decode cL_law 1546 = .ok (.aload_n 3, 1) ∧ decode cL_law 1547 = .ok (.iconst 0, 1) ∧ decode cL_law 1548 = .ok (.laload, 1) ∧ decode cL_law 1549 = .ok (.iload 6, 2) := by decide +kernel
theorem dL_law_1534 : decode cL_law 1534 = .ok (.iload 5, 2) := DL_law_95.1
theorem dL_law_1536 : decode cL_law 1536 = .ok (.if_icmp .eq 5, 3) := DL_law_95.2.1
theorem dL_law_1539 : decode cL_law 1539 = .ok (.iconst 0, 1) := DL_law_95.2.2.1
theorem dL_law_1540 : decode cL_law 1540 = .ok (.ireturn, 1) := DL_law_95.2.2.2.1
theorem dL_law_1541 : decode cL_law 1541 = .ok (.iload 5, 2) := DL_law_95.2.2.2.2.1
theorem dL_law_1543 : decode cL_law 1543 = .ok (.ifCond .ne 15, 3) := DL_law_95.2.2.2.2.2.1
theorem dL_law_1546 : decode cL_law 1546 = .ok (.aload_n 3, 1) := DL_law_95.2.2.2.2.2.2.1
theorem dL_law_1547 : decode cL_law 1547 = .ok (.iconst 0, 1) := DL_law_95.2.2.2.2.2.2.2.1
theorem dL_law_1548 : decode cL_law 1548 = .ok (.laload, 1) := DL_law_95.2.2.2.2.2.2.2.2.1
theorem dL_law_1549 : decode cL_law 1549 = .ok (.iload 6, 2) := DL_law_95.2.2.2.2.2.2.2.2.2
set_option maxRecDepth 100000 in
theorem DL_law_96 : decode cL_law 1551 = .ok (.i2l, 1) ∧ decode cL_law 1552 = .ok (.lcmp, 1) ∧ decode cL_law 1553 = .ok (.ifCond .eq 5, 3) ∧ decode cL_law 1556 = .ok (.iconst 0, 1) ∧ decode cL_law 1557 = .ok (.ireturn, 1) ∧ decode cL_law 1558 = .ok (.goto 718, 3) ∧ decode cL_law 1561 = .ok (.aload_n 1, 1) ∧ decode cL_law 1562 = .ok (.aload_n 0, 1) ∧ decode cL_law 1563 = .ok (.iload 4, 2) ∧ decode cL_law 1565 = .ok (.iconst 1, 1) := by decide +kernel
theorem dL_law_1551 : decode cL_law 1551 = .ok (.i2l, 1) := DL_law_96.1
theorem dL_law_1552 : decode cL_law 1552 = .ok (.lcmp, 1) := DL_law_96.2.1
theorem dL_law_1553 : decode cL_law 1553 = .ok (.ifCond .eq 5, 3) := DL_law_96.2.2.1
theorem dL_law_1556 : decode cL_law 1556 = .ok (.iconst 0, 1) := DL_law_96.2.2.2.1
theorem dL_law_1557 : decode cL_law 1557 = .ok (.ireturn, 1) := DL_law_96.2.2.2.2.1
theorem dL_law_1558 : decode cL_law 1558 = .ok (.goto 718, 3) := DL_law_96.2.2.2.2.2.1
theorem dL_law_1561 : decode cL_law 1561 = .ok (.aload_n 1, 1) := DL_law_96.2.2.2.2.2.2.1
theorem dL_law_1562 : decode cL_law 1562 = .ok (.aload_n 0, 1) := DL_law_96.2.2.2.2.2.2.2.1
theorem dL_law_1563 : decode cL_law 1563 = .ok (.iload 4, 2) := DL_law_96.2.2.2.2.2.2.2.2.1
theorem dL_law_1565 : decode cL_law 1565 = .ok (.iconst 1, 1) := DL_law_96.2.2.2.2.2.2.2.2.2
set_option maxRecDepth 100000 in
theorem DL_law_97 : decode cL_law 1566 = .ok (.iadd, 1) ∧ decode cL_law 1567 = .ok (.iaload, 1) ∧ decode cL_law 1568 = .ok (.aload_n 3, 1) ∧ decode cL_law 1569 = .ok (.invokestatic 179, 3) ∧ decode cL_law 1572 = .ok (.istore 5, 2) ∧ decode cL_law 1574 = .ok (.aload_n 2, 1) ∧ decode cL_law 1575 = .ok (.aload_n 0, 1) ∧ decode cL_law 1576 = .ok (.iload 4, 2) ∧ decode cL_law 1578 = .ok (.iconst 1, 1) ∧ decode cL_law 1579 = .ok (.iadd, 1) := by decide +kernel
theorem dL_law_1566 : decode cL_law 1566 = .ok (.iadd, 1) := DL_law_97.1
theorem dL_law_1567 : decode cL_law 1567 = .ok (.iaload, 1) := DL_law_97.2.1
theorem dL_law_1568 : decode cL_law 1568 = .ok (.aload_n 3, 1) := DL_law_97.2.2.1
theorem dL_law_1569 : decode cL_law 1569 = .ok (.invokestatic 179, 3) := DL_law_97.2.2.2.1
theorem dL_law_1572 : decode cL_law 1572 = .ok (.istore 5, 2) := DL_law_97.2.2.2.2.1
theorem dL_law_1574 : decode cL_law 1574 = .ok (.aload_n 2, 1) := DL_law_97.2.2.2.2.2.1
theorem dL_law_1575 : decode cL_law 1575 = .ok (.aload_n 0, 1) := DL_law_97.2.2.2.2.2.2.1
theorem dL_law_1576 : decode cL_law 1576 = .ok (.iload 4, 2) := DL_law_97.2.2.2.2.2.2.2.1
theorem dL_law_1578 : decode cL_law 1578 = .ok (.iconst 1, 1) := DL_law_97.2.2.2.2.2.2.2.2.1
theorem dL_law_1579 : decode cL_law 1579 = .ok (.iadd, 1) := DL_law_97.2.2.2.2.2.2.2.2.2
set_option maxRecDepth 100000 in
theorem DL_law_98 : decode cL_law 1580 = .ok (.iaload, 1) ∧ decode cL_law 1581 = .ok (.invokevirtual 181, 3) ∧ decode cL_law 1584 = .ok (.istore 6, 2) ∧ decode cL_law 1586 = .ok (.aload_n 2, 1) ∧ decode cL_law 1587 = .ok (.invokevirtual 120, 3) ∧ decode cL_law 1590 = .ok (.iload 5, 2) ∧ decode cL_law 1592 = .ok (.if_icmp .eq 5, 3) ∧ decode cL_law 1595 = .ok (.iconst 0, 1) ∧ decode cL_law 1596 = .ok (.ireturn, 1) ∧ decode cL_law 1597 = .ok (.iload 5, 2) := by decide +kernel
theorem dL_law_1580 : decode cL_law 1580 = .ok (.iaload, 1) := DL_law_98.1
theorem dL_law_1581 : decode cL_law 1581 = .ok (.invokevirtual 181, 3) := DL_law_98.2.1
theorem dL_law_1584 : decode cL_law 1584 = .ok (.istore 6, 2) := DL_law_98.2.2.1
theorem dL_law_1586 : decode cL_law 1586 = .ok (.aload_n 2, 1) := DL_law_98.2.2.2.1
theorem dL_law_1587 : decode cL_law 1587 = .ok (.invokevirtual 120, 3) := DL_law_98.2.2.2.2.1
theorem dL_law_1590 : decode cL_law 1590 = .ok (.iload 5, 2) := DL_law_98.2.2.2.2.2.1
theorem dL_law_1592 : decode cL_law 1592 = .ok (.if_icmp .eq 5, 3) := DL_law_98.2.2.2.2.2.2.1
theorem dL_law_1595 : decode cL_law 1595 = .ok (.iconst 0, 1) := DL_law_98.2.2.2.2.2.2.2.1
theorem dL_law_1596 : decode cL_law 1596 = .ok (.ireturn, 1) := DL_law_98.2.2.2.2.2.2.2.2.1
theorem dL_law_1597 : decode cL_law 1597 = .ok (.iload 5, 2) := DL_law_98.2.2.2.2.2.2.2.2.2
set_option maxRecDepth 100000 in
theorem DL_law_99 : decode cL_law 1599 = .ok (.ifCond .ne 15, 3) ∧ decode cL_law 1602 = .ok (.aload_n 3, 1) ∧ decode cL_law 1603 = .ok (.iconst 0, 1) ∧ decode cL_law 1604 = .ok (.laload, 1) ∧ decode cL_law 1605 = .ok (.iload 6, 2) ∧ decode cL_law 1607 = .ok (.i2l, 1) ∧ decode cL_law 1608 = .ok (.lcmp, 1) ∧ decode cL_law 1609 = .ok (.ifCond .eq 5, 3) ∧ decode cL_law 1612 = .ok (.iconst 0, 1) ∧ decode cL_law 1613 = .ok (.ireturn, 1) := by decide +kernel
theorem dL_law_1599 : decode cL_law 1599 = .ok (.ifCond .ne 15, 3) := DL_law_99.1
theorem dL_law_1602 : decode cL_law 1602 = .ok (.aload_n 3, 1) := DL_law_99.2.1
theorem dL_law_1603 : decode cL_law 1603 = .ok (.iconst 0, 1) := DL_law_99.2.2.1
theorem dL_law_1604 : decode cL_law 1604 = .ok (.laload, 1) := DL_law_99.2.2.2.1
theorem dL_law_1605 : decode cL_law 1605 = .ok (.iload 6, 2) := DL_law_99.2.2.2.2.1
theorem dL_law_1607 : decode cL_law 1607 = .ok (.i2l, 1) := DL_law_99.2.2.2.2.2.1
theorem dL_law_1608 : decode cL_law 1608 = .ok (.lcmp, 1) := DL_law_99.2.2.2.2.2.2.1
theorem dL_law_1609 : decode cL_law 1609 = .ok (.ifCond .eq 5, 3) := DL_law_99.2.2.2.2.2.2.2.1
theorem dL_law_1612 : decode cL_law 1612 = .ok (.iconst 0, 1) := DL_law_99.2.2.2.2.2.2.2.2.1
theorem dL_law_1613 : decode cL_law 1613 = .ok (.ireturn, 1) := DL_law_99.2.2.2.2.2.2.2.2.2
set_option maxRecDepth 100000 in
theorem DL_law_100 : decode cL_law 1614 = .ok (.goto 662, 3) ∧ decode cL_law 1617 = .ok (.aload_n 1, 1) ∧ decode cL_law 1618 = .ok (.aload_n 0, 1) ∧ decode cL_law 1619 = .ok (.iload 4, 2) ∧ decode cL_law 1621 = .ok (.iconst 1, 1) ∧ decode cL_law 1622 = .ok (.iadd, 1) ∧ decode cL_law 1623 = .ok (.iaload, 1) ∧ decode cL_law 1624 = .ok (.aload_n 0, 1) ∧ decode cL_law 1625 = .ok (.iload 4, 2) ∧ decode cL_law 1627 = .ok (.iconst 2, 1) := by decide +kernel
theorem dL_law_1614 : decode cL_law 1614 = .ok (.goto 662, 3) := DL_law_100.1
theorem dL_law_1617 : decode cL_law 1617 = .ok (.aload_n 1, 1) := DL_law_100.2.1
theorem dL_law_1618 : decode cL_law 1618 = .ok (.aload_n 0, 1) := DL_law_100.2.2.1
theorem dL_law_1619 : decode cL_law 1619 = .ok (.iload 4, 2) := DL_law_100.2.2.2.1
theorem dL_law_1621 : decode cL_law 1621 = .ok (.iconst 1, 1) := DL_law_100.2.2.2.2.1
theorem dL_law_1622 : decode cL_law 1622 = .ok (.iadd, 1) := DL_law_100.2.2.2.2.2.1
theorem dL_law_1623 : decode cL_law 1623 = .ok (.iaload, 1) := DL_law_100.2.2.2.2.2.2.1
theorem dL_law_1624 : decode cL_law 1624 = .ok (.aload_n 0, 1) := DL_law_100.2.2.2.2.2.2.2.1
theorem dL_law_1625 : decode cL_law 1625 = .ok (.iload 4, 2) := DL_law_100.2.2.2.2.2.2.2.2.1
theorem dL_law_1627 : decode cL_law 1627 = .ok (.iconst 2, 1) := DL_law_100.2.2.2.2.2.2.2.2.2
set_option maxRecDepth 100000 in
theorem DL_law_101 : decode cL_law 1628 = .ok (.iadd, 1) ∧ decode cL_law 1629 = .ok (.iaload, 1) ∧ decode cL_law 1630 = .ok (.aload_n 3, 1) ∧ decode cL_law 1631 = .ok (.invokestatic 182, 3) ∧ decode cL_law 1634 = .ok (.istore 5, 2) ∧ decode cL_law 1636 = .ok (.aload_n 2, 1) ∧ decode cL_law 1637 = .ok (.aload_n 0, 1) ∧ decode cL_law 1638 = .ok (.iload 4, 2) ∧ decode cL_law 1640 = .ok (.iconst 1, 1) ∧ decode cL_law 1641 = .ok (.iadd, 1) := by decide +kernel
theorem dL_law_1628 : decode cL_law 1628 = .ok (.iadd, 1) := DL_law_101.1
theorem dL_law_1629 : decode cL_law 1629 = .ok (.iaload, 1) := DL_law_101.2.1
theorem dL_law_1630 : decode cL_law 1630 = .ok (.aload_n 3, 1) := DL_law_101.2.2.1
theorem dL_law_1631 : decode cL_law 1631 = .ok (.invokestatic 182, 3) := DL_law_101.2.2.2.1
theorem dL_law_1634 : decode cL_law 1634 = .ok (.istore 5, 2) := DL_law_101.2.2.2.2.1
theorem dL_law_1636 : decode cL_law 1636 = .ok (.aload_n 2, 1) := DL_law_101.2.2.2.2.2.1
theorem dL_law_1637 : decode cL_law 1637 = .ok (.aload_n 0, 1) := DL_law_101.2.2.2.2.2.2.1
theorem dL_law_1638 : decode cL_law 1638 = .ok (.iload 4, 2) := DL_law_101.2.2.2.2.2.2.2.1
theorem dL_law_1640 : decode cL_law 1640 = .ok (.iconst 1, 1) := DL_law_101.2.2.2.2.2.2.2.2.1
theorem dL_law_1641 : decode cL_law 1641 = .ok (.iadd, 1) := DL_law_101.2.2.2.2.2.2.2.2.2
set_option maxRecDepth 100000 in
theorem DL_law_102 : decode cL_law 1642 = .ok (.iaload, 1) ∧ decode cL_law 1643 = .ok (.aload_n 0, 1) ∧ decode cL_law 1644 = .ok (.iload 4, 2) ∧ decode cL_law 1646 = .ok (.iconst 2, 1) ∧ decode cL_law 1647 = .ok (.iadd, 1) ∧ decode cL_law 1648 = .ok (.iaload, 1) ∧ decode cL_law 1649 = .ok (.invokevirtual 184, 3) ∧ decode cL_law 1652 = .ok (.istore 6, 2) ∧ decode cL_law 1654 = .ok (.aload_n 2, 1) ∧ decode cL_law 1655 = .ok (.invokevirtual 120, 3) := by decide +kernel
theorem dL_law_1642 : decode cL_law 1642 = .ok (.iaload, 1) := DL_law_102.1
theorem dL_law_1643 : decode cL_law 1643 = .ok (.aload_n 0, 1) := DL_law_102.2.1
theorem dL_law_1644 : decode cL_law 1644 = .ok (.iload 4, 2) := DL_law_102.2.2.1
theorem dL_law_1646 : decode cL_law 1646 = .ok (.iconst 2, 1) := DL_law_102.2.2.2.1
theorem dL_law_1647 : decode cL_law 1647 = .ok (.iadd, 1) := DL_law_102.2.2.2.2.1
theorem dL_law_1648 : decode cL_law 1648 = .ok (.iaload, 1) := DL_law_102.2.2.2.2.2.1
theorem dL_law_1649 : decode cL_law 1649 = .ok (.invokevirtual 184, 3) := DL_law_102.2.2.2.2.2.2.1
theorem dL_law_1652 : decode cL_law 1652 = .ok (.istore 6, 2) := DL_law_102.2.2.2.2.2.2.2.1
theorem dL_law_1654 : decode cL_law 1654 = .ok (.aload_n 2, 1) := DL_law_102.2.2.2.2.2.2.2.2.1
theorem dL_law_1655 : decode cL_law 1655 = .ok (.invokevirtual 120, 3) := DL_law_102.2.2.2.2.2.2.2.2.2
set_option maxRecDepth 100000 in
theorem DL_law_103 : decode cL_law 1658 = .ok (.iload 5, 2) ∧ decode cL_law 1660 = .ok (.if_icmp .eq 5, 3) ∧ decode cL_law 1663 = .ok (.iconst 0, 1) ∧ decode cL_law 1664 = .ok (.ireturn, 1) ∧ decode cL_law 1665 = .ok (.iload 5, 2) ∧ decode cL_law 1667 = .ok (.ifCond .ne 15, 3) ∧ decode cL_law 1670 = .ok (.aload_n 3, 1) ∧ decode cL_law 1671 = .ok (.iconst 0, 1) ∧ decode cL_law 1672 = .ok (.laload, 1) ∧ decode cL_law 1673 = .ok (.iload 6, 2) := by decide +kernel
theorem dL_law_1658 : decode cL_law 1658 = .ok (.iload 5, 2) := DL_law_103.1
theorem dL_law_1660 : decode cL_law 1660 = .ok (.if_icmp .eq 5, 3) := DL_law_103.2.1
theorem dL_law_1663 : decode cL_law 1663 = .ok (.iconst 0, 1) := DL_law_103.2.2.1
theorem dL_law_1664 : decode cL_law 1664 = .ok (.ireturn, 1) := DL_law_103.2.2.2.1
theorem dL_law_1665 : decode cL_law 1665 = .ok (.iload 5, 2) := DL_law_103.2.2.2.2.1
theorem dL_law_1667 : decode cL_law 1667 = .ok (.ifCond .ne 15, 3) := DL_law_103.2.2.2.2.2.1
theorem dL_law_1670 : decode cL_law 1670 = .ok (.aload_n 3, 1) := DL_law_103.2.2.2.2.2.2.1
theorem dL_law_1671 : decode cL_law 1671 = .ok (.iconst 0, 1) := DL_law_103.2.2.2.2.2.2.2.1
theorem dL_law_1672 : decode cL_law 1672 = .ok (.laload, 1) := DL_law_103.2.2.2.2.2.2.2.2.1
theorem dL_law_1673 : decode cL_law 1673 = .ok (.iload 6, 2) := DL_law_103.2.2.2.2.2.2.2.2.2
set_option maxRecDepth 100000 in
theorem DL_law_104 : decode cL_law 1675 = .ok (.i2l, 1) ∧ decode cL_law 1676 = .ok (.lcmp, 1) ∧ decode cL_law 1677 = .ok (.ifCond .eq 5, 3) ∧ decode cL_law 1680 = .ok (.iconst 0, 1) ∧ decode cL_law 1681 = .ok (.ireturn, 1) ∧ decode cL_law 1682 = .ok (.goto 594, 3) ∧ decode cL_law 1685 = .ok (.aload_n 1, 1) ∧ decode cL_law 1686 = .ok (.aload_n 0, 1) ∧ decode cL_law 1687 = .ok (.iload 4, 2) ∧ decode cL_law 1689 = .ok (.iconst 1, 1) := by decide +kernel
theorem dL_law_1675 : decode cL_law 1675 = .ok (.i2l, 1) := DL_law_104.1
theorem dL_law_1676 : decode cL_law 1676 = .ok (.lcmp, 1) := DL_law_104.2.1
theorem dL_law_1677 : decode cL_law 1677 = .ok (.ifCond .eq 5, 3) := DL_law_104.2.2.1
theorem dL_law_1680 : decode cL_law 1680 = .ok (.iconst 0, 1) := DL_law_104.2.2.2.1
theorem dL_law_1681 : decode cL_law 1681 = .ok (.ireturn, 1) := DL_law_104.2.2.2.2.1
theorem dL_law_1682 : decode cL_law 1682 = .ok (.goto 594, 3) := DL_law_104.2.2.2.2.2.1
theorem dL_law_1685 : decode cL_law 1685 = .ok (.aload_n 1, 1) := DL_law_104.2.2.2.2.2.2.1
theorem dL_law_1686 : decode cL_law 1686 = .ok (.aload_n 0, 1) := DL_law_104.2.2.2.2.2.2.2.1
theorem dL_law_1687 : decode cL_law 1687 = .ok (.iload 4, 2) := DL_law_104.2.2.2.2.2.2.2.2.1
theorem dL_law_1689 : decode cL_law 1689 = .ok (.iconst 1, 1) := DL_law_104.2.2.2.2.2.2.2.2.2
set_option maxRecDepth 100000 in
theorem DL_law_105 : decode cL_law 1690 = .ok (.iadd, 1) ∧ decode cL_law 1691 = .ok (.iaload, 1) ∧ decode cL_law 1692 = .ok (.aload_n 0, 1) ∧ decode cL_law 1693 = .ok (.iload 4, 2) ∧ decode cL_law 1695 = .ok (.iconst 2, 1) ∧ decode cL_law 1696 = .ok (.iadd, 1) ∧ decode cL_law 1697 = .ok (.iaload, 1) ∧ decode cL_law 1698 = .ok (.aload_n 3, 1) ∧ decode cL_law 1699 = .ok (.invokestatic 185, 3) ∧ decode cL_law 1702 = .ok (.istore 5, 2) := by decide +kernel
theorem dL_law_1690 : decode cL_law 1690 = .ok (.iadd, 1) := DL_law_105.1
theorem dL_law_1691 : decode cL_law 1691 = .ok (.iaload, 1) := DL_law_105.2.1
theorem dL_law_1692 : decode cL_law 1692 = .ok (.aload_n 0, 1) := DL_law_105.2.2.1
theorem dL_law_1693 : decode cL_law 1693 = .ok (.iload 4, 2) := DL_law_105.2.2.2.1
theorem dL_law_1695 : decode cL_law 1695 = .ok (.iconst 2, 1) := DL_law_105.2.2.2.2.1
theorem dL_law_1696 : decode cL_law 1696 = .ok (.iadd, 1) := DL_law_105.2.2.2.2.2.1
theorem dL_law_1697 : decode cL_law 1697 = .ok (.iaload, 1) := DL_law_105.2.2.2.2.2.2.1
theorem dL_law_1698 : decode cL_law 1698 = .ok (.aload_n 3, 1) := DL_law_105.2.2.2.2.2.2.2.1
theorem dL_law_1699 : decode cL_law 1699 = .ok (.invokestatic 185, 3) := DL_law_105.2.2.2.2.2.2.2.2.1
theorem dL_law_1702 : decode cL_law 1702 = .ok (.istore 5, 2) := DL_law_105.2.2.2.2.2.2.2.2.2
set_option maxRecDepth 100000 in
theorem DL_law_106 : decode cL_law 1704 = .ok (.aload_n 2, 1) ∧ decode cL_law 1705 = .ok (.aload_n 0, 1) ∧ decode cL_law 1706 = .ok (.iload 4, 2) ∧ decode cL_law 1708 = .ok (.iconst 1, 1) ∧ decode cL_law 1709 = .ok (.iadd, 1) ∧ decode cL_law 1710 = .ok (.iaload, 1) ∧ decode cL_law 1711 = .ok (.aload_n 0, 1) ∧ decode cL_law 1712 = .ok (.iload 4, 2) ∧ decode cL_law 1714 = .ok (.iconst 2, 1) ∧ decode cL_law 1715 = .ok (.iadd, 1) := by decide +kernel
theorem dL_law_1704 : decode cL_law 1704 = .ok (.aload_n 2, 1) := DL_law_106.1
theorem dL_law_1705 : decode cL_law 1705 = .ok (.aload_n 0, 1) := DL_law_106.2.1
theorem dL_law_1706 : decode cL_law 1706 = .ok (.iload 4, 2) := DL_law_106.2.2.1
theorem dL_law_1708 : decode cL_law 1708 = .ok (.iconst 1, 1) := DL_law_106.2.2.2.1
theorem dL_law_1709 : decode cL_law 1709 = .ok (.iadd, 1) := DL_law_106.2.2.2.2.1
theorem dL_law_1710 : decode cL_law 1710 = .ok (.iaload, 1) := DL_law_106.2.2.2.2.2.1
theorem dL_law_1711 : decode cL_law 1711 = .ok (.aload_n 0, 1) := DL_law_106.2.2.2.2.2.2.1
theorem dL_law_1712 : decode cL_law 1712 = .ok (.iload 4, 2) := DL_law_106.2.2.2.2.2.2.2.1
theorem dL_law_1714 : decode cL_law 1714 = .ok (.iconst 2, 1) := DL_law_106.2.2.2.2.2.2.2.2.1
theorem dL_law_1715 : decode cL_law 1715 = .ok (.iadd, 1) := DL_law_106.2.2.2.2.2.2.2.2.2
set_option maxRecDepth 100000 in
theorem DL_law_107 : decode cL_law 1716 = .ok (.iaload, 1) ∧ decode cL_law 1717 = .ok (.invokevirtual 187, 3) ∧ decode cL_law 1720 = .ok (.istore 6, 2) ∧ decode cL_law 1722 = .ok (.aload_n 2, 1) ∧ decode cL_law 1723 = .ok (.invokevirtual 120, 3) ∧ decode cL_law 1726 = .ok (.iload 5, 2) ∧ decode cL_law 1728 = .ok (.if_icmp .eq 5, 3) ∧ decode cL_law 1731 = .ok (.iconst 0, 1) ∧ decode cL_law 1732 = .ok (.ireturn, 1) ∧ decode cL_law 1733 = .ok (.iload 5, 2) := by decide +kernel
theorem dL_law_1716 : decode cL_law 1716 = .ok (.iaload, 1) := DL_law_107.1
theorem dL_law_1717 : decode cL_law 1717 = .ok (.invokevirtual 187, 3) := DL_law_107.2.1
theorem dL_law_1720 : decode cL_law 1720 = .ok (.istore 6, 2) := DL_law_107.2.2.1
theorem dL_law_1722 : decode cL_law 1722 = .ok (.aload_n 2, 1) := DL_law_107.2.2.2.1
theorem dL_law_1723 : decode cL_law 1723 = .ok (.invokevirtual 120, 3) := DL_law_107.2.2.2.2.1
theorem dL_law_1726 : decode cL_law 1726 = .ok (.iload 5, 2) := DL_law_107.2.2.2.2.2.1
theorem dL_law_1728 : decode cL_law 1728 = .ok (.if_icmp .eq 5, 3) := DL_law_107.2.2.2.2.2.2.1
theorem dL_law_1731 : decode cL_law 1731 = .ok (.iconst 0, 1) := DL_law_107.2.2.2.2.2.2.2.1
theorem dL_law_1732 : decode cL_law 1732 = .ok (.ireturn, 1) := DL_law_107.2.2.2.2.2.2.2.2.1
theorem dL_law_1733 : decode cL_law 1733 = .ok (.iload 5, 2) := DL_law_107.2.2.2.2.2.2.2.2.2
set_option maxRecDepth 100000 in
theorem DL_law_108 : decode cL_law 1735 = .ok (.ifCond .ne 15, 3) ∧ decode cL_law 1738 = .ok (.aload_n 3, 1) ∧ decode cL_law 1739 = .ok (.iconst 0, 1) ∧ decode cL_law 1740 = .ok (.laload, 1) ∧ decode cL_law 1741 = .ok (.iload 6, 2) ∧ decode cL_law 1743 = .ok (.i2l, 1) ∧ decode cL_law 1744 = .ok (.lcmp, 1) ∧ decode cL_law 1745 = .ok (.ifCond .eq 5, 3) ∧ decode cL_law 1748 = .ok (.iconst 0, 1) ∧ decode cL_law 1749 = .ok (.ireturn, 1) := by decide +kernel
theorem dL_law_1735 : decode cL_law 1735 = .ok (.ifCond .ne 15, 3) := DL_law_108.1
theorem dL_law_1738 : decode cL_law 1738 = .ok (.aload_n 3, 1) := DL_law_108.2.1
theorem dL_law_1739 : decode cL_law 1739 = .ok (.iconst 0, 1) := DL_law_108.2.2.1
theorem dL_law_1740 : decode cL_law 1740 = .ok (.laload, 1) := DL_law_108.2.2.2.1
theorem dL_law_1741 : decode cL_law 1741 = .ok (.iload 6, 2) := DL_law_108.2.2.2.2.1
theorem dL_law_1743 : decode cL_law 1743 = .ok (.i2l, 1) := DL_law_108.2.2.2.2.2.1
theorem dL_law_1744 : decode cL_law 1744 = .ok (.lcmp, 1) := DL_law_108.2.2.2.2.2.2.1
theorem dL_law_1745 : decode cL_law 1745 = .ok (.ifCond .eq 5, 3) := DL_law_108.2.2.2.2.2.2.2.1
theorem dL_law_1748 : decode cL_law 1748 = .ok (.iconst 0, 1) := DL_law_108.2.2.2.2.2.2.2.2.1
theorem dL_law_1749 : decode cL_law 1749 = .ok (.ireturn, 1) := DL_law_108.2.2.2.2.2.2.2.2.2
set_option maxRecDepth 100000 in
theorem DL_law_109 : decode cL_law 1750 = .ok (.goto 526, 3) ∧ decode cL_law 1753 = .ok (.aload_n 1, 1) ∧ decode cL_law 1754 = .ok (.aload_n 0, 1) ∧ decode cL_law 1755 = .ok (.iload 4, 2) ∧ decode cL_law 1757 = .ok (.iconst 1, 1) ∧ decode cL_law 1758 = .ok (.iadd, 1) ∧ decode cL_law 1759 = .ok (.iaload, 1) ∧ decode cL_law 1760 = .ok (.aload_n 3, 1) ∧ decode cL_law 1761 = .ok (.invokestatic 188, 3) ∧ decode cL_law 1764 = .ok (.istore 5, 2) := by decide +kernel
theorem dL_law_1750 : decode cL_law 1750 = .ok (.goto 526, 3) := DL_law_109.1
theorem dL_law_1753 : decode cL_law 1753 = .ok (.aload_n 1, 1) := DL_law_109.2.1
theorem dL_law_1754 : decode cL_law 1754 = .ok (.aload_n 0, 1) := DL_law_109.2.2.1
theorem dL_law_1755 : decode cL_law 1755 = .ok (.iload 4, 2) := DL_law_109.2.2.2.1
theorem dL_law_1757 : decode cL_law 1757 = .ok (.iconst 1, 1) := DL_law_109.2.2.2.2.1
theorem dL_law_1758 : decode cL_law 1758 = .ok (.iadd, 1) := DL_law_109.2.2.2.2.2.1
theorem dL_law_1759 : decode cL_law 1759 = .ok (.iaload, 1) := DL_law_109.2.2.2.2.2.2.1
theorem dL_law_1760 : decode cL_law 1760 = .ok (.aload_n 3, 1) := DL_law_109.2.2.2.2.2.2.2.1
theorem dL_law_1761 : decode cL_law 1761 = .ok (.invokestatic 188, 3) := DL_law_109.2.2.2.2.2.2.2.2.1
theorem dL_law_1764 : decode cL_law 1764 = .ok (.istore 5, 2) := DL_law_109.2.2.2.2.2.2.2.2.2
set_option maxRecDepth 100000 in
theorem DL_law_110 : decode cL_law 1766 = .ok (.aload_n 2, 1) ∧ decode cL_law 1767 = .ok (.aload_n 0, 1) ∧ decode cL_law 1768 = .ok (.iload 4, 2) ∧ decode cL_law 1770 = .ok (.iconst 1, 1) ∧ decode cL_law 1771 = .ok (.iadd, 1) ∧ decode cL_law 1772 = .ok (.iaload, 1) ∧ decode cL_law 1773 = .ok (.invokevirtual 190, 3) ∧ decode cL_law 1776 = .ok (.istore 6, 2) ∧ decode cL_law 1778 = .ok (.aload_n 2, 1) ∧ decode cL_law 1779 = .ok (.invokevirtual 120, 3) := by decide +kernel
theorem dL_law_1766 : decode cL_law 1766 = .ok (.aload_n 2, 1) := DL_law_110.1
theorem dL_law_1767 : decode cL_law 1767 = .ok (.aload_n 0, 1) := DL_law_110.2.1
theorem dL_law_1768 : decode cL_law 1768 = .ok (.iload 4, 2) := DL_law_110.2.2.1
theorem dL_law_1770 : decode cL_law 1770 = .ok (.iconst 1, 1) := DL_law_110.2.2.2.1
theorem dL_law_1771 : decode cL_law 1771 = .ok (.iadd, 1) := DL_law_110.2.2.2.2.1
theorem dL_law_1772 : decode cL_law 1772 = .ok (.iaload, 1) := DL_law_110.2.2.2.2.2.1
theorem dL_law_1773 : decode cL_law 1773 = .ok (.invokevirtual 190, 3) := DL_law_110.2.2.2.2.2.2.1
theorem dL_law_1776 : decode cL_law 1776 = .ok (.istore 6, 2) := DL_law_110.2.2.2.2.2.2.2.1
theorem dL_law_1778 : decode cL_law 1778 = .ok (.aload_n 2, 1) := DL_law_110.2.2.2.2.2.2.2.2.1
theorem dL_law_1779 : decode cL_law 1779 = .ok (.invokevirtual 120, 3) := DL_law_110.2.2.2.2.2.2.2.2.2
set_option maxRecDepth 100000 in
theorem DL_law_111 : decode cL_law 1782 = .ok (.iload 5, 2) ∧ decode cL_law 1784 = .ok (.if_icmp .eq 5, 3) ∧ decode cL_law 1787 = .ok (.iconst 0, 1) ∧ decode cL_law 1788 = .ok (.ireturn, 1) ∧ decode cL_law 1789 = .ok (.iload 5, 2) ∧ decode cL_law 1791 = .ok (.ifCond .ne 22, 3) ∧ decode cL_law 1794 = .ok (.aload_n 3, 1) ∧ decode cL_law 1795 = .ok (.iconst 0, 1) ∧ decode cL_law 1796 = .ok (.laload, 1) ∧ decode cL_law 1797 = .ok (.iload 6, 2) := by decide +kernel
theorem dL_law_1782 : decode cL_law 1782 = .ok (.iload 5, 2) := DL_law_111.1
theorem dL_law_1784 : decode cL_law 1784 = .ok (.if_icmp .eq 5, 3) := DL_law_111.2.1
theorem dL_law_1787 : decode cL_law 1787 = .ok (.iconst 0, 1) := DL_law_111.2.2.1
theorem dL_law_1788 : decode cL_law 1788 = .ok (.ireturn, 1) := DL_law_111.2.2.2.1
theorem dL_law_1789 : decode cL_law 1789 = .ok (.iload 5, 2) := DL_law_111.2.2.2.2.1
theorem dL_law_1791 : decode cL_law 1791 = .ok (.ifCond .ne 22, 3) := DL_law_111.2.2.2.2.2.1
theorem dL_law_1794 : decode cL_law 1794 = .ok (.aload_n 3, 1) := DL_law_111.2.2.2.2.2.2.1
theorem dL_law_1795 : decode cL_law 1795 = .ok (.iconst 0, 1) := DL_law_111.2.2.2.2.2.2.2.1
theorem dL_law_1796 : decode cL_law 1796 = .ok (.laload, 1) := DL_law_111.2.2.2.2.2.2.2.2.1
theorem dL_law_1797 : decode cL_law 1797 = .ok (.iload 6, 2) := DL_law_111.2.2.2.2.2.2.2.2.2
set_option maxRecDepth 100000 in
theorem DL_law_112 : decode cL_law 1799 = .ok (.ifCond .eq 7, 3) ∧ decode cL_law 1802 = .ok (.lconst 1, 1) ∧ decode cL_law 1803 = .ok (.goto 4, 3) ∧ decode cL_law 1806 = .ok (.lconst 0, 1) ∧ decode cL_law 1807 = .ok (.lcmp, 1) ∧ decode cL_law 1808 = .ok (.ifCond .eq 5, 3) ∧ decode cL_law 1811 = .ok (.iconst 0, 1) ∧ decode cL_law 1812 = .ok (.ireturn, 1) ∧ decode cL_law 1813 = .ok (.goto 463, 3) ∧ decode cL_law 1816 = .ok (.aload_n 1, 1) := by decide +kernel
theorem dL_law_1799 : decode cL_law 1799 = .ok (.ifCond .eq 7, 3) := DL_law_112.1
theorem dL_law_1802 : decode cL_law 1802 = .ok (.lconst 1, 1) := DL_law_112.2.1
theorem dL_law_1803 : decode cL_law 1803 = .ok (.goto 4, 3) := DL_law_112.2.2.1
theorem dL_law_1806 : decode cL_law 1806 = .ok (.lconst 0, 1) := DL_law_112.2.2.2.1
theorem dL_law_1807 : decode cL_law 1807 = .ok (.lcmp, 1) := DL_law_112.2.2.2.2.1
theorem dL_law_1808 : decode cL_law 1808 = .ok (.ifCond .eq 5, 3) := DL_law_112.2.2.2.2.2.1
theorem dL_law_1811 : decode cL_law 1811 = .ok (.iconst 0, 1) := DL_law_112.2.2.2.2.2.2.1
theorem dL_law_1812 : decode cL_law 1812 = .ok (.ireturn, 1) := DL_law_112.2.2.2.2.2.2.2.1
theorem dL_law_1813 : decode cL_law 1813 = .ok (.goto 463, 3) := DL_law_112.2.2.2.2.2.2.2.2.1
theorem dL_law_1816 : decode cL_law 1816 = .ok (.aload_n 1, 1) := DL_law_112.2.2.2.2.2.2.2.2.2
set_option maxRecDepth 100000 in
theorem DL_law_113 : decode cL_law 1817 = .ok (.aload_n 0, 1) ∧ decode cL_law 1818 = .ok (.iload 4, 2) ∧ decode cL_law 1820 = .ok (.iconst 1, 1) ∧ decode cL_law 1821 = .ok (.iadd, 1) ∧ decode cL_law 1822 = .ok (.iaload, 1) ∧ decode cL_law 1823 = .ok (.aload_n 3, 1) ∧ decode cL_law 1824 = .ok (.invokestatic 191, 3) ∧ decode cL_law 1827 = .ok (.istore 5, 2) ∧ decode cL_law 1829 = .ok (.aload_n 2, 1) ∧ decode cL_law 1830 = .ok (.aload_n 0, 1) := by decide +kernel
theorem dL_law_1817 : decode cL_law 1817 = .ok (.aload_n 0, 1) := DL_law_113.1
theorem dL_law_1818 : decode cL_law 1818 = .ok (.iload 4, 2) := DL_law_113.2.1
theorem dL_law_1820 : decode cL_law 1820 = .ok (.iconst 1, 1) := DL_law_113.2.2.1
theorem dL_law_1821 : decode cL_law 1821 = .ok (.iadd, 1) := DL_law_113.2.2.2.1
theorem dL_law_1822 : decode cL_law 1822 = .ok (.iaload, 1) := DL_law_113.2.2.2.2.1
theorem dL_law_1823 : decode cL_law 1823 = .ok (.aload_n 3, 1) := DL_law_113.2.2.2.2.2.1
theorem dL_law_1824 : decode cL_law 1824 = .ok (.invokestatic 191, 3) := DL_law_113.2.2.2.2.2.2.1
theorem dL_law_1827 : decode cL_law 1827 = .ok (.istore 5, 2) := DL_law_113.2.2.2.2.2.2.2.1
theorem dL_law_1829 : decode cL_law 1829 = .ok (.aload_n 2, 1) := DL_law_113.2.2.2.2.2.2.2.2.1
theorem dL_law_1830 : decode cL_law 1830 = .ok (.aload_n 0, 1) := DL_law_113.2.2.2.2.2.2.2.2.2
set_option maxRecDepth 100000 in
theorem DL_law_114 : decode cL_law 1831 = .ok (.iload 4, 2) ∧ decode cL_law 1833 = .ok (.iconst 1, 1) ∧ decode cL_law 1834 = .ok (.iadd, 1) ∧ decode cL_law 1835 = .ok (.iaload, 1) ∧ decode cL_law 1836 = .ok (.invokevirtual 193, 3) ∧ decode cL_law 1839 = .ok (.istore 6, 2) ∧ decode cL_law 1841 = .ok (.aload_n 2, 1) ∧ decode cL_law 1842 = .ok (.invokevirtual 120, 3) ∧ decode cL_law 1845 = .ok (.iload 5, 2) ∧ decode cL_law 1847 = .ok (.if_icmp .eq 5, 3) := by decide +kernel
theorem dL_law_1831 : decode cL_law 1831 = .ok (.iload 4, 2) := DL_law_114.1
theorem dL_law_1833 : decode cL_law 1833 = .ok (.iconst 1, 1) := DL_law_114.2.1
theorem dL_law_1834 : decode cL_law 1834 = .ok (.iadd, 1) := DL_law_114.2.2.1
theorem dL_law_1835 : decode cL_law 1835 = .ok (.iaload, 1) := DL_law_114.2.2.2.1
theorem dL_law_1836 : decode cL_law 1836 = .ok (.invokevirtual 193, 3) := DL_law_114.2.2.2.2.1
theorem dL_law_1839 : decode cL_law 1839 = .ok (.istore 6, 2) := DL_law_114.2.2.2.2.2.1
theorem dL_law_1841 : decode cL_law 1841 = .ok (.aload_n 2, 1) := DL_law_114.2.2.2.2.2.2.1
theorem dL_law_1842 : decode cL_law 1842 = .ok (.invokevirtual 120, 3) := DL_law_114.2.2.2.2.2.2.2.1
theorem dL_law_1845 : decode cL_law 1845 = .ok (.iload 5, 2) := DL_law_114.2.2.2.2.2.2.2.2.1
theorem dL_law_1847 : decode cL_law 1847 = .ok (.if_icmp .eq 5, 3) := DL_law_114.2.2.2.2.2.2.2.2.2
set_option maxRecDepth 100000 in
theorem DL_law_115 : decode cL_law 1850 = .ok (.iconst 0, 1) ∧ decode cL_law 1851 = .ok (.ireturn, 1) ∧ decode cL_law 1852 = .ok (.iload 5, 2) ∧ decode cL_law 1854 = .ok (.ifCond .ne 15, 3) ∧ decode cL_law 1857 = .ok (.aload_n 3, 1) ∧ decode cL_law 1858 = .ok (.iconst 0, 1) ∧ decode cL_law 1859 = .ok (.laload, 1) ∧ decode cL_law 1860 = .ok (.iload 6, 2) ∧ decode cL_law 1862 = .ok (.i2l, 1) ∧ decode cL_law 1863 = .ok (.lcmp, 1) := by decide +kernel
theorem dL_law_1850 : decode cL_law 1850 = .ok (.iconst 0, 1) := DL_law_115.1
theorem dL_law_1851 : decode cL_law 1851 = .ok (.ireturn, 1) := DL_law_115.2.1
theorem dL_law_1852 : decode cL_law 1852 = .ok (.iload 5, 2) := DL_law_115.2.2.1
theorem dL_law_1854 : decode cL_law 1854 = .ok (.ifCond .ne 15, 3) := DL_law_115.2.2.2.1
theorem dL_law_1857 : decode cL_law 1857 = .ok (.aload_n 3, 1) := DL_law_115.2.2.2.2.1
theorem dL_law_1858 : decode cL_law 1858 = .ok (.iconst 0, 1) := DL_law_115.2.2.2.2.2.1
theorem dL_law_1859 : decode cL_law 1859 = .ok (.laload, 1) := DL_law_115.2.2.2.2.2.2.1
theorem dL_law_1860 : decode cL_law 1860 = .ok (.iload 6, 2) := DL_law_115.2.2.2.2.2.2.2.1
theorem dL_law_1862 : decode cL_law 1862 = .ok (.i2l, 1) := DL_law_115.2.2.2.2.2.2.2.2.1
theorem dL_law_1863 : decode cL_law 1863 = .ok (.lcmp, 1) := DL_law_115.2.2.2.2.2.2.2.2.2
set_option maxRecDepth 100000 in
theorem DL_law_116 : decode cL_law 1864 = .ok (.ifCond .eq 5, 3) ∧ decode cL_law 1867 = .ok (.iconst 0, 1) ∧ decode cL_law 1868 = .ok (.ireturn, 1) ∧ decode cL_law 1869 = .ok (.goto 407, 3) ∧ decode cL_law 1872 = .ok (.aload_n 1, 1) ∧ decode cL_law 1873 = .ok (.aload_n 0, 1) ∧ decode cL_law 1874 = .ok (.iload 4, 2) ∧ decode cL_law 1876 = .ok (.iconst 1, 1) ∧ decode cL_law 1877 = .ok (.iadd, 1) ∧ decode cL_law 1878 = .ok (.iaload, 1) := by decide +kernel
theorem dL_law_1864 : decode cL_law 1864 = .ok (.ifCond .eq 5, 3) := DL_law_116.1
theorem dL_law_1867 : decode cL_law 1867 = .ok (.iconst 0, 1) := DL_law_116.2.1
theorem dL_law_1868 : decode cL_law 1868 = .ok (.ireturn, 1) := DL_law_116.2.2.1
theorem dL_law_1869 : decode cL_law 1869 = .ok (.goto 407, 3) := DL_law_116.2.2.2.1
theorem dL_law_1872 : decode cL_law 1872 = .ok (.aload_n 1, 1) := DL_law_116.2.2.2.2.1
theorem dL_law_1873 : decode cL_law 1873 = .ok (.aload_n 0, 1) := DL_law_116.2.2.2.2.2.1
theorem dL_law_1874 : decode cL_law 1874 = .ok (.iload 4, 2) := DL_law_116.2.2.2.2.2.2.1
theorem dL_law_1876 : decode cL_law 1876 = .ok (.iconst 1, 1) := DL_law_116.2.2.2.2.2.2.2.1
theorem dL_law_1877 : decode cL_law 1877 = .ok (.iadd, 1) := DL_law_116.2.2.2.2.2.2.2.2.1
theorem dL_law_1878 : decode cL_law 1878 = .ok (.iaload, 1) := DL_law_116.2.2.2.2.2.2.2.2.2
set_option maxRecDepth 100000 in
theorem DL_law_117 : decode cL_law 1879 = .ok (.aload_n 0, 1) ∧ decode cL_law 1880 = .ok (.iload 4, 2) ∧ decode cL_law 1882 = .ok (.iconst 2, 1) ∧ decode cL_law 1883 = .ok (.iadd, 1) ∧ decode cL_law 1884 = .ok (.iaload, 1) ∧ decode cL_law 1885 = .ok (.ifCond .eq 7, 3) ∧ decode cL_law 1888 = .ok (.iconst 1, 1) ∧ decode cL_law 1889 = .ok (.goto 4, 3) ∧ decode cL_law 1892 = .ok (.iconst 0, 1) ∧ decode cL_law 1893 = .ok (.aload_n 3, 1) := by decide +kernel
theorem dL_law_1879 : decode cL_law 1879 = .ok (.aload_n 0, 1) := DL_law_117.1
theorem dL_law_1880 : decode cL_law 1880 = .ok (.iload 4, 2) := DL_law_117.2.1
theorem dL_law_1882 : decode cL_law 1882 = .ok (.iconst 2, 1) := DL_law_117.2.2.1
theorem dL_law_1883 : decode cL_law 1883 = .ok (.iadd, 1) := DL_law_117.2.2.2.1
theorem dL_law_1884 : decode cL_law 1884 = .ok (.iaload, 1) := DL_law_117.2.2.2.2.1
theorem dL_law_1885 : decode cL_law 1885 = .ok (.ifCond .eq 7, 3) := DL_law_117.2.2.2.2.2.1
theorem dL_law_1888 : decode cL_law 1888 = .ok (.iconst 1, 1) := DL_law_117.2.2.2.2.2.2.1
theorem dL_law_1889 : decode cL_law 1889 = .ok (.goto 4, 3) := DL_law_117.2.2.2.2.2.2.2.1
theorem dL_law_1892 : decode cL_law 1892 = .ok (.iconst 0, 1) := DL_law_117.2.2.2.2.2.2.2.2.1
theorem dL_law_1893 : decode cL_law 1893 = .ok (.aload_n 3, 1) := DL_law_117.2.2.2.2.2.2.2.2.2
set_option maxRecDepth 100000 in
theorem DL_law_118 : decode cL_law 1894 = .ok (.invokestatic 194, 3) ∧ decode cL_law 1897 = .ok (.istore 5, 2) ∧ decode cL_law 1899 = .ok (.aload_n 2, 1) ∧ decode cL_law 1900 = .ok (.aload_n 0, 1) ∧ decode cL_law 1901 = .ok (.iload 4, 2) ∧ decode cL_law 1903 = .ok (.iconst 1, 1) ∧ decode cL_law 1904 = .ok (.iadd, 1) ∧ decode cL_law 1905 = .ok (.iaload, 1) ∧ decode cL_law 1906 = .ok (.aload_n 0, 1) ∧ decode cL_law 1907 = .ok (.iload 4, 2) := by decide +kernel
theorem dL_law_1894 : decode cL_law 1894 = .ok (.invokestatic 194, 3) := DL_law_118.1
theorem dL_law_1897 : decode cL_law 1897 = .ok (.istore 5, 2) := DL_law_118.2.1
theorem dL_law_1899 : decode cL_law 1899 = .ok (.aload_n 2, 1) := DL_law_118.2.2.1
theorem dL_law_1900 : decode cL_law 1900 = .ok (.aload_n 0, 1) := DL_law_118.2.2.2.1
theorem dL_law_1901 : decode cL_law 1901 = .ok (.iload 4, 2) := DL_law_118.2.2.2.2.1
theorem dL_law_1903 : decode cL_law 1903 = .ok (.iconst 1, 1) := DL_law_118.2.2.2.2.2.1
theorem dL_law_1904 : decode cL_law 1904 = .ok (.iadd, 1) := DL_law_118.2.2.2.2.2.2.1
theorem dL_law_1905 : decode cL_law 1905 = .ok (.iaload, 1) := DL_law_118.2.2.2.2.2.2.2.1
theorem dL_law_1906 : decode cL_law 1906 = .ok (.aload_n 0, 1) := DL_law_118.2.2.2.2.2.2.2.2.1
theorem dL_law_1907 : decode cL_law 1907 = .ok (.iload 4, 2) := DL_law_118.2.2.2.2.2.2.2.2.2
set_option maxRecDepth 100000 in
theorem DL_law_119 : decode cL_law 1909 = .ok (.iconst 2, 1) ∧ decode cL_law 1910 = .ok (.iadd, 1) ∧ decode cL_law 1911 = .ok (.iaload, 1) ∧ decode cL_law 1912 = .ok (.ifCond .eq 7, 3) ∧ decode cL_law 1915 = .ok (.iconst 1, 1) ∧ decode cL_law 1916 = .ok (.goto 4, 3) ∧ decode cL_law 1919 = .ok (.iconst 0, 1) ∧ decode cL_law 1920 = .ok (.invokevirtual 197, 3) ∧ decode cL_law 1923 = .ok (.istore 6, 2) ∧ decode cL_law 1925 = .ok (.aload_n 2, 1) := by decide +kernel
theorem dL_law_1909 : decode cL_law 1909 = .ok (.iconst 2, 1) := DL_law_119.1
theorem dL_law_1910 : decode cL_law 1910 = .ok (.iadd, 1) := DL_law_119.2.1
theorem dL_law_1911 : decode cL_law 1911 = .ok (.iaload, 1) := DL_law_119.2.2.1
theorem dL_law_1912 : decode cL_law 1912 = .ok (.ifCond .eq 7, 3) := DL_law_119.2.2.2.1
theorem dL_law_1915 : decode cL_law 1915 = .ok (.iconst 1, 1) := DL_law_119.2.2.2.2.1
theorem dL_law_1916 : decode cL_law 1916 = .ok (.goto 4, 3) := DL_law_119.2.2.2.2.2.1
theorem dL_law_1919 : decode cL_law 1919 = .ok (.iconst 0, 1) := DL_law_119.2.2.2.2.2.2.1
theorem dL_law_1920 : decode cL_law 1920 = .ok (.invokevirtual 197, 3) := DL_law_119.2.2.2.2.2.2.2.1
theorem dL_law_1923 : decode cL_law 1923 = .ok (.istore 6, 2) := DL_law_119.2.2.2.2.2.2.2.2.1
theorem dL_law_1925 : decode cL_law 1925 = .ok (.aload_n 2, 1) := DL_law_119.2.2.2.2.2.2.2.2.2
set_option maxRecDepth 100000 in
theorem DL_law_120 : decode cL_law 1926 = .ok (.invokevirtual 120, 3) ∧ decode cL_law 1929 = .ok (.iload 5, 2) ∧ decode cL_law 1931 = .ok (.if_icmp .eq 5, 3) ∧ decode cL_law 1934 = .ok (.iconst 0, 1) ∧ decode cL_law 1935 = .ok (.ireturn, 1) ∧ decode cL_law 1936 = .ok (.iload 5, 2) ∧ decode cL_law 1938 = .ok (.ifCond .ne 15, 3) ∧ decode cL_law 1941 = .ok (.aload_n 3, 1) ∧ decode cL_law 1942 = .ok (.iconst 0, 1) ∧ decode cL_law 1943 = .ok (.laload, 1) := by decide +kernel
theorem dL_law_1926 : decode cL_law 1926 = .ok (.invokevirtual 120, 3) := DL_law_120.1
theorem dL_law_1929 : decode cL_law 1929 = .ok (.iload 5, 2) := DL_law_120.2.1
theorem dL_law_1931 : decode cL_law 1931 = .ok (.if_icmp .eq 5, 3) := DL_law_120.2.2.1
theorem dL_law_1934 : decode cL_law 1934 = .ok (.iconst 0, 1) := DL_law_120.2.2.2.1
theorem dL_law_1935 : decode cL_law 1935 = .ok (.ireturn, 1) := DL_law_120.2.2.2.2.1
theorem dL_law_1936 : decode cL_law 1936 = .ok (.iload 5, 2) := DL_law_120.2.2.2.2.2.1
theorem dL_law_1938 : decode cL_law 1938 = .ok (.ifCond .ne 15, 3) := DL_law_120.2.2.2.2.2.2.1
theorem dL_law_1941 : decode cL_law 1941 = .ok (.aload_n 3, 1) := DL_law_120.2.2.2.2.2.2.2.1
theorem dL_law_1942 : decode cL_law 1942 = .ok (.iconst 0, 1) := DL_law_120.2.2.2.2.2.2.2.2.1
theorem dL_law_1943 : decode cL_law 1943 = .ok (.laload, 1) := DL_law_120.2.2.2.2.2.2.2.2.2
set_option maxRecDepth 100000 in
theorem DL_law_121 : decode cL_law 1944 = .ok (.iload 6, 2) ∧ decode cL_law 1946 = .ok (.i2l, 1) ∧ decode cL_law 1947 = .ok (.lcmp, 1) ∧ decode cL_law 1948 = .ok (.ifCond .eq 5, 3) ∧ decode cL_law 1951 = .ok (.iconst 0, 1) ∧ decode cL_law 1952 = .ok (.ireturn, 1) ∧ decode cL_law 1953 = .ok (.goto 323, 3) ∧ decode cL_law 1956 = .ok (.aload_n 1, 1) ∧ decode cL_law 1957 = .ok (.aload_n 0, 1) ∧ decode cL_law 1958 = .ok (.iload 4, 2) := by decide +kernel
theorem dL_law_1944 : decode cL_law 1944 = .ok (.iload 6, 2) := DL_law_121.1
theorem dL_law_1946 : decode cL_law 1946 = .ok (.i2l, 1) := DL_law_121.2.1
theorem dL_law_1947 : decode cL_law 1947 = .ok (.lcmp, 1) := DL_law_121.2.2.1
theorem dL_law_1948 : decode cL_law 1948 = .ok (.ifCond .eq 5, 3) := DL_law_121.2.2.2.1
theorem dL_law_1951 : decode cL_law 1951 = .ok (.iconst 0, 1) := DL_law_121.2.2.2.2.1
theorem dL_law_1952 : decode cL_law 1952 = .ok (.ireturn, 1) := DL_law_121.2.2.2.2.2.1
theorem dL_law_1953 : decode cL_law 1953 = .ok (.goto 323, 3) := DL_law_121.2.2.2.2.2.2.1
theorem dL_law_1956 : decode cL_law 1956 = .ok (.aload_n 1, 1) := DL_law_121.2.2.2.2.2.2.2.1
theorem dL_law_1957 : decode cL_law 1957 = .ok (.aload_n 0, 1) := DL_law_121.2.2.2.2.2.2.2.2.1
theorem dL_law_1958 : decode cL_law 1958 = .ok (.iload 4, 2) := DL_law_121.2.2.2.2.2.2.2.2.2
set_option maxRecDepth 100000 in
theorem DL_law_122 : decode cL_law 1960 = .ok (.iconst 1, 1) ∧ decode cL_law 1961 = .ok (.iadd, 1) ∧ decode cL_law 1962 = .ok (.iaload, 1) ∧ decode cL_law 1963 = .ok (.aload_n 0, 1) ∧ decode cL_law 1964 = .ok (.iload 4, 2) ∧ decode cL_law 1966 = .ok (.iconst 2, 1) ∧ decode cL_law 1967 = .ok (.iadd, 1) ∧ decode cL_law 1968 = .ok (.iaload, 1) ∧ decode cL_law 1969 = .ok (.aload_n 3, 1) ∧ decode cL_law 1970 = .ok (.invokestatic 198, 3) := by decide +kernel
theorem dL_law_1960 : decode cL_law 1960 = .ok (.iconst 1, 1) := DL_law_122.1
theorem dL_law_1961 : decode cL_law 1961 = .ok (.iadd, 1) := DL_law_122.2.1
theorem dL_law_1962 : decode cL_law 1962 = .ok (.iaload, 1) := DL_law_122.2.2.1
theorem dL_law_1963 : decode cL_law 1963 = .ok (.aload_n 0, 1) := DL_law_122.2.2.2.1
theorem dL_law_1964 : decode cL_law 1964 = .ok (.iload 4, 2) := DL_law_122.2.2.2.2.1
theorem dL_law_1966 : decode cL_law 1966 = .ok (.iconst 2, 1) := DL_law_122.2.2.2.2.2.1
theorem dL_law_1967 : decode cL_law 1967 = .ok (.iadd, 1) := DL_law_122.2.2.2.2.2.2.1
theorem dL_law_1968 : decode cL_law 1968 = .ok (.iaload, 1) := DL_law_122.2.2.2.2.2.2.2.1
theorem dL_law_1969 : decode cL_law 1969 = .ok (.aload_n 3, 1) := DL_law_122.2.2.2.2.2.2.2.2.1
theorem dL_law_1970 : decode cL_law 1970 = .ok (.invokestatic 198, 3) := DL_law_122.2.2.2.2.2.2.2.2.2
set_option maxRecDepth 100000 in
theorem DL_law_123 : decode cL_law 1973 = .ok (.istore 5, 2) ∧ decode cL_law 1975 = .ok (.aload_n 2, 1) ∧ decode cL_law 1976 = .ok (.aload_n 0, 1) ∧ decode cL_law 1977 = .ok (.iload 4, 2) ∧ decode cL_law 1979 = .ok (.iconst 1, 1) ∧ decode cL_law 1980 = .ok (.iadd, 1) ∧ decode cL_law 1981 = .ok (.iaload, 1) ∧ decode cL_law 1982 = .ok (.aload_n 0, 1) ∧ decode cL_law 1983 = .ok (.iload 4, 2) ∧ decode cL_law 1985 = .ok (.iconst 2, 1) := by decide +kernel
theorem dL_law_1973 : decode cL_law 1973 = .ok (.istore 5, 2) := DL_law_123.1
theorem dL_law_1975 : decode cL_law 1975 = .ok (.aload_n 2, 1) := DL_law_123.2.1
theorem dL_law_1976 : decode cL_law 1976 = .ok (.aload_n 0, 1) := DL_law_123.2.2.1
theorem dL_law_1977 : decode cL_law 1977 = .ok (.iload 4, 2) := DL_law_123.2.2.2.1
theorem dL_law_1979 : decode cL_law 1979 = .ok (.iconst 1, 1) := DL_law_123.2.2.2.2.1
theorem dL_law_1980 : decode cL_law 1980 = .ok (.iadd, 1) := DL_law_123.2.2.2.2.2.1
theorem dL_law_1981 : decode cL_law 1981 = .ok (.iaload, 1) := DL_law_123.2.2.2.2.2.2.1
theorem dL_law_1982 : decode cL_law 1982 = .ok (.aload_n 0, 1) := DL_law_123.2.2.2.2.2.2.2.1
theorem dL_law_1983 : decode cL_law 1983 = .ok (.iload 4, 2) := DL_law_123.2.2.2.2.2.2.2.2.1
theorem dL_law_1985 : decode cL_law 1985 = .ok (.iconst 2, 1) := DL_law_123.2.2.2.2.2.2.2.2.2
set_option maxRecDepth 100000 in
theorem DL_law_124 : decode cL_law 1986 = .ok (.iadd, 1) ∧ decode cL_law 1987 = .ok (.iaload, 1) ∧ decode cL_law 1988 = .ok (.invokevirtual 200, 3) ∧ decode cL_law 1991 = .ok (.istore 6, 2) ∧ decode cL_law 1993 = .ok (.aload_n 2, 1) ∧ decode cL_law 1994 = .ok (.invokevirtual 120, 3) ∧ decode cL_law 1997 = .ok (.iload 5, 2) ∧ decode cL_law 1999 = .ok (.if_icmp .eq 5, 3) ∧ decode cL_law 2002 = .ok (.iconst 0, 1) ∧ decode cL_law 2003 = .ok (.ireturn, 1) := by decide +kernel
theorem dL_law_1986 : decode cL_law 1986 = .ok (.iadd, 1) := DL_law_124.1
theorem dL_law_1987 : decode cL_law 1987 = .ok (.iaload, 1) := DL_law_124.2.1
theorem dL_law_1988 : decode cL_law 1988 = .ok (.invokevirtual 200, 3) := DL_law_124.2.2.1
theorem dL_law_1991 : decode cL_law 1991 = .ok (.istore 6, 2) := DL_law_124.2.2.2.1
theorem dL_law_1993 : decode cL_law 1993 = .ok (.aload_n 2, 1) := DL_law_124.2.2.2.2.1
theorem dL_law_1994 : decode cL_law 1994 = .ok (.invokevirtual 120, 3) := DL_law_124.2.2.2.2.2.1
theorem dL_law_1997 : decode cL_law 1997 = .ok (.iload 5, 2) := DL_law_124.2.2.2.2.2.2.1
theorem dL_law_1999 : decode cL_law 1999 = .ok (.if_icmp .eq 5, 3) := DL_law_124.2.2.2.2.2.2.2.1
theorem dL_law_2002 : decode cL_law 2002 = .ok (.iconst 0, 1) := DL_law_124.2.2.2.2.2.2.2.2.1
theorem dL_law_2003 : decode cL_law 2003 = .ok (.ireturn, 1) := DL_law_124.2.2.2.2.2.2.2.2.2
set_option maxRecDepth 100000 in
theorem DL_law_125 : decode cL_law 2004 = .ok (.iload 5, 2) ∧ decode cL_law 2006 = .ok (.ifCond .ne 15, 3) ∧ decode cL_law 2009 = .ok (.aload_n 3, 1) ∧ decode cL_law 2010 = .ok (.iconst 0, 1) ∧ decode cL_law 2011 = .ok (.laload, 1) ∧ decode cL_law 2012 = .ok (.iload 6, 2) ∧ decode cL_law 2014 = .ok (.i2l, 1) ∧ decode cL_law 2015 = .ok (.lcmp, 1) ∧ decode cL_law 2016 = .ok (.ifCond .eq 5, 3) ∧ decode cL_law 2019 = .ok (.iconst 0, 1) := by decide +kernel
theorem dL_law_2004 : decode cL_law 2004 = .ok (.iload 5, 2) := DL_law_125.1
theorem dL_law_2006 : decode cL_law 2006 = .ok (.ifCond .ne 15, 3) := DL_law_125.2.1
theorem dL_law_2009 : decode cL_law 2009 = .ok (.aload_n 3, 1) := DL_law_125.2.2.1
theorem dL_law_2010 : decode cL_law 2010 = .ok (.iconst 0, 1) := DL_law_125.2.2.2.1
theorem dL_law_2011 : decode cL_law 2011 = .ok (.laload, 1) := DL_law_125.2.2.2.2.1
theorem dL_law_2012 : decode cL_law 2012 = .ok (.iload 6, 2) := DL_law_125.2.2.2.2.2.1
theorem dL_law_2014 : decode cL_law 2014 = .ok (.i2l, 1) := DL_law_125.2.2.2.2.2.2.1
theorem dL_law_2015 : decode cL_law 2015 = .ok (.lcmp, 1) := DL_law_125.2.2.2.2.2.2.2.1
theorem dL_law_2016 : decode cL_law 2016 = .ok (.ifCond .eq 5, 3) := DL_law_125.2.2.2.2.2.2.2.2.1
theorem dL_law_2019 : decode cL_law 2019 = .ok (.iconst 0, 1) := DL_law_125.2.2.2.2.2.2.2.2.2
set_option maxRecDepth 100000 in
theorem DL_law_126 : decode cL_law 2020 = .ok (.ireturn, 1) ∧ decode cL_law 2021 = .ok (.goto 255, 3) ∧ decode cL_law 2024 = .ok (.aload_n 1, 1) ∧ decode cL_law 2025 = .ok (.aload_n 0, 1) ∧ decode cL_law 2026 = .ok (.iload 4, 2) ∧ decode cL_law 2028 = .ok (.iconst 1, 1) ∧ decode cL_law 2029 = .ok (.iadd, 1) ∧ decode cL_law 2030 = .ok (.iaload, 1) ∧ decode cL_law 2031 = .ok (.aload_n 3, 1) ∧ decode cL_law 2032 = .ok (.invokestatic 201, 3) := by decide +kernel
theorem dL_law_2020 : decode cL_law 2020 = .ok (.ireturn, 1) := DL_law_126.1
theorem dL_law_2021 : decode cL_law 2021 = .ok (.goto 255, 3) := DL_law_126.2.1
theorem dL_law_2024 : decode cL_law 2024 = .ok (.aload_n 1, 1) := DL_law_126.2.2.1
theorem dL_law_2025 : decode cL_law 2025 = .ok (.aload_n 0, 1) := DL_law_126.2.2.2.1
theorem dL_law_2026 : decode cL_law 2026 = .ok (.iload 4, 2) := DL_law_126.2.2.2.2.1
theorem dL_law_2028 : decode cL_law 2028 = .ok (.iconst 1, 1) := DL_law_126.2.2.2.2.2.1
theorem dL_law_2029 : decode cL_law 2029 = .ok (.iadd, 1) := DL_law_126.2.2.2.2.2.2.1
theorem dL_law_2030 : decode cL_law 2030 = .ok (.iaload, 1) := DL_law_126.2.2.2.2.2.2.2.1
theorem dL_law_2031 : decode cL_law 2031 = .ok (.aload_n 3, 1) := DL_law_126.2.2.2.2.2.2.2.2.1
theorem dL_law_2032 : decode cL_law 2032 = .ok (.invokestatic 201, 3) := DL_law_126.2.2.2.2.2.2.2.2.2
set_option maxRecDepth 100000 in
theorem DL_law_127 : decode cL_law 2035 = .ok (.istore 5, 2) ∧ decode cL_law 2037 = .ok (.aload_n 2, 1) ∧ decode cL_law 2038 = .ok (.aload_n 0, 1) ∧ decode cL_law 2039 = .ok (.iload 4, 2) ∧ decode cL_law 2041 = .ok (.iconst 1, 1) ∧ decode cL_law 2042 = .ok (.iadd, 1) ∧ decode cL_law 2043 = .ok (.iaload, 1) ∧ decode cL_law 2044 = .ok (.invokevirtual 203, 3) ∧ decode cL_law 2047 = .ok (.istore 6, 2) ∧ decode cL_law 2049 = .ok (.aload_n 2, 1) := by decide +kernel
theorem dL_law_2035 : decode cL_law 2035 = .ok (.istore 5, 2) := DL_law_127.1
theorem dL_law_2037 : decode cL_law 2037 = .ok (.aload_n 2, 1) := DL_law_127.2.1
theorem dL_law_2038 : decode cL_law 2038 = .ok (.aload_n 0, 1) := DL_law_127.2.2.1
theorem dL_law_2039 : decode cL_law 2039 = .ok (.iload 4, 2) := DL_law_127.2.2.2.1
theorem dL_law_2041 : decode cL_law 2041 = .ok (.iconst 1, 1) := DL_law_127.2.2.2.2.1
theorem dL_law_2042 : decode cL_law 2042 = .ok (.iadd, 1) := DL_law_127.2.2.2.2.2.1
theorem dL_law_2043 : decode cL_law 2043 = .ok (.iaload, 1) := DL_law_127.2.2.2.2.2.2.1
theorem dL_law_2044 : decode cL_law 2044 = .ok (.invokevirtual 203, 3) := DL_law_127.2.2.2.2.2.2.2.1
theorem dL_law_2047 : decode cL_law 2047 = .ok (.istore 6, 2) := DL_law_127.2.2.2.2.2.2.2.2.1
theorem dL_law_2049 : decode cL_law 2049 = .ok (.aload_n 2, 1) := DL_law_127.2.2.2.2.2.2.2.2.2
set_option maxRecDepth 100000 in
theorem DL_law_128 : decode cL_law 2050 = .ok (.invokevirtual 120, 3) ∧ decode cL_law 2053 = .ok (.iload 5, 2) ∧ decode cL_law 2055 = .ok (.if_icmp .eq 5, 3) ∧ decode cL_law 2058 = .ok (.iconst 0, 1) ∧ decode cL_law 2059 = .ok (.ireturn, 1) ∧ decode cL_law 2060 = .ok (.iload 5, 2) ∧ decode cL_law 2062 = .ok (.ifCond .ne 15, 3) ∧ decode cL_law 2065 = .ok (.aload_n 3, 1) ∧ decode cL_law 2066 = .ok (.iconst 0, 1) ∧ decode cL_law 2067 = .ok (.laload, 1) := by decide +kernel
theorem dL_law_2050 : decode cL_law 2050 = .ok (.invokevirtual 120, 3) := DL_law_128.1
theorem dL_law_2053 : decode cL_law 2053 = .ok (.iload 5, 2) := DL_law_128.2.1
theorem dL_law_2055 : decode cL_law 2055 = .ok (.if_icmp .eq 5, 3) := DL_law_128.2.2.1
theorem dL_law_2058 : decode cL_law 2058 = .ok (.iconst 0, 1) := DL_law_128.2.2.2.1
theorem dL_law_2059 : decode cL_law 2059 = .ok (.ireturn, 1) := DL_law_128.2.2.2.2.1
theorem dL_law_2060 : decode cL_law 2060 = .ok (.iload 5, 2) := DL_law_128.2.2.2.2.2.1
theorem dL_law_2062 : decode cL_law 2062 = .ok (.ifCond .ne 15, 3) := DL_law_128.2.2.2.2.2.2.1
theorem dL_law_2065 : decode cL_law 2065 = .ok (.aload_n 3, 1) := DL_law_128.2.2.2.2.2.2.2.1
theorem dL_law_2066 : decode cL_law 2066 = .ok (.iconst 0, 1) := DL_law_128.2.2.2.2.2.2.2.2.1
theorem dL_law_2067 : decode cL_law 2067 = .ok (.laload, 1) := DL_law_128.2.2.2.2.2.2.2.2.2
set_option maxRecDepth 100000 in
theorem DL_law_129 : decode cL_law 2068 = .ok (.iload 6, 2) ∧ decode cL_law 2070 = .ok (.i2l, 1) ∧ decode cL_law 2071 = .ok (.lcmp, 1) ∧ decode cL_law 2072 = .ok (.ifCond .eq 5, 3) ∧ decode cL_law 2075 = .ok (.iconst 0, 1) ∧ decode cL_law 2076 = .ok (.ireturn, 1) ∧ decode cL_law 2077 = .ok (.goto 199, 3) ∧ decode cL_law 2080 = .ok (.aload_n 1, 1) ∧ decode cL_law 2081 = .ok (.aload_n 0, 1) ∧ decode cL_law 2082 = .ok (.iload 4, 2) := by decide +kernel
theorem dL_law_2068 : decode cL_law 2068 = .ok (.iload 6, 2) := DL_law_129.1
theorem dL_law_2070 : decode cL_law 2070 = .ok (.i2l, 1) := DL_law_129.2.1
theorem dL_law_2071 : decode cL_law 2071 = .ok (.lcmp, 1) := DL_law_129.2.2.1
theorem dL_law_2072 : decode cL_law 2072 = .ok (.ifCond .eq 5, 3) := DL_law_129.2.2.2.1
theorem dL_law_2075 : decode cL_law 2075 = .ok (.iconst 0, 1) := DL_law_129.2.2.2.2.1
theorem dL_law_2076 : decode cL_law 2076 = .ok (.ireturn, 1) := DL_law_129.2.2.2.2.2.1
theorem dL_law_2077 : decode cL_law 2077 = .ok (.goto 199, 3) := DL_law_129.2.2.2.2.2.2.1
theorem dL_law_2080 : decode cL_law 2080 = .ok (.aload_n 1, 1) := DL_law_129.2.2.2.2.2.2.2.1
theorem dL_law_2081 : decode cL_law 2081 = .ok (.aload_n 0, 1) := DL_law_129.2.2.2.2.2.2.2.2.1
theorem dL_law_2082 : decode cL_law 2082 = .ok (.iload 4, 2) := DL_law_129.2.2.2.2.2.2.2.2.2
set_option maxRecDepth 100000 in
theorem DL_law_130 : decode cL_law 2084 = .ok (.iconst 1, 1) ∧ decode cL_law 2085 = .ok (.iadd, 1) ∧ decode cL_law 2086 = .ok (.iaload, 1) ∧ decode cL_law 2087 = .ok (.aload_n 3, 1) ∧ decode cL_law 2088 = .ok (.invokestatic 204, 3) ∧ decode cL_law 2091 = .ok (.istore 5, 2) ∧ decode cL_law 2093 = .ok (.aload_n 2, 1) ∧ decode cL_law 2094 = .ok (.aload_n 0, 1) ∧ decode cL_law 2095 = .ok (.iload 4, 2) ∧ decode cL_law 2097 = .ok (.iconst 1, 1) := by decide +kernel
theorem dL_law_2084 : decode cL_law 2084 = .ok (.iconst 1, 1) := DL_law_130.1
theorem dL_law_2085 : decode cL_law 2085 = .ok (.iadd, 1) := DL_law_130.2.1
theorem dL_law_2086 : decode cL_law 2086 = .ok (.iaload, 1) := DL_law_130.2.2.1
theorem dL_law_2087 : decode cL_law 2087 = .ok (.aload_n 3, 1) := DL_law_130.2.2.2.1
theorem dL_law_2088 : decode cL_law 2088 = .ok (.invokestatic 204, 3) := DL_law_130.2.2.2.2.1
theorem dL_law_2091 : decode cL_law 2091 = .ok (.istore 5, 2) := DL_law_130.2.2.2.2.2.1
theorem dL_law_2093 : decode cL_law 2093 = .ok (.aload_n 2, 1) := DL_law_130.2.2.2.2.2.2.1
theorem dL_law_2094 : decode cL_law 2094 = .ok (.aload_n 0, 1) := DL_law_130.2.2.2.2.2.2.2.1
theorem dL_law_2095 : decode cL_law 2095 = .ok (.iload 4, 2) := DL_law_130.2.2.2.2.2.2.2.2.1
theorem dL_law_2097 : decode cL_law 2097 = .ok (.iconst 1, 1) := DL_law_130.2.2.2.2.2.2.2.2.2
set_option maxRecDepth 100000 in
theorem DL_law_131 : decode cL_law 2098 = .ok (.iadd, 1) ∧ decode cL_law 2099 = .ok (.iaload, 1) ∧ decode cL_law 2100 = .ok (.invokevirtual 206, 3) ∧ decode cL_law 2103 = .ok (.istore 6, 2) ∧ decode cL_law 2105 = .ok (.aload_n 2, 1) ∧ decode cL_law 2106 = .ok (.invokevirtual 120, 3) ∧ decode cL_law 2109 = .ok (.iload 5, 2) ∧ decode cL_law 2111 = .ok (.if_icmp .eq 5, 3) ∧ decode cL_law 2114 = .ok (.iconst 0, 1) ∧ decode cL_law 2115 = .ok (.ireturn, 1) := by decide +kernel
theorem dL_law_2098 : decode cL_law 2098 = .ok (.iadd, 1) := DL_law_131.1
theorem dL_law_2099 : decode cL_law 2099 = .ok (.iaload, 1) := DL_law_131.2.1
theorem dL_law_2100 : decode cL_law 2100 = .ok (.invokevirtual 206, 3) := DL_law_131.2.2.1
theorem dL_law_2103 : decode cL_law 2103 = .ok (.istore 6, 2) := DL_law_131.2.2.2.1
theorem dL_law_2105 : decode cL_law 2105 = .ok (.aload_n 2, 1) := DL_law_131.2.2.2.2.1
theorem dL_law_2106 : decode cL_law 2106 = .ok (.invokevirtual 120, 3) := DL_law_131.2.2.2.2.2.1
theorem dL_law_2109 : decode cL_law 2109 = .ok (.iload 5, 2) := DL_law_131.2.2.2.2.2.2.1
theorem dL_law_2111 : decode cL_law 2111 = .ok (.if_icmp .eq 5, 3) := DL_law_131.2.2.2.2.2.2.2.1
theorem dL_law_2114 : decode cL_law 2114 = .ok (.iconst 0, 1) := DL_law_131.2.2.2.2.2.2.2.2.1
theorem dL_law_2115 : decode cL_law 2115 = .ok (.ireturn, 1) := DL_law_131.2.2.2.2.2.2.2.2.2
set_option maxRecDepth 100000 in
theorem DL_law_132 : decode cL_law 2116 = .ok (.iload 5, 2) ∧ decode cL_law 2118 = .ok (.ifCond .ne 15, 3) ∧ decode cL_law 2121 = .ok (.aload_n 3, 1) ∧ decode cL_law 2122 = .ok (.iconst 0, 1) ∧ decode cL_law 2123 = .ok (.laload, 1) ∧ decode cL_law 2124 = .ok (.iload 6, 2) ∧ decode cL_law 2126 = .ok (.i2l, 1) ∧ decode cL_law 2127 = .ok (.lcmp, 1) ∧ decode cL_law 2128 = .ok (.ifCond .eq 5, 3) ∧ decode cL_law 2131 = .ok (.iconst 0, 1) := by decide +kernel
theorem dL_law_2116 : decode cL_law 2116 = .ok (.iload 5, 2) := DL_law_132.1
theorem dL_law_2118 : decode cL_law 2118 = .ok (.ifCond .ne 15, 3) := DL_law_132.2.1
theorem dL_law_2121 : decode cL_law 2121 = .ok (.aload_n 3, 1) := DL_law_132.2.2.1
theorem dL_law_2122 : decode cL_law 2122 = .ok (.iconst 0, 1) := DL_law_132.2.2.2.1
theorem dL_law_2123 : decode cL_law 2123 = .ok (.laload, 1) := DL_law_132.2.2.2.2.1
theorem dL_law_2124 : decode cL_law 2124 = .ok (.iload 6, 2) := DL_law_132.2.2.2.2.2.1
theorem dL_law_2126 : decode cL_law 2126 = .ok (.i2l, 1) := DL_law_132.2.2.2.2.2.2.1
theorem dL_law_2127 : decode cL_law 2127 = .ok (.lcmp, 1) := DL_law_132.2.2.2.2.2.2.2.1
theorem dL_law_2128 : decode cL_law 2128 = .ok (.ifCond .eq 5, 3) := DL_law_132.2.2.2.2.2.2.2.2.1
theorem dL_law_2131 : decode cL_law 2131 = .ok (.iconst 0, 1) := DL_law_132.2.2.2.2.2.2.2.2.2
set_option maxRecDepth 100000 in
theorem DL_law_133 : decode cL_law 2132 = .ok (.ireturn, 1) ∧ decode cL_law 2133 = .ok (.goto 143, 3) ∧ decode cL_law 2136 = .ok (.aload_n 1, 1) ∧ decode cL_law 2137 = .ok (.aload_n 0, 1) ∧ decode cL_law 2138 = .ok (.iload 4, 2) ∧ decode cL_law 2140 = .ok (.iconst 1, 1) ∧ decode cL_law 2141 = .ok (.iadd, 1) ∧ decode cL_law 2142 = .ok (.iaload, 1) ∧ decode cL_law 2143 = .ok (.aload_n 3, 1) ∧ decode cL_law 2144 = .ok (.invokestatic 207, 3) := by decide +kernel
theorem dL_law_2132 : decode cL_law 2132 = .ok (.ireturn, 1) := DL_law_133.1
theorem dL_law_2133 : decode cL_law 2133 = .ok (.goto 143, 3) := DL_law_133.2.1
theorem dL_law_2136 : decode cL_law 2136 = .ok (.aload_n 1, 1) := DL_law_133.2.2.1
theorem dL_law_2137 : decode cL_law 2137 = .ok (.aload_n 0, 1) := DL_law_133.2.2.2.1
theorem dL_law_2138 : decode cL_law 2138 = .ok (.iload 4, 2) := DL_law_133.2.2.2.2.1
theorem dL_law_2140 : decode cL_law 2140 = .ok (.iconst 1, 1) := DL_law_133.2.2.2.2.2.1
theorem dL_law_2141 : decode cL_law 2141 = .ok (.iadd, 1) := DL_law_133.2.2.2.2.2.2.1
theorem dL_law_2142 : decode cL_law 2142 = .ok (.iaload, 1) := DL_law_133.2.2.2.2.2.2.2.1
theorem dL_law_2143 : decode cL_law 2143 = .ok (.aload_n 3, 1) := DL_law_133.2.2.2.2.2.2.2.2.1
theorem dL_law_2144 : decode cL_law 2144 = .ok (.invokestatic 207, 3) := DL_law_133.2.2.2.2.2.2.2.2.2
set_option maxRecDepth 100000 in
theorem DL_law_134 : decode cL_law 2147 = .ok (.istore 5, 2) ∧ decode cL_law 2149 = .ok (.aload_n 2, 1) ∧ decode cL_law 2150 = .ok (.aload_n 0, 1) ∧ decode cL_law 2151 = .ok (.iload 4, 2) ∧ decode cL_law 2153 = .ok (.iconst 1, 1) ∧ decode cL_law 2154 = .ok (.iadd, 1) ∧ decode cL_law 2155 = .ok (.iaload, 1) ∧ decode cL_law 2156 = .ok (.invokevirtual 209, 3) ∧ decode cL_law 2159 = .ok (.lstore 6, 2) ∧ decode cL_law 2161 = .ok (.aload_n 2, 1) := by decide +kernel
theorem dL_law_2147 : decode cL_law 2147 = .ok (.istore 5, 2) := DL_law_134.1
theorem dL_law_2149 : decode cL_law 2149 = .ok (.aload_n 2, 1) := DL_law_134.2.1
theorem dL_law_2150 : decode cL_law 2150 = .ok (.aload_n 0, 1) := DL_law_134.2.2.1
theorem dL_law_2151 : decode cL_law 2151 = .ok (.iload 4, 2) := DL_law_134.2.2.2.1
theorem dL_law_2153 : decode cL_law 2153 = .ok (.iconst 1, 1) := DL_law_134.2.2.2.2.1
theorem dL_law_2154 : decode cL_law 2154 = .ok (.iadd, 1) := DL_law_134.2.2.2.2.2.1
theorem dL_law_2155 : decode cL_law 2155 = .ok (.iaload, 1) := DL_law_134.2.2.2.2.2.2.1
theorem dL_law_2156 : decode cL_law 2156 = .ok (.invokevirtual 209, 3) := DL_law_134.2.2.2.2.2.2.2.1
theorem dL_law_2159 : decode cL_law 2159 = .ok (.lstore 6, 2) := DL_law_134.2.2.2.2.2.2.2.2.1
theorem dL_law_2161 : decode cL_law 2161 = .ok (.aload_n 2, 1) := DL_law_134.2.2.2.2.2.2.2.2.2
set_option maxRecDepth 100000 in
theorem DL_law_135 : decode cL_law 2162 = .ok (.invokevirtual 120, 3) ∧ decode cL_law 2165 = .ok (.iload 5, 2) ∧ decode cL_law 2167 = .ok (.if_icmp .eq 5, 3) ∧ decode cL_law 2170 = .ok (.iconst 0, 1) ∧ decode cL_law 2171 = .ok (.ireturn, 1) ∧ decode cL_law 2172 = .ok (.iload 5, 2) ∧ decode cL_law 2174 = .ok (.ifCond .ne 14, 3) ∧ decode cL_law 2177 = .ok (.aload_n 3, 1) ∧ decode cL_law 2178 = .ok (.iconst 0, 1) ∧ decode cL_law 2179 = .ok (.laload, 1) := by decide +kernel
theorem dL_law_2162 : decode cL_law 2162 = .ok (.invokevirtual 120, 3) := DL_law_135.1
theorem dL_law_2165 : decode cL_law 2165 = .ok (.iload 5, 2) := DL_law_135.2.1
theorem dL_law_2167 : decode cL_law 2167 = .ok (.if_icmp .eq 5, 3) := DL_law_135.2.2.1
theorem dL_law_2170 : decode cL_law 2170 = .ok (.iconst 0, 1) := DL_law_135.2.2.2.1
theorem dL_law_2171 : decode cL_law 2171 = .ok (.ireturn, 1) := DL_law_135.2.2.2.2.1
theorem dL_law_2172 : decode cL_law 2172 = .ok (.iload 5, 2) := DL_law_135.2.2.2.2.2.1
theorem dL_law_2174 : decode cL_law 2174 = .ok (.ifCond .ne 14, 3) := DL_law_135.2.2.2.2.2.2.1
theorem dL_law_2177 : decode cL_law 2177 = .ok (.aload_n 3, 1) := DL_law_135.2.2.2.2.2.2.2.1
theorem dL_law_2178 : decode cL_law 2178 = .ok (.iconst 0, 1) := DL_law_135.2.2.2.2.2.2.2.2.1
theorem dL_law_2179 : decode cL_law 2179 = .ok (.laload, 1) := DL_law_135.2.2.2.2.2.2.2.2.2
set_option maxRecDepth 100000 in
theorem DL_law_136 : decode cL_law 2180 = .ok (.lload 6, 2) ∧ decode cL_law 2182 = .ok (.lcmp, 1) ∧ decode cL_law 2183 = .ok (.ifCond .eq 5, 3) ∧ decode cL_law 2186 = .ok (.iconst 0, 1) ∧ decode cL_law 2187 = .ok (.ireturn, 1) ∧ decode cL_law 2188 = .ok (.goto 88, 3) ∧ decode cL_law 2191 = .ok (.aload_n 1, 1) ∧ decode cL_law 2192 = .ok (.invokevirtual 210, 3) ∧ decode cL_law 2195 = .ok (.aload_n 2, 1) ∧ decode cL_law 2196 = .ok (.invokevirtual 214, 3) := by decide +kernel
theorem dL_law_2180 : decode cL_law 2180 = .ok (.lload 6, 2) := DL_law_136.1
theorem dL_law_2182 : decode cL_law 2182 = .ok (.lcmp, 1) := DL_law_136.2.1
theorem dL_law_2183 : decode cL_law 2183 = .ok (.ifCond .eq 5, 3) := DL_law_136.2.2.1
theorem dL_law_2186 : decode cL_law 2186 = .ok (.iconst 0, 1) := DL_law_136.2.2.2.1
theorem dL_law_2187 : decode cL_law 2187 = .ok (.ireturn, 1) := DL_law_136.2.2.2.2.1
theorem dL_law_2188 : decode cL_law 2188 = .ok (.goto 88, 3) := DL_law_136.2.2.2.2.2.1
theorem dL_law_2191 : decode cL_law 2191 = .ok (.aload_n 1, 1) := DL_law_136.2.2.2.2.2.2.1
theorem dL_law_2192 : decode cL_law 2192 = .ok (.invokevirtual 210, 3) := DL_law_136.2.2.2.2.2.2.2.1
theorem dL_law_2195 : decode cL_law 2195 = .ok (.aload_n 2, 1) := DL_law_136.2.2.2.2.2.2.2.2.1
theorem dL_law_2196 : decode cL_law 2196 = .ok (.invokevirtual 214, 3) := DL_law_136.2.2.2.2.2.2.2.2.2
set_option maxRecDepth 100000 in
theorem DL_law_137 : decode cL_law 2199 = .ok (.lcmp, 1) ∧ decode cL_law 2200 = .ok (.ifCond .eq 76, 3) ∧ decode cL_law 2203 = .ok (.iconst 0, 1) ∧ decode cL_law 2204 = .ok (.ireturn, 1) ∧ decode cL_law 2205 = .ok (.aload_n 1, 1) ∧ decode cL_law 2206 = .ok (.invokevirtual 215, 3) ∧ decode cL_law 2209 = .ok (.aload_n 2, 1) ∧ decode cL_law 2210 = .ok (.invokevirtual 218, 3) ∧ decode cL_law 2213 = .ok (.if_icmp .eq 63, 3) ∧ decode cL_law 2216 = .ok (.iconst 0, 1) := by decide +kernel
theorem dL_law_2199 : decode cL_law 2199 = .ok (.lcmp, 1) := DL_law_137.1
theorem dL_law_2200 : decode cL_law 2200 = .ok (.ifCond .eq 76, 3) := DL_law_137.2.1
theorem dL_law_2203 : decode cL_law 2203 = .ok (.iconst 0, 1) := DL_law_137.2.2.1
theorem dL_law_2204 : decode cL_law 2204 = .ok (.ireturn, 1) := DL_law_137.2.2.2.1
theorem dL_law_2205 : decode cL_law 2205 = .ok (.aload_n 1, 1) := DL_law_137.2.2.2.2.1
theorem dL_law_2206 : decode cL_law 2206 = .ok (.invokevirtual 215, 3) := DL_law_137.2.2.2.2.2.1
theorem dL_law_2209 : decode cL_law 2209 = .ok (.aload_n 2, 1) := DL_law_137.2.2.2.2.2.2.1
theorem dL_law_2210 : decode cL_law 2210 = .ok (.invokevirtual 218, 3) := DL_law_137.2.2.2.2.2.2.2.1
theorem dL_law_2213 : decode cL_law 2213 = .ok (.if_icmp .eq 63, 3) := DL_law_137.2.2.2.2.2.2.2.2.1
theorem dL_law_2216 : decode cL_law 2216 = .ok (.iconst 0, 1) := DL_law_137.2.2.2.2.2.2.2.2.2
set_option maxRecDepth 100000 in
theorem DL_law_138 : decode cL_law 2217 = .ok (.ireturn, 1) ∧ decode cL_law 2218 = .ok (.aload_n 1, 1) ∧ decode cL_law 2219 = .ok (.aload_n 3, 1) ∧ decode cL_law 2220 = .ok (.invokestatic 219, 3) ∧ decode cL_law 2223 = .ok (.istore 5, 2) ∧ decode cL_law 2225 = .ok (.aload_n 2, 1) ∧ decode cL_law 2226 = .ok (.invokevirtual 222, 3) ∧ decode cL_law 2229 = .ok (.istore 6, 2) ∧ decode cL_law 2231 = .ok (.aload_n 2, 1) ∧ decode cL_law 2232 = .ok (.invokevirtual 120, 3) := by decide +kernel
theorem dL_law_2217 : decode cL_law 2217 = .ok (.ireturn, 1) := DL_law_138.1
theorem dL_law_2218 : decode cL_law 2218 = .ok (.aload_n 1, 1) := DL_law_138.2.1
theorem dL_law_2219 : decode cL_law 2219 = .ok (.aload_n 3, 1) := DL_law_138.2.2.1
theorem dL_law_2220 : decode cL_law 2220 = .ok (.invokestatic 219, 3) := DL_law_138.2.2.2.1
theorem dL_law_2223 : decode cL_law 2223 = .ok (.istore 5, 2) := DL_law_138.2.2.2.2.1
theorem dL_law_2225 : decode cL_law 2225 = .ok (.aload_n 2, 1) := DL_law_138.2.2.2.2.2.1
theorem dL_law_2226 : decode cL_law 2226 = .ok (.invokevirtual 222, 3) := DL_law_138.2.2.2.2.2.2.1
theorem dL_law_2229 : decode cL_law 2229 = .ok (.istore 6, 2) := DL_law_138.2.2.2.2.2.2.2.1
theorem dL_law_2231 : decode cL_law 2231 = .ok (.aload_n 2, 1) := DL_law_138.2.2.2.2.2.2.2.2.1
theorem dL_law_2232 : decode cL_law 2232 = .ok (.invokevirtual 120, 3) := DL_law_138.2.2.2.2.2.2.2.2.2
set_option maxRecDepth 100000 in
theorem DL_law_139 : decode cL_law 2235 = .ok (.iload 5, 2) ∧ decode cL_law 2237 = .ok (.if_icmp .eq 5, 3) ∧ decode cL_law 2240 = .ok (.iconst 0, 1) ∧ decode cL_law 2241 = .ok (.ireturn, 1) ∧ decode cL_law 2242 = .ok (.iload 5, 2) ∧ decode cL_law 2244 = .ok (.ifCond .ne 15, 3) ∧ decode cL_law 2247 = .ok (.aload_n 3, 1) ∧ decode cL_law 2248 = .ok (.iconst 0, 1) ∧ decode cL_law 2249 = .ok (.laload, 1) ∧ decode cL_law 2250 = .ok (.iload 6, 2) := by decide +kernel
theorem dL_law_2235 : decode cL_law 2235 = .ok (.iload 5, 2) := DL_law_139.1
theorem dL_law_2237 : decode cL_law 2237 = .ok (.if_icmp .eq 5, 3) := DL_law_139.2.1
theorem dL_law_2240 : decode cL_law 2240 = .ok (.iconst 0, 1) := DL_law_139.2.2.1
theorem dL_law_2241 : decode cL_law 2241 = .ok (.ireturn, 1) := DL_law_139.2.2.2.1
theorem dL_law_2242 : decode cL_law 2242 = .ok (.iload 5, 2) := DL_law_139.2.2.2.2.1
theorem dL_law_2244 : decode cL_law 2244 = .ok (.ifCond .ne 15, 3) := DL_law_139.2.2.2.2.2.1
theorem dL_law_2247 : decode cL_law 2247 = .ok (.aload_n 3, 1) := DL_law_139.2.2.2.2.2.2.1
theorem dL_law_2248 : decode cL_law 2248 = .ok (.iconst 0, 1) := DL_law_139.2.2.2.2.2.2.2.1
theorem dL_law_2249 : decode cL_law 2249 = .ok (.laload, 1) := DL_law_139.2.2.2.2.2.2.2.2.1
theorem dL_law_2250 : decode cL_law 2250 = .ok (.iload 6, 2) := DL_law_139.2.2.2.2.2.2.2.2.2
set_option maxRecDepth 100000 in
theorem DL_law_140 : decode cL_law 2252 = .ok (.i2l, 1) ∧ decode cL_law 2253 = .ok (.lcmp, 1) ∧ decode cL_law 2254 = .ok (.ifCond .eq 5, 3) ∧ decode cL_law 2257 = .ok (.iconst 0, 1) ∧ decode cL_law 2258 = .ok (.ireturn, 1) ∧ decode cL_law 2259 = .ok (.goto 17, 3) ∧ decode cL_law 2262 = .ok (.aload_n 1, 1) ∧ decode cL_law 2263 = .ok (.invokevirtual 223, 3) ∧ decode cL_law 2266 = .ok (.aload_n 2, 1) ∧ decode cL_law 2267 = .ok (.invokevirtual 226, 3) := by decide +kernel
theorem dL_law_2252 : decode cL_law 2252 = .ok (.i2l, 1) := DL_law_140.1
theorem dL_law_2253 : decode cL_law 2253 = .ok (.lcmp, 1) := DL_law_140.2.1
theorem dL_law_2254 : decode cL_law 2254 = .ok (.ifCond .eq 5, 3) := DL_law_140.2.2.1
theorem dL_law_2257 : decode cL_law 2257 = .ok (.iconst 0, 1) := DL_law_140.2.2.2.1
theorem dL_law_2258 : decode cL_law 2258 = .ok (.ireturn, 1) := DL_law_140.2.2.2.2.1
theorem dL_law_2259 : decode cL_law 2259 = .ok (.goto 17, 3) := DL_law_140.2.2.2.2.2.1
theorem dL_law_2262 : decode cL_law 2262 = .ok (.aload_n 1, 1) := DL_law_140.2.2.2.2.2.2.1
theorem dL_law_2263 : decode cL_law 2263 = .ok (.invokevirtual 223, 3) := DL_law_140.2.2.2.2.2.2.2.1
theorem dL_law_2266 : decode cL_law 2266 = .ok (.aload_n 2, 1) := DL_law_140.2.2.2.2.2.2.2.2.1
theorem dL_law_2267 : decode cL_law 2267 = .ok (.invokevirtual 226, 3) := DL_law_140.2.2.2.2.2.2.2.2.2
set_option maxRecDepth 100000 in
theorem DL_law_141 : decode cL_law 2270 = .ok (.lcmp, 1) ∧ decode cL_law 2271 = .ok (.ifCond .eq 5, 3) ∧ decode cL_law 2274 = .ok (.iconst 0, 1) ∧ decode cL_law 2275 = .ok (.ireturn, 1) ∧ decode cL_law 2276 = .ok (.iinc 4 7, 3) ∧ decode cL_law 2279 = .ok (.goto (-2256), 3) ∧ decode cL_law 2282 = .ok (.iconst 1, 1) ∧ decode cL_law 2283 = .ok (.ireturn, 1) := by decide +kernel
theorem dL_law_2270 : decode cL_law 2270 = .ok (.lcmp, 1) := DL_law_141.1
theorem dL_law_2271 : decode cL_law 2271 = .ok (.ifCond .eq 5, 3) := DL_law_141.2.1
theorem dL_law_2274 : decode cL_law 2274 = .ok (.iconst 0, 1) := DL_law_141.2.2.1
theorem dL_law_2275 : decode cL_law 2275 = .ok (.ireturn, 1) := DL_law_141.2.2.2.1
theorem dL_law_2276 : decode cL_law 2276 = .ok (.iinc 4 7, 3) := DL_law_141.2.2.2.2.1
theorem dL_law_2279 : decode cL_law 2279 = .ok (.goto (-2256), 3) := DL_law_141.2.2.2.2.2.1
theorem dL_law_2282 : decode cL_law 2282 = .ok (.iconst 1, 1) := DL_law_141.2.2.2.2.2.2.1
theorem dL_law_2283 : decode cL_law 2283 = .ok (.ireturn, 1) := DL_law_141.2.2.2.2.2.2.2

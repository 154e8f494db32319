theorem dX11_type_69 : decode cX11_type 69 = .ok (.iconst 1, 1) := by decide +kernel
theorem dX11_type_70 : decode cX11_type 70 = .ok (.isub, 1) := by decide +kernel
theorem dX11_type_71 : decode cX11_type 71 = .ok (.istore 4, 2) := by decide +kernel
theorem dX11_type_73 : decode cX11_type 73 = .ok (.iload 4, 2) := by decide +kernel
theorem dX11_type_75 : decode cX11_type 75 = .ok (.ifCond .lt 40, 3) := by decide +kernel
theorem dX11_type_78 : decode cX11_type 78 = .ok (.aload_n 0, 1) := by decide +kernel
theorem dX11_type_79 : decode cX11_type 79 = .ok (.getfield 13, 3) := by decide +kernel
theorem dX11_type_82 : decode cX11_type 82 = .ok (.aload_n 0, 1) := by decide +kernel
theorem dX11_type_83 : decode cX11_type 83 = .ok (.getfield 120, 3) := by decide +kernel
theorem dX11_type_86 : decode cX11_type 86 = .ok (.lload_n 1, 1) := by decide +kernel
theorem dX11_type_87 : decode cX11_type 87 = .ok (.bipush 8, 2) := by decide +kernel
theorem dX11_type_89 : decode cX11_type 89 = .ok (.iload 4, 2) := by decide +kernel
theorem dX11_type_91 : decode cX11_type 91 = .ok (.imul, 1) := by decide +kernel
theorem dX11_type_92 : decode cX11_type 92 = .ok (.lshr, 1) := by decide +kernel
theorem dX11_type_93 : decode cX11_type 93 = .ok (.ldc2_w 114, 3) := by decide +kernel
theorem dX11_type_96 : decode cX11_type 96 = .ok (.land, 1) := by decide +kernel
theorem dX11_type_97 : decode cX11_type 97 = .ok (.l2i, 1) := by decide +kernel
theorem dX11_type_98 : decode cX11_type 98 = .ok (.iastore, 1) := by decide +kernel
theorem dX11_type_99 : decode cX11_type 99 = .ok (.aload_n 0, 1) := by decide +kernel
theorem dX11_type_100 : decode cX11_type 100 = .ok (.dup, 1) := by decide +kernel
theorem dX11_type_101 : decode cX11_type 101 = .ok (.getfield 120, 3) := by decide +kernel
theorem dX11_type_104 : decode cX11_type 104 = .ok (.iconst 1, 1) := by decide +kernel
theorem dX11_type_105 : decode cX11_type 105 = .ok (.iadd, 1) := by decide +kernel
theorem dX11_type_106 : decode cX11_type 106 = .ok (.putfield 120, 3) := by decide +kernel
theorem dX11_type_109 : decode cX11_type 109 = .ok (.iinc 4 (-1), 3) := by decide +kernel
theorem dX11_type_112 : decode cX11_type 112 = .ok (.goto (-39), 3) := by decide +kernel
theorem dX11_type_115 : decode cX11_type 115 = .ok (.aload_n 0, 1) := by decide +kernel
theorem dX11_type_116 : decode cX11_type 116 = .ok (.getfield 120, 3) := by decide +kernel
theorem dX11_type_119 : decode cX11_type 119 = .ok (.ireturn, 1) := by decide +kernel
theorem dX11_ahead_0 : decode cX11_ahead 0 = .ok (.aload_n 0, 1) := by decide +kernel
theorem dX11_ahead_1 : decode cX11_ahead 1 = .ok (.getfield 123, 3) := by decide +kernel
theorem dX11_ahead_4 : decode cX11_ahead 4 = .ok (.aload_n 0, 1) := by decide +kernel
theorem dX11_ahead_5 : decode cX11_ahead 5 = .ok (.getfield 120, 3) := by decide +kernel
theorem dX11_ahead_8 : decode cX11_ahead 8 = .ok (.if_icmp .ge 30, 3) := by decide +kernel
theorem dX11_ahead_11 : decode cX11_ahead 11 = .ok (.aload_n 0, 1) := by decide +kernel
theorem dX11_ahead_12 : decode cX11_ahead 12 = .ok (.getfield 13, 3) := by decide +kernel
theorem dX11_ahead_15 : decode cX11_ahead 15 = .ok (.aload_n 0, 1) := by decide +kernel
theorem dX11_ahead_16 : decode cX11_ahead 16 = .ok (.getfield 123, 3) := by decide +kernel
theorem dX11_ahead_19 : decode cX11_ahead 19 = .ok (.iaload, 1) := by decide +kernel
theorem dX11_ahead_20 : decode cX11_ahead 20 = .ok (.bipush 32, 2) := by decide +kernel
theorem dX11_ahead_22 : decode cX11_ahead 22 = .ok (.if_icmp .ne 16, 3) := by decide +kernel
theorem dX11_ahead_25 : decode cX11_ahead 25 = .ok (.aload_n 0, 1) := by decide +kernel
theorem dX11_ahead_26 : decode cX11_ahead 26 = .ok (.dup, 1) := by decide +kernel
theorem dX11_ahead_27 : decode cX11_ahead 27 = .ok (.getfield 123, 3) := by decide +kernel
theorem dX11_ahead_30 : decode cX11_ahead 30 = .ok (.iconst 1, 1) := by decide +kernel
theorem dX11_ahead_31 : decode cX11_ahead 31 = .ok (.iadd, 1) := by decide +kernel
theorem dX11_ahead_32 : decode cX11_ahead 32 = .ok (.putfield 123, 3) := by decide +kernel
theorem dX11_ahead_35 : decode cX11_ahead 35 = .ok (.goto (-35), 3) := by decide +kernel
theorem dX11_ahead_38 : decode cX11_ahead 38 = .ok (.aload_n 0, 1) := by decide +kernel
theorem dX11_ahead_39 : decode cX11_ahead 39 = .ok (.getfield 123, 3) := by decide +kernel
theorem dX11_ahead_42 : decode cX11_ahead 42 = .ok (.aload_n 0, 1) := by decide +kernel
theorem dX11_ahead_43 : decode cX11_ahead 43 = .ok (.getfield 120, 3) := by decide +kernel
theorem dX11_ahead_46 : decode cX11_ahead 46 = .ok (.if_icmp .ge 15, 3) := by decide +kernel
theorem dX11_ahead_49 : decode cX11_ahead 49 = .ok (.aload_n 0, 1) := by decide +kernel
theorem dX11_ahead_50 : decode cX11_ahead 50 = .ok (.getfield 13, 3) := by decide +kernel
theorem dX11_ahead_53 : decode cX11_ahead 53 = .ok (.aload_n 0, 1) := by decide +kernel
theorem dX11_ahead_54 : decode cX11_ahead 54 = .ok (.getfield 123, 3) := by decide +kernel
theorem dX11_ahead_57 : decode cX11_ahead 57 = .ok (.iaload, 1) := by decide +kernel
theorem dX11_ahead_58 : decode cX11_ahead 58 = .ok (.goto 4, 3) := by decide +kernel
theorem dX11_ahead_61 : decode cX11_ahead 61 = .ok (.iconst (-1), 1) := by decide +kernel
theorem dX11_ahead_62 : decode cX11_ahead 62 = .ok (.ireturn, 1) := by decide +kernel
theorem dX11_kindOf_0 : decode cX11_kindOf 0 = .ok (.iload_n 0, 1) := by decide +kernel
theorem dX11_kindOf_1 : decode cX11_kindOf 1 = .ok (.bipush 111, 2) := by decide +kernel
theorem dX11_kindOf_3 : decode cX11_kindOf 3 = .ok (.if_icmp .ne 7, 3) := by decide +kernel
theorem dX11_kindOf_6 : decode cX11_kindOf 6 = .ok (.iconst 0, 1) := by decide +kernel
theorem dX11_kindOf_7 : decode cX11_kindOf 7 = .ok (.goto 34, 3) := by decide +kernel
theorem dX11_kindOf_10 : decode cX11_kindOf 10 = .ok (.iload_n 0, 1) := by decide +kernel
theorem dX11_kindOf_11 : decode cX11_kindOf 11 = .ok (.bipush 114, 2) := by decide +kernel
theorem dX11_kindOf_13 : decode cX11_kindOf 13 = .ok (.if_icmp .ne 7, 3) := by decide +kernel
theorem dX11_kindOf_16 : decode cX11_kindOf 16 = .ok (.iconst 1, 1) := by decide +kernel
theorem dX11_kindOf_17 : decode cX11_kindOf 17 = .ok (.goto 24, 3) := by decide +kernel
theorem dX11_kindOf_20 : decode cX11_kindOf 20 = .ok (.iload_n 0, 1) := by decide +kernel
theorem dX11_kindOf_21 : decode cX11_kindOf 21 = .ok (.bipush 112, 2) := by decide +kernel
theorem dX11_kindOf_23 : decode cX11_kindOf 23 = .ok (.if_icmp .ne 7, 3) := by decide +kernel
theorem dX11_kindOf_26 : decode cX11_kindOf 26 = .ok (.iconst 2, 1) := by decide +kernel
theorem dX11_kindOf_27 : decode cX11_kindOf 27 = .ok (.goto 14, 3) := by decide +kernel
theorem dX11_kindOf_30 : decode cX11_kindOf 30 = .ok (.iload_n 0, 1) := by decide +kernel
theorem dX11_kindOf_31 : decode cX11_kindOf 31 = .ok (.bipush 98, 2) := by decide +kernel
theorem dX11_kindOf_33 : decode cX11_kindOf 33 = .ok (.if_icmp .ne 7, 3) := by decide +kernel
theorem dX11_kindOf_36 : decode cX11_kindOf 36 = .ok (.iconst 3, 1) := by decide +kernel
theorem dX11_kindOf_37 : decode cX11_kindOf 37 = .ok (.goto 4, 3) := by decide +kernel
theorem dX11_kindOf_40 : decode cX11_kindOf 40 = .ok (.iconst (-1), 1) := by decide +kernel
theorem dX11_kindOf_41 : decode cX11_kindOf 41 = .ok (.ireturn, 1) := by decide +kernel
set_option maxRecDepth 20000 in
theorem ggX11_faultOf_X11_ahead : GoodIn wsX11_faultOf wsX11_ahead := goodIn_r _ [15, 1, 8, 9, 25, 26, 27, 28, 29, 30, 31, 32, 33, 34, 35, 36, 37, 38, 39, 40, 41, 42, 43, 44, 45, 46, 47, 48, 49, 50, 51, 52, 53, 54] (by decide +kernel) (by decide +kernel)
set_option maxRecDepth 20000 in
theorem gX11_faultOf_X11_ahead : GoodIn wsX11_faultOf (wsV RX11 132 RX11 yX11_ahead wsX11_ahead) := goodIn_app (goodIn_of _ (by decide +kernel)) ggX11_faultOf_X11_ahead
set_option maxRecDepth 20000 in
theorem ggX11_faultOf_X11_kindOf : GoodIn wsX11_faultOf wsX11_kindOf := goodIn_r _ [18] (by decide +kernel) (by decide +kernel)
set_option maxRecDepth 20000 in
theorem gX11_faultOf_X11_kindOf : GoodIn wsX11_faultOf (va_wsS RX11 135 yX11_kindOf wsX11_kindOf) := goodIn_app (goodIn_of _ (by decide +kernel)) ggX11_faultOf_X11_kindOf
set_option maxRecDepth 20000 in
theorem ggX11_faultOf_X11_in : GoodIn wsX11_faultOf wsX11_in := goodIn_r _ [21] (by decide +kernel) (by decide +kernel)
set_option maxRecDepth 20000 in
theorem gX11_faultOf_X11_in : GoodIn wsX11_faultOf (va_wsS RX11 81 yX11_in wsX11_in) := goodIn_app (goodIn_of _ (by decide +kernel)) ggX11_faultOf_X11_in
set_option maxRecDepth 20000 in
theorem ggX11_faultOf_X11_has : GoodIn wsX11_faultOf wsX11_has := goodIn_r _ [24] (by decide +kernel) (by decide +kernel)
set_option maxRecDepth 20000 in
theorem gX11_faultOf_X11_has : GoodIn wsX11_faultOf (va_wsS RX11 89 yX11_has wsX11_has) := goodIn_app (goodIn_of _ (by decide +kernel)) ggX11_faultOf_X11_has
theorem dX11_faultOf_0 : decode cX11_faultOf 0 = .ok (.aload_n 0, 1) := by decide +kernel
theorem dX11_faultOf_1 : decode cX11_faultOf 1 = .ok (.iconst 0, 1) := by decide +kernel
theorem dX11_faultOf_2 : decode cX11_faultOf 2 = .ok (.putfield 123, 3) := by decide +kernel
theorem dX11_faultOf_5 : decode cX11_faultOf 5 = .ok (.aload_n 0, 1) := by decide +kernel
theorem dX11_faultOf_6 : decode cX11_faultOf 6 = .ok (.iconst 0, 1) := by decide +kernel
theorem dX11_faultOf_7 : decode cX11_faultOf 7 = .ok (.putfield 126, 3) := by decide +kernel
theorem dX11_faultOf_10 : decode cX11_faultOf 10 = .ok (.aload_n 0, 1) := by decide +kernel
theorem dX11_faultOf_11 : decode cX11_faultOf 11 = .ok (.iconst 0, 1) := by decide +kernel
theorem dX11_faultOf_12 : decode cX11_faultOf 12 = .ok (.putfield 129, 3) := by decide +kernel
theorem dX11_faultOf_15 : decode cX11_faultOf 15 = .ok (.aload_n 0, 1) := by decide +kernel
theorem dX11_faultOf_16 : decode cX11_faultOf 16 = .ok (.aload_n 0, 1) := by decide +kernel
theorem dX11_faultOf_17 : decode cX11_faultOf 17 = .ok (.invokevirtual 132, 3) := by decide +kernel
theorem dX11_faultOf_20 : decode cX11_faultOf 20 = .ok (.invokestatic 135, 3) := by decide +kernel
theorem dX11_faultOf_23 : decode cX11_faultOf 23 = .ok (.putfield 138, 3) := by decide +kernel
theorem dX11_faultOf_26 : decode cX11_faultOf 26 = .ok (.aload_n 0, 1) := by decide +kernel
theorem dX11_faultOf_27 : decode cX11_faultOf 27 = .ok (.getfield 138, 3) := by decide +kernel
theorem dX11_faultOf_30 : decode cX11_faultOf 30 = .ok (.ifCond .ge 8, 3) := by decide +kernel
theorem dX11_faultOf_33 : decode cX11_faultOf 33 = .ok (.aload_n 0, 1) := by decide +kernel
theorem dX11_faultOf_34 : decode cX11_faultOf 34 = .ok (.getfield 123, 3) := by decide +kernel
theorem dX11_faultOf_37 : decode cX11_faultOf 37 = .ok (.ireturn, 1) := by decide +kernel
theorem dX11_faultOf_38 : decode cX11_faultOf 38 = .ok (.aload_n 0, 1) := by decide +kernel
theorem dX11_faultOf_39 : decode cX11_faultOf 39 = .ok (.dup, 1) := by decide +kernel
theorem dX11_faultOf_40 : decode cX11_faultOf 40 = .ok (.getfield 123, 3) := by decide +kernel
theorem dX11_faultOf_43 : decode cX11_faultOf 43 = .ok (.iconst 1, 1) := by decide +kernel
theorem dX11_faultOf_44 : decode cX11_faultOf 44 = .ok (.iadd, 1) := by decide +kernel
theorem dX11_faultOf_45 : decode cX11_faultOf 45 = .ok (.putfield 123, 3) := by decide +kernel
theorem dX11_faultOf_48 : decode cX11_faultOf 48 = .ok (.aload_n 0, 1) := by decide +kernel
theorem dX11_faultOf_49 : decode cX11_faultOf 49 = .ok (.getfield 126, 3) := by decide +kernel
theorem dX11_faultOf_52 : decode cX11_faultOf 52 = .ok (.bipush 24, 2) := by decide +kernel
theorem dX11_faultOf_54 : decode cX11_faultOf 54 = .ok (.if_icmp .ge 59, 3) := by decide +kernel
theorem dX11_faultOf_57 : decode cX11_faultOf 57 = .ok (.aload_n 0, 1) := by decide +kernel
theorem dX11_faultOf_58 : decode cX11_faultOf 58 = .ok (.invokevirtual 132, 3) := by decide +kernel
theorem dX11_faultOf_61 : decode cX11_faultOf 61 = .ok (.i2l, 1) := by decide +kernel
theorem dX11_faultOf_62 : decode cX11_faultOf 62 = .ok (.ldc2_w 141, 3) := by decide +kernel
theorem dX11_faultOf_65 : decode cX11_faultOf 65 = .ok (.ldc2_w 143, 3) := by decide +kernel
theorem dX11_faultOf_68 : decode cX11_faultOf 68 = .ok (.invokestatic 81, 3) := by decide +kernel
theorem dX11_faultOf_71 : decode cX11_faultOf 71 = .ok (.ifCond .eq 42, 3) := by decide +kernel
theorem dX11_faultOf_74 : decode cX11_faultOf 74 = .ok (.aload_n 0, 1) := by decide +kernel
theorem dX11_faultOf_75 : decode cX11_faultOf 75 = .ok (.getfield 25, 3) := by decide +kernel
theorem dX11_faultOf_78 : decode cX11_faultOf 78 = .ok (.aload_n 0, 1) := by decide +kernel
theorem dX11_faultOf_79 : decode cX11_faultOf 79 = .ok (.getfield 126, 3) := by decide +kernel
theorem dX11_faultOf_82 : decode cX11_faultOf 82 = .ok (.aload_n 0, 1) := by decide +kernel
theorem dX11_faultOf_83 : decode cX11_faultOf 83 = .ok (.invokevirtual 132, 3) := by decide +kernel
theorem dX11_faultOf_86 : decode cX11_faultOf 86 = .ok (.bipush 48, 2) := by decide +kernel
theorem dX11_faultOf_88 : decode cX11_faultOf 88 = .ok (.isub, 1) := by decide +kernel
theorem dX11_faultOf_89 : decode cX11_faultOf 89 = .ok (.iastore, 1) := by decide +kernel
theorem dX11_faultOf_90 : decode cX11_faultOf 90 = .ok (.aload_n 0, 1) := by decide +kernel
theorem dX11_faultOf_91 : decode cX11_faultOf 91 = .ok (.dup, 1) := by decide +kernel
theorem dX11_faultOf_92 : decode cX11_faultOf 92 = .ok (.getfield 126, 3) := by decide +kernel
theorem dX11_faultOf_95 : decode cX11_faultOf 95 = .ok (.iconst 1, 1) := by decide +kernel
theorem dX11_faultOf_96 : decode cX11_faultOf 96 = .ok (.iadd, 1) := by decide +kernel
theorem dX11_faultOf_97 : decode cX11_faultOf 97 = .ok (.putfield 126, 3) := by decide +kernel
theorem dX11_faultOf_100 : decode cX11_faultOf 100 = .ok (.aload_n 0, 1) := by decide +kernel
theorem dX11_faultOf_101 : decode cX11_faultOf 101 = .ok (.dup, 1) := by decide +kernel
theorem dX11_faultOf_102 : decode cX11_faultOf 102 = .ok (.getfield 123, 3) := by decide +kernel
theorem dX11_faultOf_105 : decode cX11_faultOf 105 = .ok (.iconst 1, 1) := by decide +kernel
theorem dX11_faultOf_106 : decode cX11_faultOf 106 = .ok (.iadd, 1) := by decide +kernel
theorem dX11_faultOf_107 : decode cX11_faultOf 107 = .ok (.putfield 123, 3) := by decide +kernel
theorem dX11_faultOf_110 : decode cX11_faultOf 110 = .ok (.goto (-62), 3) := by decide +kernel
theorem dX11_faultOf_113 : decode cX11_faultOf 113 = .ok (.aload_n 0, 1) := by decide +kernel
theorem dX11_faultOf_114 : decode cX11_faultOf 114 = .ok (.getfield 126, 3) := by decide +kernel
theorem dX11_faultOf_117 : decode cX11_faultOf 117 = .ok (.ifCond .ne 8, 3) := by decide +kernel
theorem dX11_faultOf_120 : decode cX11_faultOf 120 = .ok (.aload_n 0, 1) := by decide +kernel
theorem dX11_faultOf_121 : decode cX11_faultOf 121 = .ok (.getfield 123, 3) := by decide +kernel
theorem dX11_faultOf_124 : decode cX11_faultOf 124 = .ok (.ireturn, 1) := by decide +kernel
theorem dX11_faultOf_125 : decode cX11_faultOf 125 = .ok (.aload_n 0, 1) := by decide +kernel
theorem dX11_faultOf_126 : decode cX11_faultOf 126 = .ok (.getfield 126, 3) := by decide +kernel
theorem dX11_faultOf_129 : decode cX11_faultOf 129 = .ok (.aload_n 0, 1) := by decide +kernel
theorem dX11_faultOf_130 : decode cX11_faultOf 130 = .ok (.getfield 138, 3) := by decide +kernel
theorem dX11_faultOf_133 : decode cX11_faultOf 133 = .ok (.iconst 2, 1) := by decide +kernel
theorem dX11_faultOf_134 : decode cX11_faultOf 134 = .ok (.if_icmp .lt 7, 3) := by decide +kernel
theorem dX11_faultOf_137 : decode cX11_faultOf 137 = .ok (.iconst 1, 1) := by decide +kernel
theorem dX11_faultOf_138 : decode cX11_faultOf 138 = .ok (.goto 4, 3) := by decide +kernel
theorem dX11_faultOf_141 : decode cX11_faultOf 141 = .ok (.iconst 0, 1) := by decide +kernel
theorem dX11_faultOf_142 : decode cX11_faultOf 142 = .ok (.isub, 1) := by decide +kernel
theorem dX11_faultOf_143 : decode cX11_faultOf 143 = .ok (.istore_n 1, 1) := by decide +kernel
theorem dX11_faultOf_144 : decode cX11_faultOf 144 = .ok (.bipush 47, 2) := by decide +kernel
theorem dX11_faultOf_146 : decode cX11_faultOf 146 = .ok (.istore_n 2, 1) := by decide +kernel
theorem dX11_faultOf_147 : decode cX11_faultOf 147 = .ok (.iconst 0, 1) := by decide +kernel
theorem dX11_faultOf_148 : decode cX11_faultOf 148 = .ok (.istore_n 3, 1) := by decide +kernel
theorem dX11_faultOf_149 : decode cX11_faultOf 149 = .ok (.iload_n 3, 1) := by decide +kernel
theorem dX11_faultOf_150 : decode cX11_faultOf 150 = .ok (.iconst 5, 1) := by decide +kernel
theorem dX11_faultOf_151 : decode cX11_faultOf 151 = .ok (.if_icmp .ge 165, 3) := by decide +kernel
theorem dX11_faultOf_154 : decode cX11_faultOf 154 = .ok (.aload_n 0, 1) := by decide +kernel
theorem dX11_faultOf_155 : decode cX11_faultOf 155 = .ok (.invokevirtual 132, 3) := by decide +kernel
theorem dX11_faultOf_158 : decode cX11_faultOf 158 = .ok (.iload_n 2, 1) := by decide +kernel
theorem dX11_faultOf_159 : decode cX11_faultOf 159 = .ok (.if_icmp .ne 157, 3) := by decide +kernel
theorem dX11_faultOf_162 : decode cX11_faultOf 162 = .ok (.aload_n 0, 1) := by decide +kernel
theorem dX11_faultOf_163 : decode cX11_faultOf 163 = .ok (.dup, 1) := by decide +kernel
theorem dX11_faultOf_164 : decode cX11_faultOf 164 = .ok (.getfield 123, 3) := by decide +kernel
theorem dX11_faultOf_167 : decode cX11_faultOf 167 = .ok (.iconst 1, 1) := by decide +kernel
theorem dX11_faultOf_168 : decode cX11_faultOf 168 = .ok (.iadd, 1) := by decide +kernel
theorem dX11_faultOf_169 : decode cX11_faultOf 169 = .ok (.putfield 123, 3) := by decide +kernel
theorem dX11_faultOf_172 : decode cX11_faultOf 172 = .ok (.aload_n 0, 1) := by decide +kernel
theorem dX11_faultOf_173 : decode cX11_faultOf 173 = .ok (.invokevirtual 132, 3) := by decide +kernel
theorem dX11_faultOf_176 : decode cX11_faultOf 176 = .ok (.pop, 1) := by decide +kernel
theorem dX11_faultOf_177 : decode cX11_faultOf 177 = .ok (.aload_n 0, 1) := by decide +kernel
theorem dX11_faultOf_178 : decode cX11_faultOf 178 = .ok (.getfield 123, 3) := by decide +kernel
theorem dX11_faultOf_181 : decode cX11_faultOf 181 = .ok (.istore 4, 2) := by decide +kernel
theorem dX11_faultOf_183 : decode cX11_faultOf 183 = .ok (.iconst 0, 1) := by decide +kernel
theorem dX11_faultOf_184 : decode cX11_faultOf 184 = .ok (.istore 5, 2) := by decide +kernel
theorem dX11_faultOf_186 : decode cX11_faultOf 186 = .ok (.aload_n 0, 1) := by decide +kernel
theorem dX11_faultOf_187 : decode cX11_faultOf 187 = .ok (.getfield 123, 3) := by decide +kernel
theorem dX11_faultOf_190 : decode cX11_faultOf 190 = .ok (.aload_n 0, 1) := by decide +kernel
theorem dX11_faultOf_191 : decode cX11_faultOf 191 = .ok (.getfield 120, 3) := by decide +kernel
theorem dX11_faultOf_194 : decode cX11_faultOf 194 = .ok (.if_icmp .ge 70, 3) := by decide +kernel
theorem dX11_faultOf_197 : decode cX11_faultOf 197 = .ok (.aload_n 0, 1) := by decide +kernel
theorem dX11_faultOf_198 : decode cX11_faultOf 198 = .ok (.getfield 13, 3) := by decide +kernel
theorem dX11_faultOf_201 : decode cX11_faultOf 201 = .ok (.aload_n 0, 1) := by decide +kernel
theorem dX11_faultOf_202 : decode cX11_faultOf 202 = .ok (.getfield 123, 3) := by decide +kernel
theorem dX11_faultOf_205 : decode cX11_faultOf 205 = .ok (.iaload, 1) := by decide +kernel
theorem dX11_faultOf_206 : decode cX11_faultOf 206 = .ok (.i2l, 1) := by decide +kernel
theorem dX11_faultOf_207 : decode cX11_faultOf 207 = .ok (.ldc2_w 145, 3) := by decide +kernel
theorem dX11_faultOf_210 : decode cX11_faultOf 210 = .ok (.ldc2_w 143, 3) := by decide +kernel
theorem dX11_faultOf_213 : decode cX11_faultOf 213 = .ok (.invokestatic 81, 3) := by decide +kernel
theorem dX11_faultOf_216 : decode cX11_faultOf 216 = .ok (.ifCond .eq 48, 3) := by decide +kernel
theorem dX11_faultOf_219 : decode cX11_faultOf 219 = .ok (.iload 5, 2) := by decide +kernel
theorem dX11_faultOf_221 : decode cX11_faultOf 221 = .ok (.bipush 99, 2) := by decide +kernel
theorem dX11_faultOf_223 : decode cX11_faultOf 223 = .ok (.if_icmp .le 8, 3) := by decide +kernel
theorem dX11_faultOf_226 : decode cX11_faultOf 226 = .ok (.iload 5, 2) := by decide +kernel
theorem dX11_faultOf_228 : decode cX11_faultOf 228 = .ok (.goto 21, 3) := by decide +kernel
theorem dX11_faultOf_231 : decode cX11_faultOf 231 = .ok (.bipush 10, 2) := by decide +kernel
theorem dX11_faultOf_233 : decode cX11_faultOf 233 = .ok (.iload 5, 2) := by decide +kernel
theorem dX11_faultOf_235 : decode cX11_faultOf 235 = .ok (.imul, 1) := by decide +kernel
theorem dX11_faultOf_236 : decode cX11_faultOf 236 = .ok (.aload_n 0, 1) := by decide +kernel
theorem dX11_faultOf_237 : decode cX11_faultOf 237 = .ok (.getfield 13, 3) := by decide +kernel
theorem dX11_faultOf_240 : decode cX11_faultOf 240 = .ok (.aload_n 0, 1) := by decide +kernel
theorem dX11_faultOf_241 : decode cX11_faultOf 241 = .ok (.getfield 123, 3) := by decide +kernel
theorem dX11_faultOf_244 : decode cX11_faultOf 244 = .ok (.iaload, 1) := by decide +kernel
theorem dX11_faultOf_245 : decode cX11_faultOf 245 = .ok (.iadd, 1) := by decide +kernel
theorem dX11_faultOf_246 : decode cX11_faultOf 246 = .ok (.bipush 48, 2) := by decide +kernel
theorem dX11_faultOf_248 : decode cX11_faultOf 248 = .ok (.isub, 1) := by decide +kernel
theorem dX11_faultOf_249 : decode cX11_faultOf 249 = .ok (.istore 5, 2) := by decide +kernel
theorem dX11_faultOf_251 : decode cX11_faultOf 251 = .ok (.aload_n 0, 1) := by decide +kernel
theorem dX11_faultOf_252 : decode cX11_faultOf 252 = .ok (.dup, 1) := by decide +kernel
theorem dX11_faultOf_253 : decode cX11_faultOf 253 = .ok (.getfield 123, 3) := by decide +kernel
theorem dX11_faultOf_256 : decode cX11_faultOf 256 = .ok (.iconst 1, 1) := by decide +kernel
theorem dX11_faultOf_257 : decode cX11_faultOf 257 = .ok (.iadd, 1) := by decide +kernel
theorem dX11_faultOf_258 : decode cX11_faultOf 258 = .ok (.putfield 123, 3) := by decide +kernel
theorem dX11_faultOf_261 : decode cX11_faultOf 261 = .ok (.goto (-75), 3) := by decide +kernel
theorem dX11_faultOf_264 : decode cX11_faultOf 264 = .ok (.aload_n 0, 1) := by decide +kernel
theorem dX11_faultOf_265 : decode cX11_faultOf 265 = .ok (.getfield 123, 3) := by decide +kernel
theorem dX11_faultOf_268 : decode cX11_faultOf 268 = .ok (.iload 4, 2) := by decide +kernel
theorem dX11_faultOf_270 : decode cX11_faultOf 270 = .ok (.if_icmp .eq 21, 3) := by decide +kernel
theorem dX11_faultOf_273 : decode cX11_faultOf 273 = .ok (.iload 5, 2) := by decide +kernel
theorem dX11_faultOf_275 : decode cX11_faultOf 275 = .ok (.iload_n 1, 1) := by decide +kernel
theorem dX11_faultOf_276 : decode cX11_faultOf 276 = .ok (.if_icmp .ge 15, 3) := by decide +kernel
theorem dX11_faultOf_279 : decode cX11_faultOf 279 = .ok (.aload_n 0, 1) := by decide +kernel
theorem dX11_faultOf_280 : decode cX11_faultOf 280 = .ok (.getfield 129, 3) := by decide +kernel
theorem dX11_faultOf_283 : decode cX11_faultOf 283 = .ok (.iload 5, 2) := by decide +kernel
theorem dX11_faultOf_285 : decode cX11_faultOf 285 = .ok (.invokestatic 89, 3) := by decide +kernel
theorem dX11_faultOf_288 : decode cX11_faultOf 288 = .ok (.ifCond .eq 6, 3) := by decide +kernel
theorem dX11_faultOf_291 : decode cX11_faultOf 291 = .ok (.iload 4, 2) := by decide +kernel
theorem dX11_faultOf_293 : decode cX11_faultOf 293 = .ok (.ireturn, 1) := by decide +kernel
theorem dX11_faultOf_294 : decode cX11_faultOf 294 = .ok (.aload_n 0, 1) := by decide +kernel
theorem dX11_faultOf_295 : decode cX11_faultOf 295 = .ok (.dup, 1) := by decide +kernel
theorem dX11_faultOf_296 : decode cX11_faultOf 296 = .ok (.getfield 129, 3) := by decide +kernel
theorem dX11_faultOf_299 : decode cX11_faultOf 299 = .ok (.iconst 1, 1) := by decide +kernel
theorem dX11_faultOf_300 : decode cX11_faultOf 300 = .ok (.iload 5, 2) := by decide +kernel
theorem dX11_faultOf_302 : decode cX11_faultOf 302 = .ok (.ishl, 1) := by decide +kernel
theorem dX11_faultOf_303 : decode cX11_faultOf 303 = .ok (.ior, 1) := by decide +kernel
theorem dX11_faultOf_304 : decode cX11_faultOf 304 = .ok (.putfield 129, 3) := by decide +kernel
theorem dX11_faultOf_307 : decode cX11_faultOf 307 = .ok (.bipush 44, 2) := by decide +kernel
theorem dX11_faultOf_309 : decode cX11_faultOf 309 = .ok (.istore_n 2, 1) := by decide +kernel
theorem dX11_faultOf_310 : decode cX11_faultOf 310 = .ok (.iinc 3 1, 3) := by decide +kernel
theorem dX11_faultOf_313 : decode cX11_faultOf 313 = .ok (.goto (-164), 3) := by decide +kernel
theorem dX11_faultOf_316 : decode cX11_faultOf 316 = .ok (.aload_n 0, 1) := by decide +kernel
theorem dX11_faultOf_317 : decode cX11_faultOf 317 = .ok (.invokevirtual 132, 3) := by decide +kernel
theorem dX11_faultOf_320 : decode cX11_faultOf 320 = .ok (.ifCond .ge 7, 3) := by decide +kernel
theorem dX11_faultOf_323 : decode cX11_faultOf 323 = .ok (.iconst (-1), 1) := by decide +kernel
theorem dX11_faultOf_324 : decode cX11_faultOf 324 = .ok (.goto 7, 3) := by decide +kernel
theorem dX11_faultOf_327 : decode cX11_faultOf 327 = .ok (.aload_n 0, 1) := by decide +kernel
theorem dX11_faultOf_328 : decode cX11_faultOf 328 = .ok (.getfield 123, 3) := by decide +kernel
theorem dX11_faultOf_331 : decode cX11_faultOf 331 = .ok (.ireturn, 1) := by decide +kernel
set_option maxRecDepth 20000 in
theorem ggX11_chain_X11_faultOf : GoodIn wsX11_chain wsX11_faultOf := goodIn_r _ [11, 12, 4, 5, 3, 13, 14, 6, 1, 15, 16, 17, 18, 19, 10, 20, 21, 22, 23, 24, 25, 26, 27, 28, 29, 30, 31, 32, 33, 34, 35, 36, 37, 38, 39, 40, 41, 42, 43, 44, 45, 46, 47, 48, 49, 50, 51, 52, 53, 54, 55, 56, 57, 58, 59] (by decide +kernel) (by decide +kernel)
set_option maxRecDepth 20000 in
theorem gX11_chain_X11_faultOf : GoodIn wsX11_chain (wsV RX11 147 RX11 yX11_faultOf wsX11_faultOf) := goodIn_app (goodIn_of _ (by decide +kernel)) ggX11_chain_X11_faultOf
theorem dX11_chain_0 : decode cX11_chain 0 = .ok (.aload_n 0, 1) := by decide +kernel
theorem dX11_chain_1 : decode cX11_chain 1 = .ok (.invokevirtual 147, 3) := by decide +kernel
theorem dX11_chain_4 : decode cX11_chain 4 = .ok (.istore_n 1, 1) := by decide +kernel
theorem dX11_chain_5 : decode cX11_chain 5 = .ok (.aload_n 0, 1) := by decide +kernel
theorem dX11_chain_6 : decode cX11_chain 6 = .ok (.iconst 0, 1) := by decide +kernel
theorem dX11_chain_7 : decode cX11_chain 7 = .ok (.putfield 120, 3) := by decide +kernel
theorem dX11_chain_10 : decode cX11_chain 10 = .ok (.iload_n 1, 1) := by decide +kernel
theorem dX11_chain_11 : decode cX11_chain 11 = .ok (.ifCond .lt 8, 3) := by decide +kernel
theorem dX11_chain_14 : decode cX11_chain 14 = .ok (.bipush (-20), 2) := by decide +kernel
theorem dX11_chain_16 : decode cX11_chain 16 = .ok (.iload_n 1, 1) := by decide +kernel
theorem dX11_chain_17 : decode cX11_chain 17 = .ok (.isub, 1) := by decide +kernel
theorem dX11_chain_18 : decode cX11_chain 18 = .ok (.ireturn, 1) := by decide +kernel
theorem dX11_chain_19 : decode cX11_chain 19 = .ok (.aload_n 0, 1) := by decide +kernel
theorem dX11_chain_20 : decode cX11_chain 20 = .ok (.getfield 7, 3) := by decide +kernel
theorem dX11_chain_23 : decode cX11_chain 23 = .ok (.iconst 0, 1) := by decide +kernel
theorem dX11_chain_24 : decode cX11_chain 24 = .ok (.aload_n 0, 1) := by decide +kernel
theorem dX11_chain_25 : decode cX11_chain 25 = .ok (.getfield 138, 3) := by decide +kernel
theorem dX11_chain_28 : decode cX11_chain 28 = .ok (.iastore, 1) := by decide +kernel
theorem dX11_chain_29 : decode cX11_chain 29 = .ok (.aload_n 0, 1) := by decide +kernel
theorem dX11_chain_30 : decode cX11_chain 30 = .ok (.getfield 7, 3) := by decide +kernel
theorem dX11_chain_33 : decode cX11_chain 33 = .ok (.iconst 1, 1) := by decide +kernel
theorem dX11_chain_34 : decode cX11_chain 34 = .ok (.aload_n 0, 1) := by decide +kernel
theorem dX11_chain_35 : decode cX11_chain 35 = .ok (.getfield 126, 3) := by decide +kernel
theorem dX11_chain_38 : decode cX11_chain 38 = .ok (.iastore, 1) := by decide +kernel
theorem dX11_chain_39 : decode cX11_chain 39 = .ok (.aload_n 0, 1) := by decide +kernel
theorem dX11_chain_40 : decode cX11_chain 40 = .ok (.getfield 7, 3) := by decide +kernel
theorem dX11_chain_43 : decode cX11_chain 43 = .ok (.bipush 26, 2) := by decide +kernel
theorem dX11_chain_45 : decode cX11_chain 45 = .ok (.aload_n 0, 1) := by decide +kernel
theorem dX11_chain_46 : decode cX11_chain 46 = .ok (.getfield 129, 3) := by decide +kernel
theorem dX11_chain_49 : decode cX11_chain 49 = .ok (.iastore, 1) := by decide +kernel
theorem dX11_chain_50 : decode cX11_chain 50 = .ok (.iconst 0, 1) := by decide +kernel
theorem dX11_chain_51 : decode cX11_chain 51 = .ok (.istore_n 2, 1) := by decide +kernel
theorem dX11_chain_52 : decode cX11_chain 52 = .ok (.iload_n 2, 1) := by decide +kernel
theorem dX11_chain_53 : decode cX11_chain 53 = .ok (.aload_n 0, 1) := by decide +kernel
theorem dX11_chain_54 : decode cX11_chain 54 = .ok (.getfield 126, 3) := by decide +kernel
theorem dX11_chain_57 : decode cX11_chain 57 = .ok (.if_icmp .ge 23, 3) := by decide +kernel
theorem dX11_chain_60 : decode cX11_chain 60 = .ok (.aload_n 0, 1) := by decide +kernel
theorem dX11_chain_61 : decode cX11_chain 61 = .ok (.getfield 7, 3) := by decide +kernel
theorem dX11_chain_64 : decode cX11_chain 64 = .ok (.iconst 2, 1) := by decide +kernel
theorem dX11_chain_65 : decode cX11_chain 65 = .ok (.iload_n 2, 1) := by decide +kernel
theorem dX11_chain_66 : decode cX11_chain 66 = .ok (.iadd, 1) := by decide +kernel
theorem dX11_chain_67 : decode cX11_chain 67 = .ok (.aload_n 0, 1) := by decide +kernel
theorem dX11_chain_68 : decode cX11_chain 68 = .ok (.getfield 25, 3) := by decide +kernel
theorem dX11_chain_71 : decode cX11_chain 71 = .ok (.iload_n 2, 1) := by decide +kernel
theorem dX11_chain_72 : decode cX11_chain 72 = .ok (.iaload, 1) := by decide +kernel
theorem dX11_chain_73 : decode cX11_chain 73 = .ok (.iastore, 1) := by decide +kernel
theorem dX11_chain_74 : decode cX11_chain 74 = .ok (.iinc 2 1, 3) := by decide +kernel
theorem dX11_chain_77 : decode cX11_chain 77 = .ok (.goto (-25), 3) := by decide +kernel
theorem dX11_chain_80 : decode cX11_chain 80 = .ok (.aload_n 0, 1) := by decide +kernel
theorem dX11_chain_81 : decode cX11_chain 81 = .ok (.getfield 126, 3) := by decide +kernel
theorem dX11_chain_84 : decode cX11_chain 84 = .ok (.ireturn, 1) := by decide +kernel
theorem dX11_allWorth_0 : decode cX11_allWorth 0 = .ok (.iconst 0, 1) := by decide +kernel
theorem dX11_allWorth_1 : decode cX11_allWorth 1 = .ok (.istore_n 1, 1) := by decide +kernel
theorem dX11_allWorth_2 : decode cX11_allWorth 2 = .ok (.iconst 0, 1) := by decide +kernel
theorem dX11_allWorth_3 : decode cX11_allWorth 3 = .ok (.istore_n 2, 1) := by decide +kernel
theorem dX11_allWorth_4 : decode cX11_allWorth 4 = .ok (.iload_n 2, 1) := by decide +kernel
theorem dX11_allWorth_5 : decode cX11_allWorth 5 = .ok (.aload_n 0, 1) := by decide +kernel
theorem dX11_allWorth_6 : decode cX11_allWorth 6 = .ok (.getfield 85, 3) := by decide +kernel
theorem dX11_allWorth_9 : decode cX11_allWorth 9 = .ok (.if_icmp .ge 18, 3) := by decide +kernel
theorem dX11_allWorth_12 : decode cX11_allWorth 12 = .ok (.iload_n 1, 1) := by decide +kernel
theorem dX11_allWorth_13 : decode cX11_allWorth 13 = .ok (.aload_n 0, 1) := by decide +kernel
theorem dX11_allWorth_14 : decode cX11_allWorth 14 = .ok (.getfield 22, 3) := by decide +kernel
theorem dX11_allWorth_17 : decode cX11_allWorth 17 = .ok (.iload_n 2, 1) := by decide +kernel
theorem dX11_allWorth_18 : decode cX11_allWorth 18 = .ok (.iaload, 1) := by decide +kernel
theorem dX11_allWorth_19 : decode cX11_allWorth 19 = .ok (.iadd, 1) := by decide +kernel
theorem dX11_allWorth_20 : decode cX11_allWorth 20 = .ok (.istore_n 1, 1) := by decide +kernel
theorem dX11_allWorth_21 : decode cX11_allWorth 21 = .ok (.iinc 2 1, 3) := by decide +kernel
theorem dX11_allWorth_24 : decode cX11_allWorth 24 = .ok (.goto (-20), 3) := by decide +kernel
theorem dX11_allWorth_27 : decode cX11_allWorth 27 = .ok (.iload_n 1, 1) := by decide +kernel
theorem dX11_allWorth_28 : decode cX11_allWorth 28 = .ok (.ireturn, 1) := by decide +kernel
set_option maxRecDepth 20000 in
theorem ggX11_count_X11_layNow : GoodIn wsX11_count wsX11_layNow := goodIn_r _ [7, 1, 8, 9, 10, 6, 11, 2, 12, 13, 14, 15, 16, 17, 18, 19, 20, 21, 33, 34, 35, 36, 37, 38, 39, 40, 41, 42, 43, 44, 45, 46, 47, 48, 49, 50, 51, 52, 53, 54, 55, 56, 57, 58, 59, 60, 61, 62] (by decide +kernel) (by decide +kernel)
set_option maxRecDepth 20000 in
theorem gX11_count_X11_layNow : GoodIn wsX11_count (wsV RX11 150 RX11 yX11_layNow wsX11_layNow) := goodIn_app (goodIn_of _ (by decide +kernel)) ggX11_count_X11_layNow
set_option maxRecDepth 20000 in
theorem ggX11_count_X11_notches : GoodIn wsX11_count wsX11_notches := goodIn_r _ [25, 1, 33, 34, 35, 36, 37, 38, 39, 40, 41, 42, 43, 44, 45, 46, 47, 48, 49, 50, 51, 52, 53, 54, 55, 56, 57, 58, 59, 60, 61, 62] (by decide +kernel) (by decide +kernel)
set_option maxRecDepth 20000 in
theorem gX11_count_X11_notches : GoodIn wsX11_count (wsV RX11 77 RX11 yX11_notches wsX11_notches) := goodIn_app (goodIn_of _ (by decide +kernel)) ggX11_count_X11_notches
set_option maxRecDepth 20000 in
theorem ggX11_count_X11_ones : GoodIn wsX11_count wsX11_ones := goodIn_r _ [28] (by decide +kernel) (by decide +kernel)
set_option maxRecDepth 20000 in
theorem gX11_count_X11_ones : GoodIn wsX11_count (va_wsS RX11 108 yX11_ones wsX11_ones) := goodIn_app (goodIn_of _ (by decide +kernel)) ggX11_count_X11_ones
set_option maxRecDepth 20000 in
theorem ggX11_count_X11_allWorth : GoodIn wsX11_count wsX11_allWorth := goodIn_r _ [32, 2, 13, 33, 34, 35, 36, 37, 38, 39, 40, 41, 42, 43, 44, 45, 46, 47, 48, 49, 50, 51, 52, 53, 54, 55, 56, 57, 58, 59, 60, 61, 62] (by decide +kernel) (by decide +kernel)
set_option maxRecDepth 20000 in
theorem gX11_count_X11_allWorth : GoodIn wsX11_count (wsV RX11 153 RX11 yX11_allWorth wsX11_allWorth) := goodIn_app (goodIn_of _ (by decide +kernel)) ggX11_count_X11_allWorth
theorem dX11_count_0 : decode cX11_count 0 = .ok (.aload_n 0, 1) := by decide +kernel
theorem dX11_count_1 : decode cX11_count 1 = .ok (.invokevirtual 150, 3) := by decide +kernel
theorem dX11_count_4 : decode cX11_count 4 = .ok (.iload_n 1, 1) := by decide +kernel
theorem dX11_count_5 : decode cX11_count 5 = .ok (.tableswitch 79 0 5 #[39, 46, 51, 62, 67, 72], 39) := by decide +kernel
theorem dX11_count_44 : decode cX11_count 44 = .ok (.aload_n 0, 1) := by decide +kernel
theorem dX11_count_45 : decode cX11_count 45 = .ok (.getfield 7, 3) := by decide +kernel
theorem dX11_count_48 : decode cX11_count 48 = .ok (.iconst 1, 1) := by decide +kernel
theorem dX11_count_49 : decode cX11_count 49 = .ok (.iaload, 1) := by decide +kernel
theorem dX11_count_50 : decode cX11_count 50 = .ok (.ireturn, 1) := by decide +kernel
theorem dX11_count_51 : decode cX11_count 51 = .ok (.aload_n 0, 1) := by decide +kernel
theorem dX11_count_52 : decode cX11_count 52 = .ok (.invokevirtual 77, 3) := by decide +kernel
theorem dX11_count_55 : decode cX11_count 55 = .ok (.ireturn, 1) := by decide +kernel
theorem dX11_count_56 : decode cX11_count 56 = .ok (.aload_n 0, 1) := by decide +kernel
theorem dX11_count_57 : decode cX11_count 57 = .ok (.getfield 7, 3) := by decide +kernel
theorem dX11_count_60 : decode cX11_count 60 = .ok (.bipush 26, 2) := by decide +kernel
theorem dX11_count_62 : decode cX11_count 62 = .ok (.iaload, 1) := by decide +kernel
theorem dX11_count_63 : decode cX11_count 63 = .ok (.invokestatic 108, 3) := by decide +kernel
theorem dX11_count_66 : decode cX11_count 66 = .ok (.ireturn, 1) := by decide +kernel
theorem dX11_count_67 : decode cX11_count 67 = .ok (.aload_n 0, 1) := by decide +kernel
theorem dX11_count_68 : decode cX11_count 68 = .ok (.getfield 85, 3) := by decide +kernel
theorem dX11_count_71 : decode cX11_count 71 = .ok (.ireturn, 1) := by decide +kernel
theorem dX11_count_72 : decode cX11_count 72 = .ok (.aload_n 0, 1) := by decide +kernel
theorem dX11_count_73 : decode cX11_count 73 = .ok (.invokevirtual 153, 3) := by decide +kernel
theorem dX11_count_76 : decode cX11_count 76 = .ok (.ireturn, 1) := by decide +kernel
theorem dX11_count_77 : decode cX11_count 77 = .ok (.aload_n 0, 1) := by decide +kernel
theorem dX11_count_78 : decode cX11_count 78 = .ok (.getfield 7, 3) := by decide +kernel
theorem dX11_count_81 : decode cX11_count 81 = .ok (.iconst 0, 1) := by decide +kernel
theorem dX11_count_82 : decode cX11_count 82 = .ok (.iaload, 1) := by decide +kernel
theorem dX11_count_83 : decode cX11_count 83 = .ok (.ireturn, 1) := by decide +kernel
theorem dX11_count_84 : decode cX11_count 84 = .ok (.iconst (-1), 1) := by decide +kernel
theorem dX11_count_85 : decode cX11_count 85 = .ok (.ireturn, 1) := by decide +kernel
set_option maxRecDepth 20000 in
theorem ggX11_piece_X11_layNow : GoodIn wsX11_piece wsX11_layNow := goodIn_r _ [10, 11, 12, 13, 14, 9, 15, 1, 4, 5, 3, 16, 17, 18, 19, 20, 21, 22, 26, 27, 28, 29, 30, 31, 32, 33, 34, 35, 36, 37, 38, 39, 40, 41, 42, 43, 44, 45, 46, 47, 48, 49, 50, 51, 52, 53, 54, 55] (by decide +kernel) (by decide +kernel)
set_option maxRecDepth 20000 in
theorem gX11_piece_X11_layNow : GoodIn wsX11_piece (wsV RX11 150 RX11 yX11_layNow wsX11_layNow) := goodIn_app (goodIn_of _ (by decide +kernel)) ggX11_piece_X11_layNow
set_option maxRecDepth 20000 in
theorem ggX11_piece_X11_in : GoodIn wsX11_piece wsX11_in := goodIn_r _ [25] (by decide +kernel) (by decide +kernel)
set_option maxRecDepth 20000 in
theorem gX11_piece_X11_in : GoodIn wsX11_piece (va_wsS RX11 81 yX11_in wsX11_in) := goodIn_app (goodIn_of _ (by decide +kernel)) ggX11_piece_X11_in
theorem dX11_piece_0 : decode cX11_piece 0 = .ok (.aload_n 0, 1) := by decide +kernel
theorem dX11_piece_1 : decode cX11_piece 1 = .ok (.invokevirtual 150, 3) := by decide +kernel
theorem dX11_piece_4 : decode cX11_piece 4 = .ok (.iload_n 1, 1) := by decide +kernel
theorem dX11_piece_5 : decode cX11_piece 5 = .ok (.i2l, 1) := by decide +kernel
theorem dX11_piece_6 : decode cX11_piece 6 = .ok (.lconst 0, 1) := by decide +kernel
theorem dX11_piece_7 : decode cX11_piece 7 = .ok (.aload_n 0, 1) := by decide +kernel
theorem dX11_piece_8 : decode cX11_piece 8 = .ok (.getfield 85, 3) := by decide +kernel
theorem dX11_piece_11 : decode cX11_piece 11 = .ok (.iconst 1, 1) := by decide +kernel
theorem dX11_piece_12 : decode cX11_piece 12 = .ok (.isub, 1) := by decide +kernel
theorem dX11_piece_13 : decode cX11_piece 13 = .ok (.i2l, 1) := by decide +kernel
theorem dX11_piece_14 : decode cX11_piece 14 = .ok (.invokestatic 81, 3) := by decide +kernel
theorem dX11_piece_17 : decode cX11_piece 17 = .ok (.ifCond .eq 15, 3) := by decide +kernel
theorem dX11_piece_20 : decode cX11_piece 20 = .ok (.iload_n 2, 1) := by decide +kernel
theorem dX11_piece_21 : decode cX11_piece 21 = .ok (.i2l, 1) := by decide +kernel
theorem dX11_piece_22 : decode cX11_piece 22 = .ok (.lconst 0, 1) := by decide +kernel
theorem dX11_piece_23 : decode cX11_piece 23 = .ok (.ldc2_w 156, 3) := by decide +kernel
theorem dX11_piece_26 : decode cX11_piece 26 = .ok (.invokestatic 81, 3) := by decide +kernel
theorem dX11_piece_29 : decode cX11_piece 29 = .ok (.ifCond .ne 5, 3) := by decide +kernel
theorem dX11_piece_32 : decode cX11_piece 32 = .ok (.iconst (-1), 1) := by decide +kernel
theorem dX11_piece_33 : decode cX11_piece 33 = .ok (.ireturn, 1) := by decide +kernel
theorem dX11_piece_34 : decode cX11_piece 34 = .ok (.iload_n 2, 1) := by decide +kernel
theorem dX11_piece_35 : decode cX11_piece 35 = .ok (.ifCond .ne 12, 3) := by decide +kernel
theorem dX11_piece_38 : decode cX11_piece 38 = .ok (.aload_n 0, 1) := by decide +kernel
theorem dX11_piece_39 : decode cX11_piece 39 = .ok (.getfield 16, 3) := by decide +kernel
theorem dX11_piece_42 : decode cX11_piece 42 = .ok (.iload_n 1, 1) := by decide +kernel
theorem dX11_piece_43 : decode cX11_piece 43 = .ok (.iaload, 1) := by decide +kernel
theorem dX11_piece_44 : decode cX11_piece 44 = .ok (.goto 23, 3) := by decide +kernel
theorem dX11_piece_47 : decode cX11_piece 47 = .ok (.iload_n 2, 1) := by decide +kernel
theorem dX11_piece_48 : decode cX11_piece 48 = .ok (.iconst 1, 1) := by decide +kernel
theorem dX11_piece_49 : decode cX11_piece 49 = .ok (.if_icmp .ne 12, 3) := by decide +kernel
theorem dX11_piece_52 : decode cX11_piece 52 = .ok (.aload_n 0, 1) := by decide +kernel
theorem dX11_piece_53 : decode cX11_piece 53 = .ok (.getfield 19, 3) := by decide +kernel
theorem dX11_piece_56 : decode cX11_piece 56 = .ok (.iload_n 1, 1) := by decide +kernel
theorem dX11_piece_57 : decode cX11_piece 57 = .ok (.iaload, 1) := by decide +kernel
theorem dX11_piece_58 : decode cX11_piece 58 = .ok (.goto 9, 3) := by decide +kernel
theorem dX11_piece_61 : decode cX11_piece 61 = .ok (.aload_n 0, 1) := by decide +kernel
theorem dX11_piece_62 : decode cX11_piece 62 = .ok (.getfield 22, 3) := by decide +kernel
theorem dX11_piece_65 : decode cX11_piece 65 = .ok (.iload_n 1, 1) := by decide +kernel
theorem dX11_piece_66 : decode cX11_piece 66 = .ok (.iaload, 1) := by decide +kernel
theorem dX11_piece_67 : decode cX11_piece 67 = .ok (.ireturn, 1) := by decide +kernel
set_option maxRecDepth 20000 in
theorem ggX11_atOf_X11_has : GoodIn wsX11_atOf wsX11_has := goodIn_r _ [4] (by decide +kernel) (by decide +kernel)
set_option maxRecDepth 20000 in
theorem gX11_atOf_X11_has : GoodIn wsX11_atOf (va_wsS RX11 89 yX11_has wsX11_has) := goodIn_app (goodIn_of _ (by decide +kernel)) ggX11_atOf_X11_has
theorem dX11_atOf_0 : decode cX11_atOf 0 = .ok (.iload_n 0, 1) := by decide +kernel
theorem dX11_atOf_1 : decode cX11_atOf 1 = .ok (.istore_n 2, 1) := by decide +kernel
theorem dX11_atOf_2 : decode cX11_atOf 2 = .ok (.iconst 0, 1) := by decide +kernel
theorem dX11_atOf_3 : decode cX11_atOf 3 = .ok (.istore_n 3, 1) := by decide +kernel
theorem dX11_atOf_4 : decode cX11_atOf 4 = .ok (.iload_n 3, 1) := by decide +kernel
theorem dX11_atOf_5 : decode cX11_atOf 5 = .ok (.iload_n 1, 1) := by decide +kernel
theorem dX11_atOf_6 : decode cX11_atOf 6 = .ok (.if_icmp .ge 15, 3) := by decide +kernel
theorem dX11_atOf_9 : decode cX11_atOf 9 = .ok (.iload_n 2, 1) := by decide +kernel
theorem dX11_atOf_10 : decode cX11_atOf 10 = .ok (.iload_n 2, 1) := by decide +kernel
theorem dX11_atOf_11 : decode cX11_atOf 11 = .ok (.iconst 1, 1) := by decide +kernel
theorem dX11_atOf_12 : decode cX11_atOf 12 = .ok (.isub, 1) := by decide +kernel
theorem dX11_atOf_13 : decode cX11_atOf 13 = .ok (.iand, 1) := by decide +kernel
theorem dX11_atOf_14 : decode cX11_atOf 14 = .ok (.istore_n 2, 1) := by decide +kernel
theorem dX11_atOf_15 : decode cX11_atOf 15 = .ok (.iinc 3 1, 3) := by decide +kernel
theorem dX11_atOf_18 : decode cX11_atOf 18 = .ok (.goto (-14), 3) := by decide +kernel
theorem dX11_atOf_21 : decode cX11_atOf 21 = .ok (.iconst 0, 1) := by decide +kernel
theorem dX11_atOf_22 : decode cX11_atOf 22 = .ok (.istore_n 3, 1) := by decide +kernel
theorem dX11_atOf_23 : decode cX11_atOf 23 = .ok (.iload_n 2, 1) := by decide +kernel
theorem dX11_atOf_24 : decode cX11_atOf 24 = .ok (.iload_n 3, 1) := by decide +kernel
theorem dX11_atOf_25 : decode cX11_atOf 25 = .ok (.invokestatic 89, 3) := by decide +kernel
theorem dX11_atOf_28 : decode cX11_atOf 28 = .ok (.ifCond .ne 9, 3) := by decide +kernel
theorem dX11_atOf_31 : decode cX11_atOf 31 = .ok (.iinc 3 1, 3) := by decide +kernel
theorem dX11_atOf_34 : decode cX11_atOf 34 = .ok (.goto (-11), 3) := by decide +kernel
theorem dX11_atOf_37 : decode cX11_atOf 37 = .ok (.iload_n 3, 1) := by decide +kernel
theorem dX11_atOf_38 : decode cX11_atOf 38 = .ok (.ireturn, 1) := by decide +kernel
set_option maxRecDepth 20000 in
theorem ggX11_notch_X11_ones : GoodIn wsX11_notch wsX11_ones := goodIn_r _ [5] (by decide +kernel) (by decide +kernel)
set_option maxRecDepth 20000 in
theorem gX11_notch_X11_ones : GoodIn wsX11_notch (va_wsS RX11 108 yX11_ones wsX11_ones) := goodIn_app (goodIn_of _ (by decide +kernel)) ggX11_notch_X11_ones
set_option maxRecDepth 20000 in
theorem ggX11_notch_X11_in : GoodIn wsX11_notch wsX11_in := goodIn_r _ [8] (by decide +kernel) (by decide +kernel)
set_option maxRecDepth 20000 in
theorem gX11_notch_X11_in : GoodIn wsX11_notch (va_wsS RX11 81 yX11_in wsX11_in) := goodIn_app (goodIn_of _ (by decide +kernel)) ggX11_notch_X11_in
set_option maxRecDepth 20000 in
theorem ggX11_notch_X11_atOf : GoodIn wsX11_notch wsX11_atOf := goodIn_r _ [11, 12, 13, 4, 14] (by decide +kernel) (by decide +kernel)
set_option maxRecDepth 20000 in
theorem gX11_notch_X11_atOf : GoodIn wsX11_notch (va_wsS RX11 158 yX11_atOf wsX11_atOf) := goodIn_app (goodIn_of _ (by decide +kernel)) ggX11_notch_X11_atOf
theorem dX11_notch_0 : decode cX11_notch 0 = .ok (.iload_n 1, 1) := by decide +kernel
theorem dX11_notch_1 : decode cX11_notch 1 = .ok (.i2l, 1) := by decide +kernel
theorem dX11_notch_2 : decode cX11_notch 2 = .ok (.lconst 0, 1) := by decide +kernel
theorem dX11_notch_3 : decode cX11_notch 3 = .ok (.aload_n 0, 1) := by decide +kernel
theorem dX11_notch_4 : decode cX11_notch 4 = .ok (.getfield 7, 3) := by decide +kernel
theorem dX11_notch_7 : decode cX11_notch 7 = .ok (.bipush 26, 2) := by decide +kernel
theorem dX11_notch_9 : decode cX11_notch 9 = .ok (.iaload, 1) := by decide +kernel
theorem dX11_notch_10 : decode cX11_notch 10 = .ok (.invokestatic 108, 3) := by decide +kernel
theorem dX11_notch_13 : decode cX11_notch 13 = .ok (.iconst 1, 1) := by decide +kernel
theorem dX11_notch_14 : decode cX11_notch 14 = .ok (.isub, 1) := by decide +kernel
theorem dX11_notch_15 : decode cX11_notch 15 = .ok (.i2l, 1) := by decide +kernel
theorem dX11_notch_16 : decode cX11_notch 16 = .ok (.invokestatic 81, 3) := by decide +kernel
theorem dX11_notch_19 : decode cX11_notch 19 = .ok (.ifCond .eq 17, 3) := by decide +kernel
theorem dX11_notch_22 : decode cX11_notch 22 = .ok (.aload_n 0, 1) := by decide +kernel
theorem dX11_notch_23 : decode cX11_notch 23 = .ok (.getfield 7, 3) := by decide +kernel
theorem dX11_notch_26 : decode cX11_notch 26 = .ok (.bipush 26, 2) := by decide +kernel
theorem dX11_notch_28 : decode cX11_notch 28 = .ok (.iaload, 1) := by decide +kernel
theorem dX11_notch_29 : decode cX11_notch 29 = .ok (.iload_n 1, 1) := by decide +kernel
theorem dX11_notch_30 : decode cX11_notch 30 = .ok (.invokestatic 158, 3) := by decide +kernel
theorem dX11_notch_33 : decode cX11_notch 33 = .ok (.goto 4, 3) := by decide +kernel
theorem dX11_notch_36 : decode cX11_notch 36 = .ok (.iconst (-1), 1) := by decide +kernel
theorem dX11_notch_37 : decode cX11_notch 37 = .ok (.ireturn, 1) := by decide +kernel
set_option maxRecDepth 20000 in
theorem ggX11_rate_X11_in : GoodIn wsX11_rate wsX11_in := goodIn_r _ [8] (by decide +kernel) (by decide +kernel)
set_option maxRecDepth 20000 in
theorem gX11_rate_X11_in : GoodIn wsX11_rate (va_wsS RX11 81 yX11_in wsX11_in) := goodIn_app (goodIn_of _ (by decide +kernel)) ggX11_rate_X11_in
theorem dX11_rate_0 : decode cX11_rate 0 = .ok (.iload_n 1, 1) := by decide +kernel
theorem dX11_rate_1 : decode cX11_rate 1 = .ok (.ifCond .ne 15, 3) := by decide +kernel
theorem dX11_rate_4 : decode cX11_rate 4 = .ok (.iload_n 2, 1) := by decide +kernel
theorem dX11_rate_5 : decode cX11_rate 5 = .ok (.i2l, 1) := by decide +kernel
theorem dX11_rate_6 : decode cX11_rate 6 = .ok (.lconst 1, 1) := by decide +kernel
theorem dX11_rate_7 : decode cX11_rate 7 = .ok (.ldc2_w 102, 3) := by decide +kernel
theorem dX11_rate_10 : decode cX11_rate 10 = .ok (.invokestatic 81, 3) := by decide +kernel
theorem dX11_rate_13 : decode cX11_rate 13 = .ok (.goto 32, 3) := by decide +kernel
theorem dX11_rate_16 : decode cX11_rate 16 = .ok (.iload_n 1, 1) := by decide +kernel
theorem dX11_rate_17 : decode cX11_rate 17 = .ok (.i2l, 1) := by decide +kernel
theorem dX11_rate_18 : decode cX11_rate 18 = .ok (.lconst 1, 1) := by decide +kernel
theorem dX11_rate_19 : decode cX11_rate 19 = .ok (.ldc2_w 156, 3) := by decide +kernel
theorem dX11_rate_22 : decode cX11_rate 22 = .ok (.invokestatic 81, 3) := by decide +kernel
theorem dX11_rate_25 : decode cX11_rate 25 = .ok (.ifCond .eq 19, 3) := by decide +kernel
theorem dX11_rate_28 : decode cX11_rate 28 = .ok (.iload_n 2, 1) := by decide +kernel
theorem dX11_rate_29 : decode cX11_rate 29 = .ok (.i2l, 1) := by decide +kernel
theorem dX11_rate_30 : decode cX11_rate 30 = .ok (.lconst 0, 1) := by decide +kernel
theorem dX11_rate_31 : decode cX11_rate 31 = .ok (.ldc2_w 162, 3) := by decide +kernel
theorem dX11_rate_34 : decode cX11_rate 34 = .ok (.invokestatic 81, 3) := by decide +kernel
theorem dX11_rate_37 : decode cX11_rate 37 = .ok (.ifCond .eq 7, 3) := by decide +kernel
theorem dX11_rate_40 : decode cX11_rate 40 = .ok (.iconst 1, 1) := by decide +kernel
theorem dX11_rate_41 : decode cX11_rate 41 = .ok (.goto 4, 3) := by decide +kernel
theorem dX11_rate_44 : decode cX11_rate 44 = .ok (.iconst 0, 1) := by decide +kernel
theorem dX11_rate_45 : decode cX11_rate 45 = .ok (.istore_n 3, 1) := by decide +kernel
theorem dX11_rate_46 : decode cX11_rate 46 = .ok (.iload_n 3, 1) := by decide +kernel
theorem dX11_rate_47 : decode cX11_rate 47 = .ok (.ifCond .ne 5, 3) := by decide +kernel
theorem dX11_rate_50 : decode cX11_rate 50 = .ok (.iconst (-1), 1) := by decide +kernel
theorem dX11_rate_51 : decode cX11_rate 51 = .ok (.ireturn, 1) := by decide +kernel
theorem dX11_rate_52 : decode cX11_rate 52 = .ok (.aload_n 0, 1) := by decide +kernel
theorem dX11_rate_53 : decode cX11_rate 53 = .ok (.getfield 7, 3) := by decide +kernel
theorem dX11_rate_56 : decode cX11_rate 56 = .ok (.bipush 27, 2) := by decide +kernel
theorem dX11_rate_58 : decode cX11_rate 58 = .ok (.iload_n 1, 1) := by decide +kernel
theorem dX11_rate_59 : decode cX11_rate 59 = .ok (.iadd, 1) := by decide +kernel
theorem dX11_rate_60 : decode cX11_rate 60 = .ok (.iaload, 1) := by decide +kernel
theorem dX11_rate_61 : decode cX11_rate 61 = .ok (.istore 4, 2) := by decide +kernel
theorem dX11_rate_63 : decode cX11_rate 63 = .ok (.aload_n 0, 1) := by decide +kernel
theorem dX11_rate_64 : decode cX11_rate 64 = .ok (.getfield 7, 3) := by decide +kernel
theorem dX11_rate_67 : decode cX11_rate 67 = .ok (.bipush 27, 2) := by decide +kernel
theorem dX11_rate_69 : decode cX11_rate 69 = .ok (.iload_n 1, 1) := by decide +kernel
theorem dX11_rate_70 : decode cX11_rate 70 = .ok (.iadd, 1) := by decide +kernel
theorem dX11_rate_71 : decode cX11_rate 71 = .ok (.iload_n 2, 1) := by decide +kernel
theorem dX11_rate_72 : decode cX11_rate 72 = .ok (.iastore, 1) := by decide +kernel
theorem dX11_rate_73 : decode cX11_rate 73 = .ok (.iload 4, 2) := by decide +kernel
theorem dX11_rate_75 : decode cX11_rate 75 = .ok (.ireturn, 1) := by decide +kernel
set_option maxRecDepth 20000 in
theorem ggX11_layDues_X11_has : GoodIn wsX11_layDues wsX11_has := goodIn_r _ [6] (by decide +kernel) (by decide +kernel)
set_option maxRecDepth 20000 in
theorem gX11_layDues_X11_has : GoodIn wsX11_layDues (va_wsS RX11 89 yX11_has wsX11_has) := goodIn_app (goodIn_of _ (by decide +kernel)) ggX11_layDues_X11_has
theorem dX11_layDues_0 : decode cX11_layDues 0 = .ok (.aload_n 0, 1) := by decide +kernel
theorem dX11_layDues_1 : decode cX11_layDues 1 = .ok (.getfield 28, 3) := by decide +kernel
theorem dX11_layDues_4 : decode cX11_layDues 4 = .ok (.iconst 0, 1) := by decide +kernel
theorem dX11_layDues_5 : decode cX11_layDues 5 = .ok (.iconst 0, 1) := by decide +kernel
theorem dX11_layDues_6 : decode cX11_layDues 6 = .ok (.iastore, 1) := by decide +kernel
theorem dX11_layDues_7 : decode cX11_layDues 7 = .ok (.iconst 1, 1) := by decide +kernel
theorem dX11_layDues_8 : decode cX11_layDues 8 = .ok (.istore_n 1, 1) := by decide +kernel
theorem dX11_layDues_9 : decode cX11_layDues 9 = .ok (.iload_n 1, 1) := by decide +kernel
theorem dX11_layDues_10 : decode cX11_layDues 10 = .ok (.bipush 60, 2) := by decide +kernel
theorem dX11_layDues_12 : decode cX11_layDues 12 = .ok (.if_icmp .gt 84, 3) := by decide +kernel
theorem dX11_layDues_15 : decode cX11_layDues 15 = .ok (.iload_n 1, 1) := by decide +kernel
theorem dX11_layDues_16 : decode cX11_layDues 16 = .ok (.iconst 1, 1) := by decide +kernel
theorem dX11_layDues_17 : decode cX11_layDues 17 = .ok (.isub, 1) := by decide +kernel
theorem dX11_layDues_18 : decode cX11_layDues 18 = .ok (.bipush 7, 2) := by decide +kernel
theorem dX11_layDues_20 : decode cX11_layDues 20 = .ok (.irem, 1) := by decide +kernel
theorem dX11_layDues_21 : decode cX11_layDues 21 = .ok (.istore_n 2, 1) := by decide +kernel
theorem dX11_layDues_22 : decode cX11_layDues 22 = .ok (.aload_n 0, 1) := by decide +kernel
theorem dX11_layDues_23 : decode cX11_layDues 23 = .ok (.getfield 7, 3) := by decide +kernel
theorem dX11_layDues_26 : decode cX11_layDues 26 = .ok (.bipush 28, 2) := by decide +kernel
theorem dX11_layDues_28 : decode cX11_layDues 28 = .ok (.iaload, 1) := by decide +kernel
theorem dX11_layDues_29 : decode cX11_layDues 29 = .ok (.iload_n 2, 1) := by decide +kernel
theorem dX11_layDues_30 : decode cX11_layDues 30 = .ok (.invokestatic 89, 3) := by decide +kernel
theorem dX11_layDues_33 : decode cX11_layDues 33 = .ok (.ifCond .eq 7, 3) := by decide +kernel
theorem dX11_layDues_36 : decode cX11_layDues 36 = .ok (.iconst 0, 1) := by decide +kernel
theorem dX11_layDues_37 : decode cX11_layDues 37 = .ok (.goto 36, 3) := by decide +kernel
theorem dX11_layDues_40 : decode cX11_layDues 40 = .ok (.aload_n 0, 1) := by decide +kernel
theorem dX11_layDues_41 : decode cX11_layDues 41 = .ok (.getfield 7, 3) := by decide +kernel
theorem dX11_layDues_44 : decode cX11_layDues 44 = .ok (.bipush 29, 2) := by decide +kernel
theorem dX11_layDues_46 : decode cX11_layDues 46 = .ok (.iaload, 1) := by decide +kernel
theorem dX11_layDues_47 : decode cX11_layDues 47 = .ok (.iload_n 2, 1) := by decide +kernel
theorem dX11_layDues_48 : decode cX11_layDues 48 = .ok (.invokestatic 89, 3) := by decide +kernel
theorem dX11_layDues_51 : decode cX11_layDues 51 = .ok (.ifCond .eq 15, 3) := by decide +kernel
theorem dX11_layDues_54 : decode cX11_layDues 54 = .ok (.iconst 2, 1) := by decide +kernel
theorem dX11_layDues_55 : decode cX11_layDues 55 = .ok (.aload_n 0, 1) := by decide +kernel
theorem dX11_layDues_56 : decode cX11_layDues 56 = .ok (.getfield 7, 3) := by decide +kernel
theorem dX11_layDues_59 : decode cX11_layDues 59 = .ok (.bipush 27, 2) := by decide +kernel
theorem dX11_layDues_61 : decode cX11_layDues 61 = .ok (.iaload, 1) := by decide +kernel
theorem dX11_layDues_62 : decode cX11_layDues 62 = .ok (.imul, 1) := by decide +kernel
theorem dX11_layDues_63 : decode cX11_layDues 63 = .ok (.goto 10, 3) := by decide +kernel
theorem dX11_layDues_66 : decode cX11_layDues 66 = .ok (.aload_n 0, 1) := by decide +kernel
theorem dX11_layDues_67 : decode cX11_layDues 67 = .ok (.getfield 7, 3) := by decide +kernel
theorem dX11_layDues_70 : decode cX11_layDues 70 = .ok (.bipush 27, 2) := by decide +kernel
theorem dX11_layDues_72 : decode cX11_layDues 72 = .ok (.iaload, 1) := by decide +kernel
theorem dX11_layDues_73 : decode cX11_layDues 73 = .ok (.istore_n 3, 1) := by decide +kernel
theorem dX11_layDues_74 : decode cX11_layDues 74 = .ok (.aload_n 0, 1) := by decide +kernel
theorem dX11_layDues_75 : decode cX11_layDues 75 = .ok (.getfield 28, 3) := by decide +kernel
theorem dX11_layDues_78 : decode cX11_layDues 78 = .ok (.iload_n 1, 1) := by decide +kernel
theorem dX11_layDues_79 : decode cX11_layDues 79 = .ok (.aload_n 0, 1) := by decide +kernel
theorem dX11_layDues_80 : decode cX11_layDues 80 = .ok (.getfield 28, 3) := by decide +kernel
theorem dX11_layDues_83 : decode cX11_layDues 83 = .ok (.iload_n 1, 1) := by decide +kernel
theorem dX11_layDues_84 : decode cX11_layDues 84 = .ok (.iconst 1, 1) := by decide +kernel
theorem dX11_layDues_85 : decode cX11_layDues 85 = .ok (.isub, 1) := by decide +kernel
theorem dX11_layDues_86 : decode cX11_layDues 86 = .ok (.iaload, 1) := by decide +kernel
theorem dX11_layDues_87 : decode cX11_layDues 87 = .ok (.iload_n 3, 1) := by decide +kernel
theorem dX11_layDues_88 : decode cX11_layDues 88 = .ok (.iadd, 1) := by decide +kernel
theorem dX11_layDues_89 : decode cX11_layDues 89 = .ok (.iastore, 1) := by decide +kernel
theorem dX11_layDues_90 : decode cX11_layDues 90 = .ok (.iinc 1 1, 3) := by decide +kernel
theorem dX11_layDues_93 : decode cX11_layDues 93 = .ok (.goto (-84), 3) := by decide +kernel
theorem dX11_layDues_96 : decode cX11_layDues 96 = .ok (.return_, 1) := by decide +kernel
set_option maxRecDepth 20000 in
theorem ggX11_due_X11_in : GoodIn wsX11_due wsX11_in := goodIn_r _ [6] (by decide +kernel) (by decide +kernel)
set_option maxRecDepth 20000 in
theorem gX11_due_X11_in : GoodIn wsX11_due (va_wsS RX11 81 yX11_in wsX11_in) := goodIn_app (goodIn_of _ (by decide +kernel)) ggX11_due_X11_in
set_option maxRecDepth 20000 in
theorem ggX11_due_X11_layDues : GoodIn wsX11_due wsX11_layDues := goodIn_r _ [10, 2, 11, 12, 13, 5, 14, 15, 16, 17, 18, 19, 20, 21, 22, 23, 24, 25, 26, 27, 28, 29, 30, 31, 32, 33, 34, 35, 36, 37, 38, 39, 40, 41, 42, 43, 44] (by decide +kernel) (by decide +kernel)
set_option maxRecDepth 20000 in
theorem gX11_due_X11_layDues : GoodIn wsX11_due (wsV RX11 166 RX11 yX11_layDues wsX11_layDues) := goodIn_app (goodIn_of _ (by decide +kernel)) ggX11_due_X11_layDues
theorem dX11_due_0 : decode cX11_due 0 = .ok (.iload_n 1, 1) := by decide +kernel
theorem dX11_due_1 : decode cX11_due 1 = .ok (.i2l, 1) := by decide +kernel
theorem dX11_due_2 : decode cX11_due 2 = .ok (.lconst 1, 1) := by decide +kernel
theorem dX11_due_3 : decode cX11_due 3 = .ok (.ldc2_w 164, 3) := by decide +kernel
theorem dX11_due_6 : decode cX11_due 6 = .ok (.invokestatic 81, 3) := by decide +kernel
theorem dX11_due_9 : decode cX11_due 9 = .ok (.ifCond .ne 5, 3) := by decide +kernel
theorem dX11_due_12 : decode cX11_due 12 = .ok (.iconst (-1), 1) := by decide +kernel
theorem dX11_due_13 : decode cX11_due 13 = .ok (.ireturn, 1) := by decide +kernel
theorem dX11_due_14 : decode cX11_due 14 = .ok (.aload_n 0, 1) := by decide +kernel
theorem dX11_due_15 : decode cX11_due 15 = .ok (.invokevirtual 166, 3) := by decide +kernel
theorem dX11_due_18 : decode cX11_due 18 = .ok (.aload_n 0, 1) := by decide +kernel
theorem dX11_due_19 : decode cX11_due 19 = .ok (.getfield 28, 3) := by decide +kernel
theorem dX11_due_22 : decode cX11_due 22 = .ok (.iload_n 1, 1) := by decide +kernel
theorem dX11_due_23 : decode cX11_due 23 = .ok (.iaload, 1) := by decide +kernel
theorem dX11_due_24 : decode cX11_due 24 = .ok (.ireturn, 1) := by decide +kernel
theorem dX11_laySums_0 : decode cX11_laySums 0 = .ok (.aload_n 0, 1) := by decide +kernel
theorem dX11_laySums_1 : decode cX11_laySums 1 = .ok (.getfield 31, 3) := by decide +kernel
theorem dX11_laySums_4 : decode cX11_laySums 4 = .ok (.iconst 0, 1) := by decide +kernel
theorem dX11_laySums_5 : decode cX11_laySums 5 = .ok (.lconst 1, 1) := by decide +kernel
theorem dX11_laySums_6 : decode cX11_laySums 6 = .ok (.lastore, 1) := by decide +kernel
theorem dX11_laySums_7 : decode cX11_laySums 7 = .ok (.aload_n 0, 1) := by decide +kernel
theorem dX11_laySums_8 : decode cX11_laySums 8 = .ok (.getfield 31, 3) := by decide +kernel
theorem dX11_laySums_11 : decode cX11_laySums 11 = .ok (.iconst 1, 1) := by decide +kernel
theorem dX11_laySums_12 : decode cX11_laySums 12 = .ok (.lconst 0, 1) := by decide +kernel
theorem dX11_laySums_13 : decode cX11_laySums 13 = .ok (.lastore, 1) := by decide +kernel
theorem dX11_laySums_14 : decode cX11_laySums 14 = .ok (.aload_n 0, 1) := by decide +kernel
theorem dX11_laySums_15 : decode cX11_laySums 15 = .ok (.getfield 31, 3) := by decide +kernel
theorem dX11_laySums_18 : decode cX11_laySums 18 = .ok (.iconst 2, 1) := by decide +kernel
theorem dX11_laySums_19 : decode cX11_laySums 19 = .ok (.lconst 0, 1) := by decide +kernel
theorem dX11_laySums_20 : decode cX11_laySums 20 = .ok (.lastore, 1) := by decide +kernel
theorem dX11_laySums_21 : decode cX11_laySums 21 = .ok (.aload_n 0, 1) := by decide +kernel
theorem dX11_laySums_22 : decode cX11_laySums 22 = .ok (.getfield 31, 3) := by decide +kernel
theorem dX11_laySums_25 : decode cX11_laySums 25 = .ok (.iconst 3, 1) := by decide +kernel
theorem dX11_laySums_26 : decode cX11_laySums 26 = .ok (.lconst 0, 1) := by decide +kernel
theorem dX11_laySums_27 : decode cX11_laySums 27 = .ok (.lastore, 1) := by decide +kernel
theorem dX11_laySums_28 : decode cX11_laySums 28 = .ok (.iconst 0, 1) := by decide +kernel
theorem dX11_laySums_29 : decode cX11_laySums 29 = .ok (.istore_n 1, 1) := by decide +kernel
theorem dX11_laySums_30 : decode cX11_laySums 30 = .ok (.iload_n 1, 1) := by decide +kernel
theorem dX11_laySums_31 : decode cX11_laySums 31 = .ok (.aload_n 0, 1) := by decide +kernel
theorem dX11_laySums_32 : decode cX11_laySums 32 = .ok (.getfield 85, 3) := by decide +kernel
theorem dX11_laySums_35 : decode cX11_laySums 35 = .ok (.if_icmp .ge 104, 3) := by decide +kernel
theorem dX11_laySums_38 : decode cX11_laySums 38 = .ok (.aload_n 0, 1) := by decide +kernel
theorem dX11_laySums_39 : decode cX11_laySums 39 = .ok (.getfield 22, 3) := by decide +kernel
theorem dX11_laySums_42 : decode cX11_laySums 42 = .ok (.iload_n 1, 1) := by decide +kernel
theorem dX11_laySums_43 : decode cX11_laySums 43 = .ok (.iaload, 1) := by decide +kernel
theorem dX11_laySums_44 : decode cX11_laySums 44 = .ok (.bipush 64, 2) := by decide +kernel
theorem dX11_laySums_46 : decode cX11_laySums 46 = .ok (.idiv, 1) := by decide +kernel
theorem dX11_laySums_47 : decode cX11_laySums 47 = .ok (.istore_n 2, 1) := by decide +kernel
theorem dX11_laySums_48 : decode cX11_laySums 48 = .ok (.aload_n 0, 1) := by decide +kernel
theorem dX11_laySums_49 : decode cX11_laySums 49 = .ok (.getfield 22, 3) := by decide +kernel
theorem dX11_laySums_52 : decode cX11_laySums 52 = .ok (.iload_n 1, 1) := by decide +kernel
theorem dX11_laySums_53 : decode cX11_laySums 53 = .ok (.iaload, 1) := by decide +kernel
theorem dX11_laySums_54 : decode cX11_laySums 54 = .ok (.bipush 64, 2) := by decide +kernel
theorem dX11_laySums_56 : decode cX11_laySums 56 = .ok (.irem, 1) := by decide +kernel
theorem dX11_laySums_57 : decode cX11_laySums 57 = .ok (.istore_n 3, 1) := by decide +kernel
theorem dX11_laySums_58 : decode cX11_laySums 58 = .ok (.iconst 3, 1) := by decide +kernel
theorem dX11_laySums_59 : decode cX11_laySums 59 = .ok (.istore 4, 2) := by decide +kernel
theorem dX11_laySums_61 : decode cX11_laySums 61 = .ok (.iload 4, 2) := by decide +kernel
theorem dX11_laySums_63 : decode cX11_laySums 63 = .ok (.iload_n 2, 1) := by decide +kernel
theorem dX11_laySums_64 : decode cX11_laySums 64 = .ok (.if_icmp .lt 69, 3) := by decide +kernel
theorem dX11_laySums_67 : decode cX11_laySums 67 = .ok (.aload_n 0, 1) := by decide +kernel
theorem dX11_laySums_68 : decode cX11_laySums 68 = .ok (.getfield 31, 3) := by decide +kernel
theorem dX11_laySums_71 : decode cX11_laySums 71 = .ok (.iload 4, 2) := by decide +kernel
theorem dX11_laySums_73 : decode cX11_laySums 73 = .ok (.iload_n 2, 1) := by decide +kernel
theorem dX11_laySums_74 : decode cX11_laySums 74 = .ok (.isub, 1) := by decide +kernel
theorem dX11_laySums_75 : decode cX11_laySums 75 = .ok (.laload, 1) := by decide +kernel
theorem dX11_laySums_76 : decode cX11_laySums 76 = .ok (.iload_n 3, 1) := by decide +kernel
theorem dX11_laySums_77 : decode cX11_laySums 77 = .ok (.lshl, 1) := by decide +kernel
theorem dX11_laySums_78 : decode cX11_laySums 78 = .ok (.lstore 5, 2) := by decide +kernel
theorem dX11_laySums_80 : decode cX11_laySums 80 = .ok (.lload 5, 2) := by decide +kernel
theorem dX11_laySums_82 : decode cX11_laySums 82 = .ok (.iload_n 3, 1) := by decide +kernel
theorem dX11_laySums_83 : decode cX11_laySums 83 = .ok (.ifCond .le 28, 3) := by decide +kernel
theorem dX11_laySums_86 : decode cX11_laySums 86 = .ok (.iload 4, 2) := by decide +kernel
theorem dX11_laySums_88 : decode cX11_laySums 88 = .ok (.iload_n 2, 1) := by decide +kernel
theorem dX11_laySums_89 : decode cX11_laySums 89 = .ok (.if_icmp .le 22, 3) := by decide +kernel
theorem dX11_laySums_92 : decode cX11_laySums 92 = .ok (.aload_n 0, 1) := by decide +kernel
theorem dX11_laySums_93 : decode cX11_laySums 93 = .ok (.getfield 31, 3) := by decide +kernel
theorem dX11_laySums_96 : decode cX11_laySums 96 = .ok (.iload 4, 2) := by decide +kernel
theorem dX11_laySums_98 : decode cX11_laySums 98 = .ok (.iload_n 2, 1) := by decide +kernel
theorem dX11_laySums_99 : decode cX11_laySums 99 = .ok (.isub, 1) := by decide +kernel
theorem dX11_laySums_100 : decode cX11_laySums 100 = .ok (.iconst 1, 1) := by decide +kernel
theorem dX11_laySums_101 : decode cX11_laySums 101 = .ok (.isub, 1) := by decide +kernel
theorem dX11_laySums_102 : decode cX11_laySums 102 = .ok (.laload, 1) := by decide +kernel
theorem dX11_laySums_103 : decode cX11_laySums 103 = .ok (.bipush 64, 2) := by decide +kernel
theorem dX11_laySums_105 : decode cX11_laySums 105 = .ok (.iload_n 3, 1) := by decide +kernel
theorem dX11_laySums_106 : decode cX11_laySums 106 = .ok (.isub, 1) := by decide +kernel
theorem dX11_laySums_107 : decode cX11_laySums 107 = .ok (.lushr, 1) := by decide +kernel
theorem dX11_laySums_108 : decode cX11_laySums 108 = .ok (.goto 4, 3) := by decide +kernel
theorem dX11_laySums_111 : decode cX11_laySums 111 = .ok (.lconst 0, 1) := by decide +kernel
theorem dX11_laySums_112 : decode cX11_laySums 112 = .ok (.lor, 1) := by decide +kernel
theorem dX11_laySums_113 : decode cX11_laySums 113 = .ok (.lstore 5, 2) := by decide +kernel
theorem dX11_laySums_115 : decode cX11_laySums 115 = .ok (.aload_n 0, 1) := by decide +kernel
theorem dX11_laySums_116 : decode cX11_laySums 116 = .ok (.getfield 31, 3) := by decide +kernel
theorem dX11_laySums_119 : decode cX11_laySums 119 = .ok (.iload 4, 2) := by decide +kernel
theorem dX11_laySums_121 : decode cX11_laySums 121 = .ok (.dup2, 1) := by decide +kernel
theorem dX11_laySums_122 : decode cX11_laySums 122 = .ok (.laload, 1) := by decide +kernel
theorem dX11_laySums_123 : decode cX11_laySums 123 = .ok (.lload 5, 2) := by decide +kernel
theorem dX11_laySums_125 : decode cX11_laySums 125 = .ok (.lor, 1) := by decide +kernel
theorem dX11_laySums_126 : decode cX11_laySums 126 = .ok (.lastore, 1) := by decide +kernel
theorem dX11_laySums_127 : decode cX11_laySums 127 = .ok (.iinc 4 (-1), 3) := by decide +kernel
theorem dX11_laySums_130 : decode cX11_laySums 130 = .ok (.goto (-69), 3) := by decide +kernel
theorem dX11_laySums_133 : decode cX11_laySums 133 = .ok (.iinc 1 1, 3) := by decide +kernel
theorem dX11_laySums_136 : decode cX11_laySums 136 = .ok (.goto (-106), 3) := by decide +kernel
theorem dX11_laySums_139 : decode cX11_laySums 139 = .ok (.return_, 1) := by decide +kernel
theorem dX11_isPaid_0 : decode cX11_isPaid 0 = .ok (.iload_n 1, 1) := by decide +kernel
theorem dX11_isPaid_1 : decode cX11_isPaid 1 = .ok (.sipush 256, 3) := by decide +kernel
theorem dX11_isPaid_4 : decode cX11_isPaid 4 = .ok (.if_icmp .ge 28, 3) := by decide +kernel
theorem dX11_isPaid_7 : decode cX11_isPaid 7 = .ok (.aload_n 0, 1) := by decide +kernel
theorem dX11_isPaid_8 : decode cX11_isPaid 8 = .ok (.getfield 31, 3) := by decide +kernel
theorem dX11_isPaid_11 : decode cX11_isPaid 11 = .ok (.iload_n 1, 1) := by decide +kernel
theorem dX11_isPaid_12 : decode cX11_isPaid 12 = .ok (.bipush 64, 2) := by decide +kernel
theorem dX11_isPaid_14 : decode cX11_isPaid 14 = .ok (.idiv, 1) := by decide +kernel
theorem dX11_isPaid_15 : decode cX11_isPaid 15 = .ok (.laload, 1) := by decide +kernel
theorem dX11_isPaid_16 : decode cX11_isPaid 16 = .ok (.iload_n 1, 1) := by decide +kernel
theorem dX11_isPaid_17 : decode cX11_isPaid 17 = .ok (.bipush 64, 2) := by decide +kernel
theorem dX11_isPaid_19 : decode cX11_isPaid 19 = .ok (.irem, 1) := by decide +kernel
theorem dX11_isPaid_20 : decode cX11_isPaid 20 = .ok (.lshr, 1) := by decide +kernel
theorem dX11_isPaid_21 : decode cX11_isPaid 21 = .ok (.lconst 1, 1) := by decide +kernel
theorem dX11_isPaid_22 : decode cX11_isPaid 22 = .ok (.land, 1) := by decide +kernel
theorem dX11_isPaid_23 : decode cX11_isPaid 23 = .ok (.lconst 1, 1) := by decide +kernel
theorem dX11_isPaid_24 : decode cX11_isPaid 24 = .ok (.lcmp, 1) := by decide +kernel
theorem dX11_isPaid_25 : decode cX11_isPaid 25 = .ok (.ifCond .ne 7, 3) := by decide +kernel
theorem dX11_isPaid_28 : decode cX11_isPaid 28 = .ok (.iconst 1, 1) := by decide +kernel
theorem dX11_isPaid_29 : decode cX11_isPaid 29 = .ok (.goto 4, 3) := by decide +kernel
theorem dX11_isPaid_32 : decode cX11_isPaid 32 = .ok (.iconst 0, 1) := by decide +kernel
theorem dX11_isPaid_33 : decode cX11_isPaid 33 = .ok (.ireturn, 1) := by decide +kernel
set_option maxRecDepth 20000 in
theorem ggX11_pays_X11_in : GoodIn wsX11_pays wsX11_in := goodIn_r _ [5] (by decide +kernel) (by decide +kernel)
set_option maxRecDepth 20000 in
theorem gX11_pays_X11_in : GoodIn wsX11_pays (va_wsS RX11 81 yX11_in wsX11_in) := goodIn_app (goodIn_of _ (by decide +kernel)) ggX11_pays_X11_in
set_option maxRecDepth 20000 in
theorem ggX11_pays_X11_layNow : GoodIn wsX11_pays wsX11_layNow := goodIn_r _ [9, 10, 11, 12, 13, 4, 14, 15, 16, 17, 18, 19, 20, 21, 22, 23, 24, 25, 35, 36, 37, 38, 39, 40, 41, 42, 43, 44, 45, 46, 47, 48, 49, 50, 51, 52, 53, 54, 55, 56, 57, 58, 59, 60, 61, 62, 63, 64] (by decide +kernel) (by decide +kernel)
set_option maxRecDepth 20000 in
theorem gX11_pays_X11_layNow : GoodIn wsX11_pays (wsV RX11 150 RX11 yX11_layNow wsX11_layNow) := goodIn_app (goodIn_of _ (by decide +kernel)) ggX11_pays_X11_layNow
set_option maxRecDepth 20000 in
theorem ggX11_pays_X11_laySums : GoodIn wsX11_pays wsX11_laySums := goodIn_r _ [29, 30, 15, 17, 35, 36, 37, 38, 39, 40, 41, 42, 43, 44, 45, 46, 47, 48, 49, 50, 51, 52, 53, 54, 55, 56, 57, 58, 59, 60, 61, 62, 63, 64] (by decide +kernel) (by decide +kernel)
set_option maxRecDepth 20000 in
theorem gX11_pays_X11_laySums : GoodIn wsX11_pays (wsV RX11 171 RX11 yX11_laySums wsX11_laySums) := goodIn_app (goodIn_of _ (by decide +kernel)) ggX11_pays_X11_laySums
set_option maxRecDepth 20000 in
theorem ggX11_pays_X11_isPaid : GoodIn wsX11_pays wsX11_isPaid := goodIn_r _ [34, 30, 35, 36, 37, 38, 39, 40, 41, 42, 43, 44, 45, 46, 47, 48, 49, 50, 51, 52, 53, 54, 55, 56, 57, 58, 59, 60, 61, 62, 63, 64] (by decide +kernel) (by decide +kernel)
set_option maxRecDepth 20000 in
theorem gX11_pays_X11_isPaid : GoodIn wsX11_pays (wsV RX11 174 RX11 yX11_isPaid wsX11_isPaid) := goodIn_app (goodIn_of _ (by decide +kernel)) ggX11_pays_X11_isPaid
theorem dX11_pays_0 : decode cX11_pays 0 = .ok (.iload_n 1, 1) := by decide +kernel
theorem dX11_pays_1 : decode cX11_pays 1 = .ok (.i2l, 1) := by decide +kernel
theorem dX11_pays_2 : decode cX11_pays 2 = .ok (.lconst 0, 1) := by decide +kernel
theorem dX11_pays_3 : decode cX11_pays 3 = .ok (.ldc2_w 169, 3) := by decide +kernel
theorem dX11_pays_6 : decode cX11_pays 6 = .ok (.invokestatic 81, 3) := by decide +kernel
theorem dX11_pays_9 : decode cX11_pays 9 = .ok (.ifCond .ne 5, 3) := by decide +kernel
theorem dX11_pays_12 : decode cX11_pays 12 = .ok (.iconst (-1), 1) := by decide +kernel
theorem dX11_pays_13 : decode cX11_pays 13 = .ok (.ireturn, 1) := by decide +kernel
theorem dX11_pays_14 : decode cX11_pays 14 = .ok (.aload_n 0, 1) := by decide +kernel
theorem dX11_pays_15 : decode cX11_pays 15 = .ok (.invokevirtual 150, 3) := by decide +kernel
theorem dX11_pays_18 : decode cX11_pays 18 = .ok (.aload_n 0, 1) := by decide +kernel
theorem dX11_pays_19 : decode cX11_pays 19 = .ok (.invokevirtual 171, 3) := by decide +kernel
theorem dX11_pays_22 : decode cX11_pays 22 = .ok (.aload_n 0, 1) := by decide +kernel
theorem dX11_pays_23 : decode cX11_pays 23 = .ok (.iload_n 1, 1) := by decide +kernel
theorem dX11_pays_24 : decode cX11_pays 24 = .ok (.invokevirtual 174, 3) := by decide +kernel
theorem dX11_pays_27 : decode cX11_pays 27 = .ok (.ifCond .eq 7, 3) := by decide +kernel
theorem dX11_pays_30 : decode cX11_pays 30 = .ok (.iconst 1, 1) := by decide +kernel
theorem dX11_pays_31 : decode cX11_pays 31 = .ok (.goto 4, 3) := by decide +kernel
theorem dX11_pays_34 : decode cX11_pays 34 = .ok (.iconst 0, 1) := by decide +kernel
theorem dX11_pays_35 : decode cX11_pays 35 = .ok (.ireturn, 1) := by decide +kernel
set_option maxRecDepth 20000 in
theorem ggX11_farBy_X11_lay : GoodIn wsX11_farBy wsX11_lay := goodIn_r _ [6, 7, 8, 9, 10, 11, 12, 13, 5, 14, 15, 16, 17, 18, 28, 29, 30, 31, 32, 33, 34, 35, 36, 37, 38, 39, 40, 41, 42, 43, 44, 45, 46, 47, 48, 49, 50, 51, 52, 53, 54, 55, 56, 57] (by decide +kernel) (by decide +kernel)
set_option maxRecDepth 20000 in
theorem gX11_farBy_X11_lay : GoodIn wsX11_farBy (wsV RX11 97 RX11 yX11_lay wsX11_lay) := goodIn_app (goodIn_of _ (by decide +kernel)) ggX11_farBy_X11_lay
set_option maxRecDepth 20000 in
theorem ggX11_farBy_X11_laySums : GoodIn wsX11_farBy wsX11_laySums := goodIn_r _ [22, 23, 7, 10, 28, 29, 30, 31, 32, 33, 34, 35, 36, 37, 38, 39, 40, 41, 42, 43, 44, 45, 46, 47, 48, 49, 50, 51, 52, 53, 54, 55, 56, 57] (by decide +kernel) (by decide +kernel)
set_option maxRecDepth 20000 in
theorem gX11_farBy_X11_laySums : GoodIn wsX11_farBy (wsV RX11 171 RX11 yX11_laySums wsX11_laySums) := goodIn_app (goodIn_of _ (by decide +kernel)) ggX11_farBy_X11_laySums
set_option maxRecDepth 20000 in
theorem ggX11_farBy_X11_isPaid : GoodIn wsX11_farBy wsX11_isPaid := goodIn_r _ [27, 23, 28, 29, 30, 31, 32, 33, 34, 35, 36, 37, 38, 39, 40, 41, 42, 43, 44, 45, 46, 47, 48, 49, 50, 51, 52, 53, 54, 55, 56, 57] (by decide +kernel) (by decide +kernel)
set_option maxRecDepth 20000 in
theorem gX11_farBy_X11_isPaid : GoodIn wsX11_farBy (wsV RX11 174 RX11 yX11_isPaid wsX11_isPaid) := goodIn_app (goodIn_of _ (by decide +kernel)) ggX11_farBy_X11_isPaid
theorem dX11_farBy_0 : decode cX11_farBy 0 = .ok (.aload_n 0, 1) := by decide +kernel
theorem dX11_farBy_1 : decode cX11_farBy 1 = .ok (.iload_n 1, 1) := by decide +kernel
theorem dX11_farBy_2 : decode cX11_farBy 2 = .ok (.invokevirtual 97, 3) := by decide +kernel
theorem dX11_farBy_5 : decode cX11_farBy 5 = .ok (.aload_n 0, 1) := by decide +kernel
theorem dX11_farBy_6 : decode cX11_farBy 6 = .ok (.invokevirtual 171, 3) := by decide +kernel
theorem dX11_farBy_9 : decode cX11_farBy 9 = .ok (.iconst 0, 1) := by decide +kernel
theorem dX11_farBy_10 : decode cX11_farBy 10 = .ok (.istore_n 2, 1) := by decide +kernel
theorem dX11_farBy_11 : decode cX11_farBy 11 = .ok (.iload_n 2, 1) := by decide +kernel
theorem dX11_farBy_12 : decode cX11_farBy 12 = .ok (.bipush 60, 2) := by decide +kernel
theorem dX11_farBy_14 : decode cX11_farBy 14 = .ok (.if_icmp .ge 24, 3) := by decide +kernel
theorem dX11_farBy_17 : decode cX11_farBy 17 = .ok (.aload_n 0, 1) := by decide +kernel
theorem dX11_farBy_18 : decode cX11_farBy 18 = .ok (.aload_n 0, 1) := by decide +kernel
theorem dX11_farBy_19 : decode cX11_farBy 19 = .ok (.getfield 28, 3) := by decide +kernel
theorem dX11_farBy_22 : decode cX11_farBy 22 = .ok (.iload_n 2, 1) := by decide +kernel
theorem dX11_farBy_23 : decode cX11_farBy 23 = .ok (.iconst 1, 1) := by decide +kernel
theorem dX11_farBy_24 : decode cX11_farBy 24 = .ok (.iadd, 1) := by decide +kernel
theorem dX11_farBy_25 : decode cX11_farBy 25 = .ok (.iaload, 1) := by decide +kernel
theorem dX11_farBy_26 : decode cX11_farBy 26 = .ok (.invokevirtual 174, 3) := by decide +kernel
theorem dX11_farBy_29 : decode cX11_farBy 29 = .ok (.ifCond .eq 9, 3) := by decide +kernel
theorem dX11_farBy_32 : decode cX11_farBy 32 = .ok (.iinc 2 1, 3) := by decide +kernel
theorem dX11_farBy_35 : decode cX11_farBy 35 = .ok (.goto (-24), 3) := by decide +kernel
theorem dX11_farBy_38 : decode cX11_farBy 38 = .ok (.iload_n 2, 1) := by decide +kernel
theorem dX11_farBy_39 : decode cX11_farBy 39 = .ok (.ireturn, 1) := by decide +kernel
set_option maxRecDepth 20000 in
theorem ggX11_far_X11_layDues : GoodIn wsX11_far wsX11_layDues := goodIn_r _ [6, 7, 1, 8, 9, 5, 10, 36, 37, 38, 39, 40, 41, 42, 43, 44, 45, 46, 47, 48, 49, 50, 51, 52, 53, 54, 55, 56, 57, 58, 59, 60, 61, 62, 63, 64, 65] (by decide +kernel) (by decide +kernel)
set_option maxRecDepth 20000 in
theorem gX11_far_X11_layDues : GoodIn wsX11_far (wsV RX11 166 RX11 yX11_layDues wsX11_layDues) := goodIn_app (goodIn_of _ (by decide +kernel)) ggX11_far_X11_layDues
set_option maxRecDepth 20000 in
theorem ggX11_far_X11_farBy : GoodIn wsX11_far wsX11_farBy := goodIn_r _ [14, 7, 15, 16, 17, 5, 18, 19, 1, 20, 21, 22, 8, 9, 10, 23, 24, 25, 26, 27, 28, 29, 30, 31, 32, 33, 34, 35, 36, 37, 38, 39, 40, 41, 42, 43, 44, 45, 46, 47, 48, 49, 50, 51, 52, 53, 54, 55, 56, 57, 58, 59, 60, 61, 62, 63, 64, 65] (by decide +kernel) (by decide +kernel)
set_option maxRecDepth 20000 in
theorem gX11_far_X11_farBy : GoodIn wsX11_far (wsV RX11 177 RX11 yX11_farBy wsX11_farBy) := goodIn_app (goodIn_of _ (by decide +kernel)) ggX11_far_X11_farBy
theorem dX11_far_0 : decode cX11_far 0 = .ok (.aload_n 0, 1) := by decide +kernel
theorem dX11_far_1 : decode cX11_far 1 = .ok (.invokevirtual 166, 3) := by decide +kernel
theorem dX11_far_4 : decode cX11_far 4 = .ok (.aload_n 0, 1) := by decide +kernel
theorem dX11_far_5 : decode cX11_far 5 = .ok (.aload_n 0, 1) := by decide +kernel
theorem dX11_far_6 : decode cX11_far 6 = .ok (.getfield 7, 3) := by decide +kernel
theorem dX11_far_9 : decode cX11_far 9 = .ok (.bipush 26, 2) := by decide +kernel
theorem dX11_far_11 : decode cX11_far 11 = .ok (.iaload, 1) := by decide +kernel
theorem dX11_far_12 : decode cX11_far 12 = .ok (.invokevirtual 177, 3) := by decide +kernel
theorem dX11_far_15 : decode cX11_far 15 = .ok (.ireturn, 1) := by decide +kernel
theorem dX11_laySets_0 : decode cX11_laySets 0 = .ok (.aload_n 0, 1) := by decide +kernel
theorem dX11_laySets_1 : decode cX11_laySets 1 = .ok (.getfield 35, 3) := by decide +kernel
theorem dX11_laySets_4 : decode cX11_laySets 4 = .ok (.iconst 0, 1) := by decide +kernel
theorem dX11_laySets_5 : decode cX11_laySets 5 = .ok (.iconst 0, 1) := by decide +kernel
theorem dX11_laySets_6 : decode cX11_laySets 6 = .ok (.iastore, 1) := by decide +kernel
theorem dX11_laySets_7 : decode cX11_laySets 7 = .ok (.iconst 0, 1) := by decide +kernel
theorem dX11_laySets_8 : decode cX11_laySets 8 = .ok (.istore_n 1, 1) := by decide +kernel
theorem dX11_laySets_9 : decode cX11_laySets 9 = .ok (.iload_n 1, 1) := by decide +kernel
theorem dX11_laySets_10 : decode cX11_laySets 10 = .ok (.aload_n 0, 1) := by decide +kernel
theorem dX11_laySets_11 : decode cX11_laySets 11 = .ok (.getfield 85, 3) := by decide +kernel
theorem dX11_laySets_14 : decode cX11_laySets 14 = .ok (.if_icmp .ge 49, 3) := by decide +kernel
theorem dX11_laySets_17 : decode cX11_laySets 17 = .ok (.iconst 1, 1) := by decide +kernel
theorem dX11_laySets_18 : decode cX11_laySets 18 = .ok (.iload_n 1, 1) := by decide +kernel
theorem dX11_laySets_19 : decode cX11_laySets 19 = .ok (.ishl, 1) := by decide +kernel
theorem dX11_laySets_20 : decode cX11_laySets 20 = .ok (.istore_n 2, 1) := by decide +kernel
theorem dX11_laySets_21 : decode cX11_laySets 21 = .ok (.iload_n 2, 1) := by decide +kernel
theorem dX11_laySets_22 : decode cX11_laySets 22 = .ok (.iconst 2, 1) := by decide +kernel
theorem dX11_laySets_23 : decode cX11_laySets 23 = .ok (.iload_n 1, 1) := by decide +kernel
theorem dX11_laySets_24 : decode cX11_laySets 24 = .ok (.ishl, 1) := by decide +kernel
theorem dX11_laySets_25 : decode cX11_laySets 25 = .ok (.if_icmp .ge 32, 3) := by decide +kernel
theorem dX11_laySets_28 : decode cX11_laySets 28 = .ok (.aload_n 0, 1) := by decide +kernel
theorem dX11_laySets_29 : decode cX11_laySets 29 = .ok (.getfield 35, 3) := by decide +kernel
theorem dX11_laySets_32 : decode cX11_laySets 32 = .ok (.iload_n 2, 1) := by decide +kernel
theorem dX11_laySets_33 : decode cX11_laySets 33 = .ok (.aload_n 0, 1) := by decide +kernel
theorem dX11_laySets_34 : decode cX11_laySets 34 = .ok (.getfield 35, 3) := by decide +kernel
theorem dX11_laySets_37 : decode cX11_laySets 37 = .ok (.iload_n 2, 1) := by decide +kernel
theorem dX11_laySets_38 : decode cX11_laySets 38 = .ok (.iconst 1, 1) := by decide +kernel
theorem dX11_laySets_39 : decode cX11_laySets 39 = .ok (.iload_n 1, 1) := by decide +kernel
theorem dX11_laySets_40 : decode cX11_laySets 40 = .ok (.ishl, 1) := by decide +kernel
theorem dX11_laySets_41 : decode cX11_laySets 41 = .ok (.isub, 1) := by decide +kernel
theorem dX11_laySets_42 : decode cX11_laySets 42 = .ok (.iaload, 1) := by decide +kernel
theorem dX11_laySets_43 : decode cX11_laySets 43 = .ok (.aload_n 0, 1) := by decide +kernel
theorem dX11_laySets_44 : decode cX11_laySets 44 = .ok (.getfield 22, 3) := by decide +kernel
theorem dX11_laySets_47 : decode cX11_laySets 47 = .ok (.iload_n 1, 1) := by decide +kernel
theorem dX11_laySets_48 : decode cX11_laySets 48 = .ok (.iaload, 1) := by decide +kernel
theorem dX11_laySets_49 : decode cX11_laySets 49 = .ok (.iadd, 1) := by decide +kernel
theorem dX11_laySets_50 : decode cX11_laySets 50 = .ok (.iastore, 1) := by decide +kernel
theorem dX11_laySets_51 : decode cX11_laySets 51 = .ok (.iinc 2 1, 3) := by decide +kernel
theorem dX11_laySets_54 : decode cX11_laySets 54 = .ok (.goto (-33), 3) := by decide +kernel
theorem dX11_laySets_57 : decode cX11_laySets 57 = .ok (.iinc 1 1, 3) := by decide +kernel
theorem dX11_laySets_60 : decode cX11_laySets 60 = .ok (.goto (-51), 3) := by decide +kernel
theorem dX11_laySets_63 : decode cX11_laySets 63 = .ok (.return_, 1) := by decide +kernel
set_option maxRecDepth 20000 in
theorem ggX11_kept_X11_layDues : GoodIn wsX11_kept wsX11_layDues := goodIn_r _ [9, 4, 10, 11, 12, 8, 13, 33, 34, 35, 36, 37, 38, 39, 40, 41, 42, 43, 44, 45, 46, 47, 48, 49, 50, 51, 52, 53, 54, 55, 56, 57, 58, 59, 60, 61, 62] (by decide +kernel) (by decide +kernel)
set_option maxRecDepth 20000 in
theorem gX11_kept_X11_layDues : GoodIn wsX11_kept (wsV RX11 166 RX11 yX11_layDues wsX11_layDues) := goodIn_app (goodIn_of _ (by decide +kernel)) ggX11_kept_X11_layDues
set_option maxRecDepth 20000 in
theorem ggX11_kept_X11_layNow : GoodIn wsX11_kept wsX11_layNow := goodIn_r _ [17, 10, 18, 19, 20, 8, 21, 1, 22, 23, 24, 11, 12, 13, 25, 26, 27, 28, 33, 34, 35, 36, 37, 38, 39, 40, 41, 42, 43, 44, 45, 46, 47, 48, 49, 50, 51, 52, 53, 54, 55, 56, 57, 58, 59, 60, 61, 62] (by decide +kernel) (by decide +kernel)
set_option maxRecDepth 20000 in
theorem gX11_kept_X11_layNow : GoodIn wsX11_kept (wsV RX11 150 RX11 yX11_layNow wsX11_layNow) := goodIn_app (goodIn_of _ (by decide +kernel)) ggX11_kept_X11_layNow
set_option maxRecDepth 20000 in
theorem ggX11_kept_X11_laySets : GoodIn wsX11_kept wsX11_laySets := goodIn_r _ [32, 3, 1, 23, 33, 34, 35, 36, 37, 38, 39, 40, 41, 42, 43, 44, 45, 46, 47, 48, 49, 50, 51, 52, 53, 54, 55, 56, 57, 58, 59, 60, 61, 62] (by decide +kernel) (by decide +kernel)
set_option maxRecDepth 20000 in
theorem gX11_kept_X11_laySets : GoodIn wsX11_kept (wsV RX11 180 RX11 yX11_laySets wsX11_laySets) := goodIn_app (goodIn_of _ (by decide +kernel)) ggX11_kept_X11_laySets
set_option maxRecDepth 20000 in
theorem ggX11_kept_X11_has : GoodIn wsX11_kept wsX11_has := goodIn_r _ [13] (by decide +kernel) (by decide +kernel)
set_option maxRecDepth 20000 in
theorem gX11_kept_X11_has : GoodIn wsX11_kept (va_wsS RX11 89 yX11_has wsX11_has) := goodIn_app (goodIn_of _ (by decide +kernel)) ggX11_kept_X11_has
theorem dX11_kept_0 : decode cX11_kept 0 = .ok (.aload_n 0, 1) := by decide +kernel
theorem dX11_kept_1 : decode cX11_kept 1 = .ok (.invokevirtual 166, 3) := by decide +kernel
theorem dX11_kept_4 : decode cX11_kept 4 = .ok (.aload_n 0, 1) := by decide +kernel
theorem dX11_kept_5 : decode cX11_kept 5 = .ok (.invokevirtual 150, 3) := by decide +kernel
theorem dX11_kept_8 : decode cX11_kept 8 = .ok (.aload_n 0, 1) := by decide +kernel
theorem dX11_kept_9 : decode cX11_kept 9 = .ok (.invokevirtual 180, 3) := by decide +kernel
theorem dX11_kept_12 : decode cX11_kept 12 = .ok (.iconst 1, 1) := by decide +kernel
theorem dX11_kept_13 : decode cX11_kept 13 = .ok (.aload_n 0, 1) := by decide +kernel
theorem dX11_kept_14 : decode cX11_kept 14 = .ok (.getfield 85, 3) := by decide +kernel
theorem dX11_kept_17 : decode cX11_kept 17 = .ok (.ishl, 1) := by decide +kernel
theorem dX11_kept_18 : decode cX11_kept 18 = .ok (.istore_n 1, 1) := by decide +kernel
theorem dX11_kept_19 : decode cX11_kept 19 = .ok (.iconst 0, 1) := by decide +kernel
theorem dX11_kept_20 : decode cX11_kept 20 = .ok (.istore_n 2, 1) := by decide +kernel
theorem dX11_kept_21 : decode cX11_kept 21 = .ok (.iload_n 2, 1) := by decide +kernel
theorem dX11_kept_22 : decode cX11_kept 22 = .ok (.iload_n 1, 1) := by decide +kernel
theorem dX11_kept_23 : decode cX11_kept 23 = .ok (.if_icmp .ge 24, 3) := by decide +kernel
theorem dX11_kept_26 : decode cX11_kept 26 = .ok (.aload_n 0, 1) := by decide +kernel
theorem dX11_kept_27 : decode cX11_kept 27 = .ok (.getfield 38, 3) := by decide +kernel
theorem dX11_kept_30 : decode cX11_kept 30 = .ok (.iload_n 2, 1) := by decide +kernel
theorem dX11_kept_31 : decode cX11_kept 31 = .ok (.iload_n 2, 1) := by decide +kernel
theorem dX11_kept_32 : decode cX11_kept 32 = .ok (.ifCond .ne 7, 3) := by decide +kernel
theorem dX11_kept_35 : decode cX11_kept 35 = .ok (.iconst 1, 1) := by decide +kernel
theorem dX11_kept_36 : decode cX11_kept 36 = .ok (.goto 4, 3) := by decide +kernel
theorem dX11_kept_39 : decode cX11_kept 39 = .ok (.iconst 0, 1) := by decide +kernel
theorem dX11_kept_40 : decode cX11_kept 40 = .ok (.bastore, 1) := by decide +kernel
theorem dX11_kept_41 : decode cX11_kept 41 = .ok (.iinc 2 1, 3) := by decide +kernel
theorem dX11_kept_44 : decode cX11_kept 44 = .ok (.goto (-23), 3) := by decide +kernel
theorem dX11_kept_47 : decode cX11_kept 47 = .ok (.iconst 1, 1) := by decide +kernel
theorem dX11_kept_48 : decode cX11_kept 48 = .ok (.istore_n 2, 1) := by decide +kernel
theorem dX11_kept_49 : decode cX11_kept 49 = .ok (.iload_n 2, 1) := by decide +kernel
theorem dX11_kept_50 : decode cX11_kept 50 = .ok (.bipush 60, 2) := by decide +kernel
theorem dX11_kept_52 : decode cX11_kept 52 = .ok (.if_icmp .gt 168, 3) := by decide +kernel
theorem dX11_kept_55 : decode cX11_kept 55 = .ok (.iconst 0, 1) := by decide +kernel
theorem dX11_kept_56 : decode cX11_kept 56 = .ok (.istore_n 3, 1) := by decide +kernel
theorem dX11_kept_57 : decode cX11_kept 57 = .ok (.iload_n 3, 1) := by decide +kernel
theorem dX11_kept_58 : decode cX11_kept 58 = .ok (.aload_n 0, 1) := by decide +kernel
theorem dX11_kept_59 : decode cX11_kept 59 = .ok (.getfield 85, 3) := by decide +kernel
theorem dX11_kept_62 : decode cX11_kept 62 = .ok (.if_icmp .ge 69, 3) := by decide +kernel
theorem dX11_kept_65 : decode cX11_kept 65 = .ok (.iconst 0, 1) := by decide +kernel
theorem dX11_kept_66 : decode cX11_kept 66 = .ok (.istore 4, 2) := by decide +kernel
theorem dX11_kept_68 : decode cX11_kept 68 = .ok (.iload 4, 2) := by decide +kernel
theorem dX11_kept_70 : decode cX11_kept 70 = .ok (.iload_n 1, 1) := by decide +kernel
theorem dX11_kept_71 : decode cX11_kept 71 = .ok (.if_icmp .ge 54, 3) := by decide +kernel
theorem dX11_kept_74 : decode cX11_kept 74 = .ok (.aload_n 0, 1) := by decide +kernel
theorem dX11_kept_75 : decode cX11_kept 75 = .ok (.getfield 38, 3) := by decide +kernel
theorem dX11_kept_78 : decode cX11_kept 78 = .ok (.iload 4, 2) := by decide +kernel
theorem dX11_kept_80 : decode cX11_kept 80 = .ok (.aload_n 0, 1) := by decide +kernel
theorem dX11_kept_81 : decode cX11_kept 81 = .ok (.getfield 38, 3) := by decide +kernel
theorem dX11_kept_84 : decode cX11_kept 84 = .ok (.iload 4, 2) := by decide +kernel
theorem dX11_kept_86 : decode cX11_kept 86 = .ok (.baload, 1) := by decide +kernel
theorem dX11_kept_87 : decode cX11_kept 87 = .ok (.ifCond .ne 26, 3) := by decide +kernel
theorem dX11_kept_90 : decode cX11_kept 90 = .ok (.iload 4, 2) := by decide +kernel
theorem dX11_kept_92 : decode cX11_kept 92 = .ok (.iload_n 3, 1) := by decide +kernel
theorem dX11_kept_93 : decode cX11_kept 93 = .ok (.invokestatic 89, 3) := by decide +kernel
theorem dX11_kept_96 : decode cX11_kept 96 = .ok (.ifCond .eq 21, 3) := by decide +kernel
theorem dX11_kept_99 : decode cX11_kept 99 = .ok (.aload_n 0, 1) := by decide +kernel
theorem dX11_kept_100 : decode cX11_kept 100 = .ok (.getfield 38, 3) := by decide +kernel
theorem dX11_kept_103 : decode cX11_kept 103 = .ok (.iload 4, 2) := by decide +kernel
theorem dX11_kept_105 : decode cX11_kept 105 = .ok (.iconst 1, 1) := by decide +kernel
theorem dX11_kept_106 : decode cX11_kept 106 = .ok (.iload_n 3, 1) := by decide +kernel
theorem dX11_kept_107 : decode cX11_kept 107 = .ok (.ishl, 1) := by decide +kernel
theorem dX11_kept_108 : decode cX11_kept 108 = .ok (.isub, 1) := by decide +kernel
theorem dX11_kept_109 : decode cX11_kept 109 = .ok (.baload, 1) := by decide +kernel
theorem dX11_kept_110 : decode cX11_kept 110 = .ok (.ifCond .eq 7, 3) := by decide +kernel
theorem dX11_kept_113 : decode cX11_kept 113 = .ok (.iconst 1, 1) := by decide +kernel
theorem dX11_kept_114 : decode cX11_kept 114 = .ok (.goto 4, 3) := by decide +kernel
theorem dX11_kept_117 : decode cX11_kept 117 = .ok (.iconst 0, 1) := by decide +kernel
theorem dX11_kept_118 : decode cX11_kept 118 = .ok (.bastore, 1) := by decide +kernel
theorem dX11_kept_119 : decode cX11_kept 119 = .ok (.iinc 4 1, 3) := by decide +kernel
theorem dX11_kept_122 : decode cX11_kept 122 = .ok (.goto (-54), 3) := by decide +kernel
theorem dX11_kept_125 : decode cX11_kept 125 = .ok (.iinc 3 1, 3) := by decide +kernel
theorem dX11_kept_128 : decode cX11_kept 128 = .ok (.goto (-71), 3) := by decide +kernel
theorem dX11_kept_131 : decode cX11_kept 131 = .ok (.iconst 0, 1) := by decide +kernel
theorem dX11_kept_132 : decode cX11_kept 132 = .ok (.istore_n 3, 1) := by decide +kernel
theorem dX11_kept_133 : decode cX11_kept 133 = .ok (.iconst 0, 1) := by decide +kernel
theorem dX11_kept_134 : decode cX11_kept 134 = .ok (.istore 4, 2) := by decide +kernel
theorem dX11_kept_136 : decode cX11_kept 136 = .ok (.iload 4, 2) := by decide +kernel
theorem dX11_kept_138 : decode cX11_kept 138 = .ok (.iload_n 1, 1) := by decide +kernel
theorem dX11_kept_139 : decode cX11_kept 139 = .ok (.if_icmp .ge 67, 3) := by decide +kernel
theorem dX11_kept_142 : decode cX11_kept 142 = .ok (.aload_n 0, 1) := by decide +kernel
theorem dX11_kept_143 : decode cX11_kept 143 = .ok (.getfield 38, 3) := by decide +kernel
theorem dX11_kept_146 : decode cX11_kept 146 = .ok (.iload 4, 2) := by decide +kernel
theorem dX11_kept_148 : decode cX11_kept 148 = .ok (.aload_n 0, 1) := by decide +kernel
theorem dX11_kept_149 : decode cX11_kept 149 = .ok (.getfield 38, 3) := by decide +kernel
theorem dX11_kept_152 : decode cX11_kept 152 = .ok (.iload 4, 2) := by decide +kernel
theorem dX11_kept_154 : decode cX11_kept 154 = .ok (.baload, 1) := by decide +kernel
theorem dX11_kept_155 : decode cX11_kept 155 = .ok (.ifCond .eq 23, 3) := by decide +kernel
theorem dX11_kept_158 : decode cX11_kept 158 = .ok (.aload_n 0, 1) := by decide +kernel
theorem dX11_kept_159 : decode cX11_kept 159 = .ok (.getfield 35, 3) := by decide +kernel
theorem dX11_kept_162 : decode cX11_kept 162 = .ok (.iload 4, 2) := by decide +kernel
theorem dX11_kept_164 : decode cX11_kept 164 = .ok (.iaload, 1) := by decide +kernel
theorem dX11_kept_165 : decode cX11_kept 165 = .ok (.aload_n 0, 1) := by decide +kernel
theorem dX11_kept_166 : decode cX11_kept 166 = .ok (.getfield 28, 3) := by decide +kernel
theorem dX11_kept_169 : decode cX11_kept 169 = .ok (.iload_n 2, 1) := by decide +kernel
theorem dX11_kept_170 : decode cX11_kept 170 = .ok (.iaload, 1) := by decide +kernel
theorem dX11_kept_171 : decode cX11_kept 171 = .ok (.if_icmp .ne 7, 3) := by decide +kernel
theorem dX11_kept_174 : decode cX11_kept 174 = .ok (.iconst 1, 1) := by decide +kernel
theorem dX11_kept_175 : decode cX11_kept 175 = .ok (.goto 4, 3) := by decide +kernel
theorem dX11_kept_178 : decode cX11_kept 178 = .ok (.iconst 0, 1) := by decide +kernel
theorem dX11_kept_179 : decode cX11_kept 179 = .ok (.bastore, 1) := by decide +kernel
theorem dX11_kept_180 : decode cX11_kept 180 = .ok (.iload_n 3, 1) := by decide +kernel
theorem dX11_kept_181 : decode cX11_kept 181 = .ok (.ifCond .ne 13, 3) := by decide +kernel
theorem dX11_kept_184 : decode cX11_kept 184 = .ok (.aload_n 0, 1) := by decide +kernel
theorem dX11_kept_185 : decode cX11_kept 185 = .ok (.getfield 38, 3) := by decide +kernel
theorem dX11_kept_188 : decode cX11_kept 188 = .ok (.iload 4, 2) := by decide +kernel
theorem dX11_kept_190 : decode cX11_kept 190 = .ok (.baload, 1) := by decide +kernel
theorem dX11_kept_191 : decode cX11_kept 191 = .ok (.ifCond .eq 7, 3) := by decide +kernel
theorem dX11_kept_194 : decode cX11_kept 194 = .ok (.iconst 1, 1) := by decide +kernel
theorem dX11_kept_195 : decode cX11_kept 195 = .ok (.goto 4, 3) := by decide +kernel
theorem dX11_kept_198 : decode cX11_kept 198 = .ok (.iconst 0, 1) := by decide +kernel
theorem dX11_kept_199 : decode cX11_kept 199 = .ok (.istore_n 3, 1) := by decide +kernel
theorem dX11_kept_200 : decode cX11_kept 200 = .ok (.iinc 4 1, 3) := by decide +kernel
theorem dX11_kept_203 : decode cX11_kept 203 = .ok (.goto (-67), 3) := by decide +kernel
theorem dX11_kept_206 : decode cX11_kept 206 = .ok (.iload_n 3, 1) := by decide +kernel
theorem dX11_kept_207 : decode cX11_kept 207 = .ok (.ifCond .ne 7, 3) := by decide +kernel
theorem dX11_kept_210 : decode cX11_kept 210 = .ok (.iload_n 2, 1) := by decide +kernel
theorem dX11_kept_211 : decode cX11_kept 211 = .ok (.iconst 1, 1) := by decide +kernel
theorem dX11_kept_212 : decode cX11_kept 212 = .ok (.isub, 1) := by decide +kernel
theorem dX11_kept_213 : decode cX11_kept 213 = .ok (.ireturn, 1) := by decide +kernel
theorem dX11_kept_214 : decode cX11_kept 214 = .ok (.iinc 2 1, 3) := by decide +kernel
theorem dX11_kept_217 : decode cX11_kept 217 = .ok (.goto (-168), 3) := by decide +kernel
theorem dX11_kept_220 : decode cX11_kept 220 = .ok (.bipush 60, 2) := by decide +kernel
theorem dX11_kept_222 : decode cX11_kept 222 = .ok (.ireturn, 1) := by decide +kernel
set_option maxRecDepth 20000 in
theorem ggX11_two_X11_in : GoodIn wsX11_two wsX11_in := goodIn_r _ [10] (by decide +kernel) (by decide +kernel)
set_option maxRecDepth 20000 in
theorem gX11_two_X11_in : GoodIn wsX11_two (va_wsS RX11 81 yX11_in wsX11_in) := goodIn_app (goodIn_of _ (by decide +kernel)) ggX11_two_X11_in
set_option maxRecDepth 20000 in
theorem ggX11_two_X11_layDues : GoodIn wsX11_two wsX11_layDues := goodIn_r _ [14, 6, 15, 16, 17, 9, 18, 33, 34, 35, 36, 37, 38, 39, 40, 41, 42, 43, 44, 45, 46, 47, 48, 49, 50, 51, 52, 53, 54, 55, 56, 57, 58, 59, 60, 61, 62] (by decide +kernel) (by decide +kernel)
set_option maxRecDepth 20000 in
theorem gX11_two_X11_layDues : GoodIn wsX11_two (wsV RX11 166 RX11 yX11_layDues wsX11_layDues) := goodIn_app (goodIn_of _ (by decide +kernel)) ggX11_two_X11_layDues
set_option maxRecDepth 20000 in
theorem ggX11_two_X11_layNow : GoodIn wsX11_two wsX11_layNow := goodIn_r _ [22, 15, 23, 24, 25, 9, 26, 4, 27, 5, 28, 16, 17, 18, 29, 30, 31, 32, 33, 34, 35, 36, 37, 38, 39, 40, 41, 42, 43, 44, 45, 46, 47, 48, 49, 50, 51, 52, 53, 54, 55, 56, 57, 58, 59, 60, 61, 62] (by decide +kernel) (by decide +kernel)
set_option maxRecDepth 20000 in
theorem gX11_two_X11_layNow : GoodIn wsX11_two (wsV RX11 150 RX11 yX11_layNow wsX11_layNow) := goodIn_app (goodIn_of _ (by decide +kernel)) ggX11_two_X11_layNow
theorem dX11_two_0 : decode cX11_two 0 = .ok (.iload_n 1, 1) := by decide +kernel
theorem dX11_two_1 : decode cX11_two 1 = .ok (.i2l, 1) := by decide +kernel
theorem dX11_two_2 : decode cX11_two 2 = .ok (.lconst 1, 1) := by decide +kernel
theorem dX11_two_3 : decode cX11_two 3 = .ok (.ldc2_w 102, 3) := by decide +kernel
theorem dX11_two_6 : decode cX11_two 6 = .ok (.invokestatic 81, 3) := by decide +kernel
theorem dX11_two_9 : decode cX11_two 9 = .ok (.ifCond .ne 5, 3) := by decide +kernel
theorem dX11_two_12 : decode cX11_two 12 = .ok (.iconst (-1), 1) := by decide +kernel
theorem dX11_two_13 : decode cX11_two 13 = .ok (.ireturn, 1) := by decide +kernel
theorem dX11_two_14 : decode cX11_two 14 = .ok (.aload_n 0, 1) := by decide +kernel
theorem dX11_two_15 : decode cX11_two 15 = .ok (.invokevirtual 166, 3) := by decide +kernel
theorem dX11_two_18 : decode cX11_two 18 = .ok (.aload_n 0, 1) := by decide +kernel
theorem dX11_two_19 : decode cX11_two 19 = .ok (.invokevirtual 150, 3) := by decide +kernel
theorem dX11_two_22 : decode cX11_two 22 = .ok (.iconst 0, 1) := by decide +kernel
theorem dX11_two_23 : decode cX11_two 23 = .ok (.istore_n 2, 1) := by decide +kernel
theorem dX11_two_24 : decode cX11_two 24 = .ok (.iload_n 2, 1) := by decide +kernel
theorem dX11_two_25 : decode cX11_two 25 = .ok (.ldc 42, 2) := by decide +kernel
theorem dX11_two_27 : decode cX11_two 27 = .ok (.if_icmp .ge 24, 3) := by decide +kernel
theorem dX11_two_30 : decode cX11_two 30 = .ok (.aload_n 0, 1) := by decide +kernel
theorem dX11_two_31 : decode cX11_two 31 = .ok (.getfield 43, 3) := by decide +kernel
theorem dX11_two_34 : decode cX11_two 34 = .ok (.iload_n 2, 1) := by decide +kernel
theorem dX11_two_35 : decode cX11_two 35 = .ok (.iload_n 2, 1) := by decide +kernel
theorem dX11_two_36 : decode cX11_two 36 = .ok (.ifCond .ne 7, 3) := by decide +kernel
theorem dX11_two_39 : decode cX11_two 39 = .ok (.iconst 1, 1) := by decide +kernel
theorem dX11_two_40 : decode cX11_two 40 = .ok (.goto 4, 3) := by decide +kernel
theorem dX11_two_43 : decode cX11_two 43 = .ok (.iconst 0, 1) := by decide +kernel
theorem dX11_two_44 : decode cX11_two 44 = .ok (.bastore, 1) := by decide +kernel
theorem dX11_two_45 : decode cX11_two 45 = .ok (.iinc 2 1, 3) := by decide +kernel
theorem dX11_two_48 : decode cX11_two 48 = .ok (.goto (-24), 3) := by decide +kernel
theorem dX11_two_51 : decode cX11_two 51 = .ok (.iconst 0, 1) := by decide +kernel
theorem dX11_two_52 : decode cX11_two 52 = .ok (.istore_n 2, 1) := by decide +kernel
theorem dX11_two_53 : decode cX11_two 53 = .ok (.iload_n 2, 1) := by decide +kernel
theorem dX11_two_54 : decode cX11_two 54 = .ok (.aload_n 0, 1) := by decide +kernel
theorem dX11_two_55 : decode cX11_two 55 = .ok (.getfield 85, 3) := by decide +kernel
theorem dX11_two_58 : decode cX11_two 58 = .ok (.if_icmp .ge 160, 3) := by decide +kernel
theorem dX11_two_61 : decode cX11_two 61 = .ok (.sipush 216, 3) := by decide +kernel
theorem dX11_two_64 : decode cX11_two 64 = .ok (.istore_n 3, 1) := by decide +kernel
theorem dX11_two_65 : decode cX11_two 65 = .ok (.iload_n 3, 1) := by decide +kernel
theorem dX11_two_66 : decode cX11_two 66 = .ok (.ifCond .lt 146, 3) := by decide +kernel
theorem dX11_two_69 : decode cX11_two 69 = .ok (.sipush 216, 3) := by decide +kernel
theorem dX11_two_72 : decode cX11_two 72 = .ok (.istore 4, 2) := by decide +kernel
theorem dX11_two_74 : decode cX11_two 74 = .ok (.iload 4, 2) := by decide +kernel
theorem dX11_two_76 : decode cX11_two 76 = .ok (.ifCond .lt 130, 3) := by decide +kernel
theorem dX11_two_79 : decode cX11_two 79 = .ok (.aload_n 0, 1) := by decide +kernel
theorem dX11_two_80 : decode cX11_two 80 = .ok (.getfield 43, 3) := by decide +kernel
theorem dX11_two_83 : decode cX11_two 83 = .ok (.sipush 217, 3) := by decide +kernel
theorem dX11_two_86 : decode cX11_two 86 = .ok (.iload_n 3, 1) := by decide +kernel
theorem dX11_two_87 : decode cX11_two 87 = .ok (.imul, 1) := by decide +kernel
theorem dX11_two_88 : decode cX11_two 88 = .ok (.iload 4, 2) := by decide +kernel
theorem dX11_two_90 : decode cX11_two 90 = .ok (.iadd, 1) := by decide +kernel
theorem dX11_two_91 : decode cX11_two 91 = .ok (.baload, 1) := by decide +kernel
theorem dX11_two_92 : decode cX11_two 92 = .ok (.istore 5, 2) := by decide +kernel
theorem dX11_two_94 : decode cX11_two 94 = .ok (.iload 5, 2) := by decide +kernel
theorem dX11_two_96 : decode cX11_two 96 = .ok (.ifCond .ne 36, 3) := by decide +kernel
theorem dX11_two_99 : decode cX11_two 99 = .ok (.iload_n 3, 1) := by decide +kernel
theorem dX11_two_100 : decode cX11_two 100 = .ok (.aload_n 0, 1) := by decide +kernel
theorem dX11_two_101 : decode cX11_two 101 = .ok (.getfield 22, 3) := by decide +kernel
theorem dX11_two_104 : decode cX11_two 104 = .ok (.iload_n 2, 1) := by decide +kernel
theorem dX11_two_105 : decode cX11_two 105 = .ok (.iaload, 1) := by decide +kernel
theorem dX11_two_106 : decode cX11_two 106 = .ok (.if_icmp .lt 30, 3) := by decide +kernel
theorem dX11_two_109 : decode cX11_two 109 = .ok (.aload_n 0, 1) := by decide +kernel
theorem dX11_two_110 : decode cX11_two 110 = .ok (.getfield 43, 3) := by decide +kernel
theorem dX11_two_113 : decode cX11_two 113 = .ok (.sipush 217, 3) := by decide +kernel
theorem dX11_two_116 : decode cX11_two 116 = .ok (.iload_n 3, 1) := by decide +kernel
theorem dX11_two_117 : decode cX11_two 117 = .ok (.aload_n 0, 1) := by decide +kernel
theorem dX11_two_118 : decode cX11_two 118 = .ok (.getfield 22, 3) := by decide +kernel
theorem dX11_two_121 : decode cX11_two 121 = .ok (.iload_n 2, 1) := by decide +kernel
theorem dX11_two_122 : decode cX11_two 122 = .ok (.iaload, 1) := by decide +kernel
theorem dX11_two_123 : decode cX11_two 123 = .ok (.isub, 1) := by decide +kernel
theorem dX11_two_124 : decode cX11_two 124 = .ok (.imul, 1) := by decide +kernel
theorem dX11_two_125 : decode cX11_two 125 = .ok (.iload 4, 2) := by decide +kernel
theorem dX11_two_127 : decode cX11_two 127 = .ok (.iadd, 1) := by decide +kernel
theorem dX11_two_128 : decode cX11_two 128 = .ok (.baload, 1) := by decide +kernel
theorem dX11_two_129 : decode cX11_two 129 = .ok (.ifCond .eq 7, 3) := by decide +kernel
theorem dX11_two_132 : decode cX11_two 132 = .ok (.iconst 1, 1) := by decide +kernel
theorem dX11_two_133 : decode cX11_two 133 = .ok (.goto 4, 3) := by decide +kernel
theorem dX11_two_136 : decode cX11_two 136 = .ok (.iconst 0, 1) := by decide +kernel
theorem dX11_two_137 : decode cX11_two 137 = .ok (.istore 5, 2) := by decide +kernel
theorem dX11_two_139 : decode cX11_two 139 = .ok (.iload 5, 2) := by decide +kernel
theorem dX11_two_141 : decode cX11_two 141 = .ok (.ifCond .ne 37, 3) := by decide +kernel
theorem dX11_two_144 : decode cX11_two 144 = .ok (.iload 4, 2) := by decide +kernel
theorem dX11_two_146 : decode cX11_two 146 = .ok (.aload_n 0, 1) := by decide +kernel
theorem dX11_two_147 : decode cX11_two 147 = .ok (.getfield 22, 3) := by decide +kernel
theorem dX11_two_150 : decode cX11_two 150 = .ok (.iload_n 2, 1) := by decide +kernel
theorem dX11_two_151 : decode cX11_two 151 = .ok (.iaload, 1) := by decide +kernel
theorem dX11_two_152 : decode cX11_two 152 = .ok (.if_icmp .lt 30, 3) := by decide +kernel
theorem dX11_two_155 : decode cX11_two 155 = .ok (.aload_n 0, 1) := by decide +kernel
theorem dX11_two_156 : decode cX11_two 156 = .ok (.getfield 43, 3) := by decide +kernel
theorem dX11_two_159 : decode cX11_two 159 = .ok (.sipush 217, 3) := by decide +kernel
theorem dX11_two_162 : decode cX11_two 162 = .ok (.iload_n 3, 1) := by decide +kernel
theorem dX11_two_163 : decode cX11_two 163 = .ok (.imul, 1) := by decide +kernel
theorem dX11_two_164 : decode cX11_two 164 = .ok (.iload 4, 2) := by decide +kernel
theorem dX11_two_166 : decode cX11_two 166 = .ok (.iadd, 1) := by decide +kernel
theorem dX11_two_167 : decode cX11_two 167 = .ok (.aload_n 0, 1) := by decide +kernel
theorem dX11_two_168 : decode cX11_two 168 = .ok (.getfield 22, 3) := by decide +kernel
theorem dX11_two_171 : decode cX11_two 171 = .ok (.iload_n 2, 1) := by decide +kernel
theorem dX11_two_172 : decode cX11_two 172 = .ok (.iaload, 1) := by decide +kernel
theorem dX11_two_173 : decode cX11_two 173 = .ok (.isub, 1) := by decide +kernel
theorem dX11_two_174 : decode cX11_two 174 = .ok (.baload, 1) := by decide +kernel
theorem dX11_two_175 : decode cX11_two 175 = .ok (.ifCond .eq 7, 3) := by decide +kernel
theorem dX11_two_178 : decode cX11_two 178 = .ok (.iconst 1, 1) := by decide +kernel
theorem dX11_two_179 : decode cX11_two 179 = .ok (.goto 4, 3) := by decide +kernel
theorem dX11_two_182 : decode cX11_two 182 = .ok (.iconst 0, 1) := by decide +kernel
theorem dX11_two_183 : decode cX11_two 183 = .ok (.istore 5, 2) := by decide +kernel
theorem dX11_two_185 : decode cX11_two 185 = .ok (.aload_n 0, 1) := by decide +kernel
theorem dX11_two_186 : decode cX11_two 186 = .ok (.getfield 43, 3) := by decide +kernel
theorem dX11_two_189 : decode cX11_two 189 = .ok (.sipush 217, 3) := by decide +kernel
theorem dX11_two_192 : decode cX11_two 192 = .ok (.iload_n 3, 1) := by decide +kernel
theorem dX11_two_193 : decode cX11_two 193 = .ok (.imul, 1) := by decide +kernel
theorem dX11_two_194 : decode cX11_two 194 = .ok (.iload 4, 2) := by decide +kernel
theorem dX11_two_196 : decode cX11_two 196 = .ok (.iadd, 1) := by decide +kernel
theorem dX11_two_197 : decode cX11_two 197 = .ok (.iload 5, 2) := by decide +kernel
theorem dX11_two_199 : decode cX11_two 199 = .ok (.bastore, 1) := by decide +kernel
theorem dX11_two_200 : decode cX11_two 200 = .ok (.iinc 4 (-1), 3) := by decide +kernel
theorem dX11_two_203 : decode cX11_two 203 = .ok (.goto (-129), 3) := by decide +kernel
theorem dX11_two_206 : decode cX11_two 206 = .ok (.iinc 3 (-1), 3) := by decide +kernel
theorem dX11_two_209 : decode cX11_two 209 = .ok (.goto (-144), 3) := by decide +kernel
theorem dX11_two_212 : decode cX11_two 212 = .ok (.iinc 2 1, 3) := by decide +kernel
theorem dX11_two_215 : decode cX11_two 215 = .ok (.goto (-162), 3) := by decide +kernel
theorem dX11_two_218 : decode cX11_two 218 = .ok (.iconst 0, 1) := by decide +kernel
theorem dX11_two_219 : decode cX11_two 219 = .ok (.istore_n 2, 1) := by decide +kernel
theorem dX11_two_220 : decode cX11_two 220 = .ok (.iload_n 2, 1) := by decide +kernel
theorem dX11_two_221 : decode cX11_two 221 = .ok (.bipush 60, 2) := by decide +kernel
theorem dX11_two_223 : decode cX11_two 223 = .ok (.if_icmp .ge 60, 3) := by decide +kernel
theorem dX11_two_226 : decode cX11_two 226 = .ok (.aload_n 0, 1) := by decide +kernel
theorem dX11_two_227 : decode cX11_two 227 = .ok (.getfield 28, 3) := by decide +kernel
theorem dX11_two_230 : decode cX11_two 230 = .ok (.iload_n 2, 1) := by decide +kernel
theorem dX11_two_231 : decode cX11_two 231 = .ok (.iconst 1, 1) := by decide +kernel
theorem dX11_two_232 : decode cX11_two 232 = .ok (.iadd, 1) := by decide +kernel
theorem dX11_two_233 : decode cX11_two 233 = .ok (.iaload, 1) := by decide +kernel
theorem dX11_two_234 : decode cX11_two 234 = .ok (.sipush 217, 3) := by decide +kernel
theorem dX11_two_237 : decode cX11_two 237 = .ok (.if_icmp .ge 46, 3) := by decide +kernel
theorem dX11_two_240 : decode cX11_two 240 = .ok (.iload_n 1, 1) := by decide +kernel
theorem dX11_two_241 : decode cX11_two 241 = .ok (.iload_n 2, 1) := by decide +kernel
theorem dX11_two_242 : decode cX11_two 242 = .ok (.iconst 1, 1) := by decide +kernel
theorem dX11_two_243 : decode cX11_two 243 = .ok (.iadd, 1) := by decide +kernel
theorem dX11_two_244 : decode cX11_two 244 = .ok (.imul, 1) := by decide +kernel
theorem dX11_two_245 : decode cX11_two 245 = .ok (.sipush 217, 3) := by decide +kernel
theorem dX11_two_248 : decode cX11_two 248 = .ok (.if_icmp .ge 35, 3) := by decide +kernel
theorem dX11_two_251 : decode cX11_two 251 = .ok (.aload_n 0, 1) := by decide +kernel
theorem dX11_two_252 : decode cX11_two 252 = .ok (.getfield 43, 3) := by decide +kernel
theorem dX11_two_255 : decode cX11_two 255 = .ok (.sipush 217, 3) := by decide +kernel
theorem dX11_two_258 : decode cX11_two 258 = .ok (.aload_n 0, 1) := by decide +kernel
theorem dX11_two_259 : decode cX11_two 259 = .ok (.getfield 28, 3) := by decide +kernel
theorem dX11_two_262 : decode cX11_two 262 = .ok (.iload_n 2, 1) := by decide +kernel
theorem dX11_two_263 : decode cX11_two 263 = .ok (.iconst 1, 1) := by decide +kernel
theorem dX11_two_264 : decode cX11_two 264 = .ok (.iadd, 1) := by decide +kernel
theorem dX11_two_265 : decode cX11_two 265 = .ok (.iaload, 1) := by decide +kernel
theorem dX11_two_266 : decode cX11_two 266 = .ok (.imul, 1) := by decide +kernel
theorem dX11_two_267 : decode cX11_two 267 = .ok (.iload_n 1, 1) := by decide +kernel
theorem dX11_two_268 : decode cX11_two 268 = .ok (.iload_n 2, 1) := by decide +kernel
theorem dX11_two_269 : decode cX11_two 269 = .ok (.iconst 1, 1) := by decide +kernel
theorem dX11_two_270 : decode cX11_two 270 = .ok (.iadd, 1) := by decide +kernel
theorem dX11_two_271 : decode cX11_two 271 = .ok (.imul, 1) := by decide +kernel
theorem dX11_two_272 : decode cX11_two 272 = .ok (.iadd, 1) := by decide +kernel
theorem dX11_two_273 : decode cX11_two 273 = .ok (.baload, 1) := by decide +kernel
theorem dX11_two_274 : decode cX11_two 274 = .ok (.ifCond .eq 9, 3) := by decide +kernel
theorem dX11_two_277 : decode cX11_two 277 = .ok (.iinc 2 1, 3) := by decide +kernel
theorem dX11_two_280 : decode cX11_two 280 = .ok (.goto (-60), 3) := by decide +kernel
theorem dX11_two_283 : decode cX11_two 283 = .ok (.iload_n 2, 1) := by decide +kernel
theorem dX11_two_284 : decode cX11_two 284 = .ok (.ireturn, 1) := by decide +kernel
theorem dX11_begin_0 : decode cX11_begin 0 = .ok (.iconst 0, 1) := by decide +kernel
theorem dX11_begin_1 : decode cX11_begin 1 = .ok (.istore_n 2, 1) := by decide +kernel
theorem dX11_begin_2 : decode cX11_begin 2 = .ok (.iload_n 2, 1) := by decide +kernel
theorem dX11_begin_3 : decode cX11_begin 3 = .ok (.iload_n 1, 1) := by decide +kernel
theorem dX11_begin_4 : decode cX11_begin 4 = .ok (.if_icmp .ge 16, 3) := by decide +kernel
theorem dX11_begin_7 : decode cX11_begin 7 = .ok (.aload_n 0, 1) := by decide +kernel
theorem dX11_begin_8 : decode cX11_begin 8 = .ok (.getfield 46, 3) := by decide +kernel
theorem dX11_begin_11 : decode cX11_begin 11 = .ok (.iload_n 2, 1) := by decide +kernel
theorem dX11_begin_12 : decode cX11_begin 12 = .ok (.iload_n 2, 1) := by decide +kernel
theorem dX11_begin_13 : decode cX11_begin 13 = .ok (.iastore, 1) := by decide +kernel
theorem dX11_begin_14 : decode cX11_begin 14 = .ok (.iinc 2 1, 3) := by decide +kernel
theorem dX11_begin_17 : decode cX11_begin 17 = .ok (.goto (-15), 3) := by decide +kernel
theorem dX11_begin_20 : decode cX11_begin 20 = .ok (.aload_n 0, 1) := by decide +kernel
theorem dX11_begin_21 : decode cX11_begin 21 = .ok (.iconst 1, 1) := by decide +kernel
theorem dX11_begin_22 : decode cX11_begin 22 = .ok (.iload_n 1, 1) := by decide +kernel
theorem dX11_begin_23 : decode cX11_begin 23 = .ok (.ishl, 1) := by decide +kernel
theorem dX11_begin_24 : decode cX11_begin 24 = .ok (.iconst 1, 1) := by decide +kernel
theorem dX11_begin_25 : decode cX11_begin 25 = .ok (.isub, 1) := by decide +kernel
theorem dX11_begin_26 : decode cX11_begin 26 = .ok (.putfield 183, 3) := by decide +kernel
theorem dX11_begin_29 : decode cX11_begin 29 = .ok (.return_, 1) := by decide +kernel
theorem dX11_goesOn_0 : decode cX11_goesOn 0 = .ok (.iload_n 1, 1) := by decide +kernel
theorem dX11_goesOn_1 : decode cX11_goesOn 1 = .ok (.iconst 1, 1) := by decide +kernel
theorem dX11_goesOn_2 : decode cX11_goesOn 2 = .ok (.isub, 1) := by decide +kernel
theorem dX11_goesOn_3 : decode cX11_goesOn 3 = .ok (.istore_n 3, 1) := by decide +kernel
theorem dX11_goesOn_4 : decode cX11_goesOn 4 = .ok (.iload_n 3, 1) := by decide +kernel
theorem dX11_goesOn_5 : decode cX11_goesOn 5 = .ok (.ifCond .lt 23, 3) := by decide +kernel
theorem dX11_goesOn_8 : decode cX11_goesOn 8 = .ok (.aload_n 0, 1) := by decide +kernel
theorem dX11_goesOn_9 : decode cX11_goesOn 9 = .ok (.getfield 46, 3) := by decide +kernel
theorem dX11_goesOn_12 : decode cX11_goesOn 12 = .ok (.iload_n 3, 1) := by decide +kernel
theorem dX11_goesOn_13 : decode cX11_goesOn 13 = .ok (.iaload, 1) := by decide +kernel
theorem dX11_goesOn_14 : decode cX11_goesOn 14 = .ok (.iload_n 2, 1) := by decide +kernel
theorem dX11_goesOn_15 : decode cX11_goesOn 15 = .ok (.iload_n 1, 1) := by decide +kernel
theorem dX11_goesOn_16 : decode cX11_goesOn 16 = .ok (.isub, 1) := by decide +kernel
theorem dX11_goesOn_17 : decode cX11_goesOn 17 = .ok (.iload_n 3, 1) := by decide +kernel
theorem dX11_goesOn_18 : decode cX11_goesOn 18 = .ok (.iadd, 1) := by decide +kernel
theorem dX11_goesOn_19 : decode cX11_goesOn 19 = .ok (.if_icmp .ne 9, 3) := by decide +kernel
theorem dX11_goesOn_22 : decode cX11_goesOn 22 = .ok (.iinc 3 (-1), 3) := by decide +kernel
theorem dX11_goesOn_25 : decode cX11_goesOn 25 = .ok (.goto (-21), 3) := by decide +kernel
theorem dX11_goesOn_28 : decode cX11_goesOn 28 = .ok (.iload_n 3, 1) := by decide +kernel
theorem dX11_goesOn_29 : decode cX11_goesOn 29 = .ok (.ifCond .ge 5, 3) := by decide +kernel
theorem dX11_goesOn_32 : decode cX11_goesOn 32 = .ok (.iconst 0, 1) := by decide +kernel
theorem dX11_goesOn_33 : decode cX11_goesOn 33 = .ok (.ireturn, 1) := by decide +kernel
theorem dX11_goesOn_34 : decode cX11_goesOn 34 = .ok (.aload_n 0, 1) := by decide +kernel
theorem dX11_goesOn_35 : decode cX11_goesOn 35 = .ok (.getfield 46, 3) := by decide +kernel
theorem dX11_goesOn_38 : decode cX11_goesOn 38 = .ok (.iload_n 3, 1) := by decide +kernel
theorem dX11_goesOn_39 : decode cX11_goesOn 39 = .ok (.dup2, 1) := by decide +kernel
theorem dX11_goesOn_40 : decode cX11_goesOn 40 = .ok (.iaload, 1) := by decide +kernel
theorem dX11_goesOn_41 : decode cX11_goesOn 41 = .ok (.iconst 1, 1) := by decide +kernel
theorem dX11_goesOn_42 : decode cX11_goesOn 42 = .ok (.iadd, 1) := by decide +kernel
theorem dX11_goesOn_43 : decode cX11_goesOn 43 = .ok (.iastore, 1) := by decide +kernel
theorem dX11_goesOn_44 : decode cX11_goesOn 44 = .ok (.iload_n 3, 1) := by decide +kernel
theorem dX11_goesOn_45 : decode cX11_goesOn 45 = .ok (.iconst 1, 1) := by decide +kernel
theorem dX11_goesOn_46 : decode cX11_goesOn 46 = .ok (.iadd, 1) := by decide +kernel
theorem dX11_goesOn_47 : decode cX11_goesOn 47 = .ok (.istore 4, 2) := by decide +kernel
theorem dX11_goesOn_49 : decode cX11_goesOn 49 = .ok (.iload 4, 2) := by decide +kernel
theorem dX11_goesOn_51 : decode cX11_goesOn 51 = .ok (.iload_n 1, 1) := by decide +kernel
theorem dX11_goesOn_52 : decode cX11_goesOn 52 = .ok (.if_icmp .ge 27, 3) := by decide +kernel
theorem dX11_goesOn_55 : decode cX11_goesOn 55 = .ok (.aload_n 0, 1) := by decide +kernel
theorem dX11_goesOn_56 : decode cX11_goesOn 56 = .ok (.getfield 46, 3) := by decide +kernel
theorem dX11_goesOn_59 : decode cX11_goesOn 59 = .ok (.iload 4, 2) := by decide +kernel
theorem dX11_goesOn_61 : decode cX11_goesOn 61 = .ok (.aload_n 0, 1) := by decide +kernel
theorem dX11_goesOn_62 : decode cX11_goesOn 62 = .ok (.getfield 46, 3) := by decide +kernel
theorem dX11_goesOn_65 : decode cX11_goesOn 65 = .ok (.iload 4, 2) := by decide +kernel
theorem dX11_goesOn_67 : decode cX11_goesOn 67 = .ok (.iconst 1, 1) := by decide +kernel
theorem dX11_goesOn_68 : decode cX11_goesOn 68 = .ok (.isub, 1) := by decide +kernel
theorem dX11_goesOn_69 : decode cX11_goesOn 69 = .ok (.iaload, 1) := by decide +kernel
theorem dX11_goesOn_70 : decode cX11_goesOn 70 = .ok (.iconst 1, 1) := by decide +kernel
theorem dX11_goesOn_71 : decode cX11_goesOn 71 = .ok (.iadd, 1) := by decide +kernel
theorem dX11_goesOn_72 : decode cX11_goesOn 72 = .ok (.iastore, 1) := by decide +kernel
theorem dX11_goesOn_73 : decode cX11_goesOn 73 = .ok (.iinc 4 1, 3) := by decide +kernel
theorem dX11_goesOn_76 : decode cX11_goesOn 76 = .ok (.goto (-27), 3) := by decide +kernel
theorem dX11_goesOn_79 : decode cX11_goesOn 79 = .ok (.aload_n 0, 1) := by decide +kernel
theorem dX11_goesOn_80 : decode cX11_goesOn 80 = .ok (.iconst 0, 1) := by decide +kernel
theorem dX11_goesOn_81 : decode cX11_goesOn 81 = .ok (.putfield 183, 3) := by decide +kernel
theorem dX11_goesOn_84 : decode cX11_goesOn 84 = .ok (.iconst 0, 1) := by decide +kernel
theorem dX11_goesOn_85 : decode cX11_goesOn 85 = .ok (.istore 4, 2) := by decide +kernel
theorem dX11_goesOn_87 : decode cX11_goesOn 87 = .ok (.iload 4, 2) := by decide +kernel
theorem dX11_goesOn_89 : decode cX11_goesOn 89 = .ok (.iload_n 1, 1) := by decide +kernel
theorem dX11_goesOn_90 : decode cX11_goesOn 90 = .ok (.if_icmp .ge 27, 3) := by decide +kernel
theorem dX11_goesOn_93 : decode cX11_goesOn 93 = .ok (.aload_n 0, 1) := by decide +kernel
theorem dX11_goesOn_94 : decode cX11_goesOn 94 = .ok (.dup, 1) := by decide +kernel
theorem dX11_goesOn_95 : decode cX11_goesOn 95 = .ok (.getfield 183, 3) := by decide +kernel
theorem dX11_goesOn_98 : decode cX11_goesOn 98 = .ok (.iconst 1, 1) := by decide +kernel
theorem dX11_goesOn_99 : decode cX11_goesOn 99 = .ok (.aload_n 0, 1) := by decide +kernel
theorem dX11_goesOn_100 : decode cX11_goesOn 100 = .ok (.getfield 46, 3) := by decide +kernel
theorem dX11_goesOn_103 : decode cX11_goesOn 103 = .ok (.iload 4, 2) := by decide +kernel
theorem dX11_goesOn_105 : decode cX11_goesOn 105 = .ok (.iaload, 1) := by decide +kernel
theorem dX11_goesOn_106 : decode cX11_goesOn 106 = .ok (.ishl, 1) := by decide +kernel
theorem dX11_goesOn_107 : decode cX11_goesOn 107 = .ok (.ior, 1) := by decide +kernel
theorem dX11_goesOn_108 : decode cX11_goesOn 108 = .ok (.putfield 183, 3) := by decide +kernel
theorem dX11_goesOn_111 : decode cX11_goesOn 111 = .ok (.iinc 4 1, 3) := by decide +kernel
theorem dX11_goesOn_114 : decode cX11_goesOn 114 = .ok (.goto (-27), 3) := by decide +kernel
theorem dX11_goesOn_117 : decode cX11_goesOn 117 = .ok (.iconst 1, 1) := by decide +kernel
theorem dX11_goesOn_118 : decode cX11_goesOn 118 = .ok (.ireturn, 1) := by decide +kernel
set_option maxRecDepth 20000 in
theorem ggX11_findMost_X11_notches : GoodIn wsX11_findMost wsX11_notches := goodIn_r _ [7, 8, 47, 48, 49, 50, 51, 52, 53, 54, 55, 56, 57, 58, 59, 60, 61, 62, 63, 64, 65, 66, 67, 68, 69, 70, 71, 72, 73, 74, 75, 76] (by decide +kernel) (by decide +kernel)
set_option maxRecDepth 20000 in
theorem gX11_findMost_X11_notches : GoodIn wsX11_findMost (wsV RX11 77 RX11 yX11_notches wsX11_notches) := goodIn_app (goodIn_of _ (by decide +kernel)) ggX11_findMost_X11_notches
set_option maxRecDepth 20000 in
theorem ggX11_findMost_X11_begin : GoodIn wsX11_findMost wsX11_begin := goodIn_r _ [12, 13, 1, 47, 48, 49, 50, 51, 52, 53, 54, 55, 56, 57, 58, 59, 60, 61, 62, 63, 64, 65, 66, 67, 68, 69, 70, 71, 72, 73, 74, 75, 76] (by decide +kernel) (by decide +kernel)
set_option maxRecDepth 20000 in
theorem gX11_findMost_X11_begin : GoodIn wsX11_findMost (wsV RX11 186 RX11 yX11_begin wsX11_begin) := goodIn_app (goodIn_of _ (by decide +kernel)) ggX11_findMost_X11_begin
set_option maxRecDepth 20000 in
theorem ggX11_findMost_X11_farBy : GoodIn wsX11_findMost wsX11_farBy := goodIn_r _ [17, 18, 19, 20, 21, 6, 22, 23, 8, 24, 25, 26, 27, 28, 29, 30, 31, 32, 33, 34, 35, 36, 37, 38, 39, 40, 41, 42, 47, 48, 49, 50, 51, 52, 53, 54, 55, 56, 57, 58, 59, 60, 61, 62, 63, 64, 65, 66, 67, 68, 69, 70, 71, 72, 73, 74, 75, 76] (by decide +kernel) (by decide +kernel)
set_option maxRecDepth 20000 in
theorem gX11_findMost_X11_farBy : GoodIn wsX11_findMost (wsV RX11 177 RX11 yX11_farBy wsX11_farBy) := goodIn_app (goodIn_of _ (by decide +kernel)) ggX11_findMost_X11_farBy
set_option maxRecDepth 20000 in
theorem ggX11_findMost_X11_goesOn : GoodIn wsX11_findMost wsX11_goesOn := goodIn_r _ [46, 13, 1, 47, 48, 49, 50, 51, 52, 53, 54, 55, 56, 57, 58, 59, 60, 61, 62, 63, 64, 65, 66, 67, 68, 69, 70, 71, 72, 73, 74, 75, 76] (by decide +kernel) (by decide +kernel)
set_option maxRecDepth 20000 in
theorem gX11_findMost_X11_goesOn : GoodIn wsX11_findMost (wsV RX11 192 RX11 yX11_goesOn wsX11_goesOn) := goodIn_app (goodIn_of _ (by decide +kernel)) ggX11_findMost_X11_goesOn
theorem dX11_findMost_0 : decode cX11_findMost 0 = .ok (.aload_n 0, 1) := by decide +kernel
theorem dX11_findMost_1 : decode cX11_findMost 1 = .ok (.invokevirtual 77, 3) := by decide +kernel
theorem dX11_findMost_4 : decode cX11_findMost 4 = .ok (.iload_n 1, 1) := by decide +kernel
theorem dX11_findMost_5 : decode cX11_findMost 5 = .ok (.if_icmp .ge 6, 3) := by decide +kernel
theorem dX11_findMost_8 : decode cX11_findMost 8 = .ok (.bipush (-4), 2) := by decide +kernel
theorem dX11_findMost_10 : decode cX11_findMost 10 = .ok (.ireturn, 1) := by decide +kernel
theorem dX11_findMost_11 : decode cX11_findMost 11 = .ok (.aload_n 0, 1) := by decide +kernel
theorem dX11_findMost_12 : decode cX11_findMost 12 = .ok (.iload_n 1, 1) := by decide +kernel
theorem dX11_findMost_13 : decode cX11_findMost 13 = .ok (.invokevirtual 186, 3) := by decide +kernel
theorem dX11_findMost_16 : decode cX11_findMost 16 = .ok (.iconst (-1), 1) := by decide +kernel
theorem dX11_findMost_17 : decode cX11_findMost 17 = .ok (.istore_n 2, 1) := by decide +kernel
theorem dX11_findMost_18 : decode cX11_findMost 18 = .ok (.iconst 1, 1) := by decide +kernel
theorem dX11_findMost_19 : decode cX11_findMost 19 = .ok (.istore_n 3, 1) := by decide +kernel
theorem dX11_findMost_20 : decode cX11_findMost 20 = .ok (.iload_n 3, 1) := by decide +kernel
theorem dX11_findMost_21 : decode cX11_findMost 21 = .ok (.ifCond .eq 60, 3) := by decide +kernel
theorem dX11_findMost_24 : decode cX11_findMost 24 = .ok (.aload_n 0, 1) := by decide +kernel
theorem dX11_findMost_25 : decode cX11_findMost 25 = .ok (.aload_n 0, 1) := by decide +kernel
theorem dX11_findMost_26 : decode cX11_findMost 26 = .ok (.getfield 183, 3) := by decide +kernel
theorem dX11_findMost_29 : decode cX11_findMost 29 = .ok (.invokevirtual 177, 3) := by decide +kernel
theorem dX11_findMost_32 : decode cX11_findMost 32 = .ok (.istore 4, 2) := by decide +kernel
theorem dX11_findMost_34 : decode cX11_findMost 34 = .ok (.aload_n 0, 1) := by decide +kernel
theorem dX11_findMost_35 : decode cX11_findMost 35 = .ok (.iload 4, 2) := by decide +kernel
theorem dX11_findMost_37 : decode cX11_findMost 37 = .ok (.iload_n 2, 1) := by decide +kernel
theorem dX11_findMost_38 : decode cX11_findMost 38 = .ok (.if_icmp .le 10, 3) := by decide +kernel
theorem dX11_findMost_41 : decode cX11_findMost 41 = .ok (.aload_n 0, 1) := by decide +kernel
theorem dX11_findMost_42 : decode cX11_findMost 42 = .ok (.getfield 183, 3) := by decide +kernel
theorem dX11_findMost_45 : decode cX11_findMost 45 = .ok (.goto 7, 3) := by decide +kernel
theorem dX11_findMost_48 : decode cX11_findMost 48 = .ok (.aload_n 0, 1) := by decide +kernel
theorem dX11_findMost_49 : decode cX11_findMost 49 = .ok (.getfield 189, 3) := by decide +kernel
theorem dX11_findMost_52 : decode cX11_findMost 52 = .ok (.putfield 189, 3) := by decide +kernel
theorem dX11_findMost_55 : decode cX11_findMost 55 = .ok (.iload 4, 2) := by decide +kernel
theorem dX11_findMost_57 : decode cX11_findMost 57 = .ok (.iload_n 2, 1) := by decide +kernel
theorem dX11_findMost_58 : decode cX11_findMost 58 = .ok (.if_icmp .le 8, 3) := by decide +kernel
theorem dX11_findMost_61 : decode cX11_findMost 61 = .ok (.iload 4, 2) := by decide +kernel
theorem dX11_findMost_63 : decode cX11_findMost 63 = .ok (.goto 4, 3) := by decide +kernel
theorem dX11_findMost_66 : decode cX11_findMost 66 = .ok (.iload_n 2, 1) := by decide +kernel
theorem dX11_findMost_67 : decode cX11_findMost 67 = .ok (.istore_n 2, 1) := by decide +kernel
theorem dX11_findMost_68 : decode cX11_findMost 68 = .ok (.aload_n 0, 1) := by decide +kernel
theorem dX11_findMost_69 : decode cX11_findMost 69 = .ok (.iload_n 1, 1) := by decide +kernel
theorem dX11_findMost_70 : decode cX11_findMost 70 = .ok (.aload_n 0, 1) := by decide +kernel
theorem dX11_findMost_71 : decode cX11_findMost 71 = .ok (.invokevirtual 77, 3) := by decide +kernel
theorem dX11_findMost_74 : decode cX11_findMost 74 = .ok (.invokevirtual 192, 3) := by decide +kernel
theorem dX11_findMost_77 : decode cX11_findMost 77 = .ok (.istore_n 3, 1) := by decide +kernel
theorem dX11_findMost_78 : decode cX11_findMost 78 = .ok (.goto (-58), 3) := by decide +kernel
theorem dX11_findMost_81 : decode cX11_findMost 81 = .ok (.iload_n 2, 1) := by decide +kernel
theorem dX11_findMost_82 : decode cX11_findMost 82 = .ok (.ireturn, 1) := by decide +kernel
set_option maxRecDepth 20000 in
theorem ggX11_most_X11_in : GoodIn wsX11_most wsX11_in := goodIn_r _ [8] (by decide +kernel) (by decide +kernel)
set_option maxRecDepth 20000 in
theorem gX11_most_X11_in : GoodIn wsX11_most (va_wsS RX11 81 yX11_in wsX11_in) := goodIn_app (goodIn_of _ (by decide +kernel)) ggX11_most_X11_in
set_option maxRecDepth 20000 in
theorem ggX11_most_X11_layDues : GoodIn wsX11_most wsX11_layDues := goodIn_r _ [12, 13, 14, 15, 16, 7, 17, 64, 65, 66, 67, 68, 69, 70, 71, 72, 73, 74, 75, 76, 77, 78, 79, 80, 81, 82, 83, 84, 85, 86, 87, 88, 89, 90, 91, 92, 93] (by decide +kernel) (by decide +kernel)
set_option maxRecDepth 20000 in
theorem gX11_most_X11_layDues : GoodIn wsX11_most (wsV RX11 166 RX11 yX11_layDues wsX11_layDues) := goodIn_app (goodIn_of _ (by decide +kernel)) ggX11_most_X11_layDues
set_option maxRecDepth 20000 in
theorem ggX11_most_X11_findMost : GoodIn wsX11_most wsX11_findMost := goodIn_r _ [21, 22, 4, 23, 24, 25, 7, 26, 14, 27, 28, 29, 30, 31, 32, 33, 34, 35, 13, 36, 37, 38, 39, 40, 41, 42, 43, 15, 16, 17, 44, 45, 46, 47, 48, 49, 50, 51, 52, 53, 54, 55, 56, 57, 58, 59, 60, 64, 65, 66, 67, 68, 69, 70, 71, 72, 73, 74, 75, 76, 77, 78, 79, 80, 81, 82, 83, 84, 85, 86, 87, 88, 89, 90, 91, 92, 93] (by decide +kernel) (by decide +kernel)
set_option maxRecDepth 20000 in
theorem gX11_most_X11_findMost : GoodIn wsX11_most (wsV RX11 199 RX11 yX11_findMost wsX11_findMost) := goodIn_app (goodIn_of _ (by decide +kernel)) ggX11_most_X11_findMost
set_option maxRecDepth 20000 in
theorem ggX11_most_X11_atOf : GoodIn wsX11_most wsX11_atOf := goodIn_r _ [63, 15, 16, 7, 17] (by decide +kernel) (by decide +kernel)
set_option maxRecDepth 20000 in
theorem gX11_most_X11_atOf : GoodIn wsX11_most (va_wsS RX11 158 yX11_atOf wsX11_atOf) := goodIn_app (goodIn_of _ (by decide +kernel)) ggX11_most_X11_atOf
theorem dX11_most_0 : decode cX11_most 0 = .ok (.iload_n 1, 1) := by decide +kernel
theorem dX11_most_1 : decode cX11_most 1 = .ok (.i2l, 1) := by decide +kernel
theorem dX11_most_2 : decode cX11_most 2 = .ok (.lconst 0, 1) := by decide +kernel
theorem dX11_most_3 : decode cX11_most 3 = .ok (.ldc2_w 195, 3) := by decide +kernel
theorem dX11_most_6 : decode cX11_most 6 = .ok (.invokestatic 81, 3) := by decide +kernel
theorem dX11_most_9 : decode cX11_most 9 = .ok (.ifCond .eq 17, 3) := by decide +kernel
theorem dX11_most_12 : decode cX11_most 12 = .ok (.iload_n 2, 1) := by decide +kernel
theorem dX11_most_13 : decode cX11_most 13 = .ok (.i2l, 1) := by decide +kernel
theorem dX11_most_14 : decode cX11_most 14 = .ok (.ldc2_w 197, 3) := by decide +kernel
theorem dX11_most_17 : decode cX11_most 17 = .ok (.ldc2_w 100, 3) := by decide +kernel
theorem dX11_most_20 : decode cX11_most 20 = .ok (.invokestatic 81, 3) := by decide +kernel
theorem dX11_most_23 : decode cX11_most 23 = .ok (.ifCond .ne 5, 3) := by decide +kernel
theorem dX11_most_26 : decode cX11_most 26 = .ok (.iconst (-1), 1) := by decide +kernel
theorem dX11_most_27 : decode cX11_most 27 = .ok (.ireturn, 1) := by decide +kernel
theorem dX11_most_28 : decode cX11_most 28 = .ok (.aload_n 0, 1) := by decide +kernel
theorem dX11_most_29 : decode cX11_most 29 = .ok (.invokevirtual 166, 3) := by decide +kernel
theorem dX11_most_32 : decode cX11_most 32 = .ok (.aload_n 0, 1) := by decide +kernel
theorem dX11_most_33 : decode cX11_most 33 = .ok (.iload_n 1, 1) := by decide +kernel
theorem dX11_most_34 : decode cX11_most 34 = .ok (.invokevirtual 199, 3) := by decide +kernel
theorem dX11_most_37 : decode cX11_most 37 = .ok (.istore_n 3, 1) := by decide +kernel
theorem dX11_most_38 : decode cX11_most 38 = .ok (.iload_n 3, 1) := by decide +kernel
theorem dX11_most_39 : decode cX11_most 39 = .ok (.bipush (-4), 2) := by decide +kernel
theorem dX11_most_41 : decode cX11_most 41 = .ok (.if_icmp .eq 7, 3) := by decide +kernel
theorem dX11_most_44 : decode cX11_most 44 = .ok (.iload_n 2, 1) := by decide +kernel
theorem dX11_most_45 : decode cX11_most 45 = .ok (.ifCond .ge 7, 3) := by decide +kernel
theorem dX11_most_48 : decode cX11_most 48 = .ok (.iload_n 3, 1) := by decide +kernel
theorem dX11_most_49 : decode cX11_most 49 = .ok (.goto 21, 3) := by decide +kernel
theorem dX11_most_52 : decode cX11_most 52 = .ok (.iload_n 2, 1) := by decide +kernel
theorem dX11_most_53 : decode cX11_most 53 = .ok (.iload_n 1, 1) := by decide +kernel
theorem dX11_most_54 : decode cX11_most 54 = .ok (.if_icmp .ge 14, 3) := by decide +kernel
theorem dX11_most_57 : decode cX11_most 57 = .ok (.aload_n 0, 1) := by decide +kernel
theorem dX11_most_58 : decode cX11_most 58 = .ok (.getfield 189, 3) := by decide +kernel
theorem dX11_most_61 : decode cX11_most 61 = .ok (.iload_n 2, 1) := by decide +kernel
theorem dX11_most_62 : decode cX11_most 62 = .ok (.invokestatic 158, 3) := by decide +kernel
theorem dX11_most_65 : decode cX11_most 65 = .ok (.goto 5, 3) := by decide +kernel
theorem dX11_most_68 : decode cX11_most 68 = .ok (.bipush (-4), 2) := by decide +kernel
theorem dX11_most_70 : decode cX11_most 70 = .ok (.ireturn, 1) := by decide +kernel
set_option maxRecDepth 20000 in
theorem ggX11_fewest_X11_in : GoodIn wsX11_fewest wsX11_in := goodIn_r _ [5] (by decide +kernel) (by decide +kernel)
set_option maxRecDepth 20000 in
theorem gX11_fewest_X11_in : GoodIn wsX11_fewest (va_wsS RX11 81 yX11_in wsX11_in) := goodIn_app (goodIn_of _ (by decide +kernel)) ggX11_fewest_X11_in
set_option maxRecDepth 20000 in
theorem ggX11_fewest_X11_layDues : GoodIn wsX11_fewest wsX11_layDues := goodIn_r _ [9, 10, 11, 12, 13, 4, 14, 59, 60, 61, 62, 63, 64, 65, 66, 67, 68, 69, 70, 71, 72, 73, 74, 75, 76, 77, 78, 79, 80, 81, 82, 83, 84, 85, 86, 87, 88] (by decide +kernel) (by decide +kernel)
set_option maxRecDepth 20000 in
theorem gX11_fewest_X11_layDues : GoodIn wsX11_fewest (wsV RX11 166 RX11 yX11_layDues wsX11_layDues) := goodIn_app (goodIn_of _ (by decide +kernel)) ggX11_fewest_X11_layDues
set_option maxRecDepth 20000 in
theorem ggX11_fewest_X11_findMost : GoodIn wsX11_fewest wsX11_findMost := goodIn_r _ [18, 19, 20, 21, 22, 23, 4, 24, 11, 25, 26, 27, 28, 29, 30, 31, 32, 33, 10, 34, 35, 36, 37, 38, 39, 40, 41, 12, 13, 14, 42, 43, 44, 45, 46, 47, 48, 49, 50, 51, 52, 53, 54, 55, 56, 57, 58, 59, 60, 61, 62, 63, 64, 65, 66, 67, 68, 69, 70, 71, 72, 73, 74, 75, 76, 77, 78, 79, 80, 81, 82, 83, 84, 85, 86, 87, 88] (by decide +kernel) (by decide +kernel)
set_option maxRecDepth 20000 in
theorem gX11_fewest_X11_findMost : GoodIn wsX11_fewest (wsV RX11 199 RX11 yX11_findMost wsX11_findMost) := goodIn_app (goodIn_of _ (by decide +kernel)) ggX11_fewest_X11_findMost
theorem dX11_fewest_0 : decode cX11_fewest 0 = .ok (.iload_n 1, 1) := by decide +kernel
theorem dX11_fewest_1 : decode cX11_fewest 1 = .ok (.i2l, 1) := by decide +kernel
theorem dX11_fewest_2 : decode cX11_fewest 2 = .ok (.lconst 0, 1) := by decide +kernel
theorem dX11_fewest_3 : decode cX11_fewest 3 = .ok (.ldc2_w 164, 3) := by decide +kernel
theorem dX11_fewest_6 : decode cX11_fewest 6 = .ok (.invokestatic 81, 3) := by decide +kernel
theorem dX11_fewest_9 : decode cX11_fewest 9 = .ok (.ifCond .ne 5, 3) := by decide +kernel
theorem dX11_fewest_12 : decode cX11_fewest 12 = .ok (.iconst (-1), 1) := by decide +kernel
theorem dX11_fewest_13 : decode cX11_fewest 13 = .ok (.ireturn, 1) := by decide +kernel
theorem dX11_fewest_14 : decode cX11_fewest 14 = .ok (.aload_n 0, 1) := by decide +kernel
theorem dX11_fewest_15 : decode cX11_fewest 15 = .ok (.invokevirtual 166, 3) := by decide +kernel
theorem dX11_fewest_18 : decode cX11_fewest 18 = .ok (.iconst 0, 1) := by decide +kernel
theorem dX11_fewest_19 : decode cX11_fewest 19 = .ok (.istore_n 2, 1) := by decide +kernel
theorem dX11_fewest_20 : decode cX11_fewest 20 = .ok (.iload_n 2, 1) := by decide +kernel
theorem dX11_fewest_21 : decode cX11_fewest 21 = .ok (.iconst 5, 1) := by decide +kernel
theorem dX11_fewest_22 : decode cX11_fewest 22 = .ok (.if_icmp .ge 20, 3) := by decide +kernel
theorem dX11_fewest_25 : decode cX11_fewest 25 = .ok (.aload_n 0, 1) := by decide +kernel
theorem dX11_fewest_26 : decode cX11_fewest 26 = .ok (.iload_n 2, 1) := by decide +kernel
theorem dX11_fewest_27 : decode cX11_fewest 27 = .ok (.invokevirtual 199, 3) := by decide +kernel
theorem dX11_fewest_30 : decode cX11_fewest 30 = .ok (.iload_n 1, 1) := by decide +kernel
theorem dX11_fewest_31 : decode cX11_fewest 31 = .ok (.if_icmp .lt 5, 3) := by decide +kernel
theorem dX11_fewest_34 : decode cX11_fewest 34 = .ok (.iload_n 2, 1) := by decide +kernel
theorem dX11_fewest_35 : decode cX11_fewest 35 = .ok (.ireturn, 1) := by decide +kernel
theorem dX11_fewest_36 : decode cX11_fewest 36 = .ok (.iinc 2 1, 3) := by decide +kernel
theorem dX11_fewest_39 : decode cX11_fewest 39 = .ok (.goto (-19), 3) := by decide +kernel
theorem dX11_fewest_42 : decode cX11_fewest 42 = .ok (.bipush (-4), 2) := by decide +kernel
theorem dX11_fewest_44 : decode cX11_fewest 44 = .ok (.ireturn, 1) := by decide +kernel
set_option maxRecDepth 20000 in
theorem ggX11_handed_X11_in : GoodIn wsX11_handed wsX11_in := goodIn_r _ [11] (by decide +kernel) (by decide +kernel)
set_option maxRecDepth 20000 in
theorem gX11_handed_X11_in : GoodIn wsX11_handed (va_wsS RX11 81 yX11_in wsX11_in) := goodIn_app (goodIn_of _ (by decide +kernel)) ggX11_handed_X11_in
set_option maxRecDepth 20000 in
theorem ggX11_handed_X11_layDues : GoodIn wsX11_handed wsX11_layDues := goodIn_r _ [15, 6, 2, 16, 17, 10, 18, 50, 51, 52, 53, 54, 55, 56, 57, 58, 59, 60, 61, 62, 63, 64, 65, 66, 67, 68, 69, 70, 71, 72, 73, 74, 75, 76, 77, 78, 79] (by decide +kernel) (by decide +kernel)
set_option maxRecDepth 20000 in
theorem gX11_handed_X11_layDues : GoodIn wsX11_handed (wsV RX11 166 RX11 yX11_layDues wsX11_layDues) := goodIn_app (goodIn_of _ (by decide +kernel)) ggX11_handed_X11_layDues
set_option maxRecDepth 20000 in
theorem ggX11_handed_X11_farBy : GoodIn wsX11_handed wsX11_farBy := goodIn_r _ [22, 6, 23, 24, 25, 10, 26, 3, 2, 27, 28, 29, 16, 17, 18, 30, 31, 32, 33, 34, 35, 36, 37, 38, 39, 40, 41, 42, 50, 51, 52, 53, 54, 55, 56, 57, 58, 59, 60, 61, 62, 63, 64, 65, 66, 67, 68, 69, 70, 71, 72, 73, 74, 75, 76, 77, 78, 79] (by decide +kernel) (by decide +kernel)
set_option maxRecDepth 20000 in
theorem gX11_handed_X11_farBy : GoodIn wsX11_handed (wsV RX11 177 RX11 yX11_farBy wsX11_farBy) := goodIn_app (goodIn_of _ (by decide +kernel)) ggX11_handed_X11_farBy
set_option maxRecDepth 20000 in
theorem ggX11_handed_X11_laySets : GoodIn wsX11_handed wsX11_laySets := goodIn_r _ [46, 5, 3, 28, 50, 51, 52, 53, 54, 55, 56, 57, 58, 59, 60, 61, 62, 63, 64, 65, 66, 67, 68, 69, 70, 71, 72, 73, 74, 75, 76, 77, 78, 79] (by decide +kernel) (by decide +kernel)
set_option maxRecDepth 20000 in
theorem gX11_handed_X11_laySets : GoodIn wsX11_handed (wsV RX11 180 RX11 yX11_laySets wsX11_laySets) := goodIn_app (goodIn_of _ (by decide +kernel)) ggX11_handed_X11_laySets
set_option maxRecDepth 20000 in
theorem ggX11_handed_X11_ones : GoodIn wsX11_handed wsX11_ones := goodIn_r _ [49] (by decide +kernel) (by decide +kernel)
set_option maxRecDepth 20000 in
theorem gX11_handed_X11_ones : GoodIn wsX11_handed (va_wsS RX11 108 yX11_ones wsX11_ones) := goodIn_app (goodIn_of _ (by decide +kernel)) ggX11_handed_X11_ones
theorem dX11_handed_0 : decode cX11_handed 0 = .ok (.iload_n 1, 1) := by decide +kernel
theorem dX11_handed_1 : decode cX11_handed 1 = .ok (.i2l, 1) := by decide +kernel
theorem dX11_handed_2 : decode cX11_handed 2 = .ok (.lconst 1, 1) := by decide +kernel
theorem dX11_handed_3 : decode cX11_handed 3 = .ok (.ldc2_w 164, 3) := by decide +kernel
theorem dX11_handed_6 : decode cX11_handed 6 = .ok (.invokestatic 81, 3) := by decide +kernel
theorem dX11_handed_9 : decode cX11_handed 9 = .ok (.ifCond .eq 14, 3) := by decide +kernel
theorem dX11_handed_12 : decode cX11_handed 12 = .ok (.iload_n 2, 1) := by decide +kernel
theorem dX11_handed_13 : decode cX11_handed 13 = .ok (.i2l, 1) := by decide +kernel
theorem dX11_handed_14 : decode cX11_handed 14 = .ok (.lconst 0, 1) := by decide +kernel
theorem dX11_handed_15 : decode cX11_handed 15 = .ok (.iload_n 1, 1) := by decide +kernel
theorem dX11_handed_16 : decode cX11_handed 16 = .ok (.i2l, 1) := by decide +kernel
theorem dX11_handed_17 : decode cX11_handed 17 = .ok (.invokestatic 81, 3) := by decide +kernel
theorem dX11_handed_20 : decode cX11_handed 20 = .ok (.ifCond .ne 5, 3) := by decide +kernel
theorem dX11_handed_23 : decode cX11_handed 23 = .ok (.iconst (-1), 1) := by decide +kernel
theorem dX11_handed_24 : decode cX11_handed 24 = .ok (.ireturn, 1) := by decide +kernel
theorem dX11_handed_25 : decode cX11_handed 25 = .ok (.aload_n 0, 1) := by decide +kernel
theorem dX11_handed_26 : decode cX11_handed 26 = .ok (.invokevirtual 166, 3) := by decide +kernel
theorem dX11_handed_29 : decode cX11_handed 29 = .ok (.aload_n 0, 1) := by decide +kernel
theorem dX11_handed_30 : decode cX11_handed 30 = .ok (.aload_n 0, 1) := by decide +kernel
theorem dX11_handed_31 : decode cX11_handed 31 = .ok (.getfield 7, 3) := by decide +kernel
theorem dX11_handed_34 : decode cX11_handed 34 = .ok (.bipush 26, 2) := by decide +kernel
theorem dX11_handed_36 : decode cX11_handed 36 = .ok (.iaload, 1) := by decide +kernel
theorem dX11_handed_37 : decode cX11_handed 37 = .ok (.invokevirtual 177, 3) := by decide +kernel
theorem dX11_handed_40 : decode cX11_handed 40 = .ok (.iload_n 1, 1) := by decide +kernel
theorem dX11_handed_41 : decode cX11_handed 41 = .ok (.if_icmp .ge 6, 3) := by decide +kernel
theorem dX11_handed_44 : decode cX11_handed 44 = .ok (.bipush (-2), 2) := by decide +kernel
theorem dX11_handed_46 : decode cX11_handed 46 = .ok (.ireturn, 1) := by decide +kernel
theorem dX11_handed_47 : decode cX11_handed 47 = .ok (.aload_n 0, 1) := by decide +kernel
theorem dX11_handed_48 : decode cX11_handed 48 = .ok (.invokevirtual 180, 3) := by decide +kernel
theorem dX11_handed_51 : decode cX11_handed 51 = .ok (.iconst 1, 1) := by decide +kernel
theorem dX11_handed_52 : decode cX11_handed 52 = .ok (.aload_n 0, 1) := by decide +kernel
theorem dX11_handed_53 : decode cX11_handed 53 = .ok (.getfield 85, 3) := by decide +kernel
theorem dX11_handed_56 : decode cX11_handed 56 = .ok (.ishl, 1) := by decide +kernel
theorem dX11_handed_57 : decode cX11_handed 57 = .ok (.istore_n 3, 1) := by decide +kernel
theorem dX11_handed_58 : decode cX11_handed 58 = .ok (.iload_n 1, 1) := by decide +kernel
theorem dX11_handed_59 : decode cX11_handed 59 = .ok (.istore 4, 2) := by decide +kernel
theorem dX11_handed_61 : decode cX11_handed 61 = .ok (.iload 4, 2) := by decide +kernel
theorem dX11_handed_63 : decode cX11_handed 63 = .ok (.ifCond .lt 154, 3) := by decide +kernel
theorem dX11_handed_66 : decode cX11_handed 66 = .ok (.iconst 0, 1) := by decide +kernel
theorem dX11_handed_67 : decode cX11_handed 67 = .ok (.istore 5, 2) := by decide +kernel
theorem dX11_handed_69 : decode cX11_handed 69 = .ok (.iload 5, 2) := by decide +kernel
theorem dX11_handed_71 : decode cX11_handed 71 = .ok (.iload_n 3, 1) := by decide +kernel
theorem dX11_handed_72 : decode cX11_handed 72 = .ok (.if_icmp .ge 139, 3) := by decide +kernel
theorem dX11_handed_75 : decode cX11_handed 75 = .ok (.iload 4, 2) := by decide +kernel
theorem dX11_handed_77 : decode cX11_handed 77 = .ok (.iload_n 1, 1) := by decide +kernel
theorem dX11_handed_78 : decode cX11_handed 78 = .ok (.if_icmp .ne 7, 3) := by decide +kernel
theorem dX11_handed_81 : decode cX11_handed 81 = .ok (.iconst 0, 1) := by decide +kernel
theorem dX11_handed_82 : decode cX11_handed 82 = .ok (.goto 5, 3) := by decide +kernel
theorem dX11_handed_85 : decode cX11_handed 85 = .ok (.ldc 202, 2) := by decide +kernel
theorem dX11_handed_87 : decode cX11_handed 87 = .ok (.istore 6, 2) := by decide +kernel
theorem dX11_handed_89 : decode cX11_handed 89 = .ok (.iconst 0, 1) := by decide +kernel
theorem dX11_handed_90 : decode cX11_handed 90 = .ok (.istore 7, 2) := by decide +kernel
theorem dX11_handed_92 : decode cX11_handed 92 = .ok (.iload 7, 2) := by decide +kernel
theorem dX11_handed_94 : decode cX11_handed 94 = .ok (.iload_n 3, 1) := by decide +kernel
theorem dX11_handed_95 : decode cX11_handed 95 = .ok (.if_icmp .ge 94, 3) := by decide +kernel
theorem dX11_handed_98 : decode cX11_handed 98 = .ok (.iload 4, 2) := by decide +kernel
theorem dX11_handed_100 : decode cX11_handed 100 = .ok (.iload_n 1, 1) := by decide +kernel
theorem dX11_handed_101 : decode cX11_handed 101 = .ok (.if_icmp .ge 88, 3) := by decide +kernel
theorem dX11_handed_104 : decode cX11_handed 104 = .ok (.aload_n 0, 1) := by decide +kernel
theorem dX11_handed_105 : decode cX11_handed 105 = .ok (.getfield 35, 3) := by decide +kernel
theorem dX11_handed_108 : decode cX11_handed 108 = .ok (.iload 5, 2) := by decide +kernel
theorem dX11_handed_110 : decode cX11_handed 110 = .ok (.iaload, 1) := by decide +kernel
theorem dX11_handed_111 : decode cX11_handed 111 = .ok (.aload_n 0, 1) := by decide +kernel
theorem dX11_handed_112 : decode cX11_handed 112 = .ok (.getfield 28, 3) := by decide +kernel
theorem dX11_handed_115 : decode cX11_handed 115 = .ok (.iload 4, 2) := by decide +kernel
theorem dX11_handed_117 : decode cX11_handed 117 = .ok (.iaload, 1) := by decide +kernel
theorem dX11_handed_118 : decode cX11_handed 118 = .ok (.if_icmp .ne 71, 3) := by decide +kernel
theorem dX11_handed_121 : decode cX11_handed 121 = .ok (.aload_n 0, 1) := by decide +kernel
theorem dX11_handed_122 : decode cX11_handed 122 = .ok (.getfield 35, 3) := by decide +kernel
theorem dX11_handed_125 : decode cX11_handed 125 = .ok (.iload 7, 2) := by decide +kernel
theorem dX11_handed_127 : decode cX11_handed 127 = .ok (.iaload, 1) := by decide +kernel
theorem dX11_handed_128 : decode cX11_handed 128 = .ok (.aload_n 0, 1) := by decide +kernel
theorem dX11_handed_129 : decode cX11_handed 129 = .ok (.getfield 28, 3) := by decide +kernel
theorem dX11_handed_132 : decode cX11_handed 132 = .ok (.iload 4, 2) := by decide +kernel
theorem dX11_handed_134 : decode cX11_handed 134 = .ok (.iconst 1, 1) := by decide +kernel
theorem dX11_handed_135 : decode cX11_handed 135 = .ok (.iadd, 1) := by decide +kernel
theorem dX11_handed_136 : decode cX11_handed 136 = .ok (.iaload, 1) := by decide +kernel
theorem dX11_handed_137 : decode cX11_handed 137 = .ok (.if_icmp .ne 46, 3) := by decide +kernel
theorem dX11_handed_140 : decode cX11_handed 140 = .ok (.iload 5, 2) := by decide +kernel
theorem dX11_handed_142 : decode cX11_handed 142 = .ok (.iload 7, 2) := by decide +kernel
theorem dX11_handed_144 : decode cX11_handed 144 = .ok (.ixor, 1) := by decide +kernel
theorem dX11_handed_145 : decode cX11_handed 145 = .ok (.invokestatic 108, 3) := by decide +kernel
theorem dX11_handed_148 : decode cX11_handed 148 = .ok (.aload_n 0, 1) := by decide +kernel
theorem dX11_handed_149 : decode cX11_handed 149 = .ok (.getfield 50, 3) := by decide +kernel
theorem dX11_handed_152 : decode cX11_handed 152 = .ok (.sipush 2048, 3) := by decide +kernel
theorem dX11_handed_155 : decode cX11_handed 155 = .ok (.iload 4, 2) := by decide +kernel
theorem dX11_handed_157 : decode cX11_handed 157 = .ok (.iconst 1, 1) := by decide +kernel
theorem dX11_handed_158 : decode cX11_handed 158 = .ok (.iadd, 1) := by decide +kernel
theorem dX11_handed_159 : decode cX11_handed 159 = .ok (.imul, 1) := by decide +kernel
theorem dX11_handed_160 : decode cX11_handed 160 = .ok (.iload 7, 2) := by decide +kernel
theorem dX11_handed_162 : decode cX11_handed 162 = .ok (.iadd, 1) := by decide +kernel
theorem dX11_handed_163 : decode cX11_handed 163 = .ok (.iaload, 1) := by decide +kernel
theorem dX11_handed_164 : decode cX11_handed 164 = .ok (.iadd, 1) := by decide +kernel
theorem dX11_handed_165 : decode cX11_handed 165 = .ok (.istore 8, 2) := by decide +kernel
theorem dX11_handed_167 : decode cX11_handed 167 = .ok (.iload 8, 2) := by decide +kernel
theorem dX11_handed_169 : decode cX11_handed 169 = .ok (.iload 6, 2) := by decide +kernel
theorem dX11_handed_171 : decode cX11_handed 171 = .ok (.if_icmp .ge 8, 3) := by decide +kernel
theorem dX11_handed_174 : decode cX11_handed 174 = .ok (.iload 8, 2) := by decide +kernel
theorem dX11_handed_176 : decode cX11_handed 176 = .ok (.goto 5, 3) := by decide +kernel
theorem dX11_handed_179 : decode cX11_handed 179 = .ok (.iload 6, 2) := by decide +kernel
theorem dX11_handed_181 : decode cX11_handed 181 = .ok (.istore 6, 2) := by decide +kernel
theorem dX11_handed_183 : decode cX11_handed 183 = .ok (.iinc 7 1, 3) := by decide +kernel
theorem dX11_handed_186 : decode cX11_handed 186 = .ok (.goto (-94), 3) := by decide +kernel
theorem dX11_handed_189 : decode cX11_handed 189 = .ok (.aload_n 0, 1) := by decide +kernel
theorem dX11_handed_190 : decode cX11_handed 190 = .ok (.getfield 50, 3) := by decide +kernel
theorem dX11_handed_193 : decode cX11_handed 193 = .ok (.sipush 2048, 3) := by decide +kernel
theorem dX11_handed_196 : decode cX11_handed 196 = .ok (.iload 4, 2) := by decide +kernel
theorem dX11_handed_198 : decode cX11_handed 198 = .ok (.imul, 1) := by decide +kernel
theorem dX11_handed_199 : decode cX11_handed 199 = .ok (.iload 5, 2) := by decide +kernel
theorem dX11_handed_201 : decode cX11_handed 201 = .ok (.iadd, 1) := by decide +kernel
theorem dX11_handed_202 : decode cX11_handed 202 = .ok (.iload 6, 2) := by decide +kernel
theorem dX11_handed_204 : decode cX11_handed 204 = .ok (.iastore, 1) := by decide +kernel
theorem dX11_handed_205 : decode cX11_handed 205 = .ok (.iinc 5 1, 3) := by decide +kernel
theorem dX11_handed_208 : decode cX11_handed 208 = .ok (.goto (-139), 3) := by decide +kernel
theorem dX11_handed_211 : decode cX11_handed 211 = .ok (.iinc 4 (-1), 3) := by decide +kernel

theorem dX12_shop_0 : decode cX12_shop 0 = .ok (.iload_n 1, 1) := by decide +kernel
theorem dX12_shop_1 : decode cX12_shop 1 = .ok (.iconst 1, 1) := by decide +kernel
theorem dX12_shop_2 : decode cX12_shop 2 = .ok (.bipush 12, 2) := by decide +kernel
theorem dX12_shop_4 : decode cX12_shop 4 = .ok (.invokestatic 108, 3) := by decide +kernel
theorem dX12_shop_7 : decode cX12_shop 7 = .ok (.ifCond .eq 12, 3) := by decide +kernel
theorem dX12_shop_10 : decode cX12_shop 10 = .ok (.iload_n 2, 1) := by decide +kernel
theorem dX12_shop_11 : decode cX12_shop 11 = .ok (.iconst 0, 1) := by decide +kernel
theorem dX12_shop_12 : decode cX12_shop 12 = .ok (.iconst 2, 1) := by decide +kernel
theorem dX12_shop_13 : decode cX12_shop 13 = .ok (.invokestatic 108, 3) := by decide +kernel
theorem dX12_shop_16 : decode cX12_shop 16 = .ok (.ifCond .ne 5, 3) := by decide +kernel
theorem dX12_shop_19 : decode cX12_shop 19 = .ok (.iconst (-1), 1) := by decide +kernel
theorem dX12_shop_20 : decode cX12_shop 20 = .ok (.ireturn, 1) := by decide +kernel
theorem dX12_shop_21 : decode cX12_shop 21 = .ok (.aload_n 0, 1) := by decide +kernel
theorem dX12_shop_22 : decode cX12_shop 22 = .ok (.iload_n 1, 1) := by decide +kernel
theorem dX12_shop_23 : decode cX12_shop 23 = .ok (.putfield 83, 3) := by decide +kernel
theorem dX12_shop_26 : decode cX12_shop 26 = .ok (.aload_n 0, 1) := by decide +kernel
theorem dX12_shop_27 : decode cX12_shop 27 = .ok (.iload_n 2, 1) := by decide +kernel
theorem dX12_shop_28 : decode cX12_shop 28 = .ok (.putfield 153, 3) := by decide +kernel
theorem dX12_shop_31 : decode cX12_shop 31 = .ok (.aload_n 0, 1) := by decide +kernel
theorem dX12_shop_32 : decode cX12_shop 32 = .ok (.iload_n 3, 1) := by decide +kernel
theorem dX12_shop_33 : decode cX12_shop 33 = .ok (.putfield 156, 3) := by decide +kernel
theorem dX12_shop_36 : decode cX12_shop 36 = .ok (.iconst 1, 1) := by decide +kernel
theorem dX12_shop_37 : decode cX12_shop 37 = .ok (.ireturn, 1) := by decide +kernel
theorem dX12_costs_0 : decode cX12_costs 0 = .ok (.iload_n 1, 1) := by decide +kernel
theorem dX12_costs_1 : decode cX12_costs 1 = .ok (.iconst 0, 1) := by decide +kernel
theorem dX12_costs_2 : decode cX12_costs 2 = .ok (.bipush 100, 2) := by decide +kernel
theorem dX12_costs_4 : decode cX12_costs 4 = .ok (.invokestatic 108, 3) := by decide +kernel
theorem dX12_costs_7 : decode cX12_costs 7 = .ok (.ifCond .eq 34, 3) := by decide +kernel
theorem dX12_costs_10 : decode cX12_costs 10 = .ok (.iload_n 2, 1) := by decide +kernel
theorem dX12_costs_11 : decode cX12_costs 11 = .ok (.iconst 0, 1) := by decide +kernel
theorem dX12_costs_12 : decode cX12_costs 12 = .ok (.bipush 100, 2) := by decide +kernel
theorem dX12_costs_14 : decode cX12_costs 14 = .ok (.invokestatic 108, 3) := by decide +kernel
theorem dX12_costs_17 : decode cX12_costs 17 = .ok (.ifCond .eq 24, 3) := by decide +kernel
theorem dX12_costs_20 : decode cX12_costs 20 = .ok (.iload_n 3, 1) := by decide +kernel
theorem dX12_costs_21 : decode cX12_costs 21 = .ok (.iconst 0, 1) := by decide +kernel
theorem dX12_costs_22 : decode cX12_costs 22 = .ok (.bipush 100, 2) := by decide +kernel
theorem dX12_costs_24 : decode cX12_costs 24 = .ok (.invokestatic 108, 3) := by decide +kernel
theorem dX12_costs_27 : decode cX12_costs 27 = .ok (.ifCond .eq 14, 3) := by decide +kernel
theorem dX12_costs_30 : decode cX12_costs 30 = .ok (.iload 4, 2) := by decide +kernel
theorem dX12_costs_32 : decode cX12_costs 32 = .ok (.iconst 0, 1) := by decide +kernel
theorem dX12_costs_33 : decode cX12_costs 33 = .ok (.bipush 100, 2) := by decide +kernel
theorem dX12_costs_35 : decode cX12_costs 35 = .ok (.invokestatic 108, 3) := by decide +kernel
theorem dX12_costs_38 : decode cX12_costs 38 = .ok (.ifCond .ne 5, 3) := by decide +kernel
theorem dX12_costs_41 : decode cX12_costs 41 = .ok (.iconst (-1), 1) := by decide +kernel
theorem dX12_costs_42 : decode cX12_costs 42 = .ok (.ireturn, 1) := by decide +kernel
theorem dX12_costs_43 : decode cX12_costs 43 = .ok (.aload_n 0, 1) := by decide +kernel
theorem dX12_costs_44 : decode cX12_costs 44 = .ok (.iload_n 1, 1) := by decide +kernel
theorem dX12_costs_45 : decode cX12_costs 45 = .ok (.putfield 87, 3) := by decide +kernel
theorem dX12_costs_48 : decode cX12_costs 48 = .ok (.aload_n 0, 1) := by decide +kernel
theorem dX12_costs_49 : decode cX12_costs 49 = .ok (.iload_n 2, 1) := by decide +kernel
theorem dX12_costs_50 : decode cX12_costs 50 = .ok (.putfield 90, 3) := by decide +kernel
theorem dX12_costs_53 : decode cX12_costs 53 = .ok (.aload_n 0, 1) := by decide +kernel
theorem dX12_costs_54 : decode cX12_costs 54 = .ok (.iload_n 3, 1) := by decide +kernel
theorem dX12_costs_55 : decode cX12_costs 55 = .ok (.putfield 93, 3) := by decide +kernel
theorem dX12_costs_58 : decode cX12_costs 58 = .ok (.aload_n 0, 1) := by decide +kernel
theorem dX12_costs_59 : decode cX12_costs 59 = .ok (.iload 4, 2) := by decide +kernel
theorem dX12_costs_61 : decode cX12_costs 61 = .ok (.putfield 96, 3) := by decide +kernel
theorem dX12_costs_64 : decode cX12_costs 64 = .ok (.iconst 1, 1) := by decide +kernel
theorem dX12_costs_65 : decode cX12_costs 65 = .ok (.ireturn, 1) := by decide +kernel
theorem dX12_day_0 : decode cX12_day 0 = .ok (.aload_n 0, 1) := by decide +kernel
theorem dX12_day_1 : decode cX12_day 1 = .ok (.getfield 153, 3) := by decide +kernel
theorem dX12_day_4 : decode cX12_day 4 = .ok (.ifCond .ne 8, 3) := by decide +kernel
theorem dX12_day_7 : decode cX12_day 7 = .ok (.iload 4, 2) := by decide +kernel
theorem dX12_day_9 : decode cX12_day 9 = .ok (.goto 4, 3) := by decide +kernel
theorem dX12_day_12 : decode cX12_day 12 = .ok (.iload_n 2, 1) := by decide +kernel
theorem dX12_day_13 : decode cX12_day 13 = .ok (.istore 6, 2) := by decide +kernel
theorem dX12_day_15 : decode cX12_day 15 = .ok (.aload_n 0, 1) := by decide +kernel
theorem dX12_day_16 : decode cX12_day 16 = .ok (.aload_n 0, 1) := by decide +kernel
theorem dX12_day_17 : decode cX12_day 17 = .ok (.getfield 153, 3) := by decide +kernel
theorem dX12_day_20 : decode cX12_day 20 = .ok (.ifCond .ne 7, 3) := by decide +kernel
theorem dX12_day_23 : decode cX12_day 23 = .ok (.iconst 0, 1) := by decide +kernel
theorem dX12_day_24 : decode cX12_day 24 = .ok (.goto 17, 3) := by decide +kernel
theorem dX12_day_27 : decode cX12_day 27 = .ok (.aload_n 0, 1) := by decide +kernel
theorem dX12_day_28 : decode cX12_day 28 = .ok (.getfield 153, 3) := by decide +kernel
theorem dX12_day_31 : decode cX12_day 31 = .ok (.iconst 1, 1) := by decide +kernel
theorem dX12_day_32 : decode cX12_day 32 = .ok (.if_icmp .ne 8, 3) := by decide +kernel
theorem dX12_day_35 : decode cX12_day 35 = .ok (.iload 4, 2) := by decide +kernel
theorem dX12_day_37 : decode cX12_day 37 = .ok (.goto 4, 3) := by decide +kernel
theorem dX12_day_40 : decode cX12_day 40 = .ok (.iload_n 3, 1) := by decide +kernel
theorem dX12_day_41 : decode cX12_day 41 = .ok (.putfield 160, 3) := by decide +kernel
theorem dX12_day_44 : decode cX12_day 44 = .ok (.aload_n 0, 1) := by decide +kernel
theorem dX12_day_45 : decode cX12_day 45 = .ok (.aload_n 0, 1) := by decide +kernel
theorem dX12_day_46 : decode cX12_day 46 = .ok (.getfield 153, 3) := by decide +kernel
theorem dX12_day_49 : decode cX12_day 49 = .ok (.iconst 2, 1) := by decide +kernel
theorem dX12_day_50 : decode cX12_day 50 = .ok (.if_icmp .ne 8, 3) := by decide +kernel
theorem dX12_day_53 : decode cX12_day 53 = .ok (.iload 4, 2) := by decide +kernel
theorem dX12_day_55 : decode cX12_day 55 = .ok (.goto 4, 3) := by decide +kernel
theorem dX12_day_58 : decode cX12_day 58 = .ok (.iconst 0, 1) := by decide +kernel
theorem dX12_day_59 : decode cX12_day 59 = .ok (.putfield 163, 3) := by decide +kernel
theorem dX12_day_62 : decode cX12_day 62 = .ok (.iload_n 1, 1) := by decide +kernel
theorem dX12_day_63 : decode cX12_day 63 = .ok (.iload 6, 2) := by decide +kernel
theorem dX12_day_65 : decode cX12_day 65 = .ok (.iadd, 1) := by decide +kernel
theorem dX12_day_66 : decode cX12_day 66 = .ok (.aload_n 0, 1) := by decide +kernel
theorem dX12_day_67 : decode cX12_day 67 = .ok (.getfield 83, 3) := by decide +kernel
theorem dX12_day_70 : decode cX12_day 70 = .ok (.if_icmp .le 10, 3) := by decide +kernel
theorem dX12_day_73 : decode cX12_day 73 = .ok (.aload_n 0, 1) := by decide +kernel
theorem dX12_day_74 : decode cX12_day 74 = .ok (.getfield 83, 3) := by decide +kernel
theorem dX12_day_77 : decode cX12_day 77 = .ok (.goto 7, 3) := by decide +kernel
theorem dX12_day_80 : decode cX12_day 80 = .ok (.iload_n 1, 1) := by decide +kernel
theorem dX12_day_81 : decode cX12_day 81 = .ok (.iload 6, 2) := by decide +kernel
theorem dX12_day_83 : decode cX12_day 83 = .ok (.iadd, 1) := by decide +kernel
theorem dX12_day_84 : decode cX12_day 84 = .ok (.istore 7, 2) := by decide +kernel
theorem dX12_day_86 : decode cX12_day 86 = .ok (.iload 7, 2) := by decide +kernel
theorem dX12_day_88 : decode cX12_day 88 = .ok (.ifCond .le 8, 3) := by decide +kernel
theorem dX12_day_91 : decode cX12_day 91 = .ok (.iload 7, 2) := by decide +kernel
theorem dX12_day_93 : decode cX12_day 93 = .ok (.goto 4, 3) := by decide +kernel
theorem dX12_day_96 : decode cX12_day 96 = .ok (.iconst 0, 1) := by decide +kernel
theorem dX12_day_97 : decode cX12_day 97 = .ok (.istore 8, 2) := by decide +kernel
theorem dX12_day_99 : decode cX12_day 99 = .ok (.aload_n 0, 1) := by decide +kernel
theorem dX12_day_100 : decode cX12_day 100 = .ok (.iload 5, 2) := by decide +kernel
theorem dX12_day_102 : decode cX12_day 102 = .ok (.iload 8, 2) := by decide +kernel
theorem dX12_day_104 : decode cX12_day 104 = .ok (.if_icmp .ge 8, 3) := by decide +kernel
theorem dX12_day_107 : decode cX12_day 107 = .ok (.iload 5, 2) := by decide +kernel
theorem dX12_day_109 : decode cX12_day 109 = .ok (.goto 5, 3) := by decide +kernel
theorem dX12_day_112 : decode cX12_day 112 = .ok (.iload 8, 2) := by decide +kernel
theorem dX12_day_114 : decode cX12_day 114 = .ok (.putfield 166, 3) := by decide +kernel
theorem dX12_day_117 : decode cX12_day 117 = .ok (.aload_n 0, 1) := by decide +kernel
theorem dX12_day_118 : decode cX12_day 118 = .ok (.iload 5, 2) := by decide +kernel
theorem dX12_day_120 : decode cX12_day 120 = .ok (.aload_n 0, 1) := by decide +kernel
theorem dX12_day_121 : decode cX12_day 121 = .ok (.getfield 166, 3) := by decide +kernel
theorem dX12_day_124 : decode cX12_day 124 = .ok (.isub, 1) := by decide +kernel
theorem dX12_day_125 : decode cX12_day 125 = .ok (.putfield 169, 3) := by decide +kernel
theorem dX12_day_128 : decode cX12_day 128 = .ok (.iload 7, 2) := by decide +kernel
theorem dX12_day_130 : decode cX12_day 130 = .ok (.iload 5, 2) := by decide +kernel
theorem dX12_day_132 : decode cX12_day 132 = .ok (.isub, 1) := by decide +kernel
theorem dX12_day_133 : decode cX12_day 133 = .ok (.istore 7, 2) := by decide +kernel
theorem dX12_day_135 : decode cX12_day 135 = .ok (.aload_n 0, 1) := by decide +kernel
theorem dX12_day_136 : decode cX12_day 136 = .ok (.getfield 156, 3) := by decide +kernel
theorem dX12_day_139 : decode cX12_day 139 = .ok (.ifCond .eq 8, 3) := by decide +kernel
theorem dX12_day_142 : decode cX12_day 142 = .ok (.bipush (-12), 2) := by decide +kernel
theorem dX12_day_144 : decode cX12_day 144 = .ok (.goto 4, 3) := by decide +kernel
theorem dX12_day_147 : decode cX12_day 147 = .ok (.iconst 0, 1) := by decide +kernel
theorem dX12_day_148 : decode cX12_day 148 = .ok (.istore 9, 2) := by decide +kernel
theorem dX12_day_150 : decode cX12_day 150 = .ok (.aload_n 0, 1) := by decide +kernel
theorem dX12_day_151 : decode cX12_day 151 = .ok (.iload 7, 2) := by decide +kernel
theorem dX12_day_153 : decode cX12_day 153 = .ok (.iload 9, 2) := by decide +kernel
theorem dX12_day_155 : decode cX12_day 155 = .ok (.if_icmp .ge 8, 3) := by decide +kernel
theorem dX12_day_158 : decode cX12_day 158 = .ok (.iload 9, 2) := by decide +kernel
theorem dX12_day_160 : decode cX12_day 160 = .ok (.goto 5, 3) := by decide +kernel
theorem dX12_day_163 : decode cX12_day 163 = .ok (.iload 7, 2) := by decide +kernel
theorem dX12_day_165 : decode cX12_day 165 = .ok (.putfield 172, 3) := by decide +kernel
theorem dX12_day_168 : decode cX12_day 168 = .ok (.aload_n 0, 1) := by decide +kernel
theorem dX12_day_169 : decode cX12_day 169 = .ok (.iload 4, 2) := by decide +kernel
theorem dX12_day_171 : decode cX12_day 171 = .ok (.ifCond .le 10, 3) := by decide +kernel
theorem dX12_day_174 : decode cX12_day 174 = .ok (.aload_n 0, 1) := by decide +kernel
theorem dX12_day_175 : decode cX12_day 175 = .ok (.getfield 87, 3) := by decide +kernel
theorem dX12_day_178 : decode cX12_day 178 = .ok (.goto 4, 3) := by decide +kernel
theorem dX12_day_181 : decode cX12_day 181 = .ok (.iconst 0, 1) := by decide +kernel
theorem dX12_day_182 : decode cX12_day 182 = .ok (.aload_n 0, 1) := by decide +kernel
theorem dX12_day_183 : decode cX12_day 183 = .ok (.getfield 90, 3) := by decide +kernel
theorem dX12_day_186 : decode cX12_day 186 = .ok (.iload 4, 2) := by decide +kernel
theorem dX12_day_188 : decode cX12_day 188 = .ok (.imul, 1) := by decide +kernel
theorem dX12_day_189 : decode cX12_day 189 = .ok (.iadd, 1) := by decide +kernel
theorem dX12_day_190 : decode cX12_day 190 = .ok (.aload_n 0, 1) := by decide +kernel
theorem dX12_day_191 : decode cX12_day 191 = .ok (.getfield 93, 3) := by decide +kernel
theorem dX12_day_194 : decode cX12_day 194 = .ok (.aload_n 0, 1) := by decide +kernel
theorem dX12_day_195 : decode cX12_day 195 = .ok (.getfield 172, 3) := by decide +kernel
theorem dX12_day_198 : decode cX12_day 198 = .ok (.ifCond .le 10, 3) := by decide +kernel
theorem dX12_day_201 : decode cX12_day 201 = .ok (.aload_n 0, 1) := by decide +kernel
theorem dX12_day_202 : decode cX12_day 202 = .ok (.getfield 172, 3) := by decide +kernel
theorem dX12_day_205 : decode cX12_day 205 = .ok (.goto 4, 3) := by decide +kernel
theorem dX12_day_208 : decode cX12_day 208 = .ok (.iconst 0, 1) := by decide +kernel
theorem dX12_day_209 : decode cX12_day 209 = .ok (.imul, 1) := by decide +kernel
theorem dX12_day_210 : decode cX12_day 210 = .ok (.iadd, 1) := by decide +kernel
theorem dX12_day_211 : decode cX12_day 211 = .ok (.aload_n 0, 1) := by decide +kernel
theorem dX12_day_212 : decode cX12_day 212 = .ok (.getfield 96, 3) := by decide +kernel
theorem dX12_day_215 : decode cX12_day 215 = .ok (.aload_n 0, 1) := by decide +kernel
theorem dX12_day_216 : decode cX12_day 216 = .ok (.getfield 169, 3) := by decide +kernel
theorem dX12_day_219 : decode cX12_day 219 = .ok (.imul, 1) := by decide +kernel
theorem dX12_day_220 : decode cX12_day 220 = .ok (.iadd, 1) := by decide +kernel
theorem dX12_day_221 : decode cX12_day 221 = .ok (.putfield 175, 3) := by decide +kernel
theorem dX12_day_224 : decode cX12_day 224 = .ok (.return_, 1) := by decide +kernel
theorem dX12_put_0 : decode cX12_put 0 = .ok (.aload_n 0, 1) := by decide +kernel
theorem dX12_put_1 : decode cX12_put 1 = .ok (.getfield 67, 3) := by decide +kernel
theorem dX12_put_4 : decode cX12_put 4 = .ok (.iload_n 1, 1) := by decide +kernel
theorem dX12_put_5 : decode cX12_put 5 = .ok (.iaload, 1) := by decide +kernel
theorem dX12_put_6 : decode cX12_put 6 = .ok (.aload_n 0, 1) := by decide +kernel
theorem dX12_put_7 : decode cX12_put 7 = .ok (.getfield 178, 3) := by decide +kernel
theorem dX12_put_10 : decode cX12_put 10 = .ok (.if_icmp .eq 53, 3) := by decide +kernel
theorem dX12_put_13 : decode cX12_put 13 = .ok (.aload_n 0, 1) := by decide +kernel
theorem dX12_put_14 : decode cX12_put 14 = .ok (.getfield 67, 3) := by decide +kernel
theorem dX12_put_17 : decode cX12_put 17 = .ok (.iload_n 1, 1) := by decide +kernel
theorem dX12_put_18 : decode cX12_put 18 = .ok (.aload_n 0, 1) := by decide +kernel
theorem dX12_put_19 : decode cX12_put 19 = .ok (.getfield 178, 3) := by decide +kernel
theorem dX12_put_22 : decode cX12_put 22 = .ok (.iastore, 1) := by decide +kernel
theorem dX12_put_23 : decode cX12_put 23 = .ok (.aload_n 0, 1) := by decide +kernel
theorem dX12_put_24 : decode cX12_put 24 = .ok (.getfield 64, 3) := by decide +kernel
theorem dX12_put_27 : decode cX12_put 27 = .ok (.iload_n 1, 1) := by decide +kernel
theorem dX12_put_28 : decode cX12_put 28 = .ok (.aload_n 0, 1) := by decide +kernel
theorem dX12_put_29 : decode cX12_put 29 = .ok (.getfield 181, 3) := by decide +kernel
theorem dX12_put_32 : decode cX12_put 32 = .ok (.iastore, 1) := by decide +kernel
theorem dX12_put_33 : decode cX12_put 33 = .ok (.aload_n 0, 1) := by decide +kernel
theorem dX12_put_34 : decode cX12_put 34 = .ok (.getfield 58, 3) := by decide +kernel
theorem dX12_put_37 : decode cX12_put 37 = .ok (.aload_n 0, 1) := by decide +kernel
theorem dX12_put_38 : decode cX12_put 38 = .ok (.getfield 181, 3) := by decide +kernel
theorem dX12_put_41 : decode cX12_put 41 = .ok (.iload_n 1, 1) := by decide +kernel
theorem dX12_put_42 : decode cX12_put 42 = .ok (.iastore, 1) := by decide +kernel
theorem dX12_put_43 : decode cX12_put 43 = .ok (.aload_n 0, 1) := by decide +kernel
theorem dX12_put_44 : decode cX12_put 44 = .ok (.getfield 61, 3) := by decide +kernel
theorem dX12_put_47 : decode cX12_put 47 = .ok (.aload_n 0, 1) := by decide +kernel
theorem dX12_put_48 : decode cX12_put 48 = .ok (.getfield 181, 3) := by decide +kernel
theorem dX12_put_51 : decode cX12_put 51 = .ok (.lconst 0, 1) := by decide +kernel
theorem dX12_put_52 : decode cX12_put 52 = .ok (.lastore, 1) := by decide +kernel
theorem dX12_put_53 : decode cX12_put 53 = .ok (.aload_n 0, 1) := by decide +kernel
theorem dX12_put_54 : decode cX12_put 54 = .ok (.dup, 1) := by decide +kernel
theorem dX12_put_55 : decode cX12_put 55 = .ok (.getfield 181, 3) := by decide +kernel
theorem dX12_put_58 : decode cX12_put 58 = .ok (.iconst 1, 1) := by decide +kernel
theorem dX12_put_59 : decode cX12_put 59 = .ok (.iadd, 1) := by decide +kernel
theorem dX12_put_60 : decode cX12_put 60 = .ok (.putfield 181, 3) := by decide +kernel
theorem dX12_put_63 : decode cX12_put 63 = .ok (.aload_n 0, 1) := by decide +kernel
theorem dX12_put_64 : decode cX12_put 64 = .ok (.getfield 61, 3) := by decide +kernel
theorem dX12_put_67 : decode cX12_put 67 = .ok (.aload_n 0, 1) := by decide +kernel
theorem dX12_put_68 : decode cX12_put 68 = .ok (.getfield 64, 3) := by decide +kernel
theorem dX12_put_71 : decode cX12_put 71 = .ok (.iload_n 1, 1) := by decide +kernel
theorem dX12_put_72 : decode cX12_put 72 = .ok (.iaload, 1) := by decide +kernel
theorem dX12_put_73 : decode cX12_put 73 = .ok (.dup2, 1) := by decide +kernel
theorem dX12_put_74 : decode cX12_put 74 = .ok (.laload, 1) := by decide +kernel
theorem dX12_put_75 : decode cX12_put 75 = .ok (.lload_n 2, 1) := by decide +kernel
theorem dX12_put_76 : decode cX12_put 76 = .ok (.ladd, 1) := by decide +kernel
theorem dX12_put_77 : decode cX12_put 77 = .ok (.lastore, 1) := by decide +kernel
theorem dX12_put_78 : decode cX12_put 78 = .ok (.return_, 1) := by decide +kernel
theorem dX12_stateOf_0 : decode cX12_stateOf 0 = .ok (.sipush 625, 3) := by decide +kernel
theorem dX12_stateOf_3 : decode cX12_stateOf 3 = .ok (.iload_n 0, 1) := by decide +kernel
theorem dX12_stateOf_4 : decode cX12_stateOf 4 = .ok (.bipush 12, 2) := by decide +kernel
theorem dX12_stateOf_6 : decode cX12_stateOf 6 = .ok (.iadd, 1) := by decide +kernel
theorem dX12_stateOf_7 : decode cX12_stateOf 7 = .ok (.imul, 1) := by decide +kernel
theorem dX12_stateOf_8 : decode cX12_stateOf 8 = .ok (.bipush 25, 2) := by decide +kernel
theorem dX12_stateOf_10 : decode cX12_stateOf 10 = .ok (.iload_n 1, 1) := by decide +kernel
theorem dX12_stateOf_11 : decode cX12_stateOf 11 = .ok (.imul, 1) := by decide +kernel
theorem dX12_stateOf_12 : decode cX12_stateOf 12 = .ok (.iadd, 1) := by decide +kernel
theorem dX12_stateOf_13 : decode cX12_stateOf 13 = .ok (.iload_n 2, 1) := by decide +kernel
theorem dX12_stateOf_14 : decode cX12_stateOf 14 = .ok (.iadd, 1) := by decide +kernel
theorem dX12_stateOf_15 : decode cX12_stateOf 15 = .ok (.ireturn, 1) := by decide +kernel
theorem dX12_goThrough_0 : decode cX12_goThrough 0 = .ok (.aload_n 0, 1) := by decide +kernel
theorem dX12_goThrough_1 : decode cX12_goThrough 1 = .ok (.iload_n 2, 1) := by decide +kernel
theorem dX12_goThrough_2 : decode cX12_goThrough 2 = .ok (.invokevirtual 129, 3) := by decide +kernel
theorem dX12_goThrough_5 : decode cX12_goThrough 5 = .ok (.i2l, 1) := by decide +kernel
theorem dX12_goThrough_6 : decode cX12_goThrough 6 = .ok (.lstore 6, 2) := by decide +kernel
theorem dX12_goThrough_8 : decode cX12_goThrough 8 = .ok (.aload_n 0, 1) := by decide +kernel
theorem dX12_goThrough_9 : decode cX12_goThrough 9 = .ok (.lconst 0, 1) := by decide +kernel
theorem dX12_goThrough_10 : decode cX12_goThrough 10 = .ok (.putfield 184, 3) := by decide +kernel
theorem dX12_goThrough_13 : decode cX12_goThrough 13 = .ok (.aload_n 0, 1) := by decide +kernel
theorem dX12_goThrough_14 : decode cX12_goThrough 14 = .ok (.lconst 0, 1) := by decide +kernel
theorem dX12_goThrough_15 : decode cX12_goThrough 15 = .ok (.putfield 187, 3) := by decide +kernel
theorem dX12_goThrough_18 : decode cX12_goThrough 18 = .ok (.aload_n 0, 1) := by decide +kernel
theorem dX12_goThrough_19 : decode cX12_goThrough 19 = .ok (.lconst 0, 1) := by decide +kernel
theorem dX12_goThrough_20 : decode cX12_goThrough 20 = .ok (.putfield 190, 3) := by decide +kernel
theorem dX12_goThrough_23 : decode cX12_goThrough 23 = .ok (.aload_n 0, 1) := by decide +kernel
theorem dX12_goThrough_24 : decode cX12_goThrough 24 = .ok (.lconst 0, 1) := by decide +kernel
theorem dX12_goThrough_25 : decode cX12_goThrough 25 = .ok (.putfield 193, 3) := by decide +kernel
theorem dX12_goThrough_28 : decode cX12_goThrough 28 = .ok (.aload_n 0, 1) := by decide +kernel
theorem dX12_goThrough_29 : decode cX12_goThrough 29 = .ok (.lconst 1, 1) := by decide +kernel
theorem dX12_goThrough_30 : decode cX12_goThrough 30 = .ok (.putfield 196, 3) := by decide +kernel
theorem dX12_goThrough_33 : decode cX12_goThrough 33 = .ok (.aload_n 0, 1) := by decide +kernel
theorem dX12_goThrough_34 : decode cX12_goThrough 34 = .ok (.getfield 51, 3) := by decide +kernel
theorem dX12_goThrough_37 : decode cX12_goThrough 37 = .ok (.iconst 0, 1) := by decide +kernel
theorem dX12_goThrough_38 : decode cX12_goThrough 38 = .ok (.iload_n 3, 1) := by decide +kernel
theorem dX12_goThrough_39 : decode cX12_goThrough 39 = .ok (.iconst 0, 1) := by decide +kernel
theorem dX12_goThrough_40 : decode cX12_goThrough 40 = .ok (.iconst 0, 1) := by decide +kernel
theorem dX12_goThrough_41 : decode cX12_goThrough 41 = .ok (.invokestatic 199, 3) := by decide +kernel
theorem dX12_goThrough_44 : decode cX12_goThrough 44 = .ok (.iastore, 1) := by decide +kernel
theorem dX12_goThrough_45 : decode cX12_goThrough 45 = .ok (.aload_n 0, 1) := by decide +kernel
theorem dX12_goThrough_46 : decode cX12_goThrough 46 = .ok (.getfield 54, 3) := by decide +kernel
theorem dX12_goThrough_49 : decode cX12_goThrough 49 = .ok (.iconst 0, 1) := by decide +kernel
theorem dX12_goThrough_50 : decode cX12_goThrough 50 = .ok (.lconst 1, 1) := by decide +kernel
theorem dX12_goThrough_51 : decode cX12_goThrough 51 = .ok (.lastore, 1) := by decide +kernel
theorem dX12_goThrough_52 : decode cX12_goThrough 52 = .ok (.aload_n 0, 1) := by decide +kernel
theorem dX12_goThrough_53 : decode cX12_goThrough 53 = .ok (.iconst 1, 1) := by decide +kernel
theorem dX12_goThrough_54 : decode cX12_goThrough 54 = .ok (.putfield 203, 3) := by decide +kernel
theorem dX12_goThrough_57 : decode cX12_goThrough 57 = .ok (.iconst 0, 1) := by decide +kernel
theorem dX12_goThrough_58 : decode cX12_goThrough 58 = .ok (.istore 8, 2) := by decide +kernel
theorem dX12_goThrough_60 : decode cX12_goThrough 60 = .ok (.iload 8, 2) := by decide +kernel
theorem dX12_goThrough_62 : decode cX12_goThrough 62 = .ok (.iload 4, 2) := by decide +kernel
theorem dX12_goThrough_64 : decode cX12_goThrough 64 = .ok (.if_icmp .ge 161, 3) := by decide +kernel
theorem dX12_goThrough_67 : decode cX12_goThrough 67 = .ok (.aload_n 0, 1) := by decide +kernel
theorem dX12_goThrough_68 : decode cX12_goThrough 68 = .ok (.dup, 1) := by decide +kernel
theorem dX12_goThrough_69 : decode cX12_goThrough 69 = .ok (.getfield 178, 3) := by decide +kernel
theorem dX12_goThrough_72 : decode cX12_goThrough 72 = .ok (.iconst 1, 1) := by decide +kernel
theorem dX12_goThrough_73 : decode cX12_goThrough 73 = .ok (.iadd, 1) := by decide +kernel
theorem dX12_goThrough_74 : decode cX12_goThrough 74 = .ok (.putfield 178, 3) := by decide +kernel
theorem dX12_goThrough_77 : decode cX12_goThrough 77 = .ok (.aload_n 0, 1) := by decide +kernel
theorem dX12_goThrough_78 : decode cX12_goThrough 78 = .ok (.iconst 0, 1) := by decide +kernel
theorem dX12_goThrough_79 : decode cX12_goThrough 79 = .ok (.putfield 181, 3) := by decide +kernel
theorem dX12_goThrough_82 : decode cX12_goThrough 82 = .ok (.aload_n 0, 1) := by decide +kernel
theorem dX12_goThrough_83 : decode cX12_goThrough 83 = .ok (.dup, 1) := by decide +kernel
theorem dX12_goThrough_84 : decode cX12_goThrough 84 = .ok (.getfield 184, 3) := by decide +kernel
theorem dX12_goThrough_87 : decode cX12_goThrough 87 = .ok (.lload 6, 2) := by decide +kernel
theorem dX12_goThrough_89 : decode cX12_goThrough 89 = .ok (.lmul, 1) := by decide +kernel
theorem dX12_goThrough_90 : decode cX12_goThrough 90 = .ok (.putfield 184, 3) := by decide +kernel
theorem dX12_goThrough_93 : decode cX12_goThrough 93 = .ok (.aload_n 0, 1) := by decide +kernel
theorem dX12_goThrough_94 : decode cX12_goThrough 94 = .ok (.dup, 1) := by decide +kernel
theorem dX12_goThrough_95 : decode cX12_goThrough 95 = .ok (.getfield 187, 3) := by decide +kernel
theorem dX12_goThrough_98 : decode cX12_goThrough 98 = .ok (.lload 6, 2) := by decide +kernel
theorem dX12_goThrough_100 : decode cX12_goThrough 100 = .ok (.lmul, 1) := by decide +kernel
theorem dX12_goThrough_101 : decode cX12_goThrough 101 = .ok (.putfield 187, 3) := by decide +kernel
theorem dX12_goThrough_104 : decode cX12_goThrough 104 = .ok (.aload_n 0, 1) := by decide +kernel
theorem dX12_goThrough_105 : decode cX12_goThrough 105 = .ok (.dup, 1) := by decide +kernel
theorem dX12_goThrough_106 : decode cX12_goThrough 106 = .ok (.getfield 190, 3) := by decide +kernel
theorem dX12_goThrough_109 : decode cX12_goThrough 109 = .ok (.lload 6, 2) := by decide +kernel
theorem dX12_goThrough_111 : decode cX12_goThrough 111 = .ok (.lmul, 1) := by decide +kernel
theorem dX12_goThrough_112 : decode cX12_goThrough 112 = .ok (.putfield 190, 3) := by decide +kernel
theorem dX12_goThrough_115 : decode cX12_goThrough 115 = .ok (.aload_n 0, 1) := by decide +kernel
theorem dX12_goThrough_116 : decode cX12_goThrough 116 = .ok (.dup, 1) := by decide +kernel
theorem dX12_goThrough_117 : decode cX12_goThrough 117 = .ok (.getfield 193, 3) := by decide +kernel
theorem dX12_goThrough_120 : decode cX12_goThrough 120 = .ok (.lload 6, 2) := by decide +kernel
theorem dX12_goThrough_122 : decode cX12_goThrough 122 = .ok (.lmul, 1) := by decide +kernel
theorem dX12_goThrough_123 : decode cX12_goThrough 123 = .ok (.putfield 193, 3) := by decide +kernel
theorem dX12_goThrough_126 : decode cX12_goThrough 126 = .ok (.aload_n 0, 1) := by decide +kernel
theorem dX12_goThrough_127 : decode cX12_goThrough 127 = .ok (.dup, 1) := by decide +kernel
theorem dX12_goThrough_128 : decode cX12_goThrough 128 = .ok (.getfield 196, 3) := by decide +kernel
theorem dX12_goThrough_131 : decode cX12_goThrough 131 = .ok (.lload 6, 2) := by decide +kernel
theorem dX12_goThrough_133 : decode cX12_goThrough 133 = .ok (.lmul, 1) := by decide +kernel
theorem dX12_goThrough_134 : decode cX12_goThrough 134 = .ok (.putfield 196, 3) := by decide +kernel
theorem dX12_goThrough_137 : decode cX12_goThrough 137 = .ok (.iconst 0, 1) := by decide +kernel
theorem dX12_goThrough_138 : decode cX12_goThrough 138 = .ok (.istore 9, 2) := by decide +kernel
theorem dX12_goThrough_140 : decode cX12_goThrough 140 = .ok (.iload 9, 2) := by decide +kernel
theorem dX12_goThrough_142 : decode cX12_goThrough 142 = .ok (.aload_n 0, 1) := by decide +kernel
theorem dX12_goThrough_143 : decode cX12_goThrough 143 = .ok (.getfield 203, 3) := by decide +kernel
theorem dX12_goThrough_146 : decode cX12_goThrough 146 = .ok (.if_icmp .ge 19, 3) := by decide +kernel
theorem dX12_goThrough_149 : decode cX12_goThrough 149 = .ok (.aload_n 0, 1) := by decide +kernel
theorem dX12_goThrough_150 : decode cX12_goThrough 150 = .ok (.iload 9, 2) := by decide +kernel
theorem dX12_goThrough_152 : decode cX12_goThrough 152 = .ok (.iload_n 1, 1) := by decide +kernel
theorem dX12_goThrough_153 : decode cX12_goThrough 153 = .ok (.iload_n 2, 1) := by decide +kernel
theorem dX12_goThrough_154 : decode cX12_goThrough 154 = .ok (.iload 5, 2) := by decide +kernel
theorem dX12_goThrough_156 : decode cX12_goThrough 156 = .ok (.invokevirtual 206, 3) := by decide +kernel
theorem dX12_goThrough_159 : decode cX12_goThrough 159 = .ok (.iinc 9 1, 3) := by decide +kernel
theorem dX12_goThrough_162 : decode cX12_goThrough 162 = .ok (.goto (-22), 3) := by decide +kernel
theorem dX12_goThrough_165 : decode cX12_goThrough 165 = .ok (.aload_n 0, 1) := by decide +kernel
theorem dX12_goThrough_166 : decode cX12_goThrough 166 = .ok (.aload_n 0, 1) := by decide +kernel
theorem dX12_goThrough_167 : decode cX12_goThrough 167 = .ok (.getfield 181, 3) := by decide +kernel
theorem dX12_goThrough_170 : decode cX12_goThrough 170 = .ok (.putfield 203, 3) := by decide +kernel
theorem dX12_goThrough_173 : decode cX12_goThrough 173 = .ok (.iconst 0, 1) := by decide +kernel
theorem dX12_goThrough_174 : decode cX12_goThrough 174 = .ok (.istore 9, 2) := by decide +kernel
theorem dX12_goThrough_176 : decode cX12_goThrough 176 = .ok (.iload 9, 2) := by decide +kernel
theorem dX12_goThrough_178 : decode cX12_goThrough 178 = .ok (.aload_n 0, 1) := by decide +kernel
theorem dX12_goThrough_179 : decode cX12_goThrough 179 = .ok (.getfield 203, 3) := by decide +kernel
theorem dX12_goThrough_182 : decode cX12_goThrough 182 = .ok (.if_icmp .ge 37, 3) := by decide +kernel
theorem dX12_goThrough_185 : decode cX12_goThrough 185 = .ok (.aload_n 0, 1) := by decide +kernel
theorem dX12_goThrough_186 : decode cX12_goThrough 186 = .ok (.getfield 51, 3) := by decide +kernel
theorem dX12_goThrough_189 : decode cX12_goThrough 189 = .ok (.iload 9, 2) := by decide +kernel
theorem dX12_goThrough_191 : decode cX12_goThrough 191 = .ok (.aload_n 0, 1) := by decide +kernel
theorem dX12_goThrough_192 : decode cX12_goThrough 192 = .ok (.getfield 58, 3) := by decide +kernel
theorem dX12_goThrough_195 : decode cX12_goThrough 195 = .ok (.iload 9, 2) := by decide +kernel
theorem dX12_goThrough_197 : decode cX12_goThrough 197 = .ok (.iaload, 1) := by decide +kernel
theorem dX12_goThrough_198 : decode cX12_goThrough 198 = .ok (.iastore, 1) := by decide +kernel
theorem dX12_goThrough_199 : decode cX12_goThrough 199 = .ok (.aload_n 0, 1) := by decide +kernel
theorem dX12_goThrough_200 : decode cX12_goThrough 200 = .ok (.getfield 54, 3) := by decide +kernel
theorem dX12_goThrough_203 : decode cX12_goThrough 203 = .ok (.iload 9, 2) := by decide +kernel
theorem dX12_goThrough_205 : decode cX12_goThrough 205 = .ok (.aload_n 0, 1) := by decide +kernel
theorem dX12_goThrough_206 : decode cX12_goThrough 206 = .ok (.getfield 61, 3) := by decide +kernel
theorem dX12_goThrough_209 : decode cX12_goThrough 209 = .ok (.iload 9, 2) := by decide +kernel
theorem dX12_goThrough_211 : decode cX12_goThrough 211 = .ok (.laload, 1) := by decide +kernel
theorem dX12_goThrough_212 : decode cX12_goThrough 212 = .ok (.lastore, 1) := by decide +kernel
theorem dX12_goThrough_213 : decode cX12_goThrough 213 = .ok (.iinc 9 1, 3) := by decide +kernel
theorem dX12_goThrough_216 : decode cX12_goThrough 216 = .ok (.goto (-40), 3) := by decide +kernel
theorem dX12_goThrough_219 : decode cX12_goThrough 219 = .ok (.iinc 8 1, 3) := by decide +kernel
theorem dX12_goThrough_222 : decode cX12_goThrough 222 = .ok (.goto (-162), 3) := by decide +kernel
theorem dX12_goThrough_225 : decode cX12_goThrough 225 = .ok (.aload_n 0, 1) := by decide +kernel
theorem dX12_goThrough_226 : decode cX12_goThrough 226 = .ok (.lconst 0, 1) := by decide +kernel
theorem dX12_goThrough_227 : decode cX12_goThrough 227 = .ok (.putfield 210, 3) := by decide +kernel
theorem dX12_goThrough_230 : decode cX12_goThrough 230 = .ok (.iconst 0, 1) := by decide +kernel
theorem dX12_goThrough_231 : decode cX12_goThrough 231 = .ok (.istore 8, 2) := by decide +kernel
theorem dX12_goThrough_233 : decode cX12_goThrough 233 = .ok (.iload 8, 2) := by decide +kernel
theorem dX12_goThrough_235 : decode cX12_goThrough 235 = .ok (.aload_n 0, 1) := by decide +kernel
theorem dX12_goThrough_236 : decode cX12_goThrough 236 = .ok (.getfield 203, 3) := by decide +kernel
theorem dX12_goThrough_239 : decode cX12_goThrough 239 = .ok (.if_icmp .ge 25, 3) := by decide +kernel
theorem dX12_goThrough_242 : decode cX12_goThrough 242 = .ok (.aload_n 0, 1) := by decide +kernel
theorem dX12_goThrough_243 : decode cX12_goThrough 243 = .ok (.dup, 1) := by decide +kernel
theorem dX12_goThrough_244 : decode cX12_goThrough 244 = .ok (.getfield 210, 3) := by decide +kernel
theorem dX12_goThrough_247 : decode cX12_goThrough 247 = .ok (.aload_n 0, 1) := by decide +kernel
theorem dX12_goThrough_248 : decode cX12_goThrough 248 = .ok (.getfield 54, 3) := by decide +kernel
theorem dX12_goThrough_251 : decode cX12_goThrough 251 = .ok (.iload 8, 2) := by decide +kernel
theorem dX12_goThrough_253 : decode cX12_goThrough 253 = .ok (.laload, 1) := by decide +kernel
theorem dX12_goThrough_254 : decode cX12_goThrough 254 = .ok (.ladd, 1) := by decide +kernel
theorem dX12_goThrough_255 : decode cX12_goThrough 255 = .ok (.putfield 210, 3) := by decide +kernel
theorem dX12_goThrough_258 : decode cX12_goThrough 258 = .ok (.iinc 8 1, 3) := by decide +kernel
theorem dX12_goThrough_261 : decode cX12_goThrough 261 = .ok (.goto (-28), 3) := by decide +kernel
theorem dX12_goThrough_264 : decode cX12_goThrough 264 = .ok (.return_, 1) := by decide +kernel
theorem dX12_goOn_0 : decode cX12_goOn 0 = .ok (.aload_n 0, 1) := by decide +kernel
theorem dX12_goOn_1 : decode cX12_goOn 1 = .ok (.getfield 51, 3) := by decide +kernel
theorem dX12_goOn_4 : decode cX12_goOn 4 = .ok (.iload_n 1, 1) := by decide +kernel
theorem dX12_goOn_5 : decode cX12_goOn 5 = .ok (.iaload, 1) := by decide +kernel
theorem dX12_goOn_6 : decode cX12_goOn 6 = .ok (.sipush 625, 3) := by decide +kernel
theorem dX12_goOn_9 : decode cX12_goOn 9 = .ok (.idiv, 1) := by decide +kernel
theorem dX12_goOn_10 : decode cX12_goOn 10 = .ok (.bipush 12, 2) := by decide +kernel
theorem dX12_goOn_12 : decode cX12_goOn 12 = .ok (.isub, 1) := by decide +kernel
theorem dX12_goOn_13 : decode cX12_goOn 13 = .ok (.istore 5, 2) := by decide +kernel
theorem dX12_goOn_15 : decode cX12_goOn 15 = .ok (.aload_n 0, 1) := by decide +kernel
theorem dX12_goOn_16 : decode cX12_goOn 16 = .ok (.getfield 51, 3) := by decide +kernel
theorem dX12_goOn_19 : decode cX12_goOn 19 = .ok (.iload_n 1, 1) := by decide +kernel
theorem dX12_goOn_20 : decode cX12_goOn 20 = .ok (.iaload, 1) := by decide +kernel
theorem dX12_goOn_21 : decode cX12_goOn 21 = .ok (.bipush 25, 2) := by decide +kernel
theorem dX12_goOn_23 : decode cX12_goOn 23 = .ok (.idiv, 1) := by decide +kernel
theorem dX12_goOn_24 : decode cX12_goOn 24 = .ok (.bipush 25, 2) := by decide +kernel
theorem dX12_goOn_26 : decode cX12_goOn 26 = .ok (.irem, 1) := by decide +kernel
theorem dX12_goOn_27 : decode cX12_goOn 27 = .ok (.istore 6, 2) := by decide +kernel
theorem dX12_goOn_29 : decode cX12_goOn 29 = .ok (.aload_n 0, 1) := by decide +kernel
theorem dX12_goOn_30 : decode cX12_goOn 30 = .ok (.getfield 51, 3) := by decide +kernel
theorem dX12_goOn_33 : decode cX12_goOn 33 = .ok (.iload_n 1, 1) := by decide +kernel
theorem dX12_goOn_34 : decode cX12_goOn 34 = .ok (.iaload, 1) := by decide +kernel
theorem dX12_goOn_35 : decode cX12_goOn 35 = .ok (.bipush 25, 2) := by decide +kernel
theorem dX12_goOn_37 : decode cX12_goOn 37 = .ok (.irem, 1) := by decide +kernel
theorem dX12_goOn_38 : decode cX12_goOn 38 = .ok (.istore 7, 2) := by decide +kernel
theorem dX12_goOn_40 : decode cX12_goOn 40 = .ok (.aload_n 0, 1) := by decide +kernel
theorem dX12_goOn_41 : decode cX12_goOn 41 = .ok (.iload_n 2, 1) := by decide +kernel
theorem dX12_goOn_42 : decode cX12_goOn 42 = .ok (.iload 5, 2) := by decide +kernel
theorem dX12_goOn_44 : decode cX12_goOn 44 = .ok (.iload 6, 2) := by decide +kernel
theorem dX12_goOn_46 : decode cX12_goOn 46 = .ok (.iadd, 1) := by decide +kernel
theorem dX12_goOn_47 : decode cX12_goOn 47 = .ok (.iload 7, 2) := by decide +kernel
theorem dX12_goOn_49 : decode cX12_goOn 49 = .ok (.iadd, 1) := by decide +kernel
theorem dX12_goOn_50 : decode cX12_goOn 50 = .ok (.invokevirtual 150, 3) := by decide +kernel
theorem dX12_goOn_53 : decode cX12_goOn 53 = .ok (.istore 8, 2) := by decide +kernel
theorem dX12_goOn_55 : decode cX12_goOn 55 = .ok (.iconst 0, 1) := by decide +kernel
theorem dX12_goOn_56 : decode cX12_goOn 56 = .ok (.istore 9, 2) := by decide +kernel
theorem dX12_goOn_58 : decode cX12_goOn 58 = .ok (.iload 9, 2) := by decide +kernel
theorem dX12_goOn_60 : decode cX12_goOn 60 = .ok (.bipush 7, 2) := by decide +kernel
theorem dX12_goOn_62 : decode cX12_goOn 62 = .ok (.if_icmp .ge 158, 3) := by decide +kernel
theorem dX12_goOn_65 : decode cX12_goOn 65 = .ok (.aload_n 0, 1) := by decide +kernel
theorem dX12_goOn_66 : decode cX12_goOn 66 = .ok (.getfield 17, 3) := by decide +kernel
theorem dX12_goOn_69 : decode cX12_goOn 69 = .ok (.bipush 7, 2) := by decide +kernel
theorem dX12_goOn_71 : decode cX12_goOn 71 = .ok (.iload_n 3, 1) := by decide +kernel
theorem dX12_goOn_72 : decode cX12_goOn 72 = .ok (.imul, 1) := by decide +kernel
theorem dX12_goOn_73 : decode cX12_goOn 73 = .ok (.iload 9, 2) := by decide +kernel
theorem dX12_goOn_75 : decode cX12_goOn 75 = .ok (.iadd, 1) := by decide +kernel
theorem dX12_goOn_76 : decode cX12_goOn 76 = .ok (.iaload, 1) := by decide +kernel
theorem dX12_goOn_77 : decode cX12_goOn 77 = .ok (.istore 10, 2) := by decide +kernel
theorem dX12_goOn_79 : decode cX12_goOn 79 = .ok (.iload 10, 2) := by decide +kernel
theorem dX12_goOn_81 : decode cX12_goOn 81 = .ok (.ifCond .le 133, 3) := by decide +kernel
theorem dX12_goOn_84 : decode cX12_goOn 84 = .ok (.aload_n 0, 1) := by decide +kernel
theorem dX12_goOn_85 : decode cX12_goOn 85 = .ok (.iload 5, 2) := by decide +kernel
theorem dX12_goOn_87 : decode cX12_goOn 87 = .ok (.iload 6, 2) := by decide +kernel
theorem dX12_goOn_89 : decode cX12_goOn 89 = .ok (.iload 7, 2) := by decide +kernel
theorem dX12_goOn_91 : decode cX12_goOn 91 = .ok (.iload 8, 2) := by decide +kernel
theorem dX12_goOn_93 : decode cX12_goOn 93 = .ok (.iload 9, 2) := by decide +kernel
theorem dX12_goOn_95 : decode cX12_goOn 95 = .ok (.invokevirtual 213, 3) := by decide +kernel
theorem dX12_goOn_98 : decode cX12_goOn 98 = .ok (.iload 4, 2) := by decide +kernel
theorem dX12_goOn_100 : decode cX12_goOn 100 = .ok (.ifCond .eq 10, 3) := by decide +kernel
theorem dX12_goOn_103 : decode cX12_goOn 103 = .ok (.aload_n 0, 1) := by decide +kernel
theorem dX12_goOn_104 : decode cX12_goOn 104 = .ok (.getfield 169, 3) := by decide +kernel
theorem dX12_goOn_107 : decode cX12_goOn 107 = .ok (.ifCond .ne 107, 3) := by decide +kernel
theorem dX12_goOn_110 : decode cX12_goOn 110 = .ok (.aload_n 0, 1) := by decide +kernel
theorem dX12_goOn_111 : decode cX12_goOn 111 = .ok (.getfield 54, 3) := by decide +kernel
theorem dX12_goOn_114 : decode cX12_goOn 114 = .ok (.iload_n 1, 1) := by decide +kernel
theorem dX12_goOn_115 : decode cX12_goOn 115 = .ok (.laload, 1) := by decide +kernel
theorem dX12_goOn_116 : decode cX12_goOn 116 = .ok (.iload 10, 2) := by decide +kernel
theorem dX12_goOn_118 : decode cX12_goOn 118 = .ok (.i2l, 1) := by decide +kernel
theorem dX12_goOn_119 : decode cX12_goOn 119 = .ok (.lmul, 1) := by decide +kernel
theorem dX12_goOn_120 : decode cX12_goOn 120 = .ok (.lstore 11, 2) := by decide +kernel
theorem dX12_goOn_122 : decode cX12_goOn 122 = .ok (.aload_n 0, 1) := by decide +kernel
theorem dX12_goOn_123 : decode cX12_goOn 123 = .ok (.dup, 1) := by decide +kernel
theorem dX12_goOn_124 : decode cX12_goOn 124 = .ok (.getfield 184, 3) := by decide +kernel
theorem dX12_goOn_127 : decode cX12_goOn 127 = .ok (.lload 11, 2) := by decide +kernel
theorem dX12_goOn_129 : decode cX12_goOn 129 = .ok (.aload_n 0, 1) := by decide +kernel
theorem dX12_goOn_130 : decode cX12_goOn 130 = .ok (.getfield 175, 3) := by decide +kernel
theorem dX12_goOn_133 : decode cX12_goOn 133 = .ok (.i2l, 1) := by decide +kernel
theorem dX12_goOn_134 : decode cX12_goOn 134 = .ok (.lmul, 1) := by decide +kernel
theorem dX12_goOn_135 : decode cX12_goOn 135 = .ok (.ladd, 1) := by decide +kernel
theorem dX12_goOn_136 : decode cX12_goOn 136 = .ok (.putfield 184, 3) := by decide +kernel
theorem dX12_goOn_139 : decode cX12_goOn 139 = .ok (.aload_n 0, 1) := by decide +kernel
theorem dX12_goOn_140 : decode cX12_goOn 140 = .ok (.dup, 1) := by decide +kernel
theorem dX12_goOn_141 : decode cX12_goOn 141 = .ok (.getfield 187, 3) := by decide +kernel
theorem dX12_goOn_144 : decode cX12_goOn 144 = .ok (.lload 11, 2) := by decide +kernel
theorem dX12_goOn_146 : decode cX12_goOn 146 = .ok (.aload_n 0, 1) := by decide +kernel
theorem dX12_goOn_147 : decode cX12_goOn 147 = .ok (.getfield 166, 3) := by decide +kernel
theorem dX12_goOn_150 : decode cX12_goOn 150 = .ok (.i2l, 1) := by decide +kernel
theorem dX12_goOn_151 : decode cX12_goOn 151 = .ok (.lmul, 1) := by decide +kernel
theorem dX12_goOn_152 : decode cX12_goOn 152 = .ok (.ladd, 1) := by decide +kernel
theorem dX12_goOn_153 : decode cX12_goOn 153 = .ok (.putfield 187, 3) := by decide +kernel
theorem dX12_goOn_156 : decode cX12_goOn 156 = .ok (.aload_n 0, 1) := by decide +kernel
theorem dX12_goOn_157 : decode cX12_goOn 157 = .ok (.dup, 1) := by decide +kernel
theorem dX12_goOn_158 : decode cX12_goOn 158 = .ok (.getfield 190, 3) := by decide +kernel
theorem dX12_goOn_161 : decode cX12_goOn 161 = .ok (.lload 11, 2) := by decide +kernel
theorem dX12_goOn_163 : decode cX12_goOn 163 = .ok (.iload 9, 2) := by decide +kernel
theorem dX12_goOn_165 : decode cX12_goOn 165 = .ok (.i2l, 1) := by decide +kernel
theorem dX12_goOn_166 : decode cX12_goOn 166 = .ok (.lmul, 1) := by decide +kernel
theorem dX12_goOn_167 : decode cX12_goOn 167 = .ok (.ladd, 1) := by decide +kernel
theorem dX12_goOn_168 : decode cX12_goOn 168 = .ok (.putfield 190, 3) := by decide +kernel
theorem dX12_goOn_171 : decode cX12_goOn 171 = .ok (.aload_n 0, 1) := by decide +kernel
theorem dX12_goOn_172 : decode cX12_goOn 172 = .ok (.dup, 1) := by decide +kernel
theorem dX12_goOn_173 : decode cX12_goOn 173 = .ok (.getfield 193, 3) := by decide +kernel
theorem dX12_goOn_176 : decode cX12_goOn 176 = .ok (.aload_n 0, 1) := by decide +kernel
theorem dX12_goOn_177 : decode cX12_goOn 177 = .ok (.getfield 172, 3) := by decide +kernel
theorem dX12_goOn_180 : decode cX12_goOn 180 = .ok (.ifCond .le 8, 3) := by decide +kernel
theorem dX12_goOn_183 : decode cX12_goOn 183 = .ok (.lload 11, 2) := by decide +kernel
theorem dX12_goOn_185 : decode cX12_goOn 185 = .ok (.goto 4, 3) := by decide +kernel
theorem dX12_goOn_188 : decode cX12_goOn 188 = .ok (.lconst 0, 1) := by decide +kernel
theorem dX12_goOn_189 : decode cX12_goOn 189 = .ok (.ladd, 1) := by decide +kernel
theorem dX12_goOn_190 : decode cX12_goOn 190 = .ok (.putfield 193, 3) := by decide +kernel
theorem dX12_goOn_193 : decode cX12_goOn 193 = .ok (.aload_n 0, 1) := by decide +kernel
theorem dX12_goOn_194 : decode cX12_goOn 194 = .ok (.aload_n 0, 1) := by decide +kernel
theorem dX12_goOn_195 : decode cX12_goOn 195 = .ok (.getfield 172, 3) := by decide +kernel
theorem dX12_goOn_198 : decode cX12_goOn 198 = .ok (.aload_n 0, 1) := by decide +kernel
theorem dX12_goOn_199 : decode cX12_goOn 199 = .ok (.getfield 160, 3) := by decide +kernel
theorem dX12_goOn_202 : decode cX12_goOn 202 = .ok (.aload_n 0, 1) := by decide +kernel
theorem dX12_goOn_203 : decode cX12_goOn 203 = .ok (.getfield 163, 3) := by decide +kernel
theorem dX12_goOn_206 : decode cX12_goOn 206 = .ok (.invokestatic 199, 3) := by decide +kernel
theorem dX12_goOn_209 : decode cX12_goOn 209 = .ok (.lload 11, 2) := by decide +kernel
theorem dX12_goOn_211 : decode cX12_goOn 211 = .ok (.invokevirtual 217, 3) := by decide +kernel
theorem dX12_goOn_214 : decode cX12_goOn 214 = .ok (.iinc 9 1, 3) := by decide +kernel
theorem dX12_goOn_217 : decode cX12_goOn 217 = .ok (.goto (-159), 3) := by decide +kernel
theorem dX12_goOn_220 : decode cX12_goOn 220 = .ok (.return_, 1) := by decide +kernel
theorem dX12_isStart_0 : decode cX12_isStart 0 = .ok (.iload_n 1, 1) := by decide +kernel
theorem dX12_isStart_1 : decode cX12_isStart 1 = .ok (.aload_n 0, 1) := by decide +kernel
theorem dX12_isStart_2 : decode cX12_isStart 2 = .ok (.getfield 156, 3) := by decide +kernel
theorem dX12_isStart_5 : decode cX12_isStart 5 = .ok (.ifCond .eq 8, 3) := by decide +kernel
theorem dX12_isStart_8 : decode cX12_isStart 8 = .ok (.bipush (-12), 2) := by decide +kernel
theorem dX12_isStart_10 : decode cX12_isStart 10 = .ok (.goto 4, 3) := by decide +kernel
theorem dX12_isStart_13 : decode cX12_isStart 13 = .ok (.iconst 0, 1) := by decide +kernel
theorem dX12_isStart_14 : decode cX12_isStart 14 = .ok (.aload_n 0, 1) := by decide +kernel
theorem dX12_isStart_15 : decode cX12_isStart 15 = .ok (.getfield 83, 3) := by decide +kernel
theorem dX12_isStart_18 : decode cX12_isStart 18 = .ok (.invokestatic 108, 3) := by decide +kernel
theorem dX12_isStart_21 : decode cX12_isStart 21 = .ok (.ifCond .eq 17, 3) := by decide +kernel
theorem dX12_isStart_24 : decode cX12_isStart 24 = .ok (.iload_n 2, 1) := by decide +kernel
theorem dX12_isStart_25 : decode cX12_isStart 25 = .ok (.iconst 1, 1) := by decide +kernel
theorem dX12_isStart_26 : decode cX12_isStart 26 = .ok (.bipush 6, 2) := by decide +kernel
theorem dX12_isStart_28 : decode cX12_isStart 28 = .ok (.invokestatic 108, 3) := by decide +kernel
theorem dX12_isStart_31 : decode cX12_isStart 31 = .ok (.ifCond .eq 7, 3) := by decide +kernel
theorem dX12_isStart_34 : decode cX12_isStart 34 = .ok (.iconst 1, 1) := by decide +kernel
theorem dX12_isStart_35 : decode cX12_isStart 35 = .ok (.goto 4, 3) := by decide +kernel
theorem dX12_isStart_38 : decode cX12_isStart 38 = .ok (.iconst 0, 1) := by decide +kernel
theorem dX12_isStart_39 : decode cX12_isStart 39 = .ok (.ireturn, 1) := by decide +kernel
theorem dX12_needBook_0 : decode cX12_needBook 0 = .ok (.aload_n 0, 1) := by decide +kernel
theorem dX12_needBook_1 : decode cX12_needBook 1 = .ok (.getfield 13, 3) := by decide +kernel
theorem dX12_needBook_4 : decode cX12_needBook 4 = .ok (.iload_n 1, 1) := by decide +kernel
theorem dX12_needBook_5 : decode cX12_needBook 5 = .ok (.baload, 1) := by decide +kernel
theorem dX12_needBook_6 : decode cX12_needBook 6 = .ok (.ifCond .ne 11, 3) := by decide +kernel
theorem dX12_needBook_9 : decode cX12_needBook 9 = .ok (.aload_n 0, 1) := by decide +kernel
theorem dX12_needBook_10 : decode cX12_needBook 10 = .ok (.iconst 1, 1) := by decide +kernel
theorem dX12_needBook_11 : decode cX12_needBook 11 = .ok (.invokevirtual 123, 3) := by decide +kernel
theorem dX12_needBook_14 : decode cX12_needBook 14 = .ok (.goto 20, 3) := by decide +kernel
theorem dX12_needBook_17 : decode cX12_needBook 17 = .ok (.aload_n 0, 1) := by decide +kernel
theorem dX12_needBook_18 : decode cX12_needBook 18 = .ok (.iload_n 1, 1) := by decide +kernel
theorem dX12_needBook_19 : decode cX12_needBook 19 = .ok (.invokevirtual 129, 3) := by decide +kernel
theorem dX12_needBook_22 : decode cX12_needBook 22 = .ok (.ifCond .ne 11, 3) := by decide +kernel
theorem dX12_needBook_25 : decode cX12_needBook 25 = .ok (.aload_n 0, 1) := by decide +kernel
theorem dX12_needBook_26 : decode cX12_needBook 26 = .ok (.iconst 4, 1) := by decide +kernel
theorem dX12_needBook_27 : decode cX12_needBook 27 = .ok (.invokevirtual 123, 3) := by decide +kernel
theorem dX12_needBook_30 : decode cX12_needBook 30 = .ok (.goto 4, 3) := by decide +kernel
theorem dX12_needBook_33 : decode cX12_needBook 33 = .ok (.iconst 0, 1) := by decide +kernel
theorem dX12_needBook_34 : decode cX12_needBook 34 = .ok (.ireturn, 1) := by decide +kernel
theorem dX12_needBoth_0 : decode cX12_needBoth 0 = .ok (.iload_n 1, 1) := by decide +kernel
theorem dX12_needBoth_1 : decode cX12_needBoth 1 = .ok (.ifCond .eq 29, 3) := by decide +kernel
theorem dX12_needBoth_4 : decode cX12_needBoth 4 = .ok (.aload_n 0, 1) := by decide +kernel
theorem dX12_needBoth_5 : decode cX12_needBoth 5 = .ok (.iload_n 2, 1) := by decide +kernel
theorem dX12_needBoth_6 : decode cX12_needBoth 6 = .ok (.invokevirtual 139, 3) := by decide +kernel
theorem dX12_needBoth_9 : decode cX12_needBoth 9 = .ok (.ifCond .eq 21, 3) := by decide +kernel
theorem dX12_needBoth_12 : decode cX12_needBoth 12 = .ok (.iload_n 3, 1) := by decide +kernel
theorem dX12_needBoth_13 : decode cX12_needBoth 13 = .ok (.invokestatic 119, 3) := by decide +kernel
theorem dX12_needBoth_16 : decode cX12_needBoth 16 = .ok (.ifCond .eq 14, 3) := by decide +kernel
theorem dX12_needBoth_19 : decode cX12_needBoth 19 = .ok (.aload_n 0, 1) := by decide +kernel
theorem dX12_needBoth_20 : decode cX12_needBoth 20 = .ok (.iload 4, 2) := by decide +kernel
theorem dX12_needBoth_22 : decode cX12_needBoth 22 = .ok (.iload 5, 2) := by decide +kernel
theorem dX12_needBoth_24 : decode cX12_needBoth 24 = .ok (.invokevirtual 221, 3) := by decide +kernel
theorem dX12_needBoth_27 : decode cX12_needBoth 27 = .ok (.ifCond .ne 5, 3) := by decide +kernel
theorem dX12_needBoth_30 : decode cX12_needBoth 30 = .ok (.iconst (-1), 1) := by decide +kernel
theorem dX12_needBoth_31 : decode cX12_needBoth 31 = .ok (.ireturn, 1) := by decide +kernel
theorem dX12_needBoth_32 : decode cX12_needBoth 32 = .ok (.aload_n 0, 1) := by decide +kernel
theorem dX12_needBoth_33 : decode cX12_needBoth 33 = .ok (.getfield 48, 3) := by decide +kernel
theorem dX12_needBoth_36 : decode cX12_needBoth 36 = .ok (.iload_n 2, 1) := by decide +kernel
theorem dX12_needBoth_37 : decode cX12_needBoth 37 = .ok (.baload, 1) := by decide +kernel
theorem dX12_needBoth_38 : decode cX12_needBoth 38 = .ok (.ifCond .eq 11, 3) := by decide +kernel
theorem dX12_needBoth_41 : decode cX12_needBoth 41 = .ok (.aload_n 0, 1) := by decide +kernel
theorem dX12_needBoth_42 : decode cX12_needBoth 42 = .ok (.iconst 1, 1) := by decide +kernel
theorem dX12_needBoth_43 : decode cX12_needBoth 43 = .ok (.invokevirtual 123, 3) := by decide +kernel
theorem dX12_needBoth_46 : decode cX12_needBoth 46 = .ok (.goto 8, 3) := by decide +kernel
theorem dX12_needBoth_49 : decode cX12_needBoth 49 = .ok (.aload_n 0, 1) := by decide +kernel
theorem dX12_needBoth_50 : decode cX12_needBoth 50 = .ok (.iload_n 3, 1) := by decide +kernel
theorem dX12_needBoth_51 : decode cX12_needBoth 51 = .ok (.invokevirtual 225, 3) := by decide +kernel
theorem dX12_needBoth_54 : decode cX12_needBoth 54 = .ok (.ireturn, 1) := by decide +kernel
theorem dX12_cost_0 : decode cX12_cost 0 = .ok (.aload_n 0, 1) := by decide +kernel
theorem dX12_cost_1 : decode cX12_cost 1 = .ok (.iconst 1, 1) := by decide +kernel
theorem dX12_cost_2 : decode cX12_cost 2 = .ok (.iload_n 1, 1) := by decide +kernel
theorem dX12_cost_3 : decode cX12_cost 3 = .ok (.iload_n 2, 1) := by decide +kernel
theorem dX12_cost_4 : decode cX12_cost 4 = .ok (.iload_n 3, 1) := by decide +kernel
theorem dX12_cost_5 : decode cX12_cost 5 = .ok (.iload 4, 2) := by decide +kernel
theorem dX12_cost_7 : decode cX12_cost 7 = .ok (.invokevirtual 228, 3) := by decide +kernel
theorem dX12_cost_10 : decode cX12_cost 10 = .ok (.istore 5, 2) := by decide +kernel
theorem dX12_cost_12 : decode cX12_cost 12 = .ok (.iload 5, 2) := by decide +kernel
theorem dX12_cost_14 : decode cX12_cost 14 = .ok (.ifCond .ge 6, 3) := by decide +kernel
theorem dX12_cost_17 : decode cX12_cost 17 = .ok (.iload 5, 2) := by decide +kernel
theorem dX12_cost_19 : decode cX12_cost 19 = .ok (.ireturn, 1) := by decide +kernel
theorem dX12_cost_20 : decode cX12_cost 20 = .ok (.aload_n 0, 1) := by decide +kernel
theorem dX12_cost_21 : decode cX12_cost 21 = .ok (.iload_n 1, 1) := by decide +kernel
theorem dX12_cost_22 : decode cX12_cost 22 = .ok (.iload_n 2, 1) := by decide +kernel
theorem dX12_cost_23 : decode cX12_cost 23 = .ok (.iload_n 3, 1) := by decide +kernel
theorem dX12_cost_24 : decode cX12_cost 24 = .ok (.iload 4, 2) := by decide +kernel
theorem dX12_cost_26 : decode cX12_cost 26 = .ok (.iconst 0, 1) := by decide +kernel
theorem dX12_cost_27 : decode cX12_cost 27 = .ok (.invokevirtual 232, 3) := by decide +kernel
theorem dX12_cost_30 : decode cX12_cost 30 = .ok (.aload_n 0, 1) := by decide +kernel
theorem dX12_cost_31 : decode cX12_cost 31 = .ok (.aload_n 0, 1) := by decide +kernel
theorem dX12_cost_32 : decode cX12_cost 32 = .ok (.getfield 184, 3) := by decide +kernel
theorem dX12_cost_35 : decode cX12_cost 35 = .ok (.aload_n 0, 1) := by decide +kernel
theorem dX12_cost_36 : decode cX12_cost 36 = .ok (.getfield 196, 3) := by decide +kernel
theorem dX12_cost_39 : decode cX12_cost 39 = .ok (.iconst 1, 1) := by decide +kernel
theorem dX12_cost_40 : decode cX12_cost 40 = .ok (.invokevirtual 236, 3) := by decide +kernel
theorem dX12_cost_43 : decode cX12_cost 43 = .ok (.ireturn, 1) := by decide +kernel
theorem dX12_service_0 : decode cX12_service 0 = .ok (.aload_n 0, 1) := by decide +kernel
theorem dX12_service_1 : decode cX12_service 1 = .ok (.iload_n 1, 1) := by decide +kernel
theorem dX12_service_2 : decode cX12_service 2 = .ok (.iconst 0, 1) := by decide +kernel
theorem dX12_service_3 : decode cX12_service 3 = .ok (.iconst 2, 1) := by decide +kernel
theorem dX12_service_4 : decode cX12_service 4 = .ok (.invokestatic 108, 3) := by decide +kernel
theorem dX12_service_7 : decode cX12_service 7 = .ok (.iload_n 2, 1) := by decide +kernel
theorem dX12_service_8 : decode cX12_service 8 = .ok (.iload_n 3, 1) := by decide +kernel
theorem dX12_service_9 : decode cX12_service 9 = .ok (.iload 4, 2) := by decide +kernel
theorem dX12_service_11 : decode cX12_service 11 = .ok (.iload 5, 2) := by decide +kernel
theorem dX12_service_13 : decode cX12_service 13 = .ok (.invokevirtual 228, 3) := by decide +kernel
theorem dX12_service_16 : decode cX12_service 16 = .ok (.istore 6, 2) := by decide +kernel
theorem dX12_service_18 : decode cX12_service 18 = .ok (.iload 6, 2) := by decide +kernel
theorem dX12_service_20 : decode cX12_service 20 = .ok (.ifCond .ge 6, 3) := by decide +kernel
theorem dX12_service_23 : decode cX12_service 23 = .ok (.iload 6, 2) := by decide +kernel
theorem dX12_service_25 : decode cX12_service 25 = .ok (.ireturn, 1) := by decide +kernel
theorem dX12_service_26 : decode cX12_service 26 = .ok (.aload_n 0, 1) := by decide +kernel
theorem dX12_service_27 : decode cX12_service 27 = .ok (.iload_n 2, 1) := by decide +kernel
theorem dX12_service_28 : decode cX12_service 28 = .ok (.iload_n 3, 1) := by decide +kernel
theorem dX12_service_29 : decode cX12_service 29 = .ok (.iload 4, 2) := by decide +kernel
theorem dX12_service_31 : decode cX12_service 31 = .ok (.iload 5, 2) := by decide +kernel
theorem dX12_service_33 : decode cX12_service 33 = .ok (.iload_n 1, 1) := by decide +kernel
theorem dX12_service_34 : decode cX12_service 34 = .ok (.ifCond .ne 7, 3) := by decide +kernel
theorem dX12_service_37 : decode cX12_service 37 = .ok (.iconst 1, 1) := by decide +kernel
theorem dX12_service_38 : decode cX12_service 38 = .ok (.goto 4, 3) := by decide +kernel
theorem dX12_service_41 : decode cX12_service 41 = .ok (.iconst 0, 1) := by decide +kernel
theorem dX12_service_42 : decode cX12_service 42 = .ok (.invokevirtual 232, 3) := by decide +kernel
theorem dX12_service_45 : decode cX12_service 45 = .ok (.iload_n 1, 1) := by decide +kernel
theorem dX12_service_46 : decode cX12_service 46 = .ok (.ifCond .ne 17, 3) := by decide +kernel
theorem dX12_service_49 : decode cX12_service 49 = .ok (.aload_n 0, 1) := by decide +kernel
theorem dX12_service_50 : decode cX12_service 50 = .ok (.aload_n 0, 1) := by decide +kernel
theorem dX12_service_51 : decode cX12_service 51 = .ok (.getfield 210, 3) := by decide +kernel
theorem dX12_service_54 : decode cX12_service 54 = .ok (.aload_n 0, 1) := by decide +kernel
theorem dX12_service_55 : decode cX12_service 55 = .ok (.getfield 196, 3) := by decide +kernel
theorem dX12_service_58 : decode cX12_service 58 = .ok (.iconst 1, 1) := by decide +kernel
theorem dX12_service_59 : decode cX12_service 59 = .ok (.invokevirtual 236, 3) := by decide +kernel
theorem dX12_service_62 : decode cX12_service 62 = .ok (.ireturn, 1) := by decide +kernel
theorem dX12_service_63 : decode cX12_service 63 = .ok (.iload_n 1, 1) := by decide +kernel
theorem dX12_service_64 : decode cX12_service 64 = .ok (.iconst 1, 1) := by decide +kernel
theorem dX12_service_65 : decode cX12_service 65 = .ok (.if_icmp .ne 36, 3) := by decide +kernel
theorem dX12_service_68 : decode cX12_service 68 = .ok (.aload_n 0, 1) := by decide +kernel
theorem dX12_service_69 : decode cX12_service 69 = .ok (.getfield 190, 3) := by decide +kernel
theorem dX12_service_72 : decode cX12_service 72 = .ok (.lconst 0, 1) := by decide +kernel
theorem dX12_service_73 : decode cX12_service 73 = .ok (.lcmp, 1) := by decide +kernel
theorem dX12_service_74 : decode cX12_service 74 = .ok (.ifCond .ne 13, 3) := by decide +kernel
theorem dX12_service_77 : decode cX12_service 77 = .ok (.aload_n 0, 1) := by decide +kernel
theorem dX12_service_78 : decode cX12_service 78 = .ok (.lconst 0, 1) := by decide +kernel
theorem dX12_service_79 : decode cX12_service 79 = .ok (.lconst 1, 1) := by decide +kernel
theorem dX12_service_80 : decode cX12_service 80 = .ok (.iconst 1, 1) := by decide +kernel
theorem dX12_service_81 : decode cX12_service 81 = .ok (.invokevirtual 236, 3) := by decide +kernel
theorem dX12_service_84 : decode cX12_service 84 = .ok (.goto 16, 3) := by decide +kernel
theorem dX12_service_87 : decode cX12_service 87 = .ok (.aload_n 0, 1) := by decide +kernel
theorem dX12_service_88 : decode cX12_service 88 = .ok (.aload_n 0, 1) := by decide +kernel
theorem dX12_service_89 : decode cX12_service 89 = .ok (.getfield 187, 3) := by decide +kernel
theorem dX12_service_92 : decode cX12_service 92 = .ok (.aload_n 0, 1) := by decide +kernel
theorem dX12_service_93 : decode cX12_service 93 = .ok (.getfield 190, 3) := by decide +kernel
theorem dX12_service_96 : decode cX12_service 96 = .ok (.iconst 1, 1) := by decide +kernel
theorem dX12_service_97 : decode cX12_service 97 = .ok (.invokevirtual 236, 3) := by decide +kernel
theorem dX12_service_100 : decode cX12_service 100 = .ok (.ireturn, 1) := by decide +kernel
theorem dX12_service_101 : decode cX12_service 101 = .ok (.aload_n 0, 1) := by decide +kernel
theorem dX12_service_102 : decode cX12_service 102 = .ok (.aload_n 0, 1) := by decide +kernel
theorem dX12_service_103 : decode cX12_service 103 = .ok (.getfield 193, 3) := by decide +kernel
theorem dX12_service_106 : decode cX12_service 106 = .ok (.aload_n 0, 1) := by decide +kernel
theorem dX12_service_107 : decode cX12_service 107 = .ok (.getfield 196, 3) := by decide +kernel
theorem dX12_service_110 : decode cX12_service 110 = .ok (.iload 5, 2) := by decide +kernel
theorem dX12_service_112 : decode cX12_service 112 = .ok (.i2l, 1) := by decide +kernel
theorem dX12_service_113 : decode cX12_service 113 = .ok (.lmul, 1) := by decide +kernel
theorem dX12_service_114 : decode cX12_service 114 = .ok (.iconst 1, 1) := by decide +kernel
theorem dX12_service_115 : decode cX12_service 115 = .ok (.invokevirtual 236, 3) := by decide +kernel
theorem dX12_service_118 : decode cX12_service 118 = .ok (.ireturn, 1) := by decide +kernel
theorem dX12_leastFrom_0 : decode cX12_leastFrom 0 = .ok (.ldc2_w 240, 3) := by decide +kernel
theorem dX12_leastFrom_3 : decode cX12_leastFrom 3 = .ok (.lstore 7, 2) := by decide +kernel
theorem dX12_leastFrom_5 : decode cX12_leastFrom 5 = .ok (.iconst 0, 1) := by decide +kernel
theorem dX12_leastFrom_6 : decode cX12_leastFrom 6 = .ok (.istore 9, 2) := by decide +kernel
theorem dX12_leastFrom_8 : decode cX12_leastFrom 8 = .ok (.iload 9, 2) := by decide +kernel
theorem dX12_leastFrom_10 : decode cX12_leastFrom 10 = .ok (.bipush 12, 2) := by decide +kernel
theorem dX12_leastFrom_12 : decode cX12_leastFrom 12 = .ok (.if_icmp .gt 122, 3) := by decide +kernel
theorem dX12_leastFrom_15 : decode cX12_leastFrom 15 = .ok (.lconst 0, 1) := by decide +kernel
theorem dX12_leastFrom_16 : decode cX12_leastFrom 16 = .ok (.lstore 10, 2) := by decide +kernel
theorem dX12_leastFrom_18 : decode cX12_leastFrom 18 = .ok (.iconst 0, 1) := by decide +kernel
theorem dX12_leastFrom_19 : decode cX12_leastFrom 19 = .ok (.istore 12, 2) := by decide +kernel
theorem dX12_leastFrom_21 : decode cX12_leastFrom 21 = .ok (.iload 12, 2) := by decide +kernel
theorem dX12_leastFrom_23 : decode cX12_leastFrom 23 = .ok (.bipush 7, 2) := by decide +kernel
theorem dX12_leastFrom_25 : decode cX12_leastFrom 25 = .ok (.if_icmp .ge 78, 3) := by decide +kernel
theorem dX12_leastFrom_28 : decode cX12_leastFrom 28 = .ok (.aload_n 0, 1) := by decide +kernel
theorem dX12_leastFrom_29 : decode cX12_leastFrom 29 = .ok (.getfield 17, 3) := by decide +kernel
theorem dX12_leastFrom_32 : decode cX12_leastFrom 32 = .ok (.bipush 7, 2) := by decide +kernel
theorem dX12_leastFrom_34 : decode cX12_leastFrom 34 = .ok (.iload_n 1, 1) := by decide +kernel
theorem dX12_leastFrom_35 : decode cX12_leastFrom 35 = .ok (.imul, 1) := by decide +kernel
theorem dX12_leastFrom_36 : decode cX12_leastFrom 36 = .ok (.iload 12, 2) := by decide +kernel
theorem dX12_leastFrom_38 : decode cX12_leastFrom 38 = .ok (.iadd, 1) := by decide +kernel
theorem dX12_leastFrom_39 : decode cX12_leastFrom 39 = .ok (.iaload, 1) := by decide +kernel
theorem dX12_leastFrom_40 : decode cX12_leastFrom 40 = .ok (.istore 13, 2) := by decide +kernel
theorem dX12_leastFrom_42 : decode cX12_leastFrom 42 = .ok (.iload 13, 2) := by decide +kernel
theorem dX12_leastFrom_44 : decode cX12_leastFrom 44 = .ok (.ifCond .le 53, 3) := by decide +kernel
theorem dX12_leastFrom_47 : decode cX12_leastFrom 47 = .ok (.aload_n 0, 1) := by decide +kernel
theorem dX12_leastFrom_48 : decode cX12_leastFrom 48 = .ok (.iload_n 2, 1) := by decide +kernel
theorem dX12_leastFrom_49 : decode cX12_leastFrom 49 = .ok (.iload_n 3, 1) := by decide +kernel
theorem dX12_leastFrom_50 : decode cX12_leastFrom 50 = .ok (.iload 4, 2) := by decide +kernel
theorem dX12_leastFrom_52 : decode cX12_leastFrom 52 = .ok (.iload 9, 2) := by decide +kernel
theorem dX12_leastFrom_54 : decode cX12_leastFrom 54 = .ok (.iload 12, 2) := by decide +kernel
theorem dX12_leastFrom_56 : decode cX12_leastFrom 56 = .ok (.invokevirtual 213, 3) := by decide +kernel
theorem dX12_leastFrom_59 : decode cX12_leastFrom 59 = .ok (.lload 10, 2) := by decide +kernel
theorem dX12_leastFrom_61 : decode cX12_leastFrom 61 = .ok (.iload 13, 2) := by decide +kernel
theorem dX12_leastFrom_63 : decode cX12_leastFrom 63 = .ok (.i2l, 1) := by decide +kernel
theorem dX12_leastFrom_64 : decode cX12_leastFrom 64 = .ok (.aload_n 0, 1) := by decide +kernel
theorem dX12_leastFrom_65 : decode cX12_leastFrom 65 = .ok (.getfield 175, 3) := by decide +kernel
theorem dX12_leastFrom_68 : decode cX12_leastFrom 68 = .ok (.i2l, 1) := by decide +kernel
theorem dX12_leastFrom_69 : decode cX12_leastFrom 69 = .ok (.lload 5, 2) := by decide +kernel
theorem dX12_leastFrom_71 : decode cX12_leastFrom 71 = .ok (.lmul, 1) := by decide +kernel
theorem dX12_leastFrom_72 : decode cX12_leastFrom 72 = .ok (.aload_n 0, 1) := by decide +kernel
theorem dX12_leastFrom_73 : decode cX12_leastFrom 73 = .ok (.getfield 70, 3) := by decide +kernel
theorem dX12_leastFrom_76 : decode cX12_leastFrom 76 = .ok (.aload_n 0, 1) := by decide +kernel
theorem dX12_leastFrom_77 : decode cX12_leastFrom 77 = .ok (.getfield 172, 3) := by decide +kernel
theorem dX12_leastFrom_80 : decode cX12_leastFrom 80 = .ok (.aload_n 0, 1) := by decide +kernel
theorem dX12_leastFrom_81 : decode cX12_leastFrom 81 = .ok (.getfield 160, 3) := by decide +kernel
theorem dX12_leastFrom_84 : decode cX12_leastFrom 84 = .ok (.aload_n 0, 1) := by decide +kernel
theorem dX12_leastFrom_85 : decode cX12_leastFrom 85 = .ok (.getfield 163, 3) := by decide +kernel
theorem dX12_leastFrom_88 : decode cX12_leastFrom 88 = .ok (.invokestatic 199, 3) := by decide +kernel
theorem dX12_leastFrom_91 : decode cX12_leastFrom 91 = .ok (.laload, 1) := by decide +kernel
theorem dX12_leastFrom_92 : decode cX12_leastFrom 92 = .ok (.ladd, 1) := by decide +kernel
theorem dX12_leastFrom_93 : decode cX12_leastFrom 93 = .ok (.lmul, 1) := by decide +kernel
theorem dX12_leastFrom_94 : decode cX12_leastFrom 94 = .ok (.ladd, 1) := by decide +kernel
theorem dX12_leastFrom_95 : decode cX12_leastFrom 95 = .ok (.lstore 10, 2) := by decide +kernel
theorem dX12_leastFrom_97 : decode cX12_leastFrom 97 = .ok (.iinc 12 1, 3) := by decide +kernel
theorem dX12_leastFrom_100 : decode cX12_leastFrom 100 = .ok (.goto (-79), 3) := by decide +kernel
theorem dX12_leastFrom_103 : decode cX12_leastFrom 103 = .ok (.lload 7, 2) := by decide +kernel
theorem dX12_leastFrom_105 : decode cX12_leastFrom 105 = .ok (.lconst 0, 1) := by decide +kernel
theorem dX12_leastFrom_106 : decode cX12_leastFrom 106 = .ok (.lcmp, 1) := by decide +kernel
theorem dX12_leastFrom_107 : decode cX12_leastFrom 107 = .ok (.ifCond .lt 11, 3) := by decide +kernel
theorem dX12_leastFrom_110 : decode cX12_leastFrom 110 = .ok (.lload 10, 2) := by decide +kernel
theorem dX12_leastFrom_112 : decode cX12_leastFrom 112 = .ok (.lload 7, 2) := by decide +kernel
theorem dX12_leastFrom_114 : decode cX12_leastFrom 114 = .ok (.lcmp, 1) := by decide +kernel
theorem dX12_leastFrom_115 : decode cX12_leastFrom 115 = .ok (.ifCond .ge 13, 3) := by decide +kernel
theorem dX12_leastFrom_118 : decode cX12_leastFrom 118 = .ok (.lload 10, 2) := by decide +kernel
theorem dX12_leastFrom_120 : decode cX12_leastFrom 120 = .ok (.lstore 7, 2) := by decide +kernel
theorem dX12_leastFrom_122 : decode cX12_leastFrom 122 = .ok (.aload_n 0, 1) := by decide +kernel
theorem dX12_leastFrom_123 : decode cX12_leastFrom 123 = .ok (.iload 9, 2) := by decide +kernel
theorem dX12_leastFrom_125 : decode cX12_leastFrom 125 = .ok (.putfield 242, 3) := by decide +kernel
theorem dX12_leastFrom_128 : decode cX12_leastFrom 128 = .ok (.iinc 9 1, 3) := by decide +kernel
theorem dX12_leastFrom_131 : decode cX12_leastFrom 131 = .ok (.goto (-123), 3) := by decide +kernel
theorem dX12_leastFrom_134 : decode cX12_leastFrom 134 = .ok (.lload 7, 2) := by decide +kernel
theorem dX12_leastFrom_136 : decode cX12_leastFrom 136 = .ok (.lreturn, 1) := by decide +kernel
theorem dX12_best_0 : decode cX12_best 0 = .ok (.iload_n 1, 1) := by decide +kernel
theorem dX12_best_1 : decode cX12_best 1 = .ok (.invokestatic 119, 3) := by decide +kernel
theorem dX12_best_4 : decode cX12_best 4 = .ok (.ifCond .eq 12, 3) := by decide +kernel
theorem dX12_best_7 : decode cX12_best 7 = .ok (.aload_n 0, 1) := by decide +kernel
theorem dX12_best_8 : decode cX12_best 8 = .ok (.iload_n 2, 1) := by decide +kernel
theorem dX12_best_9 : decode cX12_best 9 = .ok (.iload_n 3, 1) := by decide +kernel
theorem dX12_best_10 : decode cX12_best 10 = .ok (.invokevirtual 221, 3) := by decide +kernel
theorem dX12_best_13 : decode cX12_best 13 = .ok (.ifCond .ne 5, 3) := by decide +kernel
theorem dX12_best_16 : decode cX12_best 16 = .ok (.iconst (-1), 1) := by decide +kernel
theorem dX12_best_17 : decode cX12_best 17 = .ok (.ireturn, 1) := by decide +kernel
theorem dX12_best_18 : decode cX12_best 18 = .ok (.aload_n 0, 1) := by decide +kernel
theorem dX12_best_19 : decode cX12_best 19 = .ok (.iload_n 1, 1) := by decide +kernel
theorem dX12_best_20 : decode cX12_best 20 = .ok (.invokevirtual 225, 3) := by decide +kernel
theorem dX12_best_23 : decode cX12_best 23 = .ok (.istore 4, 2) := by decide +kernel
theorem dX12_best_25 : decode cX12_best 25 = .ok (.iload 4, 2) := by decide +kernel
theorem dX12_best_27 : decode cX12_best 27 = .ok (.ifCond .ge 6, 3) := by decide +kernel
theorem dX12_best_30 : decode cX12_best 30 = .ok (.iload 4, 2) := by decide +kernel
theorem dX12_best_32 : decode cX12_best 32 = .ok (.ireturn, 1) := by decide +kernel
theorem dX12_best_33 : decode cX12_best 33 = .ok (.aload_n 0, 1) := by decide +kernel
theorem dX12_best_34 : decode cX12_best 34 = .ok (.iload_n 1, 1) := by decide +kernel
theorem dX12_best_35 : decode cX12_best 35 = .ok (.invokevirtual 129, 3) := by decide +kernel
theorem dX12_best_38 : decode cX12_best 38 = .ok (.i2l, 1) := by decide +kernel
theorem dX12_best_39 : decode cX12_best 39 = .ok (.lstore 5, 2) := by decide +kernel
theorem dX12_best_41 : decode cX12_best 41 = .ok (.lconst 1, 1) := by decide +kernel
theorem dX12_best_42 : decode cX12_best 42 = .ok (.lstore 7, 2) := by decide +kernel
theorem dX12_best_44 : decode cX12_best 44 = .ok (.iconst 0, 1) := by decide +kernel
theorem dX12_best_45 : decode cX12_best 45 = .ok (.istore 9, 2) := by decide +kernel
theorem dX12_best_47 : decode cX12_best 47 = .ok (.iload 9, 2) := by decide +kernel
theorem dX12_best_49 : decode cX12_best 49 = .ok (.sipush 17000, 3) := by decide +kernel
theorem dX12_best_52 : decode cX12_best 52 = .ok (.if_icmp .ge 17, 3) := by decide +kernel
theorem dX12_best_55 : decode cX12_best 55 = .ok (.aload_n 0, 1) := by decide +kernel
theorem dX12_best_56 : decode cX12_best 56 = .ok (.getfield 70, 3) := by decide +kernel
theorem dX12_best_59 : decode cX12_best 59 = .ok (.iload 9, 2) := by decide +kernel
theorem dX12_best_61 : decode cX12_best 61 = .ok (.lconst 0, 1) := by decide +kernel
theorem dX12_best_62 : decode cX12_best 62 = .ok (.lastore, 1) := by decide +kernel
theorem dX12_best_63 : decode cX12_best 63 = .ok (.iinc 9 1, 3) := by decide +kernel
theorem dX12_best_66 : decode cX12_best 66 = .ok (.goto (-19), 3) := by decide +kernel
theorem dX12_best_69 : decode cX12_best 69 = .ok (.iconst 1, 1) := by decide +kernel
theorem dX12_best_70 : decode cX12_best 70 = .ok (.istore 9, 2) := by decide +kernel
theorem dX12_best_72 : decode cX12_best 72 = .ok (.iload 9, 2) := by decide +kernel
theorem dX12_best_74 : decode cX12_best 74 = .ok (.iload_n 3, 1) := by decide +kernel
theorem dX12_best_75 : decode cX12_best 75 = .ok (.if_icmp .ge 159, 3) := by decide +kernel
theorem dX12_best_78 : decode cX12_best 78 = .ok (.aload_n 0, 1) := by decide +kernel
theorem dX12_best_79 : decode cX12_best 79 = .ok (.getfield 156, 3) := by decide +kernel
theorem dX12_best_82 : decode cX12_best 82 = .ok (.ifCond .eq 8, 3) := by decide +kernel
theorem dX12_best_85 : decode cX12_best 85 = .ok (.bipush (-12), 2) := by decide +kernel
theorem dX12_best_87 : decode cX12_best 87 = .ok (.goto 4, 3) := by decide +kernel
theorem dX12_best_90 : decode cX12_best 90 = .ok (.iconst 0, 1) := by decide +kernel
theorem dX12_best_91 : decode cX12_best 91 = .ok (.istore 10, 2) := by decide +kernel
theorem dX12_best_93 : decode cX12_best 93 = .ok (.iload 10, 2) := by decide +kernel
theorem dX12_best_95 : decode cX12_best 95 = .ok (.aload_n 0, 1) := by decide +kernel
theorem dX12_best_96 : decode cX12_best 96 = .ok (.getfield 83, 3) := by decide +kernel
theorem dX12_best_99 : decode cX12_best 99 = .ok (.if_icmp .gt 91, 3) := by decide +kernel
theorem dX12_best_102 : decode cX12_best 102 = .ok (.iconst 0, 1) := by decide +kernel
theorem dX12_best_103 : decode cX12_best 103 = .ok (.istore 11, 2) := by decide +kernel
theorem dX12_best_105 : decode cX12_best 105 = .ok (.iload 11, 2) := by decide +kernel
theorem dX12_best_107 : decode cX12_best 107 = .ok (.aload_n 0, 1) := by decide +kernel
theorem dX12_best_108 : decode cX12_best 108 = .ok (.getfield 153, 3) := by decide +kernel
theorem dX12_best_111 : decode cX12_best 111 = .ok (.ifCond .le 8, 3) := by decide +kernel
theorem dX12_best_114 : decode cX12_best 114 = .ok (.bipush 12, 2) := by decide +kernel
theorem dX12_best_116 : decode cX12_best 116 = .ok (.goto 4, 3) := by decide +kernel
theorem dX12_best_119 : decode cX12_best 119 = .ok (.iconst 0, 1) := by decide +kernel
theorem dX12_best_120 : decode cX12_best 120 = .ok (.if_icmp .gt 64, 3) := by decide +kernel
theorem dX12_best_123 : decode cX12_best 123 = .ok (.iconst 0, 1) := by decide +kernel
theorem dX12_best_124 : decode cX12_best 124 = .ok (.istore 12, 2) := by decide +kernel
theorem dX12_best_126 : decode cX12_best 126 = .ok (.iload 12, 2) := by decide +kernel
theorem dX12_best_128 : decode cX12_best 128 = .ok (.aload_n 0, 1) := by decide +kernel
theorem dX12_best_129 : decode cX12_best 129 = .ok (.getfield 153, 3) := by decide +kernel
theorem dX12_best_132 : decode cX12_best 132 = .ok (.iconst 1, 1) := by decide +kernel
theorem dX12_best_133 : decode cX12_best 133 = .ok (.if_icmp .le 8, 3) := by decide +kernel
theorem dX12_best_136 : decode cX12_best 136 = .ok (.bipush 12, 2) := by decide +kernel
theorem dX12_best_138 : decode cX12_best 138 = .ok (.goto 4, 3) := by decide +kernel
theorem dX12_best_141 : decode cX12_best 141 = .ok (.iconst 0, 1) := by decide +kernel
theorem dX12_best_142 : decode cX12_best 142 = .ok (.if_icmp .gt 36, 3) := by decide +kernel
theorem dX12_best_145 : decode cX12_best 145 = .ok (.aload_n 0, 1) := by decide +kernel
theorem dX12_best_146 : decode cX12_best 146 = .ok (.getfield 73, 3) := by decide +kernel
theorem dX12_best_149 : decode cX12_best 149 = .ok (.iload 10, 2) := by decide +kernel
theorem dX12_best_151 : decode cX12_best 151 = .ok (.iload 11, 2) := by decide +kernel
theorem dX12_best_153 : decode cX12_best 153 = .ok (.iload 12, 2) := by decide +kernel
theorem dX12_best_155 : decode cX12_best 155 = .ok (.invokestatic 199, 3) := by decide +kernel
theorem dX12_best_158 : decode cX12_best 158 = .ok (.aload_n 0, 1) := by decide +kernel
theorem dX12_best_159 : decode cX12_best 159 = .ok (.iload_n 1, 1) := by decide +kernel
theorem dX12_best_160 : decode cX12_best 160 = .ok (.iload 10, 2) := by decide +kernel
theorem dX12_best_162 : decode cX12_best 162 = .ok (.iload 11, 2) := by decide +kernel
theorem dX12_best_164 : decode cX12_best 164 = .ok (.iload 12, 2) := by decide +kernel
theorem dX12_best_166 : decode cX12_best 166 = .ok (.lload 7, 2) := by decide +kernel
theorem dX12_best_168 : decode cX12_best 168 = .ok (.invokevirtual 245, 3) := by decide +kernel
theorem dX12_best_171 : decode cX12_best 171 = .ok (.lastore, 1) := by decide +kernel
theorem dX12_best_172 : decode cX12_best 172 = .ok (.iinc 12 1, 3) := by decide +kernel
theorem dX12_best_175 : decode cX12_best 175 = .ok (.goto (-49), 3) := by decide +kernel
theorem dX12_best_178 : decode cX12_best 178 = .ok (.iinc 11 1, 3) := by decide +kernel
theorem dX12_best_181 : decode cX12_best 181 = .ok (.goto (-76), 3) := by decide +kernel
theorem dX12_best_184 : decode cX12_best 184 = .ok (.iinc 10 1, 3) := by decide +kernel
theorem dX12_best_187 : decode cX12_best 187 = .ok (.goto (-94), 3) := by decide +kernel
theorem dX12_best_190 : decode cX12_best 190 = .ok (.iconst 0, 1) := by decide +kernel
theorem dX12_best_191 : decode cX12_best 191 = .ok (.istore 10, 2) := by decide +kernel
theorem dX12_best_193 : decode cX12_best 193 = .ok (.iload 10, 2) := by decide +kernel
theorem dX12_best_195 : decode cX12_best 195 = .ok (.sipush 17000, 3) := by decide +kernel
theorem dX12_best_198 : decode cX12_best 198 = .ok (.if_icmp .ge 23, 3) := by decide +kernel
theorem dX12_best_201 : decode cX12_best 201 = .ok (.aload_n 0, 1) := by decide +kernel
theorem dX12_best_202 : decode cX12_best 202 = .ok (.getfield 70, 3) := by decide +kernel
theorem dX12_best_205 : decode cX12_best 205 = .ok (.iload 10, 2) := by decide +kernel
theorem dX12_best_207 : decode cX12_best 207 = .ok (.aload_n 0, 1) := by decide +kernel
theorem dX12_best_208 : decode cX12_best 208 = .ok (.getfield 73, 3) := by decide +kernel
theorem dX12_best_211 : decode cX12_best 211 = .ok (.iload 10, 2) := by decide +kernel
theorem dX12_best_213 : decode cX12_best 213 = .ok (.laload, 1) := by decide +kernel
theorem dX12_best_214 : decode cX12_best 214 = .ok (.lastore, 1) := by decide +kernel
theorem dX12_best_215 : decode cX12_best 215 = .ok (.iinc 10 1, 3) := by decide +kernel
theorem dX12_best_218 : decode cX12_best 218 = .ok (.goto (-25), 3) := by decide +kernel
theorem dX12_best_221 : decode cX12_best 221 = .ok (.lload 7, 2) := by decide +kernel
theorem dX12_best_223 : decode cX12_best 223 = .ok (.lload 5, 2) := by decide +kernel
theorem dX12_best_225 : decode cX12_best 225 = .ok (.lmul, 1) := by decide +kernel
theorem dX12_best_226 : decode cX12_best 226 = .ok (.lstore 7, 2) := by decide +kernel
theorem dX12_best_228 : decode cX12_best 228 = .ok (.iinc 9 1, 3) := by decide +kernel
theorem dX12_best_231 : decode cX12_best 231 = .ok (.goto (-159), 3) := by decide +kernel
theorem dX12_best_234 : decode cX12_best 234 = .ok (.aload_n 0, 1) := by decide +kernel
theorem dX12_best_235 : decode cX12_best 235 = .ok (.iload_n 1, 1) := by decide +kernel
theorem dX12_best_236 : decode cX12_best 236 = .ok (.iload_n 2, 1) := by decide +kernel
theorem dX12_best_237 : decode cX12_best 237 = .ok (.iconst 0, 1) := by decide +kernel
theorem dX12_best_238 : decode cX12_best 238 = .ok (.iconst 0, 1) := by decide +kernel
theorem dX12_best_239 : decode cX12_best 239 = .ok (.lload 7, 2) := by decide +kernel
theorem dX12_best_241 : decode cX12_best 241 = .ok (.invokevirtual 245, 3) := by decide +kernel
theorem dX12_best_244 : decode cX12_best 244 = .ok (.lstore 9, 2) := by decide +kernel
theorem dX12_best_246 : decode cX12_best 246 = .ok (.aload_n 0, 1) := by decide +kernel
theorem dX12_best_247 : decode cX12_best 247 = .ok (.lload 9, 2) := by decide +kernel
theorem dX12_best_249 : decode cX12_best 249 = .ok (.lload 7, 2) := by decide +kernel
theorem dX12_best_251 : decode cX12_best 251 = .ok (.lload 5, 2) := by decide +kernel
theorem dX12_best_253 : decode cX12_best 253 = .ok (.lmul, 1) := by decide +kernel
theorem dX12_best_254 : decode cX12_best 254 = .ok (.aload_n 0, 1) := by decide +kernel
theorem dX12_best_255 : decode cX12_best 255 = .ok (.getfield 242, 3) := by decide +kernel
theorem dX12_best_258 : decode cX12_best 258 = .ok (.invokevirtual 236, 3) := by decide +kernel
theorem dX12_best_261 : decode cX12_best 261 = .ok (.ireturn, 1) := by decide +kernel
theorem dX12_bestPair_0 : decode cX12_bestPair 0 = .ok (.iload_n 1, 1) := by decide +kernel
theorem dX12_bestPair_1 : decode cX12_bestPair 1 = .ok (.invokestatic 119, 3) := by decide +kernel
theorem dX12_bestPair_4 : decode cX12_bestPair 4 = .ok (.ifCond .eq 12, 3) := by decide +kernel
theorem dX12_bestPair_7 : decode cX12_bestPair 7 = .ok (.aload_n 0, 1) := by decide +kernel
theorem dX12_bestPair_8 : decode cX12_bestPair 8 = .ok (.iload_n 2, 1) := by decide +kernel
theorem dX12_bestPair_9 : decode cX12_bestPair 9 = .ok (.iload_n 3, 1) := by decide +kernel
theorem dX12_bestPair_10 : decode cX12_bestPair 10 = .ok (.invokevirtual 221, 3) := by decide +kernel
theorem dX12_bestPair_13 : decode cX12_bestPair 13 = .ok (.ifCond .ne 5, 3) := by decide +kernel
theorem dX12_bestPair_16 : decode cX12_bestPair 16 = .ok (.iconst (-1), 1) := by decide +kernel
theorem dX12_bestPair_17 : decode cX12_bestPair 17 = .ok (.ireturn, 1) := by decide +kernel
theorem dX12_bestPair_18 : decode cX12_bestPair 18 = .ok (.aload_n 0, 1) := by decide +kernel
theorem dX12_bestPair_19 : decode cX12_bestPair 19 = .ok (.iload_n 1, 1) := by decide +kernel
theorem dX12_bestPair_20 : decode cX12_bestPair 20 = .ok (.invokevirtual 225, 3) := by decide +kernel
theorem dX12_bestPair_23 : decode cX12_bestPair 23 = .ok (.istore 4, 2) := by decide +kernel
theorem dX12_bestPair_25 : decode cX12_bestPair 25 = .ok (.iload 4, 2) := by decide +kernel
theorem dX12_bestPair_27 : decode cX12_bestPair 27 = .ok (.ifCond .ge 6, 3) := by decide +kernel
theorem dX12_bestPair_30 : decode cX12_bestPair 30 = .ok (.iload 4, 2) := by decide +kernel
theorem dX12_bestPair_32 : decode cX12_bestPair 32 = .ok (.ireturn, 1) := by decide +kernel
theorem dX12_bestPair_33 : decode cX12_bestPair 33 = .ok (.ldc2_w 240, 3) := by decide +kernel
theorem dX12_bestPair_36 : decode cX12_bestPair 36 = .ok (.lstore 5, 2) := by decide +kernel
theorem dX12_bestPair_38 : decode cX12_bestPair 38 = .ok (.bipush (-9), 2) := by decide +kernel
theorem dX12_bestPair_40 : decode cX12_bestPair 40 = .ok (.istore 7, 2) := by decide +kernel
theorem dX12_bestPair_42 : decode cX12_bestPair 42 = .ok (.bipush (-9), 2) := by decide +kernel
theorem dX12_bestPair_44 : decode cX12_bestPair 44 = .ok (.istore 8, 2) := by decide +kernel
theorem dX12_bestPair_46 : decode cX12_bestPair 46 = .ok (.iconst 0, 1) := by decide +kernel
theorem dX12_bestPair_47 : decode cX12_bestPair 47 = .ok (.istore 9, 2) := by decide +kernel
theorem dX12_bestPair_49 : decode cX12_bestPair 49 = .ok (.iload 9, 2) := by decide +kernel
theorem dX12_bestPair_51 : decode cX12_bestPair 51 = .ok (.aload_n 0, 1) := by decide +kernel
theorem dX12_bestPair_52 : decode cX12_bestPair 52 = .ok (.getfield 83, 3) := by decide +kernel
theorem dX12_bestPair_55 : decode cX12_bestPair 55 = .ok (.if_icmp .gt 76, 3) := by decide +kernel
theorem dX12_bestPair_58 : decode cX12_bestPair 58 = .ok (.bipush (-12), 2) := by decide +kernel
theorem dX12_bestPair_60 : decode cX12_bestPair 60 = .ok (.istore 10, 2) := by decide +kernel
theorem dX12_bestPair_62 : decode cX12_bestPair 62 = .ok (.iload 10, 2) := by decide +kernel
theorem dX12_bestPair_64 : decode cX12_bestPair 64 = .ok (.iload 9, 2) := by decide +kernel
theorem dX12_bestPair_66 : decode cX12_bestPair 66 = .ok (.if_icmp .ge 59, 3) := by decide +kernel
theorem dX12_bestPair_69 : decode cX12_bestPair 69 = .ok (.aload_n 0, 1) := by decide +kernel
theorem dX12_bestPair_70 : decode cX12_bestPair 70 = .ok (.iload 10, 2) := by decide +kernel
theorem dX12_bestPair_72 : decode cX12_bestPair 72 = .ok (.putfield 249, 3) := by decide +kernel
theorem dX12_bestPair_75 : decode cX12_bestPair 75 = .ok (.aload_n 0, 1) := by decide +kernel
theorem dX12_bestPair_76 : decode cX12_bestPair 76 = .ok (.iload 9, 2) := by decide +kernel
theorem dX12_bestPair_78 : decode cX12_bestPair 78 = .ok (.putfield 252, 3) := by decide +kernel
theorem dX12_bestPair_81 : decode cX12_bestPair 81 = .ok (.aload_n 0, 1) := by decide +kernel
theorem dX12_bestPair_82 : decode cX12_bestPair 82 = .ok (.iload_n 1, 1) := by decide +kernel
theorem dX12_bestPair_83 : decode cX12_bestPair 83 = .ok (.iload_n 2, 1) := by decide +kernel
theorem dX12_bestPair_84 : decode cX12_bestPair 84 = .ok (.iload_n 3, 1) := by decide +kernel
theorem dX12_bestPair_85 : decode cX12_bestPair 85 = .ok (.invokevirtual 255, 3) := by decide +kernel
theorem dX12_bestPair_88 : decode cX12_bestPair 88 = .ok (.lload 5, 2) := by decide +kernel
theorem dX12_bestPair_90 : decode cX12_bestPair 90 = .ok (.lconst 0, 1) := by decide +kernel
theorem dX12_bestPair_91 : decode cX12_bestPair 91 = .ok (.lcmp, 1) := by decide +kernel
theorem dX12_bestPair_92 : decode cX12_bestPair 92 = .ok (.ifCond .lt 13, 3) := by decide +kernel
theorem dX12_bestPair_95 : decode cX12_bestPair 95 = .ok (.aload_n 0, 1) := by decide +kernel
theorem dX12_bestPair_96 : decode cX12_bestPair 96 = .ok (.getfield 184, 3) := by decide +kernel
theorem dX12_bestPair_99 : decode cX12_bestPair 99 = .ok (.lload 5, 2) := by decide +kernel
theorem dX12_bestPair_101 : decode cX12_bestPair 101 = .ok (.lcmp, 1) := by decide +kernel
theorem dX12_bestPair_102 : decode cX12_bestPair 102 = .ok (.ifCond .ge 17, 3) := by decide +kernel
theorem dX12_bestPair_105 : decode cX12_bestPair 105 = .ok (.aload_n 0, 1) := by decide +kernel
theorem dX12_bestPair_106 : decode cX12_bestPair 106 = .ok (.getfield 184, 3) := by decide +kernel
theorem dX12_bestPair_109 : decode cX12_bestPair 109 = .ok (.lstore 5, 2) := by decide +kernel
theorem dX12_bestPair_111 : decode cX12_bestPair 111 = .ok (.iload 10, 2) := by decide +kernel
theorem dX12_bestPair_113 : decode cX12_bestPair 113 = .ok (.istore 7, 2) := by decide +kernel
theorem dX12_bestPair_115 : decode cX12_bestPair 115 = .ok (.iload 9, 2) := by decide +kernel
theorem dX12_bestPair_117 : decode cX12_bestPair 117 = .ok (.istore 8, 2) := by decide +kernel
theorem dX12_bestPair_119 : decode cX12_bestPair 119 = .ok (.iinc 10 1, 3) := by decide +kernel
theorem dX12_bestPair_122 : decode cX12_bestPair 122 = .ok (.goto (-60), 3) := by decide +kernel
theorem dX12_bestPair_125 : decode cX12_bestPair 125 = .ok (.iinc 9 1, 3) := by decide +kernel
theorem dX12_bestPair_128 : decode cX12_bestPair 128 = .ok (.goto (-79), 3) := by decide +kernel
theorem dX12_bestPair_131 : decode cX12_bestPair 131 = .ok (.aload_n 0, 1) := by decide +kernel
theorem dX12_bestPair_132 : decode cX12_bestPair 132 = .ok (.iload 7, 2) := by decide +kernel
theorem dX12_bestPair_134 : decode cX12_bestPair 134 = .ok (.putfield 99, 3) := by decide +kernel
theorem dX12_bestPair_137 : decode cX12_bestPair 137 = .ok (.aload_n 0, 1) := by decide +kernel
theorem dX12_bestPair_138 : decode cX12_bestPair 138 = .ok (.iload 8, 2) := by decide +kernel
theorem dX12_bestPair_140 : decode cX12_bestPair 140 = .ok (.putfield 102, 3) := by decide +kernel
theorem dX12_bestPair_143 : decode cX12_bestPair 143 = .ok (.aload_n 0, 1) := by decide +kernel
theorem dX12_bestPair_144 : decode cX12_bestPair 144 = .ok (.lload 5, 2) := by decide +kernel
theorem dX12_bestPair_146 : decode cX12_bestPair 146 = .ok (.aload_n 0, 1) := by decide +kernel
theorem dX12_bestPair_147 : decode cX12_bestPair 147 = .ok (.getfield 196, 3) := by decide +kernel
theorem dX12_bestPair_150 : decode cX12_bestPair 150 = .ok (.iconst 1, 1) := by decide +kernel
theorem dX12_bestPair_151 : decode cX12_bestPair 151 = .ok (.invokevirtual 236, 3) := by decide +kernel
theorem dX12_bestPair_154 : decode cX12_bestPair 154 = .ok (.ireturn, 1) := by decide +kernel
theorem dX12_goThroughPair_0 : decode cX12_goThroughPair 0 = .ok (.aload_n 0, 1) := by decide +kernel
theorem dX12_goThroughPair_1 : decode cX12_goThroughPair 1 = .ok (.iload_n 1, 1) := by decide +kernel
theorem dX12_goThroughPair_2 : decode cX12_goThroughPair 2 = .ok (.invokevirtual 129, 3) := by decide +kernel
theorem dX12_goThroughPair_5 : decode cX12_goThroughPair 5 = .ok (.i2l, 1) := by decide +kernel
theorem dX12_goThroughPair_6 : decode cX12_goThroughPair 6 = .ok (.lstore 4, 2) := by decide +kernel
theorem dX12_goThroughPair_8 : decode cX12_goThroughPair 8 = .ok (.aload_n 0, 1) := by decide +kernel
theorem dX12_goThroughPair_9 : decode cX12_goThroughPair 9 = .ok (.lconst 0, 1) := by decide +kernel
theorem dX12_goThroughPair_10 : decode cX12_goThroughPair 10 = .ok (.putfield 184, 3) := by decide +kernel
theorem dX12_goThroughPair_13 : decode cX12_goThroughPair 13 = .ok (.aload_n 0, 1) := by decide +kernel
theorem dX12_goThroughPair_14 : decode cX12_goThroughPair 14 = .ok (.lconst 1, 1) := by decide +kernel
theorem dX12_goThroughPair_15 : decode cX12_goThroughPair 15 = .ok (.putfield 196, 3) := by decide +kernel
theorem dX12_goThroughPair_18 : decode cX12_goThroughPair 18 = .ok (.aload_n 0, 1) := by decide +kernel
theorem dX12_goThroughPair_19 : decode cX12_goThroughPair 19 = .ok (.getfield 51, 3) := by decide +kernel
theorem dX12_goThroughPair_22 : decode cX12_goThroughPair 22 = .ok (.iconst 0, 1) := by decide +kernel
theorem dX12_goThroughPair_23 : decode cX12_goThroughPair 23 = .ok (.iload_n 2, 1) := by decide +kernel
theorem dX12_goThroughPair_24 : decode cX12_goThroughPair 24 = .ok (.iconst 0, 1) := by decide +kernel
theorem dX12_goThroughPair_25 : decode cX12_goThroughPair 25 = .ok (.iconst 0, 1) := by decide +kernel
theorem dX12_goThroughPair_26 : decode cX12_goThroughPair 26 = .ok (.invokestatic 199, 3) := by decide +kernel
theorem dX12_goThroughPair_29 : decode cX12_goThroughPair 29 = .ok (.iastore, 1) := by decide +kernel
theorem dX12_goThroughPair_30 : decode cX12_goThroughPair 30 = .ok (.aload_n 0, 1) := by decide +kernel
theorem dX12_goThroughPair_31 : decode cX12_goThroughPair 31 = .ok (.getfield 54, 3) := by decide +kernel
theorem dX12_goThroughPair_34 : decode cX12_goThroughPair 34 = .ok (.iconst 0, 1) := by decide +kernel
theorem dX12_goThroughPair_35 : decode cX12_goThroughPair 35 = .ok (.lconst 1, 1) := by decide +kernel
theorem dX12_goThroughPair_36 : decode cX12_goThroughPair 36 = .ok (.lastore, 1) := by decide +kernel
theorem dX12_goThroughPair_37 : decode cX12_goThroughPair 37 = .ok (.aload_n 0, 1) := by decide +kernel
theorem dX12_goThroughPair_38 : decode cX12_goThroughPair 38 = .ok (.iconst 1, 1) := by decide +kernel
theorem dX12_goThroughPair_39 : decode cX12_goThroughPair 39 = .ok (.putfield 203, 3) := by decide +kernel
theorem dX12_goThroughPair_42 : decode cX12_goThroughPair 42 = .ok (.iconst 0, 1) := by decide +kernel
theorem dX12_goThroughPair_43 : decode cX12_goThroughPair 43 = .ok (.istore 6, 2) := by decide +kernel
theorem dX12_goThroughPair_45 : decode cX12_goThroughPair 45 = .ok (.iload 6, 2) := by decide +kernel
theorem dX12_goThroughPair_47 : decode cX12_goThroughPair 47 = .ok (.iload_n 3, 1) := by decide +kernel
theorem dX12_goThroughPair_48 : decode cX12_goThroughPair 48 = .ok (.if_icmp .ge 315, 3) := by decide +kernel
theorem dX12_goThroughPair_51 : decode cX12_goThroughPair 51 = .ok (.aload_n 0, 1) := by decide +kernel
theorem dX12_goThroughPair_52 : decode cX12_goThroughPair 52 = .ok (.dup, 1) := by decide +kernel
theorem dX12_goThroughPair_53 : decode cX12_goThroughPair 53 = .ok (.getfield 178, 3) := by decide +kernel
theorem dX12_goThroughPair_56 : decode cX12_goThroughPair 56 = .ok (.iconst 1, 1) := by decide +kernel
theorem dX12_goThroughPair_57 : decode cX12_goThroughPair 57 = .ok (.iadd, 1) := by decide +kernel
theorem dX12_goThroughPair_58 : decode cX12_goThroughPair 58 = .ok (.putfield 178, 3) := by decide +kernel
theorem dX12_goThroughPair_61 : decode cX12_goThroughPair 61 = .ok (.aload_n 0, 1) := by decide +kernel
theorem dX12_goThroughPair_62 : decode cX12_goThroughPair 62 = .ok (.iconst 0, 1) := by decide +kernel
theorem dX12_goThroughPair_63 : decode cX12_goThroughPair 63 = .ok (.putfield 181, 3) := by decide +kernel
theorem dX12_goThroughPair_66 : decode cX12_goThroughPair 66 = .ok (.aload_n 0, 1) := by decide +kernel
theorem dX12_goThroughPair_67 : decode cX12_goThroughPair 67 = .ok (.dup, 1) := by decide +kernel
theorem dX12_goThroughPair_68 : decode cX12_goThroughPair 68 = .ok (.getfield 184, 3) := by decide +kernel
theorem dX12_goThroughPair_71 : decode cX12_goThroughPair 71 = .ok (.lload 4, 2) := by decide +kernel
theorem dX12_goThroughPair_73 : decode cX12_goThroughPair 73 = .ok (.lmul, 1) := by decide +kernel
theorem dX12_goThroughPair_74 : decode cX12_goThroughPair 74 = .ok (.putfield 184, 3) := by decide +kernel
theorem dX12_goThroughPair_77 : decode cX12_goThroughPair 77 = .ok (.aload_n 0, 1) := by decide +kernel
theorem dX12_goThroughPair_78 : decode cX12_goThroughPair 78 = .ok (.dup, 1) := by decide +kernel
theorem dX12_goThroughPair_79 : decode cX12_goThroughPair 79 = .ok (.getfield 196, 3) := by decide +kernel
theorem dX12_goThroughPair_82 : decode cX12_goThroughPair 82 = .ok (.lload 4, 2) := by decide +kernel
theorem dX12_goThroughPair_84 : decode cX12_goThroughPair 84 = .ok (.lmul, 1) := by decide +kernel
theorem dX12_goThroughPair_85 : decode cX12_goThroughPair 85 = .ok (.putfield 196, 3) := by decide +kernel
theorem dX12_goThroughPair_88 : decode cX12_goThroughPair 88 = .ok (.iconst 0, 1) := by decide +kernel
theorem dX12_goThroughPair_89 : decode cX12_goThroughPair 89 = .ok (.istore 7, 2) := by decide +kernel
theorem dX12_goThroughPair_91 : decode cX12_goThroughPair 91 = .ok (.iload 7, 2) := by decide +kernel
theorem dX12_goThroughPair_93 : decode cX12_goThroughPair 93 = .ok (.aload_n 0, 1) := by decide +kernel
theorem dX12_goThroughPair_94 : decode cX12_goThroughPair 94 = .ok (.getfield 203, 3) := by decide +kernel
theorem dX12_goThroughPair_97 : decode cX12_goThroughPair 97 = .ok (.if_icmp .ge 206, 3) := by decide +kernel
theorem dX12_goThroughPair_100 : decode cX12_goThroughPair 100 = .ok (.aload_n 0, 1) := by decide +kernel
theorem dX12_goThroughPair_101 : decode cX12_goThroughPair 101 = .ok (.getfield 51, 3) := by decide +kernel
theorem dX12_goThroughPair_104 : decode cX12_goThroughPair 104 = .ok (.iload 7, 2) := by decide +kernel
theorem dX12_goThroughPair_106 : decode cX12_goThroughPair 106 = .ok (.iaload, 1) := by decide +kernel
theorem dX12_goThroughPair_107 : decode cX12_goThroughPair 107 = .ok (.sipush 625, 3) := by decide +kernel
theorem dX12_goThroughPair_110 : decode cX12_goThroughPair 110 = .ok (.idiv, 1) := by decide +kernel
theorem dX12_goThroughPair_111 : decode cX12_goThroughPair 111 = .ok (.bipush 12, 2) := by decide +kernel
theorem dX12_goThroughPair_113 : decode cX12_goThroughPair 113 = .ok (.isub, 1) := by decide +kernel
theorem dX12_goThroughPair_114 : decode cX12_goThroughPair 114 = .ok (.istore 8, 2) := by decide +kernel
theorem dX12_goThroughPair_116 : decode cX12_goThroughPair 116 = .ok (.aload_n 0, 1) := by decide +kernel
theorem dX12_goThroughPair_117 : decode cX12_goThroughPair 117 = .ok (.getfield 51, 3) := by decide +kernel
theorem dX12_goThroughPair_120 : decode cX12_goThroughPair 120 = .ok (.iload 7, 2) := by decide +kernel
theorem dX12_goThroughPair_122 : decode cX12_goThroughPair 122 = .ok (.iaload, 1) := by decide +kernel
theorem dX12_goThroughPair_123 : decode cX12_goThroughPair 123 = .ok (.bipush 25, 2) := by decide +kernel
theorem dX12_goThroughPair_125 : decode cX12_goThroughPair 125 = .ok (.idiv, 1) := by decide +kernel
theorem dX12_goThroughPair_126 : decode cX12_goThroughPair 126 = .ok (.bipush 25, 2) := by decide +kernel
theorem dX12_goThroughPair_128 : decode cX12_goThroughPair 128 = .ok (.irem, 1) := by decide +kernel
theorem dX12_goThroughPair_129 : decode cX12_goThroughPair 129 = .ok (.istore 9, 2) := by decide +kernel
theorem dX12_goThroughPair_131 : decode cX12_goThroughPair 131 = .ok (.aload_n 0, 1) := by decide +kernel
theorem dX12_goThroughPair_132 : decode cX12_goThroughPair 132 = .ok (.getfield 51, 3) := by decide +kernel
theorem dX12_goThroughPair_135 : decode cX12_goThroughPair 135 = .ok (.iload 7, 2) := by decide +kernel
theorem dX12_goThroughPair_137 : decode cX12_goThroughPair 137 = .ok (.iaload, 1) := by decide +kernel
theorem dX12_goThroughPair_138 : decode cX12_goThroughPair 138 = .ok (.bipush 25, 2) := by decide +kernel
theorem dX12_goThroughPair_140 : decode cX12_goThroughPair 140 = .ok (.irem, 1) := by decide +kernel
theorem dX12_goThroughPair_141 : decode cX12_goThroughPair 141 = .ok (.istore 10, 2) := by decide +kernel
theorem dX12_goThroughPair_143 : decode cX12_goThroughPair 143 = .ok (.iload 8, 2) := by decide +kernel
theorem dX12_goThroughPair_145 : decode cX12_goThroughPair 145 = .ok (.iload 9, 2) := by decide +kernel
theorem dX12_goThroughPair_147 : decode cX12_goThroughPair 147 = .ok (.iadd, 1) := by decide +kernel
theorem dX12_goThroughPair_148 : decode cX12_goThroughPair 148 = .ok (.iload 10, 2) := by decide +kernel
theorem dX12_goThroughPair_150 : decode cX12_goThroughPair 150 = .ok (.iadd, 1) := by decide +kernel
theorem dX12_goThroughPair_151 : decode cX12_goThroughPair 151 = .ok (.istore 11, 2) := by decide +kernel
theorem dX12_goThroughPair_153 : decode cX12_goThroughPair 153 = .ok (.iload 11, 2) := by decide +kernel
theorem dX12_goThroughPair_155 : decode cX12_goThroughPair 155 = .ok (.aload_n 0, 1) := by decide +kernel
theorem dX12_goThroughPair_156 : decode cX12_goThroughPair 156 = .ok (.getfield 249, 3) := by decide +kernel
theorem dX12_goThroughPair_159 : decode cX12_goThroughPair 159 = .ok (.if_icmp .le 7, 3) := by decide +kernel
theorem dX12_goThroughPair_162 : decode cX12_goThroughPair 162 = .ok (.iconst 0, 1) := by decide +kernel
theorem dX12_goThroughPair_163 : decode cX12_goThroughPair 163 = .ok (.goto 27, 3) := by decide +kernel
theorem dX12_goThroughPair_166 : decode cX12_goThroughPair 166 = .ok (.aload_n 0, 1) := by decide +kernel
theorem dX12_goThroughPair_167 : decode cX12_goThroughPair 167 = .ok (.getfield 252, 3) := by decide +kernel
theorem dX12_goThroughPair_170 : decode cX12_goThroughPair 170 = .ok (.iload 11, 2) := by decide +kernel
theorem dX12_goThroughPair_172 : decode cX12_goThroughPair 172 = .ok (.isub, 1) := by decide +kernel
theorem dX12_goThroughPair_173 : decode cX12_goThroughPair 173 = .ok (.bipush 12, 2) := by decide +kernel
theorem dX12_goThroughPair_175 : decode cX12_goThroughPair 175 = .ok (.if_icmp .le 8, 3) := by decide +kernel
theorem dX12_goThroughPair_178 : decode cX12_goThroughPair 178 = .ok (.bipush 12, 2) := by decide +kernel
theorem dX12_goThroughPair_180 : decode cX12_goThroughPair 180 = .ok (.goto 10, 3) := by decide +kernel
theorem dX12_goThroughPair_183 : decode cX12_goThroughPair 183 = .ok (.aload_n 0, 1) := by decide +kernel
theorem dX12_goThroughPair_184 : decode cX12_goThroughPair 184 = .ok (.getfield 252, 3) := by decide +kernel
theorem dX12_goThroughPair_187 : decode cX12_goThroughPair 187 = .ok (.iload 11, 2) := by decide +kernel
theorem dX12_goThroughPair_189 : decode cX12_goThroughPair 189 = .ok (.isub, 1) := by decide +kernel
theorem dX12_goThroughPair_190 : decode cX12_goThroughPair 190 = .ok (.istore 12, 2) := by decide +kernel
theorem dX12_goThroughPair_192 : decode cX12_goThroughPair 192 = .ok (.iconst 0, 1) := by decide +kernel
theorem dX12_goThroughPair_193 : decode cX12_goThroughPair 193 = .ok (.istore 13, 2) := by decide +kernel
theorem dX12_goThroughPair_195 : decode cX12_goThroughPair 195 = .ok (.iload 13, 2) := by decide +kernel
theorem dX12_goThroughPair_197 : decode cX12_goThroughPair 197 = .ok (.bipush 7, 2) := by decide +kernel
theorem dX12_goThroughPair_199 : decode cX12_goThroughPair 199 = .ok (.if_icmp .ge 98, 3) := by decide +kernel
theorem dX12_goThroughPair_202 : decode cX12_goThroughPair 202 = .ok (.aload_n 0, 1) := by decide +kernel
theorem dX12_goThroughPair_203 : decode cX12_goThroughPair 203 = .ok (.getfield 17, 3) := by decide +kernel
theorem dX12_goThroughPair_206 : decode cX12_goThroughPair 206 = .ok (.bipush 7, 2) := by decide +kernel
theorem dX12_goThroughPair_208 : decode cX12_goThroughPair 208 = .ok (.iload_n 1, 1) := by decide +kernel
theorem dX12_goThroughPair_209 : decode cX12_goThroughPair 209 = .ok (.imul, 1) := by decide +kernel
theorem dX12_goThroughPair_210 : decode cX12_goThroughPair 210 = .ok (.iload 13, 2) := by decide +kernel
theorem dX12_goThroughPair_212 : decode cX12_goThroughPair 212 = .ok (.iadd, 1) := by decide +kernel
theorem dX12_goThroughPair_213 : decode cX12_goThroughPair 213 = .ok (.iaload, 1) := by decide +kernel
theorem dX12_goThroughPair_214 : decode cX12_goThroughPair 214 = .ok (.istore 14, 2) := by decide +kernel
theorem dX12_goThroughPair_216 : decode cX12_goThroughPair 216 = .ok (.iload 14, 2) := by decide +kernel
theorem dX12_goThroughPair_218 : decode cX12_goThroughPair 218 = .ok (.ifCond .le 73, 3) := by decide +kernel
theorem dX12_goThroughPair_221 : decode cX12_goThroughPair 221 = .ok (.aload_n 0, 1) := by decide +kernel
theorem dX12_goThroughPair_222 : decode cX12_goThroughPair 222 = .ok (.iload 8, 2) := by decide +kernel
theorem dX12_goThroughPair_224 : decode cX12_goThroughPair 224 = .ok (.iload 9, 2) := by decide +kernel
theorem dX12_goThroughPair_226 : decode cX12_goThroughPair 226 = .ok (.iload 10, 2) := by decide +kernel
theorem dX12_goThroughPair_228 : decode cX12_goThroughPair 228 = .ok (.iload 12, 2) := by decide +kernel
theorem dX12_goThroughPair_230 : decode cX12_goThroughPair 230 = .ok (.iload 13, 2) := by decide +kernel
theorem dX12_goThroughPair_232 : decode cX12_goThroughPair 232 = .ok (.invokevirtual 213, 3) := by decide +kernel
theorem dX12_goThroughPair_235 : decode cX12_goThroughPair 235 = .ok (.aload_n 0, 1) := by decide +kernel
theorem dX12_goThroughPair_236 : decode cX12_goThroughPair 236 = .ok (.dup, 1) := by decide +kernel
theorem dX12_goThroughPair_237 : decode cX12_goThroughPair 237 = .ok (.getfield 184, 3) := by decide +kernel
theorem dX12_goThroughPair_240 : decode cX12_goThroughPair 240 = .ok (.aload_n 0, 1) := by decide +kernel
theorem dX12_goThroughPair_241 : decode cX12_goThroughPair 241 = .ok (.getfield 54, 3) := by decide +kernel
theorem dX12_goThroughPair_244 : decode cX12_goThroughPair 244 = .ok (.iload 7, 2) := by decide +kernel
theorem dX12_goThroughPair_246 : decode cX12_goThroughPair 246 = .ok (.laload, 1) := by decide +kernel
theorem dX12_goThroughPair_247 : decode cX12_goThroughPair 247 = .ok (.iload 14, 2) := by decide +kernel
theorem dX12_goThroughPair_249 : decode cX12_goThroughPair 249 = .ok (.i2l, 1) := by decide +kernel
theorem dX12_goThroughPair_250 : decode cX12_goThroughPair 250 = .ok (.lmul, 1) := by decide +kernel
theorem dX12_goThroughPair_251 : decode cX12_goThroughPair 251 = .ok (.aload_n 0, 1) := by decide +kernel
theorem dX12_goThroughPair_252 : decode cX12_goThroughPair 252 = .ok (.getfield 175, 3) := by decide +kernel
theorem dX12_goThroughPair_255 : decode cX12_goThroughPair 255 = .ok (.i2l, 1) := by decide +kernel
theorem dX12_goThroughPair_256 : decode cX12_goThroughPair 256 = .ok (.lmul, 1) := by decide +kernel
theorem dX12_goThroughPair_257 : decode cX12_goThroughPair 257 = .ok (.ladd, 1) := by decide +kernel
theorem dX12_goThroughPair_258 : decode cX12_goThroughPair 258 = .ok (.putfield 184, 3) := by decide +kernel
theorem dX12_goThroughPair_261 : decode cX12_goThroughPair 261 = .ok (.aload_n 0, 1) := by decide +kernel
theorem dX12_goThroughPair_262 : decode cX12_goThroughPair 262 = .ok (.aload_n 0, 1) := by decide +kernel
theorem dX12_goThroughPair_263 : decode cX12_goThroughPair 263 = .ok (.getfield 172, 3) := by decide +kernel
theorem dX12_goThroughPair_266 : decode cX12_goThroughPair 266 = .ok (.aload_n 0, 1) := by decide +kernel
theorem dX12_goThroughPair_267 : decode cX12_goThroughPair 267 = .ok (.getfield 160, 3) := by decide +kernel
theorem dX12_goThroughPair_270 : decode cX12_goThroughPair 270 = .ok (.aload_n 0, 1) := by decide +kernel
theorem dX12_goThroughPair_271 : decode cX12_goThroughPair 271 = .ok (.getfield 163, 3) := by decide +kernel
theorem dX12_goThroughPair_274 : decode cX12_goThroughPair 274 = .ok (.invokestatic 199, 3) := by decide +kernel
theorem dX12_goThroughPair_277 : decode cX12_goThroughPair 277 = .ok (.aload_n 0, 1) := by decide +kernel
theorem dX12_goThroughPair_278 : decode cX12_goThroughPair 278 = .ok (.getfield 54, 3) := by decide +kernel
theorem dX12_goThroughPair_281 : decode cX12_goThroughPair 281 = .ok (.iload 7, 2) := by decide +kernel
theorem dX12_goThroughPair_283 : decode cX12_goThroughPair 283 = .ok (.laload, 1) := by decide +kernel
theorem dX12_goThroughPair_284 : decode cX12_goThroughPair 284 = .ok (.iload 14, 2) := by decide +kernel
theorem dX12_goThroughPair_286 : decode cX12_goThroughPair 286 = .ok (.i2l, 1) := by decide +kernel
theorem dX12_goThroughPair_287 : decode cX12_goThroughPair 287 = .ok (.lmul, 1) := by decide +kernel
theorem dX12_goThroughPair_288 : decode cX12_goThroughPair 288 = .ok (.invokevirtual 217, 3) := by decide +kernel
theorem dX12_goThroughPair_291 : decode cX12_goThroughPair 291 = .ok (.iinc 13 1, 3) := by decide +kernel
theorem dX12_goThroughPair_294 : decode cX12_goThroughPair 294 = .ok (.goto (-99), 3) := by decide +kernel
theorem dX12_goThroughPair_297 : decode cX12_goThroughPair 297 = .ok (.iinc 7 1, 3) := by decide +kernel
theorem dX12_goThroughPair_300 : decode cX12_goThroughPair 300 = .ok (.goto (-209), 3) := by decide +kernel
theorem dX12_goThroughPair_303 : decode cX12_goThroughPair 303 = .ok (.aload_n 0, 1) := by decide +kernel
theorem dX12_goThroughPair_304 : decode cX12_goThroughPair 304 = .ok (.aload_n 0, 1) := by decide +kernel
theorem dX12_goThroughPair_305 : decode cX12_goThroughPair 305 = .ok (.getfield 181, 3) := by decide +kernel
theorem dX12_goThroughPair_308 : decode cX12_goThroughPair 308 = .ok (.putfield 203, 3) := by decide +kernel
theorem dX12_goThroughPair_311 : decode cX12_goThroughPair 311 = .ok (.iconst 0, 1) := by decide +kernel
theorem dX12_goThroughPair_312 : decode cX12_goThroughPair 312 = .ok (.istore 7, 2) := by decide +kernel
theorem dX12_goThroughPair_314 : decode cX12_goThroughPair 314 = .ok (.iload 7, 2) := by decide +kernel
theorem dX12_goThroughPair_316 : decode cX12_goThroughPair 316 = .ok (.aload_n 0, 1) := by decide +kernel
theorem dX12_goThroughPair_317 : decode cX12_goThroughPair 317 = .ok (.getfield 203, 3) := by decide +kernel
theorem dX12_goThroughPair_320 : decode cX12_goThroughPair 320 = .ok (.if_icmp .ge 37, 3) := by decide +kernel
theorem dX12_goThroughPair_323 : decode cX12_goThroughPair 323 = .ok (.aload_n 0, 1) := by decide +kernel
theorem dX12_goThroughPair_324 : decode cX12_goThroughPair 324 = .ok (.getfield 51, 3) := by decide +kernel
theorem dX12_goThroughPair_327 : decode cX12_goThroughPair 327 = .ok (.iload 7, 2) := by decide +kernel
theorem dX12_goThroughPair_329 : decode cX12_goThroughPair 329 = .ok (.aload_n 0, 1) := by decide +kernel
theorem dX12_goThroughPair_330 : decode cX12_goThroughPair 330 = .ok (.getfield 58, 3) := by decide +kernel
theorem dX12_goThroughPair_333 : decode cX12_goThroughPair 333 = .ok (.iload 7, 2) := by decide +kernel
theorem dX12_goThroughPair_335 : decode cX12_goThroughPair 335 = .ok (.iaload, 1) := by decide +kernel
theorem dX12_goThroughPair_336 : decode cX12_goThroughPair 336 = .ok (.iastore, 1) := by decide +kernel
theorem dX12_goThroughPair_337 : decode cX12_goThroughPair 337 = .ok (.aload_n 0, 1) := by decide +kernel
theorem dX12_goThroughPair_338 : decode cX12_goThroughPair 338 = .ok (.getfield 54, 3) := by decide +kernel
theorem dX12_goThroughPair_341 : decode cX12_goThroughPair 341 = .ok (.iload 7, 2) := by decide +kernel
theorem dX12_goThroughPair_343 : decode cX12_goThroughPair 343 = .ok (.aload_n 0, 1) := by decide +kernel
theorem dX12_goThroughPair_344 : decode cX12_goThroughPair 344 = .ok (.getfield 61, 3) := by decide +kernel
theorem dX12_goThroughPair_347 : decode cX12_goThroughPair 347 = .ok (.iload 7, 2) := by decide +kernel
theorem dX12_goThroughPair_349 : decode cX12_goThroughPair 349 = .ok (.laload, 1) := by decide +kernel
theorem dX12_goThroughPair_350 : decode cX12_goThroughPair 350 = .ok (.lastore, 1) := by decide +kernel
theorem dX12_goThroughPair_351 : decode cX12_goThroughPair 351 = .ok (.iinc 7 1, 3) := by decide +kernel
theorem dX12_goThroughPair_354 : decode cX12_goThroughPair 354 = .ok (.goto (-40), 3) := by decide +kernel
theorem dX12_goThroughPair_357 : decode cX12_goThroughPair 357 = .ok (.iinc 6 1, 3) := by decide +kernel
theorem dX12_goThroughPair_360 : decode cX12_goThroughPair 360 = .ok (.goto (-315), 3) := by decide +kernel
theorem dX12_goThroughPair_363 : decode cX12_goThroughPair 363 = .ok (.return_, 1) := by decide +kernel
theorem dX12_pairTold_0 : decode cX12_pairTold 0 = .ok (.iload_n 1, 1) := by decide +kernel
theorem dX12_pairTold_1 : decode cX12_pairTold 1 = .ok (.ifCond .ne 10, 3) := by decide +kernel
theorem dX12_pairTold_4 : decode cX12_pairTold 4 = .ok (.aload_n 0, 1) := by decide +kernel
theorem dX12_pairTold_5 : decode cX12_pairTold 5 = .ok (.getfield 99, 3) := by decide +kernel
theorem dX12_pairTold_8 : decode cX12_pairTold 8 = .ok (.goto 16, 3) := by decide +kernel
theorem dX12_pairTold_11 : decode cX12_pairTold 11 = .ok (.iload_n 1, 1) := by decide +kernel
theorem dX12_pairTold_12 : decode cX12_pairTold 12 = .ok (.iconst 1, 1) := by decide +kernel
theorem dX12_pairTold_13 : decode cX12_pairTold 13 = .ok (.if_icmp .ne 10, 3) := by decide +kernel
theorem dX12_pairTold_16 : decode cX12_pairTold 16 = .ok (.aload_n 0, 1) := by decide +kernel
theorem dX12_pairTold_17 : decode cX12_pairTold 17 = .ok (.getfield 102, 3) := by decide +kernel
theorem dX12_pairTold_20 : decode cX12_pairTold 20 = .ok (.goto 4, 3) := by decide +kernel
theorem dX12_pairTold_23 : decode cX12_pairTold 23 = .ok (.iconst (-1), 1) := by decide +kernel
theorem dX12_pairTold_24 : decode cX12_pairTold 24 = .ok (.ireturn, 1) := by decide +kernel
theorem dX12_give_0 : decode cX12_give 0 = .ok (.iload_n 1, 1) := by decide +kernel
theorem dX12_give_1 : decode cX12_give 1 = .ok (.istore_n 3, 1) := by decide +kernel
theorem dX12_give_2 : decode cX12_give 2 = .ok (.iconst 0, 1) := by decide +kernel
theorem dX12_give_3 : decode cX12_give 3 = .ok (.istore 4, 2) := by decide +kernel
theorem dX12_give_5 : decode cX12_give 5 = .ok (.iload 4, 2) := by decide +kernel
theorem dX12_give_7 : decode cX12_give 7 = .ok (.iconst 3, 1) := by decide +kernel
theorem dX12_give_8 : decode cX12_give 8 = .ok (.if_icmp .ge 136, 3) := by decide +kernel
theorem dX12_give_11 : decode cX12_give 11 = .ok (.iload_n 2, 1) := by decide +kernel
theorem dX12_give_12 : decode cX12_give 12 = .ok (.ifCond .eq 8, 3) := by decide +kernel
theorem dX12_give_15 : decode cX12_give 15 = .ok (.iload 4, 2) := by decide +kernel
theorem dX12_give_17 : decode cX12_give 17 = .ok (.goto 7, 3) := by decide +kernel
theorem dX12_give_20 : decode cX12_give 20 = .ok (.iconst 2, 1) := by decide +kernel
theorem dX12_give_21 : decode cX12_give 21 = .ok (.iload 4, 2) := by decide +kernel
theorem dX12_give_23 : decode cX12_give 23 = .ok (.isub, 1) := by decide +kernel
theorem dX12_give_24 : decode cX12_give 24 = .ok (.istore 5, 2) := by decide +kernel
theorem dX12_give_26 : decode cX12_give 26 = .ok (.iload 5, 2) := by decide +kernel
theorem dX12_give_28 : decode cX12_give 28 = .ok (.ifCond .ne 10, 3) := by decide +kernel
theorem dX12_give_31 : decode cX12_give 31 = .ok (.aload_n 0, 1) := by decide +kernel
theorem dX12_give_32 : decode cX12_give 32 = .ok (.getfield 259, 3) := by decide +kernel
theorem dX12_give_35 : decode cX12_give 35 = .ok (.goto 20, 3) := by decide +kernel
theorem dX12_give_38 : decode cX12_give 38 = .ok (.iload 5, 2) := by decide +kernel
theorem dX12_give_40 : decode cX12_give 40 = .ok (.iconst 1, 1) := by decide +kernel
theorem dX12_give_41 : decode cX12_give 41 = .ok (.if_icmp .ne 10, 3) := by decide +kernel
theorem dX12_give_44 : decode cX12_give 44 = .ok (.aload_n 0, 1) := by decide +kernel
theorem dX12_give_45 : decode cX12_give 45 = .ok (.getfield 262, 3) := by decide +kernel
theorem dX12_give_48 : decode cX12_give 48 = .ok (.goto 7, 3) := by decide +kernel
theorem dX12_give_51 : decode cX12_give 51 = .ok (.aload_n 0, 1) := by decide +kernel
theorem dX12_give_52 : decode cX12_give 52 = .ok (.getfield 265, 3) := by decide +kernel
theorem dX12_give_55 : decode cX12_give 55 = .ok (.istore 6, 2) := by decide +kernel
theorem dX12_give_57 : decode cX12_give 57 = .ok (.iload_n 3, 1) := by decide +kernel
theorem dX12_give_58 : decode cX12_give 58 = .ok (.iload 6, 2) := by decide +kernel
theorem dX12_give_60 : decode cX12_give 60 = .ok (.if_icmp .ge 7, 3) := by decide +kernel
theorem dX12_give_63 : decode cX12_give 63 = .ok (.iload_n 3, 1) := by decide +kernel
theorem dX12_give_64 : decode cX12_give 64 = .ok (.goto 5, 3) := by decide +kernel
theorem dX12_give_67 : decode cX12_give 67 = .ok (.iload 6, 2) := by decide +kernel
theorem dX12_give_69 : decode cX12_give 69 = .ok (.istore 7, 2) := by decide +kernel
theorem dX12_give_71 : decode cX12_give 71 = .ok (.iload_n 3, 1) := by decide +kernel
theorem dX12_give_72 : decode cX12_give 72 = .ok (.iload 7, 2) := by decide +kernel
theorem dX12_give_74 : decode cX12_give 74 = .ok (.isub, 1) := by decide +kernel
theorem dX12_give_75 : decode cX12_give 75 = .ok (.istore_n 3, 1) := by decide +kernel
theorem dX12_give_76 : decode cX12_give 76 = .ok (.aload_n 0, 1) := by decide +kernel
theorem dX12_give_77 : decode cX12_give 77 = .ok (.dup, 1) := by decide +kernel
theorem dX12_give_78 : decode cX12_give 78 = .ok (.getfield 259, 3) := by decide +kernel
theorem dX12_give_81 : decode cX12_give 81 = .ok (.iload 5, 2) := by decide +kernel
theorem dX12_give_83 : decode cX12_give 83 = .ok (.ifCond .ne 8, 3) := by decide +kernel
theorem dX12_give_86 : decode cX12_give 86 = .ok (.iload 7, 2) := by decide +kernel
theorem dX12_give_88 : decode cX12_give 88 = .ok (.goto 4, 3) := by decide +kernel
theorem dX12_give_91 : decode cX12_give 91 = .ok (.iconst 0, 1) := by decide +kernel
theorem dX12_give_92 : decode cX12_give 92 = .ok (.isub, 1) := by decide +kernel
theorem dX12_give_93 : decode cX12_give 93 = .ok (.putfield 259, 3) := by decide +kernel
theorem dX12_give_96 : decode cX12_give 96 = .ok (.aload_n 0, 1) := by decide +kernel
theorem dX12_give_97 : decode cX12_give 97 = .ok (.dup, 1) := by decide +kernel
theorem dX12_give_98 : decode cX12_give 98 = .ok (.getfield 262, 3) := by decide +kernel
theorem dX12_give_101 : decode cX12_give 101 = .ok (.iload 5, 2) := by decide +kernel
theorem dX12_give_103 : decode cX12_give 103 = .ok (.iconst 1, 1) := by decide +kernel
theorem dX12_give_104 : decode cX12_give 104 = .ok (.if_icmp .ne 8, 3) := by decide +kernel
theorem dX12_give_107 : decode cX12_give 107 = .ok (.iload 7, 2) := by decide +kernel
theorem dX12_give_109 : decode cX12_give 109 = .ok (.goto 4, 3) := by decide +kernel
theorem dX12_give_112 : decode cX12_give 112 = .ok (.iconst 0, 1) := by decide +kernel
theorem dX12_give_113 : decode cX12_give 113 = .ok (.isub, 1) := by decide +kernel
theorem dX12_give_114 : decode cX12_give 114 = .ok (.putfield 262, 3) := by decide +kernel
theorem dX12_give_117 : decode cX12_give 117 = .ok (.aload_n 0, 1) := by decide +kernel
theorem dX12_give_118 : decode cX12_give 118 = .ok (.dup, 1) := by decide +kernel
theorem dX12_give_119 : decode cX12_give 119 = .ok (.getfield 265, 3) := by decide +kernel
theorem dX12_give_122 : decode cX12_give 122 = .ok (.iload 5, 2) := by decide +kernel
theorem dX12_give_124 : decode cX12_give 124 = .ok (.iconst 2, 1) := by decide +kernel
theorem dX12_give_125 : decode cX12_give 125 = .ok (.if_icmp .ne 8, 3) := by decide +kernel
theorem dX12_give_128 : decode cX12_give 128 = .ok (.iload 7, 2) := by decide +kernel
theorem dX12_give_130 : decode cX12_give 130 = .ok (.goto 4, 3) := by decide +kernel
theorem dX12_give_133 : decode cX12_give 133 = .ok (.iconst 0, 1) := by decide +kernel
theorem dX12_give_134 : decode cX12_give 134 = .ok (.isub, 1) := by decide +kernel
theorem dX12_give_135 : decode cX12_give 135 = .ok (.putfield 265, 3) := by decide +kernel
theorem dX12_give_138 : decode cX12_give 138 = .ok (.iinc 4 1, 3) := by decide +kernel
theorem dX12_give_141 : decode cX12_give 141 = .ok (.goto (-136), 3) := by decide +kernel
theorem dX12_give_144 : decode cX12_give 144 = .ok (.return_, 1) := by decide +kernel
theorem dX12_spoilt_0 : decode cX12_spoilt 0 = .ok (.iload_n 1, 1) := by decide +kernel
theorem dX12_spoilt_1 : decode cX12_spoilt 1 = .ok (.invokestatic 119, 3) := by decide +kernel
theorem dX12_spoilt_4 : decode cX12_spoilt 4 = .ok (.ifCond .eq 33, 3) := by decide +kernel
theorem dX12_spoilt_7 : decode cX12_spoilt 7 = .ok (.iload_n 2, 1) := by decide +kernel
theorem dX12_spoilt_8 : decode cX12_spoilt 8 = .ok (.iconst 0, 1) := by decide +kernel
theorem dX12_spoilt_9 : decode cX12_spoilt 9 = .ok (.bipush 12, 2) := by decide +kernel
theorem dX12_spoilt_11 : decode cX12_spoilt 11 = .ok (.invokestatic 108, 3) := by decide +kernel
theorem dX12_spoilt_14 : decode cX12_spoilt 14 = .ok (.ifCond .eq 23, 3) := by decide +kernel
theorem dX12_spoilt_17 : decode cX12_spoilt 17 = .ok (.iload_n 3, 1) := by decide +kernel
theorem dX12_spoilt_18 : decode cX12_spoilt 18 = .ok (.iconst 1, 1) := by decide +kernel
theorem dX12_spoilt_19 : decode cX12_spoilt 19 = .ok (.iconst 3, 1) := by decide +kernel
theorem dX12_spoilt_20 : decode cX12_spoilt 20 = .ok (.invokestatic 108, 3) := by decide +kernel
theorem dX12_spoilt_23 : decode cX12_spoilt 23 = .ok (.ifCond .eq 14, 3) := by decide +kernel
theorem dX12_spoilt_26 : decode cX12_spoilt 26 = .ok (.iload 4, 2) := by decide +kernel
theorem dX12_spoilt_28 : decode cX12_spoilt 28 = .ok (.iconst 1, 1) := by decide +kernel
theorem dX12_spoilt_29 : decode cX12_spoilt 29 = .ok (.bipush 6, 2) := by decide +kernel
theorem dX12_spoilt_31 : decode cX12_spoilt 31 = .ok (.invokestatic 108, 3) := by decide +kernel
theorem dX12_spoilt_34 : decode cX12_spoilt 34 = .ok (.ifCond .ne 5, 3) := by decide +kernel
theorem dX12_spoilt_37 : decode cX12_spoilt 37 = .ok (.iconst (-1), 1) := by decide +kernel
theorem dX12_spoilt_38 : decode cX12_spoilt 38 = .ok (.ireturn, 1) := by decide +kernel
theorem dX12_spoilt_39 : decode cX12_spoilt 39 = .ok (.aload_n 0, 1) := by decide +kernel
theorem dX12_spoilt_40 : decode cX12_spoilt 40 = .ok (.iload_n 1, 1) := by decide +kernel
theorem dX12_spoilt_41 : decode cX12_spoilt 41 = .ok (.invokevirtual 225, 3) := by decide +kernel
theorem dX12_spoilt_44 : decode cX12_spoilt 44 = .ok (.istore 6, 2) := by decide +kernel
theorem dX12_spoilt_46 : decode cX12_spoilt 46 = .ok (.iload 6, 2) := by decide +kernel
theorem dX12_spoilt_48 : decode cX12_spoilt 48 = .ok (.ifCond .ge 6, 3) := by decide +kernel
theorem dX12_spoilt_51 : decode cX12_spoilt 51 = .ok (.iload 6, 2) := by decide +kernel
theorem dX12_spoilt_53 : decode cX12_spoilt 53 = .ok (.ireturn, 1) := by decide +kernel
theorem dX12_spoilt_54 : decode cX12_spoilt 54 = .ok (.aload_n 0, 1) := by decide +kernel
theorem dX12_spoilt_55 : decode cX12_spoilt 55 = .ok (.iload_n 1, 1) := by decide +kernel
theorem dX12_spoilt_56 : decode cX12_spoilt 56 = .ok (.invokevirtual 129, 3) := by decide +kernel
theorem dX12_spoilt_59 : decode cX12_spoilt 59 = .ok (.i2l, 1) := by decide +kernel
theorem dX12_spoilt_60 : decode cX12_spoilt 60 = .ok (.lstore 7, 2) := by decide +kernel
theorem dX12_spoilt_62 : decode cX12_spoilt 62 = .ok (.lconst 0, 1) := by decide +kernel
theorem dX12_spoilt_63 : decode cX12_spoilt 63 = .ok (.lstore 9, 2) := by decide +kernel
theorem dX12_spoilt_65 : decode cX12_spoilt 65 = .ok (.aload_n 0, 1) := by decide +kernel
theorem dX12_spoilt_66 : decode cX12_spoilt 66 = .ok (.lconst 1, 1) := by decide +kernel
theorem dX12_spoilt_67 : decode cX12_spoilt 67 = .ok (.putfield 196, 3) := by decide +kernel
theorem dX12_spoilt_70 : decode cX12_spoilt 70 = .ok (.aload_n 0, 1) := by decide +kernel
theorem dX12_spoilt_71 : decode cX12_spoilt 71 = .ok (.getfield 51, 3) := by decide +kernel
theorem dX12_spoilt_74 : decode cX12_spoilt 74 = .ok (.iconst 0, 1) := by decide +kernel
theorem dX12_spoilt_75 : decode cX12_spoilt 75 = .ok (.iconst 0, 1) := by decide +kernel
theorem dX12_spoilt_76 : decode cX12_spoilt 76 = .ok (.iastore, 1) := by decide +kernel
theorem dX12_spoilt_77 : decode cX12_spoilt 77 = .ok (.aload_n 0, 1) := by decide +kernel
theorem dX12_spoilt_78 : decode cX12_spoilt 78 = .ok (.getfield 54, 3) := by decide +kernel
theorem dX12_spoilt_81 : decode cX12_spoilt 81 = .ok (.iconst 0, 1) := by decide +kernel
theorem dX12_spoilt_82 : decode cX12_spoilt 82 = .ok (.lconst 1, 1) := by decide +kernel
theorem dX12_spoilt_83 : decode cX12_spoilt 83 = .ok (.lastore, 1) := by decide +kernel
theorem dX12_spoilt_84 : decode cX12_spoilt 84 = .ok (.aload_n 0, 1) := by decide +kernel
theorem dX12_spoilt_85 : decode cX12_spoilt 85 = .ok (.iconst 1, 1) := by decide +kernel
theorem dX12_spoilt_86 : decode cX12_spoilt 86 = .ok (.putfield 203, 3) := by decide +kernel
theorem dX12_spoilt_89 : decode cX12_spoilt 89 = .ok (.iconst 0, 1) := by decide +kernel
theorem dX12_spoilt_90 : decode cX12_spoilt 90 = .ok (.istore 11, 2) := by decide +kernel
theorem dX12_spoilt_92 : decode cX12_spoilt 92 = .ok (.iload 11, 2) := by decide +kernel
theorem dX12_spoilt_94 : decode cX12_spoilt 94 = .ok (.iload 4, 2) := by decide +kernel
theorem dX12_spoilt_96 : decode cX12_spoilt 96 = .ok (.if_icmp .ge 295, 3) := by decide +kernel
theorem dX12_spoilt_99 : decode cX12_spoilt 99 = .ok (.aload_n 0, 1) := by decide +kernel
theorem dX12_spoilt_100 : decode cX12_spoilt 100 = .ok (.dup, 1) := by decide +kernel
theorem dX12_spoilt_101 : decode cX12_spoilt 101 = .ok (.getfield 178, 3) := by decide +kernel
theorem dX12_spoilt_104 : decode cX12_spoilt 104 = .ok (.iconst 1, 1) := by decide +kernel
theorem dX12_spoilt_105 : decode cX12_spoilt 105 = .ok (.iadd, 1) := by decide +kernel
theorem dX12_spoilt_106 : decode cX12_spoilt 106 = .ok (.putfield 178, 3) := by decide +kernel
theorem dX12_spoilt_109 : decode cX12_spoilt 109 = .ok (.aload_n 0, 1) := by decide +kernel
theorem dX12_spoilt_110 : decode cX12_spoilt 110 = .ok (.iconst 0, 1) := by decide +kernel
theorem dX12_spoilt_111 : decode cX12_spoilt 111 = .ok (.putfield 181, 3) := by decide +kernel
theorem dX12_spoilt_114 : decode cX12_spoilt 114 = .ok (.lload 9, 2) := by decide +kernel
theorem dX12_spoilt_116 : decode cX12_spoilt 116 = .ok (.lload 7, 2) := by decide +kernel
theorem dX12_spoilt_118 : decode cX12_spoilt 118 = .ok (.lmul, 1) := by decide +kernel
theorem dX12_spoilt_119 : decode cX12_spoilt 119 = .ok (.lstore 9, 2) := by decide +kernel
theorem dX12_spoilt_121 : decode cX12_spoilt 121 = .ok (.aload_n 0, 1) := by decide +kernel
theorem dX12_spoilt_122 : decode cX12_spoilt 122 = .ok (.dup, 1) := by decide +kernel
theorem dX12_spoilt_123 : decode cX12_spoilt 123 = .ok (.getfield 196, 3) := by decide +kernel
theorem dX12_spoilt_126 : decode cX12_spoilt 126 = .ok (.lload 7, 2) := by decide +kernel
theorem dX12_spoilt_128 : decode cX12_spoilt 128 = .ok (.lmul, 1) := by decide +kernel
theorem dX12_spoilt_129 : decode cX12_spoilt 129 = .ok (.putfield 196, 3) := by decide +kernel
theorem dX12_spoilt_132 : decode cX12_spoilt 132 = .ok (.iconst 0, 1) := by decide +kernel
theorem dX12_spoilt_133 : decode cX12_spoilt 133 = .ok (.istore 12, 2) := by decide +kernel
theorem dX12_spoilt_135 : decode cX12_spoilt 135 = .ok (.iload 12, 2) := by decide +kernel
theorem dX12_spoilt_137 : decode cX12_spoilt 137 = .ok (.aload_n 0, 1) := by decide +kernel
theorem dX12_spoilt_138 : decode cX12_spoilt 138 = .ok (.getfield 203, 3) := by decide +kernel
theorem dX12_spoilt_141 : decode cX12_spoilt 141 = .ok (.if_icmp .ge 190, 3) := by decide +kernel
theorem dX12_spoilt_144 : decode cX12_spoilt 144 = .ok (.iconst 0, 1) := by decide +kernel
theorem dX12_spoilt_145 : decode cX12_spoilt 145 = .ok (.istore 13, 2) := by decide +kernel
theorem dX12_spoilt_147 : decode cX12_spoilt 147 = .ok (.iload 13, 2) := by decide +kernel
theorem dX12_spoilt_149 : decode cX12_spoilt 149 = .ok (.bipush 7, 2) := by decide +kernel
theorem dX12_spoilt_151 : decode cX12_spoilt 151 = .ok (.if_icmp .ge 174, 3) := by decide +kernel
theorem dX12_spoilt_154 : decode cX12_spoilt 154 = .ok (.aload_n 0, 1) := by decide +kernel
theorem dX12_spoilt_155 : decode cX12_spoilt 155 = .ok (.getfield 17, 3) := by decide +kernel
theorem dX12_spoilt_158 : decode cX12_spoilt 158 = .ok (.bipush 7, 2) := by decide +kernel
theorem dX12_spoilt_160 : decode cX12_spoilt 160 = .ok (.iload_n 1, 1) := by decide +kernel
theorem dX12_spoilt_161 : decode cX12_spoilt 161 = .ok (.imul, 1) := by decide +kernel
theorem dX12_spoilt_162 : decode cX12_spoilt 162 = .ok (.iload 13, 2) := by decide +kernel
theorem dX12_spoilt_164 : decode cX12_spoilt 164 = .ok (.iadd, 1) := by decide +kernel
theorem dX12_spoilt_165 : decode cX12_spoilt 165 = .ok (.iaload, 1) := by decide +kernel
theorem dX12_spoilt_166 : decode cX12_spoilt 166 = .ok (.istore 14, 2) := by decide +kernel
theorem dX12_spoilt_168 : decode cX12_spoilt 168 = .ok (.iload 14, 2) := by decide +kernel
theorem dX12_spoilt_170 : decode cX12_spoilt 170 = .ok (.ifCond .le 149, 3) := by decide +kernel
theorem dX12_spoilt_173 : decode cX12_spoilt 173 = .ok (.aload_n 0, 1) := by decide +kernel
theorem dX12_spoilt_174 : decode cX12_spoilt 174 = .ok (.aload_n 0, 1) := by decide +kernel
theorem dX12_spoilt_175 : decode cX12_spoilt 175 = .ok (.getfield 51, 3) := by decide +kernel
theorem dX12_spoilt_178 : decode cX12_spoilt 178 = .ok (.iload 12, 2) := by decide +kernel
theorem dX12_spoilt_180 : decode cX12_spoilt 180 = .ok (.iaload, 1) := by decide +kernel
theorem dX12_spoilt_181 : decode cX12_spoilt 181 = .ok (.bipush 25, 2) := by decide +kernel
theorem dX12_spoilt_183 : decode cX12_spoilt 183 = .ok (.idiv, 1) := by decide +kernel
theorem dX12_spoilt_184 : decode cX12_spoilt 184 = .ok (.putfield 262, 3) := by decide +kernel
theorem dX12_spoilt_187 : decode cX12_spoilt 187 = .ok (.aload_n 0, 1) := by decide +kernel
theorem dX12_spoilt_188 : decode cX12_spoilt 188 = .ok (.aload_n 0, 1) := by decide +kernel
theorem dX12_spoilt_189 : decode cX12_spoilt 189 = .ok (.getfield 51, 3) := by decide +kernel
theorem dX12_spoilt_192 : decode cX12_spoilt 192 = .ok (.iload 12, 2) := by decide +kernel
theorem dX12_spoilt_194 : decode cX12_spoilt 194 = .ok (.iaload, 1) := by decide +kernel
theorem dX12_spoilt_195 : decode cX12_spoilt 195 = .ok (.bipush 25, 2) := by decide +kernel
theorem dX12_spoilt_197 : decode cX12_spoilt 197 = .ok (.irem, 1) := by decide +kernel
theorem dX12_spoilt_198 : decode cX12_spoilt 198 = .ok (.putfield 265, 3) := by decide +kernel
theorem dX12_spoilt_201 : decode cX12_spoilt 201 = .ok (.aload_n 0, 1) := by decide +kernel
theorem dX12_spoilt_202 : decode cX12_spoilt 202 = .ok (.iload_n 2, 1) := by decide +kernel
theorem dX12_spoilt_203 : decode cX12_spoilt 203 = .ok (.aload_n 0, 1) := by decide +kernel
theorem dX12_spoilt_204 : decode cX12_spoilt 204 = .ok (.getfield 262, 3) := by decide +kernel
theorem dX12_spoilt_207 : decode cX12_spoilt 207 = .ok (.isub, 1) := by decide +kernel
theorem dX12_spoilt_208 : decode cX12_spoilt 208 = .ok (.aload_n 0, 1) := by decide +kernel
theorem dX12_spoilt_209 : decode cX12_spoilt 209 = .ok (.getfield 265, 3) := by decide +kernel
theorem dX12_spoilt_212 : decode cX12_spoilt 212 = .ok (.isub, 1) := by decide +kernel
theorem dX12_spoilt_213 : decode cX12_spoilt 213 = .ok (.putfield 259, 3) := by decide +kernel
theorem dX12_spoilt_216 : decode cX12_spoilt 216 = .ok (.aload_n 0, 1) := by decide +kernel
theorem dX12_spoilt_217 : decode cX12_spoilt 217 = .ok (.iload 13, 2) := by decide +kernel
theorem dX12_spoilt_219 : decode cX12_spoilt 219 = .ok (.iload 5, 2) := by decide +kernel
theorem dX12_spoilt_221 : decode cX12_spoilt 221 = .ok (.invokevirtual 268, 3) := by decide +kernel
theorem dX12_spoilt_224 : decode cX12_spoilt 224 = .ok (.iload_n 3, 1) := by decide +kernel
theorem dX12_spoilt_225 : decode cX12_spoilt 225 = .ok (.iconst 1, 1) := by decide +kernel
theorem dX12_spoilt_226 : decode cX12_spoilt 226 = .ok (.if_icmp .ne 10, 3) := by decide +kernel
theorem dX12_spoilt_229 : decode cX12_spoilt 229 = .ok (.aload_n 0, 1) := by decide +kernel
theorem dX12_spoilt_230 : decode cX12_spoilt 230 = .ok (.getfield 259, 3) := by decide +kernel
theorem dX12_spoilt_233 : decode cX12_spoilt 233 = .ok (.goto 19, 3) := by decide +kernel
theorem dX12_spoilt_236 : decode cX12_spoilt 236 = .ok (.iload_n 3, 1) := by decide +kernel
theorem dX12_spoilt_237 : decode cX12_spoilt 237 = .ok (.iconst 2, 1) := by decide +kernel
theorem dX12_spoilt_238 : decode cX12_spoilt 238 = .ok (.if_icmp .ne 10, 3) := by decide +kernel
theorem dX12_spoilt_241 : decode cX12_spoilt 241 = .ok (.aload_n 0, 1) := by decide +kernel
theorem dX12_spoilt_242 : decode cX12_spoilt 242 = .ok (.getfield 262, 3) := by decide +kernel
theorem dX12_spoilt_245 : decode cX12_spoilt 245 = .ok (.goto 7, 3) := by decide +kernel
theorem dX12_spoilt_248 : decode cX12_spoilt 248 = .ok (.aload_n 0, 1) := by decide +kernel
theorem dX12_spoilt_249 : decode cX12_spoilt 249 = .ok (.getfield 265, 3) := by decide +kernel
theorem dX12_spoilt_252 : decode cX12_spoilt 252 = .ok (.istore 15, 2) := by decide +kernel
theorem dX12_spoilt_254 : decode cX12_spoilt 254 = .ok (.lload 9, 2) := by decide +kernel
theorem dX12_spoilt_256 : decode cX12_spoilt 256 = .ok (.aload_n 0, 1) := by decide +kernel
theorem dX12_spoilt_257 : decode cX12_spoilt 257 = .ok (.getfield 54, 3) := by decide +kernel
theorem dX12_spoilt_260 : decode cX12_spoilt 260 = .ok (.iload 12, 2) := by decide +kernel
theorem dX12_spoilt_262 : decode cX12_spoilt 262 = .ok (.laload, 1) := by decide +kernel
theorem dX12_spoilt_263 : decode cX12_spoilt 263 = .ok (.iload 14, 2) := by decide +kernel
theorem dX12_spoilt_265 : decode cX12_spoilt 265 = .ok (.i2l, 1) := by decide +kernel
theorem dX12_spoilt_266 : decode cX12_spoilt 266 = .ok (.lmul, 1) := by decide +kernel
theorem dX12_spoilt_267 : decode cX12_spoilt 267 = .ok (.iload 15, 2) := by decide +kernel
theorem dX12_spoilt_269 : decode cX12_spoilt 269 = .ok (.i2l, 1) := by decide +kernel
theorem dX12_spoilt_270 : decode cX12_spoilt 270 = .ok (.lmul, 1) := by decide +kernel
theorem dX12_spoilt_271 : decode cX12_spoilt 271 = .ok (.ladd, 1) := by decide +kernel
theorem dX12_spoilt_272 : decode cX12_spoilt 272 = .ok (.lstore 9, 2) := by decide +kernel
theorem dX12_spoilt_274 : decode cX12_spoilt 274 = .ok (.aload_n 0, 1) := by decide +kernel
theorem dX12_spoilt_275 : decode cX12_spoilt 275 = .ok (.bipush 25, 2) := by decide +kernel
theorem dX12_spoilt_277 : decode cX12_spoilt 277 = .ok (.iload_n 3, 1) := by decide +kernel
theorem dX12_spoilt_278 : decode cX12_spoilt 278 = .ok (.iconst 1, 1) := by decide +kernel
theorem dX12_spoilt_279 : decode cX12_spoilt 279 = .ok (.if_icmp .le 10, 3) := by decide +kernel
theorem dX12_spoilt_282 : decode cX12_spoilt 282 = .ok (.aload_n 0, 1) := by decide +kernel
theorem dX12_spoilt_283 : decode cX12_spoilt 283 = .ok (.getfield 259, 3) := by decide +kernel
theorem dX12_spoilt_286 : decode cX12_spoilt 286 = .ok (.goto 4, 3) := by decide +kernel
theorem dX12_spoilt_289 : decode cX12_spoilt 289 = .ok (.iconst 0, 1) := by decide +kernel
theorem dX12_spoilt_290 : decode cX12_spoilt 290 = .ok (.imul, 1) := by decide +kernel
theorem dX12_spoilt_291 : decode cX12_spoilt 291 = .ok (.iload_n 3, 1) := by decide +kernel
theorem dX12_spoilt_292 : decode cX12_spoilt 292 = .ok (.iconst 2, 1) := by decide +kernel
theorem dX12_spoilt_293 : decode cX12_spoilt 293 = .ok (.if_icmp .le 10, 3) := by decide +kernel
theorem dX12_spoilt_296 : decode cX12_spoilt 296 = .ok (.aload_n 0, 1) := by decide +kernel
theorem dX12_spoilt_297 : decode cX12_spoilt 297 = .ok (.getfield 262, 3) := by decide +kernel
theorem dX12_spoilt_300 : decode cX12_spoilt 300 = .ok (.goto 4, 3) := by decide +kernel
theorem dX12_spoilt_303 : decode cX12_spoilt 303 = .ok (.iconst 0, 1) := by decide +kernel
theorem dX12_spoilt_304 : decode cX12_spoilt 304 = .ok (.iadd, 1) := by decide +kernel
theorem dX12_spoilt_305 : decode cX12_spoilt 305 = .ok (.aload_n 0, 1) := by decide +kernel
theorem dX12_spoilt_306 : decode cX12_spoilt 306 = .ok (.getfield 54, 3) := by decide +kernel
theorem dX12_spoilt_309 : decode cX12_spoilt 309 = .ok (.iload 12, 2) := by decide +kernel
theorem dX12_spoilt_311 : decode cX12_spoilt 311 = .ok (.laload, 1) := by decide +kernel
theorem dX12_spoilt_312 : decode cX12_spoilt 312 = .ok (.iload 14, 2) := by decide +kernel
theorem dX12_spoilt_314 : decode cX12_spoilt 314 = .ok (.i2l, 1) := by decide +kernel
theorem dX12_spoilt_315 : decode cX12_spoilt 315 = .ok (.lmul, 1) := by decide +kernel
theorem dX12_spoilt_316 : decode cX12_spoilt 316 = .ok (.invokevirtual 217, 3) := by decide +kernel
theorem dX12_spoilt_319 : decode cX12_spoilt 319 = .ok (.iinc 13 1, 3) := by decide +kernel
theorem dX12_spoilt_322 : decode cX12_spoilt 322 = .ok (.goto (-175), 3) := by decide +kernel
theorem dX12_spoilt_325 : decode cX12_spoilt 325 = .ok (.iinc 12 1, 3) := by decide +kernel
theorem dX12_spoilt_328 : decode cX12_spoilt 328 = .ok (.goto (-193), 3) := by decide +kernel
theorem dX12_spoilt_331 : decode cX12_spoilt 331 = .ok (.aload_n 0, 1) := by decide +kernel
theorem dX12_spoilt_332 : decode cX12_spoilt 332 = .ok (.aload_n 0, 1) := by decide +kernel
theorem dX12_spoilt_333 : decode cX12_spoilt 333 = .ok (.getfield 181, 3) := by decide +kernel
theorem dX12_spoilt_336 : decode cX12_spoilt 336 = .ok (.putfield 203, 3) := by decide +kernel
theorem dX12_spoilt_339 : decode cX12_spoilt 339 = .ok (.iconst 0, 1) := by decide +kernel
theorem dX12_spoilt_340 : decode cX12_spoilt 340 = .ok (.istore 12, 2) := by decide +kernel
theorem dX12_spoilt_342 : decode cX12_spoilt 342 = .ok (.iload 12, 2) := by decide +kernel
theorem dX12_spoilt_344 : decode cX12_spoilt 344 = .ok (.aload_n 0, 1) := by decide +kernel
theorem dX12_spoilt_345 : decode cX12_spoilt 345 = .ok (.getfield 203, 3) := by decide +kernel
theorem dX12_spoilt_348 : decode cX12_spoilt 348 = .ok (.if_icmp .ge 37, 3) := by decide +kernel
theorem dX12_spoilt_351 : decode cX12_spoilt 351 = .ok (.aload_n 0, 1) := by decide +kernel
theorem dX12_spoilt_352 : decode cX12_spoilt 352 = .ok (.getfield 51, 3) := by decide +kernel
theorem dX12_spoilt_355 : decode cX12_spoilt 355 = .ok (.iload 12, 2) := by decide +kernel
theorem dX12_spoilt_357 : decode cX12_spoilt 357 = .ok (.aload_n 0, 1) := by decide +kernel
theorem dX12_spoilt_358 : decode cX12_spoilt 358 = .ok (.getfield 58, 3) := by decide +kernel
theorem dX12_spoilt_361 : decode cX12_spoilt 361 = .ok (.iload 12, 2) := by decide +kernel
theorem dX12_spoilt_363 : decode cX12_spoilt 363 = .ok (.iaload, 1) := by decide +kernel
theorem dX12_spoilt_364 : decode cX12_spoilt 364 = .ok (.iastore, 1) := by decide +kernel
theorem dX12_spoilt_365 : decode cX12_spoilt 365 = .ok (.aload_n 0, 1) := by decide +kernel
theorem dX12_spoilt_366 : decode cX12_spoilt 366 = .ok (.getfield 54, 3) := by decide +kernel
theorem dX12_spoilt_369 : decode cX12_spoilt 369 = .ok (.iload 12, 2) := by decide +kernel
theorem dX12_spoilt_371 : decode cX12_spoilt 371 = .ok (.aload_n 0, 1) := by decide +kernel
theorem dX12_spoilt_372 : decode cX12_spoilt 372 = .ok (.getfield 61, 3) := by decide +kernel
theorem dX12_spoilt_375 : decode cX12_spoilt 375 = .ok (.iload 12, 2) := by decide +kernel
theorem dX12_spoilt_377 : decode cX12_spoilt 377 = .ok (.laload, 1) := by decide +kernel
theorem dX12_spoilt_378 : decode cX12_spoilt 378 = .ok (.lastore, 1) := by decide +kernel
theorem dX12_spoilt_379 : decode cX12_spoilt 379 = .ok (.iinc 12 1, 3) := by decide +kernel
theorem dX12_spoilt_382 : decode cX12_spoilt 382 = .ok (.goto (-40), 3) := by decide +kernel
theorem dX12_spoilt_385 : decode cX12_spoilt 385 = .ok (.iinc 11 1, 3) := by decide +kernel
theorem dX12_spoilt_388 : decode cX12_spoilt 388 = .ok (.goto (-296), 3) := by decide +kernel
theorem dX12_spoilt_391 : decode cX12_spoilt 391 = .ok (.aload_n 0, 1) := by decide +kernel
theorem dX12_spoilt_392 : decode cX12_spoilt 392 = .ok (.lload 9, 2) := by decide +kernel
theorem dX12_spoilt_394 : decode cX12_spoilt 394 = .ok (.aload_n 0, 1) := by decide +kernel
theorem dX12_spoilt_395 : decode cX12_spoilt 395 = .ok (.getfield 196, 3) := by decide +kernel
theorem dX12_spoilt_398 : decode cX12_spoilt 398 = .ok (.iconst 1, 1) := by decide +kernel
theorem dX12_spoilt_399 : decode cX12_spoilt 399 = .ok (.invokevirtual 236, 3) := by decide +kernel
theorem dX12_spoilt_402 : decode cX12_spoilt 402 = .ok (.ireturn, 1) := by decide +kernel
theorem dX12_see_0 : decode cX12_see 0 = .ok (.iload_n 1, 1) := by decide +kernel
theorem dX12_see_1 : decode cX12_see 1 = .ok (.iconst 0, 1) := by decide +kernel
theorem dX12_see_2 : decode cX12_see 2 = .ok (.bipush 6, 2) := by decide +kernel
theorem dX12_see_4 : decode cX12_see 4 = .ok (.invokestatic 108, 3) := by decide +kernel
theorem dX12_see_7 : decode cX12_see 7 = .ok (.ifCond .ne 5, 3) := by decide +kernel
theorem dX12_see_10 : decode cX12_see 10 = .ok (.iconst (-1), 1) := by decide +kernel
theorem dX12_see_11 : decode cX12_see 11 = .ok (.ireturn, 1) := by decide +kernel
theorem dX12_see_12 : decode cX12_see 12 = .ok (.aload_n 0, 1) := by decide +kernel
theorem dX12_see_13 : decode cX12_see 13 = .ok (.getfield 272, 3) := by decide +kernel
theorem dX12_see_16 : decode cX12_see 16 = .ok (.bipush 6, 2) := by decide +kernel
theorem dX12_see_18 : decode cX12_see 18 = .ok (.if_icmp .ne 6, 3) := by decide +kernel
theorem dX12_see_21 : decode cX12_see 21 = .ok (.bipush (-2), 2) := by decide +kernel
theorem dX12_see_23 : decode cX12_see 23 = .ok (.ireturn, 1) := by decide +kernel
theorem dX12_see_24 : decode cX12_see 24 = .ok (.aload_n 0, 1) := by decide +kernel
theorem dX12_see_25 : decode cX12_see 25 = .ok (.getfield 76, 3) := by decide +kernel
theorem dX12_see_28 : decode cX12_see 28 = .ok (.aload_n 0, 1) := by decide +kernel
theorem dX12_see_29 : decode cX12_see 29 = .ok (.getfield 272, 3) := by decide +kernel
theorem dX12_see_32 : decode cX12_see 32 = .ok (.iload_n 1, 1) := by decide +kernel
theorem dX12_see_33 : decode cX12_see 33 = .ok (.iastore, 1) := by decide +kernel
theorem dX12_see_34 : decode cX12_see 34 = .ok (.aload_n 0, 1) := by decide +kernel
theorem dX12_see_35 : decode cX12_see 35 = .ok (.dup, 1) := by decide +kernel
theorem dX12_see_36 : decode cX12_see 36 = .ok (.getfield 272, 3) := by decide +kernel
theorem dX12_see_39 : decode cX12_see 39 = .ok (.iconst 1, 1) := by decide +kernel
theorem dX12_see_40 : decode cX12_see 40 = .ok (.iadd, 1) := by decide +kernel
theorem dX12_see_41 : decode cX12_see 41 = .ok (.putfield 272, 3) := by decide +kernel
theorem dX12_see_44 : decode cX12_see 44 = .ok (.aload_n 0, 1) := by decide +kernel
theorem dX12_see_45 : decode cX12_see 45 = .ok (.getfield 272, 3) := by decide +kernel
theorem dX12_see_48 : decode cX12_see 48 = .ok (.ireturn, 1) := by decide +kernel
theorem dX12_forget_0 : decode cX12_forget 0 = .ok (.aload_n 0, 1) := by decide +kernel
theorem dX12_forget_1 : decode cX12_forget 1 = .ok (.getfield 272, 3) := by decide +kernel
theorem dX12_forget_4 : decode cX12_forget 4 = .ok (.istore_n 1, 1) := by decide +kernel
theorem dX12_forget_5 : decode cX12_forget 5 = .ok (.aload_n 0, 1) := by decide +kernel
theorem dX12_forget_6 : decode cX12_forget 6 = .ok (.iconst 0, 1) := by decide +kernel
theorem dX12_forget_7 : decode cX12_forget 7 = .ok (.putfield 272, 3) := by decide +kernel
theorem dX12_forget_10 : decode cX12_forget 10 = .ok (.iload_n 1, 1) := by decide +kernel
theorem dX12_forget_11 : decode cX12_forget 11 = .ok (.ireturn, 1) := by decide +kernel
theorem dX12_doubt_0 : decode cX12_doubt 0 = .ok (.iload_n 1, 1) := by decide +kernel
theorem dX12_doubt_1 : decode cX12_doubt 1 = .ok (.invokestatic 119, 3) := by decide +kernel
theorem dX12_doubt_4 : decode cX12_doubt 4 = .ok (.ifCond .eq 36, 3) := by decide +kernel
theorem dX12_doubt_7 : decode cX12_doubt 7 = .ok (.iload_n 2, 1) := by decide +kernel
theorem dX12_doubt_8 : decode cX12_doubt 8 = .ok (.invokestatic 119, 3) := by decide +kernel
theorem dX12_doubt_11 : decode cX12_doubt 11 = .ok (.ifCond .eq 29, 3) := by decide +kernel
theorem dX12_doubt_14 : decode cX12_doubt 14 = .ok (.iload_n 1, 1) := by decide +kernel
theorem dX12_doubt_15 : decode cX12_doubt 15 = .ok (.iload_n 2, 1) := by decide +kernel
theorem dX12_doubt_16 : decode cX12_doubt 16 = .ok (.if_icmp .eq 24, 3) := by decide +kernel
theorem dX12_doubt_19 : decode cX12_doubt 19 = .ok (.iload_n 3, 1) := by decide +kernel
theorem dX12_doubt_20 : decode cX12_doubt 20 = .ok (.iconst 1, 1) := by decide +kernel
theorem dX12_doubt_21 : decode cX12_doubt 21 = .ok (.bipush 9, 2) := by decide +kernel
theorem dX12_doubt_23 : decode cX12_doubt 23 = .ok (.invokestatic 108, 3) := by decide +kernel
theorem dX12_doubt_26 : decode cX12_doubt 26 = .ok (.ifCond .eq 14, 3) := by decide +kernel
theorem dX12_doubt_29 : decode cX12_doubt 29 = .ok (.iload 4, 2) := by decide +kernel
theorem dX12_doubt_31 : decode cX12_doubt 31 = .ok (.iconst 1, 1) := by decide +kernel
theorem dX12_doubt_32 : decode cX12_doubt 32 = .ok (.bipush 9, 2) := by decide +kernel
theorem dX12_doubt_34 : decode cX12_doubt 34 = .ok (.invokestatic 108, 3) := by decide +kernel
theorem dX12_doubt_37 : decode cX12_doubt 37 = .ok (.ifCond .ne 5, 3) := by decide +kernel
theorem dX12_doubt_40 : decode cX12_doubt 40 = .ok (.iconst (-1), 1) := by decide +kernel
theorem dX12_doubt_41 : decode cX12_doubt 41 = .ok (.ireturn, 1) := by decide +kernel
theorem dX12_doubt_42 : decode cX12_doubt 42 = .ok (.aload_n 0, 1) := by decide +kernel
theorem dX12_doubt_43 : decode cX12_doubt 43 = .ok (.getfield 13, 3) := by decide +kernel
theorem dX12_doubt_46 : decode cX12_doubt 46 = .ok (.iload_n 1, 1) := by decide +kernel
theorem dX12_doubt_47 : decode cX12_doubt 47 = .ok (.baload, 1) := by decide +kernel
theorem dX12_doubt_48 : decode cX12_doubt 48 = .ok (.ifCond .eq 12, 3) := by decide +kernel
theorem dX12_doubt_51 : decode cX12_doubt 51 = .ok (.aload_n 0, 1) := by decide +kernel
theorem dX12_doubt_52 : decode cX12_doubt 52 = .ok (.getfield 13, 3) := by decide +kernel
theorem dX12_doubt_55 : decode cX12_doubt 55 = .ok (.iload_n 2, 1) := by decide +kernel
theorem dX12_doubt_56 : decode cX12_doubt 56 = .ok (.baload, 1) := by decide +kernel
theorem dX12_doubt_57 : decode cX12_doubt 57 = .ok (.ifCond .ne 9, 3) := by decide +kernel
theorem dX12_doubt_60 : decode cX12_doubt 60 = .ok (.aload_n 0, 1) := by decide +kernel
theorem dX12_doubt_61 : decode cX12_doubt 61 = .ok (.iconst 1, 1) := by decide +kernel
theorem dX12_doubt_62 : decode cX12_doubt 62 = .ok (.invokevirtual 123, 3) := by decide +kernel
theorem dX12_doubt_65 : decode cX12_doubt 65 = .ok (.ireturn, 1) := by decide +kernel
theorem dX12_doubt_66 : decode cX12_doubt 66 = .ok (.iload_n 3, 1) := by decide +kernel
theorem dX12_doubt_67 : decode cX12_doubt 67 = .ok (.i2l, 1) := by decide +kernel
theorem dX12_doubt_68 : decode cX12_doubt 68 = .ok (.lstore 5, 2) := by decide +kernel
theorem dX12_doubt_70 : decode cX12_doubt 70 = .ok (.iload 4, 2) := by decide +kernel
theorem dX12_doubt_72 : decode cX12_doubt 72 = .ok (.i2l, 1) := by decide +kernel
theorem dX12_doubt_73 : decode cX12_doubt 73 = .ok (.lstore 7, 2) := by decide +kernel
theorem dX12_doubt_75 : decode cX12_doubt 75 = .ok (.iconst 0, 1) := by decide +kernel
theorem dX12_doubt_76 : decode cX12_doubt 76 = .ok (.istore 9, 2) := by decide +kernel
theorem dX12_doubt_78 : decode cX12_doubt 78 = .ok (.iload 9, 2) := by decide +kernel
theorem dX12_doubt_80 : decode cX12_doubt 80 = .ok (.aload_n 0, 1) := by decide +kernel
theorem dX12_doubt_81 : decode cX12_doubt 81 = .ok (.getfield 272, 3) := by decide +kernel
theorem dX12_doubt_84 : decode cX12_doubt 84 = .ok (.if_icmp .ge 69, 3) := by decide +kernel
theorem dX12_doubt_87 : decode cX12_doubt 87 = .ok (.lload 5, 2) := by decide +kernel
theorem dX12_doubt_89 : decode cX12_doubt 89 = .ok (.aload_n 0, 1) := by decide +kernel
theorem dX12_doubt_90 : decode cX12_doubt 90 = .ok (.getfield 17, 3) := by decide +kernel
theorem dX12_doubt_93 : decode cX12_doubt 93 = .ok (.bipush 7, 2) := by decide +kernel
theorem dX12_doubt_95 : decode cX12_doubt 95 = .ok (.iload_n 1, 1) := by decide +kernel
theorem dX12_doubt_96 : decode cX12_doubt 96 = .ok (.imul, 1) := by decide +kernel
theorem dX12_doubt_97 : decode cX12_doubt 97 = .ok (.aload_n 0, 1) := by decide +kernel
theorem dX12_doubt_98 : decode cX12_doubt 98 = .ok (.getfield 76, 3) := by decide +kernel
theorem dX12_doubt_101 : decode cX12_doubt 101 = .ok (.iload 9, 2) := by decide +kernel
theorem dX12_doubt_103 : decode cX12_doubt 103 = .ok (.iaload, 1) := by decide +kernel
theorem dX12_doubt_104 : decode cX12_doubt 104 = .ok (.iadd, 1) := by decide +kernel
theorem dX12_doubt_105 : decode cX12_doubt 105 = .ok (.iaload, 1) := by decide +kernel
theorem dX12_doubt_106 : decode cX12_doubt 106 = .ok (.i2l, 1) := by decide +kernel
theorem dX12_doubt_107 : decode cX12_doubt 107 = .ok (.aload_n 0, 1) := by decide +kernel
theorem dX12_doubt_108 : decode cX12_doubt 108 = .ok (.iload_n 2, 1) := by decide +kernel
theorem dX12_doubt_109 : decode cX12_doubt 109 = .ok (.invokevirtual 129, 3) := by decide +kernel
theorem dX12_doubt_112 : decode cX12_doubt 112 = .ok (.i2l, 1) := by decide +kernel
theorem dX12_doubt_113 : decode cX12_doubt 113 = .ok (.lmul, 1) := by decide +kernel
theorem dX12_doubt_114 : decode cX12_doubt 114 = .ok (.lmul, 1) := by decide +kernel
theorem dX12_doubt_115 : decode cX12_doubt 115 = .ok (.lstore 5, 2) := by decide +kernel
theorem dX12_doubt_117 : decode cX12_doubt 117 = .ok (.lload 7, 2) := by decide +kernel
theorem dX12_doubt_119 : decode cX12_doubt 119 = .ok (.aload_n 0, 1) := by decide +kernel
theorem dX12_doubt_120 : decode cX12_doubt 120 = .ok (.getfield 17, 3) := by decide +kernel
theorem dX12_doubt_123 : decode cX12_doubt 123 = .ok (.bipush 7, 2) := by decide +kernel
theorem dX12_doubt_125 : decode cX12_doubt 125 = .ok (.iload_n 2, 1) := by decide +kernel
theorem dX12_doubt_126 : decode cX12_doubt 126 = .ok (.imul, 1) := by decide +kernel
theorem dX12_doubt_127 : decode cX12_doubt 127 = .ok (.aload_n 0, 1) := by decide +kernel
theorem dX12_doubt_128 : decode cX12_doubt 128 = .ok (.getfield 76, 3) := by decide +kernel
theorem dX12_doubt_131 : decode cX12_doubt 131 = .ok (.iload 9, 2) := by decide +kernel
theorem dX12_doubt_133 : decode cX12_doubt 133 = .ok (.iaload, 1) := by decide +kernel
theorem dX12_doubt_134 : decode cX12_doubt 134 = .ok (.iadd, 1) := by decide +kernel
theorem dX12_doubt_135 : decode cX12_doubt 135 = .ok (.iaload, 1) := by decide +kernel
theorem dX12_doubt_136 : decode cX12_doubt 136 = .ok (.i2l, 1) := by decide +kernel
theorem dX12_doubt_137 : decode cX12_doubt 137 = .ok (.aload_n 0, 1) := by decide +kernel
theorem dX12_doubt_138 : decode cX12_doubt 138 = .ok (.iload_n 1, 1) := by decide +kernel
theorem dX12_doubt_139 : decode cX12_doubt 139 = .ok (.invokevirtual 129, 3) := by decide +kernel
theorem dX12_doubt_142 : decode cX12_doubt 142 = .ok (.i2l, 1) := by decide +kernel
theorem dX12_doubt_143 : decode cX12_doubt 143 = .ok (.lmul, 1) := by decide +kernel
theorem dX12_doubt_144 : decode cX12_doubt 144 = .ok (.lmul, 1) := by decide +kernel
theorem dX12_doubt_145 : decode cX12_doubt 145 = .ok (.lstore 7, 2) := by decide +kernel
theorem dX12_doubt_147 : decode cX12_doubt 147 = .ok (.iinc 9 1, 3) := by decide +kernel
theorem dX12_doubt_150 : decode cX12_doubt 150 = .ok (.goto (-72), 3) := by decide +kernel
theorem dX12_doubt_153 : decode cX12_doubt 153 = .ok (.aload_n 0, 1) := by decide +kernel
theorem dX12_doubt_154 : decode cX12_doubt 154 = .ok (.iload_n 1, 1) := by decide +kernel
theorem dX12_doubt_155 : decode cX12_doubt 155 = .ok (.invokevirtual 129, 3) := by decide +kernel
theorem dX12_doubt_158 : decode cX12_doubt 158 = .ok (.ifCond .eq 21, 3) := by decide +kernel
theorem dX12_doubt_161 : decode cX12_doubt 161 = .ok (.aload_n 0, 1) := by decide +kernel
theorem dX12_doubt_162 : decode cX12_doubt 162 = .ok (.iload_n 2, 1) := by decide +kernel
theorem dX12_doubt_163 : decode cX12_doubt 163 = .ok (.invokevirtual 129, 3) := by decide +kernel
theorem dX12_doubt_166 : decode cX12_doubt 166 = .ok (.ifCond .eq 13, 3) := by decide +kernel
theorem dX12_doubt_169 : decode cX12_doubt 169 = .ok (.lload 5, 2) := by decide +kernel
theorem dX12_doubt_171 : decode cX12_doubt 171 = .ok (.lload 7, 2) := by decide +kernel
theorem dX12_doubt_173 : decode cX12_doubt 173 = .ok (.ladd, 1) := by decide +kernel
theorem dX12_doubt_174 : decode cX12_doubt 174 = .ok (.lconst 0, 1) := by decide +kernel
theorem dX12_doubt_175 : decode cX12_doubt 175 = .ok (.lcmp, 1) := by decide +kernel
theorem dX12_doubt_176 : decode cX12_doubt 176 = .ok (.ifCond .ne 9, 3) := by decide +kernel
theorem dX12_doubt_179 : decode cX12_doubt 179 = .ok (.aload_n 0, 1) := by decide +kernel
theorem dX12_doubt_180 : decode cX12_doubt 180 = .ok (.iconst 4, 1) := by decide +kernel
theorem dX12_doubt_181 : decode cX12_doubt 181 = .ok (.invokevirtual 123, 3) := by decide +kernel
theorem dX12_doubt_184 : decode cX12_doubt 184 = .ok (.ireturn, 1) := by decide +kernel
theorem dX12_doubt_185 : decode cX12_doubt 185 = .ok (.aload_n 0, 1) := by decide +kernel
theorem dX12_doubt_186 : decode cX12_doubt 186 = .ok (.lload 5, 2) := by decide +kernel
theorem dX12_doubt_188 : decode cX12_doubt 188 = .ok (.lload 5, 2) := by decide +kernel
theorem dX12_doubt_190 : decode cX12_doubt 190 = .ok (.lload 7, 2) := by decide +kernel
theorem dX12_doubt_192 : decode cX12_doubt 192 = .ok (.ladd, 1) := by decide +kernel
theorem dX12_doubt_193 : decode cX12_doubt 193 = .ok (.iconst 1, 1) := by decide +kernel
theorem dX12_doubt_194 : decode cX12_doubt 194 = .ok (.invokevirtual 236, 3) := by decide +kernel
theorem dX12_doubt_197 : decode cX12_doubt 197 = .ok (.ireturn, 1) := by decide +kernel
theorem dX12_count_0 : decode cX12_count 0 = .ok (.iconst 0, 1) := by decide +kernel
theorem dX12_count_1 : decode cX12_count 1 = .ok (.istore_n 2, 1) := by decide +kernel
theorem dX12_count_2 : decode cX12_count 2 = .ok (.iconst 0, 1) := by decide +kernel
theorem dX12_count_3 : decode cX12_count 3 = .ok (.istore_n 3, 1) := by decide +kernel
theorem dX12_count_4 : decode cX12_count 4 = .ok (.iload_n 3, 1) := by decide +kernel
theorem dX12_count_5 : decode cX12_count 5 = .ok (.aload_n 0, 1) := by decide +kernel
theorem dX12_count_6 : decode cX12_count 6 = .ok (.getfield 132, 3) := by decide +kernel
theorem dX12_count_9 : decode cX12_count 9 = .ok (.if_icmp .ge 26, 3) := by decide +kernel
theorem dX12_count_12 : decode cX12_count 12 = .ok (.iload_n 2, 1) := by decide +kernel
theorem dX12_count_13 : decode cX12_count 13 = .ok (.aload_n 0, 1) := by decide +kernel
theorem dX12_count_14 : decode cX12_count 14 = .ok (.getfield 48, 3) := by decide +kernel
theorem dX12_count_17 : decode cX12_count 17 = .ok (.iload_n 3, 1) := by decide +kernel
theorem dX12_count_18 : decode cX12_count 18 = .ok (.baload, 1) := by decide +kernel
theorem dX12_count_19 : decode cX12_count 19 = .ok (.ifCond .eq 7, 3) := by decide +kernel
theorem dX12_count_22 : decode cX12_count 22 = .ok (.iconst 0, 1) := by decide +kernel
theorem dX12_count_23 : decode cX12_count 23 = .ok (.goto 4, 3) := by decide +kernel
theorem dX12_count_26 : decode cX12_count 26 = .ok (.iconst 1, 1) := by decide +kernel
theorem dX12_count_27 : decode cX12_count 27 = .ok (.iadd, 1) := by decide +kernel
theorem dX12_count_28 : decode cX12_count 28 = .ok (.istore_n 2, 1) := by decide +kernel
theorem dX12_count_29 : decode cX12_count 29 = .ok (.iinc 3 1, 3) := by decide +kernel
theorem dX12_count_32 : decode cX12_count 32 = .ok (.goto (-28), 3) := by decide +kernel
theorem dX12_count_35 : decode cX12_count 35 = .ok (.iload_n 1, 1) := by decide +kernel
theorem dX12_count_36 : decode cX12_count 36 = .ok (.tableswitch 75 0 5 #[40, 45, 47, 52, 57, 62], 40) := by decide +kernel
theorem dX12_count_76 : decode cX12_count 76 = .ok (.aload_n 0, 1) := by decide +kernel
theorem dX12_count_77 : decode cX12_count 77 = .ok (.getfield 132, 3) := by decide +kernel
theorem dX12_count_80 : decode cX12_count 80 = .ok (.ireturn, 1) := by decide +kernel
theorem dX12_count_81 : decode cX12_count 81 = .ok (.iload_n 2, 1) := by decide +kernel
theorem dX12_count_82 : decode cX12_count 82 = .ok (.ireturn, 1) := by decide +kernel
theorem dX12_count_83 : decode cX12_count 83 = .ok (.aload_n 0, 1) := by decide +kernel
theorem dX12_count_84 : decode cX12_count 84 = .ok (.getfield 272, 3) := by decide +kernel
theorem dX12_count_87 : decode cX12_count 87 = .ok (.ireturn, 1) := by decide +kernel
theorem dX12_count_88 : decode cX12_count 88 = .ok (.aload_n 0, 1) := by decide +kernel
theorem dX12_count_89 : decode cX12_count 89 = .ok (.getfield 83, 3) := by decide +kernel
theorem dX12_count_92 : decode cX12_count 92 = .ok (.ireturn, 1) := by decide +kernel
theorem dX12_count_93 : decode cX12_count 93 = .ok (.aload_n 0, 1) := by decide +kernel
theorem dX12_count_94 : decode cX12_count 94 = .ok (.getfield 153, 3) := by decide +kernel
theorem dX12_count_97 : decode cX12_count 97 = .ok (.ireturn, 1) := by decide +kernel
theorem dX12_count_98 : decode cX12_count 98 = .ok (.aload_n 0, 1) := by decide +kernel
theorem dX12_count_99 : decode cX12_count 99 = .ok (.getfield 156, 3) := by decide +kernel
theorem dX12_count_102 : decode cX12_count 102 = .ok (.ifCond .eq 7, 3) := by decide +kernel
theorem dX12_count_105 : decode cX12_count 105 = .ok (.iconst 1, 1) := by decide +kernel
theorem dX12_count_106 : decode cX12_count 106 = .ok (.goto 4, 3) := by decide +kernel
theorem dX12_count_109 : decode cX12_count 109 = .ok (.iconst 0, 1) := by decide +kernel
theorem dX12_count_110 : decode cX12_count 110 = .ok (.ireturn, 1) := by decide +kernel
theorem dX12_count_111 : decode cX12_count 111 = .ok (.iconst (-1), 1) := by decide +kernel
theorem dX12_count_112 : decode cX12_count 112 = .ok (.ireturn, 1) := by decide +kernel
theorem dX12_digest_0 : decode cX12_digest 0 = .ok (.ldc2_w 275, 3) := by decide +kernel
theorem dX12_digest_3 : decode cX12_digest 3 = .ok (.lstore_n 1, 1) := by decide +kernel
theorem dX12_digest_4 : decode cX12_digest 4 = .ok (.iconst 0, 1) := by decide +kernel
theorem dX12_digest_5 : decode cX12_digest 5 = .ok (.istore_n 3, 1) := by decide +kernel
theorem dX12_digest_6 : decode cX12_digest 6 = .ok (.iload_n 3, 1) := by decide +kernel
theorem dX12_digest_7 : decode cX12_digest 7 = .ok (.bipush 6, 2) := by decide +kernel
theorem dX12_digest_9 : decode cX12_digest 9 = .ok (.if_icmp .ge 22, 3) := by decide +kernel
theorem dX12_digest_12 : decode cX12_digest 12 = .ok (.ldc2_w 277, 3) := by decide +kernel
theorem dX12_digest_15 : decode cX12_digest 15 = .ok (.lload_n 1, 1) := by decide +kernel
theorem dX12_digest_16 : decode cX12_digest 16 = .ok (.lmul, 1) := by decide +kernel
theorem dX12_digest_17 : decode cX12_digest 17 = .ok (.aload_n 0, 1) := by decide +kernel
theorem dX12_digest_18 : decode cX12_digest 18 = .ok (.iload_n 3, 1) := by decide +kernel
theorem dX12_digest_19 : decode cX12_digest 19 = .ok (.invokevirtual 279, 3) := by decide +kernel
theorem dX12_digest_22 : decode cX12_digest 22 = .ok (.i2l, 1) := by decide +kernel
theorem dX12_digest_23 : decode cX12_digest 23 = .ok (.ladd, 1) := by decide +kernel
theorem dX12_digest_24 : decode cX12_digest 24 = .ok (.lstore_n 1, 1) := by decide +kernel
theorem dX12_digest_25 : decode cX12_digest 25 = .ok (.iinc 3 1, 3) := by decide +kernel
theorem dX12_digest_28 : decode cX12_digest 28 = .ok (.goto (-22), 3) := by decide +kernel
theorem dX12_digest_31 : decode cX12_digest 31 = .ok (.ldc2_w 277, 3) := by decide +kernel
theorem dX12_digest_34 : decode cX12_digest 34 = .ok (.ldc2_w 277, 3) := by decide +kernel
theorem dX12_digest_37 : decode cX12_digest 37 = .ok (.ldc2_w 277, 3) := by decide +kernel
theorem dX12_digest_40 : decode cX12_digest 40 = .ok (.ldc2_w 277, 3) := by decide +kernel
theorem dX12_digest_43 : decode cX12_digest 43 = .ok (.lload_n 1, 1) := by decide +kernel
theorem dX12_digest_44 : decode cX12_digest 44 = .ok (.lmul, 1) := by decide +kernel
theorem dX12_digest_45 : decode cX12_digest 45 = .ok (.aload_n 0, 1) := by decide +kernel
theorem dX12_digest_46 : decode cX12_digest 46 = .ok (.getfield 87, 3) := by decide +kernel
theorem dX12_digest_49 : decode cX12_digest 49 = .ok (.i2l, 1) := by decide +kernel
theorem dX12_digest_50 : decode cX12_digest 50 = .ok (.ladd, 1) := by decide +kernel
theorem dX12_digest_51 : decode cX12_digest 51 = .ok (.lmul, 1) := by decide +kernel
theorem dX12_digest_52 : decode cX12_digest 52 = .ok (.aload_n 0, 1) := by decide +kernel
theorem dX12_digest_53 : decode cX12_digest 53 = .ok (.getfield 90, 3) := by decide +kernel
theorem dX12_digest_56 : decode cX12_digest 56 = .ok (.i2l, 1) := by decide +kernel
theorem dX12_digest_57 : decode cX12_digest 57 = .ok (.ladd, 1) := by decide +kernel
theorem dX12_digest_58 : decode cX12_digest 58 = .ok (.lmul, 1) := by decide +kernel
theorem dX12_digest_59 : decode cX12_digest 59 = .ok (.aload_n 0, 1) := by decide +kernel
theorem dX12_digest_60 : decode cX12_digest 60 = .ok (.getfield 93, 3) := by decide +kernel
theorem dX12_digest_63 : decode cX12_digest 63 = .ok (.i2l, 1) := by decide +kernel
theorem dX12_digest_64 : decode cX12_digest 64 = .ok (.ladd, 1) := by decide +kernel
theorem dX12_digest_65 : decode cX12_digest 65 = .ok (.lmul, 1) := by decide +kernel
theorem dX12_digest_66 : decode cX12_digest 66 = .ok (.aload_n 0, 1) := by decide +kernel
theorem dX12_digest_67 : decode cX12_digest 67 = .ok (.getfield 96, 3) := by decide +kernel
theorem dX12_digest_70 : decode cX12_digest 70 = .ok (.i2l, 1) := by decide +kernel
theorem dX12_digest_71 : decode cX12_digest 71 = .ok (.ladd, 1) := by decide +kernel
theorem dX12_digest_72 : decode cX12_digest 72 = .ok (.lstore_n 1, 1) := by decide +kernel
theorem dX12_digest_73 : decode cX12_digest 73 = .ok (.iconst 0, 1) := by decide +kernel
theorem dX12_digest_74 : decode cX12_digest 74 = .ok (.istore_n 3, 1) := by decide +kernel
theorem dX12_digest_75 : decode cX12_digest 75 = .ok (.iload_n 3, 1) := by decide +kernel
theorem dX12_digest_76 : decode cX12_digest 76 = .ok (.iconst 4, 1) := by decide +kernel
theorem dX12_digest_77 : decode cX12_digest 77 = .ok (.if_icmp .ge 75, 3) := by decide +kernel
theorem dX12_digest_80 : decode cX12_digest 80 = .ok (.aload_n 0, 1) := by decide +kernel
theorem dX12_digest_81 : decode cX12_digest 81 = .ok (.getfield 13, 3) := by decide +kernel
theorem dX12_digest_84 : decode cX12_digest 84 = .ok (.iload_n 3, 1) := by decide +kernel
theorem dX12_digest_85 : decode cX12_digest 85 = .ok (.baload, 1) := by decide +kernel
theorem dX12_digest_86 : decode cX12_digest 86 = .ok (.ifCond .eq 7, 3) := by decide +kernel
theorem dX12_digest_89 : decode cX12_digest 89 = .ok (.lload_n 1, 1) := by decide +kernel
theorem dX12_digest_90 : decode cX12_digest 90 = .ok (.goto 10, 3) := by decide +kernel
theorem dX12_digest_93 : decode cX12_digest 93 = .ok (.ldc2_w 277, 3) := by decide +kernel
theorem dX12_digest_96 : decode cX12_digest 96 = .ok (.lload_n 1, 1) := by decide +kernel
theorem dX12_digest_97 : decode cX12_digest 97 = .ok (.lmul, 1) := by decide +kernel
theorem dX12_digest_98 : decode cX12_digest 98 = .ok (.lconst 1, 1) := by decide +kernel
theorem dX12_digest_99 : decode cX12_digest 99 = .ok (.lsub, 1) := by decide +kernel
theorem dX12_digest_100 : decode cX12_digest 100 = .ok (.lstore_n 1, 1) := by decide +kernel
theorem dX12_digest_101 : decode cX12_digest 101 = .ok (.iconst 0, 1) := by decide +kernel
theorem dX12_digest_102 : decode cX12_digest 102 = .ok (.istore 4, 2) := by decide +kernel
theorem dX12_digest_104 : decode cX12_digest 104 = .ok (.iload 4, 2) := by decide +kernel
theorem dX12_digest_106 : decode cX12_digest 106 = .ok (.bipush 7, 2) := by decide +kernel
theorem dX12_digest_108 : decode cX12_digest 108 = .ok (.if_icmp .ge 38, 3) := by decide +kernel
theorem dX12_digest_111 : decode cX12_digest 111 = .ok (.aload_n 0, 1) := by decide +kernel
theorem dX12_digest_112 : decode cX12_digest 112 = .ok (.getfield 13, 3) := by decide +kernel
theorem dX12_digest_115 : decode cX12_digest 115 = .ok (.iload_n 3, 1) := by decide +kernel
theorem dX12_digest_116 : decode cX12_digest 116 = .ok (.baload, 1) := by decide +kernel
theorem dX12_digest_117 : decode cX12_digest 117 = .ok (.ifCond .eq 29, 3) := by decide +kernel
theorem dX12_digest_120 : decode cX12_digest 120 = .ok (.ldc2_w 277, 3) := by decide +kernel
theorem dX12_digest_123 : decode cX12_digest 123 = .ok (.lload_n 1, 1) := by decide +kernel
theorem dX12_digest_124 : decode cX12_digest 124 = .ok (.lmul, 1) := by decide +kernel
theorem dX12_digest_125 : decode cX12_digest 125 = .ok (.aload_n 0, 1) := by decide +kernel
theorem dX12_digest_126 : decode cX12_digest 126 = .ok (.getfield 17, 3) := by decide +kernel
theorem dX12_digest_129 : decode cX12_digest 129 = .ok (.bipush 7, 2) := by decide +kernel
theorem dX12_digest_131 : decode cX12_digest 131 = .ok (.iload_n 3, 1) := by decide +kernel
theorem dX12_digest_132 : decode cX12_digest 132 = .ok (.imul, 1) := by decide +kernel
theorem dX12_digest_133 : decode cX12_digest 133 = .ok (.iload 4, 2) := by decide +kernel
theorem dX12_digest_135 : decode cX12_digest 135 = .ok (.iadd, 1) := by decide +kernel
theorem dX12_digest_136 : decode cX12_digest 136 = .ok (.iaload, 1) := by decide +kernel
theorem dX12_digest_137 : decode cX12_digest 137 = .ok (.i2l, 1) := by decide +kernel
theorem dX12_digest_138 : decode cX12_digest 138 = .ok (.ladd, 1) := by decide +kernel
theorem dX12_digest_139 : decode cX12_digest 139 = .ok (.lstore_n 1, 1) := by decide +kernel
theorem dX12_digest_140 : decode cX12_digest 140 = .ok (.iinc 4 1, 3) := by decide +kernel
theorem dX12_digest_143 : decode cX12_digest 143 = .ok (.goto (-39), 3) := by decide +kernel
theorem dX12_digest_146 : decode cX12_digest 146 = .ok (.iinc 3 1, 3) := by decide +kernel
theorem dX12_digest_149 : decode cX12_digest 149 = .ok (.goto (-74), 3) := by decide +kernel
theorem dX12_digest_152 : decode cX12_digest 152 = .ok (.iconst 0, 1) := by decide +kernel
theorem dX12_digest_153 : decode cX12_digest 153 = .ok (.istore_n 3, 1) := by decide +kernel
theorem dX12_digest_154 : decode cX12_digest 154 = .ok (.iload_n 3, 1) := by decide +kernel
theorem dX12_digest_155 : decode cX12_digest 155 = .ok (.aload_n 0, 1) := by decide +kernel
theorem dX12_digest_156 : decode cX12_digest 156 = .ok (.getfield 132, 3) := by decide +kernel
theorem dX12_digest_159 : decode cX12_digest 159 = .ok (.if_icmp .ge 69, 3) := by decide +kernel
theorem dX12_digest_162 : decode cX12_digest 162 = .ok (.aload_n 0, 1) := by decide +kernel
theorem dX12_digest_163 : decode cX12_digest 163 = .ok (.getfield 48, 3) := by decide +kernel
theorem dX12_digest_166 : decode cX12_digest 166 = .ok (.iload_n 3, 1) := by decide +kernel
theorem dX12_digest_167 : decode cX12_digest 167 = .ok (.baload, 1) := by decide +kernel
theorem dX12_digest_168 : decode cX12_digest 168 = .ok (.ifCond .eq 13, 3) := by decide +kernel
theorem dX12_digest_171 : decode cX12_digest 171 = .ok (.ldc2_w 277, 3) := by decide +kernel
theorem dX12_digest_174 : decode cX12_digest 174 = .ok (.lload_n 1, 1) := by decide +kernel
theorem dX12_digest_175 : decode cX12_digest 175 = .ok (.lmul, 1) := by decide +kernel
theorem dX12_digest_176 : decode cX12_digest 176 = .ok (.lconst 1, 1) := by decide +kernel
theorem dX12_digest_177 : decode cX12_digest 177 = .ok (.lsub, 1) := by decide +kernel
theorem dX12_digest_178 : decode cX12_digest 178 = .ok (.goto 4, 3) := by decide +kernel
theorem dX12_digest_181 : decode cX12_digest 181 = .ok (.lload_n 1, 1) := by decide +kernel
theorem dX12_digest_182 : decode cX12_digest 182 = .ok (.lstore_n 1, 1) := by decide +kernel
theorem dX12_digest_183 : decode cX12_digest 183 = .ok (.iconst 0, 1) := by decide +kernel
theorem dX12_digest_184 : decode cX12_digest 184 = .ok (.istore 4, 2) := by decide +kernel
theorem dX12_digest_186 : decode cX12_digest 186 = .ok (.iload 4, 2) := by decide +kernel
theorem dX12_digest_188 : decode cX12_digest 188 = .ok (.iconst 5, 1) := by decide +kernel
theorem dX12_digest_189 : decode cX12_digest 189 = .ok (.if_icmp .ge 33, 3) := by decide +kernel
theorem dX12_digest_192 : decode cX12_digest 192 = .ok (.aload_n 0, 1) := by decide +kernel
theorem dX12_digest_193 : decode cX12_digest 193 = .ok (.getfield 48, 3) := by decide +kernel
theorem dX12_digest_196 : decode cX12_digest 196 = .ok (.iload_n 3, 1) := by decide +kernel
theorem dX12_digest_197 : decode cX12_digest 197 = .ok (.baload, 1) := by decide +kernel
theorem dX12_digest_198 : decode cX12_digest 198 = .ok (.ifCond .ne 24, 3) := by decide +kernel
theorem dX12_digest_201 : decode cX12_digest 201 = .ok (.ldc2_w 277, 3) := by decide +kernel
theorem dX12_digest_204 : decode cX12_digest 204 = .ok (.lload_n 1, 1) := by decide +kernel
theorem dX12_digest_205 : decode cX12_digest 205 = .ok (.lmul, 1) := by decide +kernel
theorem dX12_digest_206 : decode cX12_digest 206 = .ok (.aload_n 0, 1) := by decide +kernel
theorem dX12_digest_207 : decode cX12_digest 207 = .ok (.iload_n 3, 1) := by decide +kernel
theorem dX12_digest_208 : decode cX12_digest 208 = .ok (.iload 4, 2) := by decide +kernel
theorem dX12_digest_210 : decode cX12_digest 210 = .ok (.invokevirtual 146, 3) := by decide +kernel
theorem dX12_digest_213 : decode cX12_digest 213 = .ok (.i2l, 1) := by decide +kernel
theorem dX12_digest_214 : decode cX12_digest 214 = .ok (.ladd, 1) := by decide +kernel
theorem dX12_digest_215 : decode cX12_digest 215 = .ok (.lstore_n 1, 1) := by decide +kernel
theorem dX12_digest_216 : decode cX12_digest 216 = .ok (.iinc 4 1, 3) := by decide +kernel
theorem dX12_digest_219 : decode cX12_digest 219 = .ok (.goto (-33), 3) := by decide +kernel
theorem dX12_digest_222 : decode cX12_digest 222 = .ok (.iinc 3 1, 3) := by decide +kernel
theorem dX12_digest_225 : decode cX12_digest 225 = .ok (.goto (-71), 3) := by decide +kernel
theorem dX12_digest_228 : decode cX12_digest 228 = .ok (.iconst 0, 1) := by decide +kernel
theorem dX12_digest_229 : decode cX12_digest 229 = .ok (.istore_n 3, 1) := by decide +kernel
theorem dX12_digest_230 : decode cX12_digest 230 = .ok (.iload_n 3, 1) := by decide +kernel
theorem dX12_digest_231 : decode cX12_digest 231 = .ok (.iconst 4, 1) := by decide +kernel
theorem dX12_digest_232 : decode cX12_digest 232 = .ok (.if_icmp .ge 63, 3) := by decide +kernel
theorem dX12_digest_235 : decode cX12_digest 235 = .ok (.ldc2_w 277, 3) := by decide +kernel
theorem dX12_digest_238 : decode cX12_digest 238 = .ok (.lload_n 1, 1) := by decide +kernel
theorem dX12_digest_239 : decode cX12_digest 239 = .ok (.lmul, 1) := by decide +kernel
theorem dX12_digest_240 : decode cX12_digest 240 = .ok (.aload_n 0, 1) := by decide +kernel
theorem dX12_digest_241 : decode cX12_digest 241 = .ok (.getfield 23, 3) := by decide +kernel
theorem dX12_digest_244 : decode cX12_digest 244 = .ok (.iload_n 3, 1) := by decide +kernel
theorem dX12_digest_245 : decode cX12_digest 245 = .ok (.iaload, 1) := by decide +kernel
theorem dX12_digest_246 : decode cX12_digest 246 = .ok (.i2l, 1) := by decide +kernel
theorem dX12_digest_247 : decode cX12_digest 247 = .ok (.ladd, 1) := by decide +kernel
theorem dX12_digest_248 : decode cX12_digest 248 = .ok (.lstore_n 1, 1) := by decide +kernel
theorem dX12_digest_249 : decode cX12_digest 249 = .ok (.iconst 0, 1) := by decide +kernel
theorem dX12_digest_250 : decode cX12_digest 250 = .ok (.istore 4, 2) := by decide +kernel
theorem dX12_digest_252 : decode cX12_digest 252 = .ok (.iload 4, 2) := by decide +kernel
theorem dX12_digest_254 : decode cX12_digest 254 = .ok (.aload_n 0, 1) := by decide +kernel
theorem dX12_digest_255 : decode cX12_digest 255 = .ok (.getfield 23, 3) := by decide +kernel
theorem dX12_digest_258 : decode cX12_digest 258 = .ok (.iload_n 3, 1) := by decide +kernel
theorem dX12_digest_259 : decode cX12_digest 259 = .ok (.iaload, 1) := by decide +kernel
theorem dX12_digest_260 : decode cX12_digest 260 = .ok (.if_icmp .ge 29, 3) := by decide +kernel
theorem dX12_digest_263 : decode cX12_digest 263 = .ok (.ldc2_w 277, 3) := by decide +kernel
theorem dX12_digest_266 : decode cX12_digest 266 = .ok (.lload_n 1, 1) := by decide +kernel
theorem dX12_digest_267 : decode cX12_digest 267 = .ok (.lmul, 1) := by decide +kernel
theorem dX12_digest_268 : decode cX12_digest 268 = .ok (.aload_n 0, 1) := by decide +kernel
theorem dX12_digest_269 : decode cX12_digest 269 = .ok (.getfield 26, 3) := by decide +kernel
theorem dX12_digest_272 : decode cX12_digest 272 = .ok (.bipush 25, 2) := by decide +kernel
theorem dX12_digest_274 : decode cX12_digest 274 = .ok (.iload_n 3, 1) := by decide +kernel
theorem dX12_digest_275 : decode cX12_digest 275 = .ok (.imul, 1) := by decide +kernel
theorem dX12_digest_276 : decode cX12_digest 276 = .ok (.iload 4, 2) := by decide +kernel
theorem dX12_digest_278 : decode cX12_digest 278 = .ok (.iadd, 1) := by decide +kernel
theorem dX12_digest_279 : decode cX12_digest 279 = .ok (.baload, 1) := by decide +kernel
theorem dX12_digest_280 : decode cX12_digest 280 = .ok (.i2l, 1) := by decide +kernel
theorem dX12_digest_281 : decode cX12_digest 281 = .ok (.ladd, 1) := by decide +kernel
theorem dX12_digest_282 : decode cX12_digest 282 = .ok (.lstore_n 1, 1) := by decide +kernel
theorem dX12_digest_283 : decode cX12_digest 283 = .ok (.iinc 4 1, 3) := by decide +kernel
theorem dX12_digest_286 : decode cX12_digest 286 = .ok (.goto (-34), 3) := by decide +kernel
theorem dX12_digest_289 : decode cX12_digest 289 = .ok (.iinc 3 1, 3) := by decide +kernel
theorem dX12_digest_292 : decode cX12_digest 292 = .ok (.goto (-62), 3) := by decide +kernel
theorem dX12_digest_295 : decode cX12_digest 295 = .ok (.lload_n 1, 1) := by decide +kernel
theorem dX12_digest_296 : decode cX12_digest 296 = .ok (.lreturn, 1) := by decide +kernel

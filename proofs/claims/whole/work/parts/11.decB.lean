theorem dX11_init_0 : decode cX11_init 0 = .ok (.aload_n 0, 1) := by decide +kernel
theorem dX11_init_1 : decode cX11_init 1 = .ok (.invokespecial 3, 3) := by decide +kernel
theorem dX11_init_4 : decode cX11_init 4 = .ok (.aload_n 0, 1) := by decide +kernel
theorem dX11_init_5 : decode cX11_init 5 = .ok (.iconst 4, 1) := by decide +kernel
theorem dX11_init_6 : decode cX11_init 6 = .ok (.anewarray 9, 3) := by decide +kernel
theorem dX11_init_9 : decode cX11_init 9 = .ok (.putfield 11, 3) := by decide +kernel
theorem dX11_init_12 : decode cX11_init 12 = .ok (.aload_n 0, 1) := by decide +kernel
theorem dX11_init_13 : decode cX11_init 13 = .ok (.iconst 4, 1) := by decide +kernel
theorem dX11_init_14 : decode cX11_init 14 = .ok (.bipush 25, 2) := by decide +kernel
theorem dX11_init_16 : decode cX11_init 16 = .ok (.multianewarray 15 2, 4) := by decide +kernel
theorem dX11_init_20 : decode cX11_init 20 = .ok (.putfield 17, 3) := by decide +kernel
theorem dX11_init_23 : decode cX11_init 23 = .ok (.aload_n 0, 1) := by decide +kernel
theorem dX11_init_24 : decode cX11_init 24 = .ok (.iconst 4, 1) := by decide +kernel
theorem dX11_init_25 : decode cX11_init 25 = .ok (.newarray .int, 2) := by decide +kernel
theorem dX11_init_27 : decode cX11_init 27 = .ok (.putfield 20, 3) := by decide +kernel
theorem dX11_init_30 : decode cX11_init 30 = .ok (.aload_n 0, 1) := by decide +kernel
theorem dX11_init_31 : decode cX11_init 31 = .ok (.bipush 12, 2) := by decide +kernel
theorem dX11_init_33 : decode cX11_init 33 = .ok (.anewarray 24, 3) := by decide +kernel
theorem dX11_init_36 : decode cX11_init 36 = .ok (.putfield 26, 3) := by decide +kernel
theorem dX11_init_39 : decode cX11_init 39 = .ok (.aload_n 0, 1) := by decide +kernel
theorem dX11_init_40 : decode cX11_init 40 = .ok (.new 30, 3) := by decide +kernel
theorem dX11_init_43 : decode cX11_init 43 = .ok (.dup, 1) := by decide +kernel
theorem dX11_init_44 : decode cX11_init 44 = .ok (.invokespecial 32, 3) := by decide +kernel
theorem dX11_init_47 : decode cX11_init 47 = .ok (.putfield 33, 3) := by decide +kernel
theorem dX11_init_50 : decode cX11_init 50 = .ok (.aload_n 0, 1) := by decide +kernel
theorem dX11_init_51 : decode cX11_init 51 = .ok (.bipush 6, 2) := by decide +kernel
theorem dX11_init_53 : decode cX11_init 53 = .ok (.newarray .int, 2) := by decide +kernel
theorem dX11_init_55 : decode cX11_init 55 = .ok (.putfield 37, 3) := by decide +kernel
theorem dX11_init_58 : decode cX11_init 58 = .ok (.aload_n 0, 1) := by decide +kernel
theorem dX11_init_59 : decode cX11_init 59 = .ok (.lconst 0, 1) := by decide +kernel
theorem dX11_init_60 : decode cX11_init 60 = .ok (.putfield 40, 3) := by decide +kernel
theorem dX11_init_63 : decode cX11_init 63 = .ok (.aload_n 0, 1) := by decide +kernel
theorem dX11_init_64 : decode cX11_init 64 = .ok (.lconst 1, 1) := by decide +kernel
theorem dX11_init_65 : decode cX11_init 65 = .ok (.putfield 44, 3) := by decide +kernel
theorem dX11_init_68 : decode cX11_init 68 = .ok (.aload_n 0, 1) := by decide +kernel
theorem dX11_init_69 : decode cX11_init 69 = .ok (.bipush 6, 2) := by decide +kernel
theorem dX11_init_71 : decode cX11_init 71 = .ok (.newarray .int, 2) := by decide +kernel
theorem dX11_init_73 : decode cX11_init 73 = .ok (.putfield 47, 3) := by decide +kernel
theorem dX11_init_76 : decode cX11_init 76 = .ok (.iconst 0, 1) := by decide +kernel
theorem dX11_init_77 : decode cX11_init 77 = .ok (.istore_n 1, 1) := by decide +kernel
theorem dX11_init_78 : decode cX11_init 78 = .ok (.iload_n 1, 1) := by decide +kernel
theorem dX11_init_79 : decode cX11_init 79 = .ok (.aload_n 0, 1) := by decide +kernel
theorem dX11_init_80 : decode cX11_init 80 = .ok (.getfield 11, 3) := by decide +kernel
theorem dX11_init_83 : decode cX11_init 83 = .ok (.arraylength, 1) := by decide +kernel
theorem dX11_init_84 : decode cX11_init 84 = .ok (.if_icmp .ge 22, 3) := by decide +kernel
theorem dX11_init_87 : decode cX11_init 87 = .ok (.aload_n 0, 1) := by decide +kernel
theorem dX11_init_88 : decode cX11_init 88 = .ok (.getfield 11, 3) := by decide +kernel
theorem dX11_init_91 : decode cX11_init 91 = .ok (.iload_n 1, 1) := by decide +kernel
theorem dX11_init_92 : decode cX11_init 92 = .ok (.new 9, 3) := by decide +kernel
theorem dX11_init_95 : decode cX11_init 95 = .ok (.dup, 1) := by decide +kernel
theorem dX11_init_96 : decode cX11_init 96 = .ok (.invokespecial 50, 3) := by decide +kernel
theorem dX11_init_99 : decode cX11_init 99 = .ok (.aastore, 1) := by decide +kernel
theorem dX11_init_100 : decode cX11_init 100 = .ok (.iinc 1 1, 3) := by decide +kernel
theorem dX11_init_103 : decode cX11_init 103 = .ok (.goto (-25), 3) := by decide +kernel
theorem dX11_init_106 : decode cX11_init 106 = .ok (.iconst 0, 1) := by decide +kernel
theorem dX11_init_107 : decode cX11_init 107 = .ok (.istore_n 1, 1) := by decide +kernel
theorem dX11_init_108 : decode cX11_init 108 = .ok (.iload_n 1, 1) := by decide +kernel
theorem dX11_init_109 : decode cX11_init 109 = .ok (.aload_n 0, 1) := by decide +kernel
theorem dX11_init_110 : decode cX11_init 110 = .ok (.getfield 20, 3) := by decide +kernel
theorem dX11_init_113 : decode cX11_init 113 = .ok (.arraylength, 1) := by decide +kernel
theorem dX11_init_114 : decode cX11_init 114 = .ok (.if_icmp .ge 16, 3) := by decide +kernel
theorem dX11_init_117 : decode cX11_init 117 = .ok (.aload_n 0, 1) := by decide +kernel
theorem dX11_init_118 : decode cX11_init 118 = .ok (.getfield 20, 3) := by decide +kernel
theorem dX11_init_121 : decode cX11_init 121 = .ok (.iload_n 1, 1) := by decide +kernel
theorem dX11_init_122 : decode cX11_init 122 = .ok (.iconst (-1), 1) := by decide +kernel
theorem dX11_init_123 : decode cX11_init 123 = .ok (.iastore, 1) := by decide +kernel
theorem dX11_init_124 : decode cX11_init 124 = .ok (.iinc 1 1, 3) := by decide +kernel
theorem dX11_init_127 : decode cX11_init 127 = .ok (.goto (-19), 3) := by decide +kernel
theorem dX11_init_130 : decode cX11_init 130 = .ok (.new 51, 3) := by decide +kernel
theorem dX11_init_133 : decode cX11_init 133 = .ok (.dup, 1) := by decide +kernel
theorem dX11_init_134 : decode cX11_init 134 = .ok (.invokespecial 53, 3) := by decide +kernel
theorem dX11_init_137 : decode cX11_init 137 = .ok (.astore_n 1, 1) := by decide +kernel
theorem dX11_init_138 : decode cX11_init 138 = .ok (.aload_n 0, 1) := by decide +kernel
theorem dX11_init_139 : decode cX11_init 139 = .ok (.new 54, 3) := by decide +kernel
theorem dX11_init_142 : decode cX11_init 142 = .ok (.dup, 1) := by decide +kernel
theorem dX11_init_143 : decode cX11_init 143 = .ok (.aload_n 0, 1) := by decide +kernel
theorem dX11_init_144 : decode cX11_init 144 = .ok (.getfield 33, 3) := by decide +kernel
theorem dX11_init_147 : decode cX11_init 147 = .ok (.aload_n 1, 1) := by decide +kernel
theorem dX11_init_148 : decode cX11_init 148 = .ok (.invokespecial 56, 3) := by decide +kernel
theorem dX11_init_151 : decode cX11_init 151 = .ok (.putfield 59, 3) := by decide +kernel
theorem dX11_init_154 : decode cX11_init 154 = .ok (.aload_n 0, 1) := by decide +kernel
theorem dX11_init_155 : decode cX11_init 155 = .ok (.new 63, 3) := by decide +kernel
theorem dX11_init_158 : decode cX11_init 158 = .ok (.dup, 1) := by decide +kernel
theorem dX11_init_159 : decode cX11_init 159 = .ok (.aload_n 0, 1) := by decide +kernel
theorem dX11_init_160 : decode cX11_init 160 = .ok (.getfield 33, 3) := by decide +kernel
theorem dX11_init_163 : decode cX11_init 163 = .ok (.invokespecial 65, 3) := by decide +kernel
theorem dX11_init_166 : decode cX11_init 166 = .ok (.putfield 68, 3) := by decide +kernel
theorem dX11_init_169 : decode cX11_init 169 = .ok (.aload_n 0, 1) := by decide +kernel
theorem dX11_init_170 : decode cX11_init 170 = .ok (.new 72, 3) := by decide +kernel
theorem dX11_init_173 : decode cX11_init 173 = .ok (.dup, 1) := by decide +kernel
theorem dX11_init_174 : decode cX11_init 174 = .ok (.aload_n 1, 1) := by decide +kernel
theorem dX11_init_175 : decode cX11_init 175 = .ok (.invokespecial 74, 3) := by decide +kernel
theorem dX11_init_178 : decode cX11_init 178 = .ok (.putfield 77, 3) := by decide +kernel
theorem dX11_init_181 : decode cX11_init 181 = .ok (.return_, 1) := by decide +kernel
theorem dX11_book_0 : decode cX11_book 0 = .ok (.iload_n 1, 1) := by decide +kernel
theorem dX11_book_1 : decode cX11_book 1 = .ok (.invokestatic 81, 3) := by decide +kernel
theorem dX11_book_4 : decode cX11_book 4 = .ok (.ifCond .ne 5, 3) := by decide +kernel
theorem dX11_book_7 : decode cX11_book 7 = .ok (.iconst (-1), 1) := by decide +kernel
theorem dX11_book_8 : decode cX11_book 8 = .ok (.ireturn, 1) := by decide +kernel
theorem dX11_book_9 : decode cX11_book 9 = .ok (.aload_n 0, 1) := by decide +kernel
theorem dX11_book_10 : decode cX11_book 10 = .ok (.getfield 11, 3) := by decide +kernel
theorem dX11_book_13 : decode cX11_book 13 = .ok (.iload_n 1, 1) := by decide +kernel
theorem dX11_book_14 : decode cX11_book 14 = .ok (.aaload, 1) := by decide +kernel
theorem dX11_book_15 : decode cX11_book 15 = .ok (.getfield 85, 3) := by decide +kernel
theorem dX11_book_18 : decode cX11_book 18 = .ok (.istore_n 2, 1) := by decide +kernel
theorem dX11_book_19 : decode cX11_book 19 = .ok (.aload_n 0, 1) := by decide +kernel
theorem dX11_book_20 : decode cX11_book 20 = .ok (.getfield 11, 3) := by decide +kernel
theorem dX11_book_23 : decode cX11_book 23 = .ok (.iload_n 1, 1) := by decide +kernel
theorem dX11_book_24 : decode cX11_book 24 = .ok (.aaload, 1) := by decide +kernel
theorem dX11_book_25 : decode cX11_book 25 = .ok (.invokevirtual 89, 3) := by decide +kernel
theorem dX11_book_28 : decode cX11_book 28 = .ok (.iload_n 2, 1) := by decide +kernel
theorem dX11_book_29 : decode cX11_book 29 = .ok (.ifCond .eq 7, 3) := by decide +kernel
theorem dX11_book_32 : decode cX11_book 32 = .ok (.iconst 1, 1) := by decide +kernel
theorem dX11_book_33 : decode cX11_book 33 = .ok (.goto 4, 3) := by decide +kernel
theorem dX11_book_36 : decode cX11_book 36 = .ok (.iconst 0, 1) := by decide +kernel
theorem dX11_book_37 : decode cX11_book 37 = .ok (.ireturn, 1) := by decide +kernel
theorem dX11_weigh_0 : decode cX11_weigh 0 = .ok (.iload_n 1, 1) := by decide +kernel
theorem dX11_weigh_1 : decode cX11_weigh 1 = .ok (.invokestatic 81, 3) := by decide +kernel
theorem dX11_weigh_4 : decode cX11_weigh 4 = .ok (.ifCond .eq 13, 3) := by decide +kernel
theorem dX11_weigh_7 : decode cX11_weigh 7 = .ok (.iload_n 3, 1) := by decide +kernel
theorem dX11_weigh_8 : decode cX11_weigh 8 = .ok (.iconst 0, 1) := by decide +kernel
theorem dX11_weigh_9 : decode cX11_weigh 9 = .ok (.bipush 9, 2) := by decide +kernel
theorem dX11_weigh_11 : decode cX11_weigh 11 = .ok (.invokestatic 92, 3) := by decide +kernel
theorem dX11_weigh_14 : decode cX11_weigh 14 = .ok (.ifCond .ne 5, 3) := by decide +kernel
theorem dX11_weigh_17 : decode cX11_weigh 17 = .ok (.iconst (-1), 1) := by decide +kernel
theorem dX11_weigh_18 : decode cX11_weigh 18 = .ok (.ireturn, 1) := by decide +kernel
theorem dX11_weigh_19 : decode cX11_weigh 19 = .ok (.aload_n 0, 1) := by decide +kernel
theorem dX11_weigh_20 : decode cX11_weigh 20 = .ok (.getfield 11, 3) := by decide +kernel
theorem dX11_weigh_23 : decode cX11_weigh 23 = .ok (.iload_n 1, 1) := by decide +kernel
theorem dX11_weigh_24 : decode cX11_weigh 24 = .ok (.aaload, 1) := by decide +kernel
theorem dX11_weigh_25 : decode cX11_weigh 25 = .ok (.getfield 85, 3) := by decide +kernel
theorem dX11_weigh_28 : decode cX11_weigh 28 = .ok (.ifCond .ne 9, 3) := by decide +kernel
theorem dX11_weigh_31 : decode cX11_weigh 31 = .ok (.aload_n 0, 1) := by decide +kernel
theorem dX11_weigh_32 : decode cX11_weigh 32 = .ok (.iconst 1, 1) := by decide +kernel
theorem dX11_weigh_33 : decode cX11_weigh 33 = .ok (.invokevirtual 96, 3) := by decide +kernel
theorem dX11_weigh_36 : decode cX11_weigh 36 = .ok (.ireturn, 1) := by decide +kernel
theorem dX11_weigh_37 : decode cX11_weigh 37 = .ok (.iload_n 2, 1) := by decide +kernel
theorem dX11_weigh_38 : decode cX11_weigh 38 = .ok (.invokestatic 100, 3) := by decide +kernel
theorem dX11_weigh_41 : decode cX11_weigh 41 = .ok (.ifCond .ne 9, 3) := by decide +kernel
theorem dX11_weigh_44 : decode cX11_weigh 44 = .ok (.aload_n 0, 1) := by decide +kernel
theorem dX11_weigh_45 : decode cX11_weigh 45 = .ok (.iconst 2, 1) := by decide +kernel
theorem dX11_weigh_46 : decode cX11_weigh 46 = .ok (.invokevirtual 96, 3) := by decide +kernel
theorem dX11_weigh_49 : decode cX11_weigh 49 = .ok (.ireturn, 1) := by decide +kernel
theorem dX11_weigh_50 : decode cX11_weigh 50 = .ok (.aload_n 0, 1) := by decide +kernel
theorem dX11_weigh_51 : decode cX11_weigh 51 = .ok (.getfield 11, 3) := by decide +kernel
theorem dX11_weigh_54 : decode cX11_weigh 54 = .ok (.iload_n 1, 1) := by decide +kernel
theorem dX11_weigh_55 : decode cX11_weigh 55 = .ok (.aaload, 1) := by decide +kernel
theorem dX11_weigh_56 : decode cX11_weigh 56 = .ok (.getfield 103, 3) := by decide +kernel
theorem dX11_weigh_59 : decode cX11_weigh 59 = .ok (.iload_n 2, 1) := by decide +kernel
theorem dX11_weigh_60 : decode cX11_weigh 60 = .ok (.iaload, 1) := by decide +kernel
theorem dX11_weigh_61 : decode cX11_weigh 61 = .ok (.istore 4, 2) := by decide +kernel
theorem dX11_weigh_63 : decode cX11_weigh 63 = .ok (.aload_n 0, 1) := by decide +kernel
theorem dX11_weigh_64 : decode cX11_weigh 64 = .ok (.getfield 11, 3) := by decide +kernel
theorem dX11_weigh_67 : decode cX11_weigh 67 = .ok (.iload_n 1, 1) := by decide +kernel
theorem dX11_weigh_68 : decode cX11_weigh 68 = .ok (.aaload, 1) := by decide +kernel
theorem dX11_weigh_69 : decode cX11_weigh 69 = .ok (.getfield 103, 3) := by decide +kernel
theorem dX11_weigh_72 : decode cX11_weigh 72 = .ok (.iload_n 2, 1) := by decide +kernel
theorem dX11_weigh_73 : decode cX11_weigh 73 = .ok (.iload_n 3, 1) := by decide +kernel
theorem dX11_weigh_74 : decode cX11_weigh 74 = .ok (.iastore, 1) := by decide +kernel
theorem dX11_weigh_75 : decode cX11_weigh 75 = .ok (.iload 4, 2) := by decide +kernel
theorem dX11_weigh_77 : decode cX11_weigh 77 = .ok (.ireturn, 1) := by decide +kernel
theorem dX11_close_0 : decode cX11_close 0 = .ok (.iload_n 1, 1) := by decide +kernel
theorem dX11_close_1 : decode cX11_close 1 = .ok (.invokestatic 81, 3) := by decide +kernel
theorem dX11_close_4 : decode cX11_close 4 = .ok (.ifCond .ne 5, 3) := by decide +kernel
theorem dX11_close_7 : decode cX11_close 7 = .ok (.iconst (-1), 1) := by decide +kernel
theorem dX11_close_8 : decode cX11_close 8 = .ok (.ireturn, 1) := by decide +kernel
theorem dX11_close_9 : decode cX11_close 9 = .ok (.aload_n 0, 1) := by decide +kernel
theorem dX11_close_10 : decode cX11_close 10 = .ok (.getfield 11, 3) := by decide +kernel
theorem dX11_close_13 : decode cX11_close 13 = .ok (.iload_n 1, 1) := by decide +kernel
theorem dX11_close_14 : decode cX11_close 14 = .ok (.aaload, 1) := by decide +kernel
theorem dX11_close_15 : decode cX11_close 15 = .ok (.getfield 85, 3) := by decide +kernel
theorem dX11_close_18 : decode cX11_close 18 = .ok (.ifCond .ne 9, 3) := by decide +kernel
theorem dX11_close_21 : decode cX11_close 21 = .ok (.aload_n 0, 1) := by decide +kernel
theorem dX11_close_22 : decode cX11_close 22 = .ok (.iconst 1, 1) := by decide +kernel
theorem dX11_close_23 : decode cX11_close 23 = .ok (.invokevirtual 96, 3) := by decide +kernel
theorem dX11_close_26 : decode cX11_close 26 = .ok (.ireturn, 1) := by decide +kernel
theorem dX11_close_27 : decode cX11_close 27 = .ok (.aload_n 0, 1) := by decide +kernel
theorem dX11_close_28 : decode cX11_close 28 = .ok (.getfield 11, 3) := by decide +kernel
theorem dX11_close_31 : decode cX11_close 31 = .ok (.iload_n 1, 1) := by decide +kernel
theorem dX11_close_32 : decode cX11_close 32 = .ok (.aaload, 1) := by decide +kernel
theorem dX11_close_33 : decode cX11_close 33 = .ok (.iconst 0, 1) := by decide +kernel
theorem dX11_close_34 : decode cX11_close 34 = .ok (.putfield 85, 3) := by decide +kernel
theorem dX11_close_37 : decode cX11_close 37 = .ok (.iconst 1, 1) := by decide +kernel
theorem dX11_close_38 : decode cX11_close 38 = .ok (.ireturn, 1) := by decide +kernel
theorem dX11_copy_0 : decode cX11_copy 0 = .ok (.iload_n 1, 1) := by decide +kernel
theorem dX11_copy_1 : decode cX11_copy 1 = .ok (.invokestatic 81, 3) := by decide +kernel
theorem dX11_copy_4 : decode cX11_copy 4 = .ok (.ifCond .eq 10, 3) := by decide +kernel
theorem dX11_copy_7 : decode cX11_copy 7 = .ok (.iload_n 3, 1) := by decide +kernel
theorem dX11_copy_8 : decode cX11_copy 8 = .ok (.invokestatic 81, 3) := by decide +kernel
theorem dX11_copy_11 : decode cX11_copy 11 = .ok (.ifCond .ne 5, 3) := by decide +kernel
theorem dX11_copy_14 : decode cX11_copy 14 = .ok (.iconst (-1), 1) := by decide +kernel
theorem dX11_copy_15 : decode cX11_copy 15 = .ok (.ireturn, 1) := by decide +kernel
theorem dX11_copy_16 : decode cX11_copy 16 = .ok (.aload_n 0, 1) := by decide +kernel
theorem dX11_copy_17 : decode cX11_copy 17 = .ok (.getfield 11, 3) := by decide +kernel
theorem dX11_copy_20 : decode cX11_copy 20 = .ok (.iload_n 1, 1) := by decide +kernel
theorem dX11_copy_21 : decode cX11_copy 21 = .ok (.aaload, 1) := by decide +kernel
theorem dX11_copy_22 : decode cX11_copy 22 = .ok (.getfield 85, 3) := by decide +kernel
theorem dX11_copy_25 : decode cX11_copy 25 = .ok (.ifCond .eq 15, 3) := by decide +kernel
theorem dX11_copy_28 : decode cX11_copy 28 = .ok (.aload_n 0, 1) := by decide +kernel
theorem dX11_copy_29 : decode cX11_copy 29 = .ok (.getfield 11, 3) := by decide +kernel
theorem dX11_copy_32 : decode cX11_copy 32 = .ok (.iload_n 3, 1) := by decide +kernel
theorem dX11_copy_33 : decode cX11_copy 33 = .ok (.aaload, 1) := by decide +kernel
theorem dX11_copy_34 : decode cX11_copy 34 = .ok (.getfield 85, 3) := by decide +kernel
theorem dX11_copy_37 : decode cX11_copy 37 = .ok (.ifCond .ne 9, 3) := by decide +kernel
theorem dX11_copy_40 : decode cX11_copy 40 = .ok (.aload_n 0, 1) := by decide +kernel
theorem dX11_copy_41 : decode cX11_copy 41 = .ok (.iconst 1, 1) := by decide +kernel
theorem dX11_copy_42 : decode cX11_copy 42 = .ok (.invokevirtual 96, 3) := by decide +kernel
theorem dX11_copy_45 : decode cX11_copy 45 = .ok (.ireturn, 1) := by decide +kernel
theorem dX11_copy_46 : decode cX11_copy 46 = .ok (.iload_n 2, 1) := by decide +kernel
theorem dX11_copy_47 : decode cX11_copy 47 = .ok (.iload 5, 2) := by decide +kernel
theorem dX11_copy_49 : decode cX11_copy 49 = .ok (.invokestatic 106, 3) := by decide +kernel
theorem dX11_copy_52 : decode cX11_copy 52 = .ok (.ifCond .eq 13, 3) := by decide +kernel
theorem dX11_copy_55 : decode cX11_copy 55 = .ok (.iload 4, 2) := by decide +kernel
theorem dX11_copy_57 : decode cX11_copy 57 = .ok (.iload 5, 2) := by decide +kernel
theorem dX11_copy_59 : decode cX11_copy 59 = .ok (.invokestatic 106, 3) := by decide +kernel
theorem dX11_copy_62 : decode cX11_copy 62 = .ok (.ifCond .ne 9, 3) := by decide +kernel
theorem dX11_copy_65 : decode cX11_copy 65 = .ok (.aload_n 0, 1) := by decide +kernel
theorem dX11_copy_66 : decode cX11_copy 66 = .ok (.iconst 2, 1) := by decide +kernel
theorem dX11_copy_67 : decode cX11_copy 67 = .ok (.invokevirtual 96, 3) := by decide +kernel
theorem dX11_copy_70 : decode cX11_copy 70 = .ok (.ireturn, 1) := by decide +kernel
theorem dX11_copy_71 : decode cX11_copy 71 = .ok (.aload_n 0, 1) := by decide +kernel
theorem dX11_copy_72 : decode cX11_copy 72 = .ok (.getfield 11, 3) := by decide +kernel
theorem dX11_copy_75 : decode cX11_copy 75 = .ok (.iload_n 1, 1) := by decide +kernel
theorem dX11_copy_76 : decode cX11_copy 76 = .ok (.aaload, 1) := by decide +kernel
theorem dX11_copy_77 : decode cX11_copy 77 = .ok (.getfield 103, 3) := by decide +kernel
theorem dX11_copy_80 : decode cX11_copy 80 = .ok (.iload_n 2, 1) := by decide +kernel
theorem dX11_copy_81 : decode cX11_copy 81 = .ok (.aload_n 0, 1) := by decide +kernel
theorem dX11_copy_82 : decode cX11_copy 82 = .ok (.getfield 11, 3) := by decide +kernel
theorem dX11_copy_85 : decode cX11_copy 85 = .ok (.iload_n 3, 1) := by decide +kernel
theorem dX11_copy_86 : decode cX11_copy 86 = .ok (.aaload, 1) := by decide +kernel
theorem dX11_copy_87 : decode cX11_copy 87 = .ok (.getfield 103, 3) := by decide +kernel
theorem dX11_copy_90 : decode cX11_copy 90 = .ok (.iload 4, 2) := by decide +kernel
theorem dX11_copy_92 : decode cX11_copy 92 = .ok (.iload 5, 2) := by decide +kernel
theorem dX11_copy_94 : decode cX11_copy 94 = .ok (.invokestatic 110, 3) := by decide +kernel
theorem dX11_copy_97 : decode cX11_copy 97 = .ok (.iconst 1, 1) := by decide +kernel
theorem dX11_copy_98 : decode cX11_copy 98 = .ok (.ireturn, 1) := by decide +kernel
theorem dX11_mean_0 : decode cX11_mean 0 = .ok (.iload_n 1, 1) := by decide +kernel
theorem dX11_mean_1 : decode cX11_mean 1 = .ok (.invokestatic 81, 3) := by decide +kernel
theorem dX11_mean_4 : decode cX11_mean 4 = .ok (.ifCond .ne 5, 3) := by decide +kernel
theorem dX11_mean_7 : decode cX11_mean 7 = .ok (.iconst (-1), 1) := by decide +kernel
theorem dX11_mean_8 : decode cX11_mean 8 = .ok (.ireturn, 1) := by decide +kernel
theorem dX11_mean_9 : decode cX11_mean 9 = .ok (.aload_n 0, 1) := by decide +kernel
theorem dX11_mean_10 : decode cX11_mean 10 = .ok (.getfield 11, 3) := by decide +kernel
theorem dX11_mean_13 : decode cX11_mean 13 = .ok (.iload_n 1, 1) := by decide +kernel
theorem dX11_mean_14 : decode cX11_mean 14 = .ok (.aaload, 1) := by decide +kernel
theorem dX11_mean_15 : decode cX11_mean 15 = .ok (.invokestatic 116, 3) := by decide +kernel
theorem dX11_mean_18 : decode cX11_mean 18 = .ok (.istore_n 2, 1) := by decide +kernel
theorem dX11_mean_19 : decode cX11_mean 19 = .ok (.iload_n 2, 1) := by decide +kernel
theorem dX11_mean_20 : decode cX11_mean 20 = .ok (.ifCond .eq 9, 3) := by decide +kernel
theorem dX11_mean_23 : decode cX11_mean 23 = .ok (.aload_n 0, 1) := by decide +kernel
theorem dX11_mean_24 : decode cX11_mean 24 = .ok (.iload_n 2, 1) := by decide +kernel
theorem dX11_mean_25 : decode cX11_mean 25 = .ok (.invokevirtual 96, 3) := by decide +kernel
theorem dX11_mean_28 : decode cX11_mean 28 = .ok (.ireturn, 1) := by decide +kernel
theorem dX11_mean_29 : decode cX11_mean 29 = .ok (.aload_n 0, 1) := by decide +kernel
theorem dX11_mean_30 : decode cX11_mean 30 = .ok (.getfield 11, 3) := by decide +kernel
theorem dX11_mean_33 : decode cX11_mean 33 = .ok (.iload_n 1, 1) := by decide +kernel
theorem dX11_mean_34 : decode cX11_mean 34 = .ok (.aaload, 1) := by decide +kernel
theorem dX11_mean_35 : decode cX11_mean 35 = .ok (.invokevirtual 120, 3) := by decide +kernel
theorem dX11_mean_38 : decode cX11_mean 38 = .ok (.istore_n 3, 1) := by decide +kernel
theorem dX11_mean_39 : decode cX11_mean 39 = .ok (.iload_n 3, 1) := by decide +kernel
theorem dX11_mean_40 : decode cX11_mean 40 = .ok (.ifCond .le 17, 3) := by decide +kernel
theorem dX11_mean_43 : decode cX11_mean 43 = .ok (.aload_n 0, 1) := by decide +kernel
theorem dX11_mean_44 : decode cX11_mean 44 = .ok (.getfield 11, 3) := by decide +kernel
theorem dX11_mean_47 : decode cX11_mean 47 = .ok (.iload_n 1, 1) := by decide +kernel
theorem dX11_mean_48 : decode cX11_mean 48 = .ok (.aaload, 1) := by decide +kernel
theorem dX11_mean_49 : decode cX11_mean 49 = .ok (.invokevirtual 124, 3) := by decide +kernel
theorem dX11_mean_52 : decode cX11_mean 52 = .ok (.iload_n 3, 1) := by decide +kernel
theorem dX11_mean_53 : decode cX11_mean 53 = .ok (.idiv, 1) := by decide +kernel
theorem dX11_mean_54 : decode cX11_mean 54 = .ok (.goto 4, 3) := by decide +kernel
theorem dX11_mean_57 : decode cX11_mean 57 = .ok (.iconst 0, 1) := by decide +kernel
theorem dX11_mean_58 : decode cX11_mean 58 = .ok (.ireturn, 1) := by decide +kernel
theorem dX11_sheet_0 : decode cX11_sheet 0 = .ok (.iload_n 1, 1) := by decide +kernel
theorem dX11_sheet_1 : decode cX11_sheet 1 = .ok (.invokestatic 127, 3) := by decide +kernel
theorem dX11_sheet_4 : decode cX11_sheet 4 = .ok (.ifCond .eq 9, 3) := by decide +kernel
theorem dX11_sheet_7 : decode cX11_sheet 7 = .ok (.iload_n 2, 1) := by decide +kernel
theorem dX11_sheet_8 : decode cX11_sheet 8 = .ok (.bipush 25, 2) := by decide +kernel
theorem dX11_sheet_10 : decode cX11_sheet 10 = .ok (.if_icmp .le 5, 3) := by decide +kernel
theorem dX11_sheet_13 : decode cX11_sheet 13 = .ok (.iconst (-1), 1) := by decide +kernel
theorem dX11_sheet_14 : decode cX11_sheet 14 = .ok (.ireturn, 1) := by decide +kernel
theorem dX11_sheet_15 : decode cX11_sheet 15 = .ok (.iload_n 2, 1) := by decide +kernel
theorem dX11_sheet_16 : decode cX11_sheet 16 = .ok (.ifCond .ge 9, 3) := by decide +kernel
theorem dX11_sheet_19 : decode cX11_sheet 19 = .ok (.aload_n 0, 1) := by decide +kernel
theorem dX11_sheet_20 : decode cX11_sheet 20 = .ok (.iconst 5, 1) := by decide +kernel
theorem dX11_sheet_21 : decode cX11_sheet 21 = .ok (.invokevirtual 96, 3) := by decide +kernel
theorem dX11_sheet_24 : decode cX11_sheet 24 = .ok (.ireturn, 1) := by decide +kernel
theorem dX11_sheet_25 : decode cX11_sheet 25 = .ok (.iconst 0, 1) := by decide +kernel
theorem dX11_sheet_26 : decode cX11_sheet 26 = .ok (.istore_n 3, 1) := by decide +kernel
theorem dX11_sheet_27 : decode cX11_sheet 27 = .ok (.iload_n 3, 1) := by decide +kernel
theorem dX11_sheet_28 : decode cX11_sheet 28 = .ok (.aload_n 0, 1) := by decide +kernel
theorem dX11_sheet_29 : decode cX11_sheet 29 = .ok (.getfield 17, 3) := by decide +kernel
theorem dX11_sheet_32 : decode cX11_sheet 32 = .ok (.iload_n 1, 1) := by decide +kernel
theorem dX11_sheet_33 : decode cX11_sheet 33 = .ok (.aaload, 1) := by decide +kernel
theorem dX11_sheet_34 : decode cX11_sheet 34 = .ok (.arraylength, 1) := by decide +kernel
theorem dX11_sheet_35 : decode cX11_sheet 35 = .ok (.if_icmp .ge 18, 3) := by decide +kernel
theorem dX11_sheet_38 : decode cX11_sheet 38 = .ok (.aload_n 0, 1) := by decide +kernel
theorem dX11_sheet_39 : decode cX11_sheet 39 = .ok (.getfield 17, 3) := by decide +kernel
theorem dX11_sheet_42 : decode cX11_sheet 42 = .ok (.iload_n 1, 1) := by decide +kernel
theorem dX11_sheet_43 : decode cX11_sheet 43 = .ok (.aaload, 1) := by decide +kernel
theorem dX11_sheet_44 : decode cX11_sheet 44 = .ok (.iload_n 3, 1) := by decide +kernel
theorem dX11_sheet_45 : decode cX11_sheet 45 = .ok (.iconst 0, 1) := by decide +kernel
theorem dX11_sheet_46 : decode cX11_sheet 46 = .ok (.bastore, 1) := by decide +kernel
theorem dX11_sheet_47 : decode cX11_sheet 47 = .ok (.iinc 3 1, 3) := by decide +kernel
theorem dX11_sheet_50 : decode cX11_sheet 50 = .ok (.goto (-23), 3) := by decide +kernel
theorem dX11_sheet_53 : decode cX11_sheet 53 = .ok (.aload_n 0, 1) := by decide +kernel
theorem dX11_sheet_54 : decode cX11_sheet 54 = .ok (.getfield 20, 3) := by decide +kernel
theorem dX11_sheet_57 : decode cX11_sheet 57 = .ok (.iload_n 1, 1) := by decide +kernel
theorem dX11_sheet_58 : decode cX11_sheet 58 = .ok (.iload_n 2, 1) := by decide +kernel
theorem dX11_sheet_59 : decode cX11_sheet 59 = .ok (.iastore, 1) := by decide +kernel
theorem dX11_sheet_60 : decode cX11_sheet 60 = .ok (.iload_n 2, 1) := by decide +kernel
theorem dX11_sheet_61 : decode cX11_sheet 61 = .ok (.ireturn, 1) := by decide +kernel
theorem dX11_lay_0 : decode cX11_lay 0 = .ok (.iload_n 1, 1) := by decide +kernel
theorem dX11_lay_1 : decode cX11_lay 1 = .ok (.invokestatic 127, 3) := by decide +kernel
theorem dX11_lay_4 : decode cX11_lay 4 = .ok (.ifCond .ne 5, 3) := by decide +kernel
theorem dX11_lay_7 : decode cX11_lay 7 = .ok (.iconst (-1), 1) := by decide +kernel
theorem dX11_lay_8 : decode cX11_lay 8 = .ok (.ireturn, 1) := by decide +kernel
theorem dX11_lay_9 : decode cX11_lay 9 = .ok (.aload_n 0, 1) := by decide +kernel
theorem dX11_lay_10 : decode cX11_lay 10 = .ok (.getfield 20, 3) := by decide +kernel
theorem dX11_lay_13 : decode cX11_lay 13 = .ok (.iload_n 1, 1) := by decide +kernel
theorem dX11_lay_14 : decode cX11_lay 14 = .ok (.iaload, 1) := by decide +kernel
theorem dX11_lay_15 : decode cX11_lay 15 = .ok (.ifCond .ge 9, 3) := by decide +kernel
theorem dX11_lay_18 : decode cX11_lay 18 = .ok (.aload_n 0, 1) := by decide +kernel
theorem dX11_lay_19 : decode cX11_lay 19 = .ok (.iconst 1, 1) := by decide +kernel
theorem dX11_lay_20 : decode cX11_lay 20 = .ok (.invokevirtual 96, 3) := by decide +kernel
theorem dX11_lay_23 : decode cX11_lay 23 = .ok (.ireturn, 1) := by decide +kernel
theorem dX11_lay_24 : decode cX11_lay 24 = .ok (.iload_n 2, 1) := by decide +kernel
theorem dX11_lay_25 : decode cX11_lay 25 = .ok (.iconst 0, 1) := by decide +kernel
theorem dX11_lay_26 : decode cX11_lay 26 = .ok (.aload_n 0, 1) := by decide +kernel
theorem dX11_lay_27 : decode cX11_lay 27 = .ok (.getfield 20, 3) := by decide +kernel
theorem dX11_lay_30 : decode cX11_lay 30 = .ok (.iload_n 1, 1) := by decide +kernel
theorem dX11_lay_31 : decode cX11_lay 31 = .ok (.iaload, 1) := by decide +kernel
theorem dX11_lay_32 : decode cX11_lay 32 = .ok (.iconst 1, 1) := by decide +kernel
theorem dX11_lay_33 : decode cX11_lay 33 = .ok (.isub, 1) := by decide +kernel
theorem dX11_lay_34 : decode cX11_lay 34 = .ok (.invokestatic 92, 3) := by decide +kernel
theorem dX11_lay_37 : decode cX11_lay 37 = .ok (.ifCond .ne 9, 3) := by decide +kernel
theorem dX11_lay_40 : decode cX11_lay 40 = .ok (.aload_n 0, 1) := by decide +kernel
theorem dX11_lay_41 : decode cX11_lay 41 = .ok (.iconst 2, 1) := by decide +kernel
theorem dX11_lay_42 : decode cX11_lay 42 = .ok (.invokevirtual 96, 3) := by decide +kernel
theorem dX11_lay_45 : decode cX11_lay 45 = .ok (.ireturn, 1) := by decide +kernel
theorem dX11_lay_46 : decode cX11_lay 46 = .ok (.aload_n 0, 1) := by decide +kernel
theorem dX11_lay_47 : decode cX11_lay 47 = .ok (.getfield 17, 3) := by decide +kernel
theorem dX11_lay_50 : decode cX11_lay 50 = .ok (.iload_n 1, 1) := by decide +kernel
theorem dX11_lay_51 : decode cX11_lay 51 = .ok (.aaload, 1) := by decide +kernel
theorem dX11_lay_52 : decode cX11_lay 52 = .ok (.iload_n 2, 1) := by decide +kernel
theorem dX11_lay_53 : decode cX11_lay 53 = .ok (.baload, 1) := by decide +kernel
theorem dX11_lay_54 : decode cX11_lay 54 = .ok (.istore 4, 2) := by decide +kernel
theorem dX11_lay_56 : decode cX11_lay 56 = .ok (.aload_n 0, 1) := by decide +kernel
theorem dX11_lay_57 : decode cX11_lay 57 = .ok (.getfield 17, 3) := by decide +kernel
theorem dX11_lay_60 : decode cX11_lay 60 = .ok (.iload_n 1, 1) := by decide +kernel
theorem dX11_lay_61 : decode cX11_lay 61 = .ok (.aaload, 1) := by decide +kernel
theorem dX11_lay_62 : decode cX11_lay 62 = .ok (.iload_n 2, 1) := by decide +kernel
theorem dX11_lay_63 : decode cX11_lay 63 = .ok (.iload_n 3, 1) := by decide +kernel
theorem dX11_lay_64 : decode cX11_lay 64 = .ok (.i2b, 1) := by decide +kernel
theorem dX11_lay_65 : decode cX11_lay 65 = .ok (.bastore, 1) := by decide +kernel
theorem dX11_lay_66 : decode cX11_lay 66 = .ok (.iload 4, 2) := by decide +kernel
theorem dX11_lay_68 : decode cX11_lay 68 = .ok (.sipush 1000, 3) := by decide +kernel
theorem dX11_lay_71 : decode cX11_lay 71 = .ok (.iadd, 1) := by decide +kernel
theorem dX11_lay_72 : decode cX11_lay 72 = .ok (.ireturn, 1) := by decide +kernel
theorem dX11_tear_0 : decode cX11_tear 0 = .ok (.iload_n 1, 1) := by decide +kernel
theorem dX11_tear_1 : decode cX11_tear 1 = .ok (.invokestatic 127, 3) := by decide +kernel
theorem dX11_tear_4 : decode cX11_tear 4 = .ok (.ifCond .ne 5, 3) := by decide +kernel
theorem dX11_tear_7 : decode cX11_tear 7 = .ok (.iconst (-1), 1) := by decide +kernel
theorem dX11_tear_8 : decode cX11_tear 8 = .ok (.ireturn, 1) := by decide +kernel
theorem dX11_tear_9 : decode cX11_tear 9 = .ok (.aload_n 0, 1) := by decide +kernel
theorem dX11_tear_10 : decode cX11_tear 10 = .ok (.getfield 20, 3) := by decide +kernel
theorem dX11_tear_13 : decode cX11_tear 13 = .ok (.iload_n 1, 1) := by decide +kernel
theorem dX11_tear_14 : decode cX11_tear 14 = .ok (.iaload, 1) := by decide +kernel
theorem dX11_tear_15 : decode cX11_tear 15 = .ok (.ifCond .ge 9, 3) := by decide +kernel
theorem dX11_tear_18 : decode cX11_tear 18 = .ok (.aload_n 0, 1) := by decide +kernel
theorem dX11_tear_19 : decode cX11_tear 19 = .ok (.iconst 1, 1) := by decide +kernel
theorem dX11_tear_20 : decode cX11_tear 20 = .ok (.invokevirtual 96, 3) := by decide +kernel
theorem dX11_tear_23 : decode cX11_tear 23 = .ok (.ireturn, 1) := by decide +kernel
theorem dX11_tear_24 : decode cX11_tear 24 = .ok (.aload_n 0, 1) := by decide +kernel
theorem dX11_tear_25 : decode cX11_tear 25 = .ok (.getfield 20, 3) := by decide +kernel
theorem dX11_tear_28 : decode cX11_tear 28 = .ok (.iload_n 1, 1) := by decide +kernel
theorem dX11_tear_29 : decode cX11_tear 29 = .ok (.iconst (-1), 1) := by decide +kernel
theorem dX11_tear_30 : decode cX11_tear 30 = .ok (.iastore, 1) := by decide +kernel
theorem dX11_tear_31 : decode cX11_tear 31 = .ok (.iconst 1, 1) := by decide +kernel
theorem dX11_tear_32 : decode cX11_tear 32 = .ok (.ireturn, 1) := by decide +kernel
theorem dX11_table_0 : decode cX11_table 0 = .ok (.iload_n 1, 1) := by decide +kernel
theorem dX11_table_1 : decode cX11_table 1 = .ok (.invokestatic 127, 3) := by decide +kernel
theorem dX11_table_4 : decode cX11_table 4 = .ok (.ifCond .ne 5, 3) := by decide +kernel
theorem dX11_table_7 : decode cX11_table 7 = .ok (.iconst (-1), 1) := by decide +kernel
theorem dX11_table_8 : decode cX11_table 8 = .ok (.ireturn, 1) := by decide +kernel
theorem dX11_table_9 : decode cX11_table 9 = .ok (.aload_n 0, 1) := by decide +kernel
theorem dX11_table_10 : decode cX11_table 10 = .ok (.getfield 130, 3) := by decide +kernel
theorem dX11_table_13 : decode cX11_table 13 = .ok (.bipush 12, 2) := by decide +kernel
theorem dX11_table_15 : decode cX11_table 15 = .ok (.if_icmp .lt 6, 3) := by decide +kernel
theorem dX11_table_18 : decode cX11_table 18 = .ok (.bipush (-2), 2) := by decide +kernel
theorem dX11_table_20 : decode cX11_table 20 = .ok (.ireturn, 1) := by decide +kernel
theorem dX11_table_21 : decode cX11_table 21 = .ok (.aload_n 0, 1) := by decide +kernel
theorem dX11_table_22 : decode cX11_table 22 = .ok (.getfield 20, 3) := by decide +kernel
theorem dX11_table_25 : decode cX11_table 25 = .ok (.iload_n 1, 1) := by decide +kernel
theorem dX11_table_26 : decode cX11_table 26 = .ok (.iaload, 1) := by decide +kernel
theorem dX11_table_27 : decode cX11_table 27 = .ok (.ifCond .ge 9, 3) := by decide +kernel
theorem dX11_table_30 : decode cX11_table 30 = .ok (.aload_n 0, 1) := by decide +kernel
theorem dX11_table_31 : decode cX11_table 31 = .ok (.iconst 1, 1) := by decide +kernel
theorem dX11_table_32 : decode cX11_table 32 = .ok (.invokevirtual 96, 3) := by decide +kernel
theorem dX11_table_35 : decode cX11_table 35 = .ok (.ireturn, 1) := by decide +kernel
theorem dX11_table_36 : decode cX11_table 36 = .ok (.aload_n 0, 1) := by decide +kernel
theorem dX11_table_37 : decode cX11_table 37 = .ok (.new 134, 3) := by decide +kernel
theorem dX11_table_40 : decode cX11_table 40 = .ok (.dup, 1) := by decide +kernel
theorem dX11_table_41 : decode cX11_table 41 = .ok (.aload_n 0, 1) := by decide +kernel
theorem dX11_table_42 : decode cX11_table 42 = .ok (.getfield 17, 3) := by decide +kernel
theorem dX11_table_45 : decode cX11_table 45 = .ok (.iload_n 1, 1) := by decide +kernel
theorem dX11_table_46 : decode cX11_table 46 = .ok (.aaload, 1) := by decide +kernel
theorem dX11_table_47 : decode cX11_table 47 = .ok (.aload_n 0, 1) := by decide +kernel
theorem dX11_table_48 : decode cX11_table 48 = .ok (.getfield 20, 3) := by decide +kernel
theorem dX11_table_51 : decode cX11_table 51 = .ok (.iload_n 1, 1) := by decide +kernel
theorem dX11_table_52 : decode cX11_table 52 = .ok (.iaload, 1) := by decide +kernel
theorem dX11_table_53 : decode cX11_table 53 = .ok (.invokespecial 136, 3) := by decide +kernel
theorem dX11_table_56 : decode cX11_table 56 = .ok (.invokevirtual 139, 3) := by decide +kernel
theorem dX11_table_59 : decode cX11_table 59 = .ok (.ireturn, 1) := by decide +kernel
theorem dX11_rule_0 : decode cX11_rule 0 = .ok (.iload_n 1, 1) := by decide +kernel
theorem dX11_rule_1 : decode cX11_rule 1 = .ok (.iload_n 2, 1) := by decide +kernel
theorem dX11_rule_2 : decode cX11_rule 2 = .ok (.iload_n 3, 1) := by decide +kernel
theorem dX11_rule_3 : decode cX11_rule 3 = .ok (.invokestatic 143, 3) := by decide +kernel
theorem dX11_rule_6 : decode cX11_rule 6 = .ok (.ifCond .ne 5, 3) := by decide +kernel
theorem dX11_rule_9 : decode cX11_rule 9 = .ok (.iconst (-1), 1) := by decide +kernel
theorem dX11_rule_10 : decode cX11_rule 10 = .ok (.ireturn, 1) := by decide +kernel
theorem dX11_rule_11 : decode cX11_rule 11 = .ok (.aload_n 0, 1) := by decide +kernel
theorem dX11_rule_12 : decode cX11_rule 12 = .ok (.getfield 130, 3) := by decide +kernel
theorem dX11_rule_15 : decode cX11_rule 15 = .ok (.bipush 12, 2) := by decide +kernel
theorem dX11_rule_17 : decode cX11_rule 17 = .ok (.if_icmp .lt 6, 3) := by decide +kernel
theorem dX11_rule_20 : decode cX11_rule 20 = .ok (.bipush (-2), 2) := by decide +kernel
theorem dX11_rule_22 : decode cX11_rule 22 = .ok (.ireturn, 1) := by decide +kernel
theorem dX11_rule_23 : decode cX11_rule 23 = .ok (.iload_n 1, 1) := by decide +kernel
theorem dX11_rule_24 : decode cX11_rule 24 = .ok (.iconst 1, 1) := by decide +kernel
theorem dX11_rule_25 : decode cX11_rule 25 = .ok (.if_icmp .ne 16, 3) := by decide +kernel
theorem dX11_rule_28 : decode cX11_rule 28 = .ok (.aload_n 0, 1) := by decide +kernel
theorem dX11_rule_29 : decode cX11_rule 29 = .ok (.new 146, 3) := by decide +kernel
theorem dX11_rule_32 : decode cX11_rule 32 = .ok (.dup, 1) := by decide +kernel
theorem dX11_rule_33 : decode cX11_rule 33 = .ok (.iload_n 2, 1) := by decide +kernel
theorem dX11_rule_34 : decode cX11_rule 34 = .ok (.invokespecial 148, 3) := by decide +kernel
theorem dX11_rule_37 : decode cX11_rule 37 = .ok (.invokevirtual 139, 3) := by decide +kernel
theorem dX11_rule_40 : decode cX11_rule 40 = .ok (.ireturn, 1) := by decide +kernel
theorem dX11_rule_41 : decode cX11_rule 41 = .ok (.iload_n 1, 1) := by decide +kernel
theorem dX11_rule_42 : decode cX11_rule 42 = .ok (.iconst 2, 1) := by decide +kernel
theorem dX11_rule_43 : decode cX11_rule 43 = .ok (.if_icmp .ne 19, 3) := by decide +kernel
theorem dX11_rule_46 : decode cX11_rule 46 = .ok (.aload_n 0, 1) := by decide +kernel
theorem dX11_rule_47 : decode cX11_rule 47 = .ok (.new 151, 3) := by decide +kernel
theorem dX11_rule_50 : decode cX11_rule 50 = .ok (.dup, 1) := by decide +kernel
theorem dX11_rule_51 : decode cX11_rule 51 = .ok (.iload_n 2, 1) := by decide +kernel
theorem dX11_rule_52 : decode cX11_rule 52 = .ok (.iload_n 3, 1) := by decide +kernel
theorem dX11_rule_53 : decode cX11_rule 53 = .ok (.invokespecial 153, 3) := by decide +kernel
theorem dX11_rule_56 : decode cX11_rule 56 = .ok (.invokevirtual 139, 3) := by decide +kernel
theorem dX11_rule_59 : decode cX11_rule 59 = .ok (.goto 16, 3) := by decide +kernel
theorem dX11_rule_62 : decode cX11_rule 62 = .ok (.aload_n 0, 1) := by decide +kernel
theorem dX11_rule_63 : decode cX11_rule 63 = .ok (.new 156, 3) := by decide +kernel
theorem dX11_rule_66 : decode cX11_rule 66 = .ok (.dup, 1) := by decide +kernel
theorem dX11_rule_67 : decode cX11_rule 67 = .ok (.iload_n 2, 1) := by decide +kernel
theorem dX11_rule_68 : decode cX11_rule 68 = .ok (.iload_n 3, 1) := by decide +kernel
theorem dX11_rule_69 : decode cX11_rule 69 = .ok (.invokespecial 158, 3) := by decide +kernel
theorem dX11_rule_72 : decode cX11_rule 72 = .ok (.invokevirtual 139, 3) := by decide +kernel
theorem dX11_rule_75 : decode cX11_rule 75 = .ok (.ireturn, 1) := by decide +kernel
theorem dX11_drop_0 : decode cX11_drop 0 = .ok (.aload_n 0, 1) := by decide +kernel
theorem dX11_drop_1 : decode cX11_drop 1 = .ok (.iload_n 1, 1) := by decide +kernel
theorem dX11_drop_2 : decode cX11_drop 2 = .ok (.invokevirtual 159, 3) := by decide +kernel
theorem dX11_drop_5 : decode cX11_drop 5 = .ok (.ifCond .ne 5, 3) := by decide +kernel
theorem dX11_drop_8 : decode cX11_drop 8 = .ok (.iconst (-1), 1) := by decide +kernel
theorem dX11_drop_9 : decode cX11_drop 9 = .ok (.ireturn, 1) := by decide +kernel
theorem dX11_drop_10 : decode cX11_drop 10 = .ok (.aload_n 0, 1) := by decide +kernel
theorem dX11_drop_11 : decode cX11_drop 11 = .ok (.getfield 26, 3) := by decide +kernel
theorem dX11_drop_14 : decode cX11_drop 14 = .ok (.iload_n 1, 1) := by decide +kernel
theorem dX11_drop_15 : decode cX11_drop 15 = .ok (.aaload, 1) := by decide +kernel
theorem dX11_drop_16 : decode cX11_drop 16 = .ok (.ifnonnull 9, 3) := by decide +kernel
theorem dX11_drop_19 : decode cX11_drop 19 = .ok (.aload_n 0, 1) := by decide +kernel
theorem dX11_drop_20 : decode cX11_drop 20 = .ok (.iconst 1, 1) := by decide +kernel
theorem dX11_drop_21 : decode cX11_drop 21 = .ok (.invokevirtual 96, 3) := by decide +kernel
theorem dX11_drop_24 : decode cX11_drop 24 = .ok (.ireturn, 1) := by decide +kernel
theorem dX11_drop_25 : decode cX11_drop 25 = .ok (.aload_n 0, 1) := by decide +kernel
theorem dX11_drop_26 : decode cX11_drop 26 = .ok (.getfield 26, 3) := by decide +kernel
theorem dX11_drop_29 : decode cX11_drop 29 = .ok (.iload_n 1, 1) := by decide +kernel
theorem dX11_drop_30 : decode cX11_drop 30 = .ok (.aconst_null, 1) := by decide +kernel
theorem dX11_drop_31 : decode cX11_drop 31 = .ok (.aastore, 1) := by decide +kernel
theorem dX11_drop_32 : decode cX11_drop 32 = .ok (.iconst 1, 1) := by decide +kernel
theorem dX11_drop_33 : decode cX11_drop 33 = .ok (.ireturn, 1) := by decide +kernel
theorem dX11_told_0 : decode cX11_told 0 = .ok (.aload_n 0, 1) := by decide +kernel
theorem dX11_told_1 : decode cX11_told 1 = .ok (.iload_n 1, 1) := by decide +kernel
theorem dX11_told_2 : decode cX11_told 2 = .ok (.invokevirtual 159, 3) := by decide +kernel
theorem dX11_told_5 : decode cX11_told 5 = .ok (.ifCond .eq 12, 3) := by decide +kernel
theorem dX11_told_8 : decode cX11_told 8 = .ok (.iload_n 2, 1) := by decide +kernel
theorem dX11_told_9 : decode cX11_told 9 = .ok (.iconst 0, 1) := by decide +kernel
theorem dX11_told_10 : decode cX11_told 10 = .ok (.iconst 4, 1) := by decide +kernel
theorem dX11_told_11 : decode cX11_told 11 = .ok (.invokestatic 92, 3) := by decide +kernel
theorem dX11_told_14 : decode cX11_told 14 = .ok (.ifCond .ne 5, 3) := by decide +kernel
theorem dX11_told_17 : decode cX11_told 17 = .ok (.iconst (-1), 1) := by decide +kernel
theorem dX11_told_18 : decode cX11_told 18 = .ok (.ireturn, 1) := by decide +kernel
theorem dX11_told_19 : decode cX11_told 19 = .ok (.aload_n 0, 1) := by decide +kernel
theorem dX11_told_20 : decode cX11_told 20 = .ok (.getfield 26, 3) := by decide +kernel
theorem dX11_told_23 : decode cX11_told 23 = .ok (.iload_n 1, 1) := by decide +kernel
theorem dX11_told_24 : decode cX11_told 24 = .ok (.aaload, 1) := by decide +kernel
theorem dX11_told_25 : decode cX11_told 25 = .ok (.ifnonnull 9, 3) := by decide +kernel
theorem dX11_told_28 : decode cX11_told 28 = .ok (.aload_n 0, 1) := by decide +kernel
theorem dX11_told_29 : decode cX11_told 29 = .ok (.iconst 1, 1) := by decide +kernel
theorem dX11_told_30 : decode cX11_told 30 = .ok (.invokevirtual 96, 3) := by decide +kernel
theorem dX11_told_33 : decode cX11_told 33 = .ok (.ireturn, 1) := by decide +kernel
theorem dX11_told_34 : decode cX11_told 34 = .ok (.aload_n 0, 1) := by decide +kernel
theorem dX11_told_35 : decode cX11_told 35 = .ok (.getfield 26, 3) := by decide +kernel
theorem dX11_told_38 : decode cX11_told 38 = .ok (.iload_n 1, 1) := by decide +kernel
theorem dX11_told_39 : decode cX11_told 39 = .ok (.aaload, 1) := by decide +kernel
theorem dX11_told_40 : decode cX11_told 40 = .ok (.iload_n 2, 1) := by decide +kernel
theorem dX11_told_41 : decode cX11_told 41 = .ok (.invokestatic 162, 3) := by decide +kernel
theorem dX11_told_44 : decode cX11_told 44 = .ok (.ireturn, 1) := by decide +kernel
theorem dX11_mark_0 : decode cX11_mark 0 = .ok (.aload_n 0, 1) := by decide +kernel
theorem dX11_mark_1 : decode cX11_mark 1 = .ok (.iload_n 1, 1) := by decide +kernel
theorem dX11_mark_2 : decode cX11_mark 2 = .ok (.invokevirtual 159, 3) := by decide +kernel
theorem dX11_mark_5 : decode cX11_mark 5 = .ok (.ifCond .eq 12, 3) := by decide +kernel
theorem dX11_mark_8 : decode cX11_mark 8 = .ok (.iload_n 2, 1) := by decide +kernel
theorem dX11_mark_9 : decode cX11_mark 9 = .ok (.iconst 0, 1) := by decide +kernel
theorem dX11_mark_10 : decode cX11_mark 10 = .ok (.iconst 3, 1) := by decide +kernel
theorem dX11_mark_11 : decode cX11_mark 11 = .ok (.invokestatic 92, 3) := by decide +kernel
theorem dX11_mark_14 : decode cX11_mark 14 = .ok (.ifCond .ne 5, 3) := by decide +kernel
theorem dX11_mark_17 : decode cX11_mark 17 = .ok (.iconst (-1), 1) := by decide +kernel
theorem dX11_mark_18 : decode cX11_mark 18 = .ok (.ireturn, 1) := by decide +kernel
theorem dX11_mark_19 : decode cX11_mark 19 = .ok (.aload_n 0, 1) := by decide +kernel
theorem dX11_mark_20 : decode cX11_mark 20 = .ok (.getfield 26, 3) := by decide +kernel
theorem dX11_mark_23 : decode cX11_mark 23 = .ok (.iload_n 1, 1) := by decide +kernel
theorem dX11_mark_24 : decode cX11_mark 24 = .ok (.aaload, 1) := by decide +kernel
theorem dX11_mark_25 : decode cX11_mark 25 = .ok (.astore_n 3, 1) := by decide +kernel
theorem dX11_mark_26 : decode cX11_mark 26 = .ok (.aload_n 3, 1) := by decide +kernel
theorem dX11_mark_27 : decode cX11_mark 27 = .ok (.ifnonnull 9, 3) := by decide +kernel
theorem dX11_mark_30 : decode cX11_mark 30 = .ok (.aload_n 0, 1) := by decide +kernel
theorem dX11_mark_31 : decode cX11_mark 31 = .ok (.iconst 1, 1) := by decide +kernel
theorem dX11_mark_32 : decode cX11_mark 32 = .ok (.invokevirtual 96, 3) := by decide +kernel
theorem dX11_mark_35 : decode cX11_mark 35 = .ok (.ireturn, 1) := by decide +kernel
theorem dX11_mark_36 : decode cX11_mark 36 = .ok (.iload_n 2, 1) := by decide +kernel
theorem dX11_mark_37 : decode cX11_mark 37 = .ok (.ifCond .ne 5, 3) := by decide +kernel
theorem dX11_mark_40 : decode cX11_mark 40 = .ok (.iload_n 1, 1) := by decide +kernel
theorem dX11_mark_41 : decode cX11_mark 41 = .ok (.ireturn, 1) := by decide +kernel
theorem dX11_mark_42 : decode cX11_mark 42 = .ok (.iload_n 2, 1) := by decide +kernel
theorem dX11_mark_43 : decode cX11_mark 43 = .ok (.iconst 1, 1) := by decide +kernel
theorem dX11_mark_44 : decode cX11_mark 44 = .ok (.if_icmp .ne 22, 3) := by decide +kernel
theorem dX11_mark_47 : decode cX11_mark 47 = .ok (.aload_n 3, 1) := by decide +kernel
theorem dX11_mark_48 : decode cX11_mark 48 = .ok (.instanceof 146, 3) := by decide +kernel
theorem dX11_mark_51 : decode cX11_mark 51 = .ok (.ifCond .eq 15, 3) := by decide +kernel
theorem dX11_mark_54 : decode cX11_mark 54 = .ok (.aload_n 3, 1) := by decide +kernel
theorem dX11_mark_55 : decode cX11_mark 55 = .ok (.checkcast 146, 3) := by decide +kernel
theorem dX11_mark_58 : decode cX11_mark 58 = .ok (.astore 4, 2) := by decide +kernel
theorem dX11_mark_60 : decode cX11_mark 60 = .ok (.aload 4, 2) := by decide +kernel
theorem dX11_mark_62 : decode cX11_mark 62 = .ok (.getfield 166, 3) := by decide +kernel
theorem dX11_mark_65 : decode cX11_mark 65 = .ok (.ireturn, 1) := by decide +kernel
theorem dX11_mark_66 : decode cX11_mark 66 = .ok (.iload_n 2, 1) := by decide +kernel
theorem dX11_mark_67 : decode cX11_mark 67 = .ok (.iconst 2, 1) := by decide +kernel
theorem dX11_mark_68 : decode cX11_mark 68 = .ok (.if_icmp .ne 28, 3) := by decide +kernel
theorem dX11_mark_71 : decode cX11_mark 71 = .ok (.aload_n 3, 1) := by decide +kernel
theorem dX11_mark_72 : decode cX11_mark 72 = .ok (.instanceof 151, 3) := by decide +kernel
theorem dX11_mark_75 : decode cX11_mark 75 = .ok (.ifCond .eq 21, 3) := by decide +kernel
theorem dX11_mark_78 : decode cX11_mark 78 = .ok (.aload_n 3, 1) := by decide +kernel
theorem dX11_mark_79 : decode cX11_mark 79 = .ok (.checkcast 151, 3) := by decide +kernel
theorem dX11_mark_82 : decode cX11_mark 82 = .ok (.astore 4, 2) := by decide +kernel
theorem dX11_mark_84 : decode cX11_mark 84 = .ok (.aload 4, 2) := by decide +kernel
theorem dX11_mark_86 : decode cX11_mark 86 = .ok (.getfield 169, 3) := by decide +kernel
theorem dX11_mark_89 : decode cX11_mark 89 = .ok (.aload 4, 2) := by decide +kernel
theorem dX11_mark_91 : decode cX11_mark 91 = .ok (.getfield 170, 3) := by decide +kernel
theorem dX11_mark_94 : decode cX11_mark 94 = .ok (.isub, 1) := by decide +kernel
theorem dX11_mark_95 : decode cX11_mark 95 = .ok (.ireturn, 1) := by decide +kernel
theorem dX11_mark_96 : decode cX11_mark 96 = .ok (.iload_n 2, 1) := by decide +kernel
theorem dX11_mark_97 : decode cX11_mark 97 = .ok (.iconst 3, 1) := by decide +kernel
theorem dX11_mark_98 : decode cX11_mark 98 = .ok (.if_icmp .ne 22, 3) := by decide +kernel
theorem dX11_mark_101 : decode cX11_mark 101 = .ok (.aload_n 3, 1) := by decide +kernel
theorem dX11_mark_102 : decode cX11_mark 102 = .ok (.instanceof 156, 3) := by decide +kernel
theorem dX11_mark_105 : decode cX11_mark 105 = .ok (.ifCond .eq 15, 3) := by decide +kernel
theorem dX11_mark_108 : decode cX11_mark 108 = .ok (.aload_n 3, 1) := by decide +kernel
theorem dX11_mark_109 : decode cX11_mark 109 = .ok (.checkcast 156, 3) := by decide +kernel
theorem dX11_mark_112 : decode cX11_mark 112 = .ok (.astore 4, 2) := by decide +kernel
theorem dX11_mark_114 : decode cX11_mark 114 = .ok (.aload 4, 2) := by decide +kernel
theorem dX11_mark_116 : decode cX11_mark 116 = .ok (.getfield 173, 3) := by decide +kernel
theorem dX11_mark_119 : decode cX11_mark 119 = .ok (.ireturn, 1) := by decide +kernel
theorem dX11_mark_120 : decode cX11_mark 120 = .ok (.aload_n 0, 1) := by decide +kernel
theorem dX11_mark_121 : decode cX11_mark 121 = .ok (.iconst 3, 1) := by decide +kernel
theorem dX11_mark_122 : decode cX11_mark 122 = .ok (.invokevirtual 96, 3) := by decide +kernel
theorem dX11_mark_125 : decode cX11_mark 125 = .ok (.ireturn, 1) := by decide +kernel
theorem dX11_order_0 : decode cX11_order 0 = .ok (.aload_n 0, 1) := by decide +kernel
theorem dX11_order_1 : decode cX11_order 1 = .ok (.iload_n 1, 1) := by decide +kernel
theorem dX11_order_2 : decode cX11_order 2 = .ok (.invokevirtual 159, 3) := by decide +kernel
theorem dX11_order_5 : decode cX11_order 5 = .ok (.ifCond .eq 10, 3) := by decide +kernel
theorem dX11_order_8 : decode cX11_order 8 = .ok (.iload_n 2, 1) := by decide +kernel
theorem dX11_order_9 : decode cX11_order 9 = .ok (.invokestatic 176, 3) := by decide +kernel
theorem dX11_order_12 : decode cX11_order 12 = .ok (.ifCond .ne 5, 3) := by decide +kernel
theorem dX11_order_15 : decode cX11_order 15 = .ok (.iconst (-1), 1) := by decide +kernel
theorem dX11_order_16 : decode cX11_order 16 = .ok (.ireturn, 1) := by decide +kernel
theorem dX11_order_17 : decode cX11_order 17 = .ok (.aload_n 0, 1) := by decide +kernel
theorem dX11_order_18 : decode cX11_order 18 = .ok (.getfield 26, 3) := by decide +kernel
theorem dX11_order_21 : decode cX11_order 21 = .ok (.iload_n 1, 1) := by decide +kernel
theorem dX11_order_22 : decode cX11_order 22 = .ok (.aaload, 1) := by decide +kernel
theorem dX11_order_23 : decode cX11_order 23 = .ok (.ifnonnull 9, 3) := by decide +kernel
theorem dX11_order_26 : decode cX11_order 26 = .ok (.aload_n 0, 1) := by decide +kernel
theorem dX11_order_27 : decode cX11_order 27 = .ok (.iconst 1, 1) := by decide +kernel
theorem dX11_order_28 : decode cX11_order 28 = .ok (.invokevirtual 96, 3) := by decide +kernel
theorem dX11_order_31 : decode cX11_order 31 = .ok (.ireturn, 1) := by decide +kernel
theorem dX11_order_32 : decode cX11_order 32 = .ok (.aload_n 0, 1) := by decide +kernel
theorem dX11_order_33 : decode cX11_order 33 = .ok (.getfield 26, 3) := by decide +kernel
theorem dX11_order_36 : decode cX11_order 36 = .ok (.iload_n 1, 1) := by decide +kernel
theorem dX11_order_37 : decode cX11_order 37 = .ok (.aaload, 1) := by decide +kernel
theorem dX11_order_38 : decode cX11_order 38 = .ok (.iload_n 2, 1) := by decide +kernel
theorem dX11_order_39 : decode cX11_order 39 = .ok (.invokevirtual 179, 3) := by decide +kernel
theorem dX11_order_42 : decode cX11_order 42 = .ok (.invokestatic 182, 3) := by decide +kernel
theorem dX11_order_45 : decode cX11_order 45 = .ok (.ireturn, 1) := by decide +kernel
theorem dX11_shop_0 : decode cX11_shop 0 = .ok (.iload_n 1, 1) := by decide +kernel
theorem dX11_shop_1 : decode cX11_shop 1 = .ok (.iconst 1, 1) := by decide +kernel
theorem dX11_shop_2 : decode cX11_shop 2 = .ok (.bipush 12, 2) := by decide +kernel
theorem dX11_shop_4 : decode cX11_shop 4 = .ok (.invokestatic 92, 3) := by decide +kernel
theorem dX11_shop_7 : decode cX11_shop 7 = .ok (.ifCond .eq 12, 3) := by decide +kernel
theorem dX11_shop_10 : decode cX11_shop 10 = .ok (.iload_n 2, 1) := by decide +kernel
theorem dX11_shop_11 : decode cX11_shop 11 = .ok (.iconst 0, 1) := by decide +kernel
theorem dX11_shop_12 : decode cX11_shop 12 = .ok (.iconst 2, 1) := by decide +kernel
theorem dX11_shop_13 : decode cX11_shop 13 = .ok (.invokestatic 92, 3) := by decide +kernel
theorem dX11_shop_16 : decode cX11_shop 16 = .ok (.ifCond .ne 5, 3) := by decide +kernel
theorem dX11_shop_19 : decode cX11_shop 19 = .ok (.iconst (-1), 1) := by decide +kernel
theorem dX11_shop_20 : decode cX11_shop 20 = .ok (.ireturn, 1) := by decide +kernel
theorem dX11_shop_21 : decode cX11_shop 21 = .ok (.aload_n 0, 1) := by decide +kernel
theorem dX11_shop_22 : decode cX11_shop 22 = .ok (.getfield 33, 3) := by decide +kernel
theorem dX11_shop_25 : decode cX11_shop 25 = .ok (.iload_n 1, 1) := by decide +kernel
theorem dX11_shop_26 : decode cX11_shop 26 = .ok (.putfield 185, 3) := by decide +kernel
theorem dX11_shop_29 : decode cX11_shop 29 = .ok (.aload_n 0, 1) := by decide +kernel
theorem dX11_shop_30 : decode cX11_shop 30 = .ok (.getfield 33, 3) := by decide +kernel
theorem dX11_shop_33 : decode cX11_shop 33 = .ok (.iload_n 2, 1) := by decide +kernel
theorem dX11_shop_34 : decode cX11_shop 34 = .ok (.putfield 188, 3) := by decide +kernel
theorem dX11_shop_37 : decode cX11_shop 37 = .ok (.aload_n 0, 1) := by decide +kernel
theorem dX11_shop_38 : decode cX11_shop 38 = .ok (.getfield 33, 3) := by decide +kernel
theorem dX11_shop_41 : decode cX11_shop 41 = .ok (.iload_n 3, 1) := by decide +kernel
theorem dX11_shop_42 : decode cX11_shop 42 = .ok (.putfield 191, 3) := by decide +kernel
theorem dX11_shop_45 : decode cX11_shop 45 = .ok (.iconst 1, 1) := by decide +kernel
theorem dX11_shop_46 : decode cX11_shop 46 = .ok (.ireturn, 1) := by decide +kernel
theorem dX11_costs_0 : decode cX11_costs 0 = .ok (.iload_n 1, 1) := by decide +kernel
theorem dX11_costs_1 : decode cX11_costs 1 = .ok (.invokestatic 194, 3) := by decide +kernel
theorem dX11_costs_4 : decode cX11_costs 4 = .ok (.ifCond .eq 25, 3) := by decide +kernel
theorem dX11_costs_7 : decode cX11_costs 7 = .ok (.iload_n 2, 1) := by decide +kernel
theorem dX11_costs_8 : decode cX11_costs 8 = .ok (.invokestatic 194, 3) := by decide +kernel
theorem dX11_costs_11 : decode cX11_costs 11 = .ok (.ifCond .eq 18, 3) := by decide +kernel
theorem dX11_costs_14 : decode cX11_costs 14 = .ok (.iload_n 3, 1) := by decide +kernel
theorem dX11_costs_15 : decode cX11_costs 15 = .ok (.invokestatic 194, 3) := by decide +kernel
theorem dX11_costs_18 : decode cX11_costs 18 = .ok (.ifCond .eq 11, 3) := by decide +kernel
theorem dX11_costs_21 : decode cX11_costs 21 = .ok (.iload 4, 2) := by decide +kernel
theorem dX11_costs_23 : decode cX11_costs 23 = .ok (.invokestatic 194, 3) := by decide +kernel
theorem dX11_costs_26 : decode cX11_costs 26 = .ok (.ifCond .ne 5, 3) := by decide +kernel
theorem dX11_costs_29 : decode cX11_costs 29 = .ok (.iconst (-1), 1) := by decide +kernel
theorem dX11_costs_30 : decode cX11_costs 30 = .ok (.ireturn, 1) := by decide +kernel
theorem dX11_costs_31 : decode cX11_costs 31 = .ok (.aload_n 0, 1) := by decide +kernel
theorem dX11_costs_32 : decode cX11_costs 32 = .ok (.getfield 33, 3) := by decide +kernel
theorem dX11_costs_35 : decode cX11_costs 35 = .ok (.iload_n 1, 1) := by decide +kernel
theorem dX11_costs_36 : decode cX11_costs 36 = .ok (.putfield 197, 3) := by decide +kernel
theorem dX11_costs_39 : decode cX11_costs 39 = .ok (.aload_n 0, 1) := by decide +kernel
theorem dX11_costs_40 : decode cX11_costs 40 = .ok (.getfield 33, 3) := by decide +kernel
theorem dX11_costs_43 : decode cX11_costs 43 = .ok (.iload_n 2, 1) := by decide +kernel
theorem dX11_costs_44 : decode cX11_costs 44 = .ok (.putfield 200, 3) := by decide +kernel
theorem dX11_costs_47 : decode cX11_costs 47 = .ok (.aload_n 0, 1) := by decide +kernel
theorem dX11_costs_48 : decode cX11_costs 48 = .ok (.getfield 33, 3) := by decide +kernel
theorem dX11_costs_51 : decode cX11_costs 51 = .ok (.iload_n 3, 1) := by decide +kernel
theorem dX11_costs_52 : decode cX11_costs 52 = .ok (.putfield 203, 3) := by decide +kernel
theorem dX11_costs_55 : decode cX11_costs 55 = .ok (.aload_n 0, 1) := by decide +kernel
theorem dX11_costs_56 : decode cX11_costs 56 = .ok (.getfield 33, 3) := by decide +kernel
theorem dX11_costs_59 : decode cX11_costs 59 = .ok (.iload 4, 2) := by decide +kernel
theorem dX11_costs_61 : decode cX11_costs 61 = .ok (.putfield 206, 3) := by decide +kernel
theorem dX11_costs_64 : decode cX11_costs 64 = .ok (.iconst 1, 1) := by decide +kernel
theorem dX11_costs_65 : decode cX11_costs 65 = .ok (.ireturn, 1) := by decide +kernel
theorem dX11_cost_0 : decode cX11_cost 0 = .ok (.aload_n 0, 1) := by decide +kernel
theorem dX11_cost_1 : decode cX11_cost 1 = .ok (.iload_n 1, 1) := by decide +kernel
theorem dX11_cost_2 : decode cX11_cost 2 = .ok (.invokevirtual 159, 3) := by decide +kernel
theorem dX11_cost_5 : decode cX11_cost 5 = .ok (.ifCond .eq 14, 3) := by decide +kernel
theorem dX11_cost_8 : decode cX11_cost 8 = .ok (.aload_n 0, 1) := by decide +kernel
theorem dX11_cost_9 : decode cX11_cost 9 = .ok (.iload_n 2, 1) := by decide +kernel
theorem dX11_cost_10 : decode cX11_cost 10 = .ok (.iload_n 3, 1) := by decide +kernel
theorem dX11_cost_11 : decode cX11_cost 11 = .ok (.iload 4, 2) := by decide +kernel
theorem dX11_cost_13 : decode cX11_cost 13 = .ok (.invokevirtual 209, 3) := by decide +kernel
theorem dX11_cost_16 : decode cX11_cost 16 = .ok (.ifCond .ne 5, 3) := by decide +kernel
theorem dX11_cost_19 : decode cX11_cost 19 = .ok (.iconst (-1), 1) := by decide +kernel
theorem dX11_cost_20 : decode cX11_cost 20 = .ok (.ireturn, 1) := by decide +kernel
theorem dX11_cost_21 : decode cX11_cost 21 = .ok (.aload_n 0, 1) := by decide +kernel
theorem dX11_cost_22 : decode cX11_cost 22 = .ok (.getfield 26, 3) := by decide +kernel
theorem dX11_cost_25 : decode cX11_cost 25 = .ok (.iload_n 1, 1) := by decide +kernel
theorem dX11_cost_26 : decode cX11_cost 26 = .ok (.aaload, 1) := by decide +kernel
theorem dX11_cost_27 : decode cX11_cost 27 = .ok (.aload_n 0, 1) := by decide +kernel
theorem dX11_cost_28 : decode cX11_cost 28 = .ok (.getfield 11, 3) := by decide +kernel
theorem dX11_cost_31 : decode cX11_cost 31 = .ok (.iload_n 2, 1) := by decide +kernel
theorem dX11_cost_32 : decode cX11_cost 32 = .ok (.aaload, 1) := by decide +kernel
theorem dX11_cost_33 : decode cX11_cost 33 = .ok (.invokestatic 212, 3) := by decide +kernel
theorem dX11_cost_36 : decode cX11_cost 36 = .ok (.istore 5, 2) := by decide +kernel
theorem dX11_cost_38 : decode cX11_cost 38 = .ok (.iload 5, 2) := by decide +kernel
theorem dX11_cost_40 : decode cX11_cost 40 = .ok (.ifCond .eq 10, 3) := by decide +kernel
theorem dX11_cost_43 : decode cX11_cost 43 = .ok (.aload_n 0, 1) := by decide +kernel
theorem dX11_cost_44 : decode cX11_cost 44 = .ok (.iload 5, 2) := by decide +kernel
theorem dX11_cost_46 : decode cX11_cost 46 = .ok (.invokevirtual 96, 3) := by decide +kernel
theorem dX11_cost_49 : decode cX11_cost 49 = .ok (.ireturn, 1) := by decide +kernel
theorem dX11_cost_50 : decode cX11_cost 50 = .ok (.aload_n 0, 1) := by decide +kernel
theorem dX11_cost_51 : decode cX11_cost 51 = .ok (.getfield 33, 3) := by decide +kernel
theorem dX11_cost_54 : decode cX11_cost 54 = .ok (.aload_n 0, 1) := by decide +kernel
theorem dX11_cost_55 : decode cX11_cost 55 = .ok (.getfield 11, 3) := by decide +kernel
theorem dX11_cost_58 : decode cX11_cost 58 = .ok (.iload_n 2, 1) := by decide +kernel
theorem dX11_cost_59 : decode cX11_cost 59 = .ok (.aaload, 1) := by decide +kernel
theorem dX11_cost_60 : decode cX11_cost 60 = .ok (.invokevirtual 216, 3) := by decide +kernel
theorem dX11_cost_63 : decode cX11_cost 63 = .ok (.aload_n 0, 1) := by decide +kernel
theorem dX11_cost_64 : decode cX11_cost 64 = .ok (.getfield 59, 3) := by decide +kernel
theorem dX11_cost_67 : decode cX11_cost 67 = .ok (.aload_n 0, 1) := by decide +kernel
theorem dX11_cost_68 : decode cX11_cost 68 = .ok (.getfield 26, 3) := by decide +kernel
theorem dX11_cost_71 : decode cX11_cost 71 = .ok (.iload_n 1, 1) := by decide +kernel
theorem dX11_cost_72 : decode cX11_cost 72 = .ok (.aaload, 1) := by decide +kernel
theorem dX11_cost_73 : decode cX11_cost 73 = .ok (.invokevirtual 220, 3) := by decide +kernel
theorem dX11_cost_76 : decode cX11_cost 76 = .ok (.aload_n 0, 1) := by decide +kernel
theorem dX11_cost_77 : decode cX11_cost 77 = .ok (.getfield 59, 3) := by decide +kernel
theorem dX11_cost_80 : decode cX11_cost 80 = .ok (.aload_n 0, 1) := by decide +kernel
theorem dX11_cost_81 : decode cX11_cost 81 = .ok (.getfield 11, 3) := by decide +kernel
theorem dX11_cost_84 : decode cX11_cost 84 = .ok (.iload_n 2, 1) := by decide +kernel
theorem dX11_cost_85 : decode cX11_cost 85 = .ok (.aaload, 1) := by decide +kernel
theorem dX11_cost_86 : decode cX11_cost 86 = .ok (.iload_n 3, 1) := by decide +kernel
theorem dX11_cost_87 : decode cX11_cost 87 = .ok (.iload 4, 2) := by decide +kernel
theorem dX11_cost_89 : decode cX11_cost 89 = .ok (.ldc2_w 224, 3) := by decide +kernel
theorem dX11_cost_92 : decode cX11_cost 92 = .ok (.invokevirtual 226, 3) := by decide +kernel
theorem dX11_cost_95 : decode cX11_cost 95 = .ok (.lstore 6, 2) := by decide +kernel
theorem dX11_cost_97 : decode cX11_cost 97 = .ok (.aload_n 0, 1) := by decide +kernel
theorem dX11_cost_98 : decode cX11_cost 98 = .ok (.lload 6, 2) := by decide +kernel
theorem dX11_cost_100 : decode cX11_cost 100 = .ok (.aload_n 0, 1) := by decide +kernel
theorem dX11_cost_101 : decode cX11_cost 101 = .ok (.getfield 11, 3) := by decide +kernel
theorem dX11_cost_104 : decode cX11_cost 104 = .ok (.iload_n 2, 1) := by decide +kernel
theorem dX11_cost_105 : decode cX11_cost 105 = .ok (.aaload, 1) := by decide +kernel
theorem dX11_cost_106 : decode cX11_cost 106 = .ok (.iload 4, 2) := by decide +kernel
theorem dX11_cost_108 : decode cX11_cost 108 = .ok (.invokestatic 230, 3) := by decide +kernel
theorem dX11_cost_111 : decode cX11_cost 111 = .ok (.invokevirtual 234, 3) := by decide +kernel
theorem dX11_cost_114 : decode cX11_cost 114 = .ok (.ireturn, 1) := by decide +kernel
theorem dX11_service_0 : decode cX11_service 0 = .ok (.iload_n 1, 1) := by decide +kernel
theorem dX11_service_1 : decode cX11_service 1 = .ok (.iconst 0, 1) := by decide +kernel
theorem dX11_service_2 : decode cX11_service 2 = .ok (.iconst 2, 1) := by decide +kernel
theorem dX11_service_3 : decode cX11_service 3 = .ok (.invokestatic 92, 3) := by decide +kernel
theorem dX11_service_6 : decode cX11_service 6 = .ok (.ifCond .eq 23, 3) := by decide +kernel
theorem dX11_service_9 : decode cX11_service 9 = .ok (.aload_n 0, 1) := by decide +kernel
theorem dX11_service_10 : decode cX11_service 10 = .ok (.iload_n 2, 1) := by decide +kernel
theorem dX11_service_11 : decode cX11_service 11 = .ok (.invokevirtual 159, 3) := by decide +kernel
theorem dX11_service_14 : decode cX11_service 14 = .ok (.ifCond .eq 15, 3) := by decide +kernel
theorem dX11_service_17 : decode cX11_service 17 = .ok (.aload_n 0, 1) := by decide +kernel
theorem dX11_service_18 : decode cX11_service 18 = .ok (.iload_n 3, 1) := by decide +kernel
theorem dX11_service_19 : decode cX11_service 19 = .ok (.iload 4, 2) := by decide +kernel
theorem dX11_service_21 : decode cX11_service 21 = .ok (.iload 5, 2) := by decide +kernel
theorem dX11_service_23 : decode cX11_service 23 = .ok (.invokevirtual 209, 3) := by decide +kernel
theorem dX11_service_26 : decode cX11_service 26 = .ok (.ifCond .ne 5, 3) := by decide +kernel
theorem dX11_service_29 : decode cX11_service 29 = .ok (.iconst (-1), 1) := by decide +kernel
theorem dX11_service_30 : decode cX11_service 30 = .ok (.ireturn, 1) := by decide +kernel
theorem dX11_service_31 : decode cX11_service 31 = .ok (.aload_n 0, 1) := by decide +kernel
theorem dX11_service_32 : decode cX11_service 32 = .ok (.getfield 26, 3) := by decide +kernel
theorem dX11_service_35 : decode cX11_service 35 = .ok (.iload_n 2, 1) := by decide +kernel
theorem dX11_service_36 : decode cX11_service 36 = .ok (.aaload, 1) := by decide +kernel
theorem dX11_service_37 : decode cX11_service 37 = .ok (.aload_n 0, 1) := by decide +kernel
theorem dX11_service_38 : decode cX11_service 38 = .ok (.getfield 11, 3) := by decide +kernel
theorem dX11_service_41 : decode cX11_service 41 = .ok (.iload_n 3, 1) := by decide +kernel
theorem dX11_service_42 : decode cX11_service 42 = .ok (.aaload, 1) := by decide +kernel
theorem dX11_service_43 : decode cX11_service 43 = .ok (.invokestatic 212, 3) := by decide +kernel
theorem dX11_service_46 : decode cX11_service 46 = .ok (.istore 6, 2) := by decide +kernel
theorem dX11_service_48 : decode cX11_service 48 = .ok (.iload 6, 2) := by decide +kernel
theorem dX11_service_50 : decode cX11_service 50 = .ok (.ifCond .eq 10, 3) := by decide +kernel
theorem dX11_service_53 : decode cX11_service 53 = .ok (.aload_n 0, 1) := by decide +kernel
theorem dX11_service_54 : decode cX11_service 54 = .ok (.iload 6, 2) := by decide +kernel
theorem dX11_service_56 : decode cX11_service 56 = .ok (.invokevirtual 96, 3) := by decide +kernel
theorem dX11_service_59 : decode cX11_service 59 = .ok (.ireturn, 1) := by decide +kernel
theorem dX11_service_60 : decode cX11_service 60 = .ok (.aload_n 0, 1) := by decide +kernel
theorem dX11_service_61 : decode cX11_service 61 = .ok (.getfield 11, 3) := by decide +kernel
theorem dX11_service_64 : decode cX11_service 64 = .ok (.iload_n 3, 1) := by decide +kernel
theorem dX11_service_65 : decode cX11_service 65 = .ok (.aaload, 1) := by decide +kernel
theorem dX11_service_66 : decode cX11_service 66 = .ok (.astore 7, 2) := by decide +kernel
theorem dX11_service_68 : decode cX11_service 68 = .ok (.aload_n 0, 1) := by decide +kernel
theorem dX11_service_69 : decode cX11_service 69 = .ok (.getfield 33, 3) := by decide +kernel
theorem dX11_service_72 : decode cX11_service 72 = .ok (.aload 7, 2) := by decide +kernel
theorem dX11_service_74 : decode cX11_service 74 = .ok (.invokevirtual 216, 3) := by decide +kernel
theorem dX11_service_77 : decode cX11_service 77 = .ok (.aload_n 0, 1) := by decide +kernel
theorem dX11_service_78 : decode cX11_service 78 = .ok (.getfield 59, 3) := by decide +kernel
theorem dX11_service_81 : decode cX11_service 81 = .ok (.aload_n 0, 1) := by decide +kernel
theorem dX11_service_82 : decode cX11_service 82 = .ok (.getfield 26, 3) := by decide +kernel
theorem dX11_service_85 : decode cX11_service 85 = .ok (.iload_n 2, 1) := by decide +kernel
theorem dX11_service_86 : decode cX11_service 86 = .ok (.aaload, 1) := by decide +kernel
theorem dX11_service_87 : decode cX11_service 87 = .ok (.invokevirtual 220, 3) := by decide +kernel
theorem dX11_service_90 : decode cX11_service 90 = .ok (.iload_n 1, 1) := by decide +kernel
theorem dX11_service_91 : decode cX11_service 91 = .ok (.ifCond .ne 28, 3) := by decide +kernel
theorem dX11_service_94 : decode cX11_service 94 = .ok (.aload_n 0, 1) := by decide +kernel
theorem dX11_service_95 : decode cX11_service 95 = .ok (.aload_n 0, 1) := by decide +kernel
theorem dX11_service_96 : decode cX11_service 96 = .ok (.getfield 59, 3) := by decide +kernel
theorem dX11_service_99 : decode cX11_service 99 = .ok (.aload 7, 2) := by decide +kernel
theorem dX11_service_101 : decode cX11_service 101 = .ok (.iload 4, 2) := by decide +kernel
theorem dX11_service_103 : decode cX11_service 103 = .ok (.iload 5, 2) := by decide +kernel
theorem dX11_service_105 : decode cX11_service 105 = .ok (.invokevirtual 238, 3) := by decide +kernel
theorem dX11_service_108 : decode cX11_service 108 = .ok (.aload 7, 2) := by decide +kernel
theorem dX11_service_110 : decode cX11_service 110 = .ok (.iload 5, 2) := by decide +kernel
theorem dX11_service_112 : decode cX11_service 112 = .ok (.invokestatic 230, 3) := by decide +kernel
theorem dX11_service_115 : decode cX11_service 115 = .ok (.invokevirtual 234, 3) := by decide +kernel
theorem dX11_service_118 : decode cX11_service 118 = .ok (.ireturn, 1) := by decide +kernel
theorem dX11_service_119 : decode cX11_service 119 = .ok (.aload_n 0, 1) := by decide +kernel
theorem dX11_service_120 : decode cX11_service 120 = .ok (.getfield 59, 3) := by decide +kernel
theorem dX11_service_123 : decode cX11_service 123 = .ok (.aload 7, 2) := by decide +kernel
theorem dX11_service_125 : decode cX11_service 125 = .ok (.iload 4, 2) := by decide +kernel
theorem dX11_service_127 : decode cX11_service 127 = .ok (.iload 5, 2) := by decide +kernel
theorem dX11_service_129 : decode cX11_service 129 = .ok (.ldc2_w 224, 3) := by decide +kernel
theorem dX11_service_132 : decode cX11_service 132 = .ok (.invokevirtual 226, 3) := by decide +kernel
theorem dX11_service_135 : decode cX11_service 135 = .ok (.pop2, 1) := by decide +kernel
theorem dX11_service_136 : decode cX11_service 136 = .ok (.iload_n 1, 1) := by decide +kernel
theorem dX11_service_137 : decode cX11_service 137 = .ok (.iconst 1, 1) := by decide +kernel
theorem dX11_service_138 : decode cX11_service 138 = .ok (.if_icmp .ne 34, 3) := by decide +kernel
theorem dX11_service_141 : decode cX11_service 141 = .ok (.aload_n 0, 1) := by decide +kernel
theorem dX11_service_142 : decode cX11_service 142 = .ok (.aload_n 0, 1) := by decide +kernel
theorem dX11_service_143 : decode cX11_service 143 = .ok (.getfield 59, 3) := by decide +kernel
theorem dX11_service_146 : decode cX11_service 146 = .ok (.getfield 242, 3) := by decide +kernel
theorem dX11_service_149 : decode cX11_service 149 = .ok (.iload 5, 2) := by decide +kernel
theorem dX11_service_151 : decode cX11_service 151 = .ok (.aload 7, 2) := by decide +kernel
theorem dX11_service_153 : decode cX11_service 153 = .ok (.invokevirtual 124, 3) := by decide +kernel
theorem dX11_service_156 : decode cX11_service 156 = .ok (.imul, 1) := by decide +kernel
theorem dX11_service_157 : decode cX11_service 157 = .ok (.i2l, 1) := by decide +kernel
theorem dX11_service_158 : decode cX11_service 158 = .ok (.aload 7, 2) := by decide +kernel
theorem dX11_service_160 : decode cX11_service 160 = .ok (.iload 5, 2) := by decide +kernel
theorem dX11_service_162 : decode cX11_service 162 = .ok (.iconst 1, 1) := by decide +kernel
theorem dX11_service_163 : decode cX11_service 163 = .ok (.isub, 1) := by decide +kernel
theorem dX11_service_164 : decode cX11_service 164 = .ok (.invokestatic 230, 3) := by decide +kernel
theorem dX11_service_167 : decode cX11_service 167 = .ok (.lmul, 1) := by decide +kernel
theorem dX11_service_168 : decode cX11_service 168 = .ok (.invokevirtual 234, 3) := by decide +kernel
theorem dX11_service_171 : decode cX11_service 171 = .ok (.ireturn, 1) := by decide +kernel
theorem dX11_service_172 : decode cX11_service 172 = .ok (.aload_n 0, 1) := by decide +kernel
theorem dX11_service_173 : decode cX11_service 173 = .ok (.aload_n 0, 1) := by decide +kernel
theorem dX11_service_174 : decode cX11_service 174 = .ok (.getfield 59, 3) := by decide +kernel
theorem dX11_service_177 : decode cX11_service 177 = .ok (.getfield 245, 3) := by decide +kernel
theorem dX11_service_180 : decode cX11_service 180 = .ok (.iload 5, 2) := by decide +kernel
theorem dX11_service_182 : decode cX11_service 182 = .ok (.i2l, 1) := by decide +kernel
theorem dX11_service_183 : decode cX11_service 183 = .ok (.aload 7, 2) := by decide +kernel
theorem dX11_service_185 : decode cX11_service 185 = .ok (.iload 5, 2) := by decide +kernel
theorem dX11_service_187 : decode cX11_service 187 = .ok (.invokestatic 230, 3) := by decide +kernel
theorem dX11_service_190 : decode cX11_service 190 = .ok (.lmul, 1) := by decide +kernel
theorem dX11_service_191 : decode cX11_service 191 = .ok (.invokevirtual 234, 3) := by decide +kernel
theorem dX11_service_194 : decode cX11_service 194 = .ok (.ireturn, 1) := by decide +kernel
theorem dX11_best_0 : decode cX11_best 0 = .ok (.aload_n 0, 1) := by decide +kernel
theorem dX11_best_1 : decode cX11_best 1 = .ok (.iload_n 1, 1) := by decide +kernel
theorem dX11_best_2 : decode cX11_best 2 = .ok (.iload_n 2, 1) := by decide +kernel
theorem dX11_best_3 : decode cX11_best 3 = .ok (.iload_n 3, 1) := by decide +kernel
theorem dX11_best_4 : decode cX11_best 4 = .ok (.invokevirtual 209, 3) := by decide +kernel
theorem dX11_best_7 : decode cX11_best 7 = .ok (.ifCond .ne 5, 3) := by decide +kernel
theorem dX11_best_10 : decode cX11_best 10 = .ok (.iconst (-1), 1) := by decide +kernel
theorem dX11_best_11 : decode cX11_best 11 = .ok (.ireturn, 1) := by decide +kernel
theorem dX11_best_12 : decode cX11_best 12 = .ok (.aload_n 0, 1) := by decide +kernel
theorem dX11_best_13 : decode cX11_best 13 = .ok (.getfield 11, 3) := by decide +kernel
theorem dX11_best_16 : decode cX11_best 16 = .ok (.iload_n 1, 1) := by decide +kernel
theorem dX11_best_17 : decode cX11_best 17 = .ok (.aaload, 1) := by decide +kernel
theorem dX11_best_18 : decode cX11_best 18 = .ok (.invokestatic 116, 3) := by decide +kernel
theorem dX11_best_21 : decode cX11_best 21 = .ok (.istore 4, 2) := by decide +kernel
theorem dX11_best_23 : decode cX11_best 23 = .ok (.iload 4, 2) := by decide +kernel
theorem dX11_best_25 : decode cX11_best 25 = .ok (.ifCond .eq 10, 3) := by decide +kernel
theorem dX11_best_28 : decode cX11_best 28 = .ok (.aload_n 0, 1) := by decide +kernel
theorem dX11_best_29 : decode cX11_best 29 = .ok (.iload 4, 2) := by decide +kernel
theorem dX11_best_31 : decode cX11_best 31 = .ok (.invokevirtual 96, 3) := by decide +kernel
theorem dX11_best_34 : decode cX11_best 34 = .ok (.ireturn, 1) := by decide +kernel
theorem dX11_best_35 : decode cX11_best 35 = .ok (.aload_n 0, 1) := by decide +kernel
theorem dX11_best_36 : decode cX11_best 36 = .ok (.getfield 33, 3) := by decide +kernel
theorem dX11_best_39 : decode cX11_best 39 = .ok (.aload_n 0, 1) := by decide +kernel
theorem dX11_best_40 : decode cX11_best 40 = .ok (.getfield 11, 3) := by decide +kernel
theorem dX11_best_43 : decode cX11_best 43 = .ok (.iload_n 1, 1) := by decide +kernel
theorem dX11_best_44 : decode cX11_best 44 = .ok (.aaload, 1) := by decide +kernel
theorem dX11_best_45 : decode cX11_best 45 = .ok (.invokevirtual 216, 3) := by decide +kernel
theorem dX11_best_48 : decode cX11_best 48 = .ok (.aload_n 0, 1) := by decide +kernel
theorem dX11_best_49 : decode cX11_best 49 = .ok (.getfield 68, 3) := by decide +kernel
theorem dX11_best_52 : decode cX11_best 52 = .ok (.aload_n 0, 1) := by decide +kernel
theorem dX11_best_53 : decode cX11_best 53 = .ok (.getfield 11, 3) := by decide +kernel
theorem dX11_best_56 : decode cX11_best 56 = .ok (.iload_n 1, 1) := by decide +kernel
theorem dX11_best_57 : decode cX11_best 57 = .ok (.aaload, 1) := by decide +kernel
theorem dX11_best_58 : decode cX11_best 58 = .ok (.iload_n 2, 1) := by decide +kernel
theorem dX11_best_59 : decode cX11_best 59 = .ok (.iload_n 3, 1) := by decide +kernel
theorem dX11_best_60 : decode cX11_best 60 = .ok (.invokevirtual 248, 3) := by decide +kernel
theorem dX11_best_63 : decode cX11_best 63 = .ok (.aload_n 0, 1) := by decide +kernel
theorem dX11_best_64 : decode cX11_best 64 = .ok (.aload_n 0, 1) := by decide +kernel
theorem dX11_best_65 : decode cX11_best 65 = .ok (.getfield 68, 3) := by decide +kernel
theorem dX11_best_68 : decode cX11_best 68 = .ok (.getfield 252, 3) := by decide +kernel
theorem dX11_best_71 : decode cX11_best 71 = .ok (.aload_n 0, 1) := by decide +kernel
theorem dX11_best_72 : decode cX11_best 72 = .ok (.getfield 11, 3) := by decide +kernel
theorem dX11_best_75 : decode cX11_best 75 = .ok (.iload_n 1, 1) := by decide +kernel
theorem dX11_best_76 : decode cX11_best 76 = .ok (.aaload, 1) := by decide +kernel
theorem dX11_best_77 : decode cX11_best 77 = .ok (.iload_n 3, 1) := by decide +kernel
theorem dX11_best_78 : decode cX11_best 78 = .ok (.invokestatic 230, 3) := by decide +kernel
theorem dX11_best_81 : decode cX11_best 81 = .ok (.invokevirtual 234, 3) := by decide +kernel
theorem dX11_best_84 : decode cX11_best 84 = .ok (.pop, 1) := by decide +kernel
theorem dX11_best_85 : decode cX11_best 85 = .ok (.aload_n 0, 1) := by decide +kernel
theorem dX11_best_86 : decode cX11_best 86 = .ok (.getfield 68, 3) := by decide +kernel
theorem dX11_best_89 : decode cX11_best 89 = .ok (.getfield 255, 3) := by decide +kernel
theorem dX11_best_92 : decode cX11_best 92 = .ok (.ireturn, 1) := by decide +kernel
theorem dX11_bestPair_0 : decode cX11_bestPair 0 = .ok (.aload_n 0, 1) := by decide +kernel
theorem dX11_bestPair_1 : decode cX11_bestPair 1 = .ok (.iload_n 1, 1) := by decide +kernel
theorem dX11_bestPair_2 : decode cX11_bestPair 2 = .ok (.iload_n 2, 1) := by decide +kernel
theorem dX11_bestPair_3 : decode cX11_bestPair 3 = .ok (.iload_n 3, 1) := by decide +kernel
theorem dX11_bestPair_4 : decode cX11_bestPair 4 = .ok (.invokevirtual 209, 3) := by decide +kernel
theorem dX11_bestPair_7 : decode cX11_bestPair 7 = .ok (.ifCond .ne 5, 3) := by decide +kernel
theorem dX11_bestPair_10 : decode cX11_bestPair 10 = .ok (.iconst (-1), 1) := by decide +kernel
theorem dX11_bestPair_11 : decode cX11_bestPair 11 = .ok (.ireturn, 1) := by decide +kernel
theorem dX11_bestPair_12 : decode cX11_bestPair 12 = .ok (.aload_n 0, 1) := by decide +kernel
theorem dX11_bestPair_13 : decode cX11_bestPair 13 = .ok (.getfield 11, 3) := by decide +kernel
theorem dX11_bestPair_16 : decode cX11_bestPair 16 = .ok (.iload_n 1, 1) := by decide +kernel
theorem dX11_bestPair_17 : decode cX11_bestPair 17 = .ok (.aaload, 1) := by decide +kernel
theorem dX11_bestPair_18 : decode cX11_bestPair 18 = .ok (.invokestatic 116, 3) := by decide +kernel
theorem dX11_bestPair_21 : decode cX11_bestPair 21 = .ok (.istore 4, 2) := by decide +kernel
theorem dX11_bestPair_23 : decode cX11_bestPair 23 = .ok (.iload 4, 2) := by decide +kernel
theorem dX11_bestPair_25 : decode cX11_bestPair 25 = .ok (.ifCond .eq 10, 3) := by decide +kernel
theorem dX11_bestPair_28 : decode cX11_bestPair 28 = .ok (.aload_n 0, 1) := by decide +kernel
theorem dX11_bestPair_29 : decode cX11_bestPair 29 = .ok (.iload 4, 2) := by decide +kernel
theorem dX11_bestPair_31 : decode cX11_bestPair 31 = .ok (.invokevirtual 96, 3) := by decide +kernel
theorem dX11_bestPair_34 : decode cX11_bestPair 34 = .ok (.ireturn, 1) := by decide +kernel
theorem dX11_bestPair_35 : decode cX11_bestPair 35 = .ok (.aload_n 0, 1) := by decide +kernel
theorem dX11_bestPair_36 : decode cX11_bestPair 36 = .ok (.getfield 33, 3) := by decide +kernel
theorem dX11_bestPair_39 : decode cX11_bestPair 39 = .ok (.aload_n 0, 1) := by decide +kernel
theorem dX11_bestPair_40 : decode cX11_bestPair 40 = .ok (.getfield 11, 3) := by decide +kernel
theorem dX11_bestPair_43 : decode cX11_bestPair 43 = .ok (.iload_n 1, 1) := by decide +kernel
theorem dX11_bestPair_44 : decode cX11_bestPair 44 = .ok (.aaload, 1) := by decide +kernel
theorem dX11_bestPair_45 : decode cX11_bestPair 45 = .ok (.invokevirtual 216, 3) := by decide +kernel
theorem dX11_bestPair_48 : decode cX11_bestPair 48 = .ok (.aload_n 0, 1) := by decide +kernel
theorem dX11_bestPair_49 : decode cX11_bestPair 49 = .ok (.aload_n 0, 1) := by decide +kernel
theorem dX11_bestPair_50 : decode cX11_bestPair 50 = .ok (.getfield 11, 3) := by decide +kernel
theorem dX11_bestPair_53 : decode cX11_bestPair 53 = .ok (.iload_n 1, 1) := by decide +kernel
theorem dX11_bestPair_54 : decode cX11_bestPair 54 = .ok (.aaload, 1) := by decide +kernel
theorem dX11_bestPair_55 : decode cX11_bestPair 55 = .ok (.iload_n 2, 1) := by decide +kernel
theorem dX11_bestPair_56 : decode cX11_bestPair 56 = .ok (.iload_n 3, 1) := by decide +kernel
theorem dX11_bestPair_57 : decode cX11_bestPair 57 = .ok (.invokevirtual 258, 3) := by decide +kernel
theorem dX11_bestPair_60 : decode cX11_bestPair 60 = .ok (.lstore 5, 2) := by decide +kernel
theorem dX11_bestPair_62 : decode cX11_bestPair 62 = .ok (.aload_n 0, 1) := by decide +kernel
theorem dX11_bestPair_63 : decode cX11_bestPair 63 = .ok (.lload 5, 2) := by decide +kernel
theorem dX11_bestPair_65 : decode cX11_bestPair 65 = .ok (.aload_n 0, 1) := by decide +kernel
theorem dX11_bestPair_66 : decode cX11_bestPair 66 = .ok (.getfield 11, 3) := by decide +kernel
theorem dX11_bestPair_69 : decode cX11_bestPair 69 = .ok (.iload_n 1, 1) := by decide +kernel
theorem dX11_bestPair_70 : decode cX11_bestPair 70 = .ok (.aaload, 1) := by decide +kernel
theorem dX11_bestPair_71 : decode cX11_bestPair 71 = .ok (.iload_n 3, 1) := by decide +kernel
theorem dX11_bestPair_72 : decode cX11_bestPair 72 = .ok (.invokestatic 230, 3) := by decide +kernel
theorem dX11_bestPair_75 : decode cX11_bestPair 75 = .ok (.invokevirtual 234, 3) := by decide +kernel
theorem dX11_bestPair_78 : decode cX11_bestPair 78 = .ok (.ireturn, 1) := by decide +kernel
theorem dX11_pairTold_0 : decode cX11_pairTold 0 = .ok (.iload_n 1, 1) := by decide +kernel
theorem dX11_pairTold_1 : decode cX11_pairTold 1 = .ok (.iconst 0, 1) := by decide +kernel
theorem dX11_pairTold_2 : decode cX11_pairTold 2 = .ok (.iconst 1, 1) := by decide +kernel
theorem dX11_pairTold_3 : decode cX11_pairTold 3 = .ok (.invokestatic 92, 3) := by decide +kernel
theorem dX11_pairTold_6 : decode cX11_pairTold 6 = .ok (.ifCond .ne 5, 3) := by decide +kernel
theorem dX11_pairTold_9 : decode cX11_pairTold 9 = .ok (.iconst (-1), 1) := by decide +kernel
theorem dX11_pairTold_10 : decode cX11_pairTold 10 = .ok (.ireturn, 1) := by decide +kernel
theorem dX11_pairTold_11 : decode cX11_pairTold 11 = .ok (.aload_n 0, 1) := by decide +kernel
theorem dX11_pairTold_12 : decode cX11_pairTold 12 = .ok (.getfield 261, 3) := by decide +kernel
theorem dX11_pairTold_15 : decode cX11_pairTold 15 = .ok (.ifCond .ne 6, 3) := by decide +kernel
theorem dX11_pairTold_18 : decode cX11_pairTold 18 = .ok (.bipush (-9), 2) := by decide +kernel
theorem dX11_pairTold_20 : decode cX11_pairTold 20 = .ok (.ireturn, 1) := by decide +kernel
theorem dX11_pairTold_21 : decode cX11_pairTold 21 = .ok (.iload_n 1, 1) := by decide +kernel
theorem dX11_pairTold_22 : decode cX11_pairTold 22 = .ok (.ifCond .ne 10, 3) := by decide +kernel
theorem dX11_pairTold_25 : decode cX11_pairTold 25 = .ok (.aload_n 0, 1) := by decide +kernel
theorem dX11_pairTold_26 : decode cX11_pairTold 26 = .ok (.getfield 264, 3) := by decide +kernel
theorem dX11_pairTold_29 : decode cX11_pairTold 29 = .ok (.goto 7, 3) := by decide +kernel
theorem dX11_pairTold_32 : decode cX11_pairTold 32 = .ok (.aload_n 0, 1) := by decide +kernel
theorem dX11_pairTold_33 : decode cX11_pairTold 33 = .ok (.getfield 267, 3) := by decide +kernel
theorem dX11_pairTold_36 : decode cX11_pairTold 36 = .ok (.ireturn, 1) := by decide +kernel
theorem dX11_spoilt_0 : decode cX11_spoilt 0 = .ok (.iload_n 1, 1) := by decide +kernel
theorem dX11_spoilt_1 : decode cX11_spoilt 1 = .ok (.invokestatic 81, 3) := by decide +kernel
theorem dX11_spoilt_4 : decode cX11_spoilt 4 = .ok (.ifCond .eq 30, 3) := by decide +kernel
theorem dX11_spoilt_7 : decode cX11_spoilt 7 = .ok (.iload_n 2, 1) := by decide +kernel
theorem dX11_spoilt_8 : decode cX11_spoilt 8 = .ok (.iconst 0, 1) := by decide +kernel
theorem dX11_spoilt_9 : decode cX11_spoilt 9 = .ok (.bipush 12, 2) := by decide +kernel
theorem dX11_spoilt_11 : decode cX11_spoilt 11 = .ok (.invokestatic 92, 3) := by decide +kernel
theorem dX11_spoilt_14 : decode cX11_spoilt 14 = .ok (.ifCond .eq 20, 3) := by decide +kernel
theorem dX11_spoilt_17 : decode cX11_spoilt 17 = .ok (.iload_n 3, 1) := by decide +kernel
theorem dX11_spoilt_18 : decode cX11_spoilt 18 = .ok (.iconst 1, 1) := by decide +kernel
theorem dX11_spoilt_19 : decode cX11_spoilt 19 = .ok (.iconst 3, 1) := by decide +kernel
theorem dX11_spoilt_20 : decode cX11_spoilt 20 = .ok (.invokestatic 92, 3) := by decide +kernel
theorem dX11_spoilt_23 : decode cX11_spoilt 23 = .ok (.ifCond .eq 11, 3) := by decide +kernel
theorem dX11_spoilt_26 : decode cX11_spoilt 26 = .ok (.iload 4, 2) := by decide +kernel
theorem dX11_spoilt_28 : decode cX11_spoilt 28 = .ok (.invokestatic 270, 3) := by decide +kernel
theorem dX11_spoilt_31 : decode cX11_spoilt 31 = .ok (.ifCond .ne 5, 3) := by decide +kernel
theorem dX11_spoilt_34 : decode cX11_spoilt 34 = .ok (.iconst (-1), 1) := by decide +kernel
theorem dX11_spoilt_35 : decode cX11_spoilt 35 = .ok (.ireturn, 1) := by decide +kernel
theorem dX11_spoilt_36 : decode cX11_spoilt 36 = .ok (.aload_n 0, 1) := by decide +kernel
theorem dX11_spoilt_37 : decode cX11_spoilt 37 = .ok (.getfield 11, 3) := by decide +kernel
theorem dX11_spoilt_40 : decode cX11_spoilt 40 = .ok (.iload_n 1, 1) := by decide +kernel
theorem dX11_spoilt_41 : decode cX11_spoilt 41 = .ok (.aaload, 1) := by decide +kernel
theorem dX11_spoilt_42 : decode cX11_spoilt 42 = .ok (.invokestatic 116, 3) := by decide +kernel
theorem dX11_spoilt_45 : decode cX11_spoilt 45 = .ok (.istore 6, 2) := by decide +kernel
theorem dX11_spoilt_47 : decode cX11_spoilt 47 = .ok (.iload 6, 2) := by decide +kernel
theorem dX11_spoilt_49 : decode cX11_spoilt 49 = .ok (.ifCond .eq 10, 3) := by decide +kernel
theorem dX11_spoilt_52 : decode cX11_spoilt 52 = .ok (.aload_n 0, 1) := by decide +kernel
theorem dX11_spoilt_53 : decode cX11_spoilt 53 = .ok (.iload 6, 2) := by decide +kernel
theorem dX11_spoilt_55 : decode cX11_spoilt 55 = .ok (.invokevirtual 96, 3) := by decide +kernel
theorem dX11_spoilt_58 : decode cX11_spoilt 58 = .ok (.ireturn, 1) := by decide +kernel
theorem dX11_spoilt_59 : decode cX11_spoilt 59 = .ok (.aload_n 0, 1) := by decide +kernel
theorem dX11_spoilt_60 : decode cX11_spoilt 60 = .ok (.getfield 77, 3) := by decide +kernel
theorem dX11_spoilt_63 : decode cX11_spoilt 63 = .ok (.iload_n 2, 1) := by decide +kernel
theorem dX11_spoilt_64 : decode cX11_spoilt 64 = .ok (.iload_n 3, 1) := by decide +kernel
theorem dX11_spoilt_65 : decode cX11_spoilt 65 = .ok (.iload 5, 2) := by decide +kernel
theorem dX11_spoilt_67 : decode cX11_spoilt 67 = .ok (.invokevirtual 273, 3) := by decide +kernel
theorem dX11_spoilt_70 : decode cX11_spoilt 70 = .ok (.aload_n 0, 1) := by decide +kernel
theorem dX11_spoilt_71 : decode cX11_spoilt 71 = .ok (.getfield 77, 3) := by decide +kernel
theorem dX11_spoilt_74 : decode cX11_spoilt 74 = .ok (.aload_n 0, 1) := by decide +kernel
theorem dX11_spoilt_75 : decode cX11_spoilt 75 = .ok (.getfield 11, 3) := by decide +kernel
theorem dX11_spoilt_78 : decode cX11_spoilt 78 = .ok (.iload_n 1, 1) := by decide +kernel
theorem dX11_spoilt_79 : decode cX11_spoilt 79 = .ok (.aaload, 1) := by decide +kernel
theorem dX11_spoilt_80 : decode cX11_spoilt 80 = .ok (.iload 4, 2) := by decide +kernel
theorem dX11_spoilt_82 : decode cX11_spoilt 82 = .ok (.invokevirtual 277, 3) := by decide +kernel
theorem dX11_spoilt_85 : decode cX11_spoilt 85 = .ok (.lstore 7, 2) := by decide +kernel
theorem dX11_spoilt_87 : decode cX11_spoilt 87 = .ok (.aload_n 0, 1) := by decide +kernel
theorem dX11_spoilt_88 : decode cX11_spoilt 88 = .ok (.lload 7, 2) := by decide +kernel
theorem dX11_spoilt_90 : decode cX11_spoilt 90 = .ok (.aload_n 0, 1) := by decide +kernel
theorem dX11_spoilt_91 : decode cX11_spoilt 91 = .ok (.getfield 11, 3) := by decide +kernel
theorem dX11_spoilt_94 : decode cX11_spoilt 94 = .ok (.iload_n 1, 1) := by decide +kernel
theorem dX11_spoilt_95 : decode cX11_spoilt 95 = .ok (.aaload, 1) := by decide +kernel
theorem dX11_spoilt_96 : decode cX11_spoilt 96 = .ok (.iload 4, 2) := by decide +kernel
theorem dX11_spoilt_98 : decode cX11_spoilt 98 = .ok (.invokestatic 230, 3) := by decide +kernel
theorem dX11_spoilt_101 : decode cX11_spoilt 101 = .ok (.invokevirtual 234, 3) := by decide +kernel
theorem dX11_spoilt_104 : decode cX11_spoilt 104 = .ok (.ireturn, 1) := by decide +kernel
theorem dX11_see_0 : decode cX11_see 0 = .ok (.iload_n 1, 1) := by decide +kernel
theorem dX11_see_1 : decode cX11_see 1 = .ok (.invokestatic 100, 3) := by decide +kernel
theorem dX11_see_4 : decode cX11_see 4 = .ok (.ifCond .ne 5, 3) := by decide +kernel
theorem dX11_see_7 : decode cX11_see 7 = .ok (.iconst (-1), 1) := by decide +kernel
theorem dX11_see_8 : decode cX11_see 8 = .ok (.ireturn, 1) := by decide +kernel
theorem dX11_see_9 : decode cX11_see 9 = .ok (.aload_n 0, 1) := by decide +kernel
theorem dX11_see_10 : decode cX11_see 10 = .ok (.getfield 279, 3) := by decide +kernel
theorem dX11_see_13 : decode cX11_see 13 = .ok (.aload_n 0, 1) := by decide +kernel
theorem dX11_see_14 : decode cX11_see 14 = .ok (.getfield 37, 3) := by decide +kernel
theorem dX11_see_17 : decode cX11_see 17 = .ok (.arraylength, 1) := by decide +kernel
theorem dX11_see_18 : decode cX11_see 18 = .ok (.if_icmp .lt 6, 3) := by decide +kernel
theorem dX11_see_21 : decode cX11_see 21 = .ok (.bipush (-2), 2) := by decide +kernel
theorem dX11_see_23 : decode cX11_see 23 = .ok (.ireturn, 1) := by decide +kernel
theorem dX11_see_24 : decode cX11_see 24 = .ok (.aload_n 0, 1) := by decide +kernel
theorem dX11_see_25 : decode cX11_see 25 = .ok (.getfield 37, 3) := by decide +kernel
theorem dX11_see_28 : decode cX11_see 28 = .ok (.aload_n 0, 1) := by decide +kernel
theorem dX11_see_29 : decode cX11_see 29 = .ok (.getfield 279, 3) := by decide +kernel
theorem dX11_see_32 : decode cX11_see 32 = .ok (.iload_n 1, 1) := by decide +kernel
theorem dX11_see_33 : decode cX11_see 33 = .ok (.iastore, 1) := by decide +kernel
theorem dX11_see_34 : decode cX11_see 34 = .ok (.aload_n 0, 1) := by decide +kernel
theorem dX11_see_35 : decode cX11_see 35 = .ok (.dup, 1) := by decide +kernel
theorem dX11_see_36 : decode cX11_see 36 = .ok (.getfield 279, 3) := by decide +kernel
theorem dX11_see_39 : decode cX11_see 39 = .ok (.iconst 1, 1) := by decide +kernel
theorem dX11_see_40 : decode cX11_see 40 = .ok (.iadd, 1) := by decide +kernel
theorem dX11_see_41 : decode cX11_see 41 = .ok (.putfield 279, 3) := by decide +kernel
theorem dX11_see_44 : decode cX11_see 44 = .ok (.aload_n 0, 1) := by decide +kernel
theorem dX11_see_45 : decode cX11_see 45 = .ok (.getfield 279, 3) := by decide +kernel
theorem dX11_see_48 : decode cX11_see 48 = .ok (.ireturn, 1) := by decide +kernel
theorem dX11_forget_0 : decode cX11_forget 0 = .ok (.aload_n 0, 1) := by decide +kernel
theorem dX11_forget_1 : decode cX11_forget 1 = .ok (.getfield 279, 3) := by decide +kernel
theorem dX11_forget_4 : decode cX11_forget 4 = .ok (.istore_n 1, 1) := by decide +kernel
theorem dX11_forget_5 : decode cX11_forget 5 = .ok (.aload_n 0, 1) := by decide +kernel
theorem dX11_forget_6 : decode cX11_forget 6 = .ok (.iconst 0, 1) := by decide +kernel
theorem dX11_forget_7 : decode cX11_forget 7 = .ok (.putfield 279, 3) := by decide +kernel
theorem dX11_forget_10 : decode cX11_forget 10 = .ok (.iload_n 1, 1) := by decide +kernel
theorem dX11_forget_11 : decode cX11_forget 11 = .ok (.ireturn, 1) := by decide +kernel
theorem dX11_doubt_0 : decode cX11_doubt 0 = .ok (.iload_n 1, 1) := by decide +kernel
theorem dX11_doubt_1 : decode cX11_doubt 1 = .ok (.invokestatic 81, 3) := by decide +kernel
theorem dX11_doubt_4 : decode cX11_doubt 4 = .ok (.ifCond .eq 15, 3) := by decide +kernel
theorem dX11_doubt_7 : decode cX11_doubt 7 = .ok (.iload_n 2, 1) := by decide +kernel
theorem dX11_doubt_8 : decode cX11_doubt 8 = .ok (.invokestatic 81, 3) := by decide +kernel
theorem dX11_doubt_11 : decode cX11_doubt 11 = .ok (.ifCond .eq 8, 3) := by decide +kernel
theorem dX11_doubt_14 : decode cX11_doubt 14 = .ok (.iload_n 1, 1) := by decide +kernel
theorem dX11_doubt_15 : decode cX11_doubt 15 = .ok (.iload_n 2, 1) := by decide +kernel
theorem dX11_doubt_16 : decode cX11_doubt 16 = .ok (.if_icmp .ne 5, 3) := by decide +kernel
theorem dX11_doubt_19 : decode cX11_doubt 19 = .ok (.iconst (-1), 1) := by decide +kernel
theorem dX11_doubt_20 : decode cX11_doubt 20 = .ok (.ireturn, 1) := by decide +kernel
theorem dX11_doubt_21 : decode cX11_doubt 21 = .ok (.iload_n 3, 1) := by decide +kernel
theorem dX11_doubt_22 : decode cX11_doubt 22 = .ok (.iconst 1, 1) := by decide +kernel
theorem dX11_doubt_23 : decode cX11_doubt 23 = .ok (.bipush 9, 2) := by decide +kernel
theorem dX11_doubt_25 : decode cX11_doubt 25 = .ok (.invokestatic 92, 3) := by decide +kernel
theorem dX11_doubt_28 : decode cX11_doubt 28 = .ok (.ifCond .eq 14, 3) := by decide +kernel
theorem dX11_doubt_31 : decode cX11_doubt 31 = .ok (.iload 4, 2) := by decide +kernel
theorem dX11_doubt_33 : decode cX11_doubt 33 = .ok (.iconst 1, 1) := by decide +kernel
theorem dX11_doubt_34 : decode cX11_doubt 34 = .ok (.bipush 9, 2) := by decide +kernel
theorem dX11_doubt_36 : decode cX11_doubt 36 = .ok (.invokestatic 92, 3) := by decide +kernel
theorem dX11_doubt_39 : decode cX11_doubt 39 = .ok (.ifCond .ne 5, 3) := by decide +kernel
theorem dX11_doubt_42 : decode cX11_doubt 42 = .ok (.iconst (-1), 1) := by decide +kernel
theorem dX11_doubt_43 : decode cX11_doubt 43 = .ok (.ireturn, 1) := by decide +kernel
theorem dX11_doubt_44 : decode cX11_doubt 44 = .ok (.aload_n 0, 1) := by decide +kernel
theorem dX11_doubt_45 : decode cX11_doubt 45 = .ok (.getfield 11, 3) := by decide +kernel
theorem dX11_doubt_48 : decode cX11_doubt 48 = .ok (.iload_n 1, 1) := by decide +kernel
theorem dX11_doubt_49 : decode cX11_doubt 49 = .ok (.aaload, 1) := by decide +kernel
theorem dX11_doubt_50 : decode cX11_doubt 50 = .ok (.getfield 85, 3) := by decide +kernel
theorem dX11_doubt_53 : decode cX11_doubt 53 = .ok (.ifCond .eq 15, 3) := by decide +kernel
theorem dX11_doubt_56 : decode cX11_doubt 56 = .ok (.aload_n 0, 1) := by decide +kernel
theorem dX11_doubt_57 : decode cX11_doubt 57 = .ok (.getfield 11, 3) := by decide +kernel
theorem dX11_doubt_60 : decode cX11_doubt 60 = .ok (.iload_n 2, 1) := by decide +kernel
theorem dX11_doubt_61 : decode cX11_doubt 61 = .ok (.aaload, 1) := by decide +kernel
theorem dX11_doubt_62 : decode cX11_doubt 62 = .ok (.getfield 85, 3) := by decide +kernel
theorem dX11_doubt_65 : decode cX11_doubt 65 = .ok (.ifCond .ne 9, 3) := by decide +kernel
theorem dX11_doubt_68 : decode cX11_doubt 68 = .ok (.aload_n 0, 1) := by decide +kernel
theorem dX11_doubt_69 : decode cX11_doubt 69 = .ok (.iconst 1, 1) := by decide +kernel
theorem dX11_doubt_70 : decode cX11_doubt 70 = .ok (.invokevirtual 96, 3) := by decide +kernel
theorem dX11_doubt_73 : decode cX11_doubt 73 = .ok (.ireturn, 1) := by decide +kernel
theorem dX11_doubt_74 : decode cX11_doubt 74 = .ok (.aload_n 0, 1) := by decide +kernel
theorem dX11_doubt_75 : decode cX11_doubt 75 = .ok (.getfield 11, 3) := by decide +kernel
theorem dX11_doubt_78 : decode cX11_doubt 78 = .ok (.iload_n 1, 1) := by decide +kernel
theorem dX11_doubt_79 : decode cX11_doubt 79 = .ok (.aaload, 1) := by decide +kernel
theorem dX11_doubt_80 : decode cX11_doubt 80 = .ok (.invokevirtual 120, 3) := by decide +kernel
theorem dX11_doubt_83 : decode cX11_doubt 83 = .ok (.ifCond .eq 15, 3) := by decide +kernel
theorem dX11_doubt_86 : decode cX11_doubt 86 = .ok (.aload_n 0, 1) := by decide +kernel
theorem dX11_doubt_87 : decode cX11_doubt 87 = .ok (.getfield 11, 3) := by decide +kernel
theorem dX11_doubt_90 : decode cX11_doubt 90 = .ok (.iload_n 2, 1) := by decide +kernel
theorem dX11_doubt_91 : decode cX11_doubt 91 = .ok (.aaload, 1) := by decide +kernel
theorem dX11_doubt_92 : decode cX11_doubt 92 = .ok (.invokevirtual 120, 3) := by decide +kernel
theorem dX11_doubt_95 : decode cX11_doubt 95 = .ok (.ifCond .ne 9, 3) := by decide +kernel
theorem dX11_doubt_98 : decode cX11_doubt 98 = .ok (.aload_n 0, 1) := by decide +kernel
theorem dX11_doubt_99 : decode cX11_doubt 99 = .ok (.iconst 4, 1) := by decide +kernel
theorem dX11_doubt_100 : decode cX11_doubt 100 = .ok (.invokevirtual 96, 3) := by decide +kernel
theorem dX11_doubt_103 : decode cX11_doubt 103 = .ok (.ireturn, 1) := by decide +kernel
theorem dX11_doubt_104 : decode cX11_doubt 104 = .ok (.iload_n 3, 1) := by decide +kernel
theorem dX11_doubt_105 : decode cX11_doubt 105 = .ok (.i2l, 1) := by decide +kernel
theorem dX11_doubt_106 : decode cX11_doubt 106 = .ok (.aload_n 0, 1) := by decide +kernel
theorem dX11_doubt_107 : decode cX11_doubt 107 = .ok (.aload_n 0, 1) := by decide +kernel
theorem dX11_doubt_108 : decode cX11_doubt 108 = .ok (.getfield 11, 3) := by decide +kernel
theorem dX11_doubt_111 : decode cX11_doubt 111 = .ok (.iload_n 1, 1) := by decide +kernel
theorem dX11_doubt_112 : decode cX11_doubt 112 = .ok (.aaload, 1) := by decide +kernel
theorem dX11_doubt_113 : decode cX11_doubt 113 = .ok (.invokevirtual 282, 3) := by decide +kernel
theorem dX11_doubt_116 : decode cX11_doubt 116 = .ok (.lmul, 1) := by decide +kernel
theorem dX11_doubt_117 : decode cX11_doubt 117 = .ok (.aload_n 0, 1) := by decide +kernel
theorem dX11_doubt_118 : decode cX11_doubt 118 = .ok (.getfield 11, 3) := by decide +kernel
theorem dX11_doubt_121 : decode cX11_doubt 121 = .ok (.iload_n 2, 1) := by decide +kernel
theorem dX11_doubt_122 : decode cX11_doubt 122 = .ok (.aaload, 1) := by decide +kernel
theorem dX11_doubt_123 : decode cX11_doubt 123 = .ok (.aload_n 0, 1) := by decide +kernel
theorem dX11_doubt_124 : decode cX11_doubt 124 = .ok (.getfield 279, 3) := by decide +kernel
theorem dX11_doubt_127 : decode cX11_doubt 127 = .ok (.invokestatic 230, 3) := by decide +kernel
theorem dX11_doubt_130 : decode cX11_doubt 130 = .ok (.lmul, 1) := by decide +kernel
theorem dX11_doubt_131 : decode cX11_doubt 131 = .ok (.lstore 5, 2) := by decide +kernel
theorem dX11_doubt_133 : decode cX11_doubt 133 = .ok (.iload 4, 2) := by decide +kernel
theorem dX11_doubt_135 : decode cX11_doubt 135 = .ok (.i2l, 1) := by decide +kernel
theorem dX11_doubt_136 : decode cX11_doubt 136 = .ok (.aload_n 0, 1) := by decide +kernel
theorem dX11_doubt_137 : decode cX11_doubt 137 = .ok (.aload_n 0, 1) := by decide +kernel
theorem dX11_doubt_138 : decode cX11_doubt 138 = .ok (.getfield 11, 3) := by decide +kernel
theorem dX11_doubt_141 : decode cX11_doubt 141 = .ok (.iload_n 2, 1) := by decide +kernel
theorem dX11_doubt_142 : decode cX11_doubt 142 = .ok (.aaload, 1) := by decide +kernel
theorem dX11_doubt_143 : decode cX11_doubt 143 = .ok (.invokevirtual 282, 3) := by decide +kernel
theorem dX11_doubt_146 : decode cX11_doubt 146 = .ok (.lmul, 1) := by decide +kernel
theorem dX11_doubt_147 : decode cX11_doubt 147 = .ok (.aload_n 0, 1) := by decide +kernel
theorem dX11_doubt_148 : decode cX11_doubt 148 = .ok (.getfield 11, 3) := by decide +kernel
theorem dX11_doubt_151 : decode cX11_doubt 151 = .ok (.iload_n 1, 1) := by decide +kernel
theorem dX11_doubt_152 : decode cX11_doubt 152 = .ok (.aaload, 1) := by decide +kernel
theorem dX11_doubt_153 : decode cX11_doubt 153 = .ok (.aload_n 0, 1) := by decide +kernel
theorem dX11_doubt_154 : decode cX11_doubt 154 = .ok (.getfield 279, 3) := by decide +kernel
theorem dX11_doubt_157 : decode cX11_doubt 157 = .ok (.invokestatic 230, 3) := by decide +kernel
theorem dX11_doubt_160 : decode cX11_doubt 160 = .ok (.lmul, 1) := by decide +kernel
theorem dX11_doubt_161 : decode cX11_doubt 161 = .ok (.lstore 7, 2) := by decide +kernel
theorem dX11_doubt_163 : decode cX11_doubt 163 = .ok (.lload 5, 2) := by decide +kernel
theorem dX11_doubt_165 : decode cX11_doubt 165 = .ok (.lload 7, 2) := by decide +kernel
theorem dX11_doubt_167 : decode cX11_doubt 167 = .ok (.ladd, 1) := by decide +kernel
theorem dX11_doubt_168 : decode cX11_doubt 168 = .ok (.lconst 0, 1) := by decide +kernel
theorem dX11_doubt_169 : decode cX11_doubt 169 = .ok (.lcmp, 1) := by decide +kernel
theorem dX11_doubt_170 : decode cX11_doubt 170 = .ok (.ifCond .ne 9, 3) := by decide +kernel
theorem dX11_doubt_173 : decode cX11_doubt 173 = .ok (.aload_n 0, 1) := by decide +kernel
theorem dX11_doubt_174 : decode cX11_doubt 174 = .ok (.iconst 4, 1) := by decide +kernel
theorem dX11_doubt_175 : decode cX11_doubt 175 = .ok (.invokevirtual 96, 3) := by decide +kernel
theorem dX11_doubt_178 : decode cX11_doubt 178 = .ok (.ireturn, 1) := by decide +kernel
theorem dX11_doubt_179 : decode cX11_doubt 179 = .ok (.aload_n 0, 1) := by decide +kernel
theorem dX11_doubt_180 : decode cX11_doubt 180 = .ok (.lload 5, 2) := by decide +kernel
theorem dX11_doubt_182 : decode cX11_doubt 182 = .ok (.lload 5, 2) := by decide +kernel
theorem dX11_doubt_184 : decode cX11_doubt 184 = .ok (.lload 7, 2) := by decide +kernel
theorem dX11_doubt_186 : decode cX11_doubt 186 = .ok (.ladd, 1) := by decide +kernel
theorem dX11_doubt_187 : decode cX11_doubt 187 = .ok (.invokevirtual 234, 3) := by decide +kernel
theorem dX11_doubt_190 : decode cX11_doubt 190 = .ok (.ireturn, 1) := by decide +kernel
theorem dX11_upper_0 : decode cX11_upper 0 = .ok (.aload_n 0, 1) := by decide +kernel
theorem dX11_upper_1 : decode cX11_upper 1 = .ok (.getfield 40, 3) := by decide +kernel
theorem dX11_upper_4 : decode cX11_upper 4 = .ok (.lreturn, 1) := by decide +kernel
theorem dX11_lower_0 : decode cX11_lower 0 = .ok (.aload_n 0, 1) := by decide +kernel
theorem dX11_lower_1 : decode cX11_lower 1 = .ok (.getfield 44, 3) := by decide +kernel
theorem dX11_lower_4 : decode cX11_lower 4 = .ok (.lreturn, 1) := by decide +kernel
theorem dX11_count_0 : decode cX11_count 0 = .ok (.iload_n 1, 1) := by decide +kernel
theorem dX11_count_1 : decode cX11_count 1 = .ok (.tableswitch 86 0 5 #[39, 44, 49, 54, 62, 70], 39) := by decide +kernel
theorem dX11_count_40 : decode cX11_count 40 = .ok (.aload_n 0, 1) := by decide +kernel
theorem dX11_count_41 : decode cX11_count 41 = .ok (.getfield 130, 3) := by decide +kernel
theorem dX11_count_44 : decode cX11_count 44 = .ok (.ireturn, 1) := by decide +kernel
theorem dX11_count_45 : decode cX11_count 45 = .ok (.aload_n 0, 1) := by decide +kernel
theorem dX11_count_46 : decode cX11_count 46 = .ok (.invokevirtual 286, 3) := by decide +kernel
theorem dX11_count_49 : decode cX11_count 49 = .ok (.ireturn, 1) := by decide +kernel
theorem dX11_count_50 : decode cX11_count 50 = .ok (.aload_n 0, 1) := by decide +kernel
theorem dX11_count_51 : decode cX11_count 51 = .ok (.getfield 279, 3) := by decide +kernel
theorem dX11_count_54 : decode cX11_count 54 = .ok (.ireturn, 1) := by decide +kernel
theorem dX11_count_55 : decode cX11_count 55 = .ok (.aload_n 0, 1) := by decide +kernel
theorem dX11_count_56 : decode cX11_count 56 = .ok (.getfield 33, 3) := by decide +kernel
theorem dX11_count_59 : decode cX11_count 59 = .ok (.getfield 185, 3) := by decide +kernel
theorem dX11_count_62 : decode cX11_count 62 = .ok (.ireturn, 1) := by decide +kernel
theorem dX11_count_63 : decode cX11_count 63 = .ok (.aload_n 0, 1) := by decide +kernel
theorem dX11_count_64 : decode cX11_count 64 = .ok (.getfield 33, 3) := by decide +kernel
theorem dX11_count_67 : decode cX11_count 67 = .ok (.getfield 188, 3) := by decide +kernel
theorem dX11_count_70 : decode cX11_count 70 = .ok (.ireturn, 1) := by decide +kernel
theorem dX11_count_71 : decode cX11_count 71 = .ok (.aload_n 0, 1) := by decide +kernel
theorem dX11_count_72 : decode cX11_count 72 = .ok (.getfield 33, 3) := by decide +kernel
theorem dX11_count_75 : decode cX11_count 75 = .ok (.getfield 191, 3) := by decide +kernel
theorem dX11_count_78 : decode cX11_count 78 = .ok (.ifCond .eq 7, 3) := by decide +kernel
theorem dX11_count_81 : decode cX11_count 81 = .ok (.iconst 1, 1) := by decide +kernel
theorem dX11_count_82 : decode cX11_count 82 = .ok (.goto 4, 3) := by decide +kernel
theorem dX11_count_85 : decode cX11_count 85 = .ok (.iconst 0, 1) := by decide +kernel
theorem dX11_count_86 : decode cX11_count 86 = .ok (.ireturn, 1) := by decide +kernel
theorem dX11_count_87 : decode cX11_count 87 = .ok (.iconst (-1), 1) := by decide +kernel
theorem dX11_count_88 : decode cX11_count 88 = .ok (.ireturn, 1) := by decide +kernel
theorem dX11_finding_0 : decode cX11_finding 0 = .ok (.aload_n 0, 1) := by decide +kernel
theorem dX11_finding_1 : decode cX11_finding 1 = .ok (.getfield 289, 3) := by decide +kernel
theorem dX11_finding_4 : decode cX11_finding 4 = .ok (.ireturn, 1) := by decide +kernel
theorem dX11_findings_0 : decode cX11_findings 0 = .ok (.iload_n 1, 1) := by decide +kernel
theorem dX11_findings_1 : decode cX11_findings 1 = .ok (.iconst 1, 1) := by decide +kernel
theorem dX11_findings_2 : decode cX11_findings 2 = .ok (.iconst 5, 1) := by decide +kernel
theorem dX11_findings_3 : decode cX11_findings 3 = .ok (.invokestatic 92, 3) := by decide +kernel
theorem dX11_findings_6 : decode cX11_findings 6 = .ok (.ifCond .eq 12, 3) := by decide +kernel
theorem dX11_findings_9 : decode cX11_findings 9 = .ok (.aload_n 0, 1) := by decide +kernel
theorem dX11_findings_10 : decode cX11_findings 10 = .ok (.getfield 47, 3) := by decide +kernel
theorem dX11_findings_13 : decode cX11_findings 13 = .ok (.iload_n 1, 1) := by decide +kernel
theorem dX11_findings_14 : decode cX11_findings 14 = .ok (.iaload, 1) := by decide +kernel
theorem dX11_findings_15 : decode cX11_findings 15 = .ok (.goto 4, 3) := by decide +kernel
theorem dX11_findings_18 : decode cX11_findings 18 = .ok (.iconst (-1), 1) := by decide +kernel
theorem dX11_findings_19 : decode cX11_findings 19 = .ok (.ireturn, 1) := by decide +kernel
theorem dX11_digest_0 : decode cX11_digest 0 = .ok (.ldc2_w 292, 3) := by decide +kernel
theorem dX11_digest_3 : decode cX11_digest 3 = .ok (.lstore_n 1, 1) := by decide +kernel
theorem dX11_digest_4 : decode cX11_digest 4 = .ok (.iconst 0, 1) := by decide +kernel
theorem dX11_digest_5 : decode cX11_digest 5 = .ok (.istore_n 3, 1) := by decide +kernel
theorem dX11_digest_6 : decode cX11_digest 6 = .ok (.iload_n 3, 1) := by decide +kernel
theorem dX11_digest_7 : decode cX11_digest 7 = .ok (.iconst 5, 1) := by decide +kernel
theorem dX11_digest_8 : decode cX11_digest 8 = .ok (.if_icmp .gt 22, 3) := by decide +kernel
theorem dX11_digest_11 : decode cX11_digest 11 = .ok (.ldc2_w 294, 3) := by decide +kernel
theorem dX11_digest_14 : decode cX11_digest 14 = .ok (.lload_n 1, 1) := by decide +kernel
theorem dX11_digest_15 : decode cX11_digest 15 = .ok (.lmul, 1) := by decide +kernel
theorem dX11_digest_16 : decode cX11_digest 16 = .ok (.aload_n 0, 1) := by decide +kernel
theorem dX11_digest_17 : decode cX11_digest 17 = .ok (.iload_n 3, 1) := by decide +kernel
theorem dX11_digest_18 : decode cX11_digest 18 = .ok (.invokevirtual 296, 3) := by decide +kernel
theorem dX11_digest_21 : decode cX11_digest 21 = .ok (.i2l, 1) := by decide +kernel
theorem dX11_digest_22 : decode cX11_digest 22 = .ok (.ladd, 1) := by decide +kernel
theorem dX11_digest_23 : decode cX11_digest 23 = .ok (.lstore_n 1, 1) := by decide +kernel
theorem dX11_digest_24 : decode cX11_digest 24 = .ok (.iinc 3 1, 3) := by decide +kernel
theorem dX11_digest_27 : decode cX11_digest 27 = .ok (.goto (-21), 3) := by decide +kernel
theorem dX11_digest_30 : decode cX11_digest 30 = .ok (.ldc2_w 294, 3) := by decide +kernel
theorem dX11_digest_33 : decode cX11_digest 33 = .ok (.lload_n 1, 1) := by decide +kernel
theorem dX11_digest_34 : decode cX11_digest 34 = .ok (.lmul, 1) := by decide +kernel
theorem dX11_digest_35 : decode cX11_digest 35 = .ok (.aload_n 0, 1) := by decide +kernel
theorem dX11_digest_36 : decode cX11_digest 36 = .ok (.getfield 33, 3) := by decide +kernel
theorem dX11_digest_39 : decode cX11_digest 39 = .ok (.getfield 197, 3) := by decide +kernel
theorem dX11_digest_42 : decode cX11_digest 42 = .ok (.i2l, 1) := by decide +kernel
theorem dX11_digest_43 : decode cX11_digest 43 = .ok (.ladd, 1) := by decide +kernel
theorem dX11_digest_44 : decode cX11_digest 44 = .ok (.lstore_n 1, 1) := by decide +kernel
theorem dX11_digest_45 : decode cX11_digest 45 = .ok (.ldc2_w 294, 3) := by decide +kernel
theorem dX11_digest_48 : decode cX11_digest 48 = .ok (.lload_n 1, 1) := by decide +kernel
theorem dX11_digest_49 : decode cX11_digest 49 = .ok (.lmul, 1) := by decide +kernel
theorem dX11_digest_50 : decode cX11_digest 50 = .ok (.aload_n 0, 1) := by decide +kernel
theorem dX11_digest_51 : decode cX11_digest 51 = .ok (.getfield 33, 3) := by decide +kernel
theorem dX11_digest_54 : decode cX11_digest 54 = .ok (.getfield 200, 3) := by decide +kernel
theorem dX11_digest_57 : decode cX11_digest 57 = .ok (.i2l, 1) := by decide +kernel
theorem dX11_digest_58 : decode cX11_digest 58 = .ok (.ladd, 1) := by decide +kernel
theorem dX11_digest_59 : decode cX11_digest 59 = .ok (.lstore_n 1, 1) := by decide +kernel
theorem dX11_digest_60 : decode cX11_digest 60 = .ok (.ldc2_w 294, 3) := by decide +kernel
theorem dX11_digest_63 : decode cX11_digest 63 = .ok (.lload_n 1, 1) := by decide +kernel
theorem dX11_digest_64 : decode cX11_digest 64 = .ok (.lmul, 1) := by decide +kernel
theorem dX11_digest_65 : decode cX11_digest 65 = .ok (.aload_n 0, 1) := by decide +kernel
theorem dX11_digest_66 : decode cX11_digest 66 = .ok (.getfield 33, 3) := by decide +kernel
theorem dX11_digest_69 : decode cX11_digest 69 = .ok (.getfield 203, 3) := by decide +kernel
theorem dX11_digest_72 : decode cX11_digest 72 = .ok (.i2l, 1) := by decide +kernel
theorem dX11_digest_73 : decode cX11_digest 73 = .ok (.ladd, 1) := by decide +kernel
theorem dX11_digest_74 : decode cX11_digest 74 = .ok (.lstore_n 1, 1) := by decide +kernel
theorem dX11_digest_75 : decode cX11_digest 75 = .ok (.ldc2_w 294, 3) := by decide +kernel
theorem dX11_digest_78 : decode cX11_digest 78 = .ok (.lload_n 1, 1) := by decide +kernel
theorem dX11_digest_79 : decode cX11_digest 79 = .ok (.lmul, 1) := by decide +kernel
theorem dX11_digest_80 : decode cX11_digest 80 = .ok (.aload_n 0, 1) := by decide +kernel
theorem dX11_digest_81 : decode cX11_digest 81 = .ok (.getfield 33, 3) := by decide +kernel
theorem dX11_digest_84 : decode cX11_digest 84 = .ok (.getfield 206, 3) := by decide +kernel
theorem dX11_digest_87 : decode cX11_digest 87 = .ok (.i2l, 1) := by decide +kernel
theorem dX11_digest_88 : decode cX11_digest 88 = .ok (.ladd, 1) := by decide +kernel
theorem dX11_digest_89 : decode cX11_digest 89 = .ok (.lstore_n 1, 1) := by decide +kernel
theorem dX11_digest_90 : decode cX11_digest 90 = .ok (.aload_n 0, 1) := by decide +kernel
theorem dX11_digest_91 : decode cX11_digest 91 = .ok (.aload_n 0, 1) := by decide +kernel
theorem dX11_digest_92 : decode cX11_digest 92 = .ok (.aload_n 0, 1) := by decide +kernel
theorem dX11_digest_93 : decode cX11_digest 93 = .ok (.lload_n 1, 1) := by decide +kernel
theorem dX11_digest_94 : decode cX11_digest 94 = .ok (.invokevirtual 299, 3) := by decide +kernel
theorem dX11_digest_97 : decode cX11_digest 97 = .ok (.invokevirtual 303, 3) := by decide +kernel
theorem dX11_digest_100 : decode cX11_digest 100 = .ok (.invokevirtual 306, 3) := by decide +kernel
theorem dX11_digest_103 : decode cX11_digest 103 = .ok (.lreturn, 1) := by decide +kernel
theorem dX11_isWithin_0 : decode cX11_isWithin 0 = .ok (.iload_n 0, 1) := by decide +kernel
theorem dX11_isWithin_1 : decode cX11_isWithin 1 = .ok (.iload_n 1, 1) := by decide +kernel
theorem dX11_isWithin_2 : decode cX11_isWithin 2 = .ok (.if_icmp .lt 12, 3) := by decide +kernel
theorem dX11_isWithin_5 : decode cX11_isWithin 5 = .ok (.iload_n 0, 1) := by decide +kernel
theorem dX11_isWithin_6 : decode cX11_isWithin 6 = .ok (.iload_n 2, 1) := by decide +kernel
theorem dX11_isWithin_7 : decode cX11_isWithin 7 = .ok (.if_icmp .gt 7, 3) := by decide +kernel
theorem dX11_isWithin_10 : decode cX11_isWithin 10 = .ok (.iconst 1, 1) := by decide +kernel
theorem dX11_isWithin_11 : decode cX11_isWithin 11 = .ok (.goto 4, 3) := by decide +kernel
theorem dX11_isWithin_14 : decode cX11_isWithin 14 = .ok (.iconst 0, 1) := by decide +kernel
theorem dX11_isWithin_15 : decode cX11_isWithin 15 = .ok (.ireturn, 1) := by decide +kernel
theorem dX11_isBook_0 : decode cX11_isBook 0 = .ok (.iload_n 0, 1) := by decide +kernel
theorem dX11_isBook_1 : decode cX11_isBook 1 = .ok (.iconst 0, 1) := by decide +kernel
theorem dX11_isBook_2 : decode cX11_isBook 2 = .ok (.iconst 3, 1) := by decide +kernel
theorem dX11_isBook_3 : decode cX11_isBook 3 = .ok (.invokestatic 92, 3) := by decide +kernel
theorem dX11_isBook_6 : decode cX11_isBook 6 = .ok (.ireturn, 1) := by decide +kernel
theorem dX11_isDemand_0 : decode cX11_isDemand 0 = .ok (.iload_n 0, 1) := by decide +kernel
theorem dX11_isDemand_1 : decode cX11_isDemand 1 = .ok (.iconst 0, 1) := by decide +kernel
theorem dX11_isDemand_2 : decode cX11_isDemand 2 = .ok (.bipush 6, 2) := by decide +kernel
theorem dX11_isDemand_4 : decode cX11_isDemand 4 = .ok (.invokestatic 92, 3) := by decide +kernel
theorem dX11_isDemand_7 : decode cX11_isDemand 7 = .ok (.ireturn, 1) := by decide +kernel
theorem dX11_isSheet_0 : decode cX11_isSheet 0 = .ok (.iload_n 0, 1) := by decide +kernel
theorem dX11_isSheet_1 : decode cX11_isSheet 1 = .ok (.iconst 0, 1) := by decide +kernel
theorem dX11_isSheet_2 : decode cX11_isSheet 2 = .ok (.iconst 3, 1) := by decide +kernel
theorem dX11_isSheet_3 : decode cX11_isSheet 3 = .ok (.invokestatic 92, 3) := by decide +kernel
theorem dX11_isSheet_6 : decode cX11_isSheet 6 = .ok (.ireturn, 1) := by decide +kernel
theorem dX11_isPosition_0 : decode cX11_isPosition 0 = .ok (.iload_n 0, 1) := by decide +kernel
theorem dX11_isPosition_1 : decode cX11_isPosition 1 = .ok (.bipush (-12), 2) := by decide +kernel
theorem dX11_isPosition_3 : decode cX11_isPosition 3 = .ok (.bipush 36, 2) := by decide +kernel
theorem dX11_isPosition_5 : decode cX11_isPosition 5 = .ok (.invokestatic 92, 3) := by decide +kernel
theorem dX11_isPosition_8 : decode cX11_isPosition 8 = .ok (.ireturn, 1) := by decide +kernel
theorem dX11_isPrice_0 : decode cX11_isPrice 0 = .ok (.iload_n 0, 1) := by decide +kernel
theorem dX11_isPrice_1 : decode cX11_isPrice 1 = .ok (.iconst 0, 1) := by decide +kernel
theorem dX11_isPrice_2 : decode cX11_isPrice 2 = .ok (.bipush 100, 2) := by decide +kernel
theorem dX11_isPrice_4 : decode cX11_isPrice 4 = .ok (.invokestatic 92, 3) := by decide +kernel
theorem dX11_isPrice_7 : decode cX11_isPrice 7 = .ok (.ireturn, 1) := by decide +kernel
theorem dX11_areDays_0 : decode cX11_areDays 0 = .ok (.iload_n 0, 1) := by decide +kernel
theorem dX11_areDays_1 : decode cX11_areDays 1 = .ok (.iconst 1, 1) := by decide +kernel
theorem dX11_areDays_2 : decode cX11_areDays 2 = .ok (.bipush 6, 2) := by decide +kernel
theorem dX11_areDays_4 : decode cX11_areDays 4 = .ok (.invokestatic 92, 3) := by decide +kernel
theorem dX11_areDays_7 : decode cX11_areDays 7 = .ok (.ireturn, 1) := by decide +kernel
theorem dX11_isRule_0 : decode cX11_isRule 0 = .ok (.iload_n 1, 1) := by decide +kernel
theorem dX11_isRule_1 : decode cX11_isRule 1 = .ok (.iconst 0, 1) := by decide +kernel
theorem dX11_isRule_2 : decode cX11_isRule 2 = .ok (.aload_n 0, 1) := by decide +kernel
theorem dX11_isRule_3 : decode cX11_isRule 3 = .ok (.getfield 130, 3) := by decide +kernel
theorem dX11_isRule_6 : decode cX11_isRule 6 = .ok (.aload_n 0, 1) := by decide +kernel
theorem dX11_isRule_7 : decode cX11_isRule 7 = .ok (.getfield 26, 3) := by decide +kernel
theorem dX11_isRule_10 : decode cX11_isRule 10 = .ok (.arraylength, 1) := by decide +kernel
theorem dX11_isRule_11 : decode cX11_isRule 11 = .ok (.invokestatic 309, 3) := by decide +kernel
theorem dX11_isRule_14 : decode cX11_isRule 14 = .ok (.iconst 1, 1) := by decide +kernel
theorem dX11_isRule_15 : decode cX11_isRule 15 = .ok (.isub, 1) := by decide +kernel
theorem dX11_isRule_16 : decode cX11_isRule 16 = .ok (.invokestatic 92, 3) := by decide +kernel
theorem dX11_isRule_19 : decode cX11_isRule 19 = .ok (.ireturn, 1) := by decide +kernel
theorem dX11_isRuleOf_0 : decode cX11_isRuleOf 0 = .ok (.iload_n 0, 1) := by decide +kernel
theorem dX11_isRuleOf_1 : decode cX11_isRuleOf 1 = .ok (.tableswitch 90 1 3 #[27, 35, 63], 27) := by decide +kernel
theorem dX11_isRuleOf_28 : decode cX11_isRuleOf 28 = .ok (.iload_n 1, 1) := by decide +kernel
theorem dX11_isRuleOf_29 : decode cX11_isRuleOf 29 = .ok (.iconst 0, 1) := by decide +kernel
theorem dX11_isRuleOf_30 : decode cX11_isRuleOf 30 = .ok (.bipush 12, 2) := by decide +kernel
theorem dX11_isRuleOf_32 : decode cX11_isRuleOf 32 = .ok (.invokestatic 92, 3) := by decide +kernel
theorem dX11_isRuleOf_35 : decode cX11_isRuleOf 35 = .ok (.ireturn, 1) := by decide +kernel
theorem dX11_isRuleOf_36 : decode cX11_isRuleOf 36 = .ok (.iload_n 2, 1) := by decide +kernel
theorem dX11_isRuleOf_37 : decode cX11_isRuleOf 37 = .ok (.iconst 0, 1) := by decide +kernel
theorem dX11_isRuleOf_38 : decode cX11_isRuleOf 38 = .ok (.bipush 12, 2) := by decide +kernel
theorem dX11_isRuleOf_40 : decode cX11_isRuleOf 40 = .ok (.invokestatic 92, 3) := by decide +kernel
theorem dX11_isRuleOf_43 : decode cX11_isRuleOf 43 = .ok (.ifCond .eq 19, 3) := by decide +kernel
theorem dX11_isRuleOf_46 : decode cX11_isRuleOf 46 = .ok (.iload_n 1, 1) := by decide +kernel
theorem dX11_isRuleOf_47 : decode cX11_isRuleOf 47 = .ok (.bipush (-12), 2) := by decide +kernel
theorem dX11_isRuleOf_49 : decode cX11_isRuleOf 49 = .ok (.iload_n 2, 1) := by decide +kernel
theorem dX11_isRuleOf_50 : decode cX11_isRuleOf 50 = .ok (.iconst 1, 1) := by decide +kernel
theorem dX11_isRuleOf_51 : decode cX11_isRuleOf 51 = .ok (.isub, 1) := by decide +kernel
theorem dX11_isRuleOf_52 : decode cX11_isRuleOf 52 = .ok (.invokestatic 92, 3) := by decide +kernel
theorem dX11_isRuleOf_55 : decode cX11_isRuleOf 55 = .ok (.ifCond .eq 7, 3) := by decide +kernel
theorem dX11_isRuleOf_58 : decode cX11_isRuleOf 58 = .ok (.iconst 1, 1) := by decide +kernel
theorem dX11_isRuleOf_59 : decode cX11_isRuleOf 59 = .ok (.goto 4, 3) := by decide +kernel
theorem dX11_isRuleOf_62 : decode cX11_isRuleOf 62 = .ok (.iconst 0, 1) := by decide +kernel
theorem dX11_isRuleOf_63 : decode cX11_isRuleOf 63 = .ok (.ireturn, 1) := by decide +kernel
theorem dX11_isRuleOf_64 : decode cX11_isRuleOf 64 = .ok (.iload_n 1, 1) := by decide +kernel
theorem dX11_isRuleOf_65 : decode cX11_isRuleOf 65 = .ok (.bipush (-12), 2) := by decide +kernel
theorem dX11_isRuleOf_67 : decode cX11_isRuleOf 67 = .ok (.bipush 12, 2) := by decide +kernel
theorem dX11_isRuleOf_69 : decode cX11_isRuleOf 69 = .ok (.invokestatic 92, 3) := by decide +kernel
theorem dX11_isRuleOf_72 : decode cX11_isRuleOf 72 = .ok (.ifCond .eq 17, 3) := by decide +kernel
theorem dX11_isRuleOf_75 : decode cX11_isRuleOf 75 = .ok (.iload_n 2, 1) := by decide +kernel
theorem dX11_isRuleOf_76 : decode cX11_isRuleOf 76 = .ok (.iconst 1, 1) := by decide +kernel
theorem dX11_isRuleOf_77 : decode cX11_isRuleOf 77 = .ok (.bipush 12, 2) := by decide +kernel
theorem dX11_isRuleOf_79 : decode cX11_isRuleOf 79 = .ok (.invokestatic 92, 3) := by decide +kernel
theorem dX11_isRuleOf_82 : decode cX11_isRuleOf 82 = .ok (.ifCond .eq 7, 3) := by decide +kernel
theorem dX11_isRuleOf_85 : decode cX11_isRuleOf 85 = .ok (.iconst 1, 1) := by decide +kernel
theorem dX11_isRuleOf_86 : decode cX11_isRuleOf 86 = .ok (.goto 4, 3) := by decide +kernel
theorem dX11_isRuleOf_89 : decode cX11_isRuleOf 89 = .ok (.iconst 0, 1) := by decide +kernel
theorem dX11_isRuleOf_90 : decode cX11_isRuleOf 90 = .ok (.ireturn, 1) := by decide +kernel
theorem dX11_isRuleOf_91 : decode cX11_isRuleOf 91 = .ok (.iconst 0, 1) := by decide +kernel
theorem dX11_isRuleOf_92 : decode cX11_isRuleOf 92 = .ok (.ireturn, 1) := by decide +kernel
theorem dX11_isStart_0 : decode cX11_isStart 0 = .ok (.iload_n 1, 1) := by decide +kernel
theorem dX11_isStart_1 : decode cX11_isStart 1 = .ok (.invokestatic 81, 3) := by decide +kernel
theorem dX11_isStart_4 : decode cX11_isStart 4 = .ok (.ifCond .eq 35, 3) := by decide +kernel
theorem dX11_isStart_7 : decode cX11_isStart 7 = .ok (.iload_n 3, 1) := by decide +kernel
theorem dX11_isStart_8 : decode cX11_isStart 8 = .ok (.invokestatic 270, 3) := by decide +kernel
theorem dX11_isStart_11 : decode cX11_isStart 11 = .ok (.ifCond .eq 28, 3) := by decide +kernel
theorem dX11_isStart_14 : decode cX11_isStart 14 = .ok (.iload_n 2, 1) := by decide +kernel
theorem dX11_isStart_15 : decode cX11_isStart 15 = .ok (.aload_n 0, 1) := by decide +kernel
theorem dX11_isStart_16 : decode cX11_isStart 16 = .ok (.getfield 33, 3) := by decide +kernel
theorem dX11_isStart_19 : decode cX11_isStart 19 = .ok (.invokevirtual 315, 3) := by decide +kernel
theorem dX11_isStart_22 : decode cX11_isStart 22 = .ok (.aload_n 0, 1) := by decide +kernel
theorem dX11_isStart_23 : decode cX11_isStart 23 = .ok (.getfield 33, 3) := by decide +kernel
theorem dX11_isStart_26 : decode cX11_isStart 26 = .ok (.getfield 185, 3) := by decide +kernel
theorem dX11_isStart_29 : decode cX11_isStart 29 = .ok (.invokestatic 92, 3) := by decide +kernel
theorem dX11_isStart_32 : decode cX11_isStart 32 = .ok (.ifCond .eq 7, 3) := by decide +kernel
theorem dX11_isStart_35 : decode cX11_isStart 35 = .ok (.iconst 1, 1) := by decide +kernel
theorem dX11_isStart_36 : decode cX11_isStart 36 = .ok (.goto 4, 3) := by decide +kernel
theorem dX11_isStart_39 : decode cX11_isStart 39 = .ok (.iconst 0, 1) := by decide +kernel
theorem dX11_isStart_40 : decode cX11_isStart 40 = .ok (.ireturn, 1) := by decide +kernel
theorem dX11_isStretch_0 : decode cX11_isStretch 0 = .ok (.iload_n 1, 1) := by decide +kernel
theorem dX11_isStretch_1 : decode cX11_isStretch 1 = .ok (.iconst 0, 1) := by decide +kernel
theorem dX11_isStretch_2 : decode cX11_isStretch 2 = .ok (.bipush 7, 2) := by decide +kernel
theorem dX11_isStretch_4 : decode cX11_isStretch 4 = .ok (.invokestatic 92, 3) := by decide +kernel
theorem dX11_isStretch_7 : decode cX11_isStretch 7 = .ok (.ifCond .eq 19, 3) := by decide +kernel
theorem dX11_isStretch_10 : decode cX11_isStretch 10 = .ok (.iload_n 0, 1) := by decide +kernel
theorem dX11_isStretch_11 : decode cX11_isStretch 11 = .ok (.iconst 0, 1) := by decide +kernel
theorem dX11_isStretch_12 : decode cX11_isStretch 12 = .ok (.bipush 7, 2) := by decide +kernel
theorem dX11_isStretch_14 : decode cX11_isStretch 14 = .ok (.iload_n 1, 1) := by decide +kernel
theorem dX11_isStretch_15 : decode cX11_isStretch 15 = .ok (.isub, 1) := by decide +kernel
theorem dX11_isStretch_16 : decode cX11_isStretch 16 = .ok (.invokestatic 92, 3) := by decide +kernel
theorem dX11_isStretch_19 : decode cX11_isStretch 19 = .ok (.ifCond .eq 7, 3) := by decide +kernel
theorem dX11_isStretch_22 : decode cX11_isStretch 22 = .ok (.iconst 1, 1) := by decide +kernel
theorem dX11_isStretch_23 : decode cX11_isStretch 23 = .ok (.goto 4, 3) := by decide +kernel
theorem dX11_isStretch_26 : decode cX11_isStretch 26 = .ok (.iconst 0, 1) := by decide +kernel
theorem dX11_isStretch_27 : decode cX11_isStretch 27 = .ok (.ireturn, 1) := by decide +kernel
theorem dX11_refuse_0 : decode cX11_refuse 0 = .ok (.aload_n 0, 1) := by decide +kernel
theorem dX11_refuse_1 : decode cX11_refuse 1 = .ok (.iload_n 1, 1) := by decide +kernel
theorem dX11_refuse_2 : decode cX11_refuse 2 = .ok (.putfield 289, 3) := by decide +kernel
theorem dX11_refuse_5 : decode cX11_refuse 5 = .ok (.iload_n 1, 1) := by decide +kernel
theorem dX11_refuse_6 : decode cX11_refuse 6 = .ok (.iconst 1, 1) := by decide +kernel
theorem dX11_refuse_7 : decode cX11_refuse 7 = .ok (.iconst 5, 1) := by decide +kernel
theorem dX11_refuse_8 : decode cX11_refuse 8 = .ok (.invokestatic 92, 3) := by decide +kernel
theorem dX11_refuse_11 : decode cX11_refuse 11 = .ok (.ifCond .eq 13, 3) := by decide +kernel
theorem dX11_refuse_14 : decode cX11_refuse 14 = .ok (.aload_n 0, 1) := by decide +kernel
theorem dX11_refuse_15 : decode cX11_refuse 15 = .ok (.getfield 47, 3) := by decide +kernel
theorem dX11_refuse_18 : decode cX11_refuse 18 = .ok (.iload_n 1, 1) := by decide +kernel
theorem dX11_refuse_19 : decode cX11_refuse 19 = .ok (.dup2, 1) := by decide +kernel
theorem dX11_refuse_20 : decode cX11_refuse 20 = .ok (.iaload, 1) := by decide +kernel
theorem dX11_refuse_21 : decode cX11_refuse 21 = .ok (.iconst 1, 1) := by decide +kernel
theorem dX11_refuse_22 : decode cX11_refuse 22 = .ok (.iadd, 1) := by decide +kernel
theorem dX11_refuse_23 : decode cX11_refuse 23 = .ok (.iastore, 1) := by decide +kernel
theorem dX11_refuse_24 : decode cX11_refuse 24 = .ok (.bipush (-3), 2) := by decide +kernel
theorem dX11_refuse_26 : decode cX11_refuse 26 = .ok (.ireturn, 1) := by decide +kernel
theorem dX11_lackOf_0 : decode cX11_lackOf 0 = .ok (.aload_n 0, 1) := by decide +kernel
theorem dX11_lackOf_1 : decode cX11_lackOf 1 = .ok (.getfield 85, 3) := by decide +kernel
theorem dX11_lackOf_4 : decode cX11_lackOf 4 = .ok (.ifCond .ne 5, 3) := by decide +kernel
theorem dX11_lackOf_7 : decode cX11_lackOf 7 = .ok (.iconst 1, 1) := by decide +kernel
theorem dX11_lackOf_8 : decode cX11_lackOf 8 = .ok (.ireturn, 1) := by decide +kernel
theorem dX11_lackOf_9 : decode cX11_lackOf 9 = .ok (.aload_n 0, 1) := by decide +kernel
theorem dX11_lackOf_10 : decode cX11_lackOf 10 = .ok (.invokevirtual 120, 3) := by decide +kernel
theorem dX11_lackOf_13 : decode cX11_lackOf 13 = .ok (.ifCond .ne 7, 3) := by decide +kernel
theorem dX11_lackOf_16 : decode cX11_lackOf 16 = .ok (.iconst 4, 1) := by decide +kernel
theorem dX11_lackOf_17 : decode cX11_lackOf 17 = .ok (.goto 4, 3) := by decide +kernel
theorem dX11_lackOf_20 : decode cX11_lackOf 20 = .ok (.iconst 0, 1) := by decide +kernel
theorem dX11_lackOf_21 : decode cX11_lackOf 21 = .ok (.ireturn, 1) := by decide +kernel
theorem dX11_lackOf__0 : decode cX11_lackOf_ 0 = .ok (.aload_n 0, 1) := by decide +kernel
theorem dX11_lackOf__1 : decode cX11_lackOf_ 1 = .ok (.ifnonnull 7, 3) := by decide +kernel
theorem dX11_lackOf__4 : decode cX11_lackOf_ 4 = .ok (.iconst 1, 1) := by decide +kernel
theorem dX11_lackOf__5 : decode cX11_lackOf_ 5 = .ok (.goto 7, 3) := by decide +kernel
theorem dX11_lackOf__8 : decode cX11_lackOf_ 8 = .ok (.aload_n 1, 1) := by decide +kernel
theorem dX11_lackOf__9 : decode cX11_lackOf_ 9 = .ok (.invokestatic 116, 3) := by decide +kernel
theorem dX11_lackOf__12 : decode cX11_lackOf_ 12 = .ok (.ireturn, 1) := by decide +kernel
theorem dX11_keep_0 : decode cX11_keep 0 = .ok (.aload_n 0, 1) := by decide +kernel
theorem dX11_keep_1 : decode cX11_keep 1 = .ok (.getfield 130, 3) := by decide +kernel
theorem dX11_keep_4 : decode cX11_keep 4 = .ok (.istore_n 2, 1) := by decide +kernel
theorem dX11_keep_5 : decode cX11_keep 5 = .ok (.iload_n 2, 1) := by decide +kernel
theorem dX11_keep_6 : decode cX11_keep 6 = .ok (.iconst 0, 1) := by decide +kernel
theorem dX11_keep_7 : decode cX11_keep 7 = .ok (.aload_n 0, 1) := by decide +kernel
theorem dX11_keep_8 : decode cX11_keep 8 = .ok (.getfield 26, 3) := by decide +kernel
theorem dX11_keep_11 : decode cX11_keep 11 = .ok (.arraylength, 1) := by decide +kernel
theorem dX11_keep_12 : decode cX11_keep 12 = .ok (.iconst 1, 1) := by decide +kernel
theorem dX11_keep_13 : decode cX11_keep 13 = .ok (.isub, 1) := by decide +kernel
theorem dX11_keep_14 : decode cX11_keep 14 = .ok (.invokestatic 92, 3) := by decide +kernel
theorem dX11_keep_17 : decode cX11_keep 17 = .ok (.ifCond .eq 20, 3) := by decide +kernel
theorem dX11_keep_20 : decode cX11_keep 20 = .ok (.aload_n 0, 1) := by decide +kernel
theorem dX11_keep_21 : decode cX11_keep 21 = .ok (.getfield 26, 3) := by decide +kernel
theorem dX11_keep_24 : decode cX11_keep 24 = .ok (.iload_n 2, 1) := by decide +kernel
theorem dX11_keep_25 : decode cX11_keep 25 = .ok (.aload_n 1, 1) := by decide +kernel
theorem dX11_keep_26 : decode cX11_keep 26 = .ok (.aastore, 1) := by decide +kernel
theorem dX11_keep_27 : decode cX11_keep 27 = .ok (.aload_n 0, 1) := by decide +kernel
theorem dX11_keep_28 : decode cX11_keep 28 = .ok (.dup, 1) := by decide +kernel
theorem dX11_keep_29 : decode cX11_keep 29 = .ok (.getfield 130, 3) := by decide +kernel
theorem dX11_keep_32 : decode cX11_keep 32 = .ok (.iconst 1, 1) := by decide +kernel
theorem dX11_keep_33 : decode cX11_keep 33 = .ok (.iadd, 1) := by decide +kernel
theorem dX11_keep_34 : decode cX11_keep 34 = .ok (.putfield 130, 3) := by decide +kernel
theorem dX11_keep_37 : decode cX11_keep 37 = .ok (.iload_n 2, 1) := by decide +kernel
theorem dX11_keep_38 : decode cX11_keep 38 = .ok (.ireturn, 1) := by decide +kernel
theorem dX11_tellOf_0 : decode cX11_tellOf 0 = .ok (.iload_n 1, 1) := by decide +kernel
theorem dX11_tellOf_1 : decode cX11_tellOf 1 = .ok (.tableswitch 51 0 3 #[31, 36, 41, 46], 31) := by decide +kernel
theorem dX11_tellOf_32 : decode cX11_tellOf 32 = .ok (.aload_n 0, 1) := by decide +kernel
theorem dX11_tellOf_33 : decode cX11_tellOf 33 = .ok (.invokevirtual 318, 3) := by decide +kernel
theorem dX11_tellOf_36 : decode cX11_tellOf 36 = .ok (.ireturn, 1) := by decide +kernel
theorem dX11_tellOf_37 : decode cX11_tellOf 37 = .ok (.aload_n 0, 1) := by decide +kernel
theorem dX11_tellOf_38 : decode cX11_tellOf 38 = .ok (.invokevirtual 321, 3) := by decide +kernel
theorem dX11_tellOf_41 : decode cX11_tellOf 41 = .ok (.ireturn, 1) := by decide +kernel
theorem dX11_tellOf_42 : decode cX11_tellOf 42 = .ok (.aload_n 0, 1) := by decide +kernel
theorem dX11_tellOf_43 : decode cX11_tellOf 43 = .ok (.invokevirtual 324, 3) := by decide +kernel
theorem dX11_tellOf_46 : decode cX11_tellOf 46 = .ok (.ireturn, 1) := by decide +kernel
theorem dX11_tellOf_47 : decode cX11_tellOf 47 = .ok (.aload_n 0, 1) := by decide +kernel
theorem dX11_tellOf_48 : decode cX11_tellOf 48 = .ok (.invokevirtual 327, 3) := by decide +kernel
theorem dX11_tellOf_51 : decode cX11_tellOf 51 = .ok (.ireturn, 1) := by decide +kernel
theorem dX11_tellOf_52 : decode cX11_tellOf 52 = .ok (.aload_n 0, 1) := by decide +kernel
theorem dX11_tellOf_53 : decode cX11_tellOf 53 = .ok (.invokevirtual 330, 3) := by decide +kernel
theorem dX11_tellOf_56 : decode cX11_tellOf 56 = .ok (.ireturn, 1) := by decide +kernel
theorem dX11_cutOrder_0 : decode cX11_cutOrder 0 = .ok (.iconst 0, 1) := by decide +kernel
theorem dX11_cutOrder_1 : decode cX11_cutOrder 1 = .ok (.bipush 12, 2) := by decide +kernel
theorem dX11_cutOrder_3 : decode cX11_cutOrder 3 = .ok (.iload_n 0, 1) := by decide +kernel
theorem dX11_cutOrder_4 : decode cX11_cutOrder 4 = .ok (.invokestatic 309, 3) := by decide +kernel
theorem dX11_cutOrder_7 : decode cX11_cutOrder 7 = .ok (.invokestatic 333, 3) := by decide +kernel
theorem dX11_cutOrder_10 : decode cX11_cutOrder 10 = .ok (.ireturn, 1) := by decide +kernel
theorem dX11_rulesThere_0 : decode cX11_rulesThere 0 = .ok (.iconst 0, 1) := by decide +kernel
theorem dX11_rulesThere_1 : decode cX11_rulesThere 1 = .ok (.istore_n 1, 1) := by decide +kernel
theorem dX11_rulesThere_2 : decode cX11_rulesThere 2 = .ok (.iconst 0, 1) := by decide +kernel
theorem dX11_rulesThere_3 : decode cX11_rulesThere 3 = .ok (.istore_n 2, 1) := by decide +kernel
theorem dX11_rulesThere_4 : decode cX11_rulesThere 4 = .ok (.iload_n 2, 1) := by decide +kernel
theorem dX11_rulesThere_5 : decode cX11_rulesThere 5 = .ok (.aload_n 0, 1) := by decide +kernel
theorem dX11_rulesThere_6 : decode cX11_rulesThere 6 = .ok (.getfield 26, 3) := by decide +kernel
theorem dX11_rulesThere_9 : decode cX11_rulesThere 9 = .ok (.arraylength, 1) := by decide +kernel
theorem dX11_rulesThere_10 : decode cX11_rulesThere 10 = .ok (.if_icmp .ge 21, 3) := by decide +kernel
theorem dX11_rulesThere_13 : decode cX11_rulesThere 13 = .ok (.aload_n 0, 1) := by decide +kernel
theorem dX11_rulesThere_14 : decode cX11_rulesThere 14 = .ok (.getfield 26, 3) := by decide +kernel
theorem dX11_rulesThere_17 : decode cX11_rulesThere 17 = .ok (.iload_n 2, 1) := by decide +kernel
theorem dX11_rulesThere_18 : decode cX11_rulesThere 18 = .ok (.aaload, 1) := by decide +kernel
theorem dX11_rulesThere_19 : decode cX11_rulesThere 19 = .ok (.ifnull 6, 3) := by decide +kernel
theorem dX11_rulesThere_22 : decode cX11_rulesThere 22 = .ok (.iinc 1 1, 3) := by decide +kernel
theorem dX11_rulesThere_25 : decode cX11_rulesThere 25 = .ok (.iinc 2 1, 3) := by decide +kernel
theorem dX11_rulesThere_28 : decode cX11_rulesThere 28 = .ok (.goto (-24), 3) := by decide +kernel
theorem dX11_rulesThere_31 : decode cX11_rulesThere 31 = .ok (.iload_n 1, 1) := by decide +kernel
theorem dX11_rulesThere_32 : decode cX11_rulesThere 32 = .ok (.ireturn, 1) := by decide +kernel
theorem dX11_seekPair_0 : decode cX11_seekPair 0 = .ok (.ldc2_w 224, 3) := by decide +kernel
theorem dX11_seekPair_3 : decode cX11_seekPair 3 = .ok (.lstore 4, 2) := by decide +kernel
theorem dX11_seekPair_5 : decode cX11_seekPair 5 = .ok (.iconst 0, 1) := by decide +kernel
theorem dX11_seekPair_6 : decode cX11_seekPair 6 = .ok (.istore 6, 2) := by decide +kernel
theorem dX11_seekPair_8 : decode cX11_seekPair 8 = .ok (.iload 6, 2) := by decide +kernel
theorem dX11_seekPair_10 : decode cX11_seekPair 10 = .ok (.aload_n 0, 1) := by decide +kernel
theorem dX11_seekPair_11 : decode cX11_seekPair 11 = .ok (.getfield 33, 3) := by decide +kernel
theorem dX11_seekPair_14 : decode cX11_seekPair 14 = .ok (.getfield 185, 3) := by decide +kernel
theorem dX11_seekPair_17 : decode cX11_seekPair 17 = .ok (.if_icmp .gt 97, 3) := by decide +kernel
theorem dX11_seekPair_20 : decode cX11_seekPair 20 = .ok (.bipush (-12), 2) := by decide +kernel
theorem dX11_seekPair_22 : decode cX11_seekPair 22 = .ok (.istore 7, 2) := by decide +kernel
theorem dX11_seekPair_24 : decode cX11_seekPair 24 = .ok (.iload 7, 2) := by decide +kernel
theorem dX11_seekPair_26 : decode cX11_seekPair 26 = .ok (.iload 6, 2) := by decide +kernel
theorem dX11_seekPair_28 : decode cX11_seekPair 28 = .ok (.if_icmp .ge 80, 3) := by decide +kernel
theorem dX11_seekPair_31 : decode cX11_seekPair 31 = .ok (.iload 7, 2) := by decide +kernel
theorem dX11_seekPair_33 : decode cX11_seekPair 33 = .ok (.bipush (-12), 2) := by decide +kernel
theorem dX11_seekPair_35 : decode cX11_seekPair 35 = .ok (.if_icmp .le 18, 3) := by decide +kernel
theorem dX11_seekPair_38 : decode cX11_seekPair 38 = .ok (.aload_n 0, 1) := by decide +kernel
theorem dX11_seekPair_39 : decode cX11_seekPair 39 = .ok (.getfield 59, 3) := by decide +kernel
theorem dX11_seekPair_42 : decode cX11_seekPair 42 = .ok (.iload 7, 2) := by decide +kernel
theorem dX11_seekPair_44 : decode cX11_seekPair 44 = .ok (.invokevirtual 336, 3) := by decide +kernel
theorem dX11_seekPair_47 : decode cX11_seekPair 47 = .ok (.ifCond .ne 6, 3) := by decide +kernel
theorem dX11_seekPair_50 : decode cX11_seekPair 50 = .ok (.goto 52, 3) := by decide +kernel
theorem dX11_seekPair_53 : decode cX11_seekPair 53 = .ok (.aload_n 0, 1) := by decide +kernel
theorem dX11_seekPair_54 : decode cX11_seekPair 54 = .ok (.getfield 59, 3) := by decide +kernel
theorem dX11_seekPair_57 : decode cX11_seekPair 57 = .ok (.iload 7, 2) := by decide +kernel
theorem dX11_seekPair_59 : decode cX11_seekPair 59 = .ok (.iload 6, 2) := by decide +kernel
theorem dX11_seekPair_61 : decode cX11_seekPair 61 = .ok (.invokevirtual 339, 3) := by decide +kernel
theorem dX11_seekPair_64 : decode cX11_seekPair 64 = .ok (.aload_n 0, 1) := by decide +kernel
theorem dX11_seekPair_65 : decode cX11_seekPair 65 = .ok (.getfield 59, 3) := by decide +kernel
theorem dX11_seekPair_68 : decode cX11_seekPair 68 = .ok (.aload_n 1, 1) := by decide +kernel
theorem dX11_seekPair_69 : decode cX11_seekPair 69 = .ok (.iload_n 2, 1) := by decide +kernel
theorem dX11_seekPair_70 : decode cX11_seekPair 70 = .ok (.iload_n 3, 1) := by decide +kernel
theorem dX11_seekPair_71 : decode cX11_seekPair 71 = .ok (.lload 4, 2) := by decide +kernel
theorem dX11_seekPair_73 : decode cX11_seekPair 73 = .ok (.invokevirtual 226, 3) := by decide +kernel
theorem dX11_seekPair_76 : decode cX11_seekPair 76 = .ok (.lstore 8, 2) := by decide +kernel
theorem dX11_seekPair_78 : decode cX11_seekPair 78 = .ok (.lload 8, 2) := by decide +kernel
theorem dX11_seekPair_80 : decode cX11_seekPair 80 = .ok (.lload 4, 2) := by decide +kernel
theorem dX11_seekPair_82 : decode cX11_seekPair 82 = .ok (.lcmp, 1) := by decide +kernel
theorem dX11_seekPair_83 : decode cX11_seekPair 83 = .ok (.ifCond .ge 19, 3) := by decide +kernel
theorem dX11_seekPair_86 : decode cX11_seekPair 86 = .ok (.lload 8, 2) := by decide +kernel
theorem dX11_seekPair_88 : decode cX11_seekPair 88 = .ok (.lstore 4, 2) := by decide +kernel
theorem dX11_seekPair_90 : decode cX11_seekPair 90 = .ok (.aload_n 0, 1) := by decide +kernel
theorem dX11_seekPair_91 : decode cX11_seekPair 91 = .ok (.iload 7, 2) := by decide +kernel
theorem dX11_seekPair_93 : decode cX11_seekPair 93 = .ok (.putfield 264, 3) := by decide +kernel
theorem dX11_seekPair_96 : decode cX11_seekPair 96 = .ok (.aload_n 0, 1) := by decide +kernel
theorem dX11_seekPair_97 : decode cX11_seekPair 97 = .ok (.iload 6, 2) := by decide +kernel
theorem dX11_seekPair_99 : decode cX11_seekPair 99 = .ok (.putfield 267, 3) := by decide +kernel
theorem dX11_seekPair_102 : decode cX11_seekPair 102 = .ok (.iinc 7 1, 3) := by decide +kernel
theorem dX11_seekPair_105 : decode cX11_seekPair 105 = .ok (.goto (-81), 3) := by decide +kernel
theorem dX11_seekPair_108 : decode cX11_seekPair 108 = .ok (.iinc 6 1, 3) := by decide +kernel
theorem dX11_seekPair_111 : decode cX11_seekPair 111 = .ok (.goto (-103), 3) := by decide +kernel
theorem dX11_seekPair_114 : decode cX11_seekPair 114 = .ok (.aload_n 0, 1) := by decide +kernel
theorem dX11_seekPair_115 : decode cX11_seekPair 115 = .ok (.iconst 1, 1) := by decide +kernel
theorem dX11_seekPair_116 : decode cX11_seekPair 116 = .ok (.putfield 261, 3) := by decide +kernel
theorem dX11_seekPair_119 : decode cX11_seekPair 119 = .ok (.lload 4, 2) := by decide +kernel
theorem dX11_seekPair_121 : decode cX11_seekPair 121 = .ok (.lreturn, 1) := by decide +kernel
theorem dX11_weightOfSeen_0 : decode cX11_weightOfSeen 0 = .ok (.lconst 1, 1) := by decide +kernel
theorem dX11_weightOfSeen_1 : decode cX11_weightOfSeen 1 = .ok (.lstore_n 2, 1) := by decide +kernel
theorem dX11_weightOfSeen_2 : decode cX11_weightOfSeen 2 = .ok (.iconst 0, 1) := by decide +kernel
theorem dX11_weightOfSeen_3 : decode cX11_weightOfSeen 3 = .ok (.istore 4, 2) := by decide +kernel
theorem dX11_weightOfSeen_5 : decode cX11_weightOfSeen 5 = .ok (.iload 4, 2) := by decide +kernel
theorem dX11_weightOfSeen_7 : decode cX11_weightOfSeen 7 = .ok (.aload_n 0, 1) := by decide +kernel
theorem dX11_weightOfSeen_8 : decode cX11_weightOfSeen 8 = .ok (.getfield 279, 3) := by decide +kernel
theorem dX11_weightOfSeen_11 : decode cX11_weightOfSeen 11 = .ok (.if_icmp .ge 34, 3) := by decide +kernel
theorem dX11_weightOfSeen_14 : decode cX11_weightOfSeen 14 = .ok (.iload 4, 2) := by decide +kernel
theorem dX11_weightOfSeen_16 : decode cX11_weightOfSeen 16 = .ok (.aload_n 0, 1) := by decide +kernel
theorem dX11_weightOfSeen_17 : decode cX11_weightOfSeen 17 = .ok (.getfield 37, 3) := by decide +kernel
theorem dX11_weightOfSeen_20 : decode cX11_weightOfSeen 20 = .ok (.arraylength, 1) := by decide +kernel
theorem dX11_weightOfSeen_21 : decode cX11_weightOfSeen 21 = .ok (.if_icmp .ge 24, 3) := by decide +kernel
theorem dX11_weightOfSeen_24 : decode cX11_weightOfSeen 24 = .ok (.lload_n 2, 1) := by decide +kernel
theorem dX11_weightOfSeen_25 : decode cX11_weightOfSeen 25 = .ok (.aload_n 1, 1) := by decide +kernel
theorem dX11_weightOfSeen_26 : decode cX11_weightOfSeen 26 = .ok (.aload_n 0, 1) := by decide +kernel
theorem dX11_weightOfSeen_27 : decode cX11_weightOfSeen 27 = .ok (.getfield 37, 3) := by decide +kernel
theorem dX11_weightOfSeen_30 : decode cX11_weightOfSeen 30 = .ok (.iload 4, 2) := by decide +kernel
theorem dX11_weightOfSeen_32 : decode cX11_weightOfSeen 32 = .ok (.iaload, 1) := by decide +kernel
theorem dX11_weightOfSeen_33 : decode cX11_weightOfSeen 33 = .ok (.invokevirtual 342, 3) := by decide +kernel
theorem dX11_weightOfSeen_36 : decode cX11_weightOfSeen 36 = .ok (.i2l, 1) := by decide +kernel
theorem dX11_weightOfSeen_37 : decode cX11_weightOfSeen 37 = .ok (.lmul, 1) := by decide +kernel
theorem dX11_weightOfSeen_38 : decode cX11_weightOfSeen 38 = .ok (.lstore_n 2, 1) := by decide +kernel
theorem dX11_weightOfSeen_39 : decode cX11_weightOfSeen 39 = .ok (.iinc 4 1, 3) := by decide +kernel
theorem dX11_weightOfSeen_42 : decode cX11_weightOfSeen 42 = .ok (.goto (-37), 3) := by decide +kernel
theorem dX11_weightOfSeen_45 : decode cX11_weightOfSeen 45 = .ok (.lload_n 2, 1) := by decide +kernel
theorem dX11_weightOfSeen_46 : decode cX11_weightOfSeen 46 = .ok (.lreturn, 1) := by decide +kernel
theorem dX11_rowsOf_0 : decode cX11_rowsOf 0 = .ok (.aload_n 0, 1) := by decide +kernel
theorem dX11_rowsOf_1 : decode cX11_rowsOf 1 = .ok (.invokevirtual 120, 3) := by decide +kernel
theorem dX11_rowsOf_4 : decode cX11_rowsOf 4 = .ok (.i2l, 1) := by decide +kernel
theorem dX11_rowsOf_5 : decode cX11_rowsOf 5 = .ok (.lstore_n 2, 1) := by decide +kernel
theorem dX11_rowsOf_6 : decode cX11_rowsOf 6 = .ok (.lconst 1, 1) := by decide +kernel
theorem dX11_rowsOf_7 : decode cX11_rowsOf 7 = .ok (.lstore 4, 2) := by decide +kernel
theorem dX11_rowsOf_9 : decode cX11_rowsOf 9 = .ok (.iconst 0, 1) := by decide +kernel
theorem dX11_rowsOf_10 : decode cX11_rowsOf 10 = .ok (.istore 6, 2) := by decide +kernel
theorem dX11_rowsOf_12 : decode cX11_rowsOf 12 = .ok (.iload 6, 2) := by decide +kernel
theorem dX11_rowsOf_14 : decode cX11_rowsOf 14 = .ok (.iload_n 1, 1) := by decide +kernel
theorem dX11_rowsOf_15 : decode cX11_rowsOf 15 = .ok (.if_icmp .ge 15, 3) := by decide +kernel
theorem dX11_rowsOf_18 : decode cX11_rowsOf 18 = .ok (.lload 4, 2) := by decide +kernel
theorem dX11_rowsOf_20 : decode cX11_rowsOf 20 = .ok (.lload_n 2, 1) := by decide +kernel
theorem dX11_rowsOf_21 : decode cX11_rowsOf 21 = .ok (.lmul, 1) := by decide +kernel
theorem dX11_rowsOf_22 : decode cX11_rowsOf 22 = .ok (.lstore 4, 2) := by decide +kernel
theorem dX11_rowsOf_24 : decode cX11_rowsOf 24 = .ok (.iinc 6 1, 3) := by decide +kernel
theorem dX11_rowsOf_27 : decode cX11_rowsOf 27 = .ok (.goto (-15), 3) := by decide +kernel
theorem dX11_rowsOf_30 : decode cX11_rowsOf 30 = .ok (.lload 4, 2) := by decide +kernel
theorem dX11_rowsOf_32 : decode cX11_rowsOf 32 = .ok (.lreturn, 1) := by decide +kernel
theorem dX11_tell_0 : decode cX11_tell 0 = .ok (.lload_n 1, 1) := by decide +kernel
theorem dX11_tell_1 : decode cX11_tell 1 = .ok (.lload_n 3, 1) := by decide +kernel
theorem dX11_tell_2 : decode cX11_tell 2 = .ok (.invokestatic 345, 3) := by decide +kernel
theorem dX11_tell_5 : decode cX11_tell 5 = .ok (.lstore 5, 2) := by decide +kernel
theorem dX11_tell_7 : decode cX11_tell 7 = .ok (.lload_n 3, 1) := by decide +kernel
theorem dX11_tell_8 : decode cX11_tell 8 = .ok (.lconst 0, 1) := by decide +kernel
theorem dX11_tell_9 : decode cX11_tell 9 = .ok (.lcmp, 1) := by decide +kernel
theorem dX11_tell_10 : decode cX11_tell 10 = .ok (.ifCond .le 10, 3) := by decide +kernel
theorem dX11_tell_13 : decode cX11_tell 13 = .ok (.lload 5, 2) := by decide +kernel
theorem dX11_tell_15 : decode cX11_tell 15 = .ok (.lconst 0, 1) := by decide +kernel
theorem dX11_tell_16 : decode cX11_tell 16 = .ok (.lcmp, 1) := by decide +kernel
theorem dX11_tell_17 : decode cX11_tell 17 = .ok (.ifCond .gt 16, 3) := by decide +kernel
theorem dX11_tell_20 : decode cX11_tell 20 = .ok (.aload_n 0, 1) := by decide +kernel
theorem dX11_tell_21 : decode cX11_tell 21 = .ok (.lconst 0, 1) := by decide +kernel
theorem dX11_tell_22 : decode cX11_tell 22 = .ok (.putfield 40, 3) := by decide +kernel
theorem dX11_tell_25 : decode cX11_tell 25 = .ok (.aload_n 0, 1) := by decide +kernel
theorem dX11_tell_26 : decode cX11_tell 26 = .ok (.lconst 1, 1) := by decide +kernel
theorem dX11_tell_27 : decode cX11_tell 27 = .ok (.putfield 44, 3) := by decide +kernel
theorem dX11_tell_30 : decode cX11_tell 30 = .ok (.goto 19, 3) := by decide +kernel
theorem dX11_tell_33 : decode cX11_tell 33 = .ok (.aload_n 0, 1) := by decide +kernel
theorem dX11_tell_34 : decode cX11_tell 34 = .ok (.lload_n 1, 1) := by decide +kernel
theorem dX11_tell_35 : decode cX11_tell 35 = .ok (.lload 5, 2) := by decide +kernel
theorem dX11_tell_37 : decode cX11_tell 37 = .ok (.ldiv, 1) := by decide +kernel
theorem dX11_tell_38 : decode cX11_tell 38 = .ok (.putfield 40, 3) := by decide +kernel
theorem dX11_tell_41 : decode cX11_tell 41 = .ok (.aload_n 0, 1) := by decide +kernel
theorem dX11_tell_42 : decode cX11_tell 42 = .ok (.lload_n 3, 1) := by decide +kernel
theorem dX11_tell_43 : decode cX11_tell 43 = .ok (.lload 5, 2) := by decide +kernel
theorem dX11_tell_45 : decode cX11_tell 45 = .ok (.ldiv, 1) := by decide +kernel
theorem dX11_tell_46 : decode cX11_tell 46 = .ok (.putfield 44, 3) := by decide +kernel
theorem dX11_tell_49 : decode cX11_tell 49 = .ok (.iconst 1, 1) := by decide +kernel
theorem dX11_tell_50 : decode cX11_tell 50 = .ok (.ireturn, 1) := by decide +kernel
theorem dX11_commonDivisor_0 : decode cX11_commonDivisor 0 = .ok (.lload_n 0, 1) := by decide +kernel
theorem dX11_commonDivisor_1 : decode cX11_commonDivisor 1 = .ok (.lstore 4, 2) := by decide +kernel
theorem dX11_commonDivisor_3 : decode cX11_commonDivisor 3 = .ok (.lload_n 2, 1) := by decide +kernel
theorem dX11_commonDivisor_4 : decode cX11_commonDivisor 4 = .ok (.lstore 6, 2) := by decide +kernel
theorem dX11_commonDivisor_6 : decode cX11_commonDivisor 6 = .ok (.iconst 0, 1) := by decide +kernel
theorem dX11_commonDivisor_7 : decode cX11_commonDivisor 7 = .ok (.istore 8, 2) := by decide +kernel
theorem dX11_commonDivisor_9 : decode cX11_commonDivisor 9 = .ok (.iload 8, 2) := by decide +kernel
theorem dX11_commonDivisor_11 : decode cX11_commonDivisor 11 = .ok (.sipush 200, 3) := by decide +kernel
theorem dX11_commonDivisor_14 : decode cX11_commonDivisor 14 = .ok (.if_icmp .ge 31, 3) := by decide +kernel
theorem dX11_commonDivisor_17 : decode cX11_commonDivisor 17 = .ok (.lload 6, 2) := by decide +kernel
theorem dX11_commonDivisor_19 : decode cX11_commonDivisor 19 = .ok (.lconst 0, 1) := by decide +kernel
theorem dX11_commonDivisor_20 : decode cX11_commonDivisor 20 = .ok (.lcmp, 1) := by decide +kernel
theorem dX11_commonDivisor_21 : decode cX11_commonDivisor 21 = .ok (.ifCond .eq 24, 3) := by decide +kernel
theorem dX11_commonDivisor_24 : decode cX11_commonDivisor 24 = .ok (.lload 4, 2) := by decide +kernel
theorem dX11_commonDivisor_26 : decode cX11_commonDivisor 26 = .ok (.lload 6, 2) := by decide +kernel
theorem dX11_commonDivisor_28 : decode cX11_commonDivisor 28 = .ok (.lrem, 1) := by decide +kernel
theorem dX11_commonDivisor_29 : decode cX11_commonDivisor 29 = .ok (.lstore 9, 2) := by decide +kernel
theorem dX11_commonDivisor_31 : decode cX11_commonDivisor 31 = .ok (.lload 6, 2) := by decide +kernel
theorem dX11_commonDivisor_33 : decode cX11_commonDivisor 33 = .ok (.lstore 4, 2) := by decide +kernel
theorem dX11_commonDivisor_35 : decode cX11_commonDivisor 35 = .ok (.lload 9, 2) := by decide +kernel
theorem dX11_commonDivisor_37 : decode cX11_commonDivisor 37 = .ok (.lstore 6, 2) := by decide +kernel
theorem dX11_commonDivisor_39 : decode cX11_commonDivisor 39 = .ok (.iinc 8 1, 3) := by decide +kernel
theorem dX11_commonDivisor_42 : decode cX11_commonDivisor 42 = .ok (.goto (-33), 3) := by decide +kernel
theorem dX11_commonDivisor_45 : decode cX11_commonDivisor 45 = .ok (.lload 4, 2) := by decide +kernel
theorem dX11_commonDivisor_47 : decode cX11_commonDivisor 47 = .ok (.lreturn, 1) := by decide +kernel
theorem dX11_digestBooks_0 : decode cX11_digestBooks 0 = .ok (.lload_n 1, 1) := by decide +kernel
theorem dX11_digestBooks_1 : decode cX11_digestBooks 1 = .ok (.lstore_n 3, 1) := by decide +kernel
theorem dX11_digestBooks_2 : decode cX11_digestBooks 2 = .ok (.iconst 0, 1) := by decide +kernel
theorem dX11_digestBooks_3 : decode cX11_digestBooks 3 = .ok (.istore 5, 2) := by decide +kernel
theorem dX11_digestBooks_5 : decode cX11_digestBooks 5 = .ok (.iload 5, 2) := by decide +kernel
theorem dX11_digestBooks_7 : decode cX11_digestBooks 7 = .ok (.aload_n 0, 1) := by decide +kernel
theorem dX11_digestBooks_8 : decode cX11_digestBooks 8 = .ok (.getfield 11, 3) := by decide +kernel
theorem dX11_digestBooks_11 : decode cX11_digestBooks 11 = .ok (.arraylength, 1) := by decide +kernel
theorem dX11_digestBooks_12 : decode cX11_digestBooks 12 = .ok (.if_icmp .ge 69, 3) := by decide +kernel
theorem dX11_digestBooks_15 : decode cX11_digestBooks 15 = .ok (.aload_n 0, 1) := by decide +kernel
theorem dX11_digestBooks_16 : decode cX11_digestBooks 16 = .ok (.getfield 11, 3) := by decide +kernel
theorem dX11_digestBooks_19 : decode cX11_digestBooks 19 = .ok (.iload 5, 2) := by decide +kernel
theorem dX11_digestBooks_21 : decode cX11_digestBooks 21 = .ok (.aaload, 1) := by decide +kernel
theorem dX11_digestBooks_22 : decode cX11_digestBooks 22 = .ok (.getfield 85, 3) := by decide +kernel
theorem dX11_digestBooks_25 : decode cX11_digestBooks 25 = .ok (.ifCond .ne 14, 3) := by decide +kernel
theorem dX11_digestBooks_28 : decode cX11_digestBooks 28 = .ok (.ldc2_w 294, 3) := by decide +kernel
theorem dX11_digestBooks_31 : decode cX11_digestBooks 31 = .ok (.lload_n 3, 1) := by decide +kernel
theorem dX11_digestBooks_32 : decode cX11_digestBooks 32 = .ok (.lmul, 1) := by decide +kernel
theorem dX11_digestBooks_33 : decode cX11_digestBooks 33 = .ok (.lconst 1, 1) := by decide +kernel
theorem dX11_digestBooks_34 : decode cX11_digestBooks 34 = .ok (.lsub, 1) := by decide +kernel
theorem dX11_digestBooks_35 : decode cX11_digestBooks 35 = .ok (.lstore_n 3, 1) := by decide +kernel
theorem dX11_digestBooks_36 : decode cX11_digestBooks 36 = .ok (.goto 39, 3) := by decide +kernel
theorem dX11_digestBooks_39 : decode cX11_digestBooks 39 = .ok (.iconst 0, 1) := by decide +kernel
theorem dX11_digestBooks_40 : decode cX11_digestBooks 40 = .ok (.istore 6, 2) := by decide +kernel
theorem dX11_digestBooks_42 : decode cX11_digestBooks 42 = .ok (.iload 6, 2) := by decide +kernel
theorem dX11_digestBooks_44 : decode cX11_digestBooks 44 = .ok (.bipush 7, 2) := by decide +kernel
theorem dX11_digestBooks_46 : decode cX11_digestBooks 46 = .ok (.if_icmp .ge 29, 3) := by decide +kernel
theorem dX11_digestBooks_49 : decode cX11_digestBooks 49 = .ok (.ldc2_w 294, 3) := by decide +kernel
theorem dX11_digestBooks_52 : decode cX11_digestBooks 52 = .ok (.lload_n 3, 1) := by decide +kernel
theorem dX11_digestBooks_53 : decode cX11_digestBooks 53 = .ok (.lmul, 1) := by decide +kernel
theorem dX11_digestBooks_54 : decode cX11_digestBooks 54 = .ok (.aload_n 0, 1) := by decide +kernel
theorem dX11_digestBooks_55 : decode cX11_digestBooks 55 = .ok (.getfield 11, 3) := by decide +kernel
theorem dX11_digestBooks_58 : decode cX11_digestBooks 58 = .ok (.iload 5, 2) := by decide +kernel
theorem dX11_digestBooks_60 : decode cX11_digestBooks 60 = .ok (.aaload, 1) := by decide +kernel
theorem dX11_digestBooks_61 : decode cX11_digestBooks 61 = .ok (.iload 6, 2) := by decide +kernel
theorem dX11_digestBooks_63 : decode cX11_digestBooks 63 = .ok (.invokevirtual 342, 3) := by decide +kernel
theorem dX11_digestBooks_66 : decode cX11_digestBooks 66 = .ok (.i2l, 1) := by decide +kernel
theorem dX11_digestBooks_67 : decode cX11_digestBooks 67 = .ok (.ladd, 1) := by decide +kernel
theorem dX11_digestBooks_68 : decode cX11_digestBooks 68 = .ok (.lstore_n 3, 1) := by decide +kernel
theorem dX11_digestBooks_69 : decode cX11_digestBooks 69 = .ok (.iinc 6 1, 3) := by decide +kernel
theorem dX11_digestBooks_72 : decode cX11_digestBooks 72 = .ok (.goto (-30), 3) := by decide +kernel
theorem dX11_digestBooks_75 : decode cX11_digestBooks 75 = .ok (.iinc 5 1, 3) := by decide +kernel
theorem dX11_digestBooks_78 : decode cX11_digestBooks 78 = .ok (.goto (-73), 3) := by decide +kernel
theorem dX11_digestBooks_81 : decode cX11_digestBooks 81 = .ok (.lload_n 3, 1) := by decide +kernel
theorem dX11_digestBooks_82 : decode cX11_digestBooks 82 = .ok (.lreturn, 1) := by decide +kernel
theorem dX11_digestRules_0 : decode cX11_digestRules 0 = .ok (.lload_n 1, 1) := by decide +kernel
theorem dX11_digestRules_1 : decode cX11_digestRules 1 = .ok (.lstore_n 3, 1) := by decide +kernel
theorem dX11_digestRules_2 : decode cX11_digestRules 2 = .ok (.iconst 0, 1) := by decide +kernel
theorem dX11_digestRules_3 : decode cX11_digestRules 3 = .ok (.istore 5, 2) := by decide +kernel
theorem dX11_digestRules_5 : decode cX11_digestRules 5 = .ok (.iload 5, 2) := by decide +kernel
theorem dX11_digestRules_7 : decode cX11_digestRules 7 = .ok (.aload_n 0, 1) := by decide +kernel
theorem dX11_digestRules_8 : decode cX11_digestRules 8 = .ok (.getfield 130, 3) := by decide +kernel
theorem dX11_digestRules_11 : decode cX11_digestRules 11 = .ok (.if_icmp .ge 75, 3) := by decide +kernel
theorem dX11_digestRules_14 : decode cX11_digestRules 14 = .ok (.iload 5, 2) := by decide +kernel
theorem dX11_digestRules_16 : decode cX11_digestRules 16 = .ok (.aload_n 0, 1) := by decide +kernel
theorem dX11_digestRules_17 : decode cX11_digestRules 17 = .ok (.getfield 26, 3) := by decide +kernel
theorem dX11_digestRules_20 : decode cX11_digestRules 20 = .ok (.arraylength, 1) := by decide +kernel
theorem dX11_digestRules_21 : decode cX11_digestRules 21 = .ok (.if_icmp .ge 65, 3) := by decide +kernel
theorem dX11_digestRules_24 : decode cX11_digestRules 24 = .ok (.aload_n 0, 1) := by decide +kernel
theorem dX11_digestRules_25 : decode cX11_digestRules 25 = .ok (.getfield 26, 3) := by decide +kernel
theorem dX11_digestRules_28 : decode cX11_digestRules 28 = .ok (.iload 5, 2) := by decide +kernel
theorem dX11_digestRules_30 : decode cX11_digestRules 30 = .ok (.aaload, 1) := by decide +kernel
theorem dX11_digestRules_31 : decode cX11_digestRules 31 = .ok (.ifnonnull 14, 3) := by decide +kernel
theorem dX11_digestRules_34 : decode cX11_digestRules 34 = .ok (.ldc2_w 294, 3) := by decide +kernel
theorem dX11_digestRules_37 : decode cX11_digestRules 37 = .ok (.lload_n 3, 1) := by decide +kernel
theorem dX11_digestRules_38 : decode cX11_digestRules 38 = .ok (.lmul, 1) := by decide +kernel
theorem dX11_digestRules_39 : decode cX11_digestRules 39 = .ok (.lconst 1, 1) := by decide +kernel
theorem dX11_digestRules_40 : decode cX11_digestRules 40 = .ok (.lsub, 1) := by decide +kernel
theorem dX11_digestRules_41 : decode cX11_digestRules 41 = .ok (.lstore_n 3, 1) := by decide +kernel
theorem dX11_digestRules_42 : decode cX11_digestRules 42 = .ok (.goto 38, 3) := by decide +kernel
theorem dX11_digestRules_45 : decode cX11_digestRules 45 = .ok (.iconst 0, 1) := by decide +kernel
theorem dX11_digestRules_46 : decode cX11_digestRules 46 = .ok (.istore 6, 2) := by decide +kernel
theorem dX11_digestRules_48 : decode cX11_digestRules 48 = .ok (.iload 6, 2) := by decide +kernel
theorem dX11_digestRules_50 : decode cX11_digestRules 50 = .ok (.iconst 4, 1) := by decide +kernel
theorem dX11_digestRules_51 : decode cX11_digestRules 51 = .ok (.if_icmp .gt 29, 3) := by decide +kernel
theorem dX11_digestRules_54 : decode cX11_digestRules 54 = .ok (.ldc2_w 294, 3) := by decide +kernel
theorem dX11_digestRules_57 : decode cX11_digestRules 57 = .ok (.lload_n 3, 1) := by decide +kernel
theorem dX11_digestRules_58 : decode cX11_digestRules 58 = .ok (.lmul, 1) := by decide +kernel
theorem dX11_digestRules_59 : decode cX11_digestRules 59 = .ok (.aload_n 0, 1) := by decide +kernel
theorem dX11_digestRules_60 : decode cX11_digestRules 60 = .ok (.getfield 26, 3) := by decide +kernel
theorem dX11_digestRules_63 : decode cX11_digestRules 63 = .ok (.iload 5, 2) := by decide +kernel
theorem dX11_digestRules_65 : decode cX11_digestRules 65 = .ok (.aaload, 1) := by decide +kernel
theorem dX11_digestRules_66 : decode cX11_digestRules 66 = .ok (.iload 6, 2) := by decide +kernel
theorem dX11_digestRules_68 : decode cX11_digestRules 68 = .ok (.invokestatic 162, 3) := by decide +kernel
theorem dX11_digestRules_71 : decode cX11_digestRules 71 = .ok (.i2l, 1) := by decide +kernel
theorem dX11_digestRules_72 : decode cX11_digestRules 72 = .ok (.ladd, 1) := by decide +kernel
theorem dX11_digestRules_73 : decode cX11_digestRules 73 = .ok (.lstore_n 3, 1) := by decide +kernel
theorem dX11_digestRules_74 : decode cX11_digestRules 74 = .ok (.iinc 6 1, 3) := by decide +kernel
theorem dX11_digestRules_77 : decode cX11_digestRules 77 = .ok (.goto (-29), 3) := by decide +kernel
theorem dX11_digestRules_80 : decode cX11_digestRules 80 = .ok (.iinc 5 1, 3) := by decide +kernel
theorem dX11_digestRules_83 : decode cX11_digestRules 83 = .ok (.goto (-78), 3) := by decide +kernel
theorem dX11_digestRules_86 : decode cX11_digestRules 86 = .ok (.lload_n 3, 1) := by decide +kernel
theorem dX11_digestRules_87 : decode cX11_digestRules 87 = .ok (.lreturn, 1) := by decide +kernel
theorem dX11_digestSheets_0 : decode cX11_digestSheets 0 = .ok (.lload_n 1, 1) := by decide +kernel
theorem dX11_digestSheets_1 : decode cX11_digestSheets 1 = .ok (.lstore_n 3, 1) := by decide +kernel
theorem dX11_digestSheets_2 : decode cX11_digestSheets 2 = .ok (.iconst 0, 1) := by decide +kernel
theorem dX11_digestSheets_3 : decode cX11_digestSheets 3 = .ok (.istore 5, 2) := by decide +kernel
theorem dX11_digestSheets_5 : decode cX11_digestSheets 5 = .ok (.iload 5, 2) := by decide +kernel
theorem dX11_digestSheets_7 : decode cX11_digestSheets 7 = .ok (.iconst 4, 1) := by decide +kernel
theorem dX11_digestSheets_8 : decode cX11_digestSheets 8 = .ok (.if_icmp .ge 70, 3) := by decide +kernel
theorem dX11_digestSheets_11 : decode cX11_digestSheets 11 = .ok (.ldc2_w 294, 3) := by decide +kernel
theorem dX11_digestSheets_14 : decode cX11_digestSheets 14 = .ok (.lload_n 3, 1) := by decide +kernel
theorem dX11_digestSheets_15 : decode cX11_digestSheets 15 = .ok (.lmul, 1) := by decide +kernel
theorem dX11_digestSheets_16 : decode cX11_digestSheets 16 = .ok (.aload_n 0, 1) := by decide +kernel
theorem dX11_digestSheets_17 : decode cX11_digestSheets 17 = .ok (.getfield 20, 3) := by decide +kernel
theorem dX11_digestSheets_20 : decode cX11_digestSheets 20 = .ok (.iload 5, 2) := by decide +kernel
theorem dX11_digestSheets_22 : decode cX11_digestSheets 22 = .ok (.iaload, 1) := by decide +kernel
theorem dX11_digestSheets_23 : decode cX11_digestSheets 23 = .ok (.i2l, 1) := by decide +kernel
theorem dX11_digestSheets_24 : decode cX11_digestSheets 24 = .ok (.ladd, 1) := by decide +kernel
theorem dX11_digestSheets_25 : decode cX11_digestSheets 25 = .ok (.lstore_n 3, 1) := by decide +kernel
theorem dX11_digestSheets_26 : decode cX11_digestSheets 26 = .ok (.iconst 0, 1) := by decide +kernel
theorem dX11_digestSheets_27 : decode cX11_digestSheets 27 = .ok (.istore 6, 2) := by decide +kernel
theorem dX11_digestSheets_29 : decode cX11_digestSheets 29 = .ok (.iload 6, 2) := by decide +kernel
theorem dX11_digestSheets_31 : decode cX11_digestSheets 31 = .ok (.aload_n 0, 1) := by decide +kernel
theorem dX11_digestSheets_32 : decode cX11_digestSheets 32 = .ok (.getfield 20, 3) := by decide +kernel
theorem dX11_digestSheets_35 : decode cX11_digestSheets 35 = .ok (.iload 5, 2) := by decide +kernel
theorem dX11_digestSheets_37 : decode cX11_digestSheets 37 = .ok (.iaload, 1) := by decide +kernel
theorem dX11_digestSheets_38 : decode cX11_digestSheets 38 = .ok (.if_icmp .ge 34, 3) := by decide +kernel
theorem dX11_digestSheets_41 : decode cX11_digestSheets 41 = .ok (.iload 6, 2) := by decide +kernel
theorem dX11_digestSheets_43 : decode cX11_digestSheets 43 = .ok (.bipush 25, 2) := by decide +kernel
theorem dX11_digestSheets_45 : decode cX11_digestSheets 45 = .ok (.if_icmp .ge 27, 3) := by decide +kernel
theorem dX11_digestSheets_48 : decode cX11_digestSheets 48 = .ok (.ldc2_w 294, 3) := by decide +kernel
theorem dX11_digestSheets_51 : decode cX11_digestSheets 51 = .ok (.lload_n 3, 1) := by decide +kernel
theorem dX11_digestSheets_52 : decode cX11_digestSheets 52 = .ok (.lmul, 1) := by decide +kernel
theorem dX11_digestSheets_53 : decode cX11_digestSheets 53 = .ok (.aload_n 0, 1) := by decide +kernel
theorem dX11_digestSheets_54 : decode cX11_digestSheets 54 = .ok (.getfield 17, 3) := by decide +kernel
theorem dX11_digestSheets_57 : decode cX11_digestSheets 57 = .ok (.iload 5, 2) := by decide +kernel
theorem dX11_digestSheets_59 : decode cX11_digestSheets 59 = .ok (.aaload, 1) := by decide +kernel
theorem dX11_digestSheets_60 : decode cX11_digestSheets 60 = .ok (.iload 6, 2) := by decide +kernel
theorem dX11_digestSheets_62 : decode cX11_digestSheets 62 = .ok (.baload, 1) := by decide +kernel
theorem dX11_digestSheets_63 : decode cX11_digestSheets 63 = .ok (.i2l, 1) := by decide +kernel
theorem dX11_digestSheets_64 : decode cX11_digestSheets 64 = .ok (.ladd, 1) := by decide +kernel
theorem dX11_digestSheets_65 : decode cX11_digestSheets 65 = .ok (.lstore_n 3, 1) := by decide +kernel
theorem dX11_digestSheets_66 : decode cX11_digestSheets 66 = .ok (.iinc 6 1, 3) := by decide +kernel
theorem dX11_digestSheets_69 : decode cX11_digestSheets 69 = .ok (.goto (-40), 3) := by decide +kernel
theorem dX11_digestSheets_72 : decode cX11_digestSheets 72 = .ok (.iinc 5 1, 3) := by decide +kernel
theorem dX11_digestSheets_75 : decode cX11_digestSheets 75 = .ok (.goto (-70), 3) := by decide +kernel
theorem dX11_digestSheets_78 : decode cX11_digestSheets 78 = .ok (.lload_n 3, 1) := by decide +kernel
theorem dX11_digestSheets_79 : decode cX11_digestSheets 79 = .ok (.lreturn, 1) := by decide +kernel

theorem dX5_shadowedBy_124 : decode cX5_shadowedBy 124 = .ok (.iconst 4, 1) := by decide +kernel
theorem dX5_shadowedBy_125 : decode cX5_shadowedBy 125 = .ok (.iload 5, 2) := by decide +kernel
theorem dX5_shadowedBy_127 : decode cX5_shadowedBy 127 = .ok (.imul, 1) := by decide +kernel
theorem dX5_shadowedBy_128 : decode cX5_shadowedBy 128 = .ok (.iload 7, 2) := by decide +kernel
theorem dX5_shadowedBy_130 : decode cX5_shadowedBy 130 = .ok (.iadd, 1) := by decide +kernel
theorem dX5_shadowedBy_131 : decode cX5_shadowedBy 131 = .ok (.iaload, 1) := by decide +kernel
theorem dX5_shadowedBy_132 : decode cX5_shadowedBy 132 = .ok (.aload_n 0, 1) := by decide +kernel
theorem dX5_shadowedBy_133 : decode cX5_shadowedBy 133 = .ok (.getfield 26, 3) := by decide +kernel
theorem dX5_shadowedBy_136 : decode cX5_shadowedBy 136 = .ok (.iconst 4, 1) := by decide +kernel
theorem dX5_shadowedBy_137 : decode cX5_shadowedBy 137 = .ok (.iload_n 3, 1) := by decide +kernel
theorem dX5_shadowedBy_138 : decode cX5_shadowedBy 138 = .ok (.imul, 1) := by decide +kernel
theorem dX5_shadowedBy_139 : decode cX5_shadowedBy 139 = .ok (.iload 7, 2) := by decide +kernel
theorem dX5_shadowedBy_141 : decode cX5_shadowedBy 141 = .ok (.iadd, 1) := by decide +kernel
theorem dX5_shadowedBy_142 : decode cX5_shadowedBy 142 = .ok (.iaload, 1) := by decide +kernel
theorem dX5_shadowedBy_143 : decode cX5_shadowedBy 143 = .ok (.if_icmp .ne 7, 3) := by decide +kernel
theorem dX5_shadowedBy_146 : decode cX5_shadowedBy 146 = .ok (.iconst 1, 1) := by decide +kernel
theorem dX5_shadowedBy_147 : decode cX5_shadowedBy 147 = .ok (.goto 4, 3) := by decide +kernel
theorem dX5_shadowedBy_150 : decode cX5_shadowedBy 150 = .ok (.iconst 0, 1) := by decide +kernel
theorem dX5_shadowedBy_151 : decode cX5_shadowedBy 151 = .ok (.istore 6, 2) := by decide +kernel
theorem dX5_shadowedBy_153 : decode cX5_shadowedBy 153 = .ok (.iinc 7 1, 3) := by decide +kernel
theorem dX5_shadowedBy_156 : decode cX5_shadowedBy 156 = .ok (.goto (-52), 3) := by decide +kernel
theorem dX5_shadowedBy_159 : decode cX5_shadowedBy 159 = .ok (.iload 6, 2) := by decide +kernel
theorem dX5_shadowedBy_161 : decode cX5_shadowedBy 161 = .ok (.ifCond .eq 6, 3) := by decide +kernel
theorem dX5_shadowedBy_164 : decode cX5_shadowedBy 164 = .ok (.iload 4, 2) := by decide +kernel
theorem dX5_shadowedBy_166 : decode cX5_shadowedBy 166 = .ok (.ireturn, 1) := by decide +kernel
theorem dX5_shadowedBy_167 : decode cX5_shadowedBy 167 = .ok (.iinc 4 1, 3) := by decide +kernel
theorem dX5_shadowedBy_170 : decode cX5_shadowedBy 170 = .ok (.goto (-149), 3) := by decide +kernel
theorem dX5_shadowedBy_173 : decode cX5_shadowedBy 173 = .ok (.bipush (-4), 2) := by decide +kernel
theorem dX5_shadowedBy_175 : decode cX5_shadowedBy 175 = .ok (.ireturn, 1) := by decide +kernel
theorem dX5_fits_0 : decode cX5_fits 0 = .ok (.aload_n 0, 1) := by decide +kernel
theorem dX5_fits_1 : decode cX5_fits 1 = .ok (.getfield 23, 3) := by decide +kernel
theorem dX5_fits_4 : decode cX5_fits 4 = .ok (.iload_n 1, 1) := by decide +kernel
theorem dX5_fits_5 : decode cX5_fits 5 = .ok (.iaload, 1) := by decide +kernel
theorem dX5_fits_6 : decode cX5_fits 6 = .ok (.iload_n 2, 1) := by decide +kernel
theorem dX5_fits_7 : decode cX5_fits 7 = .ok (.if_icmp .lt 36, 3) := by decide +kernel
theorem dX5_fits_10 : decode cX5_fits 10 = .ok (.aload_n 0, 1) := by decide +kernel
theorem dX5_fits_11 : decode cX5_fits 11 = .ok (.getfield 29, 3) := by decide +kernel
theorem dX5_fits_14 : decode cX5_fits 14 = .ok (.iload_n 1, 1) := by decide +kernel
theorem dX5_fits_15 : decode cX5_fits 15 = .ok (.iaload, 1) := by decide +kernel
theorem dX5_fits_16 : decode cX5_fits 16 = .ok (.ifCond .lt 23, 3) := by decide +kernel
theorem dX5_fits_19 : decode cX5_fits 19 = .ok (.aload_n 0, 1) := by decide +kernel
theorem dX5_fits_20 : decode cX5_fits 20 = .ok (.getfield 7, 3) := by decide +kernel
theorem dX5_fits_23 : decode cX5_fits 23 = .ok (.aload_n 0, 1) := by decide +kernel
theorem dX5_fits_24 : decode cX5_fits 24 = .ok (.getfield 29, 3) := by decide +kernel
theorem dX5_fits_27 : decode cX5_fits 27 = .ok (.iload_n 1, 1) := by decide +kernel
theorem dX5_fits_28 : decode cX5_fits 28 = .ok (.iaload, 1) := by decide +kernel
theorem dX5_fits_29 : decode cX5_fits 29 = .ok (.iaload, 1) := by decide +kernel
theorem dX5_fits_30 : decode cX5_fits 30 = .ok (.aload_n 0, 1) := by decide +kernel
theorem dX5_fits_31 : decode cX5_fits 31 = .ok (.getfield 32, 3) := by decide +kernel
theorem dX5_fits_34 : decode cX5_fits 34 = .ok (.iload_n 1, 1) := by decide +kernel
theorem dX5_fits_35 : decode cX5_fits 35 = .ok (.iaload, 1) := by decide +kernel
theorem dX5_fits_36 : decode cX5_fits 36 = .ok (.if_icmp .ne 7, 3) := by decide +kernel
theorem dX5_fits_39 : decode cX5_fits 39 = .ok (.iconst 1, 1) := by decide +kernel
theorem dX5_fits_40 : decode cX5_fits 40 = .ok (.goto 4, 3) := by decide +kernel
theorem dX5_fits_43 : decode cX5_fits 43 = .ok (.iconst 0, 1) := by decide +kernel
theorem dX5_fits_44 : decode cX5_fits 44 = .ok (.istore_n 3, 1) := by decide +kernel
theorem dX5_fits_45 : decode cX5_fits 45 = .ok (.iconst 0, 1) := by decide +kernel
theorem dX5_fits_46 : decode cX5_fits 46 = .ok (.istore 4, 2) := by decide +kernel
theorem dX5_fits_48 : decode cX5_fits 48 = .ok (.iload 4, 2) := by decide +kernel
theorem dX5_fits_50 : decode cX5_fits 50 = .ok (.iload_n 2, 1) := by decide +kernel
theorem dX5_fits_51 : decode cX5_fits 51 = .ok (.if_icmp .ge 40, 3) := by decide +kernel
theorem dX5_fits_54 : decode cX5_fits 54 = .ok (.iload_n 3, 1) := by decide +kernel
theorem dX5_fits_55 : decode cX5_fits 55 = .ok (.ifCond .eq 36, 3) := by decide +kernel
theorem dX5_fits_58 : decode cX5_fits 58 = .ok (.aload_n 0, 1) := by decide +kernel
theorem dX5_fits_59 : decode cX5_fits 59 = .ok (.getfield 26, 3) := by decide +kernel
theorem dX5_fits_62 : decode cX5_fits 62 = .ok (.iconst 4, 1) := by decide +kernel
theorem dX5_fits_63 : decode cX5_fits 63 = .ok (.iload_n 1, 1) := by decide +kernel
theorem dX5_fits_64 : decode cX5_fits 64 = .ok (.imul, 1) := by decide +kernel
theorem dX5_fits_65 : decode cX5_fits 65 = .ok (.iload 4, 2) := by decide +kernel
theorem dX5_fits_67 : decode cX5_fits 67 = .ok (.iadd, 1) := by decide +kernel
theorem dX5_fits_68 : decode cX5_fits 68 = .ok (.iaload, 1) := by decide +kernel
theorem dX5_fits_69 : decode cX5_fits 69 = .ok (.aload_n 0, 1) := by decide +kernel
theorem dX5_fits_70 : decode cX5_fits 70 = .ok (.getfield 44, 3) := by decide +kernel
theorem dX5_fits_73 : decode cX5_fits 73 = .ok (.iload 4, 2) := by decide +kernel
theorem dX5_fits_75 : decode cX5_fits 75 = .ok (.iaload, 1) := by decide +kernel
theorem dX5_fits_76 : decode cX5_fits 76 = .ok (.if_icmp .ne 7, 3) := by decide +kernel
theorem dX5_fits_79 : decode cX5_fits 79 = .ok (.iconst 1, 1) := by decide +kernel
theorem dX5_fits_80 : decode cX5_fits 80 = .ok (.goto 4, 3) := by decide +kernel
theorem dX5_fits_83 : decode cX5_fits 83 = .ok (.iconst 0, 1) := by decide +kernel
theorem dX5_fits_84 : decode cX5_fits 84 = .ok (.istore_n 3, 1) := by decide +kernel
theorem dX5_fits_85 : decode cX5_fits 85 = .ok (.iinc 4 1, 3) := by decide +kernel
theorem dX5_fits_88 : decode cX5_fits 88 = .ok (.goto (-40), 3) := by decide +kernel
theorem dX5_fits_91 : decode cX5_fits 91 = .ok (.iload_n 3, 1) := by decide +kernel
theorem dX5_fits_92 : decode cX5_fits 92 = .ok (.ireturn, 1) := by decide +kernel
theorem dX5_bound_0 : decode cX5_bound 0 = .ok (.aload_n 0, 1) := by decide +kernel
theorem dX5_bound_1 : decode cX5_bound 1 = .ok (.getfield 13, 3) := by decide +kernel
theorem dX5_bound_4 : decode cX5_bound 4 = .ok (.iconst 1, 1) := by decide +kernel
theorem dX5_bound_5 : decode cX5_bound 5 = .ok (.isub, 1) := by decide +kernel
theorem dX5_bound_6 : decode cX5_bound 6 = .ok (.istore_n 2, 1) := by decide +kernel
theorem dX5_bound_7 : decode cX5_bound 7 = .ok (.iload_n 2, 1) := by decide +kernel
theorem dX5_bound_8 : decode cX5_bound 8 = .ok (.ifCond .lt 69, 3) := by decide +kernel
theorem dX5_bound_11 : decode cX5_bound 11 = .ok (.iconst 0, 1) := by decide +kernel
theorem dX5_bound_12 : decode cX5_bound 12 = .ok (.istore_n 3, 1) := by decide +kernel
theorem dX5_bound_13 : decode cX5_bound 13 = .ok (.iload_n 3, 1) := by decide +kernel
theorem dX5_bound_14 : decode cX5_bound 14 = .ok (.aload_n 0, 1) := by decide +kernel
theorem dX5_bound_15 : decode cX5_bound 15 = .ok (.getfield 20, 3) := by decide +kernel
theorem dX5_bound_18 : decode cX5_bound 18 = .ok (.aload_n 0, 1) := by decide +kernel
theorem dX5_bound_19 : decode cX5_bound 19 = .ok (.getfield 17, 3) := by decide +kernel
theorem dX5_bound_22 : decode cX5_bound 22 = .ok (.iload_n 2, 1) := by decide +kernel
theorem dX5_bound_23 : decode cX5_bound 23 = .ok (.iaload, 1) := by decide +kernel
theorem dX5_bound_24 : decode cX5_bound 24 = .ok (.iaload, 1) := by decide +kernel
theorem dX5_bound_25 : decode cX5_bound 25 = .ok (.if_icmp .ge 46, 3) := by decide +kernel
theorem dX5_bound_28 : decode cX5_bound 28 = .ok (.bipush 10, 2) := by decide +kernel
theorem dX5_bound_30 : decode cX5_bound 30 = .ok (.aload_n 0, 1) := by decide +kernel
theorem dX5_bound_31 : decode cX5_bound 31 = .ok (.getfield 17, 3) := by decide +kernel
theorem dX5_bound_34 : decode cX5_bound 34 = .ok (.iload_n 2, 1) := by decide +kernel
theorem dX5_bound_35 : decode cX5_bound 35 = .ok (.iaload, 1) := by decide +kernel
theorem dX5_bound_36 : decode cX5_bound 36 = .ok (.imul, 1) := by decide +kernel
theorem dX5_bound_37 : decode cX5_bound 37 = .ok (.iload_n 3, 1) := by decide +kernel
theorem dX5_bound_38 : decode cX5_bound 38 = .ok (.iadd, 1) := by decide +kernel
theorem dX5_bound_39 : decode cX5_bound 39 = .ok (.istore 4, 2) := by decide +kernel
theorem dX5_bound_41 : decode cX5_bound 41 = .ok (.aload_n 0, 1) := by decide +kernel
theorem dX5_bound_42 : decode cX5_bound 42 = .ok (.getfield 23, 3) := by decide +kernel
theorem dX5_bound_45 : decode cX5_bound 45 = .ok (.iload 4, 2) := by decide +kernel
theorem dX5_bound_47 : decode cX5_bound 47 = .ok (.iaload, 1) := by decide +kernel
theorem dX5_bound_48 : decode cX5_bound 48 = .ok (.iload_n 1, 1) := by decide +kernel
theorem dX5_bound_49 : decode cX5_bound 49 = .ok (.if_icmp .ne 16, 3) := by decide +kernel
theorem dX5_bound_52 : decode cX5_bound 52 = .ok (.aload_n 0, 1) := by decide +kernel
theorem dX5_bound_53 : decode cX5_bound 53 = .ok (.iload 4, 2) := by decide +kernel
theorem dX5_bound_55 : decode cX5_bound 55 = .ok (.iload_n 1, 1) := by decide +kernel
theorem dX5_bound_56 : decode cX5_bound 56 = .ok (.invokevirtual 83, 3) := by decide +kernel
theorem dX5_bound_59 : decode cX5_bound 59 = .ok (.ifCond .eq 6, 3) := by decide +kernel
theorem dX5_bound_62 : decode cX5_bound 62 = .ok (.iload 4, 2) := by decide +kernel
theorem dX5_bound_64 : decode cX5_bound 64 = .ok (.ireturn, 1) := by decide +kernel
theorem dX5_bound_65 : decode cX5_bound 65 = .ok (.iinc 3 1, 3) := by decide +kernel
theorem dX5_bound_68 : decode cX5_bound 68 = .ok (.goto (-55), 3) := by decide +kernel
theorem dX5_bound_71 : decode cX5_bound 71 = .ok (.iinc 2 (-1), 3) := by decide +kernel
theorem dX5_bound_74 : decode cX5_bound 74 = .ok (.goto (-67), 3) := by decide +kernel
theorem dX5_bound_77 : decode cX5_bound 77 = .ok (.bipush (-4), 2) := by decide +kernel
theorem dX5_bound_79 : decode cX5_bound 79 = .ok (.ireturn, 1) := by decide +kernel
theorem dX5_isExtensible_0 : decode cX5_isExtensible 0 = .ok (.iconst 0, 1) := by decide +kernel
theorem dX5_isExtensible_1 : decode cX5_isExtensible 1 = .ok (.istore_n 1, 1) := by decide +kernel
theorem dX5_isExtensible_2 : decode cX5_isExtensible 2 = .ok (.iload_n 1, 1) := by decide +kernel
theorem dX5_isExtensible_3 : decode cX5_isExtensible 3 = .ok (.aload_n 0, 1) := by decide +kernel
theorem dX5_isExtensible_4 : decode cX5_isExtensible 4 = .ok (.getfield 13, 3) := by decide +kernel
theorem dX5_isExtensible_7 : decode cX5_isExtensible 7 = .ok (.if_icmp .ge 71, 3) := by decide +kernel
theorem dX5_isExtensible_10 : decode cX5_isExtensible 10 = .ok (.iconst 0, 1) := by decide +kernel
theorem dX5_isExtensible_11 : decode cX5_isExtensible 11 = .ok (.istore_n 2, 1) := by decide +kernel
theorem dX5_isExtensible_12 : decode cX5_isExtensible 12 = .ok (.iload_n 2, 1) := by decide +kernel
theorem dX5_isExtensible_13 : decode cX5_isExtensible 13 = .ok (.aload_n 0, 1) := by decide +kernel
theorem dX5_isExtensible_14 : decode cX5_isExtensible 14 = .ok (.getfield 20, 3) := by decide +kernel
theorem dX5_isExtensible_17 : decode cX5_isExtensible 17 = .ok (.aload_n 0, 1) := by decide +kernel
theorem dX5_isExtensible_18 : decode cX5_isExtensible 18 = .ok (.getfield 17, 3) := by decide +kernel
theorem dX5_isExtensible_21 : decode cX5_isExtensible 21 = .ok (.iload_n 1, 1) := by decide +kernel
theorem dX5_isExtensible_22 : decode cX5_isExtensible 22 = .ok (.iaload, 1) := by decide +kernel
theorem dX5_isExtensible_23 : decode cX5_isExtensible 23 = .ok (.iaload, 1) := by decide +kernel
theorem dX5_isExtensible_24 : decode cX5_isExtensible 24 = .ok (.if_icmp .ge 48, 3) := by decide +kernel
theorem dX5_isExtensible_27 : decode cX5_isExtensible 27 = .ok (.bipush 10, 2) := by decide +kernel
theorem dX5_isExtensible_29 : decode cX5_isExtensible 29 = .ok (.aload_n 0, 1) := by decide +kernel
theorem dX5_isExtensible_30 : decode cX5_isExtensible 30 = .ok (.getfield 17, 3) := by decide +kernel
theorem dX5_isExtensible_33 : decode cX5_isExtensible 33 = .ok (.iload_n 1, 1) := by decide +kernel
theorem dX5_isExtensible_34 : decode cX5_isExtensible 34 = .ok (.iaload, 1) := by decide +kernel
theorem dX5_isExtensible_35 : decode cX5_isExtensible 35 = .ok (.imul, 1) := by decide +kernel
theorem dX5_isExtensible_36 : decode cX5_isExtensible 36 = .ok (.iload_n 2, 1) := by decide +kernel
theorem dX5_isExtensible_37 : decode cX5_isExtensible 37 = .ok (.iadd, 1) := by decide +kernel
theorem dX5_isExtensible_38 : decode cX5_isExtensible 38 = .ok (.istore_n 3, 1) := by decide +kernel
theorem dX5_isExtensible_39 : decode cX5_isExtensible 39 = .ok (.aload_n 0, 1) := by decide +kernel
theorem dX5_isExtensible_40 : decode cX5_isExtensible 40 = .ok (.getfield 23, 3) := by decide +kernel
theorem dX5_isExtensible_43 : decode cX5_isExtensible 43 = .ok (.iload_n 3, 1) := by decide +kernel
theorem dX5_isExtensible_44 : decode cX5_isExtensible 44 = .ok (.iaload, 1) := by decide +kernel
theorem dX5_isExtensible_45 : decode cX5_isExtensible 45 = .ok (.aload_n 0, 1) := by decide +kernel
theorem dX5_isExtensible_46 : decode cX5_isExtensible 46 = .ok (.getfield 86, 3) := by decide +kernel
theorem dX5_isExtensible_49 : decode cX5_isExtensible 49 = .ok (.if_icmp .le 17, 3) := by decide +kernel
theorem dX5_isExtensible_52 : decode cX5_isExtensible 52 = .ok (.aload_n 0, 1) := by decide +kernel
theorem dX5_isExtensible_53 : decode cX5_isExtensible 53 = .ok (.iload_n 3, 1) := by decide +kernel
theorem dX5_isExtensible_54 : decode cX5_isExtensible 54 = .ok (.aload_n 0, 1) := by decide +kernel
theorem dX5_isExtensible_55 : decode cX5_isExtensible 55 = .ok (.getfield 86, 3) := by decide +kernel
theorem dX5_isExtensible_58 : decode cX5_isExtensible 58 = .ok (.invokevirtual 83, 3) := by decide +kernel
theorem dX5_isExtensible_61 : decode cX5_isExtensible 61 = .ok (.ifCond .eq 5, 3) := by decide +kernel
theorem dX5_isExtensible_64 : decode cX5_isExtensible 64 = .ok (.iconst 1, 1) := by decide +kernel
theorem dX5_isExtensible_65 : decode cX5_isExtensible 65 = .ok (.ireturn, 1) := by decide +kernel
theorem dX5_isExtensible_66 : decode cX5_isExtensible 66 = .ok (.iinc 2 1, 3) := by decide +kernel
theorem dX5_isExtensible_69 : decode cX5_isExtensible 69 = .ok (.goto (-57), 3) := by decide +kernel
theorem dX5_isExtensible_72 : decode cX5_isExtensible 72 = .ok (.iinc 1 1, 3) := by decide +kernel
theorem dX5_isExtensible_75 : decode cX5_isExtensible 75 = .ok (.goto (-73), 3) := by decide +kernel
theorem dX5_isExtensible_78 : decode cX5_isExtensible 78 = .ok (.iconst 0, 1) := by decide +kernel
theorem dX5_isExtensible_79 : decode cX5_isExtensible 79 = .ok (.ireturn, 1) := by decide +kernel
theorem dX5_says_0 : decode cX5_says 0 = .ok (.aload_n 0, 1) := by decide +kernel
theorem dX5_says_1 : decode cX5_says 1 = .ok (.getfield 62, 3) := by decide +kernel
theorem dX5_says_4 : decode cX5_says 4 = .ok (.aload_n 0, 1) := by decide +kernel
theorem dX5_says_5 : decode cX5_says 5 = .ok (.getfield 89, 3) := by decide +kernel
theorem dX5_says_8 : decode cX5_says 8 = .ok (.bipush 40, 2) := by decide +kernel
theorem dX5_says_10 : decode cX5_says 10 = .ok (.irem, 1) := by decide +kernel
theorem dX5_says_11 : decode cX5_says 11 = .ok (.iload_n 1, 1) := by decide +kernel
theorem dX5_says_12 : decode cX5_says 12 = .ok (.iastore, 1) := by decide +kernel
theorem dX5_says_13 : decode cX5_says 13 = .ok (.aload_n 0, 1) := by decide +kernel
theorem dX5_says_14 : decode cX5_says 14 = .ok (.getfield 65, 3) := by decide +kernel
theorem dX5_says_17 : decode cX5_says 17 = .ok (.aload_n 0, 1) := by decide +kernel
theorem dX5_says_18 : decode cX5_says 18 = .ok (.getfield 89, 3) := by decide +kernel
theorem dX5_says_21 : decode cX5_says 21 = .ok (.bipush 40, 2) := by decide +kernel
theorem dX5_says_23 : decode cX5_says 23 = .ok (.irem, 1) := by decide +kernel
theorem dX5_says_24 : decode cX5_says 24 = .ok (.iload_n 2, 1) := by decide +kernel
theorem dX5_says_25 : decode cX5_says 25 = .ok (.iastore, 1) := by decide +kernel
theorem dX5_says_26 : decode cX5_says 26 = .ok (.aload_n 0, 1) := by decide +kernel
theorem dX5_says_27 : decode cX5_says 27 = .ok (.dup, 1) := by decide +kernel
theorem dX5_says_28 : decode cX5_says 28 = .ok (.getfield 89, 3) := by decide +kernel
theorem dX5_says_31 : decode cX5_says 31 = .ok (.iconst 1, 1) := by decide +kernel
theorem dX5_says_32 : decode cX5_says 32 = .ok (.iadd, 1) := by decide +kernel
theorem dX5_says_33 : decode cX5_says 33 = .ok (.putfield 89, 3) := by decide +kernel
theorem dX5_says_36 : decode cX5_says 36 = .ok (.return_, 1) := by decide +kernel
theorem dX5_adds_0 : decode cX5_adds 0 = .ok (.aload_n 0, 1) := by decide +kernel
theorem dX5_adds_1 : decode cX5_adds 1 = .ok (.getfield 50, 3) := by decide +kernel
theorem dX5_adds_4 : decode cX5_adds 4 = .ok (.aload_n 0, 1) := by decide +kernel
theorem dX5_adds_5 : decode cX5_adds 5 = .ok (.getfield 92, 3) := by decide +kernel
theorem dX5_adds_8 : decode cX5_adds 8 = .ok (.iload_n 1, 1) := by decide +kernel
theorem dX5_adds_9 : decode cX5_adds 9 = .ok (.iastore, 1) := by decide +kernel
theorem dX5_adds_10 : decode cX5_adds 10 = .ok (.aload_n 0, 1) := by decide +kernel
theorem dX5_adds_11 : decode cX5_adds 11 = .ok (.dup, 1) := by decide +kernel
theorem dX5_adds_12 : decode cX5_adds 12 = .ok (.getfield 92, 3) := by decide +kernel
theorem dX5_adds_15 : decode cX5_adds 15 = .ok (.iconst 1, 1) := by decide +kernel
theorem dX5_adds_16 : decode cX5_adds 16 = .ok (.iadd, 1) := by decide +kernel
theorem dX5_adds_17 : decode cX5_adds 17 = .ok (.putfield 92, 3) := by decide +kernel
theorem dX5_adds_20 : decode cX5_adds 20 = .ok (.return_, 1) := by decide +kernel
theorem dX5_plays_0 : decode cX5_plays 0 = .ok (.aload_n 0, 1) := by decide +kernel
theorem dX5_plays_1 : decode cX5_plays 1 = .ok (.getfield 53, 3) := by decide +kernel
theorem dX5_plays_4 : decode cX5_plays 4 = .ok (.iload_n 1, 1) := by decide +kernel
theorem dX5_plays_5 : decode cX5_plays 5 = .ok (.if_icmp .eq 20, 3) := by decide +kernel
theorem dX5_plays_8 : decode cX5_plays 8 = .ok (.aload_n 0, 1) := by decide +kernel
theorem dX5_plays_9 : decode cX5_plays 9 = .ok (.getfield 95, 3) := by decide +kernel
theorem dX5_plays_12 : decode cX5_plays 12 = .ok (.iconst 3, 1) := by decide +kernel
theorem dX5_plays_13 : decode cX5_plays 13 = .ok (.if_icmp .eq 12, 3) := by decide +kernel
theorem dX5_plays_16 : decode cX5_plays 16 = .ok (.aload_n 0, 1) := by decide +kernel
theorem dX5_plays_17 : decode cX5_plays 17 = .ok (.getfield 98, 3) := by decide +kernel
theorem dX5_plays_20 : decode cX5_plays 20 = .ok (.bipush 20, 2) := by decide +kernel
theorem dX5_plays_22 : decode cX5_plays 22 = .ok (.if_icmp .ne 10, 3) := by decide +kernel
theorem dX5_plays_25 : decode cX5_plays 25 = .ok (.aload_n 0, 1) := by decide +kernel
theorem dX5_plays_26 : decode cX5_plays 26 = .ok (.iconst 2, 1) := by decide +kernel
theorem dX5_plays_27 : decode cX5_plays 27 = .ok (.iload_n 1, 1) := by decide +kernel
theorem dX5_plays_28 : decode cX5_plays 28 = .ok (.invokevirtual 101, 3) := by decide +kernel
theorem dX5_plays_31 : decode cX5_plays 31 = .ok (.return_, 1) := by decide +kernel
theorem dX5_plays_32 : decode cX5_plays 32 = .ok (.aload_n 0, 1) := by decide +kernel
theorem dX5_plays_33 : decode cX5_plays 33 = .ok (.dup, 1) := by decide +kernel
theorem dX5_plays_34 : decode cX5_plays 34 = .ok (.getfield 95, 3) := by decide +kernel
theorem dX5_plays_37 : decode cX5_plays 37 = .ok (.iconst 1, 1) := by decide +kernel
theorem dX5_plays_38 : decode cX5_plays 38 = .ok (.iadd, 1) := by decide +kernel
theorem dX5_plays_39 : decode cX5_plays 39 = .ok (.putfield 95, 3) := by decide +kernel
theorem dX5_plays_42 : decode cX5_plays 42 = .ok (.aload_n 0, 1) := by decide +kernel
theorem dX5_plays_43 : decode cX5_plays 43 = .ok (.dup, 1) := by decide +kernel
theorem dX5_plays_44 : decode cX5_plays 44 = .ok (.getfield 98, 3) := by decide +kernel
theorem dX5_plays_47 : decode cX5_plays 47 = .ok (.iconst 1, 1) := by decide +kernel
theorem dX5_plays_48 : decode cX5_plays 48 = .ok (.iadd, 1) := by decide +kernel
theorem dX5_plays_49 : decode cX5_plays 49 = .ok (.putfield 98, 3) := by decide +kernel
theorem dX5_plays_52 : decode cX5_plays 52 = .ok (.aload_n 0, 1) := by decide +kernel
theorem dX5_plays_53 : decode cX5_plays 53 = .ok (.bipush 12, 2) := by decide +kernel
theorem dX5_plays_55 : decode cX5_plays 55 = .ok (.invokevirtual 105, 3) := by decide +kernel
theorem dX5_plays_58 : decode cX5_plays 58 = .ok (.aload_n 0, 1) := by decide +kernel
theorem dX5_plays_59 : decode cX5_plays 59 = .ok (.getfield 56, 3) := by decide +kernel
theorem dX5_plays_62 : decode cX5_plays 62 = .ok (.iload_n 1, 1) := by decide +kernel
theorem dX5_plays_63 : decode cX5_plays 63 = .ok (.iaload, 1) := by decide +kernel
theorem dX5_plays_64 : decode cX5_plays 64 = .ok (.iconst 1, 1) := by decide +kernel
theorem dX5_plays_65 : decode cX5_plays 65 = .ok (.isub, 1) := by decide +kernel
theorem dX5_plays_66 : decode cX5_plays 66 = .ok (.istore_n 2, 1) := by decide +kernel
theorem dX5_plays_67 : decode cX5_plays 67 = .ok (.iload_n 2, 1) := by decide +kernel
theorem dX5_plays_68 : decode cX5_plays 68 = .ok (.ifCond .lt 24, 3) := by decide +kernel
theorem dX5_plays_71 : decode cX5_plays 71 = .ok (.aload_n 0, 1) := by decide +kernel
theorem dX5_plays_72 : decode cX5_plays 72 = .ok (.aload_n 0, 1) := by decide +kernel
theorem dX5_plays_73 : decode cX5_plays 73 = .ok (.getfield 59, 3) := by decide +kernel
theorem dX5_plays_76 : decode cX5_plays 76 = .ok (.bipush 12, 2) := by decide +kernel
theorem dX5_plays_78 : decode cX5_plays 78 = .ok (.iload_n 1, 1) := by decide +kernel
theorem dX5_plays_79 : decode cX5_plays 79 = .ok (.imul, 1) := by decide +kernel
theorem dX5_plays_80 : decode cX5_plays 80 = .ok (.iload_n 2, 1) := by decide +kernel
theorem dX5_plays_81 : decode cX5_plays 81 = .ok (.iadd, 1) := by decide +kernel
theorem dX5_plays_82 : decode cX5_plays 82 = .ok (.iaload, 1) := by decide +kernel
theorem dX5_plays_83 : decode cX5_plays 83 = .ok (.invokevirtual 105, 3) := by decide +kernel
theorem dX5_plays_86 : decode cX5_plays 86 = .ok (.iinc 2 (-1), 3) := by decide +kernel
theorem dX5_plays_89 : decode cX5_plays 89 = .ok (.goto (-22), 3) := by decide +kernel
theorem dX5_plays_92 : decode cX5_plays 92 = .ok (.return_, 1) := by decide +kernel
theorem dX5_performs_0 : decode cX5_performs 0 = .ok (.iload_n 1, 1) := by decide +kernel
theorem dX5_performs_1 : decode cX5_performs 1 = .ok (.tableswitch 118 0 3 #[31, 40, 48, 88], 31) := by decide +kernel
theorem dX5_performs_32 : decode cX5_performs 32 = .ok (.aload_n 0, 1) := by decide +kernel
theorem dX5_performs_33 : decode cX5_performs 33 = .ok (.iconst 0, 1) := by decide +kernel
theorem dX5_performs_34 : decode cX5_performs 34 = .ok (.iload_n 2, 1) := by decide +kernel
theorem dX5_performs_35 : decode cX5_performs 35 = .ok (.invokevirtual 101, 3) := by decide +kernel
theorem dX5_performs_38 : decode cX5_performs 38 = .ok (.goto 97, 3) := by decide +kernel
theorem dX5_performs_41 : decode cX5_performs 41 = .ok (.aload_n 0, 1) := by decide +kernel
theorem dX5_performs_42 : decode cX5_performs 42 = .ok (.iload_n 2, 1) := by decide +kernel
theorem dX5_performs_43 : decode cX5_performs 43 = .ok (.invokevirtual 109, 3) := by decide +kernel
theorem dX5_performs_46 : decode cX5_performs 46 = .ok (.goto 89, 3) := by decide +kernel
theorem dX5_performs_49 : decode cX5_performs 49 = .ok (.aload_n 0, 1) := by decide +kernel
theorem dX5_performs_50 : decode cX5_performs 50 = .ok (.getfield 13, 3) := by decide +kernel
theorem dX5_performs_53 : decode cX5_performs 53 = .ok (.iconst 4, 1) := by decide +kernel
theorem dX5_performs_54 : decode cX5_performs 54 = .ok (.if_icmp .ne 12, 3) := by decide +kernel
theorem dX5_performs_57 : decode cX5_performs 57 = .ok (.aload_n 0, 1) := by decide +kernel
theorem dX5_performs_58 : decode cX5_performs 58 = .ok (.iconst 2, 1) := by decide +kernel
theorem dX5_performs_59 : decode cX5_performs 59 = .ok (.iload_n 2, 1) := by decide +kernel
theorem dX5_performs_60 : decode cX5_performs 60 = .ok (.invokevirtual 101, 3) := by decide +kernel
theorem dX5_performs_63 : decode cX5_performs 63 = .ok (.goto 72, 3) := by decide +kernel
theorem dX5_performs_66 : decode cX5_performs 66 = .ok (.aload_n 0, 1) := by decide +kernel
theorem dX5_performs_67 : decode cX5_performs 67 = .ok (.getfield 17, 3) := by decide +kernel
theorem dX5_performs_70 : decode cX5_performs 70 = .ok (.aload_n 0, 1) := by decide +kernel
theorem dX5_performs_71 : decode cX5_performs 71 = .ok (.getfield 13, 3) := by decide +kernel
theorem dX5_performs_74 : decode cX5_performs 74 = .ok (.iload_n 2, 1) := by decide +kernel
theorem dX5_performs_75 : decode cX5_performs 75 = .ok (.iastore, 1) := by decide +kernel
theorem dX5_performs_76 : decode cX5_performs 76 = .ok (.aload_n 0, 1) := by decide +kernel
theorem dX5_performs_77 : decode cX5_performs 77 = .ok (.dup, 1) := by decide +kernel
theorem dX5_performs_78 : decode cX5_performs 78 = .ok (.getfield 13, 3) := by decide +kernel
theorem dX5_performs_81 : decode cX5_performs 81 = .ok (.iconst 1, 1) := by decide +kernel
theorem dX5_performs_82 : decode cX5_performs 82 = .ok (.iadd, 1) := by decide +kernel
theorem dX5_performs_83 : decode cX5_performs 83 = .ok (.putfield 13, 3) := by decide +kernel
theorem dX5_performs_86 : decode cX5_performs 86 = .ok (.goto 49, 3) := by decide +kernel
theorem dX5_performs_89 : decode cX5_performs 89 = .ok (.aload_n 0, 1) := by decide +kernel
theorem dX5_performs_90 : decode cX5_performs 90 = .ok (.getfield 13, 3) := by decide +kernel
theorem dX5_performs_93 : decode cX5_performs 93 = .ok (.iconst 1, 1) := by decide +kernel
theorem dX5_performs_94 : decode cX5_performs 94 = .ok (.if_icmp .ne 12, 3) := by decide +kernel
theorem dX5_performs_97 : decode cX5_performs 97 = .ok (.aload_n 0, 1) := by decide +kernel
theorem dX5_performs_98 : decode cX5_performs 98 = .ok (.iconst 2, 1) := by decide +kernel
theorem dX5_performs_99 : decode cX5_performs 99 = .ok (.iconst 0, 1) := by decide +kernel
theorem dX5_performs_100 : decode cX5_performs 100 = .ok (.invokevirtual 101, 3) := by decide +kernel
theorem dX5_performs_103 : decode cX5_performs 103 = .ok (.goto 32, 3) := by decide +kernel
theorem dX5_performs_106 : decode cX5_performs 106 = .ok (.aload_n 0, 1) := by decide +kernel
theorem dX5_performs_107 : decode cX5_performs 107 = .ok (.dup, 1) := by decide +kernel
theorem dX5_performs_108 : decode cX5_performs 108 = .ok (.getfield 13, 3) := by decide +kernel
theorem dX5_performs_111 : decode cX5_performs 111 = .ok (.iconst 1, 1) := by decide +kernel
theorem dX5_performs_112 : decode cX5_performs 112 = .ok (.isub, 1) := by decide +kernel
theorem dX5_performs_113 : decode cX5_performs 113 = .ok (.putfield 13, 3) := by decide +kernel
theorem dX5_performs_116 : decode cX5_performs 116 = .ok (.goto 19, 3) := by decide +kernel
theorem dX5_performs_119 : decode cX5_performs 119 = .ok (.aload_n 0, 1) := by decide +kernel
theorem dX5_performs_120 : decode cX5_performs 120 = .ok (.getfield 7, 3) := by decide +kernel
theorem dX5_performs_123 : decode cX5_performs 123 = .ok (.iload_n 2, 1) := by decide +kernel
theorem dX5_performs_124 : decode cX5_performs 124 = .ok (.iload_n 1, 1) := by decide +kernel
theorem dX5_performs_125 : decode cX5_performs 125 = .ok (.iconst 4, 1) := by decide +kernel
theorem dX5_performs_126 : decode cX5_performs 126 = .ok (.if_icmp .ne 7, 3) := by decide +kernel
theorem dX5_performs_129 : decode cX5_performs 129 = .ok (.iconst 1, 1) := by decide +kernel
theorem dX5_performs_130 : decode cX5_performs 130 = .ok (.goto 4, 3) := by decide +kernel
theorem dX5_performs_133 : decode cX5_performs 133 = .ok (.iconst 0, 1) := by decide +kernel
theorem dX5_performs_134 : decode cX5_performs 134 = .ok (.iastore, 1) := by decide +kernel
theorem dX5_performs_135 : decode cX5_performs 135 = .ok (.return_, 1) := by decide +kernel
theorem dX5_frees_0 : decode cX5_frees 0 = .ok (.aload_n 0, 1) := by decide +kernel
theorem dX5_frees_1 : decode cX5_frees 1 = .ok (.getfield 86, 3) := by decide +kernel
theorem dX5_frees_4 : decode cX5_frees 4 = .ok (.iconst 1, 1) := by decide +kernel
theorem dX5_frees_5 : decode cX5_frees 5 = .ok (.isub, 1) := by decide +kernel
theorem dX5_frees_6 : decode cX5_frees 6 = .ok (.istore_n 2, 1) := by decide +kernel
theorem dX5_frees_7 : decode cX5_frees 7 = .ok (.iload_n 2, 1) := by decide +kernel
theorem dX5_frees_8 : decode cX5_frees 8 = .ok (.iload_n 1, 1) := by decide +kernel
theorem dX5_frees_9 : decode cX5_frees 9 = .ok (.if_icmp .lt 19, 3) := by decide +kernel
theorem dX5_frees_12 : decode cX5_frees 12 = .ok (.aload_n 0, 1) := by decide +kernel
theorem dX5_frees_13 : decode cX5_frees 13 = .ok (.aload_n 0, 1) := by decide +kernel
theorem dX5_frees_14 : decode cX5_frees 14 = .ok (.getfield 44, 3) := by decide +kernel
theorem dX5_frees_17 : decode cX5_frees 17 = .ok (.iload_n 2, 1) := by decide +kernel
theorem dX5_frees_18 : decode cX5_frees 18 = .ok (.iaload, 1) := by decide +kernel
theorem dX5_frees_19 : decode cX5_frees 19 = .ok (.invokevirtual 105, 3) := by decide +kernel
theorem dX5_frees_22 : decode cX5_frees 22 = .ok (.iinc 2 (-1), 3) := by decide +kernel
theorem dX5_frees_25 : decode cX5_frees 25 = .ok (.goto (-18), 3) := by decide +kernel
theorem dX5_frees_28 : decode cX5_frees 28 = .ok (.aload_n 0, 1) := by decide +kernel
theorem dX5_frees_29 : decode cX5_frees 29 = .ok (.iconst 0, 1) := by decide +kernel
theorem dX5_frees_30 : decode cX5_frees 30 = .ok (.putfield 86, 3) := by decide +kernel
theorem dX5_frees_33 : decode cX5_frees 33 = .ok (.return_, 1) := by decide +kernel
theorem dX5_ends_0 : decode cX5_ends 0 = .ok (.aload_n 0, 1) := by decide +kernel
theorem dX5_ends_1 : decode cX5_ends 1 = .ok (.getfield 86, 3) := by decide +kernel
theorem dX5_ends_4 : decode cX5_ends 4 = .ok (.istore_n 1, 1) := by decide +kernel
theorem dX5_ends_5 : decode cX5_ends 5 = .ok (.aload_n 0, 1) := by decide +kernel
theorem dX5_ends_6 : decode cX5_ends 6 = .ok (.iload_n 1, 1) := by decide +kernel
theorem dX5_ends_7 : decode cX5_ends 7 = .ok (.invokevirtual 112, 3) := by decide +kernel
theorem dX5_ends_10 : decode cX5_ends 10 = .ok (.istore_n 2, 1) := by decide +kernel
theorem dX5_ends_11 : decode cX5_ends 11 = .ok (.iload_n 2, 1) := by decide +kernel
theorem dX5_ends_12 : decode cX5_ends 12 = .ok (.bipush (-4), 2) := by decide +kernel
theorem dX5_ends_14 : decode cX5_ends 14 = .ok (.if_icmp .ne 20, 3) := by decide +kernel
theorem dX5_ends_17 : decode cX5_ends 17 = .ok (.iload_n 1, 1) := by decide +kernel
theorem dX5_ends_18 : decode cX5_ends 18 = .ok (.iconst 1, 1) := by decide +kernel
theorem dX5_ends_19 : decode cX5_ends 19 = .ok (.if_icmp .le 15, 3) := by decide +kernel
theorem dX5_ends_22 : decode cX5_ends 22 = .ok (.iinc 1 (-1), 3) := by decide +kernel
theorem dX5_ends_25 : decode cX5_ends 25 = .ok (.aload_n 0, 1) := by decide +kernel
theorem dX5_ends_26 : decode cX5_ends 26 = .ok (.iload_n 1, 1) := by decide +kernel
theorem dX5_ends_27 : decode cX5_ends 27 = .ok (.invokevirtual 112, 3) := by decide +kernel
theorem dX5_ends_30 : decode cX5_ends 30 = .ok (.istore_n 2, 1) := by decide +kernel
theorem dX5_ends_31 : decode cX5_ends 31 = .ok (.goto (-20), 3) := by decide +kernel
theorem dX5_ends_34 : decode cX5_ends 34 = .ok (.iload_n 2, 1) := by decide +kernel
theorem dX5_ends_35 : decode cX5_ends 35 = .ok (.bipush (-4), 2) := by decide +kernel
theorem dX5_ends_37 : decode cX5_ends 37 = .ok (.if_icmp .ne 22, 3) := by decide +kernel
theorem dX5_ends_40 : decode cX5_ends 40 = .ok (.aload_n 0, 1) := by decide +kernel
theorem dX5_ends_41 : decode cX5_ends 41 = .ok (.getfield 44, 3) := by decide +kernel
theorem dX5_ends_44 : decode cX5_ends 44 = .ok (.iconst 0, 1) := by decide +kernel
theorem dX5_ends_45 : decode cX5_ends 45 = .ok (.iaload, 1) := by decide +kernel
theorem dX5_ends_46 : decode cX5_ends 46 = .ok (.istore_n 3, 1) := by decide +kernel
theorem dX5_ends_47 : decode cX5_ends 47 = .ok (.aload_n 0, 1) := by decide +kernel
theorem dX5_ends_48 : decode cX5_ends 48 = .ok (.iconst 1, 1) := by decide +kernel
theorem dX5_ends_49 : decode cX5_ends 49 = .ok (.invokevirtual 115, 3) := by decide +kernel
theorem dX5_ends_52 : decode cX5_ends 52 = .ok (.aload_n 0, 1) := by decide +kernel
theorem dX5_ends_53 : decode cX5_ends 53 = .ok (.iconst 1, 1) := by decide +kernel
theorem dX5_ends_54 : decode cX5_ends 54 = .ok (.iload_n 3, 1) := by decide +kernel
theorem dX5_ends_55 : decode cX5_ends 55 = .ok (.invokevirtual 101, 3) := by decide +kernel
theorem dX5_ends_58 : decode cX5_ends 58 = .ok (.return_, 1) := by decide +kernel
theorem dX5_ends_59 : decode cX5_ends 59 = .ok (.aload_n 0, 1) := by decide +kernel
theorem dX5_ends_60 : decode cX5_ends 60 = .ok (.getfield 35, 3) := by decide +kernel
theorem dX5_ends_63 : decode cX5_ends 63 = .ok (.iload_n 2, 1) := by decide +kernel
theorem dX5_ends_64 : decode cX5_ends 64 = .ok (.iaload, 1) := by decide +kernel
theorem dX5_ends_65 : decode cX5_ends 65 = .ok (.istore_n 3, 1) := by decide +kernel
theorem dX5_ends_66 : decode cX5_ends 66 = .ok (.aload_n 0, 1) := by decide +kernel
theorem dX5_ends_67 : decode cX5_ends 67 = .ok (.getfield 38, 3) := by decide +kernel
theorem dX5_ends_70 : decode cX5_ends 70 = .ok (.iload_n 2, 1) := by decide +kernel
theorem dX5_ends_71 : decode cX5_ends 71 = .ok (.iaload, 1) := by decide +kernel
theorem dX5_ends_72 : decode cX5_ends 72 = .ok (.istore 4, 2) := by decide +kernel
theorem dX5_ends_74 : decode cX5_ends 74 = .ok (.aload_n 0, 1) := by decide +kernel
theorem dX5_ends_75 : decode cX5_ends 75 = .ok (.iload_n 1, 1) := by decide +kernel
theorem dX5_ends_76 : decode cX5_ends 76 = .ok (.invokevirtual 115, 3) := by decide +kernel
theorem dX5_ends_79 : decode cX5_ends 79 = .ok (.aload_n 0, 1) := by decide +kernel
theorem dX5_ends_80 : decode cX5_ends 80 = .ok (.iload_n 3, 1) := by decide +kernel
theorem dX5_ends_81 : decode cX5_ends 81 = .ok (.iload 4, 2) := by decide +kernel
theorem dX5_ends_83 : decode cX5_ends 83 = .ok (.invokevirtual 118, 3) := by decide +kernel
theorem dX5_ends_86 : decode cX5_ends 86 = .ok (.return_, 1) := by decide +kernel
theorem dX5_works_0 : decode cX5_works 0 = .ok (.aload_n 0, 1) := by decide +kernel
theorem dX5_works_1 : decode cX5_works 1 = .ok (.getfield 92, 3) := by decide +kernel
theorem dX5_works_4 : decode cX5_works 4 = .ok (.ifCond .le 87, 3) := by decide +kernel
theorem dX5_works_7 : decode cX5_works 7 = .ok (.aload_n 0, 1) := by decide +kernel
theorem dX5_works_8 : decode cX5_works 8 = .ok (.dup, 1) := by decide +kernel
theorem dX5_works_9 : decode cX5_works 9 = .ok (.getfield 92, 3) := by decide +kernel
theorem dX5_works_12 : decode cX5_works 12 = .ok (.iconst 1, 1) := by decide +kernel
theorem dX5_works_13 : decode cX5_works 13 = .ok (.isub, 1) := by decide +kernel
theorem dX5_works_14 : decode cX5_works 14 = .ok (.putfield 92, 3) := by decide +kernel
theorem dX5_works_17 : decode cX5_works 17 = .ok (.aload_n 0, 1) := by decide +kernel
theorem dX5_works_18 : decode cX5_works 18 = .ok (.getfield 50, 3) := by decide +kernel
theorem dX5_works_21 : decode cX5_works 21 = .ok (.aload_n 0, 1) := by decide +kernel
theorem dX5_works_22 : decode cX5_works 22 = .ok (.getfield 92, 3) := by decide +kernel
theorem dX5_works_25 : decode cX5_works 25 = .ok (.iaload, 1) := by decide +kernel
theorem dX5_works_26 : decode cX5_works 26 = .ok (.istore_n 1, 1) := by decide +kernel
theorem dX5_works_27 : decode cX5_works 27 = .ok (.iload_n 1, 1) := by decide +kernel
theorem dX5_works_28 : decode cX5_works 28 = .ok (.bipush 12, 2) := by decide +kernel
theorem dX5_works_30 : decode cX5_works 30 = .ok (.if_icmp .ne 16, 3) := by decide +kernel
theorem dX5_works_33 : decode cX5_works 33 = .ok (.aload_n 0, 1) := by decide +kernel
theorem dX5_works_34 : decode cX5_works 34 = .ok (.dup, 1) := by decide +kernel
theorem dX5_works_35 : decode cX5_works 35 = .ok (.getfield 95, 3) := by decide +kernel
theorem dX5_works_38 : decode cX5_works 38 = .ok (.iconst 1, 1) := by decide +kernel
theorem dX5_works_39 : decode cX5_works 39 = .ok (.isub, 1) := by decide +kernel
theorem dX5_works_40 : decode cX5_works 40 = .ok (.putfield 95, 3) := by decide +kernel
theorem dX5_works_43 : decode cX5_works 43 = .ok (.goto 45, 3) := by decide +kernel
theorem dX5_works_46 : decode cX5_works 46 = .ok (.aload_n 0, 1) := by decide +kernel
theorem dX5_works_47 : decode cX5_works 47 = .ok (.getfield 44, 3) := by decide +kernel
theorem dX5_works_50 : decode cX5_works 50 = .ok (.aload_n 0, 1) := by decide +kernel
theorem dX5_works_51 : decode cX5_works 51 = .ok (.getfield 86, 3) := by decide +kernel
theorem dX5_works_54 : decode cX5_works 54 = .ok (.iload_n 1, 1) := by decide +kernel
theorem dX5_works_55 : decode cX5_works 55 = .ok (.iastore, 1) := by decide +kernel
theorem dX5_works_56 : decode cX5_works 56 = .ok (.aload_n 0, 1) := by decide +kernel
theorem dX5_works_57 : decode cX5_works 57 = .ok (.dup, 1) := by decide +kernel
theorem dX5_works_58 : decode cX5_works 58 = .ok (.getfield 86, 3) := by decide +kernel
theorem dX5_works_61 : decode cX5_works 61 = .ok (.iconst 1, 1) := by decide +kernel
theorem dX5_works_62 : decode cX5_works 62 = .ok (.iadd, 1) := by decide +kernel
theorem dX5_works_63 : decode cX5_works 63 = .ok (.putfield 86, 3) := by decide +kernel
theorem dX5_works_66 : decode cX5_works 66 = .ok (.aload_n 0, 1) := by decide +kernel
theorem dX5_works_67 : decode cX5_works 67 = .ok (.invokevirtual 121, 3) := by decide +kernel
theorem dX5_works_70 : decode cX5_works 70 = .ok (.ifCond .eq 14, 3) := by decide +kernel
theorem dX5_works_73 : decode cX5_works 73 = .ok (.aload_n 0, 1) := by decide +kernel
theorem dX5_works_74 : decode cX5_works 74 = .ok (.aload_n 0, 1) := by decide +kernel
theorem dX5_works_75 : decode cX5_works 75 = .ok (.getfield 47, 3) := by decide +kernel
theorem dX5_works_78 : decode cX5_works 78 = .ok (.putfield 125, 3) := by decide +kernel
theorem dX5_works_81 : decode cX5_works 81 = .ok (.goto 7, 3) := by decide +kernel
theorem dX5_works_84 : decode cX5_works 84 = .ok (.aload_n 0, 1) := by decide +kernel
theorem dX5_works_85 : decode cX5_works 85 = .ok (.invokevirtual 128, 3) := by decide +kernel
theorem dX5_works_88 : decode cX5_works 88 = .ok (.goto (-88), 3) := by decide +kernel
theorem dX5_works_91 : decode cX5_works 91 = .ok (.return_, 1) := by decide +kernel
theorem dX5_press_0 : decode cX5_press 0 = .ok (.iload_n 1, 1) := by decide +kernel
theorem dX5_press_1 : decode cX5_press 1 = .ok (.iconst 0, 1) := by decide +kernel
theorem dX5_press_2 : decode cX5_press 2 = .ok (.bipush 11, 2) := by decide +kernel
theorem dX5_press_4 : decode cX5_press 4 = .ok (.invokestatic 68, 3) := by decide +kernel
theorem dX5_press_7 : decode cX5_press 7 = .ok (.ifCond .ne 5, 3) := by decide +kernel
theorem dX5_press_10 : decode cX5_press 10 = .ok (.iconst (-1), 1) := by decide +kernel
theorem dX5_press_11 : decode cX5_press 11 = .ok (.ireturn, 1) := by decide +kernel
theorem dX5_press_12 : decode cX5_press 12 = .ok (.aload_n 0, 1) := by decide +kernel
theorem dX5_press_13 : decode cX5_press 13 = .ok (.getfield 89, 3) := by decide +kernel
theorem dX5_press_16 : decode cX5_press 16 = .ok (.istore_n 2, 1) := by decide +kernel
theorem dX5_press_17 : decode cX5_press 17 = .ok (.aload_n 0, 1) := by decide +kernel
theorem dX5_press_18 : decode cX5_press 18 = .ok (.iconst 0, 1) := by decide +kernel
theorem dX5_press_19 : decode cX5_press 19 = .ok (.putfield 98, 3) := by decide +kernel
theorem dX5_press_22 : decode cX5_press 22 = .ok (.aload_n 0, 1) := by decide +kernel
theorem dX5_press_23 : decode cX5_press 23 = .ok (.getfield 53, 3) := by decide +kernel
theorem dX5_press_26 : decode cX5_press 26 = .ok (.ifCond .lt 53, 3) := by decide +kernel
theorem dX5_press_29 : decode cX5_press 29 = .ok (.aload_n 0, 1) := by decide +kernel
theorem dX5_press_30 : decode cX5_press 30 = .ok (.getfield 56, 3) := by decide +kernel
theorem dX5_press_33 : decode cX5_press 33 = .ok (.aload_n 0, 1) := by decide +kernel
theorem dX5_press_34 : decode cX5_press 34 = .ok (.getfield 53, 3) := by decide +kernel
theorem dX5_press_37 : decode cX5_press 37 = .ok (.iaload, 1) := by decide +kernel
theorem dX5_press_38 : decode cX5_press 38 = .ok (.bipush 12, 2) := by decide +kernel
theorem dX5_press_40 : decode cX5_press 40 = .ok (.if_icmp .ge 39, 3) := by decide +kernel
theorem dX5_press_43 : decode cX5_press 43 = .ok (.aload_n 0, 1) := by decide +kernel
theorem dX5_press_44 : decode cX5_press 44 = .ok (.getfield 59, 3) := by decide +kernel
theorem dX5_press_47 : decode cX5_press 47 = .ok (.bipush 12, 2) := by decide +kernel
theorem dX5_press_49 : decode cX5_press 49 = .ok (.aload_n 0, 1) := by decide +kernel
theorem dX5_press_50 : decode cX5_press 50 = .ok (.getfield 53, 3) := by decide +kernel
theorem dX5_press_53 : decode cX5_press 53 = .ok (.imul, 1) := by decide +kernel
theorem dX5_press_54 : decode cX5_press 54 = .ok (.aload_n 0, 1) := by decide +kernel
theorem dX5_press_55 : decode cX5_press 55 = .ok (.getfield 56, 3) := by decide +kernel
theorem dX5_press_58 : decode cX5_press 58 = .ok (.aload_n 0, 1) := by decide +kernel
theorem dX5_press_59 : decode cX5_press 59 = .ok (.getfield 53, 3) := by decide +kernel
theorem dX5_press_62 : decode cX5_press 62 = .ok (.iaload, 1) := by decide +kernel
theorem dX5_press_63 : decode cX5_press 63 = .ok (.iadd, 1) := by decide +kernel
theorem dX5_press_64 : decode cX5_press 64 = .ok (.iload_n 1, 1) := by decide +kernel
theorem dX5_press_65 : decode cX5_press 65 = .ok (.iastore, 1) := by decide +kernel
theorem dX5_press_66 : decode cX5_press 66 = .ok (.aload_n 0, 1) := by decide +kernel
theorem dX5_press_67 : decode cX5_press 67 = .ok (.getfield 56, 3) := by decide +kernel
theorem dX5_press_70 : decode cX5_press 70 = .ok (.aload_n 0, 1) := by decide +kernel
theorem dX5_press_71 : decode cX5_press 71 = .ok (.getfield 53, 3) := by decide +kernel
theorem dX5_press_74 : decode cX5_press 74 = .ok (.dup2, 1) := by decide +kernel
theorem dX5_press_75 : decode cX5_press 75 = .ok (.iaload, 1) := by decide +kernel
theorem dX5_press_76 : decode cX5_press 76 = .ok (.iconst 1, 1) := by decide +kernel
theorem dX5_press_77 : decode cX5_press 77 = .ok (.iadd, 1) := by decide +kernel
theorem dX5_press_78 : decode cX5_press 78 = .ok (.iastore, 1) := by decide +kernel
theorem dX5_press_79 : decode cX5_press 79 = .ok (.aload_n 0, 1) := by decide +kernel
theorem dX5_press_80 : decode cX5_press 80 = .ok (.iload_n 1, 1) := by decide +kernel
theorem dX5_press_81 : decode cX5_press 81 = .ok (.invokevirtual 105, 3) := by decide +kernel
theorem dX5_press_84 : decode cX5_press 84 = .ok (.aload_n 0, 1) := by decide +kernel
theorem dX5_press_85 : decode cX5_press 85 = .ok (.invokevirtual 131, 3) := by decide +kernel
theorem dX5_press_88 : decode cX5_press 88 = .ok (.aload_n 0, 1) := by decide +kernel
theorem dX5_press_89 : decode cX5_press 89 = .ok (.getfield 89, 3) := by decide +kernel
theorem dX5_press_92 : decode cX5_press 92 = .ok (.iload_n 2, 1) := by decide +kernel
theorem dX5_press_93 : decode cX5_press 93 = .ok (.isub, 1) := by decide +kernel
theorem dX5_press_94 : decode cX5_press 94 = .ok (.ireturn, 1) := by decide +kernel
theorem dX5_tick_0 : decode cX5_tick 0 = .ok (.iload_n 1, 1) := by decide +kernel
theorem dX5_tick_1 : decode cX5_tick 1 = .ok (.iconst 0, 1) := by decide +kernel
theorem dX5_tick_2 : decode cX5_tick 2 = .ok (.sipush 999, 3) := by decide +kernel
theorem dX5_tick_5 : decode cX5_tick 5 = .ok (.invokestatic 68, 3) := by decide +kernel
theorem dX5_tick_8 : decode cX5_tick 8 = .ok (.ifCond .ne 5, 3) := by decide +kernel
theorem dX5_tick_11 : decode cX5_tick 11 = .ok (.iconst (-1), 1) := by decide +kernel
theorem dX5_tick_12 : decode cX5_tick 12 = .ok (.ireturn, 1) := by decide +kernel
theorem dX5_tick_13 : decode cX5_tick 13 = .ok (.aload_n 0, 1) := by decide +kernel
theorem dX5_tick_14 : decode cX5_tick 14 = .ok (.getfield 89, 3) := by decide +kernel
theorem dX5_tick_17 : decode cX5_tick 17 = .ok (.istore_n 2, 1) := by decide +kernel
theorem dX5_tick_18 : decode cX5_tick 18 = .ok (.aload_n 0, 1) := by decide +kernel
theorem dX5_tick_19 : decode cX5_tick 19 = .ok (.iconst 0, 1) := by decide +kernel
theorem dX5_tick_20 : decode cX5_tick 20 = .ok (.putfield 98, 3) := by decide +kernel
theorem dX5_tick_23 : decode cX5_tick 23 = .ok (.iconst 0, 1) := by decide +kernel
theorem dX5_tick_24 : decode cX5_tick 24 = .ok (.istore_n 3, 1) := by decide +kernel
theorem dX5_tick_25 : decode cX5_tick 25 = .ok (.iload_n 3, 1) := by decide +kernel
theorem dX5_tick_26 : decode cX5_tick 26 = .ok (.iload_n 1, 1) := by decide +kernel
theorem dX5_tick_27 : decode cX5_tick 27 = .ok (.if_icmp .ge 41, 3) := by decide +kernel
theorem dX5_tick_30 : decode cX5_tick 30 = .ok (.aload_n 0, 1) := by decide +kernel
theorem dX5_tick_31 : decode cX5_tick 31 = .ok (.getfield 86, 3) := by decide +kernel
theorem dX5_tick_34 : decode cX5_tick 34 = .ok (.ifCond .le 34, 3) := by decide +kernel
theorem dX5_tick_37 : decode cX5_tick 37 = .ok (.aload_n 0, 1) := by decide +kernel
theorem dX5_tick_38 : decode cX5_tick 38 = .ok (.dup, 1) := by decide +kernel
theorem dX5_tick_39 : decode cX5_tick 39 = .ok (.getfield 125, 3) := by decide +kernel
theorem dX5_tick_42 : decode cX5_tick 42 = .ok (.iconst 1, 1) := by decide +kernel
theorem dX5_tick_43 : decode cX5_tick 43 = .ok (.isub, 1) := by decide +kernel
theorem dX5_tick_44 : decode cX5_tick 44 = .ok (.putfield 125, 3) := by decide +kernel
theorem dX5_tick_47 : decode cX5_tick 47 = .ok (.aload_n 0, 1) := by decide +kernel
theorem dX5_tick_48 : decode cX5_tick 48 = .ok (.getfield 125, 3) := by decide +kernel
theorem dX5_tick_51 : decode cX5_tick 51 = .ok (.ifCond .ne 11, 3) := by decide +kernel
theorem dX5_tick_54 : decode cX5_tick 54 = .ok (.aload_n 0, 1) := by decide +kernel
theorem dX5_tick_55 : decode cX5_tick 55 = .ok (.invokevirtual 128, 3) := by decide +kernel
theorem dX5_tick_58 : decode cX5_tick 58 = .ok (.aload_n 0, 1) := by decide +kernel
theorem dX5_tick_59 : decode cX5_tick 59 = .ok (.invokevirtual 131, 3) := by decide +kernel
theorem dX5_tick_62 : decode cX5_tick 62 = .ok (.iinc 3 1, 3) := by decide +kernel
theorem dX5_tick_65 : decode cX5_tick 65 = .ok (.goto (-40), 3) := by decide +kernel
theorem dX5_tick_68 : decode cX5_tick 68 = .ok (.aload_n 0, 1) := by decide +kernel
theorem dX5_tick_69 : decode cX5_tick 69 = .ok (.getfield 89, 3) := by decide +kernel
theorem dX5_tick_72 : decode cX5_tick 72 = .ok (.iload_n 2, 1) := by decide +kernel
theorem dX5_tick_73 : decode cX5_tick 73 = .ok (.isub, 1) := by decide +kernel
theorem dX5_tick_74 : decode cX5_tick 74 = .ok (.ireturn, 1) := by decide +kernel
theorem dX5_setTimeout_0 : decode cX5_setTimeout 0 = .ok (.iload_n 1, 1) := by decide +kernel
theorem dX5_setTimeout_1 : decode cX5_setTimeout 1 = .ok (.iconst 1, 1) := by decide +kernel
theorem dX5_setTimeout_2 : decode cX5_setTimeout 2 = .ok (.bipush 99, 2) := by decide +kernel
theorem dX5_setTimeout_4 : decode cX5_setTimeout 4 = .ok (.invokestatic 68, 3) := by decide +kernel
theorem dX5_setTimeout_7 : decode cX5_setTimeout 7 = .ok (.ifCond .ne 5, 3) := by decide +kernel
theorem dX5_setTimeout_10 : decode cX5_setTimeout 10 = .ok (.iconst (-1), 1) := by decide +kernel
theorem dX5_setTimeout_11 : decode cX5_setTimeout 11 = .ok (.ireturn, 1) := by decide +kernel
theorem dX5_setTimeout_12 : decode cX5_setTimeout 12 = .ok (.aload_n 0, 1) := by decide +kernel
theorem dX5_setTimeout_13 : decode cX5_setTimeout 13 = .ok (.getfield 47, 3) := by decide +kernel
theorem dX5_setTimeout_16 : decode cX5_setTimeout 16 = .ok (.istore_n 2, 1) := by decide +kernel
theorem dX5_setTimeout_17 : decode cX5_setTimeout 17 = .ok (.aload_n 0, 1) := by decide +kernel
theorem dX5_setTimeout_18 : decode cX5_setTimeout 18 = .ok (.iload_n 1, 1) := by decide +kernel
theorem dX5_setTimeout_19 : decode cX5_setTimeout 19 = .ok (.putfield 47, 3) := by decide +kernel
theorem dX5_setTimeout_22 : decode cX5_setTimeout 22 = .ok (.iload_n 2, 1) := by decide +kernel
theorem dX5_setTimeout_23 : decode cX5_setTimeout 23 = .ok (.ireturn, 1) := by decide +kernel
theorem dX5_setFlag_0 : decode cX5_setFlag 0 = .ok (.iload_n 1, 1) := by decide +kernel
theorem dX5_setFlag_1 : decode cX5_setFlag 1 = .ok (.iconst 0, 1) := by decide +kernel
theorem dX5_setFlag_2 : decode cX5_setFlag 2 = .ok (.iconst 5, 1) := by decide +kernel
theorem dX5_setFlag_3 : decode cX5_setFlag 3 = .ok (.invokestatic 68, 3) := by decide +kernel
theorem dX5_setFlag_6 : decode cX5_setFlag 6 = .ok (.ifCond .eq 12, 3) := by decide +kernel
theorem dX5_setFlag_9 : decode cX5_setFlag 9 = .ok (.iload_n 2, 1) := by decide +kernel
theorem dX5_setFlag_10 : decode cX5_setFlag 10 = .ok (.iconst 0, 1) := by decide +kernel
theorem dX5_setFlag_11 : decode cX5_setFlag 11 = .ok (.iconst 1, 1) := by decide +kernel
theorem dX5_setFlag_12 : decode cX5_setFlag 12 = .ok (.invokestatic 68, 3) := by decide +kernel
theorem dX5_setFlag_15 : decode cX5_setFlag 15 = .ok (.ifCond .ne 5, 3) := by decide +kernel
theorem dX5_setFlag_18 : decode cX5_setFlag 18 = .ok (.iconst (-1), 1) := by decide +kernel
theorem dX5_setFlag_19 : decode cX5_setFlag 19 = .ok (.ireturn, 1) := by decide +kernel
theorem dX5_setFlag_20 : decode cX5_setFlag 20 = .ok (.aload_n 0, 1) := by decide +kernel
theorem dX5_setFlag_21 : decode cX5_setFlag 21 = .ok (.getfield 7, 3) := by decide +kernel
theorem dX5_setFlag_24 : decode cX5_setFlag 24 = .ok (.iload_n 1, 1) := by decide +kernel
theorem dX5_setFlag_25 : decode cX5_setFlag 25 = .ok (.iaload, 1) := by decide +kernel
theorem dX5_setFlag_26 : decode cX5_setFlag 26 = .ok (.istore_n 3, 1) := by decide +kernel
theorem dX5_setFlag_27 : decode cX5_setFlag 27 = .ok (.aload_n 0, 1) := by decide +kernel
theorem dX5_setFlag_28 : decode cX5_setFlag 28 = .ok (.getfield 7, 3) := by decide +kernel
theorem dX5_setFlag_31 : decode cX5_setFlag 31 = .ok (.iload_n 1, 1) := by decide +kernel
theorem dX5_setFlag_32 : decode cX5_setFlag 32 = .ok (.iload_n 2, 1) := by decide +kernel
theorem dX5_setFlag_33 : decode cX5_setFlag 33 = .ok (.iastore, 1) := by decide +kernel
theorem dX5_setFlag_34 : decode cX5_setFlag 34 = .ok (.iload_n 3, 1) := by decide +kernel
theorem dX5_setFlag_35 : decode cX5_setFlag 35 = .ok (.ireturn, 1) := by decide +kernel
theorem dX5_pendingLength_0 : decode cX5_pendingLength 0 = .ok (.aload_n 0, 1) := by decide +kernel
theorem dX5_pendingLength_1 : decode cX5_pendingLength 1 = .ok (.getfield 86, 3) := by decide +kernel
theorem dX5_pendingLength_4 : decode cX5_pendingLength 4 = .ok (.ireturn, 1) := by decide +kernel
theorem dX5_pendingKey_0 : decode cX5_pendingKey 0 = .ok (.iload_n 1, 1) := by decide +kernel
theorem dX5_pendingKey_1 : decode cX5_pendingKey 1 = .ok (.ifCond .ge 5, 3) := by decide +kernel
theorem dX5_pendingKey_4 : decode cX5_pendingKey 4 = .ok (.iconst (-1), 1) := by decide +kernel
theorem dX5_pendingKey_5 : decode cX5_pendingKey 5 = .ok (.ireturn, 1) := by decide +kernel
theorem dX5_pendingKey_6 : decode cX5_pendingKey 6 = .ok (.iload_n 1, 1) := by decide +kernel
theorem dX5_pendingKey_7 : decode cX5_pendingKey 7 = .ok (.aload_n 0, 1) := by decide +kernel
theorem dX5_pendingKey_8 : decode cX5_pendingKey 8 = .ok (.getfield 86, 3) := by decide +kernel
theorem dX5_pendingKey_11 : decode cX5_pendingKey 11 = .ok (.if_icmp .ge 12, 3) := by decide +kernel
theorem dX5_pendingKey_14 : decode cX5_pendingKey 14 = .ok (.aload_n 0, 1) := by decide +kernel
theorem dX5_pendingKey_15 : decode cX5_pendingKey 15 = .ok (.getfield 44, 3) := by decide +kernel
theorem dX5_pendingKey_18 : decode cX5_pendingKey 18 = .ok (.iload_n 1, 1) := by decide +kernel
theorem dX5_pendingKey_19 : decode cX5_pendingKey 19 = .ok (.iaload, 1) := by decide +kernel
theorem dX5_pendingKey_20 : decode cX5_pendingKey 20 = .ok (.goto 5, 3) := by decide +kernel
theorem dX5_pendingKey_23 : decode cX5_pendingKey 23 = .ok (.bipush (-4), 2) := by decide +kernel
theorem dX5_pendingKey_25 : decode cX5_pendingKey 25 = .ok (.ireturn, 1) := by decide +kernel
theorem dX5_remainingTime_0 : decode cX5_remainingTime 0 = .ok (.aload_n 0, 1) := by decide +kernel
theorem dX5_remainingTime_1 : decode cX5_remainingTime 1 = .ok (.getfield 86, 3) := by decide +kernel
theorem dX5_remainingTime_4 : decode cX5_remainingTime 4 = .ok (.ifCond .le 10, 3) := by decide +kernel
theorem dX5_remainingTime_7 : decode cX5_remainingTime 7 = .ok (.aload_n 0, 1) := by decide +kernel
theorem dX5_remainingTime_8 : decode cX5_remainingTime 8 = .ok (.getfield 125, 3) := by decide +kernel
theorem dX5_remainingTime_11 : decode cX5_remainingTime 11 = .ok (.goto 4, 3) := by decide +kernel
theorem dX5_remainingTime_14 : decode cX5_remainingTime 14 = .ok (.iconst 0, 1) := by decide +kernel
theorem dX5_remainingTime_15 : decode cX5_remainingTime 15 = .ok (.ireturn, 1) := by decide +kernel
theorem dX5_pendingBinding_0 : decode cX5_pendingBinding 0 = .ok (.aload_n 0, 1) := by decide +kernel
theorem dX5_pendingBinding_1 : decode cX5_pendingBinding 1 = .ok (.getfield 86, 3) := by decide +kernel
theorem dX5_pendingBinding_4 : decode cX5_pendingBinding 4 = .ok (.ifCond .le 14, 3) := by decide +kernel
theorem dX5_pendingBinding_7 : decode cX5_pendingBinding 7 = .ok (.aload_n 0, 1) := by decide +kernel
theorem dX5_pendingBinding_8 : decode cX5_pendingBinding 8 = .ok (.aload_n 0, 1) := by decide +kernel
theorem dX5_pendingBinding_9 : decode cX5_pendingBinding 9 = .ok (.getfield 86, 3) := by decide +kernel
theorem dX5_pendingBinding_12 : decode cX5_pendingBinding 12 = .ok (.invokevirtual 112, 3) := by decide +kernel
theorem dX5_pendingBinding_15 : decode cX5_pendingBinding 15 = .ok (.goto 5, 3) := by decide +kernel
theorem dX5_pendingBinding_18 : decode cX5_pendingBinding 18 = .ok (.bipush (-4), 2) := by decide +kernel
theorem dX5_pendingBinding_20 : decode cX5_pendingBinding 20 = .ok (.istore_n 1, 1) := by decide +kernel
theorem dX5_pendingBinding_21 : decode cX5_pendingBinding 21 = .ok (.iload_n 1, 1) := by decide +kernel
theorem dX5_pendingBinding_22 : decode cX5_pendingBinding 22 = .ok (.ifCond .ge 8, 3) := by decide +kernel
theorem dX5_pendingBinding_25 : decode cX5_pendingBinding 25 = .ok (.bipush (-4), 2) := by decide +kernel
theorem dX5_pendingBinding_27 : decode cX5_pendingBinding 27 = .ok (.goto 15, 3) := by decide +kernel
theorem dX5_pendingBinding_30 : decode cX5_pendingBinding 30 = .ok (.bipush 16, 2) := by decide +kernel
theorem dX5_pendingBinding_32 : decode cX5_pendingBinding 32 = .ok (.iload_n 1, 1) := by decide +kernel
theorem dX5_pendingBinding_33 : decode cX5_pendingBinding 33 = .ok (.bipush 10, 2) := by decide +kernel
theorem dX5_pendingBinding_35 : decode cX5_pendingBinding 35 = .ok (.idiv, 1) := by decide +kernel
theorem dX5_pendingBinding_36 : decode cX5_pendingBinding 36 = .ok (.imul, 1) := by decide +kernel
theorem dX5_pendingBinding_37 : decode cX5_pendingBinding 37 = .ok (.iload_n 1, 1) := by decide +kernel
theorem dX5_pendingBinding_38 : decode cX5_pendingBinding 38 = .ok (.bipush 10, 2) := by decide +kernel
theorem dX5_pendingBinding_40 : decode cX5_pendingBinding 40 = .ok (.irem, 1) := by decide +kernel
theorem dX5_pendingBinding_41 : decode cX5_pendingBinding 41 = .ok (.iadd, 1) := by decide +kernel
theorem dX5_pendingBinding_42 : decode cX5_pendingBinding 42 = .ok (.ireturn, 1) := by decide +kernel
theorem dX5_flag_0 : decode cX5_flag 0 = .ok (.iload_n 1, 1) := by decide +kernel
theorem dX5_flag_1 : decode cX5_flag 1 = .ok (.iconst 0, 1) := by decide +kernel
theorem dX5_flag_2 : decode cX5_flag 2 = .ok (.iconst 5, 1) := by decide +kernel
theorem dX5_flag_3 : decode cX5_flag 3 = .ok (.invokestatic 68, 3) := by decide +kernel
theorem dX5_flag_6 : decode cX5_flag 6 = .ok (.ifCond .eq 12, 3) := by decide +kernel
theorem dX5_flag_9 : decode cX5_flag 9 = .ok (.aload_n 0, 1) := by decide +kernel
theorem dX5_flag_10 : decode cX5_flag 10 = .ok (.getfield 7, 3) := by decide +kernel
theorem dX5_flag_13 : decode cX5_flag 13 = .ok (.iload_n 1, 1) := by decide +kernel
theorem dX5_flag_14 : decode cX5_flag 14 = .ok (.iaload, 1) := by decide +kernel
theorem dX5_flag_15 : decode cX5_flag 15 = .ok (.goto 4, 3) := by decide +kernel
theorem dX5_flag_18 : decode cX5_flag 18 = .ok (.iconst (-1), 1) := by decide +kernel
theorem dX5_flag_19 : decode cX5_flag 19 = .ok (.ireturn, 1) := by decide +kernel
theorem dX5_stackSize_0 : decode cX5_stackSize 0 = .ok (.aload_n 0, 1) := by decide +kernel
theorem dX5_stackSize_1 : decode cX5_stackSize 1 = .ok (.getfield 13, 3) := by decide +kernel
theorem dX5_stackSize_4 : decode cX5_stackSize 4 = .ok (.ireturn, 1) := by decide +kernel
theorem dX5_stackContext_0 : decode cX5_stackContext 0 = .ok (.iload_n 1, 1) := by decide +kernel
theorem dX5_stackContext_1 : decode cX5_stackContext 1 = .ok (.ifCond .ge 5, 3) := by decide +kernel
theorem dX5_stackContext_4 : decode cX5_stackContext 4 = .ok (.iconst (-1), 1) := by decide +kernel
theorem dX5_stackContext_5 : decode cX5_stackContext 5 = .ok (.ireturn, 1) := by decide +kernel
theorem dX5_stackContext_6 : decode cX5_stackContext 6 = .ok (.iload_n 1, 1) := by decide +kernel
theorem dX5_stackContext_7 : decode cX5_stackContext 7 = .ok (.aload_n 0, 1) := by decide +kernel
theorem dX5_stackContext_8 : decode cX5_stackContext 8 = .ok (.getfield 13, 3) := by decide +kernel
theorem dX5_stackContext_11 : decode cX5_stackContext 11 = .ok (.if_icmp .ge 19, 3) := by decide +kernel
theorem dX5_stackContext_14 : decode cX5_stackContext 14 = .ok (.aload_n 0, 1) := by decide +kernel
theorem dX5_stackContext_15 : decode cX5_stackContext 15 = .ok (.getfield 17, 3) := by decide +kernel
theorem dX5_stackContext_18 : decode cX5_stackContext 18 = .ok (.aload_n 0, 1) := by decide +kernel
theorem dX5_stackContext_19 : decode cX5_stackContext 19 = .ok (.getfield 13, 3) := by decide +kernel
theorem dX5_stackContext_22 : decode cX5_stackContext 22 = .ok (.iconst 1, 1) := by decide +kernel
theorem dX5_stackContext_23 : decode cX5_stackContext 23 = .ok (.isub, 1) := by decide +kernel
theorem dX5_stackContext_24 : decode cX5_stackContext 24 = .ok (.iload_n 1, 1) := by decide +kernel
theorem dX5_stackContext_25 : decode cX5_stackContext 25 = .ok (.isub, 1) := by decide +kernel
theorem dX5_stackContext_26 : decode cX5_stackContext 26 = .ok (.iaload, 1) := by decide +kernel
theorem dX5_stackContext_27 : decode cX5_stackContext 27 = .ok (.goto 5, 3) := by decide +kernel
theorem dX5_stackContext_30 : decode cX5_stackContext 30 = .ok (.bipush (-4), 2) := by decide +kernel
theorem dX5_stackContext_32 : decode cX5_stackContext 32 = .ok (.ireturn, 1) := by decide +kernel
theorem dX5_startRecording_0 : decode cX5_startRecording 0 = .ok (.iload_n 1, 1) := by decide +kernel
theorem dX5_startRecording_1 : decode cX5_startRecording 1 = .ok (.iconst 0, 1) := by decide +kernel
theorem dX5_startRecording_2 : decode cX5_startRecording 2 = .ok (.iconst 3, 1) := by decide +kernel
theorem dX5_startRecording_3 : decode cX5_startRecording 3 = .ok (.invokestatic 68, 3) := by decide +kernel
theorem dX5_startRecording_6 : decode cX5_startRecording 6 = .ok (.ifCond .ne 5, 3) := by decide +kernel
theorem dX5_startRecording_9 : decode cX5_startRecording 9 = .ok (.iconst (-1), 1) := by decide +kernel
theorem dX5_startRecording_10 : decode cX5_startRecording 10 = .ok (.ireturn, 1) := by decide +kernel
theorem dX5_startRecording_11 : decode cX5_startRecording 11 = .ok (.aload_n 0, 1) := by decide +kernel
theorem dX5_startRecording_12 : decode cX5_startRecording 12 = .ok (.getfield 53, 3) := by decide +kernel
theorem dX5_startRecording_15 : decode cX5_startRecording 15 = .ok (.ifCond .lt 6, 3) := by decide +kernel
theorem dX5_startRecording_18 : decode cX5_startRecording 18 = .ok (.bipush (-2), 2) := by decide +kernel
theorem dX5_startRecording_20 : decode cX5_startRecording 20 = .ok (.ireturn, 1) := by decide +kernel
theorem dX5_startRecording_21 : decode cX5_startRecording 21 = .ok (.aload_n 0, 1) := by decide +kernel
theorem dX5_startRecording_22 : decode cX5_startRecording 22 = .ok (.iload_n 1, 1) := by decide +kernel
theorem dX5_startRecording_23 : decode cX5_startRecording 23 = .ok (.putfield 53, 3) := by decide +kernel
theorem dX5_startRecording_26 : decode cX5_startRecording 26 = .ok (.aload_n 0, 1) := by decide +kernel
theorem dX5_startRecording_27 : decode cX5_startRecording 27 = .ok (.getfield 56, 3) := by decide +kernel
theorem dX5_startRecording_30 : decode cX5_startRecording 30 = .ok (.iload_n 1, 1) := by decide +kernel
theorem dX5_startRecording_31 : decode cX5_startRecording 31 = .ok (.iaload, 1) := by decide +kernel
theorem dX5_startRecording_32 : decode cX5_startRecording 32 = .ok (.istore_n 2, 1) := by decide +kernel
theorem dX5_startRecording_33 : decode cX5_startRecording 33 = .ok (.aload_n 0, 1) := by decide +kernel
theorem dX5_startRecording_34 : decode cX5_startRecording 34 = .ok (.getfield 56, 3) := by decide +kernel
theorem dX5_startRecording_37 : decode cX5_startRecording 37 = .ok (.iload_n 1, 1) := by decide +kernel
theorem dX5_startRecording_38 : decode cX5_startRecording 38 = .ok (.iconst 0, 1) := by decide +kernel
theorem dX5_startRecording_39 : decode cX5_startRecording 39 = .ok (.iastore, 1) := by decide +kernel
theorem dX5_startRecording_40 : decode cX5_startRecording 40 = .ok (.iload_n 2, 1) := by decide +kernel
theorem dX5_startRecording_41 : decode cX5_startRecording 41 = .ok (.ireturn, 1) := by decide +kernel
theorem dX5_stopRecording_0 : decode cX5_stopRecording 0 = .ok (.aload_n 0, 1) := by decide +kernel
theorem dX5_stopRecording_1 : decode cX5_stopRecording 1 = .ok (.getfield 53, 3) := by decide +kernel
theorem dX5_stopRecording_4 : decode cX5_stopRecording 4 = .ok (.ifCond .ge 6, 3) := by decide +kernel
theorem dX5_stopRecording_7 : decode cX5_stopRecording 7 = .ok (.bipush (-2), 2) := by decide +kernel
theorem dX5_stopRecording_9 : decode cX5_stopRecording 9 = .ok (.ireturn, 1) := by decide +kernel
theorem dX5_stopRecording_10 : decode cX5_stopRecording 10 = .ok (.aload_n 0, 1) := by decide +kernel
theorem dX5_stopRecording_11 : decode cX5_stopRecording 11 = .ok (.getfield 56, 3) := by decide +kernel
theorem dX5_stopRecording_14 : decode cX5_stopRecording 14 = .ok (.aload_n 0, 1) := by decide +kernel
theorem dX5_stopRecording_15 : decode cX5_stopRecording 15 = .ok (.getfield 53, 3) := by decide +kernel
theorem dX5_stopRecording_18 : decode cX5_stopRecording 18 = .ok (.iaload, 1) := by decide +kernel
theorem dX5_stopRecording_19 : decode cX5_stopRecording 19 = .ok (.istore_n 1, 1) := by decide +kernel
theorem dX5_stopRecording_20 : decode cX5_stopRecording 20 = .ok (.aload_n 0, 1) := by decide +kernel
theorem dX5_stopRecording_21 : decode cX5_stopRecording 21 = .ok (.bipush (-4), 2) := by decide +kernel
theorem dX5_stopRecording_23 : decode cX5_stopRecording 23 = .ok (.putfield 53, 3) := by decide +kernel
theorem dX5_stopRecording_26 : decode cX5_stopRecording 26 = .ok (.iload_n 1, 1) := by decide +kernel
theorem dX5_stopRecording_27 : decode cX5_stopRecording 27 = .ok (.ireturn, 1) := by decide +kernel
theorem dX5_macroKey_0 : decode cX5_macroKey 0 = .ok (.iload_n 1, 1) := by decide +kernel
theorem dX5_macroKey_1 : decode cX5_macroKey 1 = .ok (.iconst 0, 1) := by decide +kernel
theorem dX5_macroKey_2 : decode cX5_macroKey 2 = .ok (.iconst 3, 1) := by decide +kernel
theorem dX5_macroKey_3 : decode cX5_macroKey 3 = .ok (.invokestatic 68, 3) := by decide +kernel
theorem dX5_macroKey_6 : decode cX5_macroKey 6 = .ok (.ifCond .eq 7, 3) := by decide +kernel
theorem dX5_macroKey_9 : decode cX5_macroKey 9 = .ok (.iload_n 2, 1) := by decide +kernel
theorem dX5_macroKey_10 : decode cX5_macroKey 10 = .ok (.ifCond .ge 5, 3) := by decide +kernel
theorem dX5_macroKey_13 : decode cX5_macroKey 13 = .ok (.iconst (-1), 1) := by decide +kernel
theorem dX5_macroKey_14 : decode cX5_macroKey 14 = .ok (.ireturn, 1) := by decide +kernel
theorem dX5_macroKey_15 : decode cX5_macroKey 15 = .ok (.iload_n 2, 1) := by decide +kernel
theorem dX5_macroKey_16 : decode cX5_macroKey 16 = .ok (.aload_n 0, 1) := by decide +kernel
theorem dX5_macroKey_17 : decode cX5_macroKey 17 = .ok (.getfield 56, 3) := by decide +kernel
theorem dX5_macroKey_20 : decode cX5_macroKey 20 = .ok (.iload_n 1, 1) := by decide +kernel
theorem dX5_macroKey_21 : decode cX5_macroKey 21 = .ok (.iaload, 1) := by decide +kernel
theorem dX5_macroKey_22 : decode cX5_macroKey 22 = .ok (.if_icmp .ge 17, 3) := by decide +kernel
theorem dX5_macroKey_25 : decode cX5_macroKey 25 = .ok (.aload_n 0, 1) := by decide +kernel
theorem dX5_macroKey_26 : decode cX5_macroKey 26 = .ok (.getfield 59, 3) := by decide +kernel
theorem dX5_macroKey_29 : decode cX5_macroKey 29 = .ok (.bipush 12, 2) := by decide +kernel
theorem dX5_macroKey_31 : decode cX5_macroKey 31 = .ok (.iload_n 1, 1) := by decide +kernel
theorem dX5_macroKey_32 : decode cX5_macroKey 32 = .ok (.imul, 1) := by decide +kernel
theorem dX5_macroKey_33 : decode cX5_macroKey 33 = .ok (.iload_n 2, 1) := by decide +kernel
theorem dX5_macroKey_34 : decode cX5_macroKey 34 = .ok (.iadd, 1) := by decide +kernel
theorem dX5_macroKey_35 : decode cX5_macroKey 35 = .ok (.iaload, 1) := by decide +kernel
theorem dX5_macroKey_36 : decode cX5_macroKey 36 = .ok (.goto 5, 3) := by decide +kernel
theorem dX5_macroKey_39 : decode cX5_macroKey 39 = .ok (.bipush (-4), 2) := by decide +kernel
theorem dX5_macroKey_41 : decode cX5_macroKey 41 = .ok (.ireturn, 1) := by decide +kernel
theorem dX5_reportCount_0 : decode cX5_reportCount 0 = .ok (.aload_n 0, 1) := by decide +kernel
theorem dX5_reportCount_1 : decode cX5_reportCount 1 = .ok (.getfield 89, 3) := by decide +kernel
theorem dX5_reportCount_4 : decode cX5_reportCount 4 = .ok (.ireturn, 1) := by decide +kernel
theorem dX5_errorOf_0 : decode cX5_errorOf 0 = .ok (.iload_n 1, 1) := by decide +kernel
theorem dX5_errorOf_1 : decode cX5_errorOf 1 = .ok (.ifCond .ge 5, 3) := by decide +kernel
theorem dX5_errorOf_4 : decode cX5_errorOf 4 = .ok (.iconst (-1), 1) := by decide +kernel
theorem dX5_errorOf_5 : decode cX5_errorOf 5 = .ok (.ireturn, 1) := by decide +kernel
theorem dX5_errorOf_6 : decode cX5_errorOf 6 = .ok (.iload_n 1, 1) := by decide +kernel
theorem dX5_errorOf_7 : decode cX5_errorOf 7 = .ok (.aload_n 0, 1) := by decide +kernel
theorem dX5_errorOf_8 : decode cX5_errorOf 8 = .ok (.getfield 89, 3) := by decide +kernel
theorem dX5_errorOf_11 : decode cX5_errorOf 11 = .ok (.if_icmp .ge 18, 3) := by decide +kernel
theorem dX5_errorOf_14 : decode cX5_errorOf 14 = .ok (.iload_n 1, 1) := by decide +kernel
theorem dX5_errorOf_15 : decode cX5_errorOf 15 = .ok (.aload_n 0, 1) := by decide +kernel
theorem dX5_errorOf_16 : decode cX5_errorOf 16 = .ok (.getfield 89, 3) := by decide +kernel
theorem dX5_errorOf_19 : decode cX5_errorOf 19 = .ok (.bipush 40, 2) := by decide +kernel
theorem dX5_errorOf_21 : decode cX5_errorOf 21 = .ok (.isub, 1) := by decide +kernel
theorem dX5_errorOf_22 : decode cX5_errorOf 22 = .ok (.if_icmp .lt 7, 3) := by decide +kernel
theorem dX5_errorOf_25 : decode cX5_errorOf 25 = .ok (.iconst 0, 1) := by decide +kernel
theorem dX5_errorOf_26 : decode cX5_errorOf 26 = .ok (.goto 5, 3) := by decide +kernel
theorem dX5_errorOf_29 : decode cX5_errorOf 29 = .ok (.bipush (-4), 2) := by decide +kernel
theorem dX5_errorOf_31 : decode cX5_errorOf 31 = .ok (.ireturn, 1) := by decide +kernel
theorem dX5_reportKind_0 : decode cX5_reportKind 0 = .ok (.aload_n 0, 1) := by decide +kernel
theorem dX5_reportKind_1 : decode cX5_reportKind 1 = .ok (.iload_n 1, 1) := by decide +kernel
theorem dX5_reportKind_2 : decode cX5_reportKind 2 = .ok (.invokevirtual 134, 3) := by decide +kernel
theorem dX5_reportKind_5 : decode cX5_reportKind 5 = .ok (.istore_n 2, 1) := by decide +kernel
theorem dX5_reportKind_6 : decode cX5_reportKind 6 = .ok (.iload_n 2, 1) := by decide +kernel
theorem dX5_reportKind_7 : decode cX5_reportKind 7 = .ok (.ifCond .ge 7, 3) := by decide +kernel
theorem dX5_reportKind_10 : decode cX5_reportKind 10 = .ok (.iload_n 2, 1) := by decide +kernel
theorem dX5_reportKind_11 : decode cX5_reportKind 11 = .ok (.goto 12, 3) := by decide +kernel
theorem dX5_reportKind_14 : decode cX5_reportKind 14 = .ok (.aload_n 0, 1) := by decide +kernel
theorem dX5_reportKind_15 : decode cX5_reportKind 15 = .ok (.getfield 62, 3) := by decide +kernel
theorem dX5_reportKind_18 : decode cX5_reportKind 18 = .ok (.iload_n 1, 1) := by decide +kernel
theorem dX5_reportKind_19 : decode cX5_reportKind 19 = .ok (.bipush 40, 2) := by decide +kernel
theorem dX5_reportKind_21 : decode cX5_reportKind 21 = .ok (.irem, 1) := by decide +kernel
theorem dX5_reportKind_22 : decode cX5_reportKind 22 = .ok (.iaload, 1) := by decide +kernel
theorem dX5_reportKind_23 : decode cX5_reportKind 23 = .ok (.ireturn, 1) := by decide +kernel
theorem dX5_reportArgument_0 : decode cX5_reportArgument 0 = .ok (.aload_n 0, 1) := by decide +kernel
theorem dX5_reportArgument_1 : decode cX5_reportArgument 1 = .ok (.iload_n 1, 1) := by decide +kernel
theorem dX5_reportArgument_2 : decode cX5_reportArgument 2 = .ok (.invokevirtual 134, 3) := by decide +kernel
theorem dX5_reportArgument_5 : decode cX5_reportArgument 5 = .ok (.istore_n 2, 1) := by decide +kernel
theorem dX5_reportArgument_6 : decode cX5_reportArgument 6 = .ok (.iload_n 2, 1) := by decide +kernel
theorem dX5_reportArgument_7 : decode cX5_reportArgument 7 = .ok (.ifCond .ge 7, 3) := by decide +kernel
theorem dX5_reportArgument_10 : decode cX5_reportArgument 10 = .ok (.iload_n 2, 1) := by decide +kernel
theorem dX5_reportArgument_11 : decode cX5_reportArgument 11 = .ok (.goto 12, 3) := by decide +kernel
theorem dX5_reportArgument_14 : decode cX5_reportArgument 14 = .ok (.aload_n 0, 1) := by decide +kernel
theorem dX5_reportArgument_15 : decode cX5_reportArgument 15 = .ok (.getfield 65, 3) := by decide +kernel
theorem dX5_reportArgument_18 : decode cX5_reportArgument 18 = .ok (.iload_n 1, 1) := by decide +kernel
theorem dX5_reportArgument_19 : decode cX5_reportArgument 19 = .ok (.bipush 40, 2) := by decide +kernel
theorem dX5_reportArgument_21 : decode cX5_reportArgument 21 = .ok (.irem, 1) := by decide +kernel
theorem dX5_reportArgument_22 : decode cX5_reportArgument 22 = .ok (.iaload, 1) := by decide +kernel
theorem dX5_reportArgument_23 : decode cX5_reportArgument 23 = .ok (.ireturn, 1) := by decide +kernel
theorem dJ9_floorMod_7cf53_0 : decode cJ9_floorMod_7cf53 0 = .ok (.iload_n 0, 1) := by decide +kernel
theorem dJ9_floorMod_7cf53_1 : decode cJ9_floorMod_7cf53 1 = .ok (.iload_n 1, 1) := by decide +kernel
theorem dJ9_floorMod_7cf53_2 : decode cJ9_floorMod_7cf53 2 = .ok (.irem, 1) := by decide +kernel
theorem dJ9_floorMod_7cf53_3 : decode cJ9_floorMod_7cf53 3 = .ok (.istore_n 2, 1) := by decide +kernel
theorem dJ9_floorMod_7cf53_4 : decode cJ9_floorMod_7cf53 4 = .ok (.iload_n 0, 1) := by decide +kernel
theorem dJ9_floorMod_7cf53_5 : decode cJ9_floorMod_7cf53 5 = .ok (.iload_n 1, 1) := by decide +kernel
theorem dJ9_floorMod_7cf53_6 : decode cJ9_floorMod_7cf53 6 = .ok (.ixor, 1) := by decide +kernel
theorem dJ9_floorMod_7cf53_7 : decode cJ9_floorMod_7cf53 7 = .ok (.ifCond .ge 11, 3) := by decide +kernel
theorem dJ9_floorMod_7cf53_10 : decode cJ9_floorMod_7cf53 10 = .ok (.iload_n 2, 1) := by decide +kernel
theorem dJ9_floorMod_7cf53_11 : decode cJ9_floorMod_7cf53 11 = .ok (.ifCond .eq 7, 3) := by decide +kernel
theorem dJ9_floorMod_7cf53_14 : decode cJ9_floorMod_7cf53 14 = .ok (.iload_n 2, 1) := by decide +kernel
theorem dJ9_floorMod_7cf53_15 : decode cJ9_floorMod_7cf53 15 = .ok (.iload_n 1, 1) := by decide +kernel
theorem dJ9_floorMod_7cf53_16 : decode cJ9_floorMod_7cf53 16 = .ok (.iadd, 1) := by decide +kernel
theorem dJ9_floorMod_7cf53_17 : decode cJ9_floorMod_7cf53 17 = .ok (.ireturn, 1) := by decide +kernel
theorem dJ9_floorMod_7cf53_18 : decode cJ9_floorMod_7cf53 18 = .ok (.iload_n 2, 1) := by decide +kernel
theorem dJ9_floorMod_7cf53_19 : decode cJ9_floorMod_7cf53 19 = .ok (.ireturn, 1) := by decide +kernel
theorem dJ9_max_7cf53_0 : decode cJ9_max_7cf53 0 = .ok (.iload_n 0, 1) := by decide +kernel
theorem dJ9_max_7cf53_1 : decode cJ9_max_7cf53 1 = .ok (.iload_n 1, 1) := by decide +kernel
theorem dJ9_max_7cf53_2 : decode cJ9_max_7cf53 2 = .ok (.if_icmp .lt 7, 3) := by decide +kernel
theorem dJ9_max_7cf53_5 : decode cJ9_max_7cf53 5 = .ok (.iload_n 0, 1) := by decide +kernel
theorem dJ9_max_7cf53_6 : decode cJ9_max_7cf53 6 = .ok (.goto 4, 3) := by decide +kernel
theorem dJ9_max_7cf53_9 : decode cJ9_max_7cf53 9 = .ok (.iload_n 1, 1) := by decide +kernel
theorem dJ9_max_7cf53_10 : decode cJ9_max_7cf53 10 = .ok (.ireturn, 1) := by decide +kernel
theorem dJ9_min_7cf53_0 : decode cJ9_min_7cf53 0 = .ok (.iload_n 0, 1) := by decide +kernel
theorem dJ9_min_7cf53_1 : decode cJ9_min_7cf53 1 = .ok (.iload_n 1, 1) := by decide +kernel
theorem dJ9_min_7cf53_2 : decode cJ9_min_7cf53 2 = .ok (.if_icmp .gt 7, 3) := by decide +kernel
theorem dJ9_min_7cf53_5 : decode cJ9_min_7cf53 5 = .ok (.iload_n 0, 1) := by decide +kernel
theorem dJ9_min_7cf53_6 : decode cJ9_min_7cf53 6 = .ok (.goto 4, 3) := by decide +kernel
theorem dJ9_min_7cf53_9 : decode cJ9_min_7cf53 9 = .ok (.iload_n 1, 1) := by decide +kernel
theorem dJ9_min_7cf53_10 : decode cJ9_min_7cf53 10 = .ok (.ireturn, 1) := by decide +kernel
theorem dJxa1e45_init_da8c8_0 : decode cJxa1e45_init_da8c8 0 = .ok (.aload_n 0, 1) := by decide +kernel
theorem dJxa1e45_init_da8c8_1 : decode cJxa1e45_init_da8c8 1 = .ok (.invokespecial 1, 3) := by decide +kernel
theorem dJxa1e45_init_da8c8_4 : decode cJxa1e45_init_da8c8 4 = .ok (.return_, 1) := by decide +kernel
theorem dJxc12de_init_da8c8_0 : decode cJxc12de_init_da8c8 0 = .ok (.aload_n 0, 1) := by decide +kernel
theorem dJxc12de_init_da8c8_1 : decode cJxc12de_init_da8c8 1 = .ok (.invokespecial 1, 3) := by decide +kernel
theorem dJxc12de_init_da8c8_4 : decode cJxc12de_init_da8c8 4 = .ok (.aload_n 0, 1) := by decide +kernel
theorem dJxc12de_init_da8c8_5 : decode cJxc12de_init_da8c8 5 = .ok (.iconst 0, 1) := by decide +kernel
theorem dJxc12de_init_da8c8_6 : decode cJxc12de_init_da8c8 6 = .ok (.putfield 7, 3) := by decide +kernel
theorem dJxc12de_init_da8c8_9 : decode cJxc12de_init_da8c8 9 = .ok (.return_, 1) := by decide +kernel
theorem dJx4a65c_init_da8c8_0 : decode cJx4a65c_init_da8c8 0 = .ok (.aload_n 0, 1) := by decide +kernel
theorem dJx4a65c_init_da8c8_1 : decode cJx4a65c_init_da8c8 1 = .ok (.invokespecial 1, 3) := by decide +kernel
theorem dJx4a65c_init_da8c8_4 : decode cJx4a65c_init_da8c8 4 = .ok (.aload_n 0, 1) := by decide +kernel
theorem dJx4a65c_init_da8c8_5 : decode cJx4a65c_init_da8c8 5 = .ok (.getstatic 39, 3) := by decide +kernel
theorem dJx4a65c_init_da8c8_8 : decode cJx4a65c_init_da8c8 8 = .ok (.putfield 9, 3) := by decide +kernel
theorem dJx4a65c_init_da8c8_11 : decode cJx4a65c_init_da8c8 11 = .ok (.return_, 1) := by decide +kernel
theorem dJx4a65c_grow_92f84_0 : decode cJx4a65c_grow_92f84 0 = .ok (.aload_n 0, 1) := by decide +kernel
theorem dJx4a65c_grow_92f84_1 : decode cJx4a65c_grow_92f84 1 = .ok (.getfield 9, 3) := by decide +kernel
theorem dJx4a65c_grow_92f84_4 : decode cJx4a65c_grow_92f84 4 = .ok (.arraylength, 1) := by decide +kernel
theorem dJx4a65c_grow_92f84_5 : decode cJx4a65c_grow_92f84 5 = .ok (.istore_n 2, 1) := by decide +kernel
theorem dJx4a65c_grow_92f84_6 : decode cJx4a65c_grow_92f84 6 = .ok (.iload_n 2, 1) := by decide +kernel
theorem dJx4a65c_grow_92f84_7 : decode cJx4a65c_grow_92f84 7 = .ok (.ifCond .gt 13, 3) := by decide +kernel
theorem dJx4a65c_grow_92f84_10 : decode cJx4a65c_grow_92f84 10 = .ok (.aload_n 0, 1) := by decide +kernel
theorem dJx4a65c_grow_92f84_11 : decode cJx4a65c_grow_92f84 11 = .ok (.getfield 9, 3) := by decide +kernel
theorem dJx4a65c_grow_92f84_14 : decode cJx4a65c_grow_92f84 14 = .ok (.getstatic 39, 3) := by decide +kernel
theorem dJx4a65c_grow_92f84_17 : decode cJx4a65c_grow_92f84 17 = .ok (.if_acmp .eq 28, 3) := by decide +kernel
theorem dJx4a65c_grow_92f84_20 : decode cJx4a65c_grow_92f84 20 = .ok (.iload_n 2, 1) := by decide +kernel
theorem dJx4a65c_grow_92f84_21 : decode cJx4a65c_grow_92f84 21 = .ok (.iload_n 1, 1) := by decide +kernel
theorem dJx4a65c_grow_92f84_22 : decode cJx4a65c_grow_92f84 22 = .ok (.iload_n 2, 1) := by decide +kernel
theorem dJx4a65c_grow_92f84_23 : decode cJx4a65c_grow_92f84 23 = .ok (.isub, 1) := by decide +kernel
theorem dJx4a65c_grow_92f84_24 : decode cJx4a65c_grow_92f84 24 = .ok (.iload_n 2, 1) := by decide +kernel
theorem dJx4a65c_grow_92f84_25 : decode cJx4a65c_grow_92f84 25 = .ok (.iconst 1, 1) := by decide +kernel
theorem dJx4a65c_grow_92f84_26 : decode cJx4a65c_grow_92f84 26 = .ok (.ishr, 1) := by decide +kernel
theorem dJx4a65c_grow_92f84_27 : decode cJx4a65c_grow_92f84 27 = .ok (.invokestatic 73, 3) := by decide +kernel
theorem dJx4a65c_grow_92f84_30 : decode cJx4a65c_grow_92f84 30 = .ok (.istore_n 3, 1) := by decide +kernel
theorem dJx4a65c_grow_92f84_31 : decode cJx4a65c_grow_92f84 31 = .ok (.aload_n 0, 1) := by decide +kernel
theorem dJx4a65c_grow_92f84_32 : decode cJx4a65c_grow_92f84 32 = .ok (.aload_n 0, 1) := by decide +kernel
theorem dJx4a65c_grow_92f84_33 : decode cJx4a65c_grow_92f84 33 = .ok (.getfield 9, 3) := by decide +kernel
theorem dJx4a65c_grow_92f84_36 : decode cJx4a65c_grow_92f84 36 = .ok (.iload_n 3, 1) := by decide +kernel
theorem dJx4a65c_grow_92f84_37 : decode cJx4a65c_grow_92f84 37 = .ok (.invokestatic 66, 3) := by decide +kernel
theorem dJx4a65c_grow_92f84_40 : decode cJx4a65c_grow_92f84 40 = .ok (.dup_x1, 1) := by decide +kernel
theorem dJx4a65c_grow_92f84_41 : decode cJx4a65c_grow_92f84 41 = .ok (.putfield 9, 3) := by decide +kernel
theorem dJx4a65c_grow_92f84_44 : decode cJx4a65c_grow_92f84 44 = .ok (.areturn, 1) := by decide +kernel
theorem dJx4a65c_grow_92f84_45 : decode cJx4a65c_grow_92f84 45 = .ok (.aload_n 0, 1) := by decide +kernel
theorem dJx4a65c_grow_92f84_46 : decode cJx4a65c_grow_92f84 46 = .ok (.bipush 10, 2) := by decide +kernel
theorem dJx4a65c_grow_92f84_48 : decode cJx4a65c_grow_92f84 48 = .ok (.iload_n 1, 1) := by decide +kernel
theorem dJx4a65c_grow_92f84_49 : decode cJx4a65c_grow_92f84 49 = .ok (.invokestatic 79, 3) := by decide +kernel
theorem dJx4a65c_grow_92f84_52 : decode cJx4a65c_grow_92f84 52 = .ok (.anewarray 7, 3) := by decide +kernel
theorem dJx4a65c_grow_92f84_55 : decode cJx4a65c_grow_92f84 55 = .ok (.dup_x1, 1) := by decide +kernel
theorem dJx4a65c_grow_92f84_56 : decode cJx4a65c_grow_92f84 56 = .ok (.putfield 9, 3) := by decide +kernel
theorem dJx4a65c_grow_92f84_59 : decode cJx4a65c_grow_92f84 59 = .ok (.areturn, 1) := by decide +kernel
theorem dJx4a65c_grow_d5877_0 : decode cJx4a65c_grow_d5877 0 = .ok (.aload_n 0, 1) := by decide +kernel
theorem dJx4a65c_grow_d5877_1 : decode cJx4a65c_grow_d5877 1 = .ok (.aload_n 0, 1) := by decide +kernel
theorem dJx4a65c_grow_d5877_2 : decode cJx4a65c_grow_d5877 2 = .ok (.getfield 48, 3) := by decide +kernel
theorem dJx4a65c_grow_d5877_5 : decode cJx4a65c_grow_d5877 5 = .ok (.iconst 1, 1) := by decide +kernel
theorem dJx4a65c_grow_d5877_6 : decode cJx4a65c_grow_d5877 6 = .ok (.iadd, 1) := by decide +kernel
theorem dJx4a65c_grow_d5877_7 : decode cJx4a65c_grow_d5877 7 = .ok (.invokevirtual 69, 3) := by decide +kernel
theorem dJx4a65c_grow_d5877_10 : decode cJx4a65c_grow_d5877 10 = .ok (.areturn, 1) := by decide +kernel
theorem dJx4a65c_size_8abf5_0 : decode cJx4a65c_size_8abf5 0 = .ok (.aload_n 0, 1) := by decide +kernel
theorem dJx4a65c_size_8abf5_1 : decode cJx4a65c_size_8abf5 1 = .ok (.getfield 48, 3) := by decide +kernel
theorem dJx4a65c_size_8abf5_4 : decode cJx4a65c_size_8abf5 4 = .ok (.ireturn, 1) := by decide +kernel
theorem dJx4a65c_elementData_915e3_0 : decode cJx4a65c_elementData_915e3 0 = .ok (.aload_n 0, 1) := by decide +kernel
theorem dJx4a65c_elementData_915e3_1 : decode cJx4a65c_elementData_915e3 1 = .ok (.getfield 9, 3) := by decide +kernel
theorem dJx4a65c_elementData_915e3_4 : decode cJx4a65c_elementData_915e3 4 = .ok (.iload_n 1, 1) := by decide +kernel
theorem dJx4a65c_elementData_915e3_5 : decode cJx4a65c_elementData_915e3 5 = .ok (.aaload, 1) := by decide +kernel
theorem dJx4a65c_elementData_915e3_6 : decode cJx4a65c_elementData_915e3 6 = .ok (.areturn, 1) := by decide +kernel
theorem dJx4a65c_get_915e3_0 : decode cJx4a65c_get_915e3 0 = .ok (.iload_n 1, 1) := by decide +kernel
theorem dJx4a65c_get_915e3_1 : decode cJx4a65c_get_915e3 1 = .ok (.aload_n 0, 1) := by decide +kernel
theorem dJx4a65c_get_915e3_2 : decode cJx4a65c_get_915e3 2 = .ok (.getfield 48, 3) := by decide +kernel
theorem dJx4a65c_get_915e3_5 : decode cJx4a65c_get_915e3 5 = .ok (.invokestatic 118, 3) := by decide +kernel
theorem dJx4a65c_get_915e3_8 : decode cJx4a65c_get_915e3 8 = .ok (.pop, 1) := by decide +kernel
theorem dJx4a65c_get_915e3_9 : decode cJx4a65c_get_915e3 9 = .ok (.aload_n 0, 1) := by decide +kernel
theorem dJx4a65c_get_915e3_10 : decode cJx4a65c_get_915e3 10 = .ok (.iload_n 1, 1) := by decide +kernel
theorem dJx4a65c_get_915e3_11 : decode cJx4a65c_get_915e3 11 = .ok (.invokevirtual 123, 3) := by decide +kernel
theorem dJx4a65c_get_915e3_14 : decode cJx4a65c_get_915e3 14 = .ok (.areturn, 1) := by decide +kernel
theorem dJx4a65c_add_72be8_0 : decode cJx4a65c_add_72be8 0 = .ok (.iload_n 3, 1) := by decide +kernel
theorem dJx4a65c_add_72be8_1 : decode cJx4a65c_add_72be8 1 = .ok (.aload_n 2, 1) := by decide +kernel
theorem dJx4a65c_add_72be8_2 : decode cJx4a65c_add_72be8 2 = .ok (.arraylength, 1) := by decide +kernel
theorem dJx4a65c_add_72be8_3 : decode cJx4a65c_add_72be8 3 = .ok (.if_icmp .ne 8, 3) := by decide +kernel
theorem dJx4a65c_add_72be8_6 : decode cJx4a65c_add_72be8 6 = .ok (.aload_n 0, 1) := by decide +kernel
theorem dJx4a65c_add_72be8_7 : decode cJx4a65c_add_72be8 7 = .ok (.invokevirtual 129, 3) := by decide +kernel

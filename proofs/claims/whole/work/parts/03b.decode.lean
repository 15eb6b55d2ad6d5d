theorem dX4_isExtensible_39 : decode cX4_isExtensible 39 = .ok (.aload_n 2, 1) := by decide +kernel
theorem dX4_isExtensible_40 : decode cX4_isExtensible 40 = .ok (.iload_n 3, 1) := by decide +kernel
theorem dX4_isExtensible_41 : decode cX4_isExtensible 41 = .ok (.invokevirtual 101, 3) := by decide +kernel
theorem dX4_isExtensible_44 : decode cX4_isExtensible 44 = .ok (.checkcast 109, 3) := by decide +kernel
theorem dX4_isExtensible_47 : decode cX4_isExtensible 47 = .ok (.astore 4, 2) := by decide +kernel
theorem dX4_isExtensible_49 : decode cX4_isExtensible 49 = .ok (.aload 4, 2) := by decide +kernel
theorem dX4_isExtensible_51 : decode cX4_isExtensible 51 = .ok (.aload_n 0, 1) := by decide +kernel
theorem dX4_isExtensible_52 : decode cX4_isExtensible 52 = .ok (.getfield 18, 3) := by decide +kernel
theorem dX4_isExtensible_55 : decode cX4_isExtensible 55 = .ok (.invokevirtual 170, 3) := by decide +kernel
theorem dX4_isExtensible_58 : decode cX4_isExtensible 58 = .ok (.ifCond .eq 17, 3) := by decide +kernel
theorem dX4_isExtensible_61 : decode cX4_isExtensible 61 = .ok (.aload 4, 2) := by decide +kernel
theorem dX4_isExtensible_63 : decode cX4_isExtensible 63 = .ok (.aload_n 0, 1) := by decide +kernel
theorem dX4_isExtensible_64 : decode cX4_isExtensible 64 = .ok (.getfield 44, 3) := by decide +kernel
theorem dX4_isExtensible_67 : decode cX4_isExtensible 67 = .ok (.invokevirtual 174, 3) := by decide +kernel
theorem dX4_isExtensible_70 : decode cX4_isExtensible 70 = .ok (.ifCond .eq 5, 3) := by decide +kernel
theorem dX4_isExtensible_73 : decode cX4_isExtensible 73 = .ok (.iconst 1, 1) := by decide +kernel
theorem dX4_isExtensible_74 : decode cX4_isExtensible 74 = .ok (.ireturn, 1) := by decide +kernel
theorem dX4_isExtensible_75 : decode cX4_isExtensible 75 = .ok (.iinc 3 1, 3) := by decide +kernel
theorem dX4_isExtensible_78 : decode cX4_isExtensible 78 = .ok (.goto (-47), 3) := by decide +kernel
theorem dX4_isExtensible_81 : decode cX4_isExtensible 81 = .ok (.iinc 1 (-1), 3) := by decide +kernel
theorem dX4_isExtensible_84 : decode cX4_isExtensible 84 = .ok (.goto (-74), 3) := by decide +kernel
theorem dX4_isExtensible_87 : decode cX4_isExtensible 87 = .ok (.iconst 0, 1) := by decide +kernel
theorem dX4_isExtensible_88 : decode cX4_isExtensible 88 = .ok (.ireturn, 1) := by decide +kernel
theorem dX4_releasePending_0 : decode cX4_releasePending 0 = .ok (.aload_n 0, 1) := by decide +kernel
theorem dX4_releasePending_1 : decode cX4_releasePending 1 = .ok (.getfield 18, 3) := by decide +kernel
theorem dX4_releasePending_4 : decode cX4_releasePending 4 = .ok (.invokevirtual 84, 3) := by decide +kernel
theorem dX4_releasePending_7 : decode cX4_releasePending 7 = .ok (.istore_n 1, 1) := by decide +kernel
theorem dX4_releasePending_8 : decode cX4_releasePending 8 = .ok (.aload_n 0, 1) := by decide +kernel
theorem dX4_releasePending_9 : decode cX4_releasePending 9 = .ok (.iload_n 1, 1) := by decide +kernel
theorem dX4_releasePending_10 : decode cX4_releasePending 10 = .ok (.invokevirtual 151, 3) := by decide +kernel
theorem dX4_releasePending_13 : decode cX4_releasePending 13 = .ok (.istore_n 2, 1) := by decide +kernel
theorem dX4_releasePending_14 : decode cX4_releasePending 14 = .ok (.iload_n 2, 1) := by decide +kernel
theorem dX4_releasePending_15 : decode cX4_releasePending 15 = .ok (.bipush (-4), 2) := by decide +kernel
theorem dX4_releasePending_17 : decode cX4_releasePending 17 = .ok (.if_icmp .ne 20, 3) := by decide +kernel
theorem dX4_releasePending_20 : decode cX4_releasePending 20 = .ok (.iload_n 1, 1) := by decide +kernel
theorem dX4_releasePending_21 : decode cX4_releasePending 21 = .ok (.iconst 1, 1) := by decide +kernel
theorem dX4_releasePending_22 : decode cX4_releasePending 22 = .ok (.if_icmp .le 15, 3) := by decide +kernel
theorem dX4_releasePending_25 : decode cX4_releasePending 25 = .ok (.iinc 1 (-1), 3) := by decide +kernel
theorem dX4_releasePending_28 : decode cX4_releasePending 28 = .ok (.aload_n 0, 1) := by decide +kernel
theorem dX4_releasePending_29 : decode cX4_releasePending 29 = .ok (.iload_n 1, 1) := by decide +kernel
theorem dX4_releasePending_30 : decode cX4_releasePending 30 = .ok (.invokevirtual 151, 3) := by decide +kernel
theorem dX4_releasePending_33 : decode cX4_releasePending 33 = .ok (.istore_n 2, 1) := by decide +kernel
theorem dX4_releasePending_34 : decode cX4_releasePending 34 = .ok (.goto (-20), 3) := by decide +kernel
theorem dX4_releasePending_37 : decode cX4_releasePending 37 = .ok (.aload_n 0, 1) := by decide +kernel
theorem dX4_releasePending_38 : decode cX4_releasePending 38 = .ok (.getfield 18, 3) := by decide +kernel
theorem dX4_releasePending_41 : decode cX4_releasePending 41 = .ok (.iconst 0, 1) := by decide +kernel
theorem dX4_releasePending_42 : decode cX4_releasePending 42 = .ok (.invokevirtual 147, 3) := by decide +kernel
theorem dX4_releasePending_45 : decode cX4_releasePending 45 = .ok (.istore_n 3, 1) := by decide +kernel
theorem dX4_releasePending_46 : decode cX4_releasePending 46 = .ok (.aload_n 0, 1) := by decide +kernel
theorem dX4_releasePending_47 : decode cX4_releasePending 47 = .ok (.getfield 18, 3) := by decide +kernel
theorem dX4_releasePending_50 : decode cX4_releasePending 50 = .ok (.invokevirtual 84, 3) := by decide +kernel
theorem dX4_releasePending_53 : decode cX4_releasePending 53 = .ok (.iconst 1, 1) := by decide +kernel
theorem dX4_releasePending_54 : decode cX4_releasePending 54 = .ok (.isub, 1) := by decide +kernel
theorem dX4_releasePending_55 : decode cX4_releasePending 55 = .ok (.istore 4, 2) := by decide +kernel
theorem dX4_releasePending_57 : decode cX4_releasePending 57 = .ok (.iload 4, 2) := by decide +kernel
theorem dX4_releasePending_59 : decode cX4_releasePending 59 = .ok (.iload_n 1, 1) := by decide +kernel
theorem dX4_releasePending_60 : decode cX4_releasePending 60 = .ok (.if_icmp .lt 25, 3) := by decide +kernel
theorem dX4_releasePending_63 : decode cX4_releasePending 63 = .ok (.aload_n 0, 1) := by decide +kernel
theorem dX4_releasePending_64 : decode cX4_releasePending 64 = .ok (.getfield 21, 3) := by decide +kernel
theorem dX4_releasePending_67 : decode cX4_releasePending 67 = .ok (.aload_n 0, 1) := by decide +kernel
theorem dX4_releasePending_68 : decode cX4_releasePending 68 = .ok (.getfield 18, 3) := by decide +kernel
theorem dX4_releasePending_71 : decode cX4_releasePending 71 = .ok (.iload 4, 2) := by decide +kernel
theorem dX4_releasePending_73 : decode cX4_releasePending 73 = .ok (.invokevirtual 147, 3) := by decide +kernel
theorem dX4_releasePending_76 : decode cX4_releasePending 76 = .ok (.invokevirtual 82, 3) := by decide +kernel
theorem dX4_releasePending_79 : decode cX4_releasePending 79 = .ok (.iinc 4 (-1), 3) := by decide +kernel
theorem dX4_releasePending_82 : decode cX4_releasePending 82 = .ok (.goto (-25), 3) := by decide +kernel
theorem dX4_releasePending_85 : decode cX4_releasePending 85 = .ok (.aload_n 0, 1) := by decide +kernel
theorem dX4_releasePending_86 : decode cX4_releasePending 86 = .ok (.getfield 18, 3) := by decide +kernel
theorem dX4_releasePending_89 : decode cX4_releasePending 89 = .ok (.invokevirtual 88, 3) := by decide +kernel
theorem dX4_releasePending_92 : decode cX4_releasePending 92 = .ok (.iload_n 2, 1) := by decide +kernel
theorem dX4_releasePending_93 : decode cX4_releasePending 93 = .ok (.bipush (-4), 2) := by decide +kernel
theorem dX4_releasePending_95 : decode cX4_releasePending 95 = .ok (.if_icmp .ne 15, 3) := by decide +kernel
theorem dX4_releasePending_98 : decode cX4_releasePending 98 = .ok (.aload_n 0, 1) := by decide +kernel
theorem dX4_releasePending_99 : decode cX4_releasePending 99 = .ok (.getfield 51, 3) := by decide +kernel
theorem dX4_releasePending_102 : decode cX4_releasePending 102 = .ok (.iconst 1, 1) := by decide +kernel
theorem dX4_releasePending_103 : decode cX4_releasePending 103 = .ok (.iload_n 3, 1) := by decide +kernel
theorem dX4_releasePending_104 : decode cX4_releasePending 104 = .ok (.invokevirtual 178, 3) := by decide +kernel
theorem dX4_releasePending_107 : decode cX4_releasePending 107 = .ok (.goto 15, 3) := by decide +kernel
theorem dX4_releasePending_110 : decode cX4_releasePending 110 = .ok (.aload_n 0, 1) := by decide +kernel
theorem dX4_releasePending_111 : decode cX4_releasePending 111 = .ok (.iload_n 2, 1) := by decide +kernel
theorem dX4_releasePending_112 : decode cX4_releasePending 112 = .ok (.bipush 16, 2) := by decide +kernel
theorem dX4_releasePending_114 : decode cX4_releasePending 114 = .ok (.idiv, 1) := by decide +kernel
theorem dX4_releasePending_115 : decode cX4_releasePending 115 = .ok (.iload_n 2, 1) := by decide +kernel
theorem dX4_releasePending_116 : decode cX4_releasePending 116 = .ok (.bipush 16, 2) := by decide +kernel
theorem dX4_releasePending_118 : decode cX4_releasePending 118 = .ok (.irem, 1) := by decide +kernel
theorem dX4_releasePending_119 : decode cX4_releasePending 119 = .ok (.invokevirtual 181, 3) := by decide +kernel
theorem dX4_releasePending_122 : decode cX4_releasePending 122 = .ok (.return_, 1) := by decide +kernel
theorem dX4_findBinding_0 : decode cX4_findBinding 0 = .ok (.aload_n 0, 1) := by decide +kernel
theorem dX4_findBinding_1 : decode cX4_findBinding 1 = .ok (.getfield 41, 3) := by decide +kernel
theorem dX4_findBinding_4 : decode cX4_findBinding 4 = .ok (.invokevirtual 108, 3) := by decide +kernel
theorem dX4_findBinding_7 : decode cX4_findBinding 7 = .ok (.iconst 1, 1) := by decide +kernel
theorem dX4_findBinding_8 : decode cX4_findBinding 8 = .ok (.isub, 1) := by decide +kernel
theorem dX4_findBinding_9 : decode cX4_findBinding 9 = .ok (.istore_n 2, 1) := by decide +kernel
theorem dX4_findBinding_10 : decode cX4_findBinding 10 = .ok (.iload_n 2, 1) := by decide +kernel
theorem dX4_findBinding_11 : decode cX4_findBinding 11 = .ok (.ifCond .lt 92, 3) := by decide +kernel
theorem dX4_findBinding_14 : decode cX4_findBinding 14 = .ok (.aload_n 0, 1) := by decide +kernel
theorem dX4_findBinding_15 : decode cX4_findBinding 15 = .ok (.getfield 41, 3) := by decide +kernel
theorem dX4_findBinding_18 : decode cX4_findBinding 18 = .ok (.iload_n 2, 1) := by decide +kernel
theorem dX4_findBinding_19 : decode cX4_findBinding 19 = .ok (.invokevirtual 101, 3) := by decide +kernel
theorem dX4_findBinding_22 : decode cX4_findBinding 22 = .ok (.checkcast 38, 3) := by decide +kernel
theorem dX4_findBinding_25 : decode cX4_findBinding 25 = .ok (.astore_n 3, 1) := by decide +kernel
theorem dX4_findBinding_26 : decode cX4_findBinding 26 = .ok (.iconst 0, 1) := by decide +kernel
theorem dX4_findBinding_27 : decode cX4_findBinding 27 = .ok (.istore 4, 2) := by decide +kernel
theorem dX4_findBinding_29 : decode cX4_findBinding 29 = .ok (.iload 4, 2) := by decide +kernel
theorem dX4_findBinding_31 : decode cX4_findBinding 31 = .ok (.aload_n 3, 1) := by decide +kernel
theorem dX4_findBinding_32 : decode cX4_findBinding 32 = .ok (.getfield 105, 3) := by decide +kernel
theorem dX4_findBinding_35 : decode cX4_findBinding 35 = .ok (.invokevirtual 108, 3) := by decide +kernel
theorem dX4_findBinding_38 : decode cX4_findBinding 38 = .ok (.if_icmp .ge 59, 3) := by decide +kernel
theorem dX4_findBinding_41 : decode cX4_findBinding 41 = .ok (.aload_n 3, 1) := by decide +kernel
theorem dX4_findBinding_42 : decode cX4_findBinding 42 = .ok (.getfield 105, 3) := by decide +kernel
theorem dX4_findBinding_45 : decode cX4_findBinding 45 = .ok (.iload 4, 2) := by decide +kernel
theorem dX4_findBinding_47 : decode cX4_findBinding 47 = .ok (.invokevirtual 101, 3) := by decide +kernel
theorem dX4_findBinding_50 : decode cX4_findBinding 50 = .ok (.checkcast 109, 3) := by decide +kernel
theorem dX4_findBinding_53 : decode cX4_findBinding 53 = .ok (.astore 5, 2) := by decide +kernel
theorem dX4_findBinding_55 : decode cX4_findBinding 55 = .ok (.aload 5, 2) := by decide +kernel
theorem dX4_findBinding_57 : decode cX4_findBinding 57 = .ok (.aload_n 0, 1) := by decide +kernel
theorem dX4_findBinding_58 : decode cX4_findBinding 58 = .ok (.getfield 18, 3) := by decide +kernel
theorem dX4_findBinding_61 : decode cX4_findBinding 61 = .ok (.iload_n 1, 1) := by decide +kernel
theorem dX4_findBinding_62 : decode cX4_findBinding 62 = .ok (.invokevirtual 184, 3) := by decide +kernel
theorem dX4_findBinding_65 : decode cX4_findBinding 65 = .ok (.ifCond .eq 26, 3) := by decide +kernel
theorem dX4_findBinding_68 : decode cX4_findBinding 68 = .ok (.aload 5, 2) := by decide +kernel
theorem dX4_findBinding_70 : decode cX4_findBinding 70 = .ok (.aload_n 0, 1) := by decide +kernel
theorem dX4_findBinding_71 : decode cX4_findBinding 71 = .ok (.getfield 44, 3) := by decide +kernel
theorem dX4_findBinding_74 : decode cX4_findBinding 74 = .ok (.invokevirtual 174, 3) := by decide +kernel
theorem dX4_findBinding_77 : decode cX4_findBinding 77 = .ok (.ifCond .eq 14, 3) := by decide +kernel
theorem dX4_findBinding_80 : decode cX4_findBinding 80 = .ok (.bipush 16, 2) := by decide +kernel
theorem dX4_findBinding_82 : decode cX4_findBinding 82 = .ok (.aload_n 3, 1) := by decide +kernel
theorem dX4_findBinding_83 : decode cX4_findBinding 83 = .ok (.getfield 154, 3) := by decide +kernel
theorem dX4_findBinding_86 : decode cX4_findBinding 86 = .ok (.imul, 1) := by decide +kernel
theorem dX4_findBinding_87 : decode cX4_findBinding 87 = .ok (.iload 4, 2) := by decide +kernel
theorem dX4_findBinding_89 : decode cX4_findBinding 89 = .ok (.iadd, 1) := by decide +kernel
theorem dX4_findBinding_90 : decode cX4_findBinding 90 = .ok (.ireturn, 1) := by decide +kernel
theorem dX4_findBinding_91 : decode cX4_findBinding 91 = .ok (.iinc 4 1, 3) := by decide +kernel
theorem dX4_findBinding_94 : decode cX4_findBinding 94 = .ok (.goto (-65), 3) := by decide +kernel
theorem dX4_findBinding_97 : decode cX4_findBinding 97 = .ok (.iinc 2 (-1), 3) := by decide +kernel
theorem dX4_findBinding_100 : decode cX4_findBinding 100 = .ok (.goto (-90), 3) := by decide +kernel
theorem dX4_findBinding_103 : decode cX4_findBinding 103 = .ok (.bipush (-4), 2) := by decide +kernel
theorem dX4_findBinding_105 : decode cX4_findBinding 105 = .ok (.ireturn, 1) := by decide +kernel
theorem dX4_perform_0 : decode cX4_perform 0 = .ok (.aload_n 0, 1) := by decide +kernel
theorem dX4_perform_1 : decode cX4_perform 1 = .ok (.iload_n 1, 1) := by decide +kernel
theorem dX4_perform_2 : decode cX4_perform 2 = .ok (.iload_n 2, 1) := by decide +kernel
theorem dX4_perform_3 : decode cX4_perform 3 = .ok (.invokevirtual 118, 3) := by decide +kernel
theorem dX4_perform_6 : decode cX4_perform 6 = .ok (.ifCond .ne 4, 3) := by decide +kernel
theorem dX4_perform_9 : decode cX4_perform 9 = .ok (.return_, 1) := by decide +kernel
theorem dX4_perform_10 : decode cX4_perform 10 = .ok (.aload_n 0, 1) := by decide +kernel
theorem dX4_perform_11 : decode cX4_perform 11 = .ok (.getfield 35, 3) := by decide +kernel
theorem dX4_perform_14 : decode cX4_perform 14 = .ok (.iload_n 1, 1) := by decide +kernel
theorem dX4_perform_15 : decode cX4_perform 15 = .ok (.invokevirtual 101, 3) := by decide +kernel
theorem dX4_perform_18 : decode cX4_perform 18 = .ok (.checkcast 38, 3) := by decide +kernel
theorem dX4_perform_21 : decode cX4_perform 21 = .ok (.getfield 105, 3) := by decide +kernel
theorem dX4_perform_24 : decode cX4_perform 24 = .ok (.iload_n 2, 1) := by decide +kernel
theorem dX4_perform_25 : decode cX4_perform 25 = .ok (.invokevirtual 101, 3) := by decide +kernel
theorem dX4_perform_28 : decode cX4_perform 28 = .ok (.checkcast 109, 3) := by decide +kernel
theorem dX4_perform_31 : decode cX4_perform 31 = .ok (.astore_n 3, 1) := by decide +kernel
theorem dX4_perform_32 : decode cX4_perform 32 = .ok (.aload_n 3, 1) := by decide +kernel
theorem dX4_perform_33 : decode cX4_perform 33 = .ok (.getfield 188, 3) := by decide +kernel
theorem dX4_perform_36 : decode cX4_perform 36 = .ok (.istore 4, 2) := by decide +kernel
theorem dX4_perform_38 : decode cX4_perform 38 = .ok (.aload_n 0, 1) := by decide +kernel
theorem dX4_perform_39 : decode cX4_perform 39 = .ok (.aload_n 3, 1) := by decide +kernel
theorem dX4_perform_40 : decode cX4_perform 40 = .ok (.getfield 191, 3) := by decide +kernel
theorem dX4_perform_43 : decode cX4_perform 43 = .ok (.iload 4, 2) := by decide +kernel
theorem dX4_perform_45 : decode cX4_perform 45 = .ok (.invokevirtual 194, 3) := by decide +kernel
theorem dX4_perform_48 : decode cX4_perform 48 = .ok (.ifCond .eq 14, 3) := by decide +kernel
theorem dX4_perform_51 : decode cX4_perform 51 = .ok (.aload_n 0, 1) := by decide +kernel
theorem dX4_perform_52 : decode cX4_perform 52 = .ok (.getfield 51, 3) := by decide +kernel
theorem dX4_perform_55 : decode cX4_perform 55 = .ok (.iconst 2, 1) := by decide +kernel
theorem dX4_perform_56 : decode cX4_perform 56 = .ok (.iload 4, 2) := by decide +kernel
theorem dX4_perform_58 : decode cX4_perform 58 = .ok (.invokevirtual 178, 3) := by decide +kernel
theorem dX4_perform_61 : decode cX4_perform 61 = .ok (.return_, 1) := by decide +kernel
theorem dX4_perform_62 : decode cX4_perform 62 = .ok (.aload_n 3, 1) := by decide +kernel
theorem dX4_perform_63 : decode cX4_perform 63 = .ok (.getfield 191, 3) := by decide +kernel
theorem dX4_perform_66 : decode cX4_perform 66 = .ok (.tableswitch 98 0 5 #[38, 51, 60, 69, 76, 87], 38) := by decide +kernel
theorem dX4_perform_104 : decode cX4_perform 104 = .ok (.aload_n 0, 1) := by decide +kernel
theorem dX4_perform_105 : decode cX4_perform 105 = .ok (.getfield 51, 3) := by decide +kernel
theorem dX4_perform_108 : decode cX4_perform 108 = .ok (.iconst 0, 1) := by decide +kernel
theorem dX4_perform_109 : decode cX4_perform 109 = .ok (.iload 4, 2) := by decide +kernel
theorem dX4_perform_111 : decode cX4_perform 111 = .ok (.invokevirtual 178, 3) := by decide +kernel
theorem dX4_perform_114 : decode cX4_perform 114 = .ok (.goto 50, 3) := by decide +kernel
theorem dX4_perform_117 : decode cX4_perform 117 = .ok (.aload_n 0, 1) := by decide +kernel
theorem dX4_perform_118 : decode cX4_perform 118 = .ok (.iload 4, 2) := by decide +kernel
theorem dX4_perform_120 : decode cX4_perform 120 = .ok (.invokevirtual 197, 3) := by decide +kernel
theorem dX4_perform_123 : decode cX4_perform 123 = .ok (.goto 41, 3) := by decide +kernel
theorem dX4_perform_126 : decode cX4_perform 126 = .ok (.aload_n 0, 1) := by decide +kernel
theorem dX4_perform_127 : decode cX4_perform 127 = .ok (.iload 4, 2) := by decide +kernel
theorem dX4_perform_129 : decode cX4_perform 129 = .ok (.invokevirtual 71, 3) := by decide +kernel
theorem dX4_perform_132 : decode cX4_perform 132 = .ok (.goto 32, 3) := by decide +kernel
theorem dX4_perform_135 : decode cX4_perform 135 = .ok (.aload_n 0, 1) := by decide +kernel
theorem dX4_perform_136 : decode cX4_perform 136 = .ok (.invokevirtual 200, 3) := by decide +kernel
theorem dX4_perform_139 : decode cX4_perform 139 = .ok (.goto 25, 3) := by decide +kernel
theorem dX4_perform_142 : decode cX4_perform 142 = .ok (.aload_n 0, 1) := by decide +kernel
theorem dX4_perform_143 : decode cX4_perform 143 = .ok (.iload 4, 2) := by decide +kernel
theorem dX4_perform_145 : decode cX4_perform 145 = .ok (.iconst 1, 1) := by decide +kernel
theorem dX4_perform_146 : decode cX4_perform 146 = .ok (.invokevirtual 203, 3) := by decide +kernel
theorem dX4_perform_149 : decode cX4_perform 149 = .ok (.pop, 1) := by decide +kernel
theorem dX4_perform_150 : decode cX4_perform 150 = .ok (.goto 14, 3) := by decide +kernel
theorem dX4_perform_153 : decode cX4_perform 153 = .ok (.aload_n 0, 1) := by decide +kernel
theorem dX4_perform_154 : decode cX4_perform 154 = .ok (.iload 4, 2) := by decide +kernel
theorem dX4_perform_156 : decode cX4_perform 156 = .ok (.iconst 0, 1) := by decide +kernel
theorem dX4_perform_157 : decode cX4_perform 157 = .ok (.invokevirtual 203, 3) := by decide +kernel
theorem dX4_perform_160 : decode cX4_perform 160 = .ok (.pop, 1) := by decide +kernel
theorem dX4_perform_161 : decode cX4_perform 161 = .ok (.goto 3, 3) := by decide +kernel
theorem dX4_perform_164 : decode cX4_perform 164 = .ok (.return_, 1) := by decide +kernel
theorem dX4_isRefused_0 : decode cX4_isRefused 0 = .ok (.iload_n 1, 1) := by decide +kernel
theorem dX4_isRefused_1 : decode cX4_isRefused 1 = .ok (.tableswitch 92 1 3 #[27, 58, 75], 27) := by decide +kernel
theorem dX4_isRefused_28 : decode cX4_isRefused 28 = .ok (.iload_n 2, 1) := by decide +kernel
theorem dX4_isRefused_29 : decode cX4_isRefused 29 = .ok (.aload_n 0, 1) := by decide +kernel
theorem dX4_isRefused_30 : decode cX4_isRefused 30 = .ok (.getfield 62, 3) := by decide +kernel
theorem dX4_isRefused_33 : decode cX4_isRefused 33 = .ok (.if_icmp .eq 20, 3) := by decide +kernel
theorem dX4_isRefused_36 : decode cX4_isRefused 36 = .ok (.aload_n 0, 1) := by decide +kernel
theorem dX4_isRefused_37 : decode cX4_isRefused 37 = .ok (.getfield 65, 3) := by decide +kernel
theorem dX4_isRefused_40 : decode cX4_isRefused 40 = .ok (.iconst 3, 1) := by decide +kernel
theorem dX4_isRefused_41 : decode cX4_isRefused 41 = .ok (.if_icmp .ge 12, 3) := by decide +kernel
theorem dX4_isRefused_44 : decode cX4_isRefused 44 = .ok (.aload_n 0, 1) := by decide +kernel
theorem dX4_isRefused_45 : decode cX4_isRefused 45 = .ok (.getfield 68, 3) := by decide +kernel
theorem dX4_isRefused_48 : decode cX4_isRefused 48 = .ok (.bipush 20, 2) := by decide +kernel
theorem dX4_isRefused_50 : decode cX4_isRefused 50 = .ok (.if_icmp .lt 7, 3) := by decide +kernel
theorem dX4_isRefused_53 : decode cX4_isRefused 53 = .ok (.iconst 1, 1) := by decide +kernel
theorem dX4_isRefused_54 : decode cX4_isRefused 54 = .ok (.goto 4, 3) := by decide +kernel
theorem dX4_isRefused_57 : decode cX4_isRefused 57 = .ok (.iconst 0, 1) := by decide +kernel
theorem dX4_isRefused_58 : decode cX4_isRefused 58 = .ok (.ireturn, 1) := by decide +kernel
theorem dX4_isRefused_59 : decode cX4_isRefused 59 = .ok (.aload_n 0, 1) := by decide +kernel
theorem dX4_isRefused_60 : decode cX4_isRefused 60 = .ok (.getfield 41, 3) := by decide +kernel
theorem dX4_isRefused_63 : decode cX4_isRefused 63 = .ok (.invokevirtual 108, 3) := by decide +kernel
theorem dX4_isRefused_66 : decode cX4_isRefused 66 = .ok (.iconst 4, 1) := by decide +kernel
theorem dX4_isRefused_67 : decode cX4_isRefused 67 = .ok (.if_icmp .lt 7, 3) := by decide +kernel
theorem dX4_isRefused_70 : decode cX4_isRefused 70 = .ok (.iconst 1, 1) := by decide +kernel
theorem dX4_isRefused_71 : decode cX4_isRefused 71 = .ok (.goto 4, 3) := by decide +kernel
theorem dX4_isRefused_74 : decode cX4_isRefused 74 = .ok (.iconst 0, 1) := by decide +kernel
theorem dX4_isRefused_75 : decode cX4_isRefused 75 = .ok (.ireturn, 1) := by decide +kernel
theorem dX4_isRefused_76 : decode cX4_isRefused 76 = .ok (.aload_n 0, 1) := by decide +kernel
theorem dX4_isRefused_77 : decode cX4_isRefused 77 = .ok (.getfield 41, 3) := by decide +kernel
theorem dX4_isRefused_80 : decode cX4_isRefused 80 = .ok (.invokevirtual 108, 3) := by decide +kernel
theorem dX4_isRefused_83 : decode cX4_isRefused 83 = .ok (.iconst 1, 1) := by decide +kernel
theorem dX4_isRefused_84 : decode cX4_isRefused 84 = .ok (.if_icmp .gt 7, 3) := by decide +kernel
theorem dX4_isRefused_87 : decode cX4_isRefused 87 = .ok (.iconst 1, 1) := by decide +kernel
theorem dX4_isRefused_88 : decode cX4_isRefused 88 = .ok (.goto 4, 3) := by decide +kernel
theorem dX4_isRefused_91 : decode cX4_isRefused 91 = .ok (.iconst 0, 1) := by decide +kernel
theorem dX4_isRefused_92 : decode cX4_isRefused 92 = .ok (.ireturn, 1) := by decide +kernel
theorem dX4_isRefused_93 : decode cX4_isRefused 93 = .ok (.iconst 0, 1) := by decide +kernel
theorem dX4_isRefused_94 : decode cX4_isRefused 94 = .ok (.ireturn, 1) := by decide +kernel
theorem dX4_play_0 : decode cX4_play 0 = .ok (.aload_n 0, 1) := by decide +kernel
theorem dX4_play_1 : decode cX4_play 1 = .ok (.iload_n 1, 1) := by decide +kernel
theorem dX4_play_2 : decode cX4_play 2 = .ok (.invokevirtual 131, 3) := by decide +kernel
theorem dX4_play_5 : decode cX4_play 5 = .ok (.ifCond .ne 4, 3) := by decide +kernel
theorem dX4_play_8 : decode cX4_play 8 = .ok (.return_, 1) := by decide +kernel
theorem dX4_play_9 : decode cX4_play 9 = .ok (.aload_n 0, 1) := by decide +kernel
theorem dX4_play_10 : decode cX4_play 10 = .ok (.dup, 1) := by decide +kernel
theorem dX4_play_11 : decode cX4_play 11 = .ok (.getfield 65, 3) := by decide +kernel
theorem dX4_play_14 : decode cX4_play 14 = .ok (.iconst 1, 1) := by decide +kernel
theorem dX4_play_15 : decode cX4_play 15 = .ok (.iadd, 1) := by decide +kernel
theorem dX4_play_16 : decode cX4_play 16 = .ok (.putfield 65, 3) := by decide +kernel
theorem dX4_play_19 : decode cX4_play 19 = .ok (.aload_n 0, 1) := by decide +kernel
theorem dX4_play_20 : decode cX4_play 20 = .ok (.dup, 1) := by decide +kernel
theorem dX4_play_21 : decode cX4_play 21 = .ok (.getfield 68, 3) := by decide +kernel
theorem dX4_play_24 : decode cX4_play 24 = .ok (.iconst 1, 1) := by decide +kernel
theorem dX4_play_25 : decode cX4_play 25 = .ok (.iadd, 1) := by decide +kernel
theorem dX4_play_26 : decode cX4_play 26 = .ok (.putfield 68, 3) := by decide +kernel
theorem dX4_play_29 : decode cX4_play 29 = .ok (.aload_n 0, 1) := by decide +kernel
theorem dX4_play_30 : decode cX4_play 30 = .ok (.getfield 21, 3) := by decide +kernel
theorem dX4_play_33 : decode cX4_play 33 = .ok (.iconst (-1), 1) := by decide +kernel
theorem dX4_play_34 : decode cX4_play 34 = .ok (.invokevirtual 82, 3) := by decide +kernel
theorem dX4_play_37 : decode cX4_play 37 = .ok (.aload_n 0, 1) := by decide +kernel
theorem dX4_play_38 : decode cX4_play 38 = .ok (.getfield 27, 3) := by decide +kernel
theorem dX4_play_41 : decode cX4_play 41 = .ok (.iload_n 1, 1) := by decide +kernel
theorem dX4_play_42 : decode cX4_play 42 = .ok (.invokevirtual 101, 3) := by decide +kernel
theorem dX4_play_45 : decode cX4_play 45 = .ok (.checkcast 9, 3) := by decide +kernel
theorem dX4_play_48 : decode cX4_play 48 = .ok (.astore_n 2, 1) := by decide +kernel
theorem dX4_play_49 : decode cX4_play 49 = .ok (.aload_n 2, 1) := by decide +kernel
theorem dX4_play_50 : decode cX4_play 50 = .ok (.invokevirtual 84, 3) := by decide +kernel
theorem dX4_play_53 : decode cX4_play 53 = .ok (.iconst 1, 1) := by decide +kernel
theorem dX4_play_54 : decode cX4_play 54 = .ok (.isub, 1) := by decide +kernel
theorem dX4_play_55 : decode cX4_play 55 = .ok (.istore_n 3, 1) := by decide +kernel
theorem dX4_play_56 : decode cX4_play 56 = .ok (.iload_n 3, 1) := by decide +kernel
theorem dX4_play_57 : decode cX4_play 57 = .ok (.ifCond .lt 21, 3) := by decide +kernel
theorem dX4_play_60 : decode cX4_play 60 = .ok (.aload_n 0, 1) := by decide +kernel
theorem dX4_play_61 : decode cX4_play 61 = .ok (.getfield 21, 3) := by decide +kernel
theorem dX4_play_64 : decode cX4_play 64 = .ok (.aload_n 2, 1) := by decide +kernel
theorem dX4_play_65 : decode cX4_play 65 = .ok (.iload_n 3, 1) := by decide +kernel
theorem dX4_play_66 : decode cX4_play 66 = .ok (.invokevirtual 147, 3) := by decide +kernel
theorem dX4_play_69 : decode cX4_play 69 = .ok (.invokevirtual 82, 3) := by decide +kernel
theorem dX4_play_72 : decode cX4_play 72 = .ok (.iinc 3 (-1), 3) := by decide +kernel
theorem dX4_play_75 : decode cX4_play 75 = .ok (.goto (-19), 3) := by decide +kernel
theorem dX4_play_78 : decode cX4_play 78 = .ok (.return_, 1) := by decide +kernel
theorem dX4_pushContext_0 : decode cX4_pushContext 0 = .ok (.aload_n 0, 1) := by decide +kernel
theorem dX4_pushContext_1 : decode cX4_pushContext 1 = .ok (.iload_n 1, 1) := by decide +kernel
theorem dX4_pushContext_2 : decode cX4_pushContext 2 = .ok (.invokevirtual 91, 3) := by decide +kernel
theorem dX4_pushContext_5 : decode cX4_pushContext 5 = .ok (.ifCond .eq 22, 3) := by decide +kernel
theorem dX4_pushContext_8 : decode cX4_pushContext 8 = .ok (.aload_n 0, 1) := by decide +kernel
theorem dX4_pushContext_9 : decode cX4_pushContext 9 = .ok (.getfield 41, 3) := by decide +kernel
theorem dX4_pushContext_12 : decode cX4_pushContext 12 = .ok (.aload_n 0, 1) := by decide +kernel
theorem dX4_pushContext_13 : decode cX4_pushContext 13 = .ok (.getfield 35, 3) := by decide +kernel
theorem dX4_pushContext_16 : decode cX4_pushContext 16 = .ok (.iload_n 1, 1) := by decide +kernel
theorem dX4_pushContext_17 : decode cX4_pushContext 17 = .ok (.invokevirtual 101, 3) := by decide +kernel
theorem dX4_pushContext_20 : decode cX4_pushContext 20 = .ok (.checkcast 38, 3) := by decide +kernel
theorem dX4_pushContext_23 : decode cX4_pushContext 23 = .ok (.invokevirtual 31, 3) := by decide +kernel
theorem dX4_pushContext_26 : decode cX4_pushContext 26 = .ok (.pop, 1) := by decide +kernel
theorem dX4_pushContext_27 : decode cX4_pushContext 27 = .ok (.return_, 1) := by decide +kernel
theorem dX4_popContext_0 : decode cX4_popContext 0 = .ok (.aload_n 0, 1) := by decide +kernel
theorem dX4_popContext_1 : decode cX4_popContext 1 = .ok (.getfield 41, 3) := by decide +kernel
theorem dX4_popContext_4 : decode cX4_popContext 4 = .ok (.invokevirtual 108, 3) := by decide +kernel
theorem dX4_popContext_7 : decode cX4_popContext 7 = .ok (.iconst 1, 1) := by decide +kernel
theorem dX4_popContext_8 : decode cX4_popContext 8 = .ok (.if_icmp .le 20, 3) := by decide +kernel
theorem dX4_popContext_11 : decode cX4_popContext 11 = .ok (.aload_n 0, 1) := by decide +kernel
theorem dX4_popContext_12 : decode cX4_popContext 12 = .ok (.getfield 41, 3) := by decide +kernel
theorem dX4_popContext_15 : decode cX4_popContext 15 = .ok (.aload_n 0, 1) := by decide +kernel
theorem dX4_popContext_16 : decode cX4_popContext 16 = .ok (.getfield 41, 3) := by decide +kernel
theorem dX4_popContext_19 : decode cX4_popContext 19 = .ok (.invokevirtual 108, 3) := by decide +kernel
theorem dX4_popContext_22 : decode cX4_popContext 22 = .ok (.iconst 1, 1) := by decide +kernel
theorem dX4_popContext_23 : decode cX4_popContext 23 = .ok (.isub, 1) := by decide +kernel
theorem dX4_popContext_24 : decode cX4_popContext 24 = .ok (.invokevirtual 121, 3) := by decide +kernel
theorem dX4_popContext_27 : decode cX4_popContext 27 = .ok (.pop, 1) := by decide +kernel
theorem dX4_popContext_28 : decode cX4_popContext 28 = .ok (.return_, 1) := by decide +kernel
theorem dX4_isBetween_0 : decode cX4_isBetween 0 = .ok (.iload_n 0, 1) := by decide +kernel
theorem dX4_isBetween_1 : decode cX4_isBetween 1 = .ok (.iload_n 1, 1) := by decide +kernel
theorem dX4_isBetween_2 : decode cX4_isBetween 2 = .ok (.if_icmp .lt 12, 3) := by decide +kernel
theorem dX4_isBetween_5 : decode cX4_isBetween 5 = .ok (.iload_n 0, 1) := by decide +kernel
theorem dX4_isBetween_6 : decode cX4_isBetween 6 = .ok (.iload_n 2, 1) := by decide +kernel
theorem dX4_isBetween_7 : decode cX4_isBetween 7 = .ok (.if_icmp .gt 7, 3) := by decide +kernel
theorem dX4_isBetween_10 : decode cX4_isBetween 10 = .ok (.iconst 1, 1) := by decide +kernel
theorem dX4_isBetween_11 : decode cX4_isBetween 11 = .ok (.goto 4, 3) := by decide +kernel
theorem dX4_isBetween_14 : decode cX4_isBetween 14 = .ok (.iconst 0, 1) := by decide +kernel
theorem dX4_isBetween_15 : decode cX4_isBetween 15 = .ok (.ireturn, 1) := by decide +kernel
theorem dX4_isKey_0 : decode cX4_isKey 0 = .ok (.iload_n 0, 1) := by decide +kernel
theorem dX4_isKey_1 : decode cX4_isKey 1 = .ok (.ifCond .lt 13, 3) := by decide +kernel
theorem dX4_isKey_4 : decode cX4_isKey 4 = .ok (.iload_n 0, 1) := by decide +kernel
theorem dX4_isKey_5 : decode cX4_isKey 5 = .ok (.bipush 12, 2) := by decide +kernel
theorem dX4_isKey_7 : decode cX4_isKey 7 = .ok (.if_icmp .ge 7, 3) := by decide +kernel
theorem dX4_isKey_10 : decode cX4_isKey 10 = .ok (.iconst 1, 1) := by decide +kernel
theorem dX4_isKey_11 : decode cX4_isKey 11 = .ok (.goto 4, 3) := by decide +kernel
theorem dX4_isKey_14 : decode cX4_isKey 14 = .ok (.iconst 0, 1) := by decide +kernel
theorem dX4_isKey_15 : decode cX4_isKey 15 = .ok (.ireturn, 1) := by decide +kernel
theorem dX4_isFlag_0 : decode cX4_isFlag 0 = .ok (.iload_n 1, 1) := by decide +kernel
theorem dX4_isFlag_1 : decode cX4_isFlag 1 = .ok (.ifCond .lt 16, 3) := by decide +kernel
theorem dX4_isFlag_4 : decode cX4_isFlag 4 = .ok (.iload_n 1, 1) := by decide +kernel
theorem dX4_isFlag_5 : decode cX4_isFlag 5 = .ok (.aload_n 0, 1) := by decide +kernel
theorem dX4_isFlag_6 : decode cX4_isFlag 6 = .ok (.getfield 44, 3) := by decide +kernel
theorem dX4_isFlag_9 : decode cX4_isFlag 9 = .ok (.arraylength, 1) := by decide +kernel
theorem dX4_isFlag_10 : decode cX4_isFlag 10 = .ok (.if_icmp .ge 7, 3) := by decide +kernel
theorem dX4_isFlag_13 : decode cX4_isFlag 13 = .ok (.iconst 1, 1) := by decide +kernel
theorem dX4_isFlag_14 : decode cX4_isFlag 14 = .ok (.goto 4, 3) := by decide +kernel
theorem dX4_isFlag_17 : decode cX4_isFlag 17 = .ok (.iconst 0, 1) := by decide +kernel
theorem dX4_isFlag_18 : decode cX4_isFlag 18 = .ok (.ireturn, 1) := by decide +kernel
theorem dX4_isContext_0 : decode cX4_isContext 0 = .ok (.iload_n 1, 1) := by decide +kernel
theorem dX4_isContext_1 : decode cX4_isContext 1 = .ok (.ifCond .lt 18, 3) := by decide +kernel
theorem dX4_isContext_4 : decode cX4_isContext 4 = .ok (.iload_n 1, 1) := by decide +kernel
theorem dX4_isContext_5 : decode cX4_isContext 5 = .ok (.aload_n 0, 1) := by decide +kernel
theorem dX4_isContext_6 : decode cX4_isContext 6 = .ok (.getfield 35, 3) := by decide +kernel
theorem dX4_isContext_9 : decode cX4_isContext 9 = .ok (.invokevirtual 108, 3) := by decide +kernel
theorem dX4_isContext_12 : decode cX4_isContext 12 = .ok (.if_icmp .ge 7, 3) := by decide +kernel
theorem dX4_isContext_15 : decode cX4_isContext 15 = .ok (.iconst 1, 1) := by decide +kernel
theorem dX4_isContext_16 : decode cX4_isContext 16 = .ok (.goto 4, 3) := by decide +kernel
theorem dX4_isContext_19 : decode cX4_isContext 19 = .ok (.iconst 0, 1) := by decide +kernel
theorem dX4_isContext_20 : decode cX4_isContext 20 = .ok (.ireturn, 1) := by decide +kernel
theorem dX4_isMacro_0 : decode cX4_isMacro 0 = .ok (.iload_n 1, 1) := by decide +kernel
theorem dX4_isMacro_1 : decode cX4_isMacro 1 = .ok (.ifCond .lt 18, 3) := by decide +kernel
theorem dX4_isMacro_4 : decode cX4_isMacro 4 = .ok (.iload_n 1, 1) := by decide +kernel
theorem dX4_isMacro_5 : decode cX4_isMacro 5 = .ok (.aload_n 0, 1) := by decide +kernel
theorem dX4_isMacro_6 : decode cX4_isMacro 6 = .ok (.getfield 27, 3) := by decide +kernel
theorem dX4_isMacro_9 : decode cX4_isMacro 9 = .ok (.invokevirtual 108, 3) := by decide +kernel
theorem dX4_isMacro_12 : decode cX4_isMacro 12 = .ok (.if_icmp .ge 7, 3) := by decide +kernel
theorem dX4_isMacro_15 : decode cX4_isMacro 15 = .ok (.iconst 1, 1) := by decide +kernel
theorem dX4_isMacro_16 : decode cX4_isMacro 16 = .ok (.goto 4, 3) := by decide +kernel
theorem dX4_isMacro_19 : decode cX4_isMacro 19 = .ok (.iconst 0, 1) := by decide +kernel
theorem dX4_isMacro_20 : decode cX4_isMacro 20 = .ok (.ireturn, 1) := by decide +kernel
theorem dX4_isBinding_0 : decode cX4_isBinding 0 = .ok (.aload_n 0, 1) := by decide +kernel
theorem dX4_isBinding_1 : decode cX4_isBinding 1 = .ok (.iload_n 1, 1) := by decide +kernel
theorem dX4_isBinding_2 : decode cX4_isBinding 2 = .ok (.invokevirtual 91, 3) := by decide +kernel
theorem dX4_isBinding_5 : decode cX4_isBinding 5 = .ok (.ifCond .eq 32, 3) := by decide +kernel
theorem dX4_isBinding_8 : decode cX4_isBinding 8 = .ok (.iload_n 2, 1) := by decide +kernel
theorem dX4_isBinding_9 : decode cX4_isBinding 9 = .ok (.ifCond .lt 28, 3) := by decide +kernel
theorem dX4_isBinding_12 : decode cX4_isBinding 12 = .ok (.iload_n 2, 1) := by decide +kernel
theorem dX4_isBinding_13 : decode cX4_isBinding 13 = .ok (.aload_n 0, 1) := by decide +kernel
theorem dX4_isBinding_14 : decode cX4_isBinding 14 = .ok (.getfield 35, 3) := by decide +kernel
theorem dX4_isBinding_17 : decode cX4_isBinding 17 = .ok (.iload_n 1, 1) := by decide +kernel
theorem dX4_isBinding_18 : decode cX4_isBinding 18 = .ok (.invokevirtual 101, 3) := by decide +kernel
theorem dX4_isBinding_21 : decode cX4_isBinding 21 = .ok (.checkcast 38, 3) := by decide +kernel
theorem dX4_isBinding_24 : decode cX4_isBinding 24 = .ok (.getfield 105, 3) := by decide +kernel
theorem dX4_isBinding_27 : decode cX4_isBinding 27 = .ok (.invokevirtual 108, 3) := by decide +kernel
theorem dX4_isBinding_30 : decode cX4_isBinding 30 = .ok (.if_icmp .ge 7, 3) := by decide +kernel
theorem dX4_isBinding_33 : decode cX4_isBinding 33 = .ok (.iconst 1, 1) := by decide +kernel
theorem dX4_isBinding_34 : decode cX4_isBinding 34 = .ok (.goto 4, 3) := by decide +kernel
theorem dX4_isBinding_37 : decode cX4_isBinding 37 = .ok (.iconst 0, 1) := by decide +kernel
theorem dX4_isBinding_38 : decode cX4_isBinding 38 = .ok (.ireturn, 1) := by decide +kernel
theorem dX4_isCondition_0 : decode cX4_isCondition 0 = .ok (.iload_n 1, 1) := by decide +kernel
theorem dX4_isCondition_1 : decode cX4_isCondition 1 = .ok (.iconst (-1), 1) := by decide +kernel
theorem dX4_isCondition_2 : decode cX4_isCondition 2 = .ok (.if_icmp .eq 20, 3) := by decide +kernel
theorem dX4_isCondition_5 : decode cX4_isCondition 5 = .ok (.aload_n 0, 1) := by decide +kernel
theorem dX4_isCondition_6 : decode cX4_isCondition 6 = .ok (.iload_n 1, 1) := by decide +kernel
theorem dX4_isCondition_7 : decode cX4_isCondition 7 = .ok (.invokevirtual 144, 3) := by decide +kernel
theorem dX4_isCondition_10 : decode cX4_isCondition 10 = .ok (.ifCond .eq 16, 3) := by decide +kernel
theorem dX4_isCondition_13 : decode cX4_isCondition 13 = .ok (.iload_n 2, 1) := by decide +kernel
theorem dX4_isCondition_14 : decode cX4_isCondition 14 = .ok (.iconst 0, 1) := by decide +kernel
theorem dX4_isCondition_15 : decode cX4_isCondition 15 = .ok (.iconst 1, 1) := by decide +kernel
theorem dX4_isCondition_16 : decode cX4_isCondition 16 = .ok (.invokestatic 137, 3) := by decide +kernel
theorem dX4_isCondition_19 : decode cX4_isCondition 19 = .ok (.ifCond .eq 7, 3) := by decide +kernel
theorem dX4_isCondition_22 : decode cX4_isCondition 22 = .ok (.iconst 1, 1) := by decide +kernel
theorem dX4_isCondition_23 : decode cX4_isCondition 23 = .ok (.goto 4, 3) := by decide +kernel
theorem dX4_isCondition_26 : decode cX4_isCondition 26 = .ok (.iconst 0, 1) := by decide +kernel
theorem dX4_isCondition_27 : decode cX4_isCondition 27 = .ok (.ireturn, 1) := by decide +kernel
theorem dX4_isAction_0 : decode cX4_isAction 0 = .ok (.iload_n 1, 1) := by decide +kernel
theorem dX4_isAction_1 : decode cX4_isAction 1 = .ok (.tableswitch 83 0 5 #[39, 55, 61, 67, 77, 77], 39) := by decide +kernel
theorem dX4_isAction_40 : decode cX4_isAction 40 = .ok (.iload_n 2, 1) := by decide +kernel
theorem dX4_isAction_41 : decode cX4_isAction 41 = .ok (.ifCond .lt 13, 3) := by decide +kernel
theorem dX4_isAction_44 : decode cX4_isAction 44 = .ok (.iload_n 2, 1) := by decide +kernel
theorem dX4_isAction_45 : decode cX4_isAction 45 = .ok (.bipush 100, 2) := by decide +kernel
theorem dX4_isAction_47 : decode cX4_isAction 47 = .ok (.if_icmp .ge 7, 3) := by decide +kernel
theorem dX4_isAction_50 : decode cX4_isAction 50 = .ok (.iconst 1, 1) := by decide +kernel
theorem dX4_isAction_51 : decode cX4_isAction 51 = .ok (.goto 4, 3) := by decide +kernel
theorem dX4_isAction_54 : decode cX4_isAction 54 = .ok (.iconst 0, 1) := by decide +kernel
theorem dX4_isAction_55 : decode cX4_isAction 55 = .ok (.ireturn, 1) := by decide +kernel
theorem dX4_isAction_56 : decode cX4_isAction 56 = .ok (.aload_n 0, 1) := by decide +kernel
theorem dX4_isAction_57 : decode cX4_isAction 57 = .ok (.iload_n 2, 1) := by decide +kernel
theorem dX4_isAction_58 : decode cX4_isAction 58 = .ok (.invokevirtual 131, 3) := by decide +kernel
theorem dX4_isAction_61 : decode cX4_isAction 61 = .ok (.ireturn, 1) := by decide +kernel
theorem dX4_isAction_62 : decode cX4_isAction 62 = .ok (.aload_n 0, 1) := by decide +kernel
theorem dX4_isAction_63 : decode cX4_isAction 63 = .ok (.iload_n 2, 1) := by decide +kernel
theorem dX4_isAction_64 : decode cX4_isAction 64 = .ok (.invokevirtual 91, 3) := by decide +kernel
theorem dX4_isAction_67 : decode cX4_isAction 67 = .ok (.ireturn, 1) := by decide +kernel
theorem dX4_isAction_68 : decode cX4_isAction 68 = .ok (.iload_n 2, 1) := by decide +kernel
theorem dX4_isAction_69 : decode cX4_isAction 69 = .ok (.ifCond .ne 7, 3) := by decide +kernel
theorem dX4_isAction_72 : decode cX4_isAction 72 = .ok (.iconst 1, 1) := by decide +kernel
theorem dX4_isAction_73 : decode cX4_isAction 73 = .ok (.goto 4, 3) := by decide +kernel
theorem dX4_isAction_76 : decode cX4_isAction 76 = .ok (.iconst 0, 1) := by decide +kernel
theorem dX4_isAction_77 : decode cX4_isAction 77 = .ok (.ireturn, 1) := by decide +kernel
theorem dX4_isAction_78 : decode cX4_isAction 78 = .ok (.aload_n 0, 1) := by decide +kernel
theorem dX4_isAction_79 : decode cX4_isAction 79 = .ok (.iload_n 2, 1) := by decide +kernel
theorem dX4_isAction_80 : decode cX4_isAction 80 = .ok (.invokevirtual 144, 3) := by decide +kernel
theorem dX4_isAction_83 : decode cX4_isAction 83 = .ok (.ireturn, 1) := by decide +kernel
theorem dX4_isAction_84 : decode cX4_isAction 84 = .ok (.iconst 0, 1) := by decide +kernel
theorem dX4_isAction_85 : decode cX4_isAction 85 = .ok (.ireturn, 1) := by decide +kernel
theorem dX5_init_0 : decode cX5_init 0 = .ok (.aload_n 0, 1) := by decide +kernel
theorem dX5_init_1 : decode cX5_init 1 = .ok (.invokespecial 1, 3) := by decide +kernel
theorem dX5_init_4 : decode cX5_init 4 = .ok (.aload_n 0, 1) := by decide +kernel
theorem dX5_init_5 : decode cX5_init 5 = .ok (.bipush 6, 2) := by decide +kernel
theorem dX5_init_7 : decode cX5_init 7 = .ok (.newarray .int, 2) := by decide +kernel
theorem dX5_init_9 : decode cX5_init 9 = .ok (.putfield 7, 3) := by decide +kernel
theorem dX5_init_12 : decode cX5_init 12 = .ok (.aload_n 0, 1) := by decide +kernel
theorem dX5_init_13 : decode cX5_init 13 = .ok (.iconst 1, 1) := by decide +kernel
theorem dX5_init_14 : decode cX5_init 14 = .ok (.putfield 13, 3) := by decide +kernel
theorem dX5_init_17 : decode cX5_init 17 = .ok (.aload_n 0, 1) := by decide +kernel
theorem dX5_init_18 : decode cX5_init 18 = .ok (.iconst 4, 1) := by decide +kernel
theorem dX5_init_19 : decode cX5_init 19 = .ok (.newarray .int, 2) := by decide +kernel
theorem dX5_init_21 : decode cX5_init 21 = .ok (.putfield 17, 3) := by decide +kernel
theorem dX5_init_24 : decode cX5_init 24 = .ok (.aload_n 0, 1) := by decide +kernel
theorem dX5_init_25 : decode cX5_init 25 = .ok (.iconst 4, 1) := by decide +kernel
theorem dX5_init_26 : decode cX5_init 26 = .ok (.newarray .int, 2) := by decide +kernel
theorem dX5_init_28 : decode cX5_init 28 = .ok (.putfield 20, 3) := by decide +kernel
theorem dX5_init_31 : decode cX5_init 31 = .ok (.aload_n 0, 1) := by decide +kernel
theorem dX5_init_32 : decode cX5_init 32 = .ok (.bipush 40, 2) := by decide +kernel
theorem dX5_init_34 : decode cX5_init 34 = .ok (.newarray .int, 2) := by decide +kernel
theorem dX5_init_36 : decode cX5_init 36 = .ok (.putfield 23, 3) := by decide +kernel
theorem dX5_init_39 : decode cX5_init 39 = .ok (.aload_n 0, 1) := by decide +kernel
theorem dX5_init_40 : decode cX5_init 40 = .ok (.sipush 160, 3) := by decide +kernel
theorem dX5_init_43 : decode cX5_init 43 = .ok (.newarray .int, 2) := by decide +kernel
theorem dX5_init_45 : decode cX5_init 45 = .ok (.putfield 26, 3) := by decide +kernel
theorem dX5_init_48 : decode cX5_init 48 = .ok (.aload_n 0, 1) := by decide +kernel
theorem dX5_init_49 : decode cX5_init 49 = .ok (.bipush 40, 2) := by decide +kernel
theorem dX5_init_51 : decode cX5_init 51 = .ok (.newarray .int, 2) := by decide +kernel
theorem dX5_init_53 : decode cX5_init 53 = .ok (.putfield 29, 3) := by decide +kernel
theorem dX5_init_56 : decode cX5_init 56 = .ok (.aload_n 0, 1) := by decide +kernel
theorem dX5_init_57 : decode cX5_init 57 = .ok (.bipush 40, 2) := by decide +kernel
theorem dX5_init_59 : decode cX5_init 59 = .ok (.newarray .int, 2) := by decide +kernel
theorem dX5_init_61 : decode cX5_init 61 = .ok (.putfield 32, 3) := by decide +kernel
theorem dX5_init_64 : decode cX5_init 64 = .ok (.aload_n 0, 1) := by decide +kernel
theorem dX5_init_65 : decode cX5_init 65 = .ok (.bipush 40, 2) := by decide +kernel
theorem dX5_init_67 : decode cX5_init 67 = .ok (.newarray .int, 2) := by decide +kernel
theorem dX5_init_69 : decode cX5_init 69 = .ok (.putfield 35, 3) := by decide +kernel
theorem dX5_init_72 : decode cX5_init 72 = .ok (.aload_n 0, 1) := by decide +kernel
theorem dX5_init_73 : decode cX5_init 73 = .ok (.bipush 40, 2) := by decide +kernel
theorem dX5_init_75 : decode cX5_init 75 = .ok (.newarray .int, 2) := by decide +kernel
theorem dX5_init_77 : decode cX5_init 77 = .ok (.putfield 38, 3) := by decide +kernel
theorem dX5_init_80 : decode cX5_init 80 = .ok (.aload_n 0, 1) := by decide +kernel
theorem dX5_init_81 : decode cX5_init 81 = .ok (.iconst 4, 1) := by decide +kernel
theorem dX5_init_82 : decode cX5_init 82 = .ok (.newarray .int, 2) := by decide +kernel
theorem dX5_init_84 : decode cX5_init 84 = .ok (.putfield 41, 3) := by decide +kernel
theorem dX5_init_87 : decode cX5_init 87 = .ok (.aload_n 0, 1) := by decide +kernel
theorem dX5_init_88 : decode cX5_init 88 = .ok (.iconst 5, 1) := by decide +kernel
theorem dX5_init_89 : decode cX5_init 89 = .ok (.newarray .int, 2) := by decide +kernel
theorem dX5_init_91 : decode cX5_init 91 = .ok (.putfield 44, 3) := by decide +kernel
theorem dX5_init_94 : decode cX5_init 94 = .ok (.aload_n 0, 1) := by decide +kernel
theorem dX5_init_95 : decode cX5_init 95 = .ok (.bipush 10, 2) := by decide +kernel
theorem dX5_init_97 : decode cX5_init 97 = .ok (.putfield 47, 3) := by decide +kernel
theorem dX5_init_100 : decode cX5_init 100 = .ok (.aload_n 0, 1) := by decide +kernel
theorem dX5_init_101 : decode cX5_init 101 = .ok (.bipush 100, 2) := by decide +kernel
theorem dX5_init_103 : decode cX5_init 103 = .ok (.newarray .int, 2) := by decide +kernel
theorem dX5_init_105 : decode cX5_init 105 = .ok (.putfield 50, 3) := by decide +kernel
theorem dX5_init_108 : decode cX5_init 108 = .ok (.aload_n 0, 1) := by decide +kernel
theorem dX5_init_109 : decode cX5_init 109 = .ok (.bipush (-4), 2) := by decide +kernel
theorem dX5_init_111 : decode cX5_init 111 = .ok (.putfield 53, 3) := by decide +kernel
theorem dX5_init_114 : decode cX5_init 114 = .ok (.aload_n 0, 1) := by decide +kernel
theorem dX5_init_115 : decode cX5_init 115 = .ok (.iconst 4, 1) := by decide +kernel
theorem dX5_init_116 : decode cX5_init 116 = .ok (.newarray .int, 2) := by decide +kernel
theorem dX5_init_118 : decode cX5_init 118 = .ok (.putfield 56, 3) := by decide +kernel
theorem dX5_init_121 : decode cX5_init 121 = .ok (.aload_n 0, 1) := by decide +kernel
theorem dX5_init_122 : decode cX5_init 122 = .ok (.bipush 48, 2) := by decide +kernel
theorem dX5_init_124 : decode cX5_init 124 = .ok (.newarray .int, 2) := by decide +kernel
theorem dX5_init_126 : decode cX5_init 126 = .ok (.putfield 59, 3) := by decide +kernel
theorem dX5_init_129 : decode cX5_init 129 = .ok (.aload_n 0, 1) := by decide +kernel
theorem dX5_init_130 : decode cX5_init 130 = .ok (.bipush 40, 2) := by decide +kernel
theorem dX5_init_132 : decode cX5_init 132 = .ok (.newarray .int, 2) := by decide +kernel
theorem dX5_init_134 : decode cX5_init 134 = .ok (.putfield 62, 3) := by decide +kernel
theorem dX5_init_137 : decode cX5_init 137 = .ok (.aload_n 0, 1) := by decide +kernel
theorem dX5_init_138 : decode cX5_init 138 = .ok (.bipush 40, 2) := by decide +kernel
theorem dX5_init_140 : decode cX5_init 140 = .ok (.newarray .int, 2) := by decide +kernel
theorem dX5_init_142 : decode cX5_init 142 = .ok (.putfield 65, 3) := by decide +kernel
theorem dX5_init_145 : decode cX5_init 145 = .ok (.return_, 1) := by decide +kernel
theorem dX5_in_0 : decode cX5_in 0 = .ok (.iload_n 0, 1) := by decide +kernel
theorem dX5_in_1 : decode cX5_in 1 = .ok (.iload_n 1, 1) := by decide +kernel
theorem dX5_in_2 : decode cX5_in 2 = .ok (.if_icmp .lt 12, 3) := by decide +kernel
theorem dX5_in_5 : decode cX5_in 5 = .ok (.iload_n 0, 1) := by decide +kernel
theorem dX5_in_6 : decode cX5_in 6 = .ok (.iload_n 2, 1) := by decide +kernel
theorem dX5_in_7 : decode cX5_in 7 = .ok (.if_icmp .gt 7, 3) := by decide +kernel
theorem dX5_in_10 : decode cX5_in 10 = .ok (.iconst 1, 1) := by decide +kernel
theorem dX5_in_11 : decode cX5_in 11 = .ok (.goto 4, 3) := by decide +kernel
theorem dX5_in_14 : decode cX5_in 14 = .ok (.iconst 0, 1) := by decide +kernel
theorem dX5_in_15 : decode cX5_in 15 = .ok (.ireturn, 1) := by decide +kernel
theorem dX5_appendKey_0 : decode cX5_appendKey 0 = .ok (.iload_n 1, 1) := by decide +kernel
theorem dX5_appendKey_1 : decode cX5_appendKey 1 = .ok (.iconst 0, 1) := by decide +kernel
theorem dX5_appendKey_2 : decode cX5_appendKey 2 = .ok (.bipush 11, 2) := by decide +kernel
theorem dX5_appendKey_4 : decode cX5_appendKey 4 = .ok (.invokestatic 68, 3) := by decide +kernel
theorem dX5_appendKey_7 : decode cX5_appendKey 7 = .ok (.ifCond .ne 5, 3) := by decide +kernel
theorem dX5_appendKey_10 : decode cX5_appendKey 10 = .ok (.iconst (-1), 1) := by decide +kernel
theorem dX5_appendKey_11 : decode cX5_appendKey 11 = .ok (.ireturn, 1) := by decide +kernel
theorem dX5_appendKey_12 : decode cX5_appendKey 12 = .ok (.aload_n 0, 1) := by decide +kernel
theorem dX5_appendKey_13 : decode cX5_appendKey 13 = .ok (.getfield 72, 3) := by decide +kernel
theorem dX5_appendKey_16 : decode cX5_appendKey 16 = .ok (.iconst 4, 1) := by decide +kernel
theorem dX5_appendKey_17 : decode cX5_appendKey 17 = .ok (.if_icmp .ne 6, 3) := by decide +kernel
theorem dX5_appendKey_20 : decode cX5_appendKey 20 = .ok (.bipush (-3), 2) := by decide +kernel
theorem dX5_appendKey_22 : decode cX5_appendKey 22 = .ok (.ireturn, 1) := by decide +kernel
theorem dX5_appendKey_23 : decode cX5_appendKey 23 = .ok (.aload_n 0, 1) := by decide +kernel
theorem dX5_appendKey_24 : decode cX5_appendKey 24 = .ok (.getfield 41, 3) := by decide +kernel
theorem dX5_appendKey_27 : decode cX5_appendKey 27 = .ok (.aload_n 0, 1) := by decide +kernel
theorem dX5_appendKey_28 : decode cX5_appendKey 28 = .ok (.getfield 72, 3) := by decide +kernel
theorem dX5_appendKey_31 : decode cX5_appendKey 31 = .ok (.iload_n 1, 1) := by decide +kernel
theorem dX5_appendKey_32 : decode cX5_appendKey 32 = .ok (.iastore, 1) := by decide +kernel
theorem dX5_appendKey_33 : decode cX5_appendKey 33 = .ok (.aload_n 0, 1) := by decide +kernel
theorem dX5_appendKey_34 : decode cX5_appendKey 34 = .ok (.dup, 1) := by decide +kernel
theorem dX5_appendKey_35 : decode cX5_appendKey 35 = .ok (.getfield 72, 3) := by decide +kernel
theorem dX5_appendKey_38 : decode cX5_appendKey 38 = .ok (.iconst 1, 1) := by decide +kernel
theorem dX5_appendKey_39 : decode cX5_appendKey 39 = .ok (.iadd, 1) := by decide +kernel
theorem dX5_appendKey_40 : decode cX5_appendKey 40 = .ok (.putfield 72, 3) := by decide +kernel
theorem dX5_appendKey_43 : decode cX5_appendKey 43 = .ok (.aload_n 0, 1) := by decide +kernel
theorem dX5_appendKey_44 : decode cX5_appendKey 44 = .ok (.getfield 72, 3) := by decide +kernel
theorem dX5_appendKey_47 : decode cX5_appendKey 47 = .ok (.ireturn, 1) := by decide +kernel
theorem dX5_clearKeys_0 : decode cX5_clearKeys 0 = .ok (.aload_n 0, 1) := by decide +kernel
theorem dX5_clearKeys_1 : decode cX5_clearKeys 1 = .ok (.getfield 72, 3) := by decide +kernel
theorem dX5_clearKeys_4 : decode cX5_clearKeys 4 = .ok (.istore_n 1, 1) := by decide +kernel
theorem dX5_clearKeys_5 : decode cX5_clearKeys 5 = .ok (.aload_n 0, 1) := by decide +kernel
theorem dX5_clearKeys_6 : decode cX5_clearKeys 6 = .ok (.iconst 0, 1) := by decide +kernel
theorem dX5_clearKeys_7 : decode cX5_clearKeys 7 = .ok (.putfield 72, 3) := by decide +kernel
theorem dX5_clearKeys_10 : decode cX5_clearKeys 10 = .ok (.iload_n 1, 1) := by decide +kernel
theorem dX5_clearKeys_11 : decode cX5_clearKeys 11 = .ok (.ireturn, 1) := by decide +kernel
theorem dX5_most_0 : decode cX5_most 0 = .ok (.iload_n 0, 1) := by decide +kernel
theorem dX5_most_1 : decode cX5_most 1 = .ok (.tableswitch 38 0 3 #[31, 34, 34, 36], 31) := by decide +kernel
theorem dX5_most_32 : decode cX5_most 32 = .ok (.bipush 99, 2) := by decide +kernel
theorem dX5_most_34 : decode cX5_most 34 = .ok (.ireturn, 1) := by decide +kernel
theorem dX5_most_35 : decode cX5_most 35 = .ok (.iconst 3, 1) := by decide +kernel
theorem dX5_most_36 : decode cX5_most 36 = .ok (.ireturn, 1) := by decide +kernel
theorem dX5_most_37 : decode cX5_most 37 = .ok (.iconst 0, 1) := by decide +kernel
theorem dX5_most_38 : decode cX5_most 38 = .ok (.ireturn, 1) := by decide +kernel
theorem dX5_most_39 : decode cX5_most 39 = .ok (.iconst 5, 1) := by decide +kernel
theorem dX5_most_40 : decode cX5_most 40 = .ok (.ireturn, 1) := by decide +kernel
theorem dX5_bind_0 : decode cX5_bind 0 = .ok (.iload_n 1, 1) := by decide +kernel
theorem dX5_bind_1 : decode cX5_bind 1 = .ok (.iconst 0, 1) := by decide +kernel
theorem dX5_bind_2 : decode cX5_bind 2 = .ok (.iconst 3, 1) := by decide +kernel
theorem dX5_bind_3 : decode cX5_bind 3 = .ok (.invokestatic 68, 3) := by decide +kernel
theorem dX5_bind_6 : decode cX5_bind 6 = .ok (.ifCond .eq 53, 3) := by decide +kernel
theorem dX5_bind_9 : decode cX5_bind 9 = .ok (.iload_n 2, 1) := by decide +kernel
theorem dX5_bind_10 : decode cX5_bind 10 = .ok (.iconst (-1), 1) := by decide +kernel
theorem dX5_bind_11 : decode cX5_bind 11 = .ok (.iconst 5, 1) := by decide +kernel
theorem dX5_bind_12 : decode cX5_bind 12 = .ok (.invokestatic 68, 3) := by decide +kernel
theorem dX5_bind_15 : decode cX5_bind 15 = .ok (.ifCond .eq 44, 3) := by decide +kernel
theorem dX5_bind_18 : decode cX5_bind 18 = .ok (.iload_n 2, 1) := by decide +kernel
theorem dX5_bind_19 : decode cX5_bind 19 = .ok (.ifCond .lt 12, 3) := by decide +kernel
theorem dX5_bind_22 : decode cX5_bind 22 = .ok (.iload_n 3, 1) := by decide +kernel
theorem dX5_bind_23 : decode cX5_bind 23 = .ok (.iconst 0, 1) := by decide +kernel
theorem dX5_bind_24 : decode cX5_bind 24 = .ok (.iconst 1, 1) := by decide +kernel
theorem dX5_bind_25 : decode cX5_bind 25 = .ok (.invokestatic 68, 3) := by decide +kernel
theorem dX5_bind_28 : decode cX5_bind 28 = .ok (.ifCond .eq 31, 3) := by decide +kernel
theorem dX5_bind_31 : decode cX5_bind 31 = .ok (.iload 4, 2) := by decide +kernel
theorem dX5_bind_33 : decode cX5_bind 33 = .ok (.iconst 0, 1) := by decide +kernel
theorem dX5_bind_34 : decode cX5_bind 34 = .ok (.iconst 5, 1) := by decide +kernel
theorem dX5_bind_35 : decode cX5_bind 35 = .ok (.invokestatic 68, 3) := by decide +kernel
theorem dX5_bind_38 : decode cX5_bind 38 = .ok (.ifCond .eq 21, 3) := by decide +kernel
theorem dX5_bind_41 : decode cX5_bind 41 = .ok (.iload 5, 2) := by decide +kernel
theorem dX5_bind_43 : decode cX5_bind 43 = .ok (.iconst 0, 1) := by decide +kernel
theorem dX5_bind_44 : decode cX5_bind 44 = .ok (.iload 4, 2) := by decide +kernel
theorem dX5_bind_46 : decode cX5_bind 46 = .ok (.invokestatic 75, 3) := by decide +kernel
theorem dX5_bind_49 : decode cX5_bind 49 = .ok (.invokestatic 68, 3) := by decide +kernel
theorem dX5_bind_52 : decode cX5_bind 52 = .ok (.ifCond .eq 7, 3) := by decide +kernel
theorem dX5_bind_55 : decode cX5_bind 55 = .ok (.iconst 1, 1) := by decide +kernel
theorem dX5_bind_56 : decode cX5_bind 56 = .ok (.goto 4, 3) := by decide +kernel
theorem dX5_bind_59 : decode cX5_bind 59 = .ok (.iconst 0, 1) := by decide +kernel
theorem dX5_bind_60 : decode cX5_bind 60 = .ok (.istore 6, 2) := by decide +kernel
theorem dX5_bind_62 : decode cX5_bind 62 = .ok (.iload 6, 2) := by decide +kernel
theorem dX5_bind_64 : decode cX5_bind 64 = .ok (.ifCond .ne 5, 3) := by decide +kernel
theorem dX5_bind_67 : decode cX5_bind 67 = .ok (.iconst (-1), 1) := by decide +kernel
theorem dX5_bind_68 : decode cX5_bind 68 = .ok (.ireturn, 1) := by decide +kernel
theorem dX5_bind_69 : decode cX5_bind 69 = .ok (.aload_n 0, 1) := by decide +kernel
theorem dX5_bind_70 : decode cX5_bind 70 = .ok (.getfield 72, 3) := by decide +kernel
theorem dX5_bind_73 : decode cX5_bind 73 = .ok (.ifCond .ne 6, 3) := by decide +kernel
theorem dX5_bind_76 : decode cX5_bind 76 = .ok (.bipush (-2), 2) := by decide +kernel
theorem dX5_bind_78 : decode cX5_bind 78 = .ok (.ireturn, 1) := by decide +kernel
theorem dX5_bind_79 : decode cX5_bind 79 = .ok (.aload_n 0, 1) := by decide +kernel
theorem dX5_bind_80 : decode cX5_bind 80 = .ok (.getfield 20, 3) := by decide +kernel
theorem dX5_bind_83 : decode cX5_bind 83 = .ok (.iload_n 1, 1) := by decide +kernel
theorem dX5_bind_84 : decode cX5_bind 84 = .ok (.iaload, 1) := by decide +kernel
theorem dX5_bind_85 : decode cX5_bind 85 = .ok (.bipush 10, 2) := by decide +kernel
theorem dX5_bind_87 : decode cX5_bind 87 = .ok (.if_icmp .ne 6, 3) := by decide +kernel
theorem dX5_bind_90 : decode cX5_bind 90 = .ok (.bipush (-3), 2) := by decide +kernel
theorem dX5_bind_92 : decode cX5_bind 92 = .ok (.ireturn, 1) := by decide +kernel
theorem dX5_bind_93 : decode cX5_bind 93 = .ok (.bipush 10, 2) := by decide +kernel
theorem dX5_bind_95 : decode cX5_bind 95 = .ok (.iload_n 1, 1) := by decide +kernel
theorem dX5_bind_96 : decode cX5_bind 96 = .ok (.imul, 1) := by decide +kernel
theorem dX5_bind_97 : decode cX5_bind 97 = .ok (.aload_n 0, 1) := by decide +kernel
theorem dX5_bind_98 : decode cX5_bind 98 = .ok (.getfield 20, 3) := by decide +kernel
theorem dX5_bind_101 : decode cX5_bind 101 = .ok (.iload_n 1, 1) := by decide +kernel
theorem dX5_bind_102 : decode cX5_bind 102 = .ok (.iaload, 1) := by decide +kernel
theorem dX5_bind_103 : decode cX5_bind 103 = .ok (.iadd, 1) := by decide +kernel
theorem dX5_bind_104 : decode cX5_bind 104 = .ok (.istore 7, 2) := by decide +kernel
theorem dX5_bind_106 : decode cX5_bind 106 = .ok (.aload_n 0, 1) := by decide +kernel
theorem dX5_bind_107 : decode cX5_bind 107 = .ok (.getfield 23, 3) := by decide +kernel
theorem dX5_bind_110 : decode cX5_bind 110 = .ok (.iload 7, 2) := by decide +kernel
theorem dX5_bind_112 : decode cX5_bind 112 = .ok (.aload_n 0, 1) := by decide +kernel
theorem dX5_bind_113 : decode cX5_bind 113 = .ok (.getfield 72, 3) := by decide +kernel
theorem dX5_bind_116 : decode cX5_bind 116 = .ok (.iastore, 1) := by decide +kernel
theorem dX5_bind_117 : decode cX5_bind 117 = .ok (.iconst 0, 1) := by decide +kernel
theorem dX5_bind_118 : decode cX5_bind 118 = .ok (.istore 8, 2) := by decide +kernel
theorem dX5_bind_120 : decode cX5_bind 120 = .ok (.iload 8, 2) := by decide +kernel
theorem dX5_bind_122 : decode cX5_bind 122 = .ok (.aload_n 0, 1) := by decide +kernel
theorem dX5_bind_123 : decode cX5_bind 123 = .ok (.getfield 72, 3) := by decide +kernel
theorem dX5_bind_126 : decode cX5_bind 126 = .ok (.if_icmp .ge 28, 3) := by decide +kernel
theorem dX5_bind_129 : decode cX5_bind 129 = .ok (.aload_n 0, 1) := by decide +kernel
theorem dX5_bind_130 : decode cX5_bind 130 = .ok (.getfield 26, 3) := by decide +kernel
theorem dX5_bind_133 : decode cX5_bind 133 = .ok (.iconst 4, 1) := by decide +kernel
theorem dX5_bind_134 : decode cX5_bind 134 = .ok (.iload 7, 2) := by decide +kernel
theorem dX5_bind_136 : decode cX5_bind 136 = .ok (.imul, 1) := by decide +kernel
theorem dX5_bind_137 : decode cX5_bind 137 = .ok (.iload 8, 2) := by decide +kernel
theorem dX5_bind_139 : decode cX5_bind 139 = .ok (.iadd, 1) := by decide +kernel
theorem dX5_bind_140 : decode cX5_bind 140 = .ok (.aload_n 0, 1) := by decide +kernel
theorem dX5_bind_141 : decode cX5_bind 141 = .ok (.getfield 41, 3) := by decide +kernel
theorem dX5_bind_144 : decode cX5_bind 144 = .ok (.iload 8, 2) := by decide +kernel
theorem dX5_bind_146 : decode cX5_bind 146 = .ok (.iaload, 1) := by decide +kernel
theorem dX5_bind_147 : decode cX5_bind 147 = .ok (.iastore, 1) := by decide +kernel
theorem dX5_bind_148 : decode cX5_bind 148 = .ok (.iinc 8 1, 3) := by decide +kernel
theorem dX5_bind_151 : decode cX5_bind 151 = .ok (.goto (-31), 3) := by decide +kernel
theorem dX5_bind_154 : decode cX5_bind 154 = .ok (.aload_n 0, 1) := by decide +kernel
theorem dX5_bind_155 : decode cX5_bind 155 = .ok (.getfield 29, 3) := by decide +kernel
theorem dX5_bind_158 : decode cX5_bind 158 = .ok (.iload 7, 2) := by decide +kernel
theorem dX5_bind_160 : decode cX5_bind 160 = .ok (.iload_n 2, 1) := by decide +kernel
theorem dX5_bind_161 : decode cX5_bind 161 = .ok (.iastore, 1) := by decide +kernel
theorem dX5_bind_162 : decode cX5_bind 162 = .ok (.aload_n 0, 1) := by decide +kernel
theorem dX5_bind_163 : decode cX5_bind 163 = .ok (.getfield 32, 3) := by decide +kernel
theorem dX5_bind_166 : decode cX5_bind 166 = .ok (.iload 7, 2) := by decide +kernel
theorem dX5_bind_168 : decode cX5_bind 168 = .ok (.iload_n 3, 1) := by decide +kernel
theorem dX5_bind_169 : decode cX5_bind 169 = .ok (.iastore, 1) := by decide +kernel
theorem dX5_bind_170 : decode cX5_bind 170 = .ok (.aload_n 0, 1) := by decide +kernel
theorem dX5_bind_171 : decode cX5_bind 171 = .ok (.getfield 35, 3) := by decide +kernel
theorem dX5_bind_174 : decode cX5_bind 174 = .ok (.iload 7, 2) := by decide +kernel
theorem dX5_bind_176 : decode cX5_bind 176 = .ok (.iload 4, 2) := by decide +kernel
theorem dX5_bind_178 : decode cX5_bind 178 = .ok (.iastore, 1) := by decide +kernel
theorem dX5_bind_179 : decode cX5_bind 179 = .ok (.aload_n 0, 1) := by decide +kernel
theorem dX5_bind_180 : decode cX5_bind 180 = .ok (.getfield 38, 3) := by decide +kernel
theorem dX5_bind_183 : decode cX5_bind 183 = .ok (.iload 7, 2) := by decide +kernel
theorem dX5_bind_185 : decode cX5_bind 185 = .ok (.iload 5, 2) := by decide +kernel
theorem dX5_bind_187 : decode cX5_bind 187 = .ok (.iastore, 1) := by decide +kernel
theorem dX5_bind_188 : decode cX5_bind 188 = .ok (.aload_n 0, 1) := by decide +kernel
theorem dX5_bind_189 : decode cX5_bind 189 = .ok (.getfield 20, 3) := by decide +kernel
theorem dX5_bind_192 : decode cX5_bind 192 = .ok (.iload_n 1, 1) := by decide +kernel
theorem dX5_bind_193 : decode cX5_bind 193 = .ok (.dup2, 1) := by decide +kernel
theorem dX5_bind_194 : decode cX5_bind 194 = .ok (.iaload, 1) := by decide +kernel
theorem dX5_bind_195 : decode cX5_bind 195 = .ok (.iconst 1, 1) := by decide +kernel
theorem dX5_bind_196 : decode cX5_bind 196 = .ok (.iadd, 1) := by decide +kernel
theorem dX5_bind_197 : decode cX5_bind 197 = .ok (.iastore, 1) := by decide +kernel
theorem dX5_bind_198 : decode cX5_bind 198 = .ok (.aload_n 0, 1) := by decide +kernel
theorem dX5_bind_199 : decode cX5_bind 199 = .ok (.iconst 0, 1) := by decide +kernel
theorem dX5_bind_200 : decode cX5_bind 200 = .ok (.putfield 72, 3) := by decide +kernel
theorem dX5_bind_203 : decode cX5_bind 203 = .ok (.aload_n 0, 1) := by decide +kernel
theorem dX5_bind_204 : decode cX5_bind 204 = .ok (.getfield 20, 3) := by decide +kernel
theorem dX5_bind_207 : decode cX5_bind 207 = .ok (.iload_n 1, 1) := by decide +kernel
theorem dX5_bind_208 : decode cX5_bind 208 = .ok (.iaload, 1) := by decide +kernel
theorem dX5_bind_209 : decode cX5_bind 209 = .ok (.iconst 1, 1) := by decide +kernel
theorem dX5_bind_210 : decode cX5_bind 210 = .ok (.isub, 1) := by decide +kernel
theorem dX5_bind_211 : decode cX5_bind 211 = .ok (.ireturn, 1) := by decide +kernel
theorem dX5_isBinding_0 : decode cX5_isBinding 0 = .ok (.iload_n 1, 1) := by decide +kernel
theorem dX5_isBinding_1 : decode cX5_isBinding 1 = .ok (.iconst 0, 1) := by decide +kernel
theorem dX5_isBinding_2 : decode cX5_isBinding 2 = .ok (.iconst 3, 1) := by decide +kernel
theorem dX5_isBinding_3 : decode cX5_isBinding 3 = .ok (.invokestatic 68, 3) := by decide +kernel
theorem dX5_isBinding_6 : decode cX5_isBinding 6 = .ok (.ifCond .eq 23, 3) := by decide +kernel
theorem dX5_isBinding_9 : decode cX5_isBinding 9 = .ok (.iload_n 2, 1) := by decide +kernel
theorem dX5_isBinding_10 : decode cX5_isBinding 10 = .ok (.iconst 0, 1) := by decide +kernel
theorem dX5_isBinding_11 : decode cX5_isBinding 11 = .ok (.aload_n 0, 1) := by decide +kernel
theorem dX5_isBinding_12 : decode cX5_isBinding 12 = .ok (.getfield 20, 3) := by decide +kernel
theorem dX5_isBinding_15 : decode cX5_isBinding 15 = .ok (.iload_n 1, 1) := by decide +kernel
theorem dX5_isBinding_16 : decode cX5_isBinding 16 = .ok (.iaload, 1) := by decide +kernel
theorem dX5_isBinding_17 : decode cX5_isBinding 17 = .ok (.iconst 1, 1) := by decide +kernel
theorem dX5_isBinding_18 : decode cX5_isBinding 18 = .ok (.isub, 1) := by decide +kernel
theorem dX5_isBinding_19 : decode cX5_isBinding 19 = .ok (.invokestatic 68, 3) := by decide +kernel
theorem dX5_isBinding_22 : decode cX5_isBinding 22 = .ok (.ifCond .eq 7, 3) := by decide +kernel
theorem dX5_isBinding_25 : decode cX5_isBinding 25 = .ok (.iconst 1, 1) := by decide +kernel
theorem dX5_isBinding_26 : decode cX5_isBinding 26 = .ok (.goto 4, 3) := by decide +kernel
theorem dX5_isBinding_29 : decode cX5_isBinding 29 = .ok (.iconst 0, 1) := by decide +kernel
theorem dX5_isBinding_30 : decode cX5_isBinding 30 = .ok (.ireturn, 1) := by decide +kernel
theorem dX5_unbind_0 : decode cX5_unbind 0 = .ok (.aload_n 0, 1) := by decide +kernel
theorem dX5_unbind_1 : decode cX5_unbind 1 = .ok (.iload_n 1, 1) := by decide +kernel
theorem dX5_unbind_2 : decode cX5_unbind 2 = .ok (.iload_n 2, 1) := by decide +kernel
theorem dX5_unbind_3 : decode cX5_unbind 3 = .ok (.invokevirtual 79, 3) := by decide +kernel
theorem dX5_unbind_6 : decode cX5_unbind 6 = .ok (.ifCond .ne 5, 3) := by decide +kernel
theorem dX5_unbind_9 : decode cX5_unbind 9 = .ok (.iconst (-1), 1) := by decide +kernel
theorem dX5_unbind_10 : decode cX5_unbind 10 = .ok (.ireturn, 1) := by decide +kernel
theorem dX5_unbind_11 : decode cX5_unbind 11 = .ok (.aload_n 0, 1) := by decide +kernel
theorem dX5_unbind_12 : decode cX5_unbind 12 = .ok (.getfield 20, 3) := by decide +kernel
theorem dX5_unbind_15 : decode cX5_unbind 15 = .ok (.iload_n 1, 1) := by decide +kernel
theorem dX5_unbind_16 : decode cX5_unbind 16 = .ok (.dup2, 1) := by decide +kernel
theorem dX5_unbind_17 : decode cX5_unbind 17 = .ok (.iaload, 1) := by decide +kernel
theorem dX5_unbind_18 : decode cX5_unbind 18 = .ok (.iconst 1, 1) := by decide +kernel
theorem dX5_unbind_19 : decode cX5_unbind 19 = .ok (.isub, 1) := by decide +kernel
theorem dX5_unbind_20 : decode cX5_unbind 20 = .ok (.iastore, 1) := by decide +kernel
theorem dX5_unbind_21 : decode cX5_unbind 21 = .ok (.bipush 10, 2) := by decide +kernel
theorem dX5_unbind_23 : decode cX5_unbind 23 = .ok (.iload_n 1, 1) := by decide +kernel
theorem dX5_unbind_24 : decode cX5_unbind 24 = .ok (.imul, 1) := by decide +kernel
theorem dX5_unbind_25 : decode cX5_unbind 25 = .ok (.iload_n 2, 1) := by decide +kernel
theorem dX5_unbind_26 : decode cX5_unbind 26 = .ok (.iadd, 1) := by decide +kernel
theorem dX5_unbind_27 : decode cX5_unbind 27 = .ok (.istore_n 3, 1) := by decide +kernel
theorem dX5_unbind_28 : decode cX5_unbind 28 = .ok (.iload_n 3, 1) := by decide +kernel
theorem dX5_unbind_29 : decode cX5_unbind 29 = .ok (.bipush 10, 2) := by decide +kernel
theorem dX5_unbind_31 : decode cX5_unbind 31 = .ok (.iload_n 1, 1) := by decide +kernel
theorem dX5_unbind_32 : decode cX5_unbind 32 = .ok (.imul, 1) := by decide +kernel
theorem dX5_unbind_33 : decode cX5_unbind 33 = .ok (.aload_n 0, 1) := by decide +kernel
theorem dX5_unbind_34 : decode cX5_unbind 34 = .ok (.getfield 20, 3) := by decide +kernel
theorem dX5_unbind_37 : decode cX5_unbind 37 = .ok (.iload_n 1, 1) := by decide +kernel
theorem dX5_unbind_38 : decode cX5_unbind 38 = .ok (.iaload, 1) := by decide +kernel
theorem dX5_unbind_39 : decode cX5_unbind 39 = .ok (.iadd, 1) := by decide +kernel
theorem dX5_unbind_40 : decode cX5_unbind 40 = .ok (.if_icmp .ge 118, 3) := by decide +kernel
theorem dX5_unbind_43 : decode cX5_unbind 43 = .ok (.aload_n 0, 1) := by decide +kernel
theorem dX5_unbind_44 : decode cX5_unbind 44 = .ok (.getfield 23, 3) := by decide +kernel
theorem dX5_unbind_47 : decode cX5_unbind 47 = .ok (.iload_n 3, 1) := by decide +kernel
theorem dX5_unbind_48 : decode cX5_unbind 48 = .ok (.aload_n 0, 1) := by decide +kernel
theorem dX5_unbind_49 : decode cX5_unbind 49 = .ok (.getfield 23, 3) := by decide +kernel
theorem dX5_unbind_52 : decode cX5_unbind 52 = .ok (.iload_n 3, 1) := by decide +kernel
theorem dX5_unbind_53 : decode cX5_unbind 53 = .ok (.iconst 1, 1) := by decide +kernel
theorem dX5_unbind_54 : decode cX5_unbind 54 = .ok (.iadd, 1) := by decide +kernel
theorem dX5_unbind_55 : decode cX5_unbind 55 = .ok (.iaload, 1) := by decide +kernel
theorem dX5_unbind_56 : decode cX5_unbind 56 = .ok (.iastore, 1) := by decide +kernel
theorem dX5_unbind_57 : decode cX5_unbind 57 = .ok (.aload_n 0, 1) := by decide +kernel
theorem dX5_unbind_58 : decode cX5_unbind 58 = .ok (.getfield 29, 3) := by decide +kernel
theorem dX5_unbind_61 : decode cX5_unbind 61 = .ok (.iload_n 3, 1) := by decide +kernel
theorem dX5_unbind_62 : decode cX5_unbind 62 = .ok (.aload_n 0, 1) := by decide +kernel
theorem dX5_unbind_63 : decode cX5_unbind 63 = .ok (.getfield 29, 3) := by decide +kernel
theorem dX5_unbind_66 : decode cX5_unbind 66 = .ok (.iload_n 3, 1) := by decide +kernel
theorem dX5_unbind_67 : decode cX5_unbind 67 = .ok (.iconst 1, 1) := by decide +kernel
theorem dX5_unbind_68 : decode cX5_unbind 68 = .ok (.iadd, 1) := by decide +kernel
theorem dX5_unbind_69 : decode cX5_unbind 69 = .ok (.iaload, 1) := by decide +kernel
theorem dX5_unbind_70 : decode cX5_unbind 70 = .ok (.iastore, 1) := by decide +kernel
theorem dX5_unbind_71 : decode cX5_unbind 71 = .ok (.aload_n 0, 1) := by decide +kernel
theorem dX5_unbind_72 : decode cX5_unbind 72 = .ok (.getfield 32, 3) := by decide +kernel
theorem dX5_unbind_75 : decode cX5_unbind 75 = .ok (.iload_n 3, 1) := by decide +kernel
theorem dX5_unbind_76 : decode cX5_unbind 76 = .ok (.aload_n 0, 1) := by decide +kernel
theorem dX5_unbind_77 : decode cX5_unbind 77 = .ok (.getfield 32, 3) := by decide +kernel
theorem dX5_unbind_80 : decode cX5_unbind 80 = .ok (.iload_n 3, 1) := by decide +kernel
theorem dX5_unbind_81 : decode cX5_unbind 81 = .ok (.iconst 1, 1) := by decide +kernel
theorem dX5_unbind_82 : decode cX5_unbind 82 = .ok (.iadd, 1) := by decide +kernel
theorem dX5_unbind_83 : decode cX5_unbind 83 = .ok (.iaload, 1) := by decide +kernel
theorem dX5_unbind_84 : decode cX5_unbind 84 = .ok (.iastore, 1) := by decide +kernel
theorem dX5_unbind_85 : decode cX5_unbind 85 = .ok (.aload_n 0, 1) := by decide +kernel
theorem dX5_unbind_86 : decode cX5_unbind 86 = .ok (.getfield 35, 3) := by decide +kernel
theorem dX5_unbind_89 : decode cX5_unbind 89 = .ok (.iload_n 3, 1) := by decide +kernel
theorem dX5_unbind_90 : decode cX5_unbind 90 = .ok (.aload_n 0, 1) := by decide +kernel
theorem dX5_unbind_91 : decode cX5_unbind 91 = .ok (.getfield 35, 3) := by decide +kernel
theorem dX5_unbind_94 : decode cX5_unbind 94 = .ok (.iload_n 3, 1) := by decide +kernel
theorem dX5_unbind_95 : decode cX5_unbind 95 = .ok (.iconst 1, 1) := by decide +kernel
theorem dX5_unbind_96 : decode cX5_unbind 96 = .ok (.iadd, 1) := by decide +kernel
theorem dX5_unbind_97 : decode cX5_unbind 97 = .ok (.iaload, 1) := by decide +kernel
theorem dX5_unbind_98 : decode cX5_unbind 98 = .ok (.iastore, 1) := by decide +kernel
theorem dX5_unbind_99 : decode cX5_unbind 99 = .ok (.aload_n 0, 1) := by decide +kernel
theorem dX5_unbind_100 : decode cX5_unbind 100 = .ok (.getfield 38, 3) := by decide +kernel
theorem dX5_unbind_103 : decode cX5_unbind 103 = .ok (.iload_n 3, 1) := by decide +kernel
theorem dX5_unbind_104 : decode cX5_unbind 104 = .ok (.aload_n 0, 1) := by decide +kernel
theorem dX5_unbind_105 : decode cX5_unbind 105 = .ok (.getfield 38, 3) := by decide +kernel
theorem dX5_unbind_108 : decode cX5_unbind 108 = .ok (.iload_n 3, 1) := by decide +kernel
theorem dX5_unbind_109 : decode cX5_unbind 109 = .ok (.iconst 1, 1) := by decide +kernel
theorem dX5_unbind_110 : decode cX5_unbind 110 = .ok (.iadd, 1) := by decide +kernel
theorem dX5_unbind_111 : decode cX5_unbind 111 = .ok (.iaload, 1) := by decide +kernel
theorem dX5_unbind_112 : decode cX5_unbind 112 = .ok (.iastore, 1) := by decide +kernel
theorem dX5_unbind_113 : decode cX5_unbind 113 = .ok (.iconst 0, 1) := by decide +kernel
theorem dX5_unbind_114 : decode cX5_unbind 114 = .ok (.istore 4, 2) := by decide +kernel
theorem dX5_unbind_116 : decode cX5_unbind 116 = .ok (.iload 4, 2) := by decide +kernel
theorem dX5_unbind_118 : decode cX5_unbind 118 = .ok (.iconst 4, 1) := by decide +kernel
theorem dX5_unbind_119 : decode cX5_unbind 119 = .ok (.if_icmp .ge 33, 3) := by decide +kernel
theorem dX5_unbind_122 : decode cX5_unbind 122 = .ok (.aload_n 0, 1) := by decide +kernel
theorem dX5_unbind_123 : decode cX5_unbind 123 = .ok (.getfield 26, 3) := by decide +kernel
theorem dX5_unbind_126 : decode cX5_unbind 126 = .ok (.iconst 4, 1) := by decide +kernel
theorem dX5_unbind_127 : decode cX5_unbind 127 = .ok (.iload_n 3, 1) := by decide +kernel
theorem dX5_unbind_128 : decode cX5_unbind 128 = .ok (.imul, 1) := by decide +kernel
theorem dX5_unbind_129 : decode cX5_unbind 129 = .ok (.iload 4, 2) := by decide +kernel
theorem dX5_unbind_131 : decode cX5_unbind 131 = .ok (.iadd, 1) := by decide +kernel
theorem dX5_unbind_132 : decode cX5_unbind 132 = .ok (.aload_n 0, 1) := by decide +kernel
theorem dX5_unbind_133 : decode cX5_unbind 133 = .ok (.getfield 26, 3) := by decide +kernel
theorem dX5_unbind_136 : decode cX5_unbind 136 = .ok (.iconst 4, 1) := by decide +kernel
theorem dX5_unbind_137 : decode cX5_unbind 137 = .ok (.iload_n 3, 1) := by decide +kernel
theorem dX5_unbind_138 : decode cX5_unbind 138 = .ok (.imul, 1) := by decide +kernel
theorem dX5_unbind_139 : decode cX5_unbind 139 = .ok (.iconst 4, 1) := by decide +kernel
theorem dX5_unbind_140 : decode cX5_unbind 140 = .ok (.iadd, 1) := by decide +kernel
theorem dX5_unbind_141 : decode cX5_unbind 141 = .ok (.iload 4, 2) := by decide +kernel
theorem dX5_unbind_143 : decode cX5_unbind 143 = .ok (.iadd, 1) := by decide +kernel
theorem dX5_unbind_144 : decode cX5_unbind 144 = .ok (.iaload, 1) := by decide +kernel
theorem dX5_unbind_145 : decode cX5_unbind 145 = .ok (.iastore, 1) := by decide +kernel
theorem dX5_unbind_146 : decode cX5_unbind 146 = .ok (.iinc 4 1, 3) := by decide +kernel
theorem dX5_unbind_149 : decode cX5_unbind 149 = .ok (.goto (-33), 3) := by decide +kernel
theorem dX5_unbind_152 : decode cX5_unbind 152 = .ok (.iinc 3 1, 3) := by decide +kernel
theorem dX5_unbind_155 : decode cX5_unbind 155 = .ok (.goto (-127), 3) := by decide +kernel
theorem dX5_unbind_158 : decode cX5_unbind 158 = .ok (.aload_n 0, 1) := by decide +kernel
theorem dX5_unbind_159 : decode cX5_unbind 159 = .ok (.getfield 20, 3) := by decide +kernel
theorem dX5_unbind_162 : decode cX5_unbind 162 = .ok (.iload_n 1, 1) := by decide +kernel
theorem dX5_unbind_163 : decode cX5_unbind 163 = .ok (.iaload, 1) := by decide +kernel
theorem dX5_unbind_164 : decode cX5_unbind 164 = .ok (.ireturn, 1) := by decide +kernel
theorem dX5_bindingCount_0 : decode cX5_bindingCount 0 = .ok (.iload_n 1, 1) := by decide +kernel
theorem dX5_bindingCount_1 : decode cX5_bindingCount 1 = .ok (.iconst 0, 1) := by decide +kernel
theorem dX5_bindingCount_2 : decode cX5_bindingCount 2 = .ok (.iconst 3, 1) := by decide +kernel
theorem dX5_bindingCount_3 : decode cX5_bindingCount 3 = .ok (.invokestatic 68, 3) := by decide +kernel
theorem dX5_bindingCount_6 : decode cX5_bindingCount 6 = .ok (.ifCond .eq 12, 3) := by decide +kernel
theorem dX5_bindingCount_9 : decode cX5_bindingCount 9 = .ok (.aload_n 0, 1) := by decide +kernel
theorem dX5_bindingCount_10 : decode cX5_bindingCount 10 = .ok (.getfield 20, 3) := by decide +kernel
theorem dX5_bindingCount_13 : decode cX5_bindingCount 13 = .ok (.iload_n 1, 1) := by decide +kernel
theorem dX5_bindingCount_14 : decode cX5_bindingCount 14 = .ok (.iaload, 1) := by decide +kernel
theorem dX5_bindingCount_15 : decode cX5_bindingCount 15 = .ok (.goto 4, 3) := by decide +kernel
theorem dX5_bindingCount_18 : decode cX5_bindingCount 18 = .ok (.iconst (-1), 1) := by decide +kernel
theorem dX5_bindingCount_19 : decode cX5_bindingCount 19 = .ok (.ireturn, 1) := by decide +kernel
theorem dX5_shadowedBy_0 : decode cX5_shadowedBy 0 = .ok (.aload_n 0, 1) := by decide +kernel
theorem dX5_shadowedBy_1 : decode cX5_shadowedBy 1 = .ok (.iload_n 1, 1) := by decide +kernel
theorem dX5_shadowedBy_2 : decode cX5_shadowedBy 2 = .ok (.iload_n 2, 1) := by decide +kernel
theorem dX5_shadowedBy_3 : decode cX5_shadowedBy 3 = .ok (.invokevirtual 79, 3) := by decide +kernel
theorem dX5_shadowedBy_6 : decode cX5_shadowedBy 6 = .ok (.ifCond .ne 5, 3) := by decide +kernel
theorem dX5_shadowedBy_9 : decode cX5_shadowedBy 9 = .ok (.iconst (-1), 1) := by decide +kernel
theorem dX5_shadowedBy_10 : decode cX5_shadowedBy 10 = .ok (.ireturn, 1) := by decide +kernel
theorem dX5_shadowedBy_11 : decode cX5_shadowedBy 11 = .ok (.bipush 10, 2) := by decide +kernel
theorem dX5_shadowedBy_13 : decode cX5_shadowedBy 13 = .ok (.iload_n 1, 1) := by decide +kernel
theorem dX5_shadowedBy_14 : decode cX5_shadowedBy 14 = .ok (.imul, 1) := by decide +kernel
theorem dX5_shadowedBy_15 : decode cX5_shadowedBy 15 = .ok (.iload_n 2, 1) := by decide +kernel
theorem dX5_shadowedBy_16 : decode cX5_shadowedBy 16 = .ok (.iadd, 1) := by decide +kernel
theorem dX5_shadowedBy_17 : decode cX5_shadowedBy 17 = .ok (.istore_n 3, 1) := by decide +kernel
theorem dX5_shadowedBy_18 : decode cX5_shadowedBy 18 = .ok (.iconst 0, 1) := by decide +kernel
theorem dX5_shadowedBy_19 : decode cX5_shadowedBy 19 = .ok (.istore 4, 2) := by decide +kernel
theorem dX5_shadowedBy_21 : decode cX5_shadowedBy 21 = .ok (.iload 4, 2) := by decide +kernel
theorem dX5_shadowedBy_23 : decode cX5_shadowedBy 23 = .ok (.iload_n 2, 1) := by decide +kernel
theorem dX5_shadowedBy_24 : decode cX5_shadowedBy 24 = .ok (.if_icmp .ge 149, 3) := by decide +kernel
theorem dX5_shadowedBy_27 : decode cX5_shadowedBy 27 = .ok (.bipush 10, 2) := by decide +kernel
theorem dX5_shadowedBy_29 : decode cX5_shadowedBy 29 = .ok (.iload_n 1, 1) := by decide +kernel
theorem dX5_shadowedBy_30 : decode cX5_shadowedBy 30 = .ok (.imul, 1) := by decide +kernel
theorem dX5_shadowedBy_31 : decode cX5_shadowedBy 31 = .ok (.iload 4, 2) := by decide +kernel
theorem dX5_shadowedBy_33 : decode cX5_shadowedBy 33 = .ok (.iadd, 1) := by decide +kernel
theorem dX5_shadowedBy_34 : decode cX5_shadowedBy 34 = .ok (.istore 5, 2) := by decide +kernel
theorem dX5_shadowedBy_36 : decode cX5_shadowedBy 36 = .ok (.aload_n 0, 1) := by decide +kernel
theorem dX5_shadowedBy_37 : decode cX5_shadowedBy 37 = .ok (.getfield 23, 3) := by decide +kernel
theorem dX5_shadowedBy_40 : decode cX5_shadowedBy 40 = .ok (.iload 5, 2) := by decide +kernel
theorem dX5_shadowedBy_42 : decode cX5_shadowedBy 42 = .ok (.iaload, 1) := by decide +kernel
theorem dX5_shadowedBy_43 : decode cX5_shadowedBy 43 = .ok (.aload_n 0, 1) := by decide +kernel
theorem dX5_shadowedBy_44 : decode cX5_shadowedBy 44 = .ok (.getfield 23, 3) := by decide +kernel
theorem dX5_shadowedBy_47 : decode cX5_shadowedBy 47 = .ok (.iload_n 3, 1) := by decide +kernel
theorem dX5_shadowedBy_48 : decode cX5_shadowedBy 48 = .ok (.iaload, 1) := by decide +kernel
theorem dX5_shadowedBy_49 : decode cX5_shadowedBy 49 = .ok (.if_icmp .ne 49, 3) := by decide +kernel
theorem dX5_shadowedBy_52 : decode cX5_shadowedBy 52 = .ok (.aload_n 0, 1) := by decide +kernel
theorem dX5_shadowedBy_53 : decode cX5_shadowedBy 53 = .ok (.getfield 29, 3) := by decide +kernel
theorem dX5_shadowedBy_56 : decode cX5_shadowedBy 56 = .ok (.iload 5, 2) := by decide +kernel
theorem dX5_shadowedBy_58 : decode cX5_shadowedBy 58 = .ok (.iaload, 1) := by decide +kernel
theorem dX5_shadowedBy_59 : decode cX5_shadowedBy 59 = .ok (.ifCond .lt 35, 3) := by decide +kernel
theorem dX5_shadowedBy_62 : decode cX5_shadowedBy 62 = .ok (.aload_n 0, 1) := by decide +kernel
theorem dX5_shadowedBy_63 : decode cX5_shadowedBy 63 = .ok (.getfield 29, 3) := by decide +kernel
theorem dX5_shadowedBy_66 : decode cX5_shadowedBy 66 = .ok (.iload 5, 2) := by decide +kernel
theorem dX5_shadowedBy_68 : decode cX5_shadowedBy 68 = .ok (.iaload, 1) := by decide +kernel
theorem dX5_shadowedBy_69 : decode cX5_shadowedBy 69 = .ok (.aload_n 0, 1) := by decide +kernel
theorem dX5_shadowedBy_70 : decode cX5_shadowedBy 70 = .ok (.getfield 29, 3) := by decide +kernel
theorem dX5_shadowedBy_73 : decode cX5_shadowedBy 73 = .ok (.iload_n 3, 1) := by decide +kernel
theorem dX5_shadowedBy_74 : decode cX5_shadowedBy 74 = .ok (.iaload, 1) := by decide +kernel
theorem dX5_shadowedBy_75 : decode cX5_shadowedBy 75 = .ok (.if_icmp .ne 23, 3) := by decide +kernel
theorem dX5_shadowedBy_78 : decode cX5_shadowedBy 78 = .ok (.aload_n 0, 1) := by decide +kernel
theorem dX5_shadowedBy_79 : decode cX5_shadowedBy 79 = .ok (.getfield 32, 3) := by decide +kernel
theorem dX5_shadowedBy_82 : decode cX5_shadowedBy 82 = .ok (.iload 5, 2) := by decide +kernel
theorem dX5_shadowedBy_84 : decode cX5_shadowedBy 84 = .ok (.iaload, 1) := by decide +kernel
theorem dX5_shadowedBy_85 : decode cX5_shadowedBy 85 = .ok (.aload_n 0, 1) := by decide +kernel
theorem dX5_shadowedBy_86 : decode cX5_shadowedBy 86 = .ok (.getfield 32, 3) := by decide +kernel
theorem dX5_shadowedBy_89 : decode cX5_shadowedBy 89 = .ok (.iload_n 3, 1) := by decide +kernel
theorem dX5_shadowedBy_90 : decode cX5_shadowedBy 90 = .ok (.iaload, 1) := by decide +kernel
theorem dX5_shadowedBy_91 : decode cX5_shadowedBy 91 = .ok (.if_icmp .ne 7, 3) := by decide +kernel
theorem dX5_shadowedBy_94 : decode cX5_shadowedBy 94 = .ok (.iconst 1, 1) := by decide +kernel
theorem dX5_shadowedBy_95 : decode cX5_shadowedBy 95 = .ok (.goto 4, 3) := by decide +kernel
theorem dX5_shadowedBy_98 : decode cX5_shadowedBy 98 = .ok (.iconst 0, 1) := by decide +kernel
theorem dX5_shadowedBy_99 : decode cX5_shadowedBy 99 = .ok (.istore 6, 2) := by decide +kernel
theorem dX5_shadowedBy_101 : decode cX5_shadowedBy 101 = .ok (.iconst 0, 1) := by decide +kernel
theorem dX5_shadowedBy_102 : decode cX5_shadowedBy 102 = .ok (.istore 7, 2) := by decide +kernel
theorem dX5_shadowedBy_104 : decode cX5_shadowedBy 104 = .ok (.iload 7, 2) := by decide +kernel
theorem dX5_shadowedBy_106 : decode cX5_shadowedBy 106 = .ok (.aload_n 0, 1) := by decide +kernel
theorem dX5_shadowedBy_107 : decode cX5_shadowedBy 107 = .ok (.getfield 23, 3) := by decide +kernel
theorem dX5_shadowedBy_110 : decode cX5_shadowedBy 110 = .ok (.iload_n 3, 1) := by decide +kernel
theorem dX5_shadowedBy_111 : decode cX5_shadowedBy 111 = .ok (.iaload, 1) := by decide +kernel
theorem dX5_shadowedBy_112 : decode cX5_shadowedBy 112 = .ok (.if_icmp .ge 47, 3) := by decide +kernel
theorem dX5_shadowedBy_115 : decode cX5_shadowedBy 115 = .ok (.iload 6, 2) := by decide +kernel
theorem dX5_shadowedBy_117 : decode cX5_shadowedBy 117 = .ok (.ifCond .eq 33, 3) := by decide +kernel
theorem dX5_shadowedBy_120 : decode cX5_shadowedBy 120 = .ok (.aload_n 0, 1) := by decide +kernel
theorem dX5_shadowedBy_121 : decode cX5_shadowedBy 121 = .ok (.getfield 26, 3) := by decide +kernel

theorem dX0_init_0 : decode cX0_init 0 = .ok (.aload_n 0, 1) := by decide +kernel
theorem dX0_init_1 : decode cX0_init 1 = .ok (.invokespecial 3, 3) := by decide +kernel
theorem dX0_init_4 : decode cX0_init 4 = .ok (.aload_n 0, 1) := by decide +kernel
theorem dX0_init_5 : decode cX0_init 5 = .ok (.aload_n 1, 1) := by decide +kernel
theorem dX0_init_6 : decode cX0_init 6 = .ok (.putfield 9, 3) := by decide +kernel
theorem dX0_init_9 : decode cX0_init 9 = .ok (.aload_n 0, 1) := by decide +kernel
theorem dX0_init_10 : decode cX0_init 10 = .ok (.iload_n 2, 1) := by decide +kernel
theorem dX0_init_11 : decode cX0_init 11 = .ok (.putfield 15, 3) := by decide +kernel
theorem dX0_init_14 : decode cX0_init 14 = .ok (.aload_n 0, 1) := by decide +kernel
theorem dX0_init_15 : decode cX0_init 15 = .ok (.iload_n 3, 1) := by decide +kernel
theorem dX0_init_16 : decode cX0_init 16 = .ok (.putfield 19, 3) := by decide +kernel
theorem dX0_init_19 : decode cX0_init 19 = .ok (.aload_n 0, 1) := by decide +kernel
theorem dX0_init_20 : decode cX0_init 20 = .ok (.iload 4, 2) := by decide +kernel
theorem dX0_init_22 : decode cX0_init 22 = .ok (.putfield 22, 3) := by decide +kernel
theorem dX0_init_25 : decode cX0_init 25 = .ok (.aload_n 0, 1) := by decide +kernel
theorem dX0_init_26 : decode cX0_init 26 = .ok (.iload 5, 2) := by decide +kernel
theorem dX0_init_28 : decode cX0_init 28 = .ok (.putfield 25, 3) := by decide +kernel
theorem dX0_init_31 : decode cX0_init 31 = .ok (.return_, 1) := by decide +kernel
theorem dX0_holds_0 : decode cX0_holds 0 = .ok (.aload_n 0, 1) := by decide +kernel
theorem dX0_holds_1 : decode cX0_holds 1 = .ok (.getfield 15, 3) := by decide +kernel
theorem dX0_holds_4 : decode cX0_holds 4 = .ok (.ifCond .lt 12, 3) := by decide +kernel
theorem dX0_holds_7 : decode cX0_holds 7 = .ok (.aload_n 0, 1) := by decide +kernel
theorem dX0_holds_8 : decode cX0_holds 8 = .ok (.getfield 15, 3) := by decide +kernel
theorem dX0_holds_11 : decode cX0_holds 11 = .ok (.aload_n 1, 1) := by decide +kernel
theorem dX0_holds_12 : decode cX0_holds 12 = .ok (.arraylength, 1) := by decide +kernel
theorem dX0_holds_13 : decode cX0_holds 13 = .ok (.if_icmp .lt 5, 3) := by decide +kernel
theorem dX0_holds_16 : decode cX0_holds 16 = .ok (.iconst 1, 1) := by decide +kernel
theorem dX0_holds_17 : decode cX0_holds 17 = .ok (.ireturn, 1) := by decide +kernel
theorem dX0_holds_18 : decode cX0_holds 18 = .ok (.aload_n 1, 1) := by decide +kernel
theorem dX0_holds_19 : decode cX0_holds 19 = .ok (.aload_n 0, 1) := by decide +kernel
theorem dX0_holds_20 : decode cX0_holds 20 = .ok (.getfield 15, 3) := by decide +kernel
theorem dX0_holds_23 : decode cX0_holds 23 = .ok (.iaload, 1) := by decide +kernel
theorem dX0_holds_24 : decode cX0_holds 24 = .ok (.aload_n 0, 1) := by decide +kernel
theorem dX0_holds_25 : decode cX0_holds 25 = .ok (.getfield 19, 3) := by decide +kernel
theorem dX0_holds_28 : decode cX0_holds 28 = .ok (.if_icmp .ne 7, 3) := by decide +kernel
theorem dX0_holds_31 : decode cX0_holds 31 = .ok (.iconst 1, 1) := by decide +kernel
theorem dX0_holds_32 : decode cX0_holds 32 = .ok (.goto 4, 3) := by decide +kernel
theorem dX0_holds_35 : decode cX0_holds 35 = .ok (.iconst 0, 1) := by decide +kernel
theorem dX0_holds_36 : decode cX0_holds 36 = .ok (.ireturn, 1) := by decide +kernel
theorem dX0_isFor_0 : decode cX0_isFor 0 = .ok (.aload_n 0, 1) := by decide +kernel
theorem dX0_isFor_1 : decode cX0_isFor 1 = .ok (.getfield 9, 3) := by decide +kernel
theorem dX0_isFor_4 : decode cX0_isFor 4 = .ok (.invokevirtual 28, 3) := by decide +kernel
theorem dX0_isFor_7 : decode cX0_isFor 7 = .ok (.iload_n 2, 1) := by decide +kernel
theorem dX0_isFor_8 : decode cX0_isFor 8 = .ok (.if_icmp .ne 19, 3) := by decide +kernel
theorem dX0_isFor_11 : decode cX0_isFor 11 = .ok (.aload_n 0, 1) := by decide +kernel
theorem dX0_isFor_12 : decode cX0_isFor 12 = .ok (.getfield 9, 3) := by decide +kernel
theorem dX0_isFor_15 : decode cX0_isFor 15 = .ok (.aload_n 1, 1) := by decide +kernel
theorem dX0_isFor_16 : decode cX0_isFor 16 = .ok (.iload_n 2, 1) := by decide +kernel
theorem dX0_isFor_17 : decode cX0_isFor 17 = .ok (.invokevirtual 34, 3) := by decide +kernel
theorem dX0_isFor_20 : decode cX0_isFor 20 = .ok (.ifCond .eq 7, 3) := by decide +kernel
theorem dX0_isFor_23 : decode cX0_isFor 23 = .ok (.iconst 1, 1) := by decide +kernel
theorem dX0_isFor_24 : decode cX0_isFor 24 = .ok (.goto 4, 3) := by decide +kernel
theorem dX0_isFor_27 : decode cX0_isFor 27 = .ok (.iconst 0, 1) := by decide +kernel
theorem dX0_isFor_28 : decode cX0_isFor 28 = .ok (.ireturn, 1) := by decide +kernel
theorem dX0_isLongerThan_0 : decode cX0_isLongerThan 0 = .ok (.aload_n 0, 1) := by decide +kernel
theorem dX0_isLongerThan_1 : decode cX0_isLongerThan 1 = .ok (.getfield 9, 3) := by decide +kernel
theorem dX0_isLongerThan_4 : decode cX0_isLongerThan 4 = .ok (.invokevirtual 28, 3) := by decide +kernel
theorem dX0_isLongerThan_7 : decode cX0_isLongerThan 7 = .ok (.aload_n 1, 1) := by decide +kernel
theorem dX0_isLongerThan_8 : decode cX0_isLongerThan 8 = .ok (.invokevirtual 28, 3) := by decide +kernel
theorem dX0_isLongerThan_11 : decode cX0_isLongerThan 11 = .ok (.if_icmp .le 22, 3) := by decide +kernel
theorem dX0_isLongerThan_14 : decode cX0_isLongerThan 14 = .ok (.aload_n 0, 1) := by decide +kernel
theorem dX0_isLongerThan_15 : decode cX0_isLongerThan 15 = .ok (.getfield 9, 3) := by decide +kernel
theorem dX0_isLongerThan_18 : decode cX0_isLongerThan 18 = .ok (.aload_n 1, 1) := by decide +kernel
theorem dX0_isLongerThan_19 : decode cX0_isLongerThan 19 = .ok (.aload_n 1, 1) := by decide +kernel
theorem dX0_isLongerThan_20 : decode cX0_isLongerThan 20 = .ok (.invokevirtual 28, 3) := by decide +kernel
theorem dX0_isLongerThan_23 : decode cX0_isLongerThan 23 = .ok (.invokevirtual 34, 3) := by decide +kernel
theorem dX0_isLongerThan_26 : decode cX0_isLongerThan 26 = .ok (.ifCond .eq 7, 3) := by decide +kernel
theorem dX0_isLongerThan_29 : decode cX0_isLongerThan 29 = .ok (.iconst 1, 1) := by decide +kernel
theorem dX0_isLongerThan_30 : decode cX0_isLongerThan 30 = .ok (.goto 4, 3) := by decide +kernel
theorem dX0_isLongerThan_33 : decode cX0_isLongerThan 33 = .ok (.iconst 0, 1) := by decide +kernel
theorem dX0_isLongerThan_34 : decode cX0_isLongerThan 34 = .ok (.ireturn, 1) := by decide +kernel
theorem dX0_shadows_0 : decode cX0_shadows 0 = .ok (.aload_n 0, 1) := by decide +kernel
theorem dX0_shadows_1 : decode cX0_shadows 1 = .ok (.aload_n 1, 1) := by decide +kernel
theorem dX0_shadows_2 : decode cX0_shadows 2 = .ok (.getfield 9, 3) := by decide +kernel
theorem dX0_shadows_5 : decode cX0_shadows 5 = .ok (.aload_n 1, 1) := by decide +kernel
theorem dX0_shadows_6 : decode cX0_shadows 6 = .ok (.getfield 9, 3) := by decide +kernel
theorem dX0_shadows_9 : decode cX0_shadows 9 = .ok (.invokevirtual 28, 3) := by decide +kernel
theorem dX0_shadows_12 : decode cX0_shadows 12 = .ok (.invokevirtual 38, 3) := by decide +kernel
theorem dX0_shadows_15 : decode cX0_shadows 15 = .ok (.ifCond .ne 5, 3) := by decide +kernel
theorem dX0_shadows_18 : decode cX0_shadows 18 = .ok (.iconst 0, 1) := by decide +kernel
theorem dX0_shadows_19 : decode cX0_shadows 19 = .ok (.ireturn, 1) := by decide +kernel
theorem dX0_shadows_20 : decode cX0_shadows 20 = .ok (.aload_n 0, 1) := by decide +kernel
theorem dX0_shadows_21 : decode cX0_shadows 21 = .ok (.getfield 15, 3) := by decide +kernel
theorem dX0_shadows_24 : decode cX0_shadows 24 = .ok (.iconst (-1), 1) := by decide +kernel
theorem dX0_shadows_25 : decode cX0_shadows 25 = .ok (.if_icmp .eq 25, 3) := by decide +kernel
theorem dX0_shadows_28 : decode cX0_shadows 28 = .ok (.aload_n 0, 1) := by decide +kernel
theorem dX0_shadows_29 : decode cX0_shadows 29 = .ok (.getfield 15, 3) := by decide +kernel
theorem dX0_shadows_32 : decode cX0_shadows 32 = .ok (.aload_n 1, 1) := by decide +kernel
theorem dX0_shadows_33 : decode cX0_shadows 33 = .ok (.getfield 15, 3) := by decide +kernel
theorem dX0_shadows_36 : decode cX0_shadows 36 = .ok (.if_icmp .ne 18, 3) := by decide +kernel
theorem dX0_shadows_39 : decode cX0_shadows 39 = .ok (.aload_n 0, 1) := by decide +kernel
theorem dX0_shadows_40 : decode cX0_shadows 40 = .ok (.getfield 19, 3) := by decide +kernel
theorem dX0_shadows_43 : decode cX0_shadows 43 = .ok (.aload_n 1, 1) := by decide +kernel
theorem dX0_shadows_44 : decode cX0_shadows 44 = .ok (.getfield 19, 3) := by decide +kernel
theorem dX0_shadows_47 : decode cX0_shadows 47 = .ok (.if_icmp .ne 7, 3) := by decide +kernel
theorem dX0_shadows_50 : decode cX0_shadows 50 = .ok (.iconst 1, 1) := by decide +kernel
theorem dX0_shadows_51 : decode cX0_shadows 51 = .ok (.goto 4, 3) := by decide +kernel
theorem dX0_shadows_54 : decode cX0_shadows 54 = .ok (.iconst 0, 1) := by decide +kernel
theorem dX0_shadows_55 : decode cX0_shadows 55 = .ok (.ireturn, 1) := by decide +kernel
theorem dX1_init_0 : decode cX1_init 0 = .ok (.aload_n 0, 1) := by decide +kernel
theorem dX1_init_1 : decode cX1_init 1 = .ok (.invokespecial 1, 3) := by decide +kernel
theorem dX1_init_4 : decode cX1_init 4 = .ok (.aload_n 0, 1) := by decide +kernel
theorem dX1_init_5 : decode cX1_init 5 = .ok (.iload_n 1, 1) := by decide +kernel
theorem dX1_init_6 : decode cX1_init 6 = .ok (.putfield 7, 3) := by decide +kernel
theorem dX1_init_9 : decode cX1_init 9 = .ok (.aload_n 0, 1) := by decide +kernel
theorem dX1_init_10 : decode cX1_init 10 = .ok (.new 13, 3) := by decide +kernel
theorem dX1_init_13 : decode cX1_init 13 = .ok (.dup, 1) := by decide +kernel
theorem dX1_init_14 : decode cX1_init 14 = .ok (.invokespecial 15, 3) := by decide +kernel
theorem dX1_init_17 : decode cX1_init 17 = .ok (.putfield 16, 3) := by decide +kernel
theorem dX1_init_20 : decode cX1_init 20 = .ok (.return_, 1) := by decide +kernel
theorem dX2_init_0 : decode cX2_init 0 = .ok (.aload_n 0, 1) := by decide +kernel
theorem dX2_init_1 : decode cX2_init 1 = .ok (.invokespecial 3, 3) := by decide +kernel
theorem dX2_init_4 : decode cX2_init 4 = .ok (.aload_n 0, 1) := by decide +kernel
theorem dX2_init_5 : decode cX2_init 5 = .ok (.bipush 40, 2) := by decide +kernel
theorem dX2_init_7 : decode cX2_init 7 = .ok (.newarray .int, 2) := by decide +kernel
theorem dX2_init_9 : decode cX2_init 9 = .ok (.putfield 9, 3) := by decide +kernel
theorem dX2_init_12 : decode cX2_init 12 = .ok (.aload_n 0, 1) := by decide +kernel
theorem dX2_init_13 : decode cX2_init 13 = .ok (.bipush 40, 2) := by decide +kernel
theorem dX2_init_15 : decode cX2_init 15 = .ok (.newarray .int, 2) := by decide +kernel
theorem dX2_init_17 : decode cX2_init 17 = .ok (.putfield 15, 3) := by decide +kernel
theorem dX2_init_20 : decode cX2_init 20 = .ok (.aload_n 0, 1) := by decide +kernel
theorem dX2_init_21 : decode cX2_init 21 = .ok (.iconst 0, 1) := by decide +kernel
theorem dX2_init_22 : decode cX2_init 22 = .ok (.putfield 18, 3) := by decide +kernel
theorem dX2_init_25 : decode cX2_init 25 = .ok (.return_, 1) := by decide +kernel
theorem dX2_add_0 : decode cX2_add 0 = .ok (.aload_n 0, 1) := by decide +kernel
theorem dX2_add_1 : decode cX2_add 1 = .ok (.getfield 18, 3) := by decide +kernel
theorem dX2_add_4 : decode cX2_add 4 = .ok (.bipush 40, 2) := by decide +kernel
theorem dX2_add_6 : decode cX2_add 6 = .ok (.invokestatic 22, 3) := by decide +kernel
theorem dX2_add_9 : decode cX2_add 9 = .ok (.istore_n 3, 1) := by decide +kernel
theorem dX2_add_10 : decode cX2_add 10 = .ok (.aload_n 0, 1) := by decide +kernel
theorem dX2_add_11 : decode cX2_add 11 = .ok (.getfield 9, 3) := by decide +kernel
theorem dX2_add_14 : decode cX2_add 14 = .ok (.iload_n 3, 1) := by decide +kernel
theorem dX2_add_15 : decode cX2_add 15 = .ok (.iload_n 1, 1) := by decide +kernel
theorem dX2_add_16 : decode cX2_add 16 = .ok (.iastore, 1) := by decide +kernel
theorem dX2_add_17 : decode cX2_add 17 = .ok (.aload_n 0, 1) := by decide +kernel
theorem dX2_add_18 : decode cX2_add 18 = .ok (.getfield 15, 3) := by decide +kernel
theorem dX2_add_21 : decode cX2_add 21 = .ok (.iload_n 3, 1) := by decide +kernel
theorem dX2_add_22 : decode cX2_add 22 = .ok (.iload_n 2, 1) := by decide +kernel
theorem dX2_add_23 : decode cX2_add 23 = .ok (.iastore, 1) := by decide +kernel
theorem dX2_add_24 : decode cX2_add 24 = .ok (.aload_n 0, 1) := by decide +kernel
theorem dX2_add_25 : decode cX2_add 25 = .ok (.dup, 1) := by decide +kernel
theorem dX2_add_26 : decode cX2_add 26 = .ok (.getfield 18, 3) := by decide +kernel
theorem dX2_add_29 : decode cX2_add 29 = .ok (.iconst 1, 1) := by decide +kernel
theorem dX2_add_30 : decode cX2_add 30 = .ok (.iadd, 1) := by decide +kernel
theorem dX2_add_31 : decode cX2_add 31 = .ok (.putfield 18, 3) := by decide +kernel
theorem dX2_add_34 : decode cX2_add 34 = .ok (.return_, 1) := by decide +kernel
theorem dX2_kindOf_0 : decode cX2_kindOf 0 = .ok (.aload_n 0, 1) := by decide +kernel
theorem dX2_kindOf_1 : decode cX2_kindOf 1 = .ok (.iload_n 1, 1) := by decide +kernel
theorem dX2_kindOf_2 : decode cX2_kindOf 2 = .ok (.invokevirtual 28, 3) := by decide +kernel
theorem dX2_kindOf_5 : decode cX2_kindOf 5 = .ok (.ifCond .eq 17, 3) := by decide +kernel
theorem dX2_kindOf_8 : decode cX2_kindOf 8 = .ok (.aload_n 0, 1) := by decide +kernel
theorem dX2_kindOf_9 : decode cX2_kindOf 9 = .ok (.getfield 9, 3) := by decide +kernel
theorem dX2_kindOf_12 : decode cX2_kindOf 12 = .ok (.iload_n 1, 1) := by decide +kernel
theorem dX2_kindOf_13 : decode cX2_kindOf 13 = .ok (.bipush 40, 2) := by decide +kernel
theorem dX2_kindOf_15 : decode cX2_kindOf 15 = .ok (.invokestatic 22, 3) := by decide +kernel
theorem dX2_kindOf_18 : decode cX2_kindOf 18 = .ok (.iaload, 1) := by decide +kernel
theorem dX2_kindOf_19 : decode cX2_kindOf 19 = .ok (.goto 5, 3) := by decide +kernel
theorem dX2_kindOf_22 : decode cX2_kindOf 22 = .ok (.bipush (-4), 2) := by decide +kernel
theorem dX2_kindOf_24 : decode cX2_kindOf 24 = .ok (.ireturn, 1) := by decide +kernel
theorem dX2_argumentOf_0 : decode cX2_argumentOf 0 = .ok (.aload_n 0, 1) := by decide +kernel
theorem dX2_argumentOf_1 : decode cX2_argumentOf 1 = .ok (.iload_n 1, 1) := by decide +kernel
theorem dX2_argumentOf_2 : decode cX2_argumentOf 2 = .ok (.invokevirtual 28, 3) := by decide +kernel
theorem dX2_argumentOf_5 : decode cX2_argumentOf 5 = .ok (.ifCond .eq 17, 3) := by decide +kernel
theorem dX2_argumentOf_8 : decode cX2_argumentOf 8 = .ok (.aload_n 0, 1) := by decide +kernel
theorem dX2_argumentOf_9 : decode cX2_argumentOf 9 = .ok (.getfield 15, 3) := by decide +kernel
theorem dX2_argumentOf_12 : decode cX2_argumentOf 12 = .ok (.iload_n 1, 1) := by decide +kernel
theorem dX2_argumentOf_13 : decode cX2_argumentOf 13 = .ok (.bipush 40, 2) := by decide +kernel
theorem dX2_argumentOf_15 : decode cX2_argumentOf 15 = .ok (.invokestatic 22, 3) := by decide +kernel
theorem dX2_argumentOf_18 : decode cX2_argumentOf 18 = .ok (.iaload, 1) := by decide +kernel
theorem dX2_argumentOf_19 : decode cX2_argumentOf 19 = .ok (.goto 5, 3) := by decide +kernel
theorem dX2_argumentOf_22 : decode cX2_argumentOf 22 = .ok (.bipush (-4), 2) := by decide +kernel
theorem dX2_argumentOf_24 : decode cX2_argumentOf 24 = .ok (.ireturn, 1) := by decide +kernel
theorem dX2_isReadable_0 : decode cX2_isReadable 0 = .ok (.iload_n 1, 1) := by decide +kernel
theorem dX2_isReadable_1 : decode cX2_isReadable 1 = .ok (.ifCond .lt 26, 3) := by decide +kernel
theorem dX2_isReadable_4 : decode cX2_isReadable 4 = .ok (.iload_n 1, 1) := by decide +kernel
theorem dX2_isReadable_5 : decode cX2_isReadable 5 = .ok (.aload_n 0, 1) := by decide +kernel
theorem dX2_isReadable_6 : decode cX2_isReadable 6 = .ok (.getfield 18, 3) := by decide +kernel
theorem dX2_isReadable_9 : decode cX2_isReadable 9 = .ok (.if_icmp .ge 18, 3) := by decide +kernel
theorem dX2_isReadable_12 : decode cX2_isReadable 12 = .ok (.iload_n 1, 1) := by decide +kernel
theorem dX2_isReadable_13 : decode cX2_isReadable 13 = .ok (.aload_n 0, 1) := by decide +kernel
theorem dX2_isReadable_14 : decode cX2_isReadable 14 = .ok (.getfield 18, 3) := by decide +kernel
theorem dX2_isReadable_17 : decode cX2_isReadable 17 = .ok (.bipush 40, 2) := by decide +kernel
theorem dX2_isReadable_19 : decode cX2_isReadable 19 = .ok (.isub, 1) := by decide +kernel
theorem dX2_isReadable_20 : decode cX2_isReadable 20 = .ok (.if_icmp .lt 7, 3) := by decide +kernel
theorem dX2_isReadable_23 : decode cX2_isReadable 23 = .ok (.iconst 1, 1) := by decide +kernel
theorem dX2_isReadable_24 : decode cX2_isReadable 24 = .ok (.goto 4, 3) := by decide +kernel
theorem dX2_isReadable_27 : decode cX2_isReadable 27 = .ok (.iconst 0, 1) := by decide +kernel
theorem dX2_isReadable_28 : decode cX2_isReadable 28 = .ok (.ireturn, 1) := by decide +kernel
theorem dX3_init_0 : decode cX3_init 0 = .ok (.aload_n 0, 1) := by decide +kernel
theorem dX3_init_1 : decode cX3_init 1 = .ok (.invokespecial 3, 3) := by decide +kernel
theorem dX3_init_4 : decode cX3_init 4 = .ok (.aload_n 0, 1) := by decide +kernel
theorem dX3_init_5 : decode cX3_init 5 = .ok (.iload_n 1, 1) := by decide +kernel
theorem dX3_init_6 : decode cX3_init 6 = .ok (.iconst 0, 1) := by decide +kernel
theorem dX3_init_7 : decode cX3_init 7 = .ok (.invokestatic 9, 3) := by decide +kernel
theorem dX3_init_10 : decode cX3_init 10 = .ok (.newarray .int, 2) := by decide +kernel
theorem dX3_init_12 : decode cX3_init 12 = .ok (.putfield 15, 3) := by decide +kernel
theorem dX3_init_15 : decode cX3_init 15 = .ok (.aload_n 0, 1) := by decide +kernel
theorem dX3_init_16 : decode cX3_init 16 = .ok (.iconst 0, 1) := by decide +kernel
theorem dX3_init_17 : decode cX3_init 17 = .ok (.putfield 21, 3) := by decide +kernel
theorem dX3_init_20 : decode cX3_init 20 = .ok (.return_, 1) := by decide +kernel
theorem dX3_size_0 : decode cX3_size 0 = .ok (.aload_n 0, 1) := by decide +kernel
theorem dX3_size_1 : decode cX3_size 1 = .ok (.getfield 21, 3) := by decide +kernel
theorem dX3_size_4 : decode cX3_size 4 = .ok (.ireturn, 1) := by decide +kernel
theorem dX3_isFull_0 : decode cX3_isFull 0 = .ok (.aload_n 0, 1) := by decide +kernel
theorem dX3_isFull_1 : decode cX3_isFull 1 = .ok (.getfield 21, 3) := by decide +kernel
theorem dX3_isFull_4 : decode cX3_isFull 4 = .ok (.aload_n 0, 1) := by decide +kernel
theorem dX3_isFull_5 : decode cX3_isFull 5 = .ok (.getfield 15, 3) := by decide +kernel
theorem dX3_isFull_8 : decode cX3_isFull 8 = .ok (.arraylength, 1) := by decide +kernel
theorem dX3_isFull_9 : decode cX3_isFull 9 = .ok (.if_icmp .lt 7, 3) := by decide +kernel
theorem dX3_isFull_12 : decode cX3_isFull 12 = .ok (.iconst 1, 1) := by decide +kernel
theorem dX3_isFull_13 : decode cX3_isFull 13 = .ok (.goto 4, 3) := by decide +kernel
theorem dX3_isFull_16 : decode cX3_isFull 16 = .ok (.iconst 0, 1) := by decide +kernel
theorem dX3_isFull_17 : decode cX3_isFull 17 = .ok (.ireturn, 1) := by decide +kernel
theorem dX3_add_0 : decode cX3_add 0 = .ok (.aload_n 0, 1) := by decide +kernel
theorem dX3_add_1 : decode cX3_add 1 = .ok (.getfield 21, 3) := by decide +kernel
theorem dX3_add_4 : decode cX3_add 4 = .ok (.aload_n 0, 1) := by decide +kernel
theorem dX3_add_5 : decode cX3_add 5 = .ok (.getfield 15, 3) := by decide +kernel
theorem dX3_add_8 : decode cX3_add 8 = .ok (.arraylength, 1) := by decide +kernel
theorem dX3_add_9 : decode cX3_add 9 = .ok (.if_icmp .ge 23, 3) := by decide +kernel
theorem dX3_add_12 : decode cX3_add 12 = .ok (.aload_n 0, 1) := by decide +kernel
theorem dX3_add_13 : decode cX3_add 13 = .ok (.getfield 15, 3) := by decide +kernel
theorem dX3_add_16 : decode cX3_add 16 = .ok (.aload_n 0, 1) := by decide +kernel
theorem dX3_add_17 : decode cX3_add 17 = .ok (.getfield 21, 3) := by decide +kernel
theorem dX3_add_20 : decode cX3_add 20 = .ok (.iload_n 1, 1) := by decide +kernel
theorem dX3_add_21 : decode cX3_add 21 = .ok (.iastore, 1) := by decide +kernel
theorem dX3_add_22 : decode cX3_add 22 = .ok (.aload_n 0, 1) := by decide +kernel
theorem dX3_add_23 : decode cX3_add 23 = .ok (.dup, 1) := by decide +kernel
theorem dX3_add_24 : decode cX3_add 24 = .ok (.getfield 21, 3) := by decide +kernel
theorem dX3_add_27 : decode cX3_add 27 = .ok (.iconst 1, 1) := by decide +kernel
theorem dX3_add_28 : decode cX3_add 28 = .ok (.iadd, 1) := by decide +kernel
theorem dX3_add_29 : decode cX3_add 29 = .ok (.putfield 21, 3) := by decide +kernel
theorem dX3_add_32 : decode cX3_add 32 = .ok (.return_, 1) := by decide +kernel
theorem dX3_at_0 : decode cX3_at 0 = .ok (.iload_n 1, 1) := by decide +kernel
theorem dX3_at_1 : decode cX3_at 1 = .ok (.ifCond .lt 20, 3) := by decide +kernel
theorem dX3_at_4 : decode cX3_at 4 = .ok (.iload_n 1, 1) := by decide +kernel
theorem dX3_at_5 : decode cX3_at 5 = .ok (.aload_n 0, 1) := by decide +kernel
theorem dX3_at_6 : decode cX3_at 6 = .ok (.getfield 21, 3) := by decide +kernel
theorem dX3_at_9 : decode cX3_at 9 = .ok (.if_icmp .ge 12, 3) := by decide +kernel
theorem dX3_at_12 : decode cX3_at 12 = .ok (.aload_n 0, 1) := by decide +kernel
theorem dX3_at_13 : decode cX3_at 13 = .ok (.getfield 15, 3) := by decide +kernel
theorem dX3_at_16 : decode cX3_at 16 = .ok (.iload_n 1, 1) := by decide +kernel
theorem dX3_at_17 : decode cX3_at 17 = .ok (.iaload, 1) := by decide +kernel
theorem dX3_at_18 : decode cX3_at 18 = .ok (.goto 5, 3) := by decide +kernel
theorem dX3_at_21 : decode cX3_at 21 = .ok (.bipush (-4), 2) := by decide +kernel
theorem dX3_at_23 : decode cX3_at 23 = .ok (.ireturn, 1) := by decide +kernel
theorem dX3_removeLast_0 : decode cX3_removeLast 0 = .ok (.aload_n 0, 1) := by decide +kernel
theorem dX3_removeLast_1 : decode cX3_removeLast 1 = .ok (.getfield 21, 3) := by decide +kernel
theorem dX3_removeLast_4 : decode cX3_removeLast 4 = .ok (.ifCond .gt 6, 3) := by decide +kernel
theorem dX3_removeLast_7 : decode cX3_removeLast 7 = .ok (.bipush (-4), 2) := by decide +kernel
theorem dX3_removeLast_9 : decode cX3_removeLast 9 = .ok (.ireturn, 1) := by decide +kernel
theorem dX3_removeLast_10 : decode cX3_removeLast 10 = .ok (.aload_n 0, 1) := by decide +kernel
theorem dX3_removeLast_11 : decode cX3_removeLast 11 = .ok (.dup, 1) := by decide +kernel
theorem dX3_removeLast_12 : decode cX3_removeLast 12 = .ok (.getfield 21, 3) := by decide +kernel
theorem dX3_removeLast_15 : decode cX3_removeLast 15 = .ok (.iconst 1, 1) := by decide +kernel
theorem dX3_removeLast_16 : decode cX3_removeLast 16 = .ok (.isub, 1) := by decide +kernel
theorem dX3_removeLast_17 : decode cX3_removeLast 17 = .ok (.putfield 21, 3) := by decide +kernel
theorem dX3_removeLast_20 : decode cX3_removeLast 20 = .ok (.aload_n 0, 1) := by decide +kernel
theorem dX3_removeLast_21 : decode cX3_removeLast 21 = .ok (.getfield 15, 3) := by decide +kernel
theorem dX3_removeLast_24 : decode cX3_removeLast 24 = .ok (.aload_n 0, 1) := by decide +kernel
theorem dX3_removeLast_25 : decode cX3_removeLast 25 = .ok (.getfield 21, 3) := by decide +kernel
theorem dX3_removeLast_28 : decode cX3_removeLast 28 = .ok (.iaload, 1) := by decide +kernel
theorem dX3_removeLast_29 : decode cX3_removeLast 29 = .ok (.ireturn, 1) := by decide +kernel
theorem dX3_clear_0 : decode cX3_clear 0 = .ok (.aload_n 0, 1) := by decide +kernel
theorem dX3_clear_1 : decode cX3_clear 1 = .ok (.iconst 0, 1) := by decide +kernel
theorem dX3_clear_2 : decode cX3_clear 2 = .ok (.putfield 21, 3) := by decide +kernel
theorem dX3_clear_5 : decode cX3_clear 5 = .ok (.return_, 1) := by decide +kernel
theorem dX3_copy_0 : decode cX3_copy 0 = .ok (.new 16, 3) := by decide +kernel
theorem dX3_copy_3 : decode cX3_copy 3 = .ok (.dup, 1) := by decide +kernel
theorem dX3_copy_4 : decode cX3_copy 4 = .ok (.aload_n 0, 1) := by decide +kernel
theorem dX3_copy_5 : decode cX3_copy 5 = .ok (.getfield 21, 3) := by decide +kernel
theorem dX3_copy_8 : decode cX3_copy 8 = .ok (.invokespecial 25, 3) := by decide +kernel
theorem dX3_copy_11 : decode cX3_copy 11 = .ok (.astore_n 1, 1) := by decide +kernel
theorem dX3_copy_12 : decode cX3_copy 12 = .ok (.iconst 0, 1) := by decide +kernel
theorem dX3_copy_13 : decode cX3_copy 13 = .ok (.istore_n 2, 1) := by decide +kernel
theorem dX3_copy_14 : decode cX3_copy 14 = .ok (.iload_n 2, 1) := by decide +kernel
theorem dX3_copy_15 : decode cX3_copy 15 = .ok (.aload_n 0, 1) := by decide +kernel
theorem dX3_copy_16 : decode cX3_copy 16 = .ok (.getfield 21, 3) := by decide +kernel
theorem dX3_copy_19 : decode cX3_copy 19 = .ok (.if_icmp .ge 19, 3) := by decide +kernel
theorem dX3_copy_22 : decode cX3_copy 22 = .ok (.aload_n 1, 1) := by decide +kernel
theorem dX3_copy_23 : decode cX3_copy 23 = .ok (.aload_n 0, 1) := by decide +kernel
theorem dX3_copy_24 : decode cX3_copy 24 = .ok (.getfield 15, 3) := by decide +kernel
theorem dX3_copy_27 : decode cX3_copy 27 = .ok (.iload_n 2, 1) := by decide +kernel
theorem dX3_copy_28 : decode cX3_copy 28 = .ok (.iaload, 1) := by decide +kernel
theorem dX3_copy_29 : decode cX3_copy 29 = .ok (.invokevirtual 28, 3) := by decide +kernel
theorem dX3_copy_32 : decode cX3_copy 32 = .ok (.iinc 2 1, 3) := by decide +kernel
theorem dX3_copy_35 : decode cX3_copy 35 = .ok (.goto (-21), 3) := by decide +kernel
theorem dX3_copy_38 : decode cX3_copy 38 = .ok (.aload_n 1, 1) := by decide +kernel
theorem dX3_copy_39 : decode cX3_copy 39 = .ok (.areturn, 1) := by decide +kernel
theorem dX3_sharesBeginning_0 : decode cX3_sharesBeginning 0 = .ok (.iload_n 2, 1) := by decide +kernel
theorem dX3_sharesBeginning_1 : decode cX3_sharesBeginning 1 = .ok (.aload_n 0, 1) := by decide +kernel
theorem dX3_sharesBeginning_2 : decode cX3_sharesBeginning 2 = .ok (.getfield 21, 3) := by decide +kernel
theorem dX3_sharesBeginning_5 : decode cX3_sharesBeginning 5 = .ok (.if_icmp .gt 11, 3) := by decide +kernel
theorem dX3_sharesBeginning_8 : decode cX3_sharesBeginning 8 = .ok (.iload_n 2, 1) := by decide +kernel
theorem dX3_sharesBeginning_9 : decode cX3_sharesBeginning 9 = .ok (.aload_n 1, 1) := by decide +kernel
theorem dX3_sharesBeginning_10 : decode cX3_sharesBeginning 10 = .ok (.getfield 21, 3) := by decide +kernel
theorem dX3_sharesBeginning_13 : decode cX3_sharesBeginning 13 = .ok (.if_icmp .le 5, 3) := by decide +kernel
theorem dX3_sharesBeginning_16 : decode cX3_sharesBeginning 16 = .ok (.iconst 0, 1) := by decide +kernel
theorem dX3_sharesBeginning_17 : decode cX3_sharesBeginning 17 = .ok (.ireturn, 1) := by decide +kernel
theorem dX3_sharesBeginning_18 : decode cX3_sharesBeginning 18 = .ok (.iconst 0, 1) := by decide +kernel
theorem dX3_sharesBeginning_19 : decode cX3_sharesBeginning 19 = .ok (.istore_n 3, 1) := by decide +kernel
theorem dX3_sharesBeginning_20 : decode cX3_sharesBeginning 20 = .ok (.iload_n 3, 1) := by decide +kernel
theorem dX3_sharesBeginning_21 : decode cX3_sharesBeginning 21 = .ok (.iload_n 2, 1) := by decide +kernel
theorem dX3_sharesBeginning_22 : decode cX3_sharesBeginning 22 = .ok (.if_icmp .ge 26, 3) := by decide +kernel
theorem dX3_sharesBeginning_25 : decode cX3_sharesBeginning 25 = .ok (.aload_n 0, 1) := by decide +kernel
theorem dX3_sharesBeginning_26 : decode cX3_sharesBeginning 26 = .ok (.getfield 15, 3) := by decide +kernel
theorem dX3_sharesBeginning_29 : decode cX3_sharesBeginning 29 = .ok (.iload_n 3, 1) := by decide +kernel
theorem dX3_sharesBeginning_30 : decode cX3_sharesBeginning 30 = .ok (.iaload, 1) := by decide +kernel
theorem dX3_sharesBeginning_31 : decode cX3_sharesBeginning 31 = .ok (.aload_n 1, 1) := by decide +kernel
theorem dX3_sharesBeginning_32 : decode cX3_sharesBeginning 32 = .ok (.getfield 15, 3) := by decide +kernel
theorem dX3_sharesBeginning_35 : decode cX3_sharesBeginning 35 = .ok (.iload_n 3, 1) := by decide +kernel
theorem dX3_sharesBeginning_36 : decode cX3_sharesBeginning 36 = .ok (.iaload, 1) := by decide +kernel
theorem dX3_sharesBeginning_37 : decode cX3_sharesBeginning 37 = .ok (.if_icmp .eq 5, 3) := by decide +kernel
theorem dX3_sharesBeginning_40 : decode cX3_sharesBeginning 40 = .ok (.iconst 0, 1) := by decide +kernel
theorem dX3_sharesBeginning_41 : decode cX3_sharesBeginning 41 = .ok (.ireturn, 1) := by decide +kernel
theorem dX3_sharesBeginning_42 : decode cX3_sharesBeginning 42 = .ok (.iinc 3 1, 3) := by decide +kernel
theorem dX3_sharesBeginning_45 : decode cX3_sharesBeginning 45 = .ok (.goto (-25), 3) := by decide +kernel
theorem dX3_sharesBeginning_48 : decode cX3_sharesBeginning 48 = .ok (.iconst 1, 1) := by decide +kernel
theorem dX3_sharesBeginning_49 : decode cX3_sharesBeginning 49 = .ok (.ireturn, 1) := by decide +kernel
theorem dX4_init_0 : decode cX4_init 0 = .ok (.aload_n 0, 1) := by decide +kernel
theorem dX4_init_1 : decode cX4_init 1 = .ok (.invokespecial 3, 3) := by decide +kernel
theorem dX4_init_4 : decode cX4_init 4 = .ok (.aload_n 0, 1) := by decide +kernel
theorem dX4_init_5 : decode cX4_init 5 = .ok (.new 9, 3) := by decide +kernel
theorem dX4_init_8 : decode cX4_init 8 = .ok (.dup, 1) := by decide +kernel
theorem dX4_init_9 : decode cX4_init 9 = .ok (.iconst 4, 1) := by decide +kernel
theorem dX4_init_10 : decode cX4_init 10 = .ok (.invokespecial 11, 3) := by decide +kernel
theorem dX4_init_13 : decode cX4_init 13 = .ok (.putfield 14, 3) := by decide +kernel
theorem dX4_init_16 : decode cX4_init 16 = .ok (.aload_n 0, 1) := by decide +kernel
theorem dX4_init_17 : decode cX4_init 17 = .ok (.new 9, 3) := by decide +kernel
theorem dX4_init_20 : decode cX4_init 20 = .ok (.dup, 1) := by decide +kernel
theorem dX4_init_21 : decode cX4_init 21 = .ok (.iconst 4, 1) := by decide +kernel
theorem dX4_init_22 : decode cX4_init 22 = .ok (.invokespecial 11, 3) := by decide +kernel
theorem dX4_init_25 : decode cX4_init 25 = .ok (.putfield 18, 3) := by decide +kernel
theorem dX4_init_28 : decode cX4_init 28 = .ok (.aload_n 0, 1) := by decide +kernel
theorem dX4_init_29 : decode cX4_init 29 = .ok (.new 9, 3) := by decide +kernel
theorem dX4_init_32 : decode cX4_init 32 = .ok (.dup, 1) := by decide +kernel
theorem dX4_init_33 : decode cX4_init 33 = .ok (.sipush 264, 3) := by decide +kernel
theorem dX4_init_36 : decode cX4_init 36 = .ok (.invokespecial 11, 3) := by decide +kernel
theorem dX4_init_39 : decode cX4_init 39 = .ok (.putfield 21, 3) := by decide +kernel
theorem dX4_init_42 : decode cX4_init 42 = .ok (.aload_n 0, 1) := by decide +kernel
theorem dX4_init_43 : decode cX4_init 43 = .ok (.new 24, 3) := by decide +kernel
theorem dX4_init_46 : decode cX4_init 46 = .ok (.dup, 1) := by decide +kernel
theorem dX4_init_47 : decode cX4_init 47 = .ok (.invokespecial 26, 3) := by decide +kernel
theorem dX4_init_50 : decode cX4_init 50 = .ok (.putfield 27, 3) := by decide +kernel
theorem dX4_init_53 : decode cX4_init 53 = .ok (.iconst 0, 1) := by decide +kernel
theorem dX4_init_54 : decode cX4_init 54 = .ok (.istore_n 1, 1) := by decide +kernel
theorem dX4_init_55 : decode cX4_init 55 = .ok (.iload_n 1, 1) := by decide +kernel
theorem dX4_init_56 : decode cX4_init 56 = .ok (.iconst 4, 1) := by decide +kernel
theorem dX4_init_57 : decode cX4_init 57 = .ok (.if_icmp .ge 26, 3) := by decide +kernel
theorem dX4_init_60 : decode cX4_init 60 = .ok (.aload_n 0, 1) := by decide +kernel
theorem dX4_init_61 : decode cX4_init 61 = .ok (.getfield 27, 3) := by decide +kernel
theorem dX4_init_64 : decode cX4_init 64 = .ok (.new 9, 3) := by decide +kernel
theorem dX4_init_67 : decode cX4_init 67 = .ok (.dup, 1) := by decide +kernel
theorem dX4_init_68 : decode cX4_init 68 = .ok (.bipush 12, 2) := by decide +kernel
theorem dX4_init_70 : decode cX4_init 70 = .ok (.invokespecial 11, 3) := by decide +kernel
theorem dX4_init_73 : decode cX4_init 73 = .ok (.invokevirtual 31, 3) := by decide +kernel
theorem dX4_init_76 : decode cX4_init 76 = .ok (.pop, 1) := by decide +kernel
theorem dX4_init_77 : decode cX4_init 77 = .ok (.iinc 1 1, 3) := by decide +kernel
theorem dX4_init_80 : decode cX4_init 80 = .ok (.goto (-25), 3) := by decide +kernel
theorem dX4_init_83 : decode cX4_init 83 = .ok (.aload_n 0, 1) := by decide +kernel
theorem dX4_init_84 : decode cX4_init 84 = .ok (.new 24, 3) := by decide +kernel
theorem dX4_init_87 : decode cX4_init 87 = .ok (.dup, 1) := by decide +kernel
theorem dX4_init_88 : decode cX4_init 88 = .ok (.invokespecial 26, 3) := by decide +kernel
theorem dX4_init_91 : decode cX4_init 91 = .ok (.putfield 35, 3) := by decide +kernel
theorem dX4_init_94 : decode cX4_init 94 = .ok (.iconst 0, 1) := by decide +kernel
theorem dX4_init_95 : decode cX4_init 95 = .ok (.istore_n 1, 1) := by decide +kernel
theorem dX4_init_96 : decode cX4_init 96 = .ok (.iload_n 1, 1) := by decide +kernel
theorem dX4_init_97 : decode cX4_init 97 = .ok (.iconst 4, 1) := by decide +kernel
theorem dX4_init_98 : decode cX4_init 98 = .ok (.if_icmp .ge 25, 3) := by decide +kernel
theorem dX4_init_101 : decode cX4_init 101 = .ok (.aload_n 0, 1) := by decide +kernel
theorem dX4_init_102 : decode cX4_init 102 = .ok (.getfield 35, 3) := by decide +kernel
theorem dX4_init_105 : decode cX4_init 105 = .ok (.new 38, 3) := by decide +kernel
theorem dX4_init_108 : decode cX4_init 108 = .ok (.dup, 1) := by decide +kernel
theorem dX4_init_109 : decode cX4_init 109 = .ok (.iload_n 1, 1) := by decide +kernel
theorem dX4_init_110 : decode cX4_init 110 = .ok (.invokespecial 40, 3) := by decide +kernel
theorem dX4_init_113 : decode cX4_init 113 = .ok (.invokevirtual 31, 3) := by decide +kernel
theorem dX4_init_116 : decode cX4_init 116 = .ok (.pop, 1) := by decide +kernel
theorem dX4_init_117 : decode cX4_init 117 = .ok (.iinc 1 1, 3) := by decide +kernel
theorem dX4_init_120 : decode cX4_init 120 = .ok (.goto (-24), 3) := by decide +kernel
theorem dX4_init_123 : decode cX4_init 123 = .ok (.aload_n 0, 1) := by decide +kernel
theorem dX4_init_124 : decode cX4_init 124 = .ok (.new 24, 3) := by decide +kernel
theorem dX4_init_127 : decode cX4_init 127 = .ok (.dup, 1) := by decide +kernel
theorem dX4_init_128 : decode cX4_init 128 = .ok (.invokespecial 26, 3) := by decide +kernel
theorem dX4_init_131 : decode cX4_init 131 = .ok (.putfield 41, 3) := by decide +kernel
theorem dX4_init_134 : decode cX4_init 134 = .ok (.aload_n 0, 1) := by decide +kernel
theorem dX4_init_135 : decode cX4_init 135 = .ok (.bipush 6, 2) := by decide +kernel
theorem dX4_init_137 : decode cX4_init 137 = .ok (.newarray .int, 2) := by decide +kernel
theorem dX4_init_139 : decode cX4_init 139 = .ok (.putfield 44, 3) := by decide +kernel
theorem dX4_init_142 : decode cX4_init 142 = .ok (.aload_n 0, 1) := by decide +kernel
theorem dX4_init_143 : decode cX4_init 143 = .ok (.new 48, 3) := by decide +kernel
theorem dX4_init_146 : decode cX4_init 146 = .ok (.dup, 1) := by decide +kernel
theorem dX4_init_147 : decode cX4_init 147 = .ok (.invokespecial 50, 3) := by decide +kernel
theorem dX4_init_150 : decode cX4_init 150 = .ok (.putfield 51, 3) := by decide +kernel
theorem dX4_init_153 : decode cX4_init 153 = .ok (.aload_n 0, 1) := by decide +kernel
theorem dX4_init_154 : decode cX4_init 154 = .ok (.bipush 10, 2) := by decide +kernel
theorem dX4_init_156 : decode cX4_init 156 = .ok (.putfield 55, 3) := by decide +kernel
theorem dX4_init_159 : decode cX4_init 159 = .ok (.aload_n 0, 1) := by decide +kernel
theorem dX4_init_160 : decode cX4_init 160 = .ok (.iconst 0, 1) := by decide +kernel
theorem dX4_init_161 : decode cX4_init 161 = .ok (.putfield 59, 3) := by decide +kernel
theorem dX4_init_164 : decode cX4_init 164 = .ok (.aload_n 0, 1) := by decide +kernel
theorem dX4_init_165 : decode cX4_init 165 = .ok (.iconst (-1), 1) := by decide +kernel
theorem dX4_init_166 : decode cX4_init 166 = .ok (.putfield 62, 3) := by decide +kernel
theorem dX4_init_169 : decode cX4_init 169 = .ok (.aload_n 0, 1) := by decide +kernel
theorem dX4_init_170 : decode cX4_init 170 = .ok (.iconst 0, 1) := by decide +kernel
theorem dX4_init_171 : decode cX4_init 171 = .ok (.putfield 65, 3) := by decide +kernel
theorem dX4_init_174 : decode cX4_init 174 = .ok (.aload_n 0, 1) := by decide +kernel
theorem dX4_init_175 : decode cX4_init 175 = .ok (.iconst 0, 1) := by decide +kernel
theorem dX4_init_176 : decode cX4_init 176 = .ok (.putfield 68, 3) := by decide +kernel
theorem dX4_init_179 : decode cX4_init 179 = .ok (.aload_n 0, 1) := by decide +kernel
theorem dX4_init_180 : decode cX4_init 180 = .ok (.iconst 0, 1) := by decide +kernel
theorem dX4_init_181 : decode cX4_init 181 = .ok (.invokevirtual 71, 3) := by decide +kernel
theorem dX4_init_184 : decode cX4_init 184 = .ok (.return_, 1) := by decide +kernel
theorem dX4_appendKey_0 : decode cX4_appendKey 0 = .ok (.iload_n 1, 1) := by decide +kernel
theorem dX4_appendKey_1 : decode cX4_appendKey 1 = .ok (.invokestatic 74, 3) := by decide +kernel
theorem dX4_appendKey_4 : decode cX4_appendKey 4 = .ok (.ifCond .ne 5, 3) := by decide +kernel
theorem dX4_appendKey_7 : decode cX4_appendKey 7 = .ok (.iconst (-1), 1) := by decide +kernel
theorem dX4_appendKey_8 : decode cX4_appendKey 8 = .ok (.ireturn, 1) := by decide +kernel
theorem dX4_appendKey_9 : decode cX4_appendKey 9 = .ok (.aload_n 0, 1) := by decide +kernel
theorem dX4_appendKey_10 : decode cX4_appendKey 10 = .ok (.getfield 14, 3) := by decide +kernel
theorem dX4_appendKey_13 : decode cX4_appendKey 13 = .ok (.invokevirtual 78, 3) := by decide +kernel
theorem dX4_appendKey_16 : decode cX4_appendKey 16 = .ok (.ifCond .eq 6, 3) := by decide +kernel
theorem dX4_appendKey_19 : decode cX4_appendKey 19 = .ok (.bipush (-3), 2) := by decide +kernel
theorem dX4_appendKey_21 : decode cX4_appendKey 21 = .ok (.ireturn, 1) := by decide +kernel
theorem dX4_appendKey_22 : decode cX4_appendKey 22 = .ok (.aload_n 0, 1) := by decide +kernel
theorem dX4_appendKey_23 : decode cX4_appendKey 23 = .ok (.getfield 14, 3) := by decide +kernel
theorem dX4_appendKey_26 : decode cX4_appendKey 26 = .ok (.iload_n 1, 1) := by decide +kernel
theorem dX4_appendKey_27 : decode cX4_appendKey 27 = .ok (.invokevirtual 82, 3) := by decide +kernel
theorem dX4_appendKey_30 : decode cX4_appendKey 30 = .ok (.aload_n 0, 1) := by decide +kernel
theorem dX4_appendKey_31 : decode cX4_appendKey 31 = .ok (.getfield 14, 3) := by decide +kernel
theorem dX4_appendKey_34 : decode cX4_appendKey 34 = .ok (.invokevirtual 84, 3) := by decide +kernel
theorem dX4_appendKey_37 : decode cX4_appendKey 37 = .ok (.ireturn, 1) := by decide +kernel
theorem dX4_clearKeys_0 : decode cX4_clearKeys 0 = .ok (.aload_n 0, 1) := by decide +kernel
theorem dX4_clearKeys_1 : decode cX4_clearKeys 1 = .ok (.getfield 14, 3) := by decide +kernel
theorem dX4_clearKeys_4 : decode cX4_clearKeys 4 = .ok (.invokevirtual 84, 3) := by decide +kernel
theorem dX4_clearKeys_7 : decode cX4_clearKeys 7 = .ok (.istore_n 1, 1) := by decide +kernel
theorem dX4_clearKeys_8 : decode cX4_clearKeys 8 = .ok (.aload_n 0, 1) := by decide +kernel
theorem dX4_clearKeys_9 : decode cX4_clearKeys 9 = .ok (.getfield 14, 3) := by decide +kernel
theorem dX4_clearKeys_12 : decode cX4_clearKeys 12 = .ok (.invokevirtual 88, 3) := by decide +kernel
theorem dX4_clearKeys_15 : decode cX4_clearKeys 15 = .ok (.iload_n 1, 1) := by decide +kernel
theorem dX4_clearKeys_16 : decode cX4_clearKeys 16 = .ok (.ireturn, 1) := by decide +kernel
theorem dX4_bind_0 : decode cX4_bind 0 = .ok (.aload_n 0, 1) := by decide +kernel
theorem dX4_bind_1 : decode cX4_bind 1 = .ok (.iload_n 1, 1) := by decide +kernel
theorem dX4_bind_2 : decode cX4_bind 2 = .ok (.invokevirtual 91, 3) := by decide +kernel
theorem dX4_bind_5 : decode cX4_bind 5 = .ok (.ifCond .eq 23, 3) := by decide +kernel
theorem dX4_bind_8 : decode cX4_bind 8 = .ok (.aload_n 0, 1) := by decide +kernel
theorem dX4_bind_9 : decode cX4_bind 9 = .ok (.iload_n 2, 1) := by decide +kernel
theorem dX4_bind_10 : decode cX4_bind 10 = .ok (.iload_n 3, 1) := by decide +kernel
theorem dX4_bind_11 : decode cX4_bind 11 = .ok (.invokevirtual 94, 3) := by decide +kernel
theorem dX4_bind_14 : decode cX4_bind 14 = .ok (.ifCond .eq 14, 3) := by decide +kernel
theorem dX4_bind_17 : decode cX4_bind 17 = .ok (.aload_n 0, 1) := by decide +kernel
theorem dX4_bind_18 : decode cX4_bind 18 = .ok (.iload 4, 2) := by decide +kernel
theorem dX4_bind_20 : decode cX4_bind 20 = .ok (.iload 5, 2) := by decide +kernel
theorem dX4_bind_22 : decode cX4_bind 22 = .ok (.invokevirtual 98, 3) := by decide +kernel
theorem dX4_bind_25 : decode cX4_bind 25 = .ok (.ifCond .ne 5, 3) := by decide +kernel
theorem dX4_bind_28 : decode cX4_bind 28 = .ok (.iconst (-1), 1) := by decide +kernel
theorem dX4_bind_29 : decode cX4_bind 29 = .ok (.ireturn, 1) := by decide +kernel
theorem dX4_bind_30 : decode cX4_bind 30 = .ok (.aload_n 0, 1) := by decide +kernel
theorem dX4_bind_31 : decode cX4_bind 31 = .ok (.getfield 14, 3) := by decide +kernel
theorem dX4_bind_34 : decode cX4_bind 34 = .ok (.invokevirtual 84, 3) := by decide +kernel
theorem dX4_bind_37 : decode cX4_bind 37 = .ok (.ifCond .ne 6, 3) := by decide +kernel
theorem dX4_bind_40 : decode cX4_bind 40 = .ok (.bipush (-2), 2) := by decide +kernel
theorem dX4_bind_42 : decode cX4_bind 42 = .ok (.ireturn, 1) := by decide +kernel
theorem dX4_bind_43 : decode cX4_bind 43 = .ok (.aload_n 0, 1) := by decide +kernel
theorem dX4_bind_44 : decode cX4_bind 44 = .ok (.getfield 35, 3) := by decide +kernel
theorem dX4_bind_47 : decode cX4_bind 47 = .ok (.iload_n 1, 1) := by decide +kernel
theorem dX4_bind_48 : decode cX4_bind 48 = .ok (.invokevirtual 101, 3) := by decide +kernel
theorem dX4_bind_51 : decode cX4_bind 51 = .ok (.checkcast 38, 3) := by decide +kernel
theorem dX4_bind_54 : decode cX4_bind 54 = .ok (.getfield 105, 3) := by decide +kernel
theorem dX4_bind_57 : decode cX4_bind 57 = .ok (.astore 6, 2) := by decide +kernel
theorem dX4_bind_59 : decode cX4_bind 59 = .ok (.aload 6, 2) := by decide +kernel
theorem dX4_bind_61 : decode cX4_bind 61 = .ok (.invokevirtual 108, 3) := by decide +kernel
theorem dX4_bind_64 : decode cX4_bind 64 = .ok (.bipush 10, 2) := by decide +kernel
theorem dX4_bind_66 : decode cX4_bind 66 = .ok (.if_icmp .lt 6, 3) := by decide +kernel
theorem dX4_bind_69 : decode cX4_bind 69 = .ok (.bipush (-3), 2) := by decide +kernel
theorem dX4_bind_71 : decode cX4_bind 71 = .ok (.ireturn, 1) := by decide +kernel
theorem dX4_bind_72 : decode cX4_bind 72 = .ok (.aload 6, 2) := by decide +kernel
theorem dX4_bind_74 : decode cX4_bind 74 = .ok (.new 109, 3) := by decide +kernel
theorem dX4_bind_77 : decode cX4_bind 77 = .ok (.dup, 1) := by decide +kernel
theorem dX4_bind_78 : decode cX4_bind 78 = .ok (.aload_n 0, 1) := by decide +kernel
theorem dX4_bind_79 : decode cX4_bind 79 = .ok (.getfield 14, 3) := by decide +kernel
theorem dX4_bind_82 : decode cX4_bind 82 = .ok (.invokevirtual 111, 3) := by decide +kernel
theorem dX4_bind_85 : decode cX4_bind 85 = .ok (.iload_n 2, 1) := by decide +kernel
theorem dX4_bind_86 : decode cX4_bind 86 = .ok (.iload_n 3, 1) := by decide +kernel
theorem dX4_bind_87 : decode cX4_bind 87 = .ok (.iload 4, 2) := by decide +kernel
theorem dX4_bind_89 : decode cX4_bind 89 = .ok (.iload 5, 2) := by decide +kernel
theorem dX4_bind_91 : decode cX4_bind 91 = .ok (.invokespecial 115, 3) := by decide +kernel
theorem dX4_bind_94 : decode cX4_bind 94 = .ok (.invokevirtual 31, 3) := by decide +kernel
theorem dX4_bind_97 : decode cX4_bind 97 = .ok (.pop, 1) := by decide +kernel
theorem dX4_bind_98 : decode cX4_bind 98 = .ok (.aload_n 0, 1) := by decide +kernel
theorem dX4_bind_99 : decode cX4_bind 99 = .ok (.getfield 14, 3) := by decide +kernel
theorem dX4_bind_102 : decode cX4_bind 102 = .ok (.invokevirtual 88, 3) := by decide +kernel
theorem dX4_bind_105 : decode cX4_bind 105 = .ok (.aload 6, 2) := by decide +kernel
theorem dX4_bind_107 : decode cX4_bind 107 = .ok (.invokevirtual 108, 3) := by decide +kernel
theorem dX4_bind_110 : decode cX4_bind 110 = .ok (.iconst 1, 1) := by decide +kernel
theorem dX4_bind_111 : decode cX4_bind 111 = .ok (.isub, 1) := by decide +kernel
theorem dX4_bind_112 : decode cX4_bind 112 = .ok (.ireturn, 1) := by decide +kernel
theorem dX4_unbind_0 : decode cX4_unbind 0 = .ok (.aload_n 0, 1) := by decide +kernel
theorem dX4_unbind_1 : decode cX4_unbind 1 = .ok (.iload_n 1, 1) := by decide +kernel
theorem dX4_unbind_2 : decode cX4_unbind 2 = .ok (.iload_n 2, 1) := by decide +kernel
theorem dX4_unbind_3 : decode cX4_unbind 3 = .ok (.invokevirtual 118, 3) := by decide +kernel
theorem dX4_unbind_6 : decode cX4_unbind 6 = .ok (.ifCond .ne 5, 3) := by decide +kernel
theorem dX4_unbind_9 : decode cX4_unbind 9 = .ok (.iconst (-1), 1) := by decide +kernel
theorem dX4_unbind_10 : decode cX4_unbind 10 = .ok (.ireturn, 1) := by decide +kernel
theorem dX4_unbind_11 : decode cX4_unbind 11 = .ok (.aload_n 0, 1) := by decide +kernel
theorem dX4_unbind_12 : decode cX4_unbind 12 = .ok (.getfield 35, 3) := by decide +kernel
theorem dX4_unbind_15 : decode cX4_unbind 15 = .ok (.iload_n 1, 1) := by decide +kernel
theorem dX4_unbind_16 : decode cX4_unbind 16 = .ok (.invokevirtual 101, 3) := by decide +kernel
theorem dX4_unbind_19 : decode cX4_unbind 19 = .ok (.checkcast 38, 3) := by decide +kernel
theorem dX4_unbind_22 : decode cX4_unbind 22 = .ok (.getfield 105, 3) := by decide +kernel
theorem dX4_unbind_25 : decode cX4_unbind 25 = .ok (.astore_n 3, 1) := by decide +kernel
theorem dX4_unbind_26 : decode cX4_unbind 26 = .ok (.aload_n 3, 1) := by decide +kernel
theorem dX4_unbind_27 : decode cX4_unbind 27 = .ok (.iload_n 2, 1) := by decide +kernel
theorem dX4_unbind_28 : decode cX4_unbind 28 = .ok (.invokevirtual 121, 3) := by decide +kernel
theorem dX4_unbind_31 : decode cX4_unbind 31 = .ok (.pop, 1) := by decide +kernel
theorem dX4_unbind_32 : decode cX4_unbind 32 = .ok (.aload_n 3, 1) := by decide +kernel
theorem dX4_unbind_33 : decode cX4_unbind 33 = .ok (.invokevirtual 108, 3) := by decide +kernel
theorem dX4_unbind_36 : decode cX4_unbind 36 = .ok (.ireturn, 1) := by decide +kernel
theorem dX4_bindingCount_0 : decode cX4_bindingCount 0 = .ok (.aload_n 0, 1) := by decide +kernel
theorem dX4_bindingCount_1 : decode cX4_bindingCount 1 = .ok (.iload_n 1, 1) := by decide +kernel
theorem dX4_bindingCount_2 : decode cX4_bindingCount 2 = .ok (.invokevirtual 91, 3) := by decide +kernel
theorem dX4_bindingCount_5 : decode cX4_bindingCount 5 = .ok (.ifCond .ne 5, 3) := by decide +kernel
theorem dX4_bindingCount_8 : decode cX4_bindingCount 8 = .ok (.iconst (-1), 1) := by decide +kernel
theorem dX4_bindingCount_9 : decode cX4_bindingCount 9 = .ok (.ireturn, 1) := by decide +kernel
theorem dX4_bindingCount_10 : decode cX4_bindingCount 10 = .ok (.aload_n 0, 1) := by decide +kernel
theorem dX4_bindingCount_11 : decode cX4_bindingCount 11 = .ok (.getfield 35, 3) := by decide +kernel
theorem dX4_bindingCount_14 : decode cX4_bindingCount 14 = .ok (.iload_n 1, 1) := by decide +kernel
theorem dX4_bindingCount_15 : decode cX4_bindingCount 15 = .ok (.invokevirtual 101, 3) := by decide +kernel
theorem dX4_bindingCount_18 : decode cX4_bindingCount 18 = .ok (.checkcast 38, 3) := by decide +kernel
theorem dX4_bindingCount_21 : decode cX4_bindingCount 21 = .ok (.getfield 105, 3) := by decide +kernel
theorem dX4_bindingCount_24 : decode cX4_bindingCount 24 = .ok (.invokevirtual 108, 3) := by decide +kernel
theorem dX4_bindingCount_27 : decode cX4_bindingCount 27 = .ok (.ireturn, 1) := by decide +kernel
theorem dX4_shadowedBy_0 : decode cX4_shadowedBy 0 = .ok (.aload_n 0, 1) := by decide +kernel
theorem dX4_shadowedBy_1 : decode cX4_shadowedBy 1 = .ok (.iload_n 1, 1) := by decide +kernel
theorem dX4_shadowedBy_2 : decode cX4_shadowedBy 2 = .ok (.iload_n 2, 1) := by decide +kernel
theorem dX4_shadowedBy_3 : decode cX4_shadowedBy 3 = .ok (.invokevirtual 118, 3) := by decide +kernel
theorem dX4_shadowedBy_6 : decode cX4_shadowedBy 6 = .ok (.ifCond .ne 5, 3) := by decide +kernel
theorem dX4_shadowedBy_9 : decode cX4_shadowedBy 9 = .ok (.iconst (-1), 1) := by decide +kernel
theorem dX4_shadowedBy_10 : decode cX4_shadowedBy 10 = .ok (.ireturn, 1) := by decide +kernel
theorem dX4_shadowedBy_11 : decode cX4_shadowedBy 11 = .ok (.aload_n 0, 1) := by decide +kernel
theorem dX4_shadowedBy_12 : decode cX4_shadowedBy 12 = .ok (.getfield 35, 3) := by decide +kernel
theorem dX4_shadowedBy_15 : decode cX4_shadowedBy 15 = .ok (.iload_n 1, 1) := by decide +kernel
theorem dX4_shadowedBy_16 : decode cX4_shadowedBy 16 = .ok (.invokevirtual 101, 3) := by decide +kernel
theorem dX4_shadowedBy_19 : decode cX4_shadowedBy 19 = .ok (.checkcast 38, 3) := by decide +kernel
theorem dX4_shadowedBy_22 : decode cX4_shadowedBy 22 = .ok (.getfield 105, 3) := by decide +kernel
theorem dX4_shadowedBy_25 : decode cX4_shadowedBy 25 = .ok (.astore_n 3, 1) := by decide +kernel
theorem dX4_shadowedBy_26 : decode cX4_shadowedBy 26 = .ok (.aload_n 3, 1) := by decide +kernel
theorem dX4_shadowedBy_27 : decode cX4_shadowedBy 27 = .ok (.iload_n 2, 1) := by decide +kernel
theorem dX4_shadowedBy_28 : decode cX4_shadowedBy 28 = .ok (.invokevirtual 101, 3) := by decide +kernel
theorem dX4_shadowedBy_31 : decode cX4_shadowedBy 31 = .ok (.checkcast 109, 3) := by decide +kernel
theorem dX4_shadowedBy_34 : decode cX4_shadowedBy 34 = .ok (.astore 4, 2) := by decide +kernel
theorem dX4_shadowedBy_36 : decode cX4_shadowedBy 36 = .ok (.iconst 0, 1) := by decide +kernel
theorem dX4_shadowedBy_37 : decode cX4_shadowedBy 37 = .ok (.istore 5, 2) := by decide +kernel
theorem dX4_shadowedBy_39 : decode cX4_shadowedBy 39 = .ok (.iload 5, 2) := by decide +kernel
theorem dX4_shadowedBy_41 : decode cX4_shadowedBy 41 = .ok (.iload_n 2, 1) := by decide +kernel
theorem dX4_shadowedBy_42 : decode cX4_shadowedBy 42 = .ok (.if_icmp .ge 29, 3) := by decide +kernel
theorem dX4_shadowedBy_45 : decode cX4_shadowedBy 45 = .ok (.aload_n 3, 1) := by decide +kernel
theorem dX4_shadowedBy_46 : decode cX4_shadowedBy 46 = .ok (.iload 5, 2) := by decide +kernel
theorem dX4_shadowedBy_48 : decode cX4_shadowedBy 48 = .ok (.invokevirtual 101, 3) := by decide +kernel
theorem dX4_shadowedBy_51 : decode cX4_shadowedBy 51 = .ok (.checkcast 109, 3) := by decide +kernel
theorem dX4_shadowedBy_54 : decode cX4_shadowedBy 54 = .ok (.aload 4, 2) := by decide +kernel
theorem dX4_shadowedBy_56 : decode cX4_shadowedBy 56 = .ok (.invokevirtual 124, 3) := by decide +kernel
theorem dX4_shadowedBy_59 : decode cX4_shadowedBy 59 = .ok (.ifCond .eq 6, 3) := by decide +kernel
theorem dX4_shadowedBy_62 : decode cX4_shadowedBy 62 = .ok (.iload 5, 2) := by decide +kernel
theorem dX4_shadowedBy_64 : decode cX4_shadowedBy 64 = .ok (.ireturn, 1) := by decide +kernel
theorem dX4_shadowedBy_65 : decode cX4_shadowedBy 65 = .ok (.iinc 5 1, 3) := by decide +kernel
theorem dX4_shadowedBy_68 : decode cX4_shadowedBy 68 = .ok (.goto (-29), 3) := by decide +kernel
theorem dX4_shadowedBy_71 : decode cX4_shadowedBy 71 = .ok (.bipush (-4), 2) := by decide +kernel
theorem dX4_shadowedBy_73 : decode cX4_shadowedBy 73 = .ok (.ireturn, 1) := by decide +kernel
theorem dX4_press_0 : decode cX4_press 0 = .ok (.iload_n 1, 1) := by decide +kernel
theorem dX4_press_1 : decode cX4_press 1 = .ok (.invokestatic 74, 3) := by decide +kernel
theorem dX4_press_4 : decode cX4_press 4 = .ok (.ifCond .ne 5, 3) := by decide +kernel
theorem dX4_press_7 : decode cX4_press 7 = .ok (.iconst (-1), 1) := by decide +kernel
theorem dX4_press_8 : decode cX4_press 8 = .ok (.ireturn, 1) := by decide +kernel
theorem dX4_press_9 : decode cX4_press 9 = .ok (.aload_n 0, 1) := by decide +kernel
theorem dX4_press_10 : decode cX4_press 10 = .ok (.getfield 51, 3) := by decide +kernel
theorem dX4_press_13 : decode cX4_press 13 = .ok (.getfield 128, 3) := by decide +kernel
theorem dX4_press_16 : decode cX4_press 16 = .ok (.istore_n 2, 1) := by decide +kernel
theorem dX4_press_17 : decode cX4_press 17 = .ok (.aload_n 0, 1) := by decide +kernel
theorem dX4_press_18 : decode cX4_press 18 = .ok (.iconst 0, 1) := by decide +kernel
theorem dX4_press_19 : decode cX4_press 19 = .ok (.putfield 68, 3) := by decide +kernel
theorem dX4_press_22 : decode cX4_press 22 = .ok (.aload_n 0, 1) := by decide +kernel
theorem dX4_press_23 : decode cX4_press 23 = .ok (.aload_n 0, 1) := by decide +kernel
theorem dX4_press_24 : decode cX4_press 24 = .ok (.getfield 62, 3) := by decide +kernel
theorem dX4_press_27 : decode cX4_press 27 = .ok (.invokevirtual 131, 3) := by decide +kernel
theorem dX4_press_30 : decode cX4_press 30 = .ok (.ifCond .eq 21, 3) := by decide +kernel
theorem dX4_press_33 : decode cX4_press 33 = .ok (.aload_n 0, 1) := by decide +kernel
theorem dX4_press_34 : decode cX4_press 34 = .ok (.getfield 27, 3) := by decide +kernel
theorem dX4_press_37 : decode cX4_press 37 = .ok (.aload_n 0, 1) := by decide +kernel
theorem dX4_press_38 : decode cX4_press 38 = .ok (.getfield 62, 3) := by decide +kernel
theorem dX4_press_41 : decode cX4_press 41 = .ok (.invokevirtual 101, 3) := by decide +kernel
theorem dX4_press_44 : decode cX4_press 44 = .ok (.checkcast 9, 3) := by decide +kernel
theorem dX4_press_47 : decode cX4_press 47 = .ok (.iload_n 1, 1) := by decide +kernel
theorem dX4_press_48 : decode cX4_press 48 = .ok (.invokevirtual 82, 3) := by decide +kernel
theorem dX4_press_51 : decode cX4_press 51 = .ok (.aload_n 0, 1) := by decide +kernel
theorem dX4_press_52 : decode cX4_press 52 = .ok (.getfield 21, 3) := by decide +kernel
theorem dX4_press_55 : decode cX4_press 55 = .ok (.iload_n 1, 1) := by decide +kernel
theorem dX4_press_56 : decode cX4_press 56 = .ok (.invokevirtual 82, 3) := by decide +kernel
theorem dX4_press_59 : decode cX4_press 59 = .ok (.aload_n 0, 1) := by decide +kernel
theorem dX4_press_60 : decode cX4_press 60 = .ok (.invokevirtual 134, 3) := by decide +kernel
theorem dX4_press_63 : decode cX4_press 63 = .ok (.aload_n 0, 1) := by decide +kernel
theorem dX4_press_64 : decode cX4_press 64 = .ok (.getfield 51, 3) := by decide +kernel
theorem dX4_press_67 : decode cX4_press 67 = .ok (.getfield 128, 3) := by decide +kernel
theorem dX4_press_70 : decode cX4_press 70 = .ok (.iload_n 2, 1) := by decide +kernel
theorem dX4_press_71 : decode cX4_press 71 = .ok (.isub, 1) := by decide +kernel
theorem dX4_press_72 : decode cX4_press 72 = .ok (.ireturn, 1) := by decide +kernel
theorem dX4_tick_0 : decode cX4_tick 0 = .ok (.iload_n 1, 1) := by decide +kernel
theorem dX4_tick_1 : decode cX4_tick 1 = .ok (.iconst 0, 1) := by decide +kernel
theorem dX4_tick_2 : decode cX4_tick 2 = .ok (.sipush 999, 3) := by decide +kernel
theorem dX4_tick_5 : decode cX4_tick 5 = .ok (.invokestatic 137, 3) := by decide +kernel
theorem dX4_tick_8 : decode cX4_tick 8 = .ok (.ifCond .ne 5, 3) := by decide +kernel
theorem dX4_tick_11 : decode cX4_tick 11 = .ok (.iconst (-1), 1) := by decide +kernel
theorem dX4_tick_12 : decode cX4_tick 12 = .ok (.ireturn, 1) := by decide +kernel
theorem dX4_tick_13 : decode cX4_tick 13 = .ok (.aload_n 0, 1) := by decide +kernel
theorem dX4_tick_14 : decode cX4_tick 14 = .ok (.getfield 51, 3) := by decide +kernel
theorem dX4_tick_17 : decode cX4_tick 17 = .ok (.getfield 128, 3) := by decide +kernel
theorem dX4_tick_20 : decode cX4_tick 20 = .ok (.istore_n 2, 1) := by decide +kernel
theorem dX4_tick_21 : decode cX4_tick 21 = .ok (.aload_n 0, 1) := by decide +kernel
theorem dX4_tick_22 : decode cX4_tick 22 = .ok (.iconst 0, 1) := by decide +kernel
theorem dX4_tick_23 : decode cX4_tick 23 = .ok (.putfield 68, 3) := by decide +kernel
theorem dX4_tick_26 : decode cX4_tick 26 = .ok (.iconst 0, 1) := by decide +kernel
theorem dX4_tick_27 : decode cX4_tick 27 = .ok (.istore_n 3, 1) := by decide +kernel
theorem dX4_tick_28 : decode cX4_tick 28 = .ok (.iload_n 3, 1) := by decide +kernel
theorem dX4_tick_29 : decode cX4_tick 29 = .ok (.iload_n 1, 1) := by decide +kernel
theorem dX4_tick_30 : decode cX4_tick 30 = .ok (.if_icmp .ge 44, 3) := by decide +kernel
theorem dX4_tick_33 : decode cX4_tick 33 = .ok (.aload_n 0, 1) := by decide +kernel
theorem dX4_tick_34 : decode cX4_tick 34 = .ok (.getfield 18, 3) := by decide +kernel
theorem dX4_tick_37 : decode cX4_tick 37 = .ok (.invokevirtual 84, 3) := by decide +kernel
theorem dX4_tick_40 : decode cX4_tick 40 = .ok (.ifCond .le 34, 3) := by decide +kernel
theorem dX4_tick_43 : decode cX4_tick 43 = .ok (.aload_n 0, 1) := by decide +kernel
theorem dX4_tick_44 : decode cX4_tick 44 = .ok (.dup, 1) := by decide +kernel
theorem dX4_tick_45 : decode cX4_tick 45 = .ok (.getfield 59, 3) := by decide +kernel
theorem dX4_tick_48 : decode cX4_tick 48 = .ok (.iconst 1, 1) := by decide +kernel
theorem dX4_tick_49 : decode cX4_tick 49 = .ok (.isub, 1) := by decide +kernel
theorem dX4_tick_50 : decode cX4_tick 50 = .ok (.putfield 59, 3) := by decide +kernel
theorem dX4_tick_53 : decode cX4_tick 53 = .ok (.aload_n 0, 1) := by decide +kernel
theorem dX4_tick_54 : decode cX4_tick 54 = .ok (.getfield 59, 3) := by decide +kernel
theorem dX4_tick_57 : decode cX4_tick 57 = .ok (.ifCond .gt 11, 3) := by decide +kernel
theorem dX4_tick_60 : decode cX4_tick 60 = .ok (.aload_n 0, 1) := by decide +kernel
theorem dX4_tick_61 : decode cX4_tick 61 = .ok (.invokevirtual 141, 3) := by decide +kernel
theorem dX4_tick_64 : decode cX4_tick 64 = .ok (.aload_n 0, 1) := by decide +kernel
theorem dX4_tick_65 : decode cX4_tick 65 = .ok (.invokevirtual 134, 3) := by decide +kernel
theorem dX4_tick_68 : decode cX4_tick 68 = .ok (.iinc 3 1, 3) := by decide +kernel
theorem dX4_tick_71 : decode cX4_tick 71 = .ok (.goto (-43), 3) := by decide +kernel
theorem dX4_tick_74 : decode cX4_tick 74 = .ok (.aload_n 0, 1) := by decide +kernel
theorem dX4_tick_75 : decode cX4_tick 75 = .ok (.getfield 51, 3) := by decide +kernel
theorem dX4_tick_78 : decode cX4_tick 78 = .ok (.getfield 128, 3) := by decide +kernel
theorem dX4_tick_81 : decode cX4_tick 81 = .ok (.iload_n 2, 1) := by decide +kernel
theorem dX4_tick_82 : decode cX4_tick 82 = .ok (.isub, 1) := by decide +kernel
theorem dX4_tick_83 : decode cX4_tick 83 = .ok (.ireturn, 1) := by decide +kernel
theorem dX4_setTimeout_0 : decode cX4_setTimeout 0 = .ok (.iload_n 1, 1) := by decide +kernel
theorem dX4_setTimeout_1 : decode cX4_setTimeout 1 = .ok (.iconst 1, 1) := by decide +kernel
theorem dX4_setTimeout_2 : decode cX4_setTimeout 2 = .ok (.bipush 99, 2) := by decide +kernel
theorem dX4_setTimeout_4 : decode cX4_setTimeout 4 = .ok (.invokestatic 137, 3) := by decide +kernel
theorem dX4_setTimeout_7 : decode cX4_setTimeout 7 = .ok (.ifCond .ne 5, 3) := by decide +kernel
theorem dX4_setTimeout_10 : decode cX4_setTimeout 10 = .ok (.iconst (-1), 1) := by decide +kernel
theorem dX4_setTimeout_11 : decode cX4_setTimeout 11 = .ok (.ireturn, 1) := by decide +kernel
theorem dX4_setTimeout_12 : decode cX4_setTimeout 12 = .ok (.aload_n 0, 1) := by decide +kernel
theorem dX4_setTimeout_13 : decode cX4_setTimeout 13 = .ok (.getfield 55, 3) := by decide +kernel
theorem dX4_setTimeout_16 : decode cX4_setTimeout 16 = .ok (.istore_n 2, 1) := by decide +kernel
theorem dX4_setTimeout_17 : decode cX4_setTimeout 17 = .ok (.aload_n 0, 1) := by decide +kernel
theorem dX4_setTimeout_18 : decode cX4_setTimeout 18 = .ok (.iload_n 1, 1) := by decide +kernel
theorem dX4_setTimeout_19 : decode cX4_setTimeout 19 = .ok (.putfield 55, 3) := by decide +kernel
theorem dX4_setTimeout_22 : decode cX4_setTimeout 22 = .ok (.iload_n 2, 1) := by decide +kernel
theorem dX4_setTimeout_23 : decode cX4_setTimeout 23 = .ok (.ireturn, 1) := by decide +kernel
theorem dX4_setFlag_0 : decode cX4_setFlag 0 = .ok (.aload_n 0, 1) := by decide +kernel
theorem dX4_setFlag_1 : decode cX4_setFlag 1 = .ok (.iload_n 1, 1) := by decide +kernel
theorem dX4_setFlag_2 : decode cX4_setFlag 2 = .ok (.invokevirtual 144, 3) := by decide +kernel
theorem dX4_setFlag_5 : decode cX4_setFlag 5 = .ok (.ifCond .eq 12, 3) := by decide +kernel
theorem dX4_setFlag_8 : decode cX4_setFlag 8 = .ok (.iload_n 2, 1) := by decide +kernel
theorem dX4_setFlag_9 : decode cX4_setFlag 9 = .ok (.iconst 0, 1) := by decide +kernel
theorem dX4_setFlag_10 : decode cX4_setFlag 10 = .ok (.iconst 1, 1) := by decide +kernel
theorem dX4_setFlag_11 : decode cX4_setFlag 11 = .ok (.invokestatic 137, 3) := by decide +kernel
theorem dX4_setFlag_14 : decode cX4_setFlag 14 = .ok (.ifCond .ne 5, 3) := by decide +kernel
theorem dX4_setFlag_17 : decode cX4_setFlag 17 = .ok (.iconst (-1), 1) := by decide +kernel
theorem dX4_setFlag_18 : decode cX4_setFlag 18 = .ok (.ireturn, 1) := by decide +kernel
theorem dX4_setFlag_19 : decode cX4_setFlag 19 = .ok (.aload_n 0, 1) := by decide +kernel
theorem dX4_setFlag_20 : decode cX4_setFlag 20 = .ok (.getfield 44, 3) := by decide +kernel
theorem dX4_setFlag_23 : decode cX4_setFlag 23 = .ok (.iload_n 1, 1) := by decide +kernel
theorem dX4_setFlag_24 : decode cX4_setFlag 24 = .ok (.iaload, 1) := by decide +kernel
theorem dX4_setFlag_25 : decode cX4_setFlag 25 = .ok (.istore_n 3, 1) := by decide +kernel
theorem dX4_setFlag_26 : decode cX4_setFlag 26 = .ok (.aload_n 0, 1) := by decide +kernel
theorem dX4_setFlag_27 : decode cX4_setFlag 27 = .ok (.getfield 44, 3) := by decide +kernel
theorem dX4_setFlag_30 : decode cX4_setFlag 30 = .ok (.iload_n 1, 1) := by decide +kernel
theorem dX4_setFlag_31 : decode cX4_setFlag 31 = .ok (.iload_n 2, 1) := by decide +kernel
theorem dX4_setFlag_32 : decode cX4_setFlag 32 = .ok (.iastore, 1) := by decide +kernel
theorem dX4_setFlag_33 : decode cX4_setFlag 33 = .ok (.iload_n 3, 1) := by decide +kernel
theorem dX4_setFlag_34 : decode cX4_setFlag 34 = .ok (.ireturn, 1) := by decide +kernel
theorem dX4_pendingLength_0 : decode cX4_pendingLength 0 = .ok (.aload_n 0, 1) := by decide +kernel
theorem dX4_pendingLength_1 : decode cX4_pendingLength 1 = .ok (.getfield 18, 3) := by decide +kernel
theorem dX4_pendingLength_4 : decode cX4_pendingLength 4 = .ok (.invokevirtual 84, 3) := by decide +kernel
theorem dX4_pendingLength_7 : decode cX4_pendingLength 7 = .ok (.ireturn, 1) := by decide +kernel
theorem dX4_pendingKey_0 : decode cX4_pendingKey 0 = .ok (.iload_n 1, 1) := by decide +kernel
theorem dX4_pendingKey_1 : decode cX4_pendingKey 1 = .ok (.ifCond .ge 5, 3) := by decide +kernel
theorem dX4_pendingKey_4 : decode cX4_pendingKey 4 = .ok (.iconst (-1), 1) := by decide +kernel
theorem dX4_pendingKey_5 : decode cX4_pendingKey 5 = .ok (.ireturn, 1) := by decide +kernel
theorem dX4_pendingKey_6 : decode cX4_pendingKey 6 = .ok (.aload_n 0, 1) := by decide +kernel
theorem dX4_pendingKey_7 : decode cX4_pendingKey 7 = .ok (.getfield 18, 3) := by decide +kernel
theorem dX4_pendingKey_10 : decode cX4_pendingKey 10 = .ok (.iload_n 1, 1) := by decide +kernel
theorem dX4_pendingKey_11 : decode cX4_pendingKey 11 = .ok (.invokevirtual 147, 3) := by decide +kernel
theorem dX4_pendingKey_14 : decode cX4_pendingKey 14 = .ok (.ireturn, 1) := by decide +kernel
theorem dX4_remainingTime_0 : decode cX4_remainingTime 0 = .ok (.aload_n 0, 1) := by decide +kernel
theorem dX4_remainingTime_1 : decode cX4_remainingTime 1 = .ok (.getfield 18, 3) := by decide +kernel
theorem dX4_remainingTime_4 : decode cX4_remainingTime 4 = .ok (.invokevirtual 84, 3) := by decide +kernel
theorem dX4_remainingTime_7 : decode cX4_remainingTime 7 = .ok (.ifCond .ne 7, 3) := by decide +kernel
theorem dX4_remainingTime_10 : decode cX4_remainingTime 10 = .ok (.iconst 0, 1) := by decide +kernel
theorem dX4_remainingTime_11 : decode cX4_remainingTime 11 = .ok (.goto 7, 3) := by decide +kernel
theorem dX4_remainingTime_14 : decode cX4_remainingTime 14 = .ok (.aload_n 0, 1) := by decide +kernel
theorem dX4_remainingTime_15 : decode cX4_remainingTime 15 = .ok (.getfield 59, 3) := by decide +kernel
theorem dX4_remainingTime_18 : decode cX4_remainingTime 18 = .ok (.ireturn, 1) := by decide +kernel
theorem dX4_pendingBinding_0 : decode cX4_pendingBinding 0 = .ok (.aload_n 0, 1) := by decide +kernel
theorem dX4_pendingBinding_1 : decode cX4_pendingBinding 1 = .ok (.aload_n 0, 1) := by decide +kernel
theorem dX4_pendingBinding_2 : decode cX4_pendingBinding 2 = .ok (.getfield 18, 3) := by decide +kernel
theorem dX4_pendingBinding_5 : decode cX4_pendingBinding 5 = .ok (.invokevirtual 84, 3) := by decide +kernel
theorem dX4_pendingBinding_8 : decode cX4_pendingBinding 8 = .ok (.invokevirtual 151, 3) := by decide +kernel
theorem dX4_pendingBinding_11 : decode cX4_pendingBinding 11 = .ok (.ireturn, 1) := by decide +kernel
theorem dX4_flag_0 : decode cX4_flag 0 = .ok (.aload_n 0, 1) := by decide +kernel
theorem dX4_flag_1 : decode cX4_flag 1 = .ok (.iload_n 1, 1) := by decide +kernel
theorem dX4_flag_2 : decode cX4_flag 2 = .ok (.invokevirtual 144, 3) := by decide +kernel
theorem dX4_flag_5 : decode cX4_flag 5 = .ok (.ifCond .ne 5, 3) := by decide +kernel
theorem dX4_flag_8 : decode cX4_flag 8 = .ok (.iconst (-1), 1) := by decide +kernel
theorem dX4_flag_9 : decode cX4_flag 9 = .ok (.ireturn, 1) := by decide +kernel
theorem dX4_flag_10 : decode cX4_flag 10 = .ok (.aload_n 0, 1) := by decide +kernel
theorem dX4_flag_11 : decode cX4_flag 11 = .ok (.getfield 44, 3) := by decide +kernel
theorem dX4_flag_14 : decode cX4_flag 14 = .ok (.iload_n 1, 1) := by decide +kernel
theorem dX4_flag_15 : decode cX4_flag 15 = .ok (.iaload, 1) := by decide +kernel
theorem dX4_flag_16 : decode cX4_flag 16 = .ok (.ireturn, 1) := by decide +kernel
theorem dX4_stackSize_0 : decode cX4_stackSize 0 = .ok (.aload_n 0, 1) := by decide +kernel
theorem dX4_stackSize_1 : decode cX4_stackSize 1 = .ok (.getfield 41, 3) := by decide +kernel
theorem dX4_stackSize_4 : decode cX4_stackSize 4 = .ok (.invokevirtual 108, 3) := by decide +kernel
theorem dX4_stackSize_7 : decode cX4_stackSize 7 = .ok (.ireturn, 1) := by decide +kernel
theorem dX4_stackContext_0 : decode cX4_stackContext 0 = .ok (.iload_n 1, 1) := by decide +kernel
theorem dX4_stackContext_1 : decode cX4_stackContext 1 = .ok (.ifCond .ge 5, 3) := by decide +kernel
theorem dX4_stackContext_4 : decode cX4_stackContext 4 = .ok (.iconst (-1), 1) := by decide +kernel
theorem dX4_stackContext_5 : decode cX4_stackContext 5 = .ok (.ireturn, 1) := by decide +kernel
theorem dX4_stackContext_6 : decode cX4_stackContext 6 = .ok (.iload_n 1, 1) := by decide +kernel
theorem dX4_stackContext_7 : decode cX4_stackContext 7 = .ok (.aload_n 0, 1) := by decide +kernel
theorem dX4_stackContext_8 : decode cX4_stackContext 8 = .ok (.getfield 41, 3) := by decide +kernel
theorem dX4_stackContext_11 : decode cX4_stackContext 11 = .ok (.invokevirtual 108, 3) := by decide +kernel
theorem dX4_stackContext_14 : decode cX4_stackContext 14 = .ok (.if_icmp .lt 6, 3) := by decide +kernel
theorem dX4_stackContext_17 : decode cX4_stackContext 17 = .ok (.bipush (-4), 2) := by decide +kernel
theorem dX4_stackContext_19 : decode cX4_stackContext 19 = .ok (.ireturn, 1) := by decide +kernel
theorem dX4_stackContext_20 : decode cX4_stackContext 20 = .ok (.aload_n 0, 1) := by decide +kernel
theorem dX4_stackContext_21 : decode cX4_stackContext 21 = .ok (.getfield 41, 3) := by decide +kernel
theorem dX4_stackContext_24 : decode cX4_stackContext 24 = .ok (.aload_n 0, 1) := by decide +kernel
theorem dX4_stackContext_25 : decode cX4_stackContext 25 = .ok (.getfield 41, 3) := by decide +kernel
theorem dX4_stackContext_28 : decode cX4_stackContext 28 = .ok (.invokevirtual 108, 3) := by decide +kernel
theorem dX4_stackContext_31 : decode cX4_stackContext 31 = .ok (.iconst 1, 1) := by decide +kernel
theorem dX4_stackContext_32 : decode cX4_stackContext 32 = .ok (.isub, 1) := by decide +kernel
theorem dX4_stackContext_33 : decode cX4_stackContext 33 = .ok (.iload_n 1, 1) := by decide +kernel
theorem dX4_stackContext_34 : decode cX4_stackContext 34 = .ok (.isub, 1) := by decide +kernel
theorem dX4_stackContext_35 : decode cX4_stackContext 35 = .ok (.invokevirtual 101, 3) := by decide +kernel
theorem dX4_stackContext_38 : decode cX4_stackContext 38 = .ok (.checkcast 38, 3) := by decide +kernel
theorem dX4_stackContext_41 : decode cX4_stackContext 41 = .ok (.getfield 154, 3) := by decide +kernel
theorem dX4_stackContext_44 : decode cX4_stackContext 44 = .ok (.ireturn, 1) := by decide +kernel
theorem dX4_startRecording_0 : decode cX4_startRecording 0 = .ok (.aload_n 0, 1) := by decide +kernel
theorem dX4_startRecording_1 : decode cX4_startRecording 1 = .ok (.iload_n 1, 1) := by decide +kernel
theorem dX4_startRecording_2 : decode cX4_startRecording 2 = .ok (.invokevirtual 131, 3) := by decide +kernel
theorem dX4_startRecording_5 : decode cX4_startRecording 5 = .ok (.ifCond .ne 5, 3) := by decide +kernel
theorem dX4_startRecording_8 : decode cX4_startRecording 8 = .ok (.iconst (-1), 1) := by decide +kernel
theorem dX4_startRecording_9 : decode cX4_startRecording 9 = .ok (.ireturn, 1) := by decide +kernel
theorem dX4_startRecording_10 : decode cX4_startRecording 10 = .ok (.aload_n 0, 1) := by decide +kernel
theorem dX4_startRecording_11 : decode cX4_startRecording 11 = .ok (.getfield 62, 3) := by decide +kernel
theorem dX4_startRecording_14 : decode cX4_startRecording 14 = .ok (.iconst (-1), 1) := by decide +kernel
theorem dX4_startRecording_15 : decode cX4_startRecording 15 = .ok (.if_icmp .eq 6, 3) := by decide +kernel
theorem dX4_startRecording_18 : decode cX4_startRecording 18 = .ok (.bipush (-2), 2) := by decide +kernel
theorem dX4_startRecording_20 : decode cX4_startRecording 20 = .ok (.ireturn, 1) := by decide +kernel
theorem dX4_startRecording_21 : decode cX4_startRecording 21 = .ok (.aload_n 0, 1) := by decide +kernel
theorem dX4_startRecording_22 : decode cX4_startRecording 22 = .ok (.getfield 27, 3) := by decide +kernel
theorem dX4_startRecording_25 : decode cX4_startRecording 25 = .ok (.iload_n 1, 1) := by decide +kernel
theorem dX4_startRecording_26 : decode cX4_startRecording 26 = .ok (.invokevirtual 101, 3) := by decide +kernel
theorem dX4_startRecording_29 : decode cX4_startRecording 29 = .ok (.checkcast 9, 3) := by decide +kernel
theorem dX4_startRecording_32 : decode cX4_startRecording 32 = .ok (.astore_n 2, 1) := by decide +kernel
theorem dX4_startRecording_33 : decode cX4_startRecording 33 = .ok (.aload_n 2, 1) := by decide +kernel
theorem dX4_startRecording_34 : decode cX4_startRecording 34 = .ok (.invokevirtual 84, 3) := by decide +kernel
theorem dX4_startRecording_37 : decode cX4_startRecording 37 = .ok (.istore_n 3, 1) := by decide +kernel
theorem dX4_startRecording_38 : decode cX4_startRecording 38 = .ok (.aload_n 2, 1) := by decide +kernel
theorem dX4_startRecording_39 : decode cX4_startRecording 39 = .ok (.invokevirtual 88, 3) := by decide +kernel
theorem dX4_startRecording_42 : decode cX4_startRecording 42 = .ok (.aload_n 0, 1) := by decide +kernel
theorem dX4_startRecording_43 : decode cX4_startRecording 43 = .ok (.iload_n 1, 1) := by decide +kernel
theorem dX4_startRecording_44 : decode cX4_startRecording 44 = .ok (.putfield 62, 3) := by decide +kernel
theorem dX4_startRecording_47 : decode cX4_startRecording 47 = .ok (.iload_n 3, 1) := by decide +kernel
theorem dX4_startRecording_48 : decode cX4_startRecording 48 = .ok (.ireturn, 1) := by decide +kernel
theorem dX4_stopRecording_0 : decode cX4_stopRecording 0 = .ok (.aload_n 0, 1) := by decide +kernel
theorem dX4_stopRecording_1 : decode cX4_stopRecording 1 = .ok (.aload_n 0, 1) := by decide +kernel
theorem dX4_stopRecording_2 : decode cX4_stopRecording 2 = .ok (.getfield 62, 3) := by decide +kernel
theorem dX4_stopRecording_5 : decode cX4_stopRecording 5 = .ok (.invokevirtual 131, 3) := by decide +kernel
theorem dX4_stopRecording_8 : decode cX4_stopRecording 8 = .ok (.ifCond .ne 6, 3) := by decide +kernel
theorem dX4_stopRecording_11 : decode cX4_stopRecording 11 = .ok (.bipush (-2), 2) := by decide +kernel
theorem dX4_stopRecording_13 : decode cX4_stopRecording 13 = .ok (.ireturn, 1) := by decide +kernel
theorem dX4_stopRecording_14 : decode cX4_stopRecording 14 = .ok (.aload_n 0, 1) := by decide +kernel
theorem dX4_stopRecording_15 : decode cX4_stopRecording 15 = .ok (.getfield 27, 3) := by decide +kernel
theorem dX4_stopRecording_18 : decode cX4_stopRecording 18 = .ok (.aload_n 0, 1) := by decide +kernel
theorem dX4_stopRecording_19 : decode cX4_stopRecording 19 = .ok (.getfield 62, 3) := by decide +kernel
theorem dX4_stopRecording_22 : decode cX4_stopRecording 22 = .ok (.invokevirtual 101, 3) := by decide +kernel
theorem dX4_stopRecording_25 : decode cX4_stopRecording 25 = .ok (.checkcast 9, 3) := by decide +kernel
theorem dX4_stopRecording_28 : decode cX4_stopRecording 28 = .ok (.invokevirtual 84, 3) := by decide +kernel
theorem dX4_stopRecording_31 : decode cX4_stopRecording 31 = .ok (.istore_n 1, 1) := by decide +kernel
theorem dX4_stopRecording_32 : decode cX4_stopRecording 32 = .ok (.aload_n 0, 1) := by decide +kernel
theorem dX4_stopRecording_33 : decode cX4_stopRecording 33 = .ok (.iconst (-1), 1) := by decide +kernel
theorem dX4_stopRecording_34 : decode cX4_stopRecording 34 = .ok (.putfield 62, 3) := by decide +kernel
theorem dX4_stopRecording_37 : decode cX4_stopRecording 37 = .ok (.iload_n 1, 1) := by decide +kernel
theorem dX4_stopRecording_38 : decode cX4_stopRecording 38 = .ok (.ireturn, 1) := by decide +kernel
theorem dX4_macroKey_0 : decode cX4_macroKey 0 = .ok (.aload_n 0, 1) := by decide +kernel
theorem dX4_macroKey_1 : decode cX4_macroKey 1 = .ok (.iload_n 1, 1) := by decide +kernel
theorem dX4_macroKey_2 : decode cX4_macroKey 2 = .ok (.invokevirtual 131, 3) := by decide +kernel
theorem dX4_macroKey_5 : decode cX4_macroKey 5 = .ok (.ifCond .eq 7, 3) := by decide +kernel
theorem dX4_macroKey_8 : decode cX4_macroKey 8 = .ok (.iload_n 2, 1) := by decide +kernel
theorem dX4_macroKey_9 : decode cX4_macroKey 9 = .ok (.ifCond .ge 5, 3) := by decide +kernel
theorem dX4_macroKey_12 : decode cX4_macroKey 12 = .ok (.iconst (-1), 1) := by decide +kernel
theorem dX4_macroKey_13 : decode cX4_macroKey 13 = .ok (.ireturn, 1) := by decide +kernel
theorem dX4_macroKey_14 : decode cX4_macroKey 14 = .ok (.aload_n 0, 1) := by decide +kernel
theorem dX4_macroKey_15 : decode cX4_macroKey 15 = .ok (.getfield 27, 3) := by decide +kernel
theorem dX4_macroKey_18 : decode cX4_macroKey 18 = .ok (.iload_n 1, 1) := by decide +kernel
theorem dX4_macroKey_19 : decode cX4_macroKey 19 = .ok (.invokevirtual 101, 3) := by decide +kernel
theorem dX4_macroKey_22 : decode cX4_macroKey 22 = .ok (.checkcast 9, 3) := by decide +kernel
theorem dX4_macroKey_25 : decode cX4_macroKey 25 = .ok (.iload_n 2, 1) := by decide +kernel
theorem dX4_macroKey_26 : decode cX4_macroKey 26 = .ok (.invokevirtual 147, 3) := by decide +kernel
theorem dX4_macroKey_29 : decode cX4_macroKey 29 = .ok (.ireturn, 1) := by decide +kernel
theorem dX4_reportCount_0 : decode cX4_reportCount 0 = .ok (.aload_n 0, 1) := by decide +kernel
theorem dX4_reportCount_1 : decode cX4_reportCount 1 = .ok (.getfield 51, 3) := by decide +kernel
theorem dX4_reportCount_4 : decode cX4_reportCount 4 = .ok (.getfield 128, 3) := by decide +kernel
theorem dX4_reportCount_7 : decode cX4_reportCount 7 = .ok (.ireturn, 1) := by decide +kernel
theorem dX4_reportKind_0 : decode cX4_reportKind 0 = .ok (.iload_n 1, 1) := by decide +kernel
theorem dX4_reportKind_1 : decode cX4_reportKind 1 = .ok (.ifCond .ge 5, 3) := by decide +kernel
theorem dX4_reportKind_4 : decode cX4_reportKind 4 = .ok (.iconst (-1), 1) := by decide +kernel
theorem dX4_reportKind_5 : decode cX4_reportKind 5 = .ok (.ireturn, 1) := by decide +kernel
theorem dX4_reportKind_6 : decode cX4_reportKind 6 = .ok (.aload_n 0, 1) := by decide +kernel
theorem dX4_reportKind_7 : decode cX4_reportKind 7 = .ok (.getfield 51, 3) := by decide +kernel
theorem dX4_reportKind_10 : decode cX4_reportKind 10 = .ok (.iload_n 1, 1) := by decide +kernel
theorem dX4_reportKind_11 : decode cX4_reportKind 11 = .ok (.invokevirtual 157, 3) := by decide +kernel
theorem dX4_reportKind_14 : decode cX4_reportKind 14 = .ok (.ireturn, 1) := by decide +kernel
theorem dX4_reportArgument_0 : decode cX4_reportArgument 0 = .ok (.iload_n 1, 1) := by decide +kernel
theorem dX4_reportArgument_1 : decode cX4_reportArgument 1 = .ok (.ifCond .ge 5, 3) := by decide +kernel
theorem dX4_reportArgument_4 : decode cX4_reportArgument 4 = .ok (.iconst (-1), 1) := by decide +kernel
theorem dX4_reportArgument_5 : decode cX4_reportArgument 5 = .ok (.ireturn, 1) := by decide +kernel
theorem dX4_reportArgument_6 : decode cX4_reportArgument 6 = .ok (.aload_n 0, 1) := by decide +kernel
theorem dX4_reportArgument_7 : decode cX4_reportArgument 7 = .ok (.getfield 51, 3) := by decide +kernel
theorem dX4_reportArgument_10 : decode cX4_reportArgument 10 = .ok (.iload_n 1, 1) := by decide +kernel
theorem dX4_reportArgument_11 : decode cX4_reportArgument 11 = .ok (.invokevirtual 160, 3) := by decide +kernel
theorem dX4_reportArgument_14 : decode cX4_reportArgument 14 = .ok (.ireturn, 1) := by decide +kernel
theorem dX4_processWaitingKeys_0 : decode cX4_processWaitingKeys 0 = .ok (.iconst 0, 1) := by decide +kernel
theorem dX4_processWaitingKeys_1 : decode cX4_processWaitingKeys 1 = .ok (.istore_n 1, 1) := by decide +kernel
theorem dX4_processWaitingKeys_2 : decode cX4_processWaitingKeys 2 = .ok (.iload_n 1, 1) := by decide +kernel
theorem dX4_processWaitingKeys_3 : decode cX4_processWaitingKeys 3 = .ok (.ldc 163, 2) := by decide +kernel
theorem dX4_processWaitingKeys_5 : decode cX4_processWaitingKeys 5 = .ok (.if_icmp .ge 75, 3) := by decide +kernel
theorem dX4_processWaitingKeys_8 : decode cX4_processWaitingKeys 8 = .ok (.aload_n 0, 1) := by decide +kernel
theorem dX4_processWaitingKeys_9 : decode cX4_processWaitingKeys 9 = .ok (.getfield 21, 3) := by decide +kernel
theorem dX4_processWaitingKeys_12 : decode cX4_processWaitingKeys 12 = .ok (.invokevirtual 84, 3) := by decide +kernel
theorem dX4_processWaitingKeys_15 : decode cX4_processWaitingKeys 15 = .ok (.ifCond .le 65, 3) := by decide +kernel
theorem dX4_processWaitingKeys_18 : decode cX4_processWaitingKeys 18 = .ok (.aload_n 0, 1) := by decide +kernel
theorem dX4_processWaitingKeys_19 : decode cX4_processWaitingKeys 19 = .ok (.getfield 21, 3) := by decide +kernel
theorem dX4_processWaitingKeys_22 : decode cX4_processWaitingKeys 22 = .ok (.invokevirtual 164, 3) := by decide +kernel
theorem dX4_processWaitingKeys_25 : decode cX4_processWaitingKeys 25 = .ok (.istore_n 2, 1) := by decide +kernel
theorem dX4_processWaitingKeys_26 : decode cX4_processWaitingKeys 26 = .ok (.iload_n 2, 1) := by decide +kernel
theorem dX4_processWaitingKeys_27 : decode cX4_processWaitingKeys 27 = .ok (.iconst (-1), 1) := by decide +kernel
theorem dX4_processWaitingKeys_28 : decode cX4_processWaitingKeys 28 = .ok (.if_icmp .ne 16, 3) := by decide +kernel
theorem dX4_processWaitingKeys_31 : decode cX4_processWaitingKeys 31 = .ok (.aload_n 0, 1) := by decide +kernel
theorem dX4_processWaitingKeys_32 : decode cX4_processWaitingKeys 32 = .ok (.dup, 1) := by decide +kernel
theorem dX4_processWaitingKeys_33 : decode cX4_processWaitingKeys 33 = .ok (.getfield 65, 3) := by decide +kernel
theorem dX4_processWaitingKeys_36 : decode cX4_processWaitingKeys 36 = .ok (.iconst 1, 1) := by decide +kernel
theorem dX4_processWaitingKeys_37 : decode cX4_processWaitingKeys 37 = .ok (.isub, 1) := by decide +kernel
theorem dX4_processWaitingKeys_38 : decode cX4_processWaitingKeys 38 = .ok (.putfield 65, 3) := by decide +kernel
theorem dX4_processWaitingKeys_41 : decode cX4_processWaitingKeys 41 = .ok (.goto 33, 3) := by decide +kernel
theorem dX4_processWaitingKeys_44 : decode cX4_processWaitingKeys 44 = .ok (.aload_n 0, 1) := by decide +kernel
theorem dX4_processWaitingKeys_45 : decode cX4_processWaitingKeys 45 = .ok (.getfield 18, 3) := by decide +kernel
theorem dX4_processWaitingKeys_48 : decode cX4_processWaitingKeys 48 = .ok (.iload_n 2, 1) := by decide +kernel
theorem dX4_processWaitingKeys_49 : decode cX4_processWaitingKeys 49 = .ok (.invokevirtual 82, 3) := by decide +kernel
theorem dX4_processWaitingKeys_52 : decode cX4_processWaitingKeys 52 = .ok (.aload_n 0, 1) := by decide +kernel
theorem dX4_processWaitingKeys_53 : decode cX4_processWaitingKeys 53 = .ok (.invokevirtual 167, 3) := by decide +kernel
theorem dX4_processWaitingKeys_56 : decode cX4_processWaitingKeys 56 = .ok (.ifCond .eq 14, 3) := by decide +kernel
theorem dX4_processWaitingKeys_59 : decode cX4_processWaitingKeys 59 = .ok (.aload_n 0, 1) := by decide +kernel
theorem dX4_processWaitingKeys_60 : decode cX4_processWaitingKeys 60 = .ok (.aload_n 0, 1) := by decide +kernel
theorem dX4_processWaitingKeys_61 : decode cX4_processWaitingKeys 61 = .ok (.getfield 55, 3) := by decide +kernel
theorem dX4_processWaitingKeys_64 : decode cX4_processWaitingKeys 64 = .ok (.putfield 59, 3) := by decide +kernel
theorem dX4_processWaitingKeys_67 : decode cX4_processWaitingKeys 67 = .ok (.goto 7, 3) := by decide +kernel
theorem dX4_processWaitingKeys_70 : decode cX4_processWaitingKeys 70 = .ok (.aload_n 0, 1) := by decide +kernel
theorem dX4_processWaitingKeys_71 : decode cX4_processWaitingKeys 71 = .ok (.invokevirtual 141, 3) := by decide +kernel
theorem dX4_processWaitingKeys_74 : decode cX4_processWaitingKeys 74 = .ok (.iinc 1 1, 3) := by decide +kernel
theorem dX4_processWaitingKeys_77 : decode cX4_processWaitingKeys 77 = .ok (.goto (-75), 3) := by decide +kernel
theorem dX4_processWaitingKeys_80 : decode cX4_processWaitingKeys 80 = .ok (.return_, 1) := by decide +kernel
theorem dX4_isExtensible_0 : decode cX4_isExtensible 0 = .ok (.aload_n 0, 1) := by decide +kernel
theorem dX4_isExtensible_1 : decode cX4_isExtensible 1 = .ok (.getfield 41, 3) := by decide +kernel
theorem dX4_isExtensible_4 : decode cX4_isExtensible 4 = .ok (.invokevirtual 108, 3) := by decide +kernel
theorem dX4_isExtensible_7 : decode cX4_isExtensible 7 = .ok (.iconst 1, 1) := by decide +kernel
theorem dX4_isExtensible_8 : decode cX4_isExtensible 8 = .ok (.isub, 1) := by decide +kernel
theorem dX4_isExtensible_9 : decode cX4_isExtensible 9 = .ok (.istore_n 1, 1) := by decide +kernel
theorem dX4_isExtensible_10 : decode cX4_isExtensible 10 = .ok (.iload_n 1, 1) := by decide +kernel
theorem dX4_isExtensible_11 : decode cX4_isExtensible 11 = .ok (.ifCond .lt 76, 3) := by decide +kernel
theorem dX4_isExtensible_14 : decode cX4_isExtensible 14 = .ok (.aload_n 0, 1) := by decide +kernel
theorem dX4_isExtensible_15 : decode cX4_isExtensible 15 = .ok (.getfield 41, 3) := by decide +kernel
theorem dX4_isExtensible_18 : decode cX4_isExtensible 18 = .ok (.iload_n 1, 1) := by decide +kernel
theorem dX4_isExtensible_19 : decode cX4_isExtensible 19 = .ok (.invokevirtual 101, 3) := by decide +kernel
theorem dX4_isExtensible_22 : decode cX4_isExtensible 22 = .ok (.checkcast 38, 3) := by decide +kernel
theorem dX4_isExtensible_25 : decode cX4_isExtensible 25 = .ok (.getfield 105, 3) := by decide +kernel
theorem dX4_isExtensible_28 : decode cX4_isExtensible 28 = .ok (.astore_n 2, 1) := by decide +kernel
theorem dX4_isExtensible_29 : decode cX4_isExtensible 29 = .ok (.iconst 0, 1) := by decide +kernel
theorem dX4_isExtensible_30 : decode cX4_isExtensible 30 = .ok (.istore_n 3, 1) := by decide +kernel
theorem dX4_isExtensible_31 : decode cX4_isExtensible 31 = .ok (.iload_n 3, 1) := by decide +kernel
theorem dX4_isExtensible_32 : decode cX4_isExtensible 32 = .ok (.aload_n 2, 1) := by decide +kernel
theorem dX4_isExtensible_33 : decode cX4_isExtensible 33 = .ok (.invokevirtual 108, 3) := by decide +kernel
theorem dX4_isExtensible_36 : decode cX4_isExtensible 36 = .ok (.if_icmp .ge 45, 3) := by decide +kernel

theorem dX0_init_0 : decode cX0_init 0 = .ok (.aload_n 0, 1) := by decide +kernel
theorem dX0_init_1 : decode cX0_init 1 = .ok (.invokespecial 1, 3) := by decide +kernel
theorem dX0_init_4 : decode cX0_init 4 = .ok (.aload_n 0, 1) := by decide +kernel
theorem dX0_init_5 : decode cX0_init 5 = .ok (.iconst 0, 1) := by decide +kernel
theorem dX0_init_6 : decode cX0_init 6 = .ok (.putfield 7, 3) := by decide +kernel
theorem dX0_init_9 : decode cX0_init 9 = .ok (.iconst 0, 1) := by decide +kernel
theorem dX0_init_10 : decode cX0_init 10 = .ok (.iload_n 1, 1) := by decide +kernel
theorem dX0_init_11 : decode cX0_init 11 = .ok (.invokestatic 13, 3) := by decide +kernel
theorem dX0_init_14 : decode cX0_init 14 = .ok (.istore_n 2, 1) := by decide +kernel
theorem dX0_init_15 : decode cX0_init 15 = .ok (.aload_n 0, 1) := by decide +kernel
theorem dX0_init_16 : decode cX0_init 16 = .ok (.iload_n 2, 1) := by decide +kernel
theorem dX0_init_17 : decode cX0_init 17 = .ok (.newarray .int, 2) := by decide +kernel
theorem dX0_init_19 : decode cX0_init 19 = .ok (.putfield 19, 3) := by decide +kernel
theorem dX0_init_22 : decode cX0_init 22 = .ok (.aload_n 0, 1) := by decide +kernel
theorem dX0_init_23 : decode cX0_init 23 = .ok (.iload_n 2, 1) := by decide +kernel
theorem dX0_init_24 : decode cX0_init 24 = .ok (.newarray .int, 2) := by decide +kernel
theorem dX0_init_26 : decode cX0_init 26 = .ok (.putfield 23, 3) := by decide +kernel
theorem dX0_init_29 : decode cX0_init 29 = .ok (.aload_n 0, 1) := by decide +kernel
theorem dX0_init_30 : decode cX0_init 30 = .ok (.iload_n 2, 1) := by decide +kernel
theorem dX0_init_31 : decode cX0_init 31 = .ok (.newarray .int, 2) := by decide +kernel
theorem dX0_init_33 : decode cX0_init 33 = .ok (.putfield 26, 3) := by decide +kernel
theorem dX0_init_36 : decode cX0_init 36 = .ok (.return_, 1) := by decide +kernel
theorem dX0_add_0 : decode cX0_add 0 = .ok (.aload_n 0, 1) := by decide +kernel
theorem dX0_add_1 : decode cX0_add 1 = .ok (.getfield 7, 3) := by decide +kernel
theorem dX0_add_4 : decode cX0_add 4 = .ok (.aload_n 0, 1) := by decide +kernel
theorem dX0_add_5 : decode cX0_add 5 = .ok (.getfield 23, 3) := by decide +kernel
theorem dX0_add_8 : decode cX0_add 8 = .ok (.arraylength, 1) := by decide +kernel
theorem dX0_add_9 : decode cX0_add 9 = .ok (.if_icmp .lt 5, 3) := by decide +kernel
theorem dX0_add_12 : decode cX0_add 12 = .ok (.iconst 0, 1) := by decide +kernel
theorem dX0_add_13 : decode cX0_add 13 = .ok (.ireturn, 1) := by decide +kernel
theorem dX0_add_14 : decode cX0_add 14 = .ok (.aload_n 0, 1) := by decide +kernel
theorem dX0_add_15 : decode cX0_add 15 = .ok (.getfield 19, 3) := by decide +kernel
theorem dX0_add_18 : decode cX0_add 18 = .ok (.aload_n 0, 1) := by decide +kernel
theorem dX0_add_19 : decode cX0_add 19 = .ok (.getfield 7, 3) := by decide +kernel
theorem dX0_add_22 : decode cX0_add 22 = .ok (.iload_n 1, 1) := by decide +kernel
theorem dX0_add_23 : decode cX0_add 23 = .ok (.iastore, 1) := by decide +kernel
theorem dX0_add_24 : decode cX0_add 24 = .ok (.aload_n 0, 1) := by decide +kernel
theorem dX0_add_25 : decode cX0_add 25 = .ok (.getfield 23, 3) := by decide +kernel
theorem dX0_add_28 : decode cX0_add 28 = .ok (.aload_n 0, 1) := by decide +kernel
theorem dX0_add_29 : decode cX0_add 29 = .ok (.getfield 7, 3) := by decide +kernel
theorem dX0_add_32 : decode cX0_add 32 = .ok (.iload_n 2, 1) := by decide +kernel
theorem dX0_add_33 : decode cX0_add 33 = .ok (.iastore, 1) := by decide +kernel
theorem dX0_add_34 : decode cX0_add 34 = .ok (.aload_n 0, 1) := by decide +kernel
theorem dX0_add_35 : decode cX0_add 35 = .ok (.getfield 26, 3) := by decide +kernel
theorem dX0_add_38 : decode cX0_add 38 = .ok (.aload_n 0, 1) := by decide +kernel
theorem dX0_add_39 : decode cX0_add 39 = .ok (.getfield 7, 3) := by decide +kernel
theorem dX0_add_42 : decode cX0_add 42 = .ok (.iload_n 3, 1) := by decide +kernel
theorem dX0_add_43 : decode cX0_add 43 = .ok (.iastore, 1) := by decide +kernel
theorem dX0_add_44 : decode cX0_add 44 = .ok (.aload_n 0, 1) := by decide +kernel
theorem dX0_add_45 : decode cX0_add 45 = .ok (.dup, 1) := by decide +kernel
theorem dX0_add_46 : decode cX0_add 46 = .ok (.getfield 7, 3) := by decide +kernel
theorem dX0_add_49 : decode cX0_add 49 = .ok (.iconst 1, 1) := by decide +kernel
theorem dX0_add_50 : decode cX0_add 50 = .ok (.iadd, 1) := by decide +kernel
theorem dX0_add_51 : decode cX0_add 51 = .ok (.putfield 7, 3) := by decide +kernel
theorem dX0_add_54 : decode cX0_add 54 = .ok (.iconst 1, 1) := by decide +kernel
theorem dX0_add_55 : decode cX0_add 55 = .ok (.ireturn, 1) := by decide +kernel
theorem dX0_inRows_0 : decode cX0_inRows 0 = .ok (.iconst 0, 1) := by decide +kernel
theorem dX0_inRows_1 : decode cX0_inRows 1 = .ok (.istore_n 3, 1) := by decide +kernel
theorem dX0_inRows_2 : decode cX0_inRows 2 = .ok (.iconst 0, 1) := by decide +kernel
theorem dX0_inRows_3 : decode cX0_inRows 3 = .ok (.istore 4, 2) := by decide +kernel
theorem dX0_inRows_5 : decode cX0_inRows 5 = .ok (.iload 4, 2) := by decide +kernel
theorem dX0_inRows_7 : decode cX0_inRows 7 = .ok (.aload_n 0, 1) := by decide +kernel
theorem dX0_inRows_8 : decode cX0_inRows 8 = .ok (.getfield 7, 3) := by decide +kernel
theorem dX0_inRows_11 : decode cX0_inRows 11 = .ok (.if_icmp .ge 39, 3) := by decide +kernel
theorem dX0_inRows_14 : decode cX0_inRows 14 = .ok (.iload_n 3, 1) := by decide +kernel
theorem dX0_inRows_15 : decode cX0_inRows 15 = .ok (.aload_n 0, 1) := by decide +kernel
theorem dX0_inRows_16 : decode cX0_inRows 16 = .ok (.getfield 23, 3) := by decide +kernel
theorem dX0_inRows_19 : decode cX0_inRows 19 = .ok (.iload 4, 2) := by decide +kernel
theorem dX0_inRows_21 : decode cX0_inRows 21 = .ok (.iaload, 1) := by decide +kernel
theorem dX0_inRows_22 : decode cX0_inRows 22 = .ok (.iload_n 1, 1) := by decide +kernel
theorem dX0_inRows_23 : decode cX0_inRows 23 = .ok (.if_icmp .lt 18, 3) := by decide +kernel
theorem dX0_inRows_26 : decode cX0_inRows 26 = .ok (.aload_n 0, 1) := by decide +kernel
theorem dX0_inRows_27 : decode cX0_inRows 27 = .ok (.getfield 23, 3) := by decide +kernel
theorem dX0_inRows_30 : decode cX0_inRows 30 = .ok (.iload 4, 2) := by decide +kernel
theorem dX0_inRows_32 : decode cX0_inRows 32 = .ok (.iaload, 1) := by decide +kernel
theorem dX0_inRows_33 : decode cX0_inRows 33 = .ok (.iload_n 2, 1) := by decide +kernel
theorem dX0_inRows_34 : decode cX0_inRows 34 = .ok (.if_icmp .gt 7, 3) := by decide +kernel
theorem dX0_inRows_37 : decode cX0_inRows 37 = .ok (.iconst 1, 1) := by decide +kernel
theorem dX0_inRows_38 : decode cX0_inRows 38 = .ok (.goto 4, 3) := by decide +kernel
theorem dX0_inRows_41 : decode cX0_inRows 41 = .ok (.iconst 0, 1) := by decide +kernel
theorem dX0_inRows_42 : decode cX0_inRows 42 = .ok (.iadd, 1) := by decide +kernel
theorem dX0_inRows_43 : decode cX0_inRows 43 = .ok (.istore_n 3, 1) := by decide +kernel
theorem dX0_inRows_44 : decode cX0_inRows 44 = .ok (.iinc 4 1, 3) := by decide +kernel
theorem dX0_inRows_47 : decode cX0_inRows 47 = .ok (.goto (-42), 3) := by decide +kernel
theorem dX0_inRows_50 : decode cX0_inRows 50 = .ok (.iload_n 3, 1) := by decide +kernel
theorem dX0_inRows_51 : decode cX0_inRows 51 = .ok (.ireturn, 1) := by decide +kernel
theorem dX0_amountOn_0 : decode cX0_amountOn 0 = .ok (.iconst 0, 1) := by decide +kernel
theorem dX0_amountOn_1 : decode cX0_amountOn 1 = .ok (.istore_n 3, 1) := by decide +kernel
theorem dX0_amountOn_2 : decode cX0_amountOn 2 = .ok (.iconst 0, 1) := by decide +kernel
theorem dX0_amountOn_3 : decode cX0_amountOn 3 = .ok (.istore 4, 2) := by decide +kernel
theorem dX0_amountOn_5 : decode cX0_amountOn 5 = .ok (.iload 4, 2) := by decide +kernel
theorem dX0_amountOn_7 : decode cX0_amountOn 7 = .ok (.aload_n 0, 1) := by decide +kernel
theorem dX0_amountOn_8 : decode cX0_amountOn 8 = .ok (.getfield 7, 3) := by decide +kernel
theorem dX0_amountOn_11 : decode cX0_amountOn 11 = .ok (.if_icmp .ge 45, 3) := by decide +kernel
theorem dX0_amountOn_14 : decode cX0_amountOn 14 = .ok (.iload_n 3, 1) := by decide +kernel
theorem dX0_amountOn_15 : decode cX0_amountOn 15 = .ok (.aload_n 0, 1) := by decide +kernel
theorem dX0_amountOn_16 : decode cX0_amountOn 16 = .ok (.getfield 19, 3) := by decide +kernel
theorem dX0_amountOn_19 : decode cX0_amountOn 19 = .ok (.iload 4, 2) := by decide +kernel
theorem dX0_amountOn_21 : decode cX0_amountOn 21 = .ok (.iaload, 1) := by decide +kernel
theorem dX0_amountOn_22 : decode cX0_amountOn 22 = .ok (.iload_n 1, 1) := by decide +kernel
theorem dX0_amountOn_23 : decode cX0_amountOn 23 = .ok (.if_icmp .ne 24, 3) := by decide +kernel
theorem dX0_amountOn_26 : decode cX0_amountOn 26 = .ok (.aload_n 0, 1) := by decide +kernel
theorem dX0_amountOn_27 : decode cX0_amountOn 27 = .ok (.getfield 23, 3) := by decide +kernel
theorem dX0_amountOn_30 : decode cX0_amountOn 30 = .ok (.iload 4, 2) := by decide +kernel
theorem dX0_amountOn_32 : decode cX0_amountOn 32 = .ok (.iaload, 1) := by decide +kernel
theorem dX0_amountOn_33 : decode cX0_amountOn 33 = .ok (.iload_n 2, 1) := by decide +kernel
theorem dX0_amountOn_34 : decode cX0_amountOn 34 = .ok (.if_icmp .ne 13, 3) := by decide +kernel
theorem dX0_amountOn_37 : decode cX0_amountOn 37 = .ok (.aload_n 0, 1) := by decide +kernel
theorem dX0_amountOn_38 : decode cX0_amountOn 38 = .ok (.getfield 26, 3) := by decide +kernel
theorem dX0_amountOn_41 : decode cX0_amountOn 41 = .ok (.iload 4, 2) := by decide +kernel
theorem dX0_amountOn_43 : decode cX0_amountOn 43 = .ok (.iaload, 1) := by decide +kernel
theorem dX0_amountOn_44 : decode cX0_amountOn 44 = .ok (.goto 4, 3) := by decide +kernel
theorem dX0_amountOn_47 : decode cX0_amountOn 47 = .ok (.iconst 0, 1) := by decide +kernel
theorem dX0_amountOn_48 : decode cX0_amountOn 48 = .ok (.iadd, 1) := by decide +kernel
theorem dX0_amountOn_49 : decode cX0_amountOn 49 = .ok (.istore_n 3, 1) := by decide +kernel
theorem dX0_amountOn_50 : decode cX0_amountOn 50 = .ok (.iinc 4 1, 3) := by decide +kernel
theorem dX0_amountOn_53 : decode cX0_amountOn 53 = .ok (.goto (-48), 3) := by decide +kernel
theorem dX0_amountOn_56 : decode cX0_amountOn 56 = .ok (.iload_n 3, 1) := by decide +kernel
theorem dX0_amountOn_57 : decode cX0_amountOn 57 = .ok (.ireturn, 1) := by decide +kernel
theorem dX0_amountBelow_0 : decode cX0_amountBelow 0 = .ok (.iconst 0, 1) := by decide +kernel
theorem dX0_amountBelow_1 : decode cX0_amountBelow 1 = .ok (.istore_n 2, 1) := by decide +kernel
theorem dX0_amountBelow_2 : decode cX0_amountBelow 2 = .ok (.iconst 0, 1) := by decide +kernel
theorem dX0_amountBelow_3 : decode cX0_amountBelow 3 = .ok (.istore_n 3, 1) := by decide +kernel
theorem dX0_amountBelow_4 : decode cX0_amountBelow 4 = .ok (.iload_n 3, 1) := by decide +kernel
theorem dX0_amountBelow_5 : decode cX0_amountBelow 5 = .ok (.aload_n 0, 1) := by decide +kernel
theorem dX0_amountBelow_6 : decode cX0_amountBelow 6 = .ok (.getfield 7, 3) := by decide +kernel
theorem dX0_amountBelow_9 : decode cX0_amountBelow 9 = .ok (.if_icmp .ge 32, 3) := by decide +kernel
theorem dX0_amountBelow_12 : decode cX0_amountBelow 12 = .ok (.iload_n 2, 1) := by decide +kernel
theorem dX0_amountBelow_13 : decode cX0_amountBelow 13 = .ok (.aload_n 0, 1) := by decide +kernel
theorem dX0_amountBelow_14 : decode cX0_amountBelow 14 = .ok (.getfield 23, 3) := by decide +kernel
theorem dX0_amountBelow_17 : decode cX0_amountBelow 17 = .ok (.iload_n 3, 1) := by decide +kernel
theorem dX0_amountBelow_18 : decode cX0_amountBelow 18 = .ok (.iaload, 1) := by decide +kernel
theorem dX0_amountBelow_19 : decode cX0_amountBelow 19 = .ok (.iload_n 1, 1) := by decide +kernel
theorem dX0_amountBelow_20 : decode cX0_amountBelow 20 = .ok (.if_icmp .ge 12, 3) := by decide +kernel
theorem dX0_amountBelow_23 : decode cX0_amountBelow 23 = .ok (.aload_n 0, 1) := by decide +kernel
theorem dX0_amountBelow_24 : decode cX0_amountBelow 24 = .ok (.getfield 26, 3) := by decide +kernel
theorem dX0_amountBelow_27 : decode cX0_amountBelow 27 = .ok (.iload_n 3, 1) := by decide +kernel
theorem dX0_amountBelow_28 : decode cX0_amountBelow 28 = .ok (.iaload, 1) := by decide +kernel
theorem dX0_amountBelow_29 : decode cX0_amountBelow 29 = .ok (.goto 4, 3) := by decide +kernel
theorem dX0_amountBelow_32 : decode cX0_amountBelow 32 = .ok (.iconst 0, 1) := by decide +kernel
theorem dX0_amountBelow_33 : decode cX0_amountBelow 33 = .ok (.iadd, 1) := by decide +kernel
theorem dX0_amountBelow_34 : decode cX0_amountBelow 34 = .ok (.istore_n 2, 1) := by decide +kernel
theorem dX0_amountBelow_35 : decode cX0_amountBelow 35 = .ok (.iinc 3 1, 3) := by decide +kernel
theorem dX0_amountBelow_38 : decode cX0_amountBelow 38 = .ok (.goto (-34), 3) := by decide +kernel
theorem dX0_amountBelow_41 : decode cX0_amountBelow 41 = .ok (.iload_n 2, 1) := by decide +kernel
theorem dX0_amountBelow_42 : decode cX0_amountBelow 42 = .ok (.ireturn, 1) := by decide +kernel
theorem dX1_init_0 : decode cX1_init 0 = .ok (.aload_n 0, 1) := by decide +kernel
theorem dX1_init_1 : decode cX1_init 1 = .ok (.invokespecial 3, 3) := by decide +kernel
theorem dX1_init_4 : decode cX1_init 4 = .ok (.aload_n 0, 1) := by decide +kernel
theorem dX1_init_5 : decode cX1_init 5 = .ok (.bipush 10, 2) := by decide +kernel
theorem dX1_init_7 : decode cX1_init 7 = .ok (.newarray .int, 2) := by decide +kernel
theorem dX1_init_9 : decode cX1_init 9 = .ok (.putfield 9, 3) := by decide +kernel
theorem dX1_init_12 : decode cX1_init 12 = .ok (.aload_n 0, 1) := by decide +kernel
theorem dX1_init_13 : decode cX1_init 13 = .ok (.bipush 10, 2) := by decide +kernel
theorem dX1_init_15 : decode cX1_init 15 = .ok (.newarray .int, 2) := by decide +kernel
theorem dX1_init_17 : decode cX1_init 17 = .ok (.putfield 15, 3) := by decide +kernel
theorem dX1_init_20 : decode cX1_init 20 = .ok (.aload_n 0, 1) := by decide +kernel
theorem dX1_init_21 : decode cX1_init 21 = .ok (.iconst 0, 1) := by decide +kernel
theorem dX1_init_22 : decode cX1_init 22 = .ok (.putfield 18, 3) := by decide +kernel
theorem dX1_init_25 : decode cX1_init 25 = .ok (.return_, 1) := by decide +kernel
theorem dX1_add_0 : decode cX1_add 0 = .ok (.aload_n 0, 1) := by decide +kernel
theorem dX1_add_1 : decode cX1_add 1 = .ok (.getfield 18, 3) := by decide +kernel
theorem dX1_add_4 : decode cX1_add 4 = .ok (.bipush 10, 2) := by decide +kernel
theorem dX1_add_6 : decode cX1_add 6 = .ok (.if_icmp .lt 5, 3) := by decide +kernel
theorem dX1_add_9 : decode cX1_add 9 = .ok (.iconst 0, 1) := by decide +kernel
theorem dX1_add_10 : decode cX1_add 10 = .ok (.ireturn, 1) := by decide +kernel
theorem dX1_add_11 : decode cX1_add 11 = .ok (.aload_n 0, 1) := by decide +kernel
theorem dX1_add_12 : decode cX1_add 12 = .ok (.getfield 9, 3) := by decide +kernel
theorem dX1_add_15 : decode cX1_add 15 = .ok (.aload_n 0, 1) := by decide +kernel
theorem dX1_add_16 : decode cX1_add 16 = .ok (.getfield 18, 3) := by decide +kernel
theorem dX1_add_19 : decode cX1_add 19 = .ok (.iload_n 1, 1) := by decide +kernel
theorem dX1_add_20 : decode cX1_add 20 = .ok (.iastore, 1) := by decide +kernel
theorem dX1_add_21 : decode cX1_add 21 = .ok (.aload_n 0, 1) := by decide +kernel
theorem dX1_add_22 : decode cX1_add 22 = .ok (.getfield 15, 3) := by decide +kernel
theorem dX1_add_25 : decode cX1_add 25 = .ok (.aload_n 0, 1) := by decide +kernel
theorem dX1_add_26 : decode cX1_add 26 = .ok (.getfield 18, 3) := by decide +kernel
theorem dX1_add_29 : decode cX1_add 29 = .ok (.iload_n 2, 1) := by decide +kernel
theorem dX1_add_30 : decode cX1_add 30 = .ok (.iastore, 1) := by decide +kernel
theorem dX1_add_31 : decode cX1_add 31 = .ok (.aload_n 0, 1) := by decide +kernel
theorem dX1_add_32 : decode cX1_add 32 = .ok (.dup, 1) := by decide +kernel
theorem dX1_add_33 : decode cX1_add 33 = .ok (.getfield 18, 3) := by decide +kernel
theorem dX1_add_36 : decode cX1_add 36 = .ok (.iconst 1, 1) := by decide +kernel
theorem dX1_add_37 : decode cX1_add 37 = .ok (.iadd, 1) := by decide +kernel
theorem dX1_add_38 : decode cX1_add 38 = .ok (.putfield 18, 3) := by decide +kernel
theorem dX1_add_41 : decode cX1_add 41 = .ok (.iconst 1, 1) := by decide +kernel
theorem dX1_add_42 : decode cX1_add 42 = .ok (.ireturn, 1) := by decide +kernel
theorem dX1_apart_0 : decode cX1_apart 0 = .ok (.iconst 0, 1) := by decide +kernel
theorem dX1_apart_1 : decode cX1_apart 1 = .ok (.istore_n 3, 1) := by decide +kernel
theorem dX1_apart_2 : decode cX1_apart 2 = .ok (.iconst 0, 1) := by decide +kernel
theorem dX1_apart_3 : decode cX1_apart 3 = .ok (.istore 4, 2) := by decide +kernel
theorem dX1_apart_5 : decode cX1_apart 5 = .ok (.iload 4, 2) := by decide +kernel
theorem dX1_apart_7 : decode cX1_apart 7 = .ok (.aload_n 0, 1) := by decide +kernel
theorem dX1_apart_8 : decode cX1_apart 8 = .ok (.getfield 18, 3) := by decide +kernel
theorem dX1_apart_11 : decode cX1_apart 11 = .ok (.if_icmp .ge 96, 3) := by decide +kernel
theorem dX1_apart_14 : decode cX1_apart 14 = .ok (.aload_n 0, 1) := by decide +kernel
theorem dX1_apart_15 : decode cX1_apart 15 = .ok (.getfield 9, 3) := by decide +kernel
theorem dX1_apart_18 : decode cX1_apart 18 = .ok (.iload 4, 2) := by decide +kernel
theorem dX1_apart_20 : decode cX1_apart 20 = .ok (.iaload, 1) := by decide +kernel
theorem dX1_apart_21 : decode cX1_apart 21 = .ok (.istore 5, 2) := by decide +kernel
theorem dX1_apart_23 : decode cX1_apart 23 = .ok (.aload_n 0, 1) := by decide +kernel
theorem dX1_apart_24 : decode cX1_apart 24 = .ok (.getfield 15, 3) := by decide +kernel
theorem dX1_apart_27 : decode cX1_apart 27 = .ok (.iload 4, 2) := by decide +kernel
theorem dX1_apart_29 : decode cX1_apart 29 = .ok (.iaload, 1) := by decide +kernel
theorem dX1_apart_30 : decode cX1_apart 30 = .ok (.istore 6, 2) := by decide +kernel
theorem dX1_apart_32 : decode cX1_apart 32 = .ok (.iload 5, 2) := by decide +kernel
theorem dX1_apart_34 : decode cX1_apart 34 = .ok (.aload_n 1, 1) := by decide +kernel
theorem dX1_apart_35 : decode cX1_apart 35 = .ok (.getfield 22, 3) := by decide +kernel
theorem dX1_apart_38 : decode cX1_apart 38 = .ok (.if_icmp .ge 63, 3) := by decide +kernel
theorem dX1_apart_41 : decode cX1_apart 41 = .ok (.iload 6, 2) := by decide +kernel
theorem dX1_apart_43 : decode cX1_apart 43 = .ok (.aload_n 1, 1) := by decide +kernel
theorem dX1_apart_44 : decode cX1_apart 44 = .ok (.getfield 22, 3) := by decide +kernel
theorem dX1_apart_47 : decode cX1_apart 47 = .ok (.if_icmp .ge 54, 3) := by decide +kernel
theorem dX1_apart_50 : decode cX1_apart 50 = .ok (.aload_n 1, 1) := by decide +kernel
theorem dX1_apart_51 : decode cX1_apart 51 = .ok (.getfield 25, 3) := by decide +kernel
theorem dX1_apart_54 : decode cX1_apart 54 = .ok (.iload 5, 2) := by decide +kernel
theorem dX1_apart_56 : decode cX1_apart 56 = .ok (.iaload, 1) := by decide +kernel
theorem dX1_apart_57 : decode cX1_apart 57 = .ok (.aload_n 1, 1) := by decide +kernel
theorem dX1_apart_58 : decode cX1_apart 58 = .ok (.getfield 25, 3) := by decide +kernel
theorem dX1_apart_61 : decode cX1_apart 61 = .ok (.iload 6, 2) := by decide +kernel
theorem dX1_apart_63 : decode cX1_apart 63 = .ok (.iaload, 1) := by decide +kernel
theorem dX1_apart_64 : decode cX1_apart 64 = .ok (.isub, 1) := by decide +kernel
theorem dX1_apart_65 : decode cX1_apart 65 = .ok (.invokestatic 28, 3) := by decide +kernel
theorem dX1_apart_68 : decode cX1_apart 68 = .ok (.istore 7, 2) := by decide +kernel
theorem dX1_apart_70 : decode cX1_apart 70 = .ok (.aload_n 2, 1) := by decide +kernel
theorem dX1_apart_71 : decode cX1_apart 71 = .ok (.iload 5, 2) := by decide +kernel
theorem dX1_apart_73 : decode cX1_apart 73 = .ok (.iaload, 1) := by decide +kernel
theorem dX1_apart_74 : decode cX1_apart 74 = .ok (.aload_n 2, 1) := by decide +kernel
theorem dX1_apart_75 : decode cX1_apart 75 = .ok (.iload 6, 2) := by decide +kernel
theorem dX1_apart_77 : decode cX1_apart 77 = .ok (.iaload, 1) := by decide +kernel
theorem dX1_apart_78 : decode cX1_apart 78 = .ok (.isub, 1) := by decide +kernel
theorem dX1_apart_79 : decode cX1_apart 79 = .ok (.invokestatic 28, 3) := by decide +kernel
theorem dX1_apart_82 : decode cX1_apart 82 = .ok (.istore 8, 2) := by decide +kernel
theorem dX1_apart_84 : decode cX1_apart 84 = .ok (.iload_n 3, 1) := by decide +kernel
theorem dX1_apart_85 : decode cX1_apart 85 = .ok (.iload 7, 2) := by decide +kernel
theorem dX1_apart_87 : decode cX1_apart 87 = .ok (.iload 8, 2) := by decide +kernel
theorem dX1_apart_89 : decode cX1_apart 89 = .ok (.iadd, 1) := by decide +kernel
theorem dX1_apart_90 : decode cX1_apart 90 = .ok (.iconst 1, 1) := by decide +kernel
theorem dX1_apart_91 : decode cX1_apart 91 = .ok (.if_icmp .ne 7, 3) := by decide +kernel
theorem dX1_apart_94 : decode cX1_apart 94 = .ok (.iconst 0, 1) := by decide +kernel
theorem dX1_apart_95 : decode cX1_apart 95 = .ok (.goto 4, 3) := by decide +kernel
theorem dX1_apart_98 : decode cX1_apart 98 = .ok (.iconst 1, 1) := by decide +kernel
theorem dX1_apart_99 : decode cX1_apart 99 = .ok (.iadd, 1) := by decide +kernel
theorem dX1_apart_100 : decode cX1_apart 100 = .ok (.istore_n 3, 1) := by decide +kernel
theorem dX1_apart_101 : decode cX1_apart 101 = .ok (.iinc 4 1, 3) := by decide +kernel
theorem dX1_apart_104 : decode cX1_apart 104 = .ok (.goto (-99), 3) := by decide +kernel
theorem dX1_apart_107 : decode cX1_apart 107 = .ok (.iload_n 3, 1) := by decide +kernel
theorem dX1_apart_108 : decode cX1_apart 108 = .ok (.ireturn, 1) := by decide +kernel
theorem dX2_init_0 : decode cX2_init 0 = .ok (.aload_n 0, 1) := by decide +kernel
theorem dX2_init_1 : decode cX2_init 1 = .ok (.invokespecial 3, 3) := by decide +kernel
theorem dX2_init_4 : decode cX2_init 4 = .ok (.aload_n 0, 1) := by decide +kernel
theorem dX2_init_5 : decode cX2_init 5 = .ok (.bipush 52, 2) := by decide +kernel
theorem dX2_init_7 : decode cX2_init 7 = .ok (.newarray .int, 2) := by decide +kernel
theorem dX2_init_9 : decode cX2_init 9 = .ok (.putfield 9, 3) := by decide +kernel
theorem dX2_init_12 : decode cX2_init 12 = .ok (.aload_n 0, 1) := by decide +kernel
theorem dX2_init_13 : decode cX2_init 13 = .ok (.bipush 82, 2) := by decide +kernel
theorem dX2_init_15 : decode cX2_init 15 = .ok (.newarray .long, 2) := by decide +kernel
theorem dX2_init_17 : decode cX2_init 17 = .ok (.putfield 15, 3) := by decide +kernel
theorem dX2_init_20 : decode cX2_init 20 = .ok (.aload_n 0, 1) := by decide +kernel
theorem dX2_init_21 : decode cX2_init 21 = .ok (.iconst 0, 1) := by decide +kernel
theorem dX2_init_22 : decode cX2_init 22 = .ok (.putfield 19, 3) := by decide +kernel
theorem dX2_init_25 : decode cX2_init 25 = .ok (.return_, 1) := by decide +kernel
theorem dX2_footIn_0 : decode cX2_footIn 0 = .ok (.aload_n 0, 1) := by decide +kernel
theorem dX2_footIn_1 : decode cX2_footIn 1 = .ok (.getfield 19, 3) := by decide +kernel
theorem dX2_footIn_4 : decode cX2_footIn 4 = .ok (.istore_n 2, 1) := by decide +kernel
theorem dX2_footIn_5 : decode cX2_footIn 5 = .ok (.iconst 0, 1) := by decide +kernel
theorem dX2_footIn_6 : decode cX2_footIn 6 = .ok (.istore_n 3, 1) := by decide +kernel
theorem dX2_footIn_7 : decode cX2_footIn 7 = .ok (.iload_n 3, 1) := by decide +kernel
theorem dX2_footIn_8 : decode cX2_footIn 8 = .ok (.iload_n 1, 1) := by decide +kernel
theorem dX2_footIn_9 : decode cX2_footIn 9 = .ok (.if_icmp .gt 18, 3) := by decide +kernel
theorem dX2_footIn_12 : decode cX2_footIn 12 = .ok (.iload_n 2, 1) := by decide +kernel
theorem dX2_footIn_13 : decode cX2_footIn 13 = .ok (.aload_n 0, 1) := by decide +kernel
theorem dX2_footIn_14 : decode cX2_footIn 14 = .ok (.getfield 9, 3) := by decide +kernel
theorem dX2_footIn_17 : decode cX2_footIn 17 = .ok (.iload_n 3, 1) := by decide +kernel
theorem dX2_footIn_18 : decode cX2_footIn 18 = .ok (.iaload, 1) := by decide +kernel
theorem dX2_footIn_19 : decode cX2_footIn 19 = .ok (.iadd, 1) := by decide +kernel
theorem dX2_footIn_20 : decode cX2_footIn 20 = .ok (.istore_n 2, 1) := by decide +kernel
theorem dX2_footIn_21 : decode cX2_footIn 21 = .ok (.iinc 3 1, 3) := by decide +kernel
theorem dX2_footIn_24 : decode cX2_footIn 24 = .ok (.goto (-17), 3) := by decide +kernel
theorem dX2_footIn_27 : decode cX2_footIn 27 = .ok (.iload_n 2, 1) := by decide +kernel
theorem dX2_footIn_28 : decode cX2_footIn 28 = .ok (.ireturn, 1) := by decide +kernel
theorem dX2_spread_0 : decode cX2_spread 0 = .ok (.aload_n 0, 1) := by decide +kernel
theorem dX2_spread_1 : decode cX2_spread 1 = .ok (.getfield 15, 3) := by decide +kernel
theorem dX2_spread_4 : decode cX2_spread 4 = .ok (.lconst 0, 1) := by decide +kernel
theorem dX2_spread_5 : decode cX2_spread 5 = .ok (.invokestatic 23, 3) := by decide +kernel
theorem dX2_spread_8 : decode cX2_spread 8 = .ok (.aload_n 0, 1) := by decide +kernel
theorem dX2_spread_9 : decode cX2_spread 9 = .ok (.getfield 15, 3) := by decide +kernel
theorem dX2_spread_12 : decode cX2_spread 12 = .ok (.iconst 0, 1) := by decide +kernel
theorem dX2_spread_13 : decode cX2_spread 13 = .ok (.lconst 1, 1) := by decide +kernel
theorem dX2_spread_14 : decode cX2_spread 14 = .ok (.lastore, 1) := by decide +kernel
theorem dX2_spread_15 : decode cX2_spread 15 = .ok (.iconst 0, 1) := by decide +kernel
theorem dX2_spread_16 : decode cX2_spread 16 = .ok (.istore_n 3, 1) := by decide +kernel
theorem dX2_spread_17 : decode cX2_spread 17 = .ok (.iload_n 3, 1) := by decide +kernel
theorem dX2_spread_18 : decode cX2_spread 18 = .ok (.iload_n 2, 1) := by decide +kernel
theorem dX2_spread_19 : decode cX2_spread 19 = .ok (.if_icmp .ge 70, 3) := by decide +kernel
theorem dX2_spread_22 : decode cX2_spread 22 = .ok (.bipush 81, 2) := by decide +kernel
theorem dX2_spread_24 : decode cX2_spread 24 = .ok (.istore 4, 2) := by decide +kernel
theorem dX2_spread_26 : decode cX2_spread 26 = .ok (.iload 4, 2) := by decide +kernel
theorem dX2_spread_28 : decode cX2_spread 28 = .ok (.ifCond .le 55, 3) := by decide +kernel
theorem dX2_spread_31 : decode cX2_spread 31 = .ok (.iconst 0, 1) := by decide +kernel
theorem dX2_spread_32 : decode cX2_spread 32 = .ok (.iload 4, 2) := by decide +kernel
theorem dX2_spread_34 : decode cX2_spread 34 = .ok (.iload_n 1, 1) := by decide +kernel
theorem dX2_spread_35 : decode cX2_spread 35 = .ok (.isub, 1) := by decide +kernel
theorem dX2_spread_36 : decode cX2_spread 36 = .ok (.invokestatic 29, 3) := by decide +kernel
theorem dX2_spread_39 : decode cX2_spread 39 = .ok (.istore 5, 2) := by decide +kernel
theorem dX2_spread_41 : decode cX2_spread 41 = .ok (.iload 4, 2) := by decide +kernel
theorem dX2_spread_43 : decode cX2_spread 43 = .ok (.iconst 1, 1) := by decide +kernel
theorem dX2_spread_44 : decode cX2_spread 44 = .ok (.isub, 1) := by decide +kernel
theorem dX2_spread_45 : decode cX2_spread 45 = .ok (.istore 6, 2) := by decide +kernel
theorem dX2_spread_47 : decode cX2_spread 47 = .ok (.iload 6, 2) := by decide +kernel
theorem dX2_spread_49 : decode cX2_spread 49 = .ok (.iload 5, 2) := by decide +kernel
theorem dX2_spread_51 : decode cX2_spread 51 = .ok (.if_icmp .lt 26, 3) := by decide +kernel
theorem dX2_spread_54 : decode cX2_spread 54 = .ok (.aload_n 0, 1) := by decide +kernel
theorem dX2_spread_55 : decode cX2_spread 55 = .ok (.getfield 15, 3) := by decide +kernel
theorem dX2_spread_58 : decode cX2_spread 58 = .ok (.iload 4, 2) := by decide +kernel
theorem dX2_spread_60 : decode cX2_spread 60 = .ok (.dup2, 1) := by decide +kernel
theorem dX2_spread_61 : decode cX2_spread 61 = .ok (.laload, 1) := by decide +kernel
theorem dX2_spread_62 : decode cX2_spread 62 = .ok (.aload_n 0, 1) := by decide +kernel
theorem dX2_spread_63 : decode cX2_spread 63 = .ok (.getfield 15, 3) := by decide +kernel
theorem dX2_spread_66 : decode cX2_spread 66 = .ok (.iload 6, 2) := by decide +kernel
theorem dX2_spread_68 : decode cX2_spread 68 = .ok (.laload, 1) := by decide +kernel
theorem dX2_spread_69 : decode cX2_spread 69 = .ok (.ladd, 1) := by decide +kernel
theorem dX2_spread_70 : decode cX2_spread 70 = .ok (.lastore, 1) := by decide +kernel
theorem dX2_spread_71 : decode cX2_spread 71 = .ok (.iinc 6 (-1), 3) := by decide +kernel
theorem dX2_spread_74 : decode cX2_spread 74 = .ok (.goto (-27), 3) := by decide +kernel
theorem dX2_spread_77 : decode cX2_spread 77 = .ok (.iinc 4 (-1), 3) := by decide +kernel
theorem dX2_spread_80 : decode cX2_spread 80 = .ok (.goto (-54), 3) := by decide +kernel
theorem dX2_spread_83 : decode cX2_spread 83 = .ok (.iinc 3 1, 3) := by decide +kernel
theorem dX2_spread_86 : decode cX2_spread 86 = .ok (.goto (-69), 3) := by decide +kernel
theorem dX2_spread_89 : decode cX2_spread 89 = .ok (.return_, 1) := by decide +kernel
theorem dX2_waysOver_0 : decode cX2_waysOver 0 = .ok (.lconst 0, 1) := by decide +kernel
theorem dX2_waysOver_1 : decode cX2_waysOver 1 = .ok (.lstore_n 2, 1) := by decide +kernel
theorem dX2_waysOver_2 : decode cX2_waysOver 2 = .ok (.iconst 0, 1) := by decide +kernel
theorem dX2_waysOver_3 : decode cX2_waysOver 3 = .ok (.istore 4, 2) := by decide +kernel
theorem dX2_waysOver_5 : decode cX2_waysOver 5 = .ok (.iload 4, 2) := by decide +kernel
theorem dX2_waysOver_7 : decode cX2_waysOver 7 = .ok (.bipush 82, 2) := by decide +kernel
theorem dX2_waysOver_9 : decode cX2_waysOver 9 = .ok (.if_icmp .ge 30, 3) := by decide +kernel
theorem dX2_waysOver_12 : decode cX2_waysOver 12 = .ok (.aload_n 0, 1) := by decide +kernel
theorem dX2_waysOver_13 : decode cX2_waysOver 13 = .ok (.getfield 19, 3) := by decide +kernel
theorem dX2_waysOver_16 : decode cX2_waysOver 16 = .ok (.iload 4, 2) := by decide +kernel
theorem dX2_waysOver_18 : decode cX2_waysOver 18 = .ok (.iadd, 1) := by decide +kernel
theorem dX2_waysOver_19 : decode cX2_waysOver 19 = .ok (.iload_n 1, 1) := by decide +kernel
theorem dX2_waysOver_20 : decode cX2_waysOver 20 = .ok (.if_icmp .le 13, 3) := by decide +kernel
theorem dX2_waysOver_23 : decode cX2_waysOver 23 = .ok (.lload_n 2, 1) := by decide +kernel
theorem dX2_waysOver_24 : decode cX2_waysOver 24 = .ok (.aload_n 0, 1) := by decide +kernel
theorem dX2_waysOver_25 : decode cX2_waysOver 25 = .ok (.getfield 15, 3) := by decide +kernel
theorem dX2_waysOver_28 : decode cX2_waysOver 28 = .ok (.iload 4, 2) := by decide +kernel
theorem dX2_waysOver_30 : decode cX2_waysOver 30 = .ok (.laload, 1) := by decide +kernel
theorem dX2_waysOver_31 : decode cX2_waysOver 31 = .ok (.ladd, 1) := by decide +kernel
theorem dX2_waysOver_32 : decode cX2_waysOver 32 = .ok (.lstore_n 2, 1) := by decide +kernel
theorem dX2_waysOver_33 : decode cX2_waysOver 33 = .ok (.iinc 4 1, 3) := by decide +kernel
theorem dX2_waysOver_36 : decode cX2_waysOver 36 = .ok (.goto (-31), 3) := by decide +kernel
theorem dX2_waysOver_39 : decode cX2_waysOver 39 = .ok (.lload_n 2, 1) := by decide +kernel
theorem dX2_waysOver_40 : decode cX2_waysOver 40 = .ok (.lreturn, 1) := by decide +kernel
theorem dX3_init_0 : decode cX3_init 0 = .ok (.aload_n 0, 1) := by decide +kernel
theorem dX3_init_1 : decode cX3_init 1 = .ok (.invokespecial 3, 3) := by decide +kernel
theorem dX3_init_4 : decode cX3_init 4 = .ok (.aload_n 0, 1) := by decide +kernel
theorem dX3_init_5 : decode cX3_init 5 = .ok (.bipush 60, 2) := by decide +kernel
theorem dX3_init_7 : decode cX3_init 7 = .ok (.newarray .int, 2) := by decide +kernel
theorem dX3_init_9 : decode cX3_init 9 = .ok (.putfield 9, 3) := by decide +kernel
theorem dX3_init_12 : decode cX3_init 12 = .ok (.aload_n 0, 1) := by decide +kernel
theorem dX3_init_13 : decode cX3_init 13 = .ok (.iconst 1, 1) := by decide +kernel
theorem dX3_init_14 : decode cX3_init 14 = .ok (.putfield 15, 3) := by decide +kernel
theorem dX3_init_17 : decode cX3_init 17 = .ok (.aload_n 0, 1) := by decide +kernel
theorem dX3_init_18 : decode cX3_init 18 = .ok (.iconst 0, 1) := by decide +kernel
theorem dX3_init_19 : decode cX3_init 19 = .ok (.putfield 19, 3) := by decide +kernel
theorem dX3_init_22 : decode cX3_init 22 = .ok (.aload_n 0, 1) := by decide +kernel
theorem dX3_init_23 : decode cX3_init 23 = .ok (.iconst 0, 1) := by decide +kernel
theorem dX3_init_24 : decode cX3_init 24 = .ok (.putfield 23, 3) := by decide +kernel
theorem dX3_init_27 : decode cX3_init 27 = .ok (.return_, 1) := by decide +kernel
theorem dX3_renew_0 : decode cX3_renew 0 = .ok (.aload_n 0, 1) := by decide +kernel
theorem dX3_renew_1 : decode cX3_renew 1 = .ok (.getfield 9, 3) := by decide +kernel
theorem dX3_renew_4 : decode cX3_renew 4 = .ok (.iconst 0, 1) := by decide +kernel
theorem dX3_renew_5 : decode cX3_renew 5 = .ok (.invokestatic 26, 3) := by decide +kernel
theorem dX3_renew_8 : decode cX3_renew 8 = .ok (.aload_n 0, 1) := by decide +kernel
theorem dX3_renew_9 : decode cX3_renew 9 = .ok (.iconst 0, 1) := by decide +kernel
theorem dX3_renew_10 : decode cX3_renew 10 = .ok (.putfield 15, 3) := by decide +kernel
theorem dX3_renew_13 : decode cX3_renew 13 = .ok (.aload_n 0, 1) := by decide +kernel
theorem dX3_renew_14 : decode cX3_renew 14 = .ok (.iload_n 1, 1) := by decide +kernel
theorem dX3_renew_15 : decode cX3_renew 15 = .ok (.putfield 19, 3) := by decide +kernel
theorem dX3_renew_18 : decode cX3_renew 18 = .ok (.aload_n 0, 1) := by decide +kernel
theorem dX3_renew_19 : decode cX3_renew 19 = .ok (.iload_n 2, 1) := by decide +kernel
theorem dX3_renew_20 : decode cX3_renew 20 = .ok (.putfield 23, 3) := by decide +kernel
theorem dX3_renew_23 : decode cX3_renew 23 = .ok (.return_, 1) := by decide +kernel
theorem dX3_amissAt_0 : decode cX3_amissAt 0 = .ok (.aload_n 0, 1) := by decide +kernel
theorem dX3_amissAt_1 : decode cX3_amissAt 1 = .ok (.getfield 15, 3) := by decide +kernel
theorem dX3_amissAt_4 : decode cX3_amissAt 4 = .ok (.ifCond .eq 5, 3) := by decide +kernel
theorem dX3_amissAt_7 : decode cX3_amissAt 7 = .ok (.iconst 1, 1) := by decide +kernel
theorem dX3_amissAt_8 : decode cX3_amissAt 8 = .ok (.ireturn, 1) := by decide +kernel
theorem dX3_amissAt_9 : decode cX3_amissAt 9 = .ok (.iload_n 1, 1) := by decide +kernel
theorem dX3_amissAt_10 : decode cX3_amissAt 10 = .ok (.aload_n 0, 1) := by decide +kernel
theorem dX3_amissAt_11 : decode cX3_amissAt 11 = .ok (.getfield 19, 3) := by decide +kernel
theorem dX3_amissAt_14 : decode cX3_amissAt 14 = .ok (.if_icmp .eq 5, 3) := by decide +kernel
theorem dX3_amissAt_17 : decode cX3_amissAt 17 = .ok (.iconst 3, 1) := by decide +kernel
theorem dX3_amissAt_18 : decode cX3_amissAt 18 = .ok (.ireturn, 1) := by decide +kernel
theorem dX3_amissAt_19 : decode cX3_amissAt 19 = .ok (.iload_n 2, 1) := by decide +kernel
theorem dX3_amissAt_20 : decode cX3_amissAt 20 = .ok (.ifCond .lt 11, 3) := by decide +kernel
theorem dX3_amissAt_23 : decode cX3_amissAt 23 = .ok (.iload_n 2, 1) := by decide +kernel
theorem dX3_amissAt_24 : decode cX3_amissAt 24 = .ok (.aload_n 0, 1) := by decide +kernel
theorem dX3_amissAt_25 : decode cX3_amissAt 25 = .ok (.getfield 23, 3) := by decide +kernel
theorem dX3_amissAt_28 : decode cX3_amissAt 28 = .ok (.if_icmp .lt 7, 3) := by decide +kernel
theorem dX3_amissAt_31 : decode cX3_amissAt 31 = .ok (.iconst 2, 1) := by decide +kernel
theorem dX3_amissAt_32 : decode cX3_amissAt 32 = .ok (.goto 4, 3) := by decide +kernel
theorem dX3_amissAt_35 : decode cX3_amissAt 35 = .ok (.iconst 0, 1) := by decide +kernel
theorem dX3_amissAt_36 : decode cX3_amissAt 36 = .ok (.ireturn, 1) := by decide +kernel
theorem dX3_hasRange_0 : decode cX3_hasRange 0 = .ok (.iload_n 1, 1) := by decide +kernel
theorem dX3_hasRange_1 : decode cX3_hasRange 1 = .ok (.ifCond .lt 29, 3) := by decide +kernel
theorem dX3_hasRange_4 : decode cX3_hasRange 4 = .ok (.iload_n 2, 1) := by decide +kernel
theorem dX3_hasRange_5 : decode cX3_hasRange 5 = .ok (.ifCond .lt 25, 3) := by decide +kernel
theorem dX3_hasRange_8 : decode cX3_hasRange 8 = .ok (.iload_n 1, 1) := by decide +kernel
theorem dX3_hasRange_9 : decode cX3_hasRange 9 = .ok (.aload_n 0, 1) := by decide +kernel
theorem dX3_hasRange_10 : decode cX3_hasRange 10 = .ok (.getfield 23, 3) := by decide +kernel
theorem dX3_hasRange_13 : decode cX3_hasRange 13 = .ok (.if_icmp .gt 17, 3) := by decide +kernel
theorem dX3_hasRange_16 : decode cX3_hasRange 16 = .ok (.iload_n 2, 1) := by decide +kernel
theorem dX3_hasRange_17 : decode cX3_hasRange 17 = .ok (.aload_n 0, 1) := by decide +kernel
theorem dX3_hasRange_18 : decode cX3_hasRange 18 = .ok (.getfield 23, 3) := by decide +kernel
theorem dX3_hasRange_21 : decode cX3_hasRange 21 = .ok (.iload_n 1, 1) := by decide +kernel
theorem dX3_hasRange_22 : decode cX3_hasRange 22 = .ok (.isub, 1) := by decide +kernel
theorem dX3_hasRange_23 : decode cX3_hasRange 23 = .ok (.if_icmp .gt 7, 3) := by decide +kernel
theorem dX3_hasRange_26 : decode cX3_hasRange 26 = .ok (.iconst 1, 1) := by decide +kernel
theorem dX3_hasRange_27 : decode cX3_hasRange 27 = .ok (.goto 4, 3) := by decide +kernel
theorem dX3_hasRange_30 : decode cX3_hasRange 30 = .ok (.iconst 0, 1) := by decide +kernel
theorem dX3_hasRange_31 : decode cX3_hasRange 31 = .ok (.ireturn, 1) := by decide +kernel
theorem dX3_keep_0 : decode cX3_keep 0 = .ok (.aload_n 0, 1) := by decide +kernel
theorem dX3_keep_1 : decode cX3_keep 1 = .ok (.getfield 9, 3) := by decide +kernel
theorem dX3_keep_4 : decode cX3_keep 4 = .ok (.iload_n 1, 1) := by decide +kernel
theorem dX3_keep_5 : decode cX3_keep 5 = .ok (.aload_n 0, 1) := by decide +kernel
theorem dX3_keep_6 : decode cX3_keep 6 = .ok (.getfield 19, 3) := by decide +kernel
theorem dX3_keep_9 : decode cX3_keep 9 = .ok (.ifCond .ne 8, 3) := by decide +kernel
theorem dX3_keep_12 : decode cX3_keep 12 = .ok (.iload_n 2, 1) := by decide +kernel
theorem dX3_keep_13 : decode cX3_keep 13 = .ok (.i2b, 1) := by decide +kernel
theorem dX3_keep_14 : decode cX3_keep 14 = .ok (.goto 17, 3) := by decide +kernel
theorem dX3_keep_17 : decode cX3_keep 17 = .ok (.aload_n 0, 1) := by decide +kernel
theorem dX3_keep_18 : decode cX3_keep 18 = .ok (.getfield 19, 3) := by decide +kernel
theorem dX3_keep_21 : decode cX3_keep 21 = .ok (.iconst 1, 1) := by decide +kernel
theorem dX3_keep_22 : decode cX3_keep 22 = .ok (.if_icmp .ne 8, 3) := by decide +kernel
theorem dX3_keep_25 : decode cX3_keep 25 = .ok (.iload_n 2, 1) := by decide +kernel
theorem dX3_keep_26 : decode cX3_keep 26 = .ok (.i2s, 1) := by decide +kernel
theorem dX3_keep_27 : decode cX3_keep 27 = .ok (.goto 4, 3) := by decide +kernel
theorem dX3_keep_30 : decode cX3_keep 30 = .ok (.iload_n 2, 1) := by decide +kernel
theorem dX3_keep_31 : decode cX3_keep 31 = .ok (.iastore, 1) := by decide +kernel
theorem dX3_keep_32 : decode cX3_keep 32 = .ok (.return_, 1) := by decide +kernel
theorem dX4_init_0 : decode cX4_init 0 = .ok (.aload_n 0, 1) := by decide +kernel
theorem dX4_init_1 : decode cX4_init 1 = .ok (.invokespecial 3, 3) := by decide +kernel
theorem dX4_init_4 : decode cX4_init 4 = .ok (.aload_n 0, 1) := by decide +kernel
theorem dX4_init_5 : decode cX4_init 5 = .ok (.bipush 10, 2) := by decide +kernel
theorem dX4_init_7 : decode cX4_init 7 = .ok (.newarray .int, 2) := by decide +kernel
theorem dX4_init_9 : decode cX4_init 9 = .ok (.putfield 9, 3) := by decide +kernel
theorem dX4_init_12 : decode cX4_init 12 = .ok (.aload_n 0, 1) := by decide +kernel
theorem dX4_init_13 : decode cX4_init 13 = .ok (.bipush 10, 2) := by decide +kernel
theorem dX4_init_15 : decode cX4_init 15 = .ok (.newarray .int, 2) := by decide +kernel
theorem dX4_init_17 : decode cX4_init 17 = .ok (.putfield 15, 3) := by decide +kernel
theorem dX4_init_20 : decode cX4_init 20 = .ok (.aload_n 0, 1) := by decide +kernel
theorem dX4_init_21 : decode cX4_init 21 = .ok (.iconst 0, 1) := by decide +kernel
theorem dX4_init_22 : decode cX4_init 22 = .ok (.putfield 18, 3) := by decide +kernel
theorem dX4_init_25 : decode cX4_init 25 = .ok (.return_, 1) := by decide +kernel
theorem dX4_begin_0 : decode cX4_begin 0 = .ok (.aload_n 0, 1) := by decide +kernel
theorem dX4_begin_1 : decode cX4_begin 1 = .ok (.aload_n 1, 1) := by decide +kernel
theorem dX4_begin_2 : decode cX4_begin 2 = .ok (.getfield 22, 3) := by decide +kernel
theorem dX4_begin_5 : decode cX4_begin 5 = .ok (.putfield 18, 3) := by decide +kernel
theorem dX4_begin_8 : decode cX4_begin 8 = .ok (.iconst 0, 1) := by decide +kernel
theorem dX4_begin_9 : decode cX4_begin 9 = .ok (.istore_n 2, 1) := by decide +kernel
theorem dX4_begin_10 : decode cX4_begin 10 = .ok (.iload_n 2, 1) := by decide +kernel
theorem dX4_begin_11 : decode cX4_begin 11 = .ok (.aload_n 0, 1) := by decide +kernel
theorem dX4_begin_12 : decode cX4_begin 12 = .ok (.getfield 18, 3) := by decide +kernel
theorem dX4_begin_15 : decode cX4_begin 15 = .ok (.if_icmp .ge 28, 3) := by decide +kernel
theorem dX4_begin_18 : decode cX4_begin 18 = .ok (.aload_n 0, 1) := by decide +kernel
theorem dX4_begin_19 : decode cX4_begin 19 = .ok (.getfield 9, 3) := by decide +kernel
theorem dX4_begin_22 : decode cX4_begin 22 = .ok (.iload_n 2, 1) := by decide +kernel
theorem dX4_begin_23 : decode cX4_begin 23 = .ok (.aload_n 1, 1) := by decide +kernel
theorem dX4_begin_24 : decode cX4_begin 24 = .ok (.getfield 25, 3) := by decide +kernel
theorem dX4_begin_27 : decode cX4_begin 27 = .ok (.iload_n 2, 1) := by decide +kernel
theorem dX4_begin_28 : decode cX4_begin 28 = .ok (.iaload, 1) := by decide +kernel
theorem dX4_begin_29 : decode cX4_begin 29 = .ok (.iastore, 1) := by decide +kernel
theorem dX4_begin_30 : decode cX4_begin 30 = .ok (.aload_n 0, 1) := by decide +kernel
theorem dX4_begin_31 : decode cX4_begin 31 = .ok (.getfield 15, 3) := by decide +kernel
theorem dX4_begin_34 : decode cX4_begin 34 = .ok (.iload_n 2, 1) := by decide +kernel
theorem dX4_begin_35 : decode cX4_begin 35 = .ok (.iconst 0, 1) := by decide +kernel
theorem dX4_begin_36 : decode cX4_begin 36 = .ok (.iastore, 1) := by decide +kernel
theorem dX4_begin_37 : decode cX4_begin 37 = .ok (.iinc 2 1, 3) := by decide +kernel
theorem dX4_begin_40 : decode cX4_begin 40 = .ok (.goto (-30), 3) := by decide +kernel
theorem dX4_begin_43 : decode cX4_begin 43 = .ok (.return_, 1) := by decide +kernel
theorem dX4_move_0 : decode cX4_move 0 = .ok (.aload_n 0, 1) := by decide +kernel
theorem dX4_move_1 : decode cX4_move 1 = .ok (.getfield 9, 3) := by decide +kernel
theorem dX4_move_4 : decode cX4_move 4 = .ok (.iload_n 2, 1) := by decide +kernel
theorem dX4_move_5 : decode cX4_move 5 = .ok (.iaload, 1) := by decide +kernel
theorem dX4_move_6 : decode cX4_move 6 = .ok (.istore_n 3, 1) := by decide +kernel
theorem dX4_move_7 : decode cX4_move 7 = .ok (.iconst 0, 1) := by decide +kernel
theorem dX4_move_8 : decode cX4_move 8 = .ok (.istore 4, 2) := by decide +kernel
theorem dX4_move_10 : decode cX4_move 10 = .ok (.iload 4, 2) := by decide +kernel
theorem dX4_move_12 : decode cX4_move 12 = .ok (.aload_n 0, 1) := by decide +kernel
theorem dX4_move_13 : decode cX4_move 13 = .ok (.getfield 18, 3) := by decide +kernel
theorem dX4_move_16 : decode cX4_move 16 = .ok (.if_icmp .ge 37, 3) := by decide +kernel
theorem dX4_move_19 : decode cX4_move 19 = .ok (.aload_n 1, 1) := by decide +kernel
theorem dX4_move_20 : decode cX4_move 20 = .ok (.getfield 26, 3) := by decide +kernel
theorem dX4_move_23 : decode cX4_move 23 = .ok (.iload 4, 2) := by decide +kernel
theorem dX4_move_25 : decode cX4_move 25 = .ok (.iaload, 1) := by decide +kernel
theorem dX4_move_26 : decode cX4_move 26 = .ok (.aload_n 1, 1) := by decide +kernel
theorem dX4_move_27 : decode cX4_move 27 = .ok (.getfield 26, 3) := by decide +kernel
theorem dX4_move_30 : decode cX4_move 30 = .ok (.iload_n 2, 1) := by decide +kernel
theorem dX4_move_31 : decode cX4_move 31 = .ok (.iaload, 1) := by decide +kernel
theorem dX4_move_32 : decode cX4_move 32 = .ok (.if_icmp .ne 15, 3) := by decide +kernel
theorem dX4_move_35 : decode cX4_move 35 = .ok (.iload_n 3, 1) := by decide +kernel
theorem dX4_move_36 : decode cX4_move 36 = .ok (.aload_n 0, 1) := by decide +kernel
theorem dX4_move_37 : decode cX4_move 37 = .ok (.getfield 9, 3) := by decide +kernel
theorem dX4_move_40 : decode cX4_move 40 = .ok (.iload 4, 2) := by decide +kernel
theorem dX4_move_42 : decode cX4_move 42 = .ok (.iaload, 1) := by decide +kernel
theorem dX4_move_43 : decode cX4_move 43 = .ok (.invokestatic 29, 3) := by decide +kernel
theorem dX4_move_46 : decode cX4_move 46 = .ok (.istore_n 3, 1) := by decide +kernel
theorem dX4_move_47 : decode cX4_move 47 = .ok (.iinc 4 1, 3) := by decide +kernel
theorem dX4_move_50 : decode cX4_move 50 = .ok (.goto (-40), 3) := by decide +kernel
theorem dX4_move_53 : decode cX4_move 53 = .ok (.iload_n 3, 1) := by decide +kernel
theorem dX4_move_54 : decode cX4_move 54 = .ok (.bipush 99, 2) := by decide +kernel
theorem dX4_move_56 : decode cX4_move 56 = .ok (.if_icmp .lt 6, 3) := by decide +kernel
theorem dX4_move_59 : decode cX4_move 59 = .ok (.bipush (-3), 2) := by decide +kernel
theorem dX4_move_61 : decode cX4_move 61 = .ok (.ireturn, 1) := by decide +kernel
theorem dX4_move_62 : decode cX4_move 62 = .ok (.aload_n 1, 1) := by decide +kernel
theorem dX4_move_63 : decode cX4_move 63 = .ok (.iload_n 2, 1) := by decide +kernel
theorem dX4_move_64 : decode cX4_move 64 = .ok (.aload_n 0, 1) := by decide +kernel
theorem dX4_move_65 : decode cX4_move 65 = .ok (.getfield 15, 3) := by decide +kernel
theorem dX4_move_68 : decode cX4_move 68 = .ok (.iload_n 2, 1) := by decide +kernel
theorem dX4_move_69 : decode cX4_move 69 = .ok (.iaload, 1) := by decide +kernel
theorem dX4_move_70 : decode cX4_move 70 = .ok (.invokevirtual 35, 3) := by decide +kernel
theorem dX4_move_73 : decode cX4_move 73 = .ok (.istore 4, 2) := by decide +kernel
theorem dX4_move_75 : decode cX4_move 75 = .ok (.aload_n 0, 1) := by decide +kernel
theorem dX4_move_76 : decode cX4_move 76 = .ok (.getfield 9, 3) := by decide +kernel
theorem dX4_move_79 : decode cX4_move 79 = .ok (.iload_n 2, 1) := by decide +kernel
theorem dX4_move_80 : decode cX4_move 80 = .ok (.iload_n 3, 1) := by decide +kernel
theorem dX4_move_81 : decode cX4_move 81 = .ok (.iconst 1, 1) := by decide +kernel
theorem dX4_move_82 : decode cX4_move 82 = .ok (.iadd, 1) := by decide +kernel
theorem dX4_move_83 : decode cX4_move 83 = .ok (.iastore, 1) := by decide +kernel
theorem dX4_move_84 : decode cX4_move 84 = .ok (.aload_n 0, 1) := by decide +kernel
theorem dX4_move_85 : decode cX4_move 85 = .ok (.getfield 15, 3) := by decide +kernel
theorem dX4_move_88 : decode cX4_move 88 = .ok (.iload_n 2, 1) := by decide +kernel
theorem dX4_move_89 : decode cX4_move 89 = .ok (.dup2, 1) := by decide +kernel
theorem dX4_move_90 : decode cX4_move 90 = .ok (.iaload, 1) := by decide +kernel
theorem dX4_move_91 : decode cX4_move 91 = .ok (.iconst 1, 1) := by decide +kernel
theorem dX4_move_92 : decode cX4_move 92 = .ok (.iadd, 1) := by decide +kernel
theorem dX4_move_93 : decode cX4_move 93 = .ok (.iastore, 1) := by decide +kernel
theorem dX4_move_94 : decode cX4_move 94 = .ok (.iload 4, 2) := by decide +kernel
theorem dX4_move_96 : decode cX4_move 96 = .ok (.ireturn, 1) := by decide +kernel
theorem dX4_hindmost_0 : decode cX4_hindmost 0 = .ok (.iconst (-1), 1) := by decide +kernel
theorem dX4_hindmost_1 : decode cX4_hindmost 1 = .ok (.istore_n 1, 1) := by decide +kernel
theorem dX4_hindmost_2 : decode cX4_hindmost 2 = .ok (.iconst 0, 1) := by decide +kernel
theorem dX4_hindmost_3 : decode cX4_hindmost 3 = .ok (.istore_n 2, 1) := by decide +kernel
theorem dX4_hindmost_4 : decode cX4_hindmost 4 = .ok (.iload_n 2, 1) := by decide +kernel
theorem dX4_hindmost_5 : decode cX4_hindmost 5 = .ok (.aload_n 0, 1) := by decide +kernel
theorem dX4_hindmost_6 : decode cX4_hindmost 6 = .ok (.getfield 18, 3) := by decide +kernel
theorem dX4_hindmost_9 : decode cX4_hindmost 9 = .ok (.if_icmp .ge 31, 3) := by decide +kernel
theorem dX4_hindmost_12 : decode cX4_hindmost 12 = .ok (.iload_n 1, 1) := by decide +kernel
theorem dX4_hindmost_13 : decode cX4_hindmost 13 = .ok (.iconst (-1), 1) := by decide +kernel
theorem dX4_hindmost_14 : decode cX4_hindmost 14 = .ok (.if_icmp .eq 18, 3) := by decide +kernel
theorem dX4_hindmost_17 : decode cX4_hindmost 17 = .ok (.aload_n 0, 1) := by decide +kernel
theorem dX4_hindmost_18 : decode cX4_hindmost 18 = .ok (.getfield 9, 3) := by decide +kernel
theorem dX4_hindmost_21 : decode cX4_hindmost 21 = .ok (.iload_n 2, 1) := by decide +kernel
theorem dX4_hindmost_22 : decode cX4_hindmost 22 = .ok (.iaload, 1) := by decide +kernel
theorem dX4_hindmost_23 : decode cX4_hindmost 23 = .ok (.aload_n 0, 1) := by decide +kernel
theorem dX4_hindmost_24 : decode cX4_hindmost 24 = .ok (.getfield 9, 3) := by decide +kernel
theorem dX4_hindmost_27 : decode cX4_hindmost 27 = .ok (.iload_n 1, 1) := by decide +kernel
theorem dX4_hindmost_28 : decode cX4_hindmost 28 = .ok (.iaload, 1) := by decide +kernel
theorem dX4_hindmost_29 : decode cX4_hindmost 29 = .ok (.if_icmp .ge 5, 3) := by decide +kernel
theorem dX4_hindmost_32 : decode cX4_hindmost 32 = .ok (.iload_n 2, 1) := by decide +kernel
theorem dX4_hindmost_33 : decode cX4_hindmost 33 = .ok (.istore_n 1, 1) := by decide +kernel
theorem dX4_hindmost_34 : decode cX4_hindmost 34 = .ok (.iinc 2 1, 3) := by decide +kernel
theorem dX4_hindmost_37 : decode cX4_hindmost 37 = .ok (.goto (-33), 3) := by decide +kernel
theorem dX4_hindmost_40 : decode cX4_hindmost 40 = .ok (.iload_n 1, 1) := by decide +kernel
theorem dX4_hindmost_41 : decode cX4_hindmost 41 = .ok (.ireturn, 1) := by decide +kernel
theorem dX4_greatestRow_0 : decode cX4_greatestRow 0 = .ok (.iconst (-1), 1) := by decide +kernel
theorem dX4_greatestRow_1 : decode cX4_greatestRow 1 = .ok (.istore_n 1, 1) := by decide +kernel
theorem dX4_greatestRow_2 : decode cX4_greatestRow 2 = .ok (.iconst 0, 1) := by decide +kernel
theorem dX4_greatestRow_3 : decode cX4_greatestRow 3 = .ok (.istore_n 2, 1) := by decide +kernel
theorem dX4_greatestRow_4 : decode cX4_greatestRow 4 = .ok (.iload_n 2, 1) := by decide +kernel
theorem dX4_greatestRow_5 : decode cX4_greatestRow 5 = .ok (.aload_n 0, 1) := by decide +kernel
theorem dX4_greatestRow_6 : decode cX4_greatestRow 6 = .ok (.getfield 18, 3) := by decide +kernel
theorem dX4_greatestRow_9 : decode cX4_greatestRow 9 = .ok (.if_icmp .ge 20, 3) := by decide +kernel
theorem dX4_greatestRow_12 : decode cX4_greatestRow 12 = .ok (.iload_n 1, 1) := by decide +kernel
theorem dX4_greatestRow_13 : decode cX4_greatestRow 13 = .ok (.aload_n 0, 1) := by decide +kernel
theorem dX4_greatestRow_14 : decode cX4_greatestRow 14 = .ok (.getfield 9, 3) := by decide +kernel
theorem dX4_greatestRow_17 : decode cX4_greatestRow 17 = .ok (.iload_n 2, 1) := by decide +kernel
theorem dX4_greatestRow_18 : decode cX4_greatestRow 18 = .ok (.iaload, 1) := by decide +kernel
theorem dX4_greatestRow_19 : decode cX4_greatestRow 19 = .ok (.invokestatic 29, 3) := by decide +kernel
theorem dX4_greatestRow_22 : decode cX4_greatestRow 22 = .ok (.istore_n 1, 1) := by decide +kernel
theorem dX4_greatestRow_23 : decode cX4_greatestRow 23 = .ok (.iinc 2 1, 3) := by decide +kernel
theorem dX4_greatestRow_26 : decode cX4_greatestRow 26 = .ok (.goto (-22), 3) := by decide +kernel
theorem dX4_greatestRow_29 : decode cX4_greatestRow 29 = .ok (.iload_n 1, 1) := by decide +kernel
theorem dX4_greatestRow_30 : decode cX4_greatestRow 30 = .ok (.ireturn, 1) := by decide +kernel
theorem dX4_isCovered_0 : decode cX4_isCovered 0 = .ok (.aload_n 0, 1) := by decide +kernel
theorem dX4_isCovered_1 : decode cX4_isCovered 1 = .ok (.invokevirtual 38, 3) := by decide +kernel
theorem dX4_isCovered_4 : decode cX4_isCovered 4 = .ok (.istore_n 2, 1) := by decide +kernel
theorem dX4_isCovered_5 : decode cX4_isCovered 5 = .ok (.iload_n 2, 1) := by decide +kernel
theorem dX4_isCovered_6 : decode cX4_isCovered 6 = .ok (.iconst (-1), 1) := by decide +kernel
theorem dX4_isCovered_7 : decode cX4_isCovered 7 = .ok (.if_icmp .eq 17, 3) := by decide +kernel
theorem dX4_isCovered_10 : decode cX4_isCovered 10 = .ok (.aload_n 0, 1) := by decide +kernel
theorem dX4_isCovered_11 : decode cX4_isCovered 11 = .ok (.getfield 9, 3) := by decide +kernel
theorem dX4_isCovered_14 : decode cX4_isCovered 14 = .ok (.iload_n 2, 1) := by decide +kernel
theorem dX4_isCovered_15 : decode cX4_isCovered 15 = .ok (.iaload, 1) := by decide +kernel
theorem dX4_isCovered_16 : decode cX4_isCovered 16 = .ok (.iload_n 1, 1) := by decide +kernel
theorem dX4_isCovered_17 : decode cX4_isCovered 17 = .ok (.if_icmp .ge 7, 3) := by decide +kernel
theorem dX4_isCovered_20 : decode cX4_isCovered 20 = .ok (.iconst 1, 1) := by decide +kernel
theorem dX4_isCovered_21 : decode cX4_isCovered 21 = .ok (.goto 4, 3) := by decide +kernel
theorem dX4_isCovered_24 : decode cX4_isCovered 24 = .ok (.iconst 0, 1) := by decide +kernel
theorem dX4_isCovered_25 : decode cX4_isCovered 25 = .ok (.ireturn, 1) := by decide +kernel
theorem dX5_init_0 : decode cX5_init 0 = .ok (.aload_n 0, 1) := by decide +kernel
theorem dX5_init_1 : decode cX5_init 1 = .ok (.invokespecial 3, 3) := by decide +kernel
theorem dX5_init_4 : decode cX5_init 4 = .ok (.aload_n 0, 1) := by decide +kernel
theorem dX5_init_5 : decode cX5_init 5 = .ok (.bipush 60, 2) := by decide +kernel
theorem dX5_init_7 : decode cX5_init 7 = .ok (.newarray .int, 2) := by decide +kernel
theorem dX5_init_9 : decode cX5_init 9 = .ok (.putfield 9, 3) := by decide +kernel
theorem dX5_init_12 : decode cX5_init 12 = .ok (.aload_n 0, 1) := by decide +kernel
theorem dX5_init_13 : decode cX5_init 13 = .ok (.iconst 0, 1) := by decide +kernel
theorem dX5_init_14 : decode cX5_init 14 = .ok (.putfield 15, 3) := by decide +kernel
theorem dX5_init_17 : decode cX5_init 17 = .ok (.return_, 1) := by decide +kernel
theorem dX5_append_0 : decode cX5_append 0 = .ok (.aload_n 0, 1) := by decide +kernel
theorem dX5_append_1 : decode cX5_append 1 = .ok (.getfield 15, 3) := by decide +kernel
theorem dX5_append_4 : decode cX5_append 4 = .ok (.bipush 60, 2) := by decide +kernel
theorem dX5_append_6 : decode cX5_append 6 = .ok (.if_icmp .ge 23, 3) := by decide +kernel
theorem dX5_append_9 : decode cX5_append 9 = .ok (.aload_n 0, 1) := by decide +kernel
theorem dX5_append_10 : decode cX5_append 10 = .ok (.getfield 9, 3) := by decide +kernel
theorem dX5_append_13 : decode cX5_append 13 = .ok (.aload_n 0, 1) := by decide +kernel
theorem dX5_append_14 : decode cX5_append 14 = .ok (.getfield 15, 3) := by decide +kernel
theorem dX5_append_17 : decode cX5_append 17 = .ok (.iload_n 1, 1) := by decide +kernel
theorem dX5_append_18 : decode cX5_append 18 = .ok (.iastore, 1) := by decide +kernel
theorem dX5_append_19 : decode cX5_append 19 = .ok (.aload_n 0, 1) := by decide +kernel
theorem dX5_append_20 : decode cX5_append 20 = .ok (.dup, 1) := by decide +kernel
theorem dX5_append_21 : decode cX5_append 21 = .ok (.getfield 15, 3) := by decide +kernel
theorem dX5_append_24 : decode cX5_append 24 = .ok (.iconst 1, 1) := by decide +kernel
theorem dX5_append_25 : decode cX5_append 25 = .ok (.iadd, 1) := by decide +kernel
theorem dX5_append_26 : decode cX5_append 26 = .ok (.putfield 15, 3) := by decide +kernel
theorem dX5_append_29 : decode cX5_append 29 = .ok (.return_, 1) := by decide +kernel
theorem dX5_byteAt_0 : decode cX5_byteAt 0 = .ok (.iload_n 1, 1) := by decide +kernel
theorem dX5_byteAt_1 : decode cX5_byteAt 1 = .ok (.ifCond .lt 20, 3) := by decide +kernel
theorem dX5_byteAt_4 : decode cX5_byteAt 4 = .ok (.iload_n 1, 1) := by decide +kernel
theorem dX5_byteAt_5 : decode cX5_byteAt 5 = .ok (.aload_n 0, 1) := by decide +kernel
theorem dX5_byteAt_6 : decode cX5_byteAt 6 = .ok (.getfield 15, 3) := by decide +kernel
theorem dX5_byteAt_9 : decode cX5_byteAt 9 = .ok (.if_icmp .ge 12, 3) := by decide +kernel
theorem dX5_byteAt_12 : decode cX5_byteAt 12 = .ok (.aload_n 0, 1) := by decide +kernel
theorem dX5_byteAt_13 : decode cX5_byteAt 13 = .ok (.getfield 9, 3) := by decide +kernel
theorem dX5_byteAt_16 : decode cX5_byteAt 16 = .ok (.iload_n 1, 1) := by decide +kernel
theorem dX5_byteAt_17 : decode cX5_byteAt 17 = .ok (.iaload, 1) := by decide +kernel
theorem dX5_byteAt_18 : decode cX5_byteAt 18 = .ok (.goto 4, 3) := by decide +kernel
theorem dX5_byteAt_21 : decode cX5_byteAt 21 = .ok (.iconst (-1), 1) := by decide +kernel
theorem dX5_byteAt_22 : decode cX5_byteAt 22 = .ok (.ireturn, 1) := by decide +kernel
theorem dX5_figureAt_0 : decode cX5_figureAt 0 = .ok (.aload_n 0, 1) := by decide +kernel
theorem dX5_figureAt_1 : decode cX5_figureAt 1 = .ok (.iload_n 1, 1) := by decide +kernel
theorem dX5_figureAt_2 : decode cX5_figureAt 2 = .ok (.invokevirtual 19, 3) := by decide +kernel
theorem dX5_figureAt_5 : decode cX5_figureAt 5 = .ok (.istore_n 2, 1) := by decide +kernel
theorem dX5_figureAt_6 : decode cX5_figureAt 6 = .ok (.iload_n 2, 1) := by decide +kernel
theorem dX5_figureAt_7 : decode cX5_figureAt 7 = .ok (.bipush 48, 2) := by decide +kernel
theorem dX5_figureAt_9 : decode cX5_figureAt 9 = .ok (.if_icmp .lt 16, 3) := by decide +kernel
theorem dX5_figureAt_12 : decode cX5_figureAt 12 = .ok (.iload_n 2, 1) := by decide +kernel
theorem dX5_figureAt_13 : decode cX5_figureAt 13 = .ok (.bipush 57, 2) := by decide +kernel
theorem dX5_figureAt_15 : decode cX5_figureAt 15 = .ok (.if_icmp .gt 10, 3) := by decide +kernel
theorem dX5_figureAt_18 : decode cX5_figureAt 18 = .ok (.iload_n 2, 1) := by decide +kernel
theorem dX5_figureAt_19 : decode cX5_figureAt 19 = .ok (.bipush 48, 2) := by decide +kernel
theorem dX5_figureAt_21 : decode cX5_figureAt 21 = .ok (.isub, 1) := by decide +kernel
theorem dX5_figureAt_22 : decode cX5_figureAt 22 = .ok (.goto 4, 3) := by decide +kernel
theorem dX5_figureAt_25 : decode cX5_figureAt 25 = .ok (.iconst (-1), 1) := by decide +kernel
theorem dX5_figureAt_26 : decode cX5_figureAt 26 = .ok (.ireturn, 1) := by decide +kernel
theorem dX6_init_0 : decode cX6_init 0 = .ok (.aload_n 0, 1) := by decide +kernel
theorem dX6_init_1 : decode cX6_init 1 = .ok (.invokespecial 3, 3) := by decide +kernel
theorem dX6_init_4 : decode cX6_init 4 = .ok (.aload_n 0, 1) := by decide +kernel
theorem dX6_init_5 : decode cX6_init 5 = .ok (.bipush 15, 2) := by decide +kernel
theorem dX6_init_7 : decode cX6_init 7 = .ok (.newarray .int, 2) := by decide +kernel
theorem dX6_init_9 : decode cX6_init 9 = .ok (.putfield 11, 3) := by decide +kernel
theorem dX6_init_12 : decode cX6_init 12 = .ok (.aload_n 0, 1) := by decide +kernel
theorem dX6_init_13 : decode cX6_init 13 = .ok (.bipush 15, 2) := by decide +kernel
theorem dX6_init_15 : decode cX6_init 15 = .ok (.newarray .int, 2) := by decide +kernel
theorem dX6_init_17 : decode cX6_init 17 = .ok (.putfield 15, 3) := by decide +kernel
theorem dX6_init_20 : decode cX6_init 20 = .ok (.aload_n 0, 1) := by decide +kernel
theorem dX6_init_21 : decode cX6_init 21 = .ok (.iconst 0, 1) := by decide +kernel
theorem dX6_init_22 : decode cX6_init 22 = .ok (.putfield 18, 3) := by decide +kernel
theorem dX6_init_25 : decode cX6_init 25 = .ok (.aload_n 0, 1) := by decide +kernel
theorem dX6_init_26 : decode cX6_init 26 = .ok (.iconst (-1), 1) := by decide +kernel
theorem dX6_init_27 : decode cX6_init 27 = .ok (.putfield 22, 3) := by decide +kernel
theorem dX6_init_30 : decode cX6_init 30 = .ok (.return_, 1) := by decide +kernel
theorem dX6_readFrom_0 : decode cX6_readFrom 0 = .ok (.aload_n 0, 1) := by decide +kernel
theorem dX6_readFrom_1 : decode cX6_readFrom 1 = .ok (.iconst 0, 1) := by decide +kernel
theorem dX6_readFrom_2 : decode cX6_readFrom 2 = .ok (.putfield 18, 3) := by decide +kernel
theorem dX6_readFrom_5 : decode cX6_readFrom 5 = .ok (.aload_n 0, 1) := by decide +kernel
theorem dX6_readFrom_6 : decode cX6_readFrom 6 = .ok (.aload_n 1, 1) := by decide +kernel
theorem dX6_readFrom_7 : decode cX6_readFrom 7 = .ok (.getfield 25, 3) := by decide +kernel
theorem dX6_readFrom_10 : decode cX6_readFrom 10 = .ok (.ifCond .ne 7, 3) := by decide +kernel
theorem dX6_readFrom_13 : decode cX6_readFrom 13 = .ok (.iconst (-1), 1) := by decide +kernel
theorem dX6_readFrom_14 : decode cX6_readFrom 14 = .ok (.goto 9, 3) := by decide +kernel
theorem dX6_readFrom_17 : decode cX6_readFrom 17 = .ok (.aload_n 0, 1) := by decide +kernel
theorem dX6_readFrom_18 : decode cX6_readFrom 18 = .ok (.aload_n 1, 1) := by decide +kernel
theorem dX6_readFrom_19 : decode cX6_readFrom 19 = .ok (.iload_n 2, 1) := by decide +kernel
theorem dX6_readFrom_20 : decode cX6_readFrom 20 = .ok (.invokevirtual 30, 3) := by decide +kernel
theorem dX6_readFrom_23 : decode cX6_readFrom 23 = .ok (.putfield 22, 3) := by decide +kernel
theorem dX6_readFrom_26 : decode cX6_readFrom 26 = .ok (.aload_n 0, 1) := by decide +kernel
theorem dX6_readFrom_27 : decode cX6_readFrom 27 = .ok (.getfield 22, 3) := by decide +kernel
theorem dX6_readFrom_30 : decode cX6_readFrom 30 = .ok (.iconst (-1), 1) := by decide +kernel
theorem dX6_readFrom_31 : decode cX6_readFrom 31 = .ok (.if_icmp .eq 8, 3) := by decide +kernel
theorem dX6_readFrom_34 : decode cX6_readFrom 34 = .ok (.aload_n 0, 1) := by decide +kernel
theorem dX6_readFrom_35 : decode cX6_readFrom 35 = .ok (.iconst 0, 1) := by decide +kernel
theorem dX6_readFrom_36 : decode cX6_readFrom 36 = .ok (.putfield 18, 3) := by decide +kernel
theorem dX6_readFrom_39 : decode cX6_readFrom 39 = .ok (.return_, 1) := by decide +kernel
theorem dX6_readParts_0 : decode cX6_readParts 0 = .ok (.iconst 0, 1) := by decide +kernel
theorem dX6_readParts_1 : decode cX6_readParts 1 = .ok (.istore_n 3, 1) := by decide +kernel
theorem dX6_readParts_2 : decode cX6_readParts 2 = .ok (.iconst 0, 1) := by decide +kernel
theorem dX6_readParts_3 : decode cX6_readParts 3 = .ok (.istore 4, 2) := by decide +kernel
theorem dX6_readParts_5 : decode cX6_readParts 5 = .ok (.iload 4, 2) := by decide +kernel
theorem dX6_readParts_7 : decode cX6_readParts 7 = .ok (.bipush 15, 2) := by decide +kernel
theorem dX6_readParts_9 : decode cX6_readParts 9 = .ok (.if_icmp .ge 55, 3) := by decide +kernel
theorem dX6_readParts_12 : decode cX6_readParts 12 = .ok (.aload_n 0, 1) := by decide +kernel
theorem dX6_readParts_13 : decode cX6_readParts 13 = .ok (.aload_n 1, 1) := by decide +kernel
theorem dX6_readParts_14 : decode cX6_readParts 14 = .ok (.iload_n 3, 1) := by decide +kernel
theorem dX6_readParts_15 : decode cX6_readParts 15 = .ok (.iload_n 2, 1) := by decide +kernel
theorem dX6_readParts_16 : decode cX6_readParts 16 = .ok (.invokevirtual 34, 3) := by decide +kernel
theorem dX6_readParts_19 : decode cX6_readParts 19 = .ok (.istore 5, 2) := by decide +kernel
theorem dX6_readParts_21 : decode cX6_readParts 21 = .ok (.iload 5, 2) := by decide +kernel
theorem dX6_readParts_23 : decode cX6_readParts 23 = .ok (.iconst (-1), 1) := by decide +kernel
theorem dX6_readParts_24 : decode cX6_readParts 24 = .ok (.if_icmp .eq 6, 3) := by decide +kernel
theorem dX6_readParts_27 : decode cX6_readParts 27 = .ok (.iload 5, 2) := by decide +kernel
theorem dX6_readParts_29 : decode cX6_readParts 29 = .ok (.ireturn, 1) := by decide +kernel
theorem dX6_readParts_30 : decode cX6_readParts 30 = .ok (.iinc 3 3, 3) := by decide +kernel
theorem dX6_readParts_33 : decode cX6_readParts 33 = .ok (.iload_n 3, 1) := by decide +kernel
theorem dX6_readParts_34 : decode cX6_readParts 34 = .ok (.aload_n 1, 1) := by decide +kernel
theorem dX6_readParts_35 : decode cX6_readParts 35 = .ok (.getfield 25, 3) := by decide +kernel
theorem dX6_readParts_38 : decode cX6_readParts 38 = .ok (.if_icmp .ne 5, 3) := by decide +kernel
theorem dX6_readParts_41 : decode cX6_readParts 41 = .ok (.iconst (-1), 1) := by decide +kernel
theorem dX6_readParts_42 : decode cX6_readParts 42 = .ok (.ireturn, 1) := by decide +kernel
theorem dX6_readParts_43 : decode cX6_readParts 43 = .ok (.aload_n 1, 1) := by decide +kernel
theorem dX6_readParts_44 : decode cX6_readParts 44 = .ok (.iload_n 3, 1) := by decide +kernel
theorem dX6_readParts_45 : decode cX6_readParts 45 = .ok (.invokevirtual 38, 3) := by decide +kernel
theorem dX6_readParts_48 : decode cX6_readParts 48 = .ok (.bipush 59, 2) := by decide +kernel
theorem dX6_readParts_50 : decode cX6_readParts 50 = .ok (.if_icmp .eq 5, 3) := by decide +kernel
theorem dX6_readParts_53 : decode cX6_readParts 53 = .ok (.iload_n 3, 1) := by decide +kernel
theorem dX6_readParts_54 : decode cX6_readParts 54 = .ok (.ireturn, 1) := by decide +kernel
theorem dX6_readParts_55 : decode cX6_readParts 55 = .ok (.iinc 3 1, 3) := by decide +kernel
theorem dX6_readParts_58 : decode cX6_readParts 58 = .ok (.iinc 4 1, 3) := by decide +kernel
theorem dX6_readParts_61 : decode cX6_readParts 61 = .ok (.goto (-56), 3) := by decide +kernel
theorem dX6_readParts_64 : decode cX6_readParts 64 = .ok (.iload_n 3, 1) := by decide +kernel
theorem dX6_readParts_65 : decode cX6_readParts 65 = .ok (.ireturn, 1) := by decide +kernel
theorem dX6_readPart_0 : decode cX6_readPart 0 = .ok (.aload_n 1, 1) := by decide +kernel
theorem dX6_readPart_1 : decode cX6_readPart 1 = .ok (.iload_n 2, 1) := by decide +kernel
theorem dX6_readPart_2 : decode cX6_readPart 2 = .ok (.invokevirtual 42, 3) := by decide +kernel
theorem dX6_readPart_5 : decode cX6_readPart 5 = .ok (.istore 4, 2) := by decide +kernel
theorem dX6_readPart_7 : decode cX6_readPart 7 = .ok (.iload 4, 2) := by decide +kernel
theorem dX6_readPart_9 : decode cX6_readPart 9 = .ok (.iconst (-1), 1) := by decide +kernel
theorem dX6_readPart_10 : decode cX6_readPart 10 = .ok (.if_icmp .ne 5, 3) := by decide +kernel
theorem dX6_readPart_13 : decode cX6_readPart 13 = .ok (.iload_n 2, 1) := by decide +kernel
theorem dX6_readPart_14 : decode cX6_readPart 14 = .ok (.ireturn, 1) := by decide +kernel
theorem dX6_readPart_15 : decode cX6_readPart 15 = .ok (.aload_n 1, 1) := by decide +kernel
theorem dX6_readPart_16 : decode cX6_readPart 16 = .ok (.iload_n 2, 1) := by decide +kernel
theorem dX6_readPart_17 : decode cX6_readPart 17 = .ok (.iconst 1, 1) := by decide +kernel
theorem dX6_readPart_18 : decode cX6_readPart 18 = .ok (.iadd, 1) := by decide +kernel
theorem dX6_readPart_19 : decode cX6_readPart 19 = .ok (.invokevirtual 42, 3) := by decide +kernel
theorem dX6_readPart_22 : decode cX6_readPart 22 = .ok (.istore 5, 2) := by decide +kernel
theorem dX6_readPart_24 : decode cX6_readPart 24 = .ok (.iload 5, 2) := by decide +kernel
theorem dX6_readPart_26 : decode cX6_readPart 26 = .ok (.iconst (-1), 1) := by decide +kernel
theorem dX6_readPart_27 : decode cX6_readPart 27 = .ok (.if_icmp .ne 7, 3) := by decide +kernel
theorem dX6_readPart_30 : decode cX6_readPart 30 = .ok (.iload_n 2, 1) := by decide +kernel
theorem dX6_readPart_31 : decode cX6_readPart 31 = .ok (.iconst 1, 1) := by decide +kernel
theorem dX6_readPart_32 : decode cX6_readPart 32 = .ok (.iadd, 1) := by decide +kernel
theorem dX6_readPart_33 : decode cX6_readPart 33 = .ok (.ireturn, 1) := by decide +kernel
theorem dX6_readPart_34 : decode cX6_readPart 34 = .ok (.bipush 10, 2) := by decide +kernel
theorem dX6_readPart_36 : decode cX6_readPart 36 = .ok (.iload 4, 2) := by decide +kernel
theorem dX6_readPart_38 : decode cX6_readPart 38 = .ok (.imul, 1) := by decide +kernel
theorem dX6_readPart_39 : decode cX6_readPart 39 = .ok (.iload 5, 2) := by decide +kernel
theorem dX6_readPart_41 : decode cX6_readPart 41 = .ok (.iadd, 1) := by decide +kernel
theorem dX6_readPart_42 : decode cX6_readPart 42 = .ok (.istore 6, 2) := by decide +kernel
theorem dX6_readPart_44 : decode cX6_readPart 44 = .ok (.aload_n 0, 1) := by decide +kernel
theorem dX6_readPart_45 : decode cX6_readPart 45 = .ok (.getfield 18, 3) := by decide +kernel
theorem dX6_readPart_48 : decode cX6_readPart 48 = .ok (.ifCond .ne 7, 3) := by decide +kernel
theorem dX6_readPart_51 : decode cX6_readPart 51 = .ok (.iconst 0, 1) := by decide +kernel
theorem dX6_readPart_52 : decode cX6_readPart 52 = .ok (.goto 14, 3) := by decide +kernel
theorem dX6_readPart_55 : decode cX6_readPart 55 = .ok (.aload_n 0, 1) := by decide +kernel
theorem dX6_readPart_56 : decode cX6_readPart 56 = .ok (.getfield 11, 3) := by decide +kernel
theorem dX6_readPart_59 : decode cX6_readPart 59 = .ok (.aload_n 0, 1) := by decide +kernel
theorem dX6_readPart_60 : decode cX6_readPart 60 = .ok (.getfield 18, 3) := by decide +kernel
theorem dX6_readPart_63 : decode cX6_readPart 63 = .ok (.iconst 1, 1) := by decide +kernel
theorem dX6_readPart_64 : decode cX6_readPart 64 = .ok (.isub, 1) := by decide +kernel
theorem dX6_readPart_65 : decode cX6_readPart 65 = .ok (.iaload, 1) := by decide +kernel
theorem dX6_readPart_66 : decode cX6_readPart 66 = .ok (.istore 7, 2) := by decide +kernel
theorem dX6_readPart_68 : decode cX6_readPart 68 = .ok (.iload 6, 2) := by decide +kernel
theorem dX6_readPart_70 : decode cX6_readPart 70 = .ok (.invokestatic 45, 3) := by decide +kernel
theorem dX6_readPart_73 : decode cX6_readPart 73 = .ok (.ifCond .eq 10, 3) := by decide +kernel
theorem dX6_readPart_76 : decode cX6_readPart 76 = .ok (.iload 6, 2) := by decide +kernel
theorem dX6_readPart_78 : decode cX6_readPart 78 = .ok (.iload 7, 2) := by decide +kernel
theorem dX6_readPart_80 : decode cX6_readPart 80 = .ok (.if_icmp .ge 5, 3) := by decide +kernel
theorem dX6_readPart_83 : decode cX6_readPart 83 = .ok (.iload_n 2, 1) := by decide +kernel
theorem dX6_readPart_84 : decode cX6_readPart 84 = .ok (.ireturn, 1) := by decide +kernel
theorem dX6_readPart_85 : decode cX6_readPart 85 = .ok (.aload_n 1, 1) := by decide +kernel
theorem dX6_readPart_86 : decode cX6_readPart 86 = .ok (.iload_n 2, 1) := by decide +kernel
theorem dX6_readPart_87 : decode cX6_readPart 87 = .ok (.iconst 2, 1) := by decide +kernel
theorem dX6_readPart_88 : decode cX6_readPart 88 = .ok (.iadd, 1) := by decide +kernel
theorem dX6_readPart_89 : decode cX6_readPart 89 = .ok (.invokevirtual 42, 3) := by decide +kernel
theorem dX6_readPart_92 : decode cX6_readPart 92 = .ok (.istore 8, 2) := by decide +kernel
theorem dX6_readPart_94 : decode cX6_readPart 94 = .ok (.iload 8, 2) := by decide +kernel
theorem dX6_readPart_96 : decode cX6_readPart 96 = .ok (.iconst (-1), 1) := by decide +kernel
theorem dX6_readPart_97 : decode cX6_readPart 97 = .ok (.if_icmp .eq 9, 3) := by decide +kernel
theorem dX6_readPart_100 : decode cX6_readPart 100 = .ok (.iload 8, 2) := by decide +kernel
theorem dX6_readPart_102 : decode cX6_readPart 102 = .ok (.iload_n 3, 1) := by decide +kernel
theorem dX6_readPart_103 : decode cX6_readPart 103 = .ok (.if_icmp .lt 7, 3) := by decide +kernel
theorem dX6_readPart_106 : decode cX6_readPart 106 = .ok (.iload_n 2, 1) := by decide +kernel
theorem dX6_readPart_107 : decode cX6_readPart 107 = .ok (.iconst 2, 1) := by decide +kernel
theorem dX6_readPart_108 : decode cX6_readPart 108 = .ok (.iadd, 1) := by decide +kernel
theorem dX6_readPart_109 : decode cX6_readPart 109 = .ok (.ireturn, 1) := by decide +kernel
theorem dX6_readPart_110 : decode cX6_readPart 110 = .ok (.aload_n 0, 1) := by decide +kernel
theorem dX6_readPart_111 : decode cX6_readPart 111 = .ok (.getfield 11, 3) := by decide +kernel
theorem dX6_readPart_114 : decode cX6_readPart 114 = .ok (.aload_n 0, 1) := by decide +kernel
theorem dX6_readPart_115 : decode cX6_readPart 115 = .ok (.getfield 18, 3) := by decide +kernel
theorem dX6_readPart_118 : decode cX6_readPart 118 = .ok (.iload 6, 2) := by decide +kernel
theorem dX6_readPart_120 : decode cX6_readPart 120 = .ok (.iastore, 1) := by decide +kernel
theorem dX6_readPart_121 : decode cX6_readPart 121 = .ok (.aload_n 0, 1) := by decide +kernel
theorem dX6_readPart_122 : decode cX6_readPart 122 = .ok (.getfield 15, 3) := by decide +kernel
theorem dX6_readPart_125 : decode cX6_readPart 125 = .ok (.aload_n 0, 1) := by decide +kernel
theorem dX6_readPart_126 : decode cX6_readPart 126 = .ok (.getfield 18, 3) := by decide +kernel
theorem dX6_readPart_129 : decode cX6_readPart 129 = .ok (.iload 8, 2) := by decide +kernel
theorem dX6_readPart_131 : decode cX6_readPart 131 = .ok (.iastore, 1) := by decide +kernel
theorem dX6_readPart_132 : decode cX6_readPart 132 = .ok (.aload_n 0, 1) := by decide +kernel
theorem dX6_readPart_133 : decode cX6_readPart 133 = .ok (.dup, 1) := by decide +kernel
theorem dX6_readPart_134 : decode cX6_readPart 134 = .ok (.getfield 18, 3) := by decide +kernel
theorem dX6_readPart_137 : decode cX6_readPart 137 = .ok (.iconst 1, 1) := by decide +kernel
theorem dX6_readPart_138 : decode cX6_readPart 138 = .ok (.iadd, 1) := by decide +kernel
theorem dX6_readPart_139 : decode cX6_readPart 139 = .ok (.putfield 18, 3) := by decide +kernel
theorem dX6_readPart_142 : decode cX6_readPart 142 = .ok (.iconst (-1), 1) := by decide +kernel
theorem dX6_readPart_143 : decode cX6_readPart 143 = .ok (.ireturn, 1) := by decide +kernel
theorem dX6_endOfWeek_0 : decode cX6_endOfWeek 0 = .ok (.iload_n 1, 1) := by decide +kernel
theorem dX6_endOfWeek_1 : decode cX6_endOfWeek 1 = .ok (.istore_n 3, 1) := by decide +kernel
theorem dX6_endOfWeek_2 : decode cX6_endOfWeek 2 = .ok (.iload_n 3, 1) := by decide +kernel
theorem dX6_endOfWeek_3 : decode cX6_endOfWeek 3 = .ok (.aload_n 0, 1) := by decide +kernel
theorem dX6_endOfWeek_4 : decode cX6_endOfWeek 4 = .ok (.getfield 18, 3) := by decide +kernel
theorem dX6_endOfWeek_7 : decode cX6_endOfWeek 7 = .ok (.if_icmp .ge 19, 3) := by decide +kernel
theorem dX6_endOfWeek_10 : decode cX6_endOfWeek 10 = .ok (.aload_n 0, 1) := by decide +kernel
theorem dX6_endOfWeek_11 : decode cX6_endOfWeek 11 = .ok (.getfield 11, 3) := by decide +kernel
theorem dX6_endOfWeek_14 : decode cX6_endOfWeek 14 = .ok (.iload_n 3, 1) := by decide +kernel
theorem dX6_endOfWeek_15 : decode cX6_endOfWeek 15 = .ok (.iaload, 1) := by decide +kernel
theorem dX6_endOfWeek_16 : decode cX6_endOfWeek 16 = .ok (.iload_n 2, 1) := by decide +kernel
theorem dX6_endOfWeek_17 : decode cX6_endOfWeek 17 = .ok (.if_icmp .gt 9, 3) := by decide +kernel
theorem dX6_endOfWeek_20 : decode cX6_endOfWeek 20 = .ok (.iinc 3 1, 3) := by decide +kernel
theorem dX6_endOfWeek_23 : decode cX6_endOfWeek 23 = .ok (.goto (-21), 3) := by decide +kernel
theorem dX6_endOfWeek_26 : decode cX6_endOfWeek 26 = .ok (.iload_n 3, 1) := by decide +kernel
theorem dX6_endOfWeek_27 : decode cX6_endOfWeek 27 = .ok (.ireturn, 1) := by decide +kernel
theorem dX7_init_0 : decode cX7_init 0 = .ok (.aload_n 0, 1) := by decide +kernel
theorem dX7_init_1 : decode cX7_init 1 = .ok (.invokespecial 3, 3) := by decide +kernel
theorem dX7_init_4 : decode cX7_init 4 = .ok (.aload_n 0, 1) := by decide +kernel
theorem dX7_init_5 : decode cX7_init 5 = .ok (.bipush 10, 2) := by decide +kernel
theorem dX7_init_7 : decode cX7_init 7 = .ok (.newarray .int, 2) := by decide +kernel
theorem dX7_init_9 : decode cX7_init 9 = .ok (.putfield 9, 3) := by decide +kernel
theorem dX7_init_12 : decode cX7_init 12 = .ok (.aload_n 0, 1) := by decide +kernel
theorem dX7_init_13 : decode cX7_init 13 = .ok (.bipush 10, 2) := by decide +kernel
theorem dX7_init_15 : decode cX7_init 15 = .ok (.newarray .int, 2) := by decide +kernel
theorem dX7_init_17 : decode cX7_init 17 = .ok (.putfield 15, 3) := by decide +kernel
theorem dX7_init_20 : decode cX7_init 20 = .ok (.aload_n 0, 1) := by decide +kernel
theorem dX7_init_21 : decode cX7_init 21 = .ok (.bipush 10, 2) := by decide +kernel
theorem dX7_init_23 : decode cX7_init 23 = .ok (.newarray .int, 2) := by decide +kernel
theorem dX7_init_25 : decode cX7_init 25 = .ok (.putfield 18, 3) := by decide +kernel
theorem dX7_init_28 : decode cX7_init 28 = .ok (.aload_n 0, 1) := by decide +kernel
theorem dX7_init_29 : decode cX7_init 29 = .ok (.iconst 0, 1) := by decide +kernel
theorem dX7_init_30 : decode cX7_init 30 = .ok (.putfield 21, 3) := by decide +kernel
theorem dX7_init_33 : decode cX7_init 33 = .ok (.aload_n 0, 1) := by decide +kernel
theorem dX7_init_34 : decode cX7_init 34 = .ok (.iconst (-1), 1) := by decide +kernel
theorem dX7_init_35 : decode cX7_init 35 = .ok (.putfield 25, 3) := by decide +kernel
theorem dX7_init_38 : decode cX7_init 38 = .ok (.return_, 1) := by decide +kernel
theorem dX7_readFrom_0 : decode cX7_readFrom 0 = .ok (.aload_n 0, 1) := by decide +kernel
theorem dX7_readFrom_1 : decode cX7_readFrom 1 = .ok (.iconst 0, 1) := by decide +kernel
theorem dX7_readFrom_2 : decode cX7_readFrom 2 = .ok (.putfield 21, 3) := by decide +kernel
theorem dX7_readFrom_5 : decode cX7_readFrom 5 = .ok (.aload_n 0, 1) := by decide +kernel
theorem dX7_readFrom_6 : decode cX7_readFrom 6 = .ok (.aload_n 1, 1) := by decide +kernel
theorem dX7_readFrom_7 : decode cX7_readFrom 7 = .ok (.getfield 28, 3) := by decide +kernel
theorem dX7_readFrom_10 : decode cX7_readFrom 10 = .ok (.ifCond .ne 7, 3) := by decide +kernel
theorem dX7_readFrom_13 : decode cX7_readFrom 13 = .ok (.iconst (-1), 1) := by decide +kernel
theorem dX7_readFrom_14 : decode cX7_readFrom 14 = .ok (.goto 8, 3) := by decide +kernel
theorem dX7_readFrom_17 : decode cX7_readFrom 17 = .ok (.aload_n 0, 1) := by decide +kernel
theorem dX7_readFrom_18 : decode cX7_readFrom 18 = .ok (.aload_n 1, 1) := by decide +kernel
theorem dX7_readFrom_19 : decode cX7_readFrom 19 = .ok (.invokevirtual 33, 3) := by decide +kernel
theorem dX7_readFrom_22 : decode cX7_readFrom 22 = .ok (.putfield 25, 3) := by decide +kernel
theorem dX7_readFrom_25 : decode cX7_readFrom 25 = .ok (.aload_n 0, 1) := by decide +kernel
theorem dX7_readFrom_26 : decode cX7_readFrom 26 = .ok (.getfield 25, 3) := by decide +kernel
theorem dX7_readFrom_29 : decode cX7_readFrom 29 = .ok (.iconst (-1), 1) := by decide +kernel
theorem dX7_readFrom_30 : decode cX7_readFrom 30 = .ok (.if_icmp .eq 8, 3) := by decide +kernel
theorem dX7_readFrom_33 : decode cX7_readFrom 33 = .ok (.aload_n 0, 1) := by decide +kernel
theorem dX7_readFrom_34 : decode cX7_readFrom 34 = .ok (.iconst 0, 1) := by decide +kernel
theorem dX7_readFrom_35 : decode cX7_readFrom 35 = .ok (.putfield 21, 3) := by decide +kernel
theorem dX7_readFrom_38 : decode cX7_readFrom 38 = .ok (.return_, 1) := by decide +kernel
theorem dX7_readParts_0 : decode cX7_readParts 0 = .ok (.iconst 0, 1) := by decide +kernel
theorem dX7_readParts_1 : decode cX7_readParts 1 = .ok (.istore_n 2, 1) := by decide +kernel
theorem dX7_readParts_2 : decode cX7_readParts 2 = .ok (.iconst 0, 1) := by decide +kernel
theorem dX7_readParts_3 : decode cX7_readParts 3 = .ok (.istore_n 3, 1) := by decide +kernel
theorem dX7_readParts_4 : decode cX7_readParts 4 = .ok (.iload_n 3, 1) := by decide +kernel
theorem dX7_readParts_5 : decode cX7_readParts 5 = .ok (.bipush 10, 2) := by decide +kernel
theorem dX7_readParts_7 : decode cX7_readParts 7 = .ok (.if_icmp .ge 54, 3) := by decide +kernel
theorem dX7_readParts_10 : decode cX7_readParts 10 = .ok (.aload_n 0, 1) := by decide +kernel
theorem dX7_readParts_11 : decode cX7_readParts 11 = .ok (.aload_n 1, 1) := by decide +kernel
theorem dX7_readParts_12 : decode cX7_readParts 12 = .ok (.iload_n 2, 1) := by decide +kernel
theorem dX7_readParts_13 : decode cX7_readParts 13 = .ok (.invokevirtual 37, 3) := by decide +kernel
theorem dX7_readParts_16 : decode cX7_readParts 16 = .ok (.istore 4, 2) := by decide +kernel
theorem dX7_readParts_18 : decode cX7_readParts 18 = .ok (.iload 4, 2) := by decide +kernel
theorem dX7_readParts_20 : decode cX7_readParts 20 = .ok (.iconst (-1), 1) := by decide +kernel
theorem dX7_readParts_21 : decode cX7_readParts 21 = .ok (.if_icmp .eq 6, 3) := by decide +kernel
theorem dX7_readParts_24 : decode cX7_readParts 24 = .ok (.iload 4, 2) := by decide +kernel
theorem dX7_readParts_26 : decode cX7_readParts 26 = .ok (.ireturn, 1) := by decide +kernel
theorem dX7_readParts_27 : decode cX7_readParts 27 = .ok (.iinc 2 4, 3) := by decide +kernel
theorem dX7_readParts_30 : decode cX7_readParts 30 = .ok (.iload_n 2, 1) := by decide +kernel
theorem dX7_readParts_31 : decode cX7_readParts 31 = .ok (.aload_n 1, 1) := by decide +kernel
theorem dX7_readParts_32 : decode cX7_readParts 32 = .ok (.getfield 28, 3) := by decide +kernel
theorem dX7_readParts_35 : decode cX7_readParts 35 = .ok (.if_icmp .ne 5, 3) := by decide +kernel
theorem dX7_readParts_38 : decode cX7_readParts 38 = .ok (.iconst (-1), 1) := by decide +kernel
theorem dX7_readParts_39 : decode cX7_readParts 39 = .ok (.ireturn, 1) := by decide +kernel
theorem dX7_readParts_40 : decode cX7_readParts 40 = .ok (.aload_n 1, 1) := by decide +kernel
theorem dX7_readParts_41 : decode cX7_readParts 41 = .ok (.iload_n 2, 1) := by decide +kernel
theorem dX7_readParts_42 : decode cX7_readParts 42 = .ok (.invokevirtual 41, 3) := by decide +kernel
theorem dX7_readParts_45 : decode cX7_readParts 45 = .ok (.bipush 59, 2) := by decide +kernel
theorem dX7_readParts_47 : decode cX7_readParts 47 = .ok (.if_icmp .eq 5, 3) := by decide +kernel
theorem dX7_readParts_50 : decode cX7_readParts 50 = .ok (.iload_n 2, 1) := by decide +kernel
theorem dX7_readParts_51 : decode cX7_readParts 51 = .ok (.ireturn, 1) := by decide +kernel
theorem dX7_readParts_52 : decode cX7_readParts 52 = .ok (.iinc 2 1, 3) := by decide +kernel
theorem dX7_readParts_55 : decode cX7_readParts 55 = .ok (.iinc 3 1, 3) := by decide +kernel
theorem dX7_readParts_58 : decode cX7_readParts 58 = .ok (.goto (-54), 3) := by decide +kernel
theorem dX7_readParts_61 : decode cX7_readParts 61 = .ok (.iload_n 2, 1) := by decide +kernel
theorem dX7_readParts_62 : decode cX7_readParts 62 = .ok (.ireturn, 1) := by decide +kernel
theorem dX7_readPart_0 : decode cX7_readPart 0 = .ok (.aload_n 1, 1) := by decide +kernel
theorem dX7_readPart_1 : decode cX7_readPart 1 = .ok (.iload_n 2, 1) := by decide +kernel
theorem dX7_readPart_2 : decode cX7_readPart 2 = .ok (.invokevirtual 41, 3) := by decide +kernel
theorem dX7_readPart_5 : decode cX7_readPart 5 = .ok (.invokestatic 45, 3) := by decide +kernel
theorem dX7_readPart_8 : decode cX7_readPart 8 = .ok (.istore_n 3, 1) := by decide +kernel
theorem dX7_readPart_9 : decode cX7_readPart 9 = .ok (.iload_n 3, 1) := by decide +kernel
theorem dX7_readPart_10 : decode cX7_readPart 10 = .ok (.iconst (-1), 1) := by decide +kernel
theorem dX7_readPart_11 : decode cX7_readPart 11 = .ok (.if_icmp .ne 5, 3) := by decide +kernel
theorem dX7_readPart_14 : decode cX7_readPart 14 = .ok (.iload_n 2, 1) := by decide +kernel
theorem dX7_readPart_15 : decode cX7_readPart 15 = .ok (.ireturn, 1) := by decide +kernel
theorem dX7_readPart_16 : decode cX7_readPart 16 = .ok (.aload_n 1, 1) := by decide +kernel
theorem dX7_readPart_17 : decode cX7_readPart 17 = .ok (.iload_n 2, 1) := by decide +kernel
theorem dX7_readPart_18 : decode cX7_readPart 18 = .ok (.iconst 1, 1) := by decide +kernel
theorem dX7_readPart_19 : decode cX7_readPart 19 = .ok (.iadd, 1) := by decide +kernel
theorem dX7_readPart_20 : decode cX7_readPart 20 = .ok (.invokevirtual 48, 3) := by decide +kernel
theorem dX7_readPart_23 : decode cX7_readPart 23 = .ok (.istore 4, 2) := by decide +kernel
theorem dX7_readPart_25 : decode cX7_readPart 25 = .ok (.iload 4, 2) := by decide +kernel
theorem dX7_readPart_27 : decode cX7_readPart 27 = .ok (.iconst 3, 1) := by decide +kernel
theorem dX7_readPart_28 : decode cX7_readPart 28 = .ok (.invokestatic 51, 3) := by decide +kernel
theorem dX7_readPart_31 : decode cX7_readPart 31 = .ok (.ifCond .ne 7, 3) := by decide +kernel
theorem dX7_readPart_34 : decode cX7_readPart 34 = .ok (.iload_n 2, 1) := by decide +kernel
theorem dX7_readPart_35 : decode cX7_readPart 35 = .ok (.iconst 1, 1) := by decide +kernel
theorem dX7_readPart_36 : decode cX7_readPart 36 = .ok (.iadd, 1) := by decide +kernel
theorem dX7_readPart_37 : decode cX7_readPart 37 = .ok (.ireturn, 1) := by decide +kernel
theorem dX7_readPart_38 : decode cX7_readPart 38 = .ok (.aload_n 1, 1) := by decide +kernel
theorem dX7_readPart_39 : decode cX7_readPart 39 = .ok (.iload_n 2, 1) := by decide +kernel
theorem dX7_readPart_40 : decode cX7_readPart 40 = .ok (.iconst 2, 1) := by decide +kernel
theorem dX7_readPart_41 : decode cX7_readPart 41 = .ok (.iadd, 1) := by decide +kernel
theorem dX7_readPart_42 : decode cX7_readPart 42 = .ok (.invokevirtual 48, 3) := by decide +kernel
theorem dX7_readPart_45 : decode cX7_readPart 45 = .ok (.istore 5, 2) := by decide +kernel
theorem dX7_readPart_47 : decode cX7_readPart 47 = .ok (.iload 5, 2) := by decide +kernel
theorem dX7_readPart_49 : decode cX7_readPart 49 = .ok (.iconst (-1), 1) := by decide +kernel
theorem dX7_readPart_50 : decode cX7_readPart 50 = .ok (.if_icmp .ne 7, 3) := by decide +kernel
theorem dX7_readPart_53 : decode cX7_readPart 53 = .ok (.iload_n 2, 1) := by decide +kernel
theorem dX7_readPart_54 : decode cX7_readPart 54 = .ok (.iconst 2, 1) := by decide +kernel
theorem dX7_readPart_55 : decode cX7_readPart 55 = .ok (.iadd, 1) := by decide +kernel
theorem dX7_readPart_56 : decode cX7_readPart 56 = .ok (.ireturn, 1) := by decide +kernel
theorem dX7_readPart_57 : decode cX7_readPart 57 = .ok (.aload_n 1, 1) := by decide +kernel
theorem dX7_readPart_58 : decode cX7_readPart 58 = .ok (.iload_n 2, 1) := by decide +kernel
theorem dX7_readPart_59 : decode cX7_readPart 59 = .ok (.iconst 3, 1) := by decide +kernel
theorem dX7_readPart_60 : decode cX7_readPart 60 = .ok (.iadd, 1) := by decide +kernel
theorem dX7_readPart_61 : decode cX7_readPart 61 = .ok (.invokevirtual 48, 3) := by decide +kernel
theorem dX7_readPart_64 : decode cX7_readPart 64 = .ok (.istore 6, 2) := by decide +kernel
theorem dX7_readPart_66 : decode cX7_readPart 66 = .ok (.iload 6, 2) := by decide +kernel
theorem dX7_readPart_68 : decode cX7_readPart 68 = .ok (.iconst (-1), 1) := by decide +kernel
theorem dX7_readPart_69 : decode cX7_readPart 69 = .ok (.if_icmp .ne 7, 3) := by decide +kernel
theorem dX7_readPart_72 : decode cX7_readPart 72 = .ok (.iload_n 2, 1) := by decide +kernel
theorem dX7_readPart_73 : decode cX7_readPart 73 = .ok (.iconst 3, 1) := by decide +kernel
theorem dX7_readPart_74 : decode cX7_readPart 74 = .ok (.iadd, 1) := by decide +kernel
theorem dX7_readPart_75 : decode cX7_readPart 75 = .ok (.ireturn, 1) := by decide +kernel
theorem dX7_readPart_76 : decode cX7_readPart 76 = .ok (.bipush 10, 2) := by decide +kernel
theorem dX7_readPart_78 : decode cX7_readPart 78 = .ok (.iload 5, 2) := by decide +kernel
theorem dX7_readPart_80 : decode cX7_readPart 80 = .ok (.imul, 1) := by decide +kernel
theorem dX7_readPart_81 : decode cX7_readPart 81 = .ok (.iload 6, 2) := by decide +kernel
theorem dX7_readPart_83 : decode cX7_readPart 83 = .ok (.iadd, 1) := by decide +kernel
theorem dX7_readPart_84 : decode cX7_readPart 84 = .ok (.istore 7, 2) := by decide +kernel
theorem dX7_readPart_86 : decode cX7_readPart 86 = .ok (.aload_n 0, 1) := by decide +kernel
theorem dX7_readPart_87 : decode cX7_readPart 87 = .ok (.iload 4, 2) := by decide +kernel
theorem dX7_readPart_89 : decode cX7_readPart 89 = .ok (.iload 7, 2) := by decide +kernel
theorem dX7_readPart_91 : decode cX7_readPart 91 = .ok (.invokevirtual 55, 3) := by decide +kernel
theorem dX7_readPart_94 : decode cX7_readPart 94 = .ok (.ifCond .eq 7, 3) := by decide +kernel
theorem dX7_readPart_97 : decode cX7_readPart 97 = .ok (.iload_n 2, 1) := by decide +kernel
theorem dX7_readPart_98 : decode cX7_readPart 98 = .ok (.iconst 2, 1) := by decide +kernel
theorem dX7_readPart_99 : decode cX7_readPart 99 = .ok (.iadd, 1) := by decide +kernel
theorem dX7_readPart_100 : decode cX7_readPart 100 = .ok (.ireturn, 1) := by decide +kernel
theorem dX7_readPart_101 : decode cX7_readPart 101 = .ok (.aload_n 0, 1) := by decide +kernel
theorem dX7_readPart_102 : decode cX7_readPart 102 = .ok (.getfield 9, 3) := by decide +kernel
theorem dX7_readPart_105 : decode cX7_readPart 105 = .ok (.aload_n 0, 1) := by decide +kernel
theorem dX7_readPart_106 : decode cX7_readPart 106 = .ok (.getfield 21, 3) := by decide +kernel
theorem dX7_readPart_109 : decode cX7_readPart 109 = .ok (.iload_n 3, 1) := by decide +kernel
theorem dX7_readPart_110 : decode cX7_readPart 110 = .ok (.iastore, 1) := by decide +kernel
theorem dX7_readPart_111 : decode cX7_readPart 111 = .ok (.aload_n 0, 1) := by decide +kernel
theorem dX7_readPart_112 : decode cX7_readPart 112 = .ok (.getfield 15, 3) := by decide +kernel
theorem dX7_readPart_115 : decode cX7_readPart 115 = .ok (.aload_n 0, 1) := by decide +kernel
theorem dX7_readPart_116 : decode cX7_readPart 116 = .ok (.getfield 21, 3) := by decide +kernel
theorem dX7_readPart_119 : decode cX7_readPart 119 = .ok (.iload 4, 2) := by decide +kernel
theorem dX7_readPart_121 : decode cX7_readPart 121 = .ok (.iastore, 1) := by decide +kernel
theorem dX7_readPart_122 : decode cX7_readPart 122 = .ok (.aload_n 0, 1) := by decide +kernel
theorem dX7_readPart_123 : decode cX7_readPart 123 = .ok (.getfield 18, 3) := by decide +kernel
theorem dX7_readPart_126 : decode cX7_readPart 126 = .ok (.aload_n 0, 1) := by decide +kernel
theorem dX7_readPart_127 : decode cX7_readPart 127 = .ok (.getfield 21, 3) := by decide +kernel
theorem dX7_readPart_130 : decode cX7_readPart 130 = .ok (.iload 7, 2) := by decide +kernel
theorem dX7_readPart_132 : decode cX7_readPart 132 = .ok (.iastore, 1) := by decide +kernel
theorem dX7_readPart_133 : decode cX7_readPart 133 = .ok (.aload_n 0, 1) := by decide +kernel
theorem dX7_readPart_134 : decode cX7_readPart 134 = .ok (.dup, 1) := by decide +kernel
theorem dX7_readPart_135 : decode cX7_readPart 135 = .ok (.getfield 21, 3) := by decide +kernel
theorem dX7_readPart_138 : decode cX7_readPart 138 = .ok (.iconst 1, 1) := by decide +kernel
theorem dX7_readPart_139 : decode cX7_readPart 139 = .ok (.iadd, 1) := by decide +kernel
theorem dX7_readPart_140 : decode cX7_readPart 140 = .ok (.putfield 21, 3) := by decide +kernel
theorem dX7_readPart_143 : decode cX7_readPart 143 = .ok (.iconst (-1), 1) := by decide +kernel
theorem dX7_readPart_144 : decode cX7_readPart 144 = .ok (.ireturn, 1) := by decide +kernel
theorem dX7_kindOf_0 : decode cX7_kindOf 0 = .ok (.iload_n 0, 1) := by decide +kernel
theorem dX7_kindOf_1 : decode cX7_kindOf 1 = .ok (.lookupswitch 51 #[(99, 49), (114, 47), (115, 43), (116, 45)], 43) := by decide +kernel
theorem dX7_kindOf_44 : decode cX7_kindOf 44 = .ok (.iconst 0, 1) := by decide +kernel
theorem dX7_kindOf_45 : decode cX7_kindOf 45 = .ok (.ireturn, 1) := by decide +kernel
theorem dX7_kindOf_46 : decode cX7_kindOf 46 = .ok (.iconst 1, 1) := by decide +kernel
theorem dX7_kindOf_47 : decode cX7_kindOf 47 = .ok (.ireturn, 1) := by decide +kernel
theorem dX7_kindOf_48 : decode cX7_kindOf 48 = .ok (.iconst 2, 1) := by decide +kernel
theorem dX7_kindOf_49 : decode cX7_kindOf 49 = .ok (.ireturn, 1) := by decide +kernel
theorem dX7_kindOf_50 : decode cX7_kindOf 50 = .ok (.iconst 3, 1) := by decide +kernel
theorem dX7_kindOf_51 : decode cX7_kindOf 51 = .ok (.ireturn, 1) := by decide +kernel
theorem dX7_kindOf_52 : decode cX7_kindOf 52 = .ok (.iconst (-1), 1) := by decide +kernel
theorem dX7_kindOf_53 : decode cX7_kindOf 53 = .ok (.ireturn, 1) := by decide +kernel
theorem dX7_isTaken_0 : decode cX7_isTaken 0 = .ok (.iconst 0, 1) := by decide +kernel
theorem dX7_isTaken_1 : decode cX7_isTaken 1 = .ok (.istore_n 3, 1) := by decide +kernel
theorem dX7_isTaken_2 : decode cX7_isTaken 2 = .ok (.iload_n 3, 1) := by decide +kernel
theorem dX7_isTaken_3 : decode cX7_isTaken 3 = .ok (.aload_n 0, 1) := by decide +kernel
theorem dX7_isTaken_4 : decode cX7_isTaken 4 = .ok (.getfield 21, 3) := by decide +kernel
theorem dX7_isTaken_7 : decode cX7_isTaken 7 = .ok (.if_icmp .ge 31, 3) := by decide +kernel
theorem dX7_isTaken_10 : decode cX7_isTaken 10 = .ok (.aload_n 0, 1) := by decide +kernel
theorem dX7_isTaken_11 : decode cX7_isTaken 11 = .ok (.getfield 15, 3) := by decide +kernel
theorem dX7_isTaken_14 : decode cX7_isTaken 14 = .ok (.iload_n 3, 1) := by decide +kernel
theorem dX7_isTaken_15 : decode cX7_isTaken 15 = .ok (.iaload, 1) := by decide +kernel
theorem dX7_isTaken_16 : decode cX7_isTaken 16 = .ok (.iload_n 1, 1) := by decide +kernel
theorem dX7_isTaken_17 : decode cX7_isTaken 17 = .ok (.if_icmp .ne 15, 3) := by decide +kernel
theorem dX7_isTaken_20 : decode cX7_isTaken 20 = .ok (.aload_n 0, 1) := by decide +kernel
theorem dX7_isTaken_21 : decode cX7_isTaken 21 = .ok (.getfield 18, 3) := by decide +kernel
theorem dX7_isTaken_24 : decode cX7_isTaken 24 = .ok (.iload_n 3, 1) := by decide +kernel
theorem dX7_isTaken_25 : decode cX7_isTaken 25 = .ok (.iaload, 1) := by decide +kernel
theorem dX7_isTaken_26 : decode cX7_isTaken 26 = .ok (.iload_n 2, 1) := by decide +kernel
theorem dX7_isTaken_27 : decode cX7_isTaken 27 = .ok (.if_icmp .ne 5, 3) := by decide +kernel
theorem dX7_isTaken_30 : decode cX7_isTaken 30 = .ok (.iconst 1, 1) := by decide +kernel
theorem dX7_isTaken_31 : decode cX7_isTaken 31 = .ok (.ireturn, 1) := by decide +kernel
theorem dX7_isTaken_32 : decode cX7_isTaken 32 = .ok (.iinc 3 1, 3) := by decide +kernel
theorem dX7_isTaken_35 : decode cX7_isTaken 35 = .ok (.goto (-33), 3) := by decide +kernel
theorem dX7_isTaken_38 : decode cX7_isTaken 38 = .ok (.iconst 0, 1) := by decide +kernel
theorem dX7_isTaken_39 : decode cX7_isTaken 39 = .ok (.ireturn, 1) := by decide +kernel
theorem dX7_swapOf_0 : decode cX7_swapOf 0 = .ok (.aload_n 0, 1) := by decide +kernel
theorem dX7_swapOf_1 : decode cX7_swapOf 1 = .ok (.aload_n 1, 1) := by decide +kernel
theorem dX7_swapOf_2 : decode cX7_swapOf 2 = .ok (.getfield 21, 3) := by decide +kernel
theorem dX7_swapOf_5 : decode cX7_swapOf 5 = .ok (.putfield 21, 3) := by decide +kernel
theorem dX7_swapOf_8 : decode cX7_swapOf 8 = .ok (.iconst 0, 1) := by decide +kernel
theorem dX7_swapOf_9 : decode cX7_swapOf 9 = .ok (.istore 4, 2) := by decide +kernel
theorem dX7_swapOf_11 : decode cX7_swapOf 11 = .ok (.iload 4, 2) := by decide +kernel
theorem dX7_swapOf_13 : decode cX7_swapOf 13 = .ok (.aload_n 0, 1) := by decide +kernel
theorem dX7_swapOf_14 : decode cX7_swapOf 14 = .ok (.getfield 21, 3) := by decide +kernel
theorem dX7_swapOf_17 : decode cX7_swapOf 17 = .ok (.if_icmp .ge 75, 3) := by decide +kernel
theorem dX7_swapOf_20 : decode cX7_swapOf 20 = .ok (.iload 4, 2) := by decide +kernel
theorem dX7_swapOf_22 : decode cX7_swapOf 22 = .ok (.iload_n 2, 1) := by decide +kernel
theorem dX7_swapOf_23 : decode cX7_swapOf 23 = .ok (.if_icmp .ne 7, 3) := by decide +kernel
theorem dX7_swapOf_26 : decode cX7_swapOf 26 = .ok (.iload_n 3, 1) := by decide +kernel
theorem dX7_swapOf_27 : decode cX7_swapOf 27 = .ok (.goto 15, 3) := by decide +kernel
theorem dX7_swapOf_30 : decode cX7_swapOf 30 = .ok (.iload 4, 2) := by decide +kernel
theorem dX7_swapOf_32 : decode cX7_swapOf 32 = .ok (.iload_n 3, 1) := by decide +kernel
theorem dX7_swapOf_33 : decode cX7_swapOf 33 = .ok (.if_icmp .ne 7, 3) := by decide +kernel
theorem dX7_swapOf_36 : decode cX7_swapOf 36 = .ok (.iload_n 2, 1) := by decide +kernel
theorem dX7_swapOf_37 : decode cX7_swapOf 37 = .ok (.goto 5, 3) := by decide +kernel
theorem dX7_swapOf_40 : decode cX7_swapOf 40 = .ok (.iload 4, 2) := by decide +kernel
theorem dX7_swapOf_42 : decode cX7_swapOf 42 = .ok (.istore 5, 2) := by decide +kernel
theorem dX7_swapOf_44 : decode cX7_swapOf 44 = .ok (.aload_n 0, 1) := by decide +kernel
theorem dX7_swapOf_45 : decode cX7_swapOf 45 = .ok (.getfield 9, 3) := by decide +kernel
theorem dX7_swapOf_48 : decode cX7_swapOf 48 = .ok (.iload 4, 2) := by decide +kernel
theorem dX7_swapOf_50 : decode cX7_swapOf 50 = .ok (.aload_n 1, 1) := by decide +kernel
theorem dX7_swapOf_51 : decode cX7_swapOf 51 = .ok (.getfield 9, 3) := by decide +kernel
theorem dX7_swapOf_54 : decode cX7_swapOf 54 = .ok (.iload 4, 2) := by decide +kernel
theorem dX7_swapOf_56 : decode cX7_swapOf 56 = .ok (.iaload, 1) := by decide +kernel
theorem dX7_swapOf_57 : decode cX7_swapOf 57 = .ok (.iastore, 1) := by decide +kernel
theorem dX7_swapOf_58 : decode cX7_swapOf 58 = .ok (.aload_n 0, 1) := by decide +kernel
theorem dX7_swapOf_59 : decode cX7_swapOf 59 = .ok (.getfield 15, 3) := by decide +kernel
theorem dX7_swapOf_62 : decode cX7_swapOf 62 = .ok (.iload 4, 2) := by decide +kernel
theorem dX7_swapOf_64 : decode cX7_swapOf 64 = .ok (.aload_n 1, 1) := by decide +kernel
theorem dX7_swapOf_65 : decode cX7_swapOf 65 = .ok (.getfield 15, 3) := by decide +kernel
theorem dX7_swapOf_68 : decode cX7_swapOf 68 = .ok (.iload 5, 2) := by decide +kernel
theorem dX7_swapOf_70 : decode cX7_swapOf 70 = .ok (.iaload, 1) := by decide +kernel
theorem dX7_swapOf_71 : decode cX7_swapOf 71 = .ok (.iastore, 1) := by decide +kernel
theorem dX7_swapOf_72 : decode cX7_swapOf 72 = .ok (.aload_n 0, 1) := by decide +kernel
theorem dX7_swapOf_73 : decode cX7_swapOf 73 = .ok (.getfield 18, 3) := by decide +kernel
theorem dX7_swapOf_76 : decode cX7_swapOf 76 = .ok (.iload 4, 2) := by decide +kernel
theorem dX7_swapOf_78 : decode cX7_swapOf 78 = .ok (.aload_n 1, 1) := by decide +kernel
theorem dX7_swapOf_79 : decode cX7_swapOf 79 = .ok (.getfield 18, 3) := by decide +kernel
theorem dX7_swapOf_82 : decode cX7_swapOf 82 = .ok (.iload 5, 2) := by decide +kernel
theorem dX7_swapOf_84 : decode cX7_swapOf 84 = .ok (.iaload, 1) := by decide +kernel
theorem dX7_swapOf_85 : decode cX7_swapOf 85 = .ok (.iastore, 1) := by decide +kernel
theorem dX7_swapOf_86 : decode cX7_swapOf 86 = .ok (.iinc 4 1, 3) := by decide +kernel
theorem dX7_swapOf_89 : decode cX7_swapOf 89 = .ok (.goto (-78), 3) := by decide +kernel
theorem dX7_swapOf_92 : decode cX7_swapOf 92 = .ok (.return_, 1) := by decide +kernel
theorem dX7_handsFor_0 : decode cX7_handsFor 0 = .ok (.aload_n 0, 1) := by decide +kernel
theorem dX7_handsFor_1 : decode cX7_handsFor 1 = .ok (.getfield 9, 3) := by decide +kernel
theorem dX7_handsFor_4 : decode cX7_handsFor 4 = .ok (.iload_n 1, 1) := by decide +kernel
theorem dX7_handsFor_5 : decode cX7_handsFor 5 = .ok (.iaload, 1) := by decide +kernel
theorem dX7_handsFor_6 : decode cX7_handsFor 6 = .ok (.tableswitch 46 0 3 #[30, 46, 32, 42], 30) := by decide +kernel
theorem dX7_handsFor_36 : decode cX7_handsFor 36 = .ok (.iconst 4, 1) := by decide +kernel
theorem dX7_handsFor_37 : decode cX7_handsFor 37 = .ok (.ireturn, 1) := by decide +kernel
theorem dX7_handsFor_38 : decode cX7_handsFor 38 = .ok (.iload_n 2, 1) := by decide +kernel
theorem dX7_handsFor_39 : decode cX7_handsFor 39 = .ok (.ifCond .ne 7, 3) := by decide +kernel
theorem dX7_handsFor_42 : decode cX7_handsFor 42 = .ok (.iconst 2, 1) := by decide +kernel
theorem dX7_handsFor_43 : decode cX7_handsFor 43 = .ok (.goto 4, 3) := by decide +kernel
theorem dX7_handsFor_46 : decode cX7_handsFor 46 = .ok (.iconst 1, 1) := by decide +kernel
theorem dX7_handsFor_47 : decode cX7_handsFor 47 = .ok (.ireturn, 1) := by decide +kernel
theorem dX7_handsFor_48 : decode cX7_handsFor 48 = .ok (.iconst 3, 1) := by decide +kernel
theorem dX7_handsFor_49 : decode cX7_handsFor 49 = .ok (.iload_n 2, 1) := by decide +kernel
theorem dX7_handsFor_50 : decode cX7_handsFor 50 = .ok (.iadd, 1) := by decide +kernel
theorem dX7_handsFor_51 : decode cX7_handsFor 51 = .ok (.ireturn, 1) := by decide +kernel
theorem dX7_handsFor_52 : decode cX7_handsFor 52 = .ok (.iconst 1, 1) := by decide +kernel
theorem dX7_handsFor_53 : decode cX7_handsFor 53 = .ok (.ireturn, 1) := by decide +kernel
theorem dX8_init_0 : decode cX8_init 0 = .ok (.aload_n 0, 1) := by decide +kernel
theorem dX8_init_1 : decode cX8_init 1 = .ok (.invokespecial 3, 3) := by decide +kernel
theorem dX8_init_4 : decode cX8_init 4 = .ok (.aload_n 0, 1) := by decide +kernel
theorem dX8_init_5 : decode cX8_init 5 = .ok (.sipush 400, 3) := by decide +kernel
theorem dX8_init_8 : decode cX8_init 8 = .ok (.newarray .int, 2) := by decide +kernel
theorem dX8_init_10 : decode cX8_init 10 = .ok (.putfield 11, 3) := by decide +kernel
theorem dX8_init_13 : decode cX8_init 13 = .ok (.aload_n 0, 1) := by decide +kernel
theorem dX8_init_14 : decode cX8_init 14 = .ok (.sipush 400, 3) := by decide +kernel
theorem dX8_init_17 : decode cX8_init 17 = .ok (.newarray .int, 2) := by decide +kernel
theorem dX8_init_19 : decode cX8_init 19 = .ok (.putfield 15, 3) := by decide +kernel
theorem dX8_init_22 : decode cX8_init 22 = .ok (.aload_n 0, 1) := by decide +kernel
theorem dX8_init_23 : decode cX8_init 23 = .ok (.sipush 400, 3) := by decide +kernel
theorem dX8_init_26 : decode cX8_init 26 = .ok (.newarray .int, 2) := by decide +kernel
theorem dX8_init_28 : decode cX8_init 28 = .ok (.putfield 18, 3) := by decide +kernel
theorem dX8_init_31 : decode cX8_init 31 = .ok (.aload_n 0, 1) := by decide +kernel
theorem dX8_init_32 : decode cX8_init 32 = .ok (.sipush 400, 3) := by decide +kernel
theorem dX8_init_35 : decode cX8_init 35 = .ok (.newarray .int, 2) := by decide +kernel
theorem dX8_init_37 : decode cX8_init 37 = .ok (.putfield 21, 3) := by decide +kernel
theorem dX8_init_40 : decode cX8_init 40 = .ok (.aload_n 0, 1) := by decide +kernel
theorem dX8_init_41 : decode cX8_init 41 = .ok (.sipush 400, 3) := by decide +kernel
theorem dX8_init_44 : decode cX8_init 44 = .ok (.newarray .int, 2) := by decide +kernel
theorem dX8_init_46 : decode cX8_init 46 = .ok (.putfield 24, 3) := by decide +kernel
theorem dX8_init_49 : decode cX8_init 49 = .ok (.aload_n 0, 1) := by decide +kernel
theorem dX8_init_50 : decode cX8_init 50 = .ok (.new 27, 3) := by decide +kernel
theorem dX8_init_53 : decode cX8_init 53 = .ok (.dup, 1) := by decide +kernel
theorem dX8_init_54 : decode cX8_init 54 = .ok (.invokespecial 29, 3) := by decide +kernel
theorem dX8_init_57 : decode cX8_init 57 = .ok (.putfield 30, 3) := by decide +kernel
theorem dX8_init_60 : decode cX8_init 60 = .ok (.aload_n 0, 1) := by decide +kernel
theorem dX8_init_61 : decode cX8_init 61 = .ok (.iconst 0, 1) := by decide +kernel
theorem dX8_init_62 : decode cX8_init 62 = .ok (.putfield 34, 3) := by decide +kernel
theorem dX8_init_65 : decode cX8_init 65 = .ok (.aload_n 0, 1) := by decide +kernel
theorem dX8_init_66 : decode cX8_init 66 = .ok (.getfield 11, 3) := by decide +kernel
theorem dX8_init_69 : decode cX8_init 69 = .ok (.iconst 0, 1) := by decide +kernel
theorem dX8_init_70 : decode cX8_init 70 = .ok (.iconst (-1), 1) := by decide +kernel
theorem dX8_init_71 : decode cX8_init 71 = .ok (.iastore, 1) := by decide +kernel
theorem dX8_init_72 : decode cX8_init 72 = .ok (.aload_n 0, 1) := by decide +kernel
theorem dX8_init_73 : decode cX8_init 73 = .ok (.getfield 21, 3) := by decide +kernel
theorem dX8_init_76 : decode cX8_init 76 = .ok (.iconst 0, 1) := by decide +kernel
theorem dX8_init_77 : decode cX8_init 77 = .ok (.sipush 1000, 3) := by decide +kernel
theorem dX8_init_80 : decode cX8_init 80 = .ok (.iastore, 1) := by decide +kernel
theorem dX8_init_81 : decode cX8_init 81 = .ok (.aload_n 0, 1) := by decide +kernel
theorem dX8_init_82 : decode cX8_init 82 = .ok (.getfield 24, 3) := by decide +kernel
theorem dX8_init_85 : decode cX8_init 85 = .ok (.iconst 0, 1) := by decide +kernel
theorem dX8_init_86 : decode cX8_init 86 = .ok (.iconst (-1), 1) := by decide +kernel
theorem dX8_init_87 : decode cX8_init 87 = .ok (.iastore, 1) := by decide +kernel
theorem dX8_init_88 : decode cX8_init 88 = .ok (.return_, 1) := by decide +kernel
theorem dX8_plan_0 : decode cX8_plan 0 = .ok (.aload_n 0, 1) := by decide +kernel
theorem dX8_plan_1 : decode cX8_plan 1 = .ok (.getfield 30, 3) := by decide +kernel
theorem dX8_plan_4 : decode cX8_plan 4 = .ok (.aload_n 1, 1) := by decide +kernel
theorem dX8_plan_5 : decode cX8_plan 5 = .ok (.invokevirtual 38, 3) := by decide +kernel
theorem dX8_plan_8 : decode cX8_plan 8 = .ok (.iconst 0, 1) := by decide +kernel
theorem dX8_plan_9 : decode cX8_plan 9 = .ok (.istore_n 2, 1) := by decide +kernel
theorem dX8_plan_10 : decode cX8_plan 10 = .ok (.iload_n 2, 1) := by decide +kernel
theorem dX8_plan_11 : decode cX8_plan 11 = .ok (.sipush 400, 3) := by decide +kernel
theorem dX8_plan_14 : decode cX8_plan 14 = .ok (.if_icmp .ge 120, 3) := by decide +kernel
theorem dX8_plan_17 : decode cX8_plan 17 = .ok (.aload_n 0, 1) := by decide +kernel
theorem dX8_plan_18 : decode cX8_plan 18 = .ok (.getfield 30, 3) := by decide +kernel
theorem dX8_plan_21 : decode cX8_plan 21 = .ok (.invokevirtual 42, 3) := by decide +kernel
theorem dX8_plan_24 : decode cX8_plan 24 = .ok (.istore_n 3, 1) := by decide +kernel
theorem dX8_plan_25 : decode cX8_plan 25 = .ok (.aload_n 0, 1) := by decide +kernel
theorem dX8_plan_26 : decode cX8_plan 26 = .ok (.iload_n 2, 1) := by decide +kernel
theorem dX8_plan_27 : decode cX8_plan 27 = .ok (.putfield 34, 3) := by decide +kernel
theorem dX8_plan_30 : decode cX8_plan 30 = .ok (.aload_n 0, 1) := by decide +kernel
theorem dX8_plan_31 : decode cX8_plan 31 = .ok (.getfield 11, 3) := by decide +kernel
theorem dX8_plan_34 : decode cX8_plan 34 = .ok (.iload_n 2, 1) := by decide +kernel
theorem dX8_plan_35 : decode cX8_plan 35 = .ok (.iload_n 3, 1) := by decide +kernel
theorem dX8_plan_36 : decode cX8_plan 36 = .ok (.iastore, 1) := by decide +kernel
theorem dX8_plan_37 : decode cX8_plan 37 = .ok (.aload_n 0, 1) := by decide +kernel
theorem dX8_plan_38 : decode cX8_plan 38 = .ok (.getfield 21, 3) := by decide +kernel
theorem dX8_plan_41 : decode cX8_plan 41 = .ok (.iload_n 2, 1) := by decide +kernel
theorem dX8_plan_42 : decode cX8_plan 42 = .ok (.iload_n 3, 1) := by decide +kernel
theorem dX8_plan_43 : decode cX8_plan 43 = .ok (.iconst (-1), 1) := by decide +kernel
theorem dX8_plan_44 : decode cX8_plan 44 = .ok (.if_icmp .ne 9, 3) := by decide +kernel
theorem dX8_plan_47 : decode cX8_plan 47 = .ok (.sipush 1000, 3) := by decide +kernel
theorem dX8_plan_50 : decode cX8_plan 50 = .ok (.goto 12, 3) := by decide +kernel
theorem dX8_plan_53 : decode cX8_plan 53 = .ok (.aload_n 0, 1) := by decide +kernel
theorem dX8_plan_54 : decode cX8_plan 54 = .ok (.getfield 30, 3) := by decide +kernel
theorem dX8_plan_57 : decode cX8_plan 57 = .ok (.getfield 46, 3) := by decide +kernel
theorem dX8_plan_60 : decode cX8_plan 60 = .ok (.iload_n 3, 1) := by decide +kernel
theorem dX8_plan_61 : decode cX8_plan 61 = .ok (.iaload, 1) := by decide +kernel
theorem dX8_plan_62 : decode cX8_plan 62 = .ok (.iastore, 1) := by decide +kernel
theorem dX8_plan_63 : decode cX8_plan 63 = .ok (.aload_n 0, 1) := by decide +kernel
theorem dX8_plan_64 : decode cX8_plan 64 = .ok (.getfield 24, 3) := by decide +kernel
theorem dX8_plan_67 : decode cX8_plan 67 = .ok (.iload_n 2, 1) := by decide +kernel
theorem dX8_plan_68 : decode cX8_plan 68 = .ok (.aload_n 0, 1) := by decide +kernel
theorem dX8_plan_69 : decode cX8_plan 69 = .ok (.getfield 30, 3) := by decide +kernel
theorem dX8_plan_72 : decode cX8_plan 72 = .ok (.invokevirtual 49, 3) := by decide +kernel
theorem dX8_plan_75 : decode cX8_plan 75 = .ok (.iastore, 1) := by decide +kernel
theorem dX8_plan_76 : decode cX8_plan 76 = .ok (.iload_n 3, 1) := by decide +kernel
theorem dX8_plan_77 : decode cX8_plan 77 = .ok (.iconst (-1), 1) := by decide +kernel
theorem dX8_plan_78 : decode cX8_plan 78 = .ok (.if_icmp .ne 8, 3) := by decide +kernel
theorem dX8_plan_81 : decode cX8_plan 81 = .ok (.bipush (-3), 2) := by decide +kernel
theorem dX8_plan_83 : decode cX8_plan 83 = .ok (.goto 12, 3) := by decide +kernel
theorem dX8_plan_86 : decode cX8_plan 86 = .ok (.aload_n 0, 1) := by decide +kernel
theorem dX8_plan_87 : decode cX8_plan 87 = .ok (.getfield 30, 3) := by decide +kernel
theorem dX8_plan_90 : decode cX8_plan 90 = .ok (.aload_n 1, 1) := by decide +kernel
theorem dX8_plan_91 : decode cX8_plan 91 = .ok (.iload_n 3, 1) := by decide +kernel
theorem dX8_plan_92 : decode cX8_plan 92 = .ok (.invokevirtual 52, 3) := by decide +kernel
theorem dX8_plan_95 : decode cX8_plan 95 = .ok (.istore 4, 2) := by decide +kernel
theorem dX8_plan_97 : decode cX8_plan 97 = .ok (.iload 4, 2) := by decide +kernel
theorem dX8_plan_99 : decode cX8_plan 99 = .ok (.bipush (-3), 2) := by decide +kernel
theorem dX8_plan_101 : decode cX8_plan 101 = .ok (.if_icmp .ne 4, 3) := by decide +kernel
theorem dX8_plan_104 : decode cX8_plan 104 = .ok (.return_, 1) := by decide +kernel
theorem dX8_plan_105 : decode cX8_plan 105 = .ok (.aload_n 0, 1) := by decide +kernel
theorem dX8_plan_106 : decode cX8_plan 106 = .ok (.getfield 15, 3) := by decide +kernel
theorem dX8_plan_109 : decode cX8_plan 109 = .ok (.iload_n 2, 1) := by decide +kernel
theorem dX8_plan_110 : decode cX8_plan 110 = .ok (.aload_n 0, 1) := by decide +kernel
theorem dX8_plan_111 : decode cX8_plan 111 = .ok (.getfield 30, 3) := by decide +kernel
theorem dX8_plan_114 : decode cX8_plan 114 = .ok (.getfield 46, 3) := by decide +kernel
theorem dX8_plan_117 : decode cX8_plan 117 = .ok (.iload_n 3, 1) := by decide +kernel
theorem dX8_plan_118 : decode cX8_plan 118 = .ok (.iaload, 1) := by decide +kernel
theorem dX8_plan_119 : decode cX8_plan 119 = .ok (.iastore, 1) := by decide +kernel
theorem dX8_plan_120 : decode cX8_plan 120 = .ok (.aload_n 0, 1) := by decide +kernel
theorem dX8_plan_121 : decode cX8_plan 121 = .ok (.getfield 18, 3) := by decide +kernel
theorem dX8_plan_124 : decode cX8_plan 124 = .ok (.iload_n 2, 1) := by decide +kernel
theorem dX8_plan_125 : decode cX8_plan 125 = .ok (.iload 4, 2) := by decide +kernel
theorem dX8_plan_127 : decode cX8_plan 127 = .ok (.iastore, 1) := by decide +kernel
theorem dX8_plan_128 : decode cX8_plan 128 = .ok (.iinc 2 1, 3) := by decide +kernel
theorem dX8_plan_131 : decode cX8_plan 131 = .ok (.goto (-121), 3) := by decide +kernel
theorem dX8_plan_134 : decode cX8_plan 134 = .ok (.return_, 1) := by decide +kernel
theorem dX8_nextBehind_0 : decode cX8_nextBehind 0 = .ok (.aload_n 0, 1) := by decide +kernel
theorem dX8_nextBehind_1 : decode cX8_nextBehind 1 = .ok (.getfield 11, 3) := by decide +kernel
theorem dX8_nextBehind_4 : decode cX8_nextBehind 4 = .ok (.iload_n 1, 1) := by decide +kernel
theorem dX8_nextBehind_5 : decode cX8_nextBehind 5 = .ok (.aload_n 0, 1) := by decide +kernel
theorem dX8_nextBehind_6 : decode cX8_nextBehind 6 = .ok (.getfield 34, 3) := by decide +kernel
theorem dX8_nextBehind_9 : decode cX8_nextBehind 9 = .ok (.invokestatic 56, 3) := by decide +kernel
theorem dX8_nextBehind_12 : decode cX8_nextBehind 12 = .ok (.iaload, 1) := by decide +kernel
theorem dX8_nextBehind_13 : decode cX8_nextBehind 13 = .ok (.ireturn, 1) := by decide +kernel
theorem dX8_rowBehind_0 : decode cX8_rowBehind 0 = .ok (.aload_n 1, 1) := by decide +kernel
theorem dX8_rowBehind_1 : decode cX8_rowBehind 1 = .ok (.getfield 62, 3) := by decide +kernel
theorem dX8_rowBehind_4 : decode cX8_rowBehind 4 = .ok (.iload_n 3, 1) := by decide +kernel
theorem dX8_rowBehind_5 : decode cX8_rowBehind 5 = .ok (.iaload, 1) := by decide +kernel
theorem dX8_rowBehind_6 : decode cX8_rowBehind 6 = .ok (.istore 4, 2) := by decide +kernel
theorem dX8_rowBehind_8 : decode cX8_rowBehind 8 = .ok (.iload_n 2, 1) := by decide +kernel
theorem dX8_rowBehind_9 : decode cX8_rowBehind 9 = .ok (.aload_n 0, 1) := by decide +kernel
theorem dX8_rowBehind_10 : decode cX8_rowBehind 10 = .ok (.getfield 34, 3) := by decide +kernel
theorem dX8_rowBehind_13 : decode cX8_rowBehind 13 = .ok (.invokestatic 56, 3) := by decide +kernel
theorem dX8_rowBehind_16 : decode cX8_rowBehind 16 = .ok (.istore 5, 2) := by decide +kernel
theorem dX8_rowBehind_18 : decode cX8_rowBehind 18 = .ok (.iconst 0, 1) := by decide +kernel
theorem dX8_rowBehind_19 : decode cX8_rowBehind 19 = .ok (.istore 6, 2) := by decide +kernel
theorem dX8_rowBehind_21 : decode cX8_rowBehind 21 = .ok (.iload 6, 2) := by decide +kernel
theorem dX8_rowBehind_23 : decode cX8_rowBehind 23 = .ok (.iload 5, 2) := by decide +kernel
theorem dX8_rowBehind_25 : decode cX8_rowBehind 25 = .ok (.if_icmp .ge 29, 3) := by decide +kernel
theorem dX8_rowBehind_28 : decode cX8_rowBehind 28 = .ok (.aload_n 0, 1) := by decide +kernel
theorem dX8_rowBehind_29 : decode cX8_rowBehind 29 = .ok (.getfield 11, 3) := by decide +kernel
theorem dX8_rowBehind_32 : decode cX8_rowBehind 32 = .ok (.iload 6, 2) := by decide +kernel
theorem dX8_rowBehind_34 : decode cX8_rowBehind 34 = .ok (.iaload, 1) := by decide +kernel
theorem dX8_rowBehind_35 : decode cX8_rowBehind 35 = .ok (.iload_n 3, 1) := by decide +kernel
theorem dX8_rowBehind_36 : decode cX8_rowBehind 36 = .ok (.if_icmp .ne 12, 3) := by decide +kernel
theorem dX8_rowBehind_39 : decode cX8_rowBehind 39 = .ok (.aload_n 0, 1) := by decide +kernel
theorem dX8_rowBehind_40 : decode cX8_rowBehind 40 = .ok (.getfield 15, 3) := by decide +kernel
theorem dX8_rowBehind_43 : decode cX8_rowBehind 43 = .ok (.iload 6, 2) := by decide +kernel
theorem dX8_rowBehind_45 : decode cX8_rowBehind 45 = .ok (.iaload, 1) := by decide +kernel
theorem dX8_rowBehind_46 : decode cX8_rowBehind 46 = .ok (.istore 4, 2) := by decide +kernel
theorem dX8_rowBehind_48 : decode cX8_rowBehind 48 = .ok (.iinc 6 1, 3) := by decide +kernel
theorem dX8_rowBehind_51 : decode cX8_rowBehind 51 = .ok (.goto (-30), 3) := by decide +kernel
theorem dX8_rowBehind_54 : decode cX8_rowBehind 54 = .ok (.iload 4, 2) := by decide +kernel
theorem dX8_rowBehind_56 : decode cX8_rowBehind 56 = .ok (.ireturn, 1) := by decide +kernel
theorem dX8_step_0 : decode cX8_step 0 = .ok (.iload_n 1, 1) := by decide +kernel
theorem dX8_step_1 : decode cX8_step 1 = .ok (.aload_n 0, 1) := by decide +kernel
theorem dX8_step_2 : decode cX8_step 2 = .ok (.getfield 34, 3) := by decide +kernel
theorem dX8_step_5 : decode cX8_step 5 = .ok (.if_icmp .ge 17, 3) := by decide +kernel
theorem dX8_step_8 : decode cX8_step 8 = .ok (.aload_n 2, 1) := by decide +kernel
theorem dX8_step_9 : decode cX8_step 9 = .ok (.aload_n 0, 1) := by decide +kernel
theorem dX8_step_10 : decode cX8_step 10 = .ok (.getfield 11, 3) := by decide +kernel
theorem dX8_step_13 : decode cX8_step 13 = .ok (.iload_n 1, 1) := by decide +kernel
theorem dX8_step_14 : decode cX8_step 14 = .ok (.iaload, 1) := by decide +kernel
theorem dX8_step_15 : decode cX8_step 15 = .ok (.aload_n 0, 1) := by decide +kernel
theorem dX8_step_16 : decode cX8_step 16 = .ok (.getfield 15, 3) := by decide +kernel
theorem dX8_step_19 : decode cX8_step 19 = .ok (.iload_n 1, 1) := by decide +kernel
theorem dX8_step_20 : decode cX8_step 20 = .ok (.iaload, 1) := by decide +kernel
theorem dX8_step_21 : decode cX8_step 21 = .ok (.iastore, 1) := by decide +kernel
theorem dX8_step_22 : decode cX8_step 22 = .ok (.return_, 1) := by decide +kernel
theorem dX8_movesAheadOf_0 : decode cX8_movesAheadOf 0 = .ok (.aload_n 0, 1) := by decide +kernel
theorem dX8_movesAheadOf_1 : decode cX8_movesAheadOf 1 = .ok (.iconst 0, 1) := by decide +kernel
theorem dX8_movesAheadOf_2 : decode cX8_movesAheadOf 2 = .ok (.aload_n 0, 1) := by decide +kernel
theorem dX8_movesAheadOf_3 : decode cX8_movesAheadOf 3 = .ok (.getfield 34, 3) := by decide +kernel
theorem dX8_movesAheadOf_6 : decode cX8_movesAheadOf 6 = .ok (.iload_n 1, 1) := by decide +kernel
theorem dX8_movesAheadOf_7 : decode cX8_movesAheadOf 7 = .ok (.invokevirtual 65, 3) := by decide +kernel
theorem dX8_movesAheadOf_10 : decode cX8_movesAheadOf 10 = .ok (.istore_n 2, 1) := by decide +kernel
theorem dX8_movesAheadOf_11 : decode cX8_movesAheadOf 11 = .ok (.aload_n 0, 1) := by decide +kernel
theorem dX8_movesAheadOf_12 : decode cX8_movesAheadOf 12 = .ok (.getfield 21, 3) := by decide +kernel
theorem dX8_movesAheadOf_15 : decode cX8_movesAheadOf 15 = .ok (.iload_n 2, 1) := by decide +kernel
theorem dX8_movesAheadOf_16 : decode cX8_movesAheadOf 16 = .ok (.iaload, 1) := by decide +kernel
theorem dX8_movesAheadOf_17 : decode cX8_movesAheadOf 17 = .ok (.iload_n 1, 1) := by decide +kernel
theorem dX8_movesAheadOf_18 : decode cX8_movesAheadOf 18 = .ok (.if_icmp .ge 8, 3) := by decide +kernel
theorem dX8_movesAheadOf_21 : decode cX8_movesAheadOf 21 = .ok (.bipush (-3), 2) := by decide +kernel
theorem dX8_movesAheadOf_23 : decode cX8_movesAheadOf 23 = .ok (.goto 4, 3) := by decide +kernel
theorem dX8_movesAheadOf_26 : decode cX8_movesAheadOf 26 = .ok (.iload_n 2, 1) := by decide +kernel
theorem dX8_movesAheadOf_27 : decode cX8_movesAheadOf 27 = .ok (.ireturn, 1) := by decide +kernel
theorem dX8_dueAheadOf_0 : decode cX8_dueAheadOf 0 = .ok (.iload_n 1, 1) := by decide +kernel
theorem dX8_dueAheadOf_1 : decode cX8_dueAheadOf 1 = .ok (.istore 4, 2) := by decide +kernel
theorem dX8_dueAheadOf_3 : decode cX8_dueAheadOf 3 = .ok (.iload 4, 2) := by decide +kernel
theorem dX8_dueAheadOf_5 : decode cX8_dueAheadOf 5 = .ok (.iload_n 2, 1) := by decide +kernel
theorem dX8_dueAheadOf_6 : decode cX8_dueAheadOf 6 = .ok (.if_icmp .ge 20, 3) := by decide +kernel
theorem dX8_dueAheadOf_9 : decode cX8_dueAheadOf 9 = .ok (.aload_n 0, 1) := by decide +kernel
theorem dX8_dueAheadOf_10 : decode cX8_dueAheadOf 10 = .ok (.getfield 21, 3) := by decide +kernel
theorem dX8_dueAheadOf_13 : decode cX8_dueAheadOf 13 = .ok (.iload 4, 2) := by decide +kernel
theorem dX8_dueAheadOf_15 : decode cX8_dueAheadOf 15 = .ok (.iaload, 1) := by decide +kernel
theorem dX8_dueAheadOf_16 : decode cX8_dueAheadOf 16 = .ok (.iload_n 3, 1) := by decide +kernel
theorem dX8_dueAheadOf_17 : decode cX8_dueAheadOf 17 = .ok (.if_icmp .ge 9, 3) := by decide +kernel
theorem dX8_dueAheadOf_20 : decode cX8_dueAheadOf 20 = .ok (.iinc 4 1, 3) := by decide +kernel
theorem dX8_dueAheadOf_23 : decode cX8_dueAheadOf 23 = .ok (.goto (-20), 3) := by decide +kernel
theorem dX8_dueAheadOf_26 : decode cX8_dueAheadOf 26 = .ok (.iload 4, 2) := by decide +kernel
theorem dX8_dueAheadOf_28 : decode cX8_dueAheadOf 28 = .ok (.ireturn, 1) := by decide +kernel
theorem dX8_madeInWeek_0 : decode cX8_madeInWeek 0 = .ok (.iload_n 1, 1) := by decide +kernel
theorem dX8_madeInWeek_1 : decode cX8_madeInWeek 1 = .ok (.istore 4, 2) := by decide +kernel
theorem dX8_madeInWeek_3 : decode cX8_madeInWeek 3 = .ok (.iload_n 3, 1) := by decide +kernel
theorem dX8_madeInWeek_4 : decode cX8_madeInWeek 4 = .ok (.istore 5, 2) := by decide +kernel
theorem dX8_madeInWeek_6 : decode cX8_madeInWeek 6 = .ok (.iload 4, 2) := by decide +kernel
theorem dX8_madeInWeek_8 : decode cX8_madeInWeek 8 = .ok (.iload_n 2, 1) := by decide +kernel
theorem dX8_madeInWeek_9 : decode cX8_madeInWeek 9 = .ok (.if_icmp .ge 33, 3) := by decide +kernel
theorem dX8_madeInWeek_12 : decode cX8_madeInWeek 12 = .ok (.aload_n 0, 1) := by decide +kernel
theorem dX8_madeInWeek_13 : decode cX8_madeInWeek 13 = .ok (.getfield 18, 3) := by decide +kernel
theorem dX8_madeInWeek_16 : decode cX8_madeInWeek 16 = .ok (.iload 4, 2) := by decide +kernel
theorem dX8_madeInWeek_18 : decode cX8_madeInWeek 18 = .ok (.iaload, 1) := by decide +kernel
theorem dX8_madeInWeek_19 : decode cX8_madeInWeek 19 = .ok (.iload 5, 2) := by decide +kernel
theorem dX8_madeInWeek_21 : decode cX8_madeInWeek 21 = .ok (.if_icmp .gt 21, 3) := by decide +kernel
theorem dX8_madeInWeek_24 : decode cX8_madeInWeek 24 = .ok (.iload 5, 2) := by decide +kernel
theorem dX8_madeInWeek_26 : decode cX8_madeInWeek 26 = .ok (.aload_n 0, 1) := by decide +kernel
theorem dX8_madeInWeek_27 : decode cX8_madeInWeek 27 = .ok (.getfield 18, 3) := by decide +kernel
theorem dX8_madeInWeek_30 : decode cX8_madeInWeek 30 = .ok (.iload 4, 2) := by decide +kernel
theorem dX8_madeInWeek_32 : decode cX8_madeInWeek 32 = .ok (.iaload, 1) := by decide +kernel
theorem dX8_madeInWeek_33 : decode cX8_madeInWeek 33 = .ok (.isub, 1) := by decide +kernel
theorem dX8_madeInWeek_34 : decode cX8_madeInWeek 34 = .ok (.istore 5, 2) := by decide +kernel
theorem dX8_madeInWeek_36 : decode cX8_madeInWeek 36 = .ok (.iinc 4 1, 3) := by decide +kernel
theorem dX8_madeInWeek_39 : decode cX8_madeInWeek 39 = .ok (.goto (-33), 3) := by decide +kernel
theorem dX8_madeInWeek_42 : decode cX8_madeInWeek 42 = .ok (.iload 4, 2) := by decide +kernel
theorem dX8_madeInWeek_44 : decode cX8_madeInWeek 44 = .ok (.ireturn, 1) := by decide +kernel
theorem dX8_handsForFirst_0 : decode cX8_handsForFirst 0 = .ok (.iconst 0, 1) := by decide +kernel
theorem dX8_handsForFirst_1 : decode cX8_handsForFirst 1 = .ok (.istore_n 2, 1) := by decide +kernel
theorem dX8_handsForFirst_2 : decode cX8_handsForFirst 2 = .ok (.iconst 0, 1) := by decide +kernel
theorem dX8_handsForFirst_3 : decode cX8_handsForFirst 3 = .ok (.istore_n 3, 1) := by decide +kernel
theorem dX8_handsForFirst_4 : decode cX8_handsForFirst 4 = .ok (.iload_n 3, 1) := by decide +kernel
theorem dX8_handsForFirst_5 : decode cX8_handsForFirst 5 = .ok (.iload_n 1, 1) := by decide +kernel
theorem dX8_handsForFirst_6 : decode cX8_handsForFirst 6 = .ok (.if_icmp .ge 18, 3) := by decide +kernel
theorem dX8_handsForFirst_9 : decode cX8_handsForFirst 9 = .ok (.iload_n 2, 1) := by decide +kernel
theorem dX8_handsForFirst_10 : decode cX8_handsForFirst 10 = .ok (.aload_n 0, 1) := by decide +kernel
theorem dX8_handsForFirst_11 : decode cX8_handsForFirst 11 = .ok (.getfield 18, 3) := by decide +kernel
theorem dX8_handsForFirst_14 : decode cX8_handsForFirst 14 = .ok (.iload_n 3, 1) := by decide +kernel
theorem dX8_handsForFirst_15 : decode cX8_handsForFirst 15 = .ok (.iaload, 1) := by decide +kernel
theorem dX8_handsForFirst_16 : decode cX8_handsForFirst 16 = .ok (.iadd, 1) := by decide +kernel
theorem dX8_handsForFirst_17 : decode cX8_handsForFirst 17 = .ok (.istore_n 2, 1) := by decide +kernel
theorem dX8_handsForFirst_18 : decode cX8_handsForFirst 18 = .ok (.iinc 3 1, 3) := by decide +kernel
theorem dX8_handsForFirst_21 : decode cX8_handsForFirst 21 = .ok (.goto (-17), 3) := by decide +kernel
theorem dX8_handsForFirst_24 : decode cX8_handsForFirst 24 = .ok (.iload_n 2, 1) := by decide +kernel
theorem dX8_handsForFirst_25 : decode cX8_handsForFirst 25 = .ok (.ireturn, 1) := by decide +kernel

theorem dX0_init_0 : decode cX0_init 0 = .ok (.aload_n 0, 1) := by decide +kernel
theorem dX0_init_1 : decode cX0_init 1 = .ok (.invokespecial 3, 3) := by decide +kernel
theorem dX0_init_4 : decode cX0_init 4 = .ok (.aload_n 0, 1) := by decide +kernel
theorem dX0_init_5 : decode cX0_init 5 = .ok (.iconst (-1), 1) := by decide +kernel
theorem dX0_init_6 : decode cX0_init 6 = .ok (.putfield 9, 3) := by decide +kernel
theorem dX0_init_9 : decode cX0_init 9 = .ok (.aload_n 0, 1) := by decide +kernel
theorem dX0_init_10 : decode cX0_init 10 = .ok (.iload_n 1, 1) := by decide +kernel
theorem dX0_init_11 : decode cX0_init 11 = .ok (.putfield 15, 3) := by decide +kernel
theorem dX0_init_14 : decode cX0_init 14 = .ok (.aload_n 0, 1) := by decide +kernel
theorem dX0_init_15 : decode cX0_init 15 = .ok (.iload_n 2, 1) := by decide +kernel
theorem dX0_init_16 : decode cX0_init 16 = .ok (.putfield 18, 3) := by decide +kernel
theorem dX0_init_19 : decode cX0_init 19 = .ok (.aload_n 0, 1) := by decide +kernel
theorem dX0_init_20 : decode cX0_init 20 = .ok (.iload_n 3, 1) := by decide +kernel
theorem dX0_init_21 : decode cX0_init 21 = .ok (.putfield 21, 3) := by decide +kernel
theorem dX0_init_24 : decode cX0_init 24 = .ok (.return_, 1) := by decide +kernel
theorem dX0_kind_0 : decode cX0_kind 0 = .ok (.iconst 0, 1) := by decide +kernel
theorem dX0_kind_1 : decode cX0_kind 1 = .ok (.ireturn, 1) := by decide +kernel
theorem dX0_breathsOf_0 : decode cX0_breathsOf 0 = .ok (.iload_n 1, 1) := by decide +kernel
theorem dX0_breathsOf_1 : decode cX0_breathsOf 1 = .ok (.ireturn, 1) := by decide +kernel
theorem dX0_echo_0 : decode cX0_echo 0 = .ok (.iconst 0, 1) := by decide +kernel
theorem dX0_echo_1 : decode cX0_echo 1 = .ok (.ireturn, 1) := by decide +kernel
theorem dX0_endBy_0 : decode cX0_endBy 0 = .ok (.aload_n 0, 1) := by decide +kernel
theorem dX0_endBy_1 : decode cX0_endBy 1 = .ok (.iload_n 2, 1) := by decide +kernel
theorem dX0_endBy_2 : decode cX0_endBy 2 = .ok (.invokevirtual 24, 3) := by decide +kernel
theorem dX0_endBy_5 : decode cX0_endBy 5 = .ok (.iconst 1, 1) := by decide +kernel
theorem dX0_endBy_6 : decode cX0_endBy 6 = .ok (.iadd, 1) := by decide +kernel
theorem dX0_endBy_7 : decode cX0_endBy 7 = .ok (.istore_n 3, 1) := by decide +kernel
theorem dX0_endBy_8 : decode cX0_endBy 8 = .ok (.iload_n 1, 1) := by decide +kernel
theorem dX0_endBy_9 : decode cX0_endBy 9 = .ok (.iconst (-1), 1) := by decide +kernel
theorem dX0_endBy_10 : decode cX0_endBy 10 = .ok (.if_icmp .ne 7, 3) := by decide +kernel
theorem dX0_endBy_13 : decode cX0_endBy 13 = .ok (.iload_n 3, 1) := by decide +kernel
theorem dX0_endBy_14 : decode cX0_endBy 14 = .ok (.goto 8, 3) := by decide +kernel
theorem dX0_endBy_17 : decode cX0_endBy 17 = .ok (.iload_n 1, 1) := by decide +kernel
theorem dX0_endBy_18 : decode cX0_endBy 18 = .ok (.iload_n 3, 1) := by decide +kernel
theorem dX0_endBy_19 : decode cX0_endBy 19 = .ok (.invokestatic 28, 3) := by decide +kernel
theorem dX0_endBy_22 : decode cX0_endBy 22 = .ok (.ireturn, 1) := by decide +kernel
theorem dX0_priceAt_0 : decode cX0_priceAt 0 = .ok (.iconst 0, 1) := by decide +kernel
theorem dX0_priceAt_1 : decode cX0_priceAt 1 = .ok (.bipush 10, 2) := by decide +kernel
theorem dX0_priceAt_3 : decode cX0_priceAt 3 = .ok (.aload_n 0, 1) := by decide +kernel
theorem dX0_priceAt_4 : decode cX0_priceAt 4 = .ok (.getfield 18, 3) := by decide +kernel
theorem dX0_priceAt_7 : decode cX0_priceAt 7 = .ok (.imul, 1) := by decide +kernel
theorem dX0_priceAt_8 : decode cX0_priceAt 8 = .ok (.iload_n 2, 1) := by decide +kernel
theorem dX0_priceAt_9 : decode cX0_priceAt 9 = .ok (.iload_n 1, 1) := by decide +kernel
theorem dX0_priceAt_10 : decode cX0_priceAt 10 = .ok (.iconst 1, 1) := by decide +kernel
theorem dX0_priceAt_11 : decode cX0_priceAt 11 = .ok (.isub, 1) := by decide +kernel
theorem dX0_priceAt_12 : decode cX0_priceAt 12 = .ok (.imul, 1) := by decide +kernel
theorem dX0_priceAt_13 : decode cX0_priceAt 13 = .ok (.isub, 1) := by decide +kernel
theorem dX0_priceAt_14 : decode cX0_priceAt 14 = .ok (.invokestatic 34, 3) := by decide +kernel
theorem dX0_priceAt_17 : decode cX0_priceAt 17 = .ok (.ireturn, 1) := by decide +kernel
theorem dX1_init_0 : decode cX1_init 0 = .ok (.aload_n 0, 1) := by decide +kernel
theorem dX1_init_1 : decode cX1_init 1 = .ok (.iload_n 1, 1) := by decide +kernel
theorem dX1_init_2 : decode cX1_init 2 = .ok (.iload_n 2, 1) := by decide +kernel
theorem dX1_init_3 : decode cX1_init 3 = .ok (.iload_n 3, 1) := by decide +kernel
theorem dX1_init_4 : decode cX1_init 4 = .ok (.invokespecial 1, 3) := by decide +kernel
theorem dX1_init_7 : decode cX1_init 7 = .ok (.return_, 1) := by decide +kernel
theorem dX1_kind_0 : decode cX1_kind 0 = .ok (.iconst 4, 1) := by decide +kernel
theorem dX1_kind_1 : decode cX1_kind 1 = .ok (.ireturn, 1) := by decide +kernel
theorem dX1_priceAt_0 : decode cX1_priceAt 0 = .ok (.bipush 10, 2) := by decide +kernel
theorem dX1_priceAt_2 : decode cX1_priceAt 2 = .ok (.aload_n 0, 1) := by decide +kernel
theorem dX1_priceAt_3 : decode cX1_priceAt 3 = .ok (.getfield 9, 3) := by decide +kernel
theorem dX1_priceAt_6 : decode cX1_priceAt 6 = .ok (.imul, 1) := by decide +kernel
theorem dX1_priceAt_7 : decode cX1_priceAt 7 = .ok (.ireturn, 1) := by decide +kernel
theorem dX2_init_0 : decode cX2_init 0 = .ok (.aload_n 0, 1) := by decide +kernel
theorem dX2_init_1 : decode cX2_init 1 = .ok (.invokespecial 3, 3) := by decide +kernel
theorem dX2_init_4 : decode cX2_init 4 = .ok (.aload_n 0, 1) := by decide +kernel
theorem dX2_init_5 : decode cX2_init 5 = .ok (.new 9, 3) := by decide +kernel
theorem dX2_init_8 : decode cX2_init 8 = .ok (.dup, 1) := by decide +kernel
theorem dX2_init_9 : decode cX2_init 9 = .ok (.invokespecial 11, 3) := by decide +kernel
theorem dX2_init_12 : decode cX2_init 12 = .ok (.putfield 12, 3) := by decide +kernel
theorem dX2_init_15 : decode cX2_init 15 = .ok (.aload_n 0, 1) := by decide +kernel
theorem dX2_init_16 : decode cX2_init 16 = .ok (.iconst 5, 1) := by decide +kernel
theorem dX2_init_17 : decode cX2_init 17 = .ok (.newarray .int, 2) := by decide +kernel
theorem dX2_init_19 : decode cX2_init 19 = .ok (.putfield 18, 3) := by decide +kernel
theorem dX2_init_22 : decode cX2_init 22 = .ok (.aload_n 0, 1) := by decide +kernel
theorem dX2_init_23 : decode cX2_init 23 = .ok (.iconst 5, 1) := by decide +kernel
theorem dX2_init_24 : decode cX2_init 24 = .ok (.newarray .int, 2) := by decide +kernel
theorem dX2_init_26 : decode cX2_init 26 = .ok (.putfield 22, 3) := by decide +kernel
theorem dX2_init_29 : decode cX2_init 29 = .ok (.aload_n 0, 1) := by decide +kernel
theorem dX2_init_30 : decode cX2_init 30 = .ok (.iconst 5, 1) := by decide +kernel
theorem dX2_init_31 : decode cX2_init 31 = .ok (.newarray .int, 2) := by decide +kernel
theorem dX2_init_33 : decode cX2_init 33 = .ok (.putfield 25, 3) := by decide +kernel
theorem dX2_init_36 : decode cX2_init 36 = .ok (.aload_n 0, 1) := by decide +kernel
theorem dX2_init_37 : decode cX2_init 37 = .ok (.iconst 5, 1) := by decide +kernel
theorem dX2_init_38 : decode cX2_init 38 = .ok (.newarray .int, 2) := by decide +kernel
theorem dX2_init_40 : decode cX2_init 40 = .ok (.putfield 28, 3) := by decide +kernel
theorem dX2_init_43 : decode cX2_init 43 = .ok (.aload_n 0, 1) := by decide +kernel
theorem dX2_init_44 : decode cX2_init 44 = .ok (.iconst (-1), 1) := by decide +kernel
theorem dX2_init_45 : decode cX2_init 45 = .ok (.putfield 31, 3) := by decide +kernel
theorem dX2_init_48 : decode cX2_init 48 = .ok (.return_, 1) := by decide +kernel
theorem dX2_takeAsItIs_0 : decode cX2_takeAsItIs 0 = .ok (.iconst 0, 1) := by decide +kernel
theorem dX2_takeAsItIs_1 : decode cX2_takeAsItIs 1 = .ok (.istore_n 1, 1) := by decide +kernel
theorem dX2_takeAsItIs_2 : decode cX2_takeAsItIs 2 = .ok (.iload_n 1, 1) := by decide +kernel
theorem dX2_takeAsItIs_3 : decode cX2_takeAsItIs 3 = .ok (.aload_n 0, 1) := by decide +kernel
theorem dX2_takeAsItIs_4 : decode cX2_takeAsItIs 4 = .ok (.getfield 12, 3) := by decide +kernel
theorem dX2_takeAsItIs_7 : decode cX2_takeAsItIs 7 = .ok (.getfield 35, 3) := by decide +kernel
theorem dX2_takeAsItIs_10 : decode cX2_takeAsItIs 10 = .ok (.if_icmp .ge 47, 3) := by decide +kernel
theorem dX2_takeAsItIs_13 : decode cX2_takeAsItIs 13 = .ok (.aload_n 0, 1) := by decide +kernel
theorem dX2_takeAsItIs_14 : decode cX2_takeAsItIs 14 = .ok (.getfield 12, 3) := by decide +kernel
theorem dX2_takeAsItIs_17 : decode cX2_takeAsItIs 17 = .ok (.getfield 38, 3) := by decide +kernel
theorem dX2_takeAsItIs_20 : decode cX2_takeAsItIs 20 = .ok (.iload_n 1, 1) := by decide +kernel
theorem dX2_takeAsItIs_21 : decode cX2_takeAsItIs 21 = .ok (.aaload, 1) := by decide +kernel
theorem dX2_takeAsItIs_22 : decode cX2_takeAsItIs 22 = .ok (.astore_n 2, 1) := by decide +kernel
theorem dX2_takeAsItIs_23 : decode cX2_takeAsItIs 23 = .ok (.aload_n 0, 1) := by decide +kernel
theorem dX2_takeAsItIs_24 : decode cX2_takeAsItIs 24 = .ok (.getfield 18, 3) := by decide +kernel
theorem dX2_takeAsItIs_27 : decode cX2_takeAsItIs 27 = .ok (.iload_n 1, 1) := by decide +kernel
theorem dX2_takeAsItIs_28 : decode cX2_takeAsItIs 28 = .ok (.aload_n 2, 1) := by decide +kernel
theorem dX2_takeAsItIs_29 : decode cX2_takeAsItIs 29 = .ok (.aload_n 2, 1) := by decide +kernel
theorem dX2_takeAsItIs_30 : decode cX2_takeAsItIs 30 = .ok (.getfield 42, 3) := by decide +kernel
theorem dX2_takeAsItIs_33 : decode cX2_takeAsItIs 33 = .ok (.aload_n 2, 1) := by decide +kernel
theorem dX2_takeAsItIs_34 : decode cX2_takeAsItIs 34 = .ok (.getfield 47, 3) := by decide +kernel
theorem dX2_takeAsItIs_37 : decode cX2_takeAsItIs 37 = .ok (.invokevirtual 50, 3) := by decide +kernel
theorem dX2_takeAsItIs_40 : decode cX2_takeAsItIs 40 = .ok (.iastore, 1) := by decide +kernel
theorem dX2_takeAsItIs_41 : decode cX2_takeAsItIs 41 = .ok (.aload_n 0, 1) := by decide +kernel
theorem dX2_takeAsItIs_42 : decode cX2_takeAsItIs 42 = .ok (.getfield 22, 3) := by decide +kernel
theorem dX2_takeAsItIs_45 : decode cX2_takeAsItIs 45 = .ok (.iload_n 1, 1) := by decide +kernel
theorem dX2_takeAsItIs_46 : decode cX2_takeAsItIs 46 = .ok (.aload_n 2, 1) := by decide +kernel
theorem dX2_takeAsItIs_47 : decode cX2_takeAsItIs 47 = .ok (.getfield 54, 3) := by decide +kernel
theorem dX2_takeAsItIs_50 : decode cX2_takeAsItIs 50 = .ok (.iastore, 1) := by decide +kernel
theorem dX2_takeAsItIs_51 : decode cX2_takeAsItIs 51 = .ok (.iinc 1 1, 3) := by decide +kernel
theorem dX2_takeAsItIs_54 : decode cX2_takeAsItIs 54 = .ok (.goto (-52), 3) := by decide +kernel
theorem dX2_takeAsItIs_57 : decode cX2_takeAsItIs 57 = .ok (.return_, 1) := by decide +kernel
theorem dX2_supposeChoice_0 : decode cX2_supposeChoice 0 = .ok (.aload_n 0, 1) := by decide +kernel
theorem dX2_supposeChoice_1 : decode cX2_supposeChoice 1 = .ok (.getfield 12, 3) := by decide +kernel
theorem dX2_supposeChoice_4 : decode cX2_supposeChoice 4 = .ok (.getfield 38, 3) := by decide +kernel
theorem dX2_supposeChoice_7 : decode cX2_supposeChoice 7 = .ok (.iload_n 1, 1) := by decide +kernel
theorem dX2_supposeChoice_8 : decode cX2_supposeChoice 8 = .ok (.aaload, 1) := by decide +kernel
theorem dX2_supposeChoice_9 : decode cX2_supposeChoice 9 = .ok (.astore_n 3, 1) := by decide +kernel
theorem dX2_supposeChoice_10 : decode cX2_supposeChoice 10 = .ok (.aload_n 0, 1) := by decide +kernel
theorem dX2_supposeChoice_11 : decode cX2_supposeChoice 11 = .ok (.getfield 18, 3) := by decide +kernel
theorem dX2_supposeChoice_14 : decode cX2_supposeChoice 14 = .ok (.iload_n 1, 1) := by decide +kernel
theorem dX2_supposeChoice_15 : decode cX2_supposeChoice 15 = .ok (.aload_n 3, 1) := by decide +kernel
theorem dX2_supposeChoice_16 : decode cX2_supposeChoice 16 = .ok (.iload_n 2, 1) := by decide +kernel
theorem dX2_supposeChoice_17 : decode cX2_supposeChoice 17 = .ok (.aload_n 3, 1) := by decide +kernel
theorem dX2_supposeChoice_18 : decode cX2_supposeChoice 18 = .ok (.getfield 47, 3) := by decide +kernel
theorem dX2_supposeChoice_21 : decode cX2_supposeChoice 21 = .ok (.invokevirtual 50, 3) := by decide +kernel
theorem dX2_supposeChoice_24 : decode cX2_supposeChoice 24 = .ok (.iastore, 1) := by decide +kernel
theorem dX2_supposeChoice_25 : decode cX2_supposeChoice 25 = .ok (.return_, 1) := by decide +kernel
theorem dX2_supposeWind_0 : decode cX2_supposeWind 0 = .ok (.aload_n 0, 1) := by decide +kernel
theorem dX2_supposeWind_1 : decode cX2_supposeWind 1 = .ok (.getfield 12, 3) := by decide +kernel
theorem dX2_supposeWind_4 : decode cX2_supposeWind 4 = .ok (.getfield 38, 3) := by decide +kernel
theorem dX2_supposeWind_7 : decode cX2_supposeWind 7 = .ok (.iload_n 1, 1) := by decide +kernel
theorem dX2_supposeWind_8 : decode cX2_supposeWind 8 = .ok (.aaload, 1) := by decide +kernel
theorem dX2_supposeWind_9 : decode cX2_supposeWind 9 = .ok (.astore_n 3, 1) := by decide +kernel
theorem dX2_supposeWind_10 : decode cX2_supposeWind 10 = .ok (.aload_n 0, 1) := by decide +kernel
theorem dX2_supposeWind_11 : decode cX2_supposeWind 11 = .ok (.getfield 18, 3) := by decide +kernel
theorem dX2_supposeWind_14 : decode cX2_supposeWind 14 = .ok (.iload_n 1, 1) := by decide +kernel
theorem dX2_supposeWind_15 : decode cX2_supposeWind 15 = .ok (.aload_n 3, 1) := by decide +kernel
theorem dX2_supposeWind_16 : decode cX2_supposeWind 16 = .ok (.aload_n 3, 1) := by decide +kernel
theorem dX2_supposeWind_17 : decode cX2_supposeWind 17 = .ok (.getfield 42, 3) := by decide +kernel
theorem dX2_supposeWind_20 : decode cX2_supposeWind 20 = .ok (.iload_n 2, 1) := by decide +kernel
theorem dX2_supposeWind_21 : decode cX2_supposeWind 21 = .ok (.invokevirtual 50, 3) := by decide +kernel
theorem dX2_supposeWind_24 : decode cX2_supposeWind 24 = .ok (.iastore, 1) := by decide +kernel
theorem dX2_supposeWind_25 : decode cX2_supposeWind 25 = .ok (.return_, 1) := by decide +kernel
theorem dX2_supposeTouch_0 : decode cX2_supposeTouch 0 = .ok (.aload_n 0, 1) := by decide +kernel
theorem dX2_supposeTouch_1 : decode cX2_supposeTouch 1 = .ok (.getfield 22, 3) := by decide +kernel
theorem dX2_supposeTouch_4 : decode cX2_supposeTouch 4 = .ok (.iload_n 2, 1) := by decide +kernel
theorem dX2_supposeTouch_5 : decode cX2_supposeTouch 5 = .ok (.dup2, 1) := by decide +kernel
theorem dX2_supposeTouch_6 : decode cX2_supposeTouch 6 = .ok (.iaload, 1) := by decide +kernel
theorem dX2_supposeTouch_7 : decode cX2_supposeTouch 7 = .ok (.iconst 1, 1) := by decide +kernel
theorem dX2_supposeTouch_8 : decode cX2_supposeTouch 8 = .ok (.iload_n 1, 1) := by decide +kernel
theorem dX2_supposeTouch_9 : decode cX2_supposeTouch 9 = .ok (.ishl, 1) := by decide +kernel
theorem dX2_supposeTouch_10 : decode cX2_supposeTouch 10 = .ok (.ior, 1) := by decide +kernel
theorem dX2_supposeTouch_11 : decode cX2_supposeTouch 11 = .ok (.iastore, 1) := by decide +kernel
theorem dX2_supposeTouch_12 : decode cX2_supposeTouch 12 = .ok (.return_, 1) := by decide +kernel
theorem dX2_runAsItIs_0 : decode cX2_runAsItIs 0 = .ok (.aload_n 0, 1) := by decide +kernel
theorem dX2_runAsItIs_1 : decode cX2_runAsItIs 1 = .ok (.invokevirtual 56, 3) := by decide +kernel
theorem dX2_runAsItIs_4 : decode cX2_runAsItIs 4 = .ok (.aload_n 0, 1) := by decide +kernel
theorem dX2_runAsItIs_5 : decode cX2_runAsItIs 5 = .ok (.invokevirtual 59, 3) := by decide +kernel
theorem dX2_runAsItIs_8 : decode cX2_runAsItIs 8 = .ok (.return_, 1) := by decide +kernel
theorem dX2_run_0 : decode cX2_run 0 = .ok (.aload_n 0, 1) := by decide +kernel
theorem dX2_run_1 : decode cX2_run 1 = .ok (.invokevirtual 62, 3) := by decide +kernel
theorem dX2_run_4 : decode cX2_run 4 = .ok (.iconst 0, 1) := by decide +kernel
theorem dX2_run_5 : decode cX2_run 5 = .ok (.istore_n 1, 1) := by decide +kernel
theorem dX2_run_6 : decode cX2_run 6 = .ok (.iload_n 1, 1) := by decide +kernel
theorem dX2_run_7 : decode cX2_run 7 = .ok (.aload_n 0, 1) := by decide +kernel
theorem dX2_run_8 : decode cX2_run 8 = .ok (.getfield 12, 3) := by decide +kernel
theorem dX2_run_11 : decode cX2_run 11 = .ok (.getfield 35, 3) := by decide +kernel
theorem dX2_run_14 : decode cX2_run 14 = .ok (.if_icmp .ge 34, 3) := by decide +kernel
theorem dX2_run_17 : decode cX2_run 17 = .ok (.aload_n 0, 1) := by decide +kernel
theorem dX2_run_18 : decode cX2_run 18 = .ok (.getfield 28, 3) := by decide +kernel
theorem dX2_run_21 : decode cX2_run 21 = .ok (.iload_n 1, 1) := by decide +kernel
theorem dX2_run_22 : decode cX2_run 22 = .ok (.aload_n 0, 1) := by decide +kernel
theorem dX2_run_23 : decode cX2_run 23 = .ok (.getfield 25, 3) := by decide +kernel
theorem dX2_run_26 : decode cX2_run 26 = .ok (.iload_n 1, 1) := by decide +kernel
theorem dX2_run_27 : decode cX2_run 27 = .ok (.iaload, 1) := by decide +kernel
theorem dX2_run_28 : decode cX2_run 28 = .ok (.aload_n 0, 1) := by decide +kernel
theorem dX2_run_29 : decode cX2_run 29 = .ok (.getfield 12, 3) := by decide +kernel
theorem dX2_run_32 : decode cX2_run 32 = .ok (.getfield 38, 3) := by decide +kernel
theorem dX2_run_35 : decode cX2_run 35 = .ok (.iload_n 1, 1) := by decide +kernel
theorem dX2_run_36 : decode cX2_run 36 = .ok (.aaload, 1) := by decide +kernel
theorem dX2_run_37 : decode cX2_run 37 = .ok (.invokevirtual 65, 3) := by decide +kernel
theorem dX2_run_40 : decode cX2_run 40 = .ok (.iadd, 1) := by decide +kernel
theorem dX2_run_41 : decode cX2_run 41 = .ok (.iastore, 1) := by decide +kernel
theorem dX2_run_42 : decode cX2_run 42 = .ok (.iinc 1 1, 3) := by decide +kernel
theorem dX2_run_45 : decode cX2_run 45 = .ok (.goto (-39), 3) := by decide +kernel
theorem dX2_run_48 : decode cX2_run 48 = .ok (.aload_n 0, 1) := by decide +kernel
theorem dX2_run_49 : decode cX2_run 49 = .ok (.invokevirtual 69, 3) := by decide +kernel
theorem dX2_run_52 : decode cX2_run 52 = .ok (.return_, 1) := by decide +kernel
theorem dX2_findStops_0 : decode cX2_findStops 0 = .ok (.iconst 0, 1) := by decide +kernel
theorem dX2_findStops_1 : decode cX2_findStops 1 = .ok (.istore_n 1, 1) := by decide +kernel
theorem dX2_findStops_2 : decode cX2_findStops 2 = .ok (.iload_n 1, 1) := by decide +kernel
theorem dX2_findStops_3 : decode cX2_findStops 3 = .ok (.aload_n 0, 1) := by decide +kernel
theorem dX2_findStops_4 : decode cX2_findStops 4 = .ok (.getfield 12, 3) := by decide +kernel
theorem dX2_findStops_7 : decode cX2_findStops 7 = .ok (.getfield 35, 3) := by decide +kernel
theorem dX2_findStops_10 : decode cX2_findStops 10 = .ok (.if_icmp .ge 21, 3) := by decide +kernel
theorem dX2_findStops_13 : decode cX2_findStops 13 = .ok (.aload_n 0, 1) := by decide +kernel
theorem dX2_findStops_14 : decode cX2_findStops 14 = .ok (.getfield 25, 3) := by decide +kernel
theorem dX2_findStops_17 : decode cX2_findStops 17 = .ok (.iload_n 1, 1) := by decide +kernel
theorem dX2_findStops_18 : decode cX2_findStops 18 = .ok (.aload_n 0, 1) := by decide +kernel
theorem dX2_findStops_19 : decode cX2_findStops 19 = .ok (.getfield 18, 3) := by decide +kernel
theorem dX2_findStops_22 : decode cX2_findStops 22 = .ok (.iload_n 1, 1) := by decide +kernel
theorem dX2_findStops_23 : decode cX2_findStops 23 = .ok (.iaload, 1) := by decide +kernel
theorem dX2_findStops_24 : decode cX2_findStops 24 = .ok (.iastore, 1) := by decide +kernel
theorem dX2_findStops_25 : decode cX2_findStops 25 = .ok (.iinc 1 1, 3) := by decide +kernel
theorem dX2_findStops_28 : decode cX2_findStops 28 = .ok (.goto (-26), 3) := by decide +kernel
theorem dX2_findStops_31 : decode cX2_findStops 31 = .ok (.iconst 1, 1) := by decide +kernel
theorem dX2_findStops_32 : decode cX2_findStops 32 = .ok (.istore_n 1, 1) := by decide +kernel
theorem dX2_findStops_33 : decode cX2_findStops 33 = .ok (.iconst 1, 1) := by decide +kernel
theorem dX2_findStops_34 : decode cX2_findStops 34 = .ok (.istore_n 2, 1) := by decide +kernel
theorem dX2_findStops_35 : decode cX2_findStops 35 = .ok (.iload_n 2, 1) := by decide +kernel
theorem dX2_findStops_36 : decode cX2_findStops 36 = .ok (.aload_n 0, 1) := by decide +kernel
theorem dX2_findStops_37 : decode cX2_findStops 37 = .ok (.getfield 12, 3) := by decide +kernel
theorem dX2_findStops_40 : decode cX2_findStops 40 = .ok (.getfield 35, 3) := by decide +kernel
theorem dX2_findStops_43 : decode cX2_findStops 43 = .ok (.if_icmp .ge 68, 3) := by decide +kernel
theorem dX2_findStops_46 : decode cX2_findStops 46 = .ok (.iload_n 1, 1) := by decide +kernel
theorem dX2_findStops_47 : decode cX2_findStops 47 = .ok (.ifCond .eq 64, 3) := by decide +kernel
theorem dX2_findStops_50 : decode cX2_findStops 50 = .ok (.iconst 0, 1) := by decide +kernel
theorem dX2_findStops_51 : decode cX2_findStops 51 = .ok (.istore_n 1, 1) := by decide +kernel
theorem dX2_findStops_52 : decode cX2_findStops 52 = .ok (.iconst 0, 1) := by decide +kernel
theorem dX2_findStops_53 : decode cX2_findStops 53 = .ok (.istore_n 3, 1) := by decide +kernel
theorem dX2_findStops_54 : decode cX2_findStops 54 = .ok (.iload_n 3, 1) := by decide +kernel
theorem dX2_findStops_55 : decode cX2_findStops 55 = .ok (.aload_n 0, 1) := by decide +kernel
theorem dX2_findStops_56 : decode cX2_findStops 56 = .ok (.getfield 12, 3) := by decide +kernel
theorem dX2_findStops_59 : decode cX2_findStops 59 = .ok (.getfield 35, 3) := by decide +kernel
theorem dX2_findStops_62 : decode cX2_findStops 62 = .ok (.if_icmp .ge 43, 3) := by decide +kernel
theorem dX2_findStops_65 : decode cX2_findStops 65 = .ok (.aload_n 0, 1) := by decide +kernel
theorem dX2_findStops_66 : decode cX2_findStops 66 = .ok (.iload_n 3, 1) := by decide +kernel
theorem dX2_findStops_67 : decode cX2_findStops 67 = .ok (.invokevirtual 72, 3) := by decide +kernel
theorem dX2_findStops_70 : decode cX2_findStops 70 = .ok (.istore 4, 2) := by decide +kernel
theorem dX2_findStops_72 : decode cX2_findStops 72 = .ok (.iload_n 1, 1) := by decide +kernel
theorem dX2_findStops_73 : decode cX2_findStops 73 = .ok (.iload 4, 2) := by decide +kernel
theorem dX2_findStops_75 : decode cX2_findStops 75 = .ok (.aload_n 0, 1) := by decide +kernel
theorem dX2_findStops_76 : decode cX2_findStops 76 = .ok (.getfield 25, 3) := by decide +kernel
theorem dX2_findStops_79 : decode cX2_findStops 79 = .ok (.iload_n 3, 1) := by decide +kernel
theorem dX2_findStops_80 : decode cX2_findStops 80 = .ok (.iaload, 1) := by decide +kernel
theorem dX2_findStops_81 : decode cX2_findStops 81 = .ok (.if_icmp .ge 7, 3) := by decide +kernel
theorem dX2_findStops_84 : decode cX2_findStops 84 = .ok (.iconst 1, 1) := by decide +kernel
theorem dX2_findStops_85 : decode cX2_findStops 85 = .ok (.goto 4, 3) := by decide +kernel
theorem dX2_findStops_88 : decode cX2_findStops 88 = .ok (.iconst 0, 1) := by decide +kernel
theorem dX2_findStops_89 : decode cX2_findStops 89 = .ok (.ior, 1) := by decide +kernel
theorem dX2_findStops_90 : decode cX2_findStops 90 = .ok (.istore_n 1, 1) := by decide +kernel
theorem dX2_findStops_91 : decode cX2_findStops 91 = .ok (.aload_n 0, 1) := by decide +kernel
theorem dX2_findStops_92 : decode cX2_findStops 92 = .ok (.getfield 25, 3) := by decide +kernel
theorem dX2_findStops_95 : decode cX2_findStops 95 = .ok (.iload_n 3, 1) := by decide +kernel
theorem dX2_findStops_96 : decode cX2_findStops 96 = .ok (.iload 4, 2) := by decide +kernel
theorem dX2_findStops_98 : decode cX2_findStops 98 = .ok (.iastore, 1) := by decide +kernel
theorem dX2_findStops_99 : decode cX2_findStops 99 = .ok (.iinc 3 1, 3) := by decide +kernel
theorem dX2_findStops_102 : decode cX2_findStops 102 = .ok (.goto (-48), 3) := by decide +kernel
theorem dX2_findStops_105 : decode cX2_findStops 105 = .ok (.iinc 2 1, 3) := by decide +kernel
theorem dX2_findStops_108 : decode cX2_findStops 108 = .ok (.goto (-73), 3) := by decide +kernel
theorem dX2_findStops_111 : decode cX2_findStops 111 = .ok (.return_, 1) := by decide +kernel
theorem dX2_stopByTouch_0 : decode cX2_stopByTouch 0 = .ok (.aload_n 0, 1) := by decide +kernel
theorem dX2_stopByTouch_1 : decode cX2_stopByTouch 1 = .ok (.getfield 25, 3) := by decide +kernel
theorem dX2_stopByTouch_4 : decode cX2_stopByTouch 4 = .ok (.iload_n 1, 1) := by decide +kernel
theorem dX2_stopByTouch_5 : decode cX2_stopByTouch 5 = .ok (.iaload, 1) := by decide +kernel
theorem dX2_stopByTouch_6 : decode cX2_stopByTouch 6 = .ok (.istore_n 2, 1) := by decide +kernel
theorem dX2_stopByTouch_7 : decode cX2_stopByTouch 7 = .ok (.aload_n 0, 1) := by decide +kernel
theorem dX2_stopByTouch_8 : decode cX2_stopByTouch 8 = .ok (.getfield 22, 3) := by decide +kernel
theorem dX2_stopByTouch_11 : decode cX2_stopByTouch 11 = .ok (.iload_n 1, 1) := by decide +kernel
theorem dX2_stopByTouch_12 : decode cX2_stopByTouch 12 = .ok (.iaload, 1) := by decide +kernel
theorem dX2_stopByTouch_13 : decode cX2_stopByTouch 13 = .ok (.ifCond .ne 5, 3) := by decide +kernel
theorem dX2_stopByTouch_16 : decode cX2_stopByTouch 16 = .ok (.iload_n 2, 1) := by decide +kernel
theorem dX2_stopByTouch_17 : decode cX2_stopByTouch 17 = .ok (.ireturn, 1) := by decide +kernel
theorem dX2_stopByTouch_18 : decode cX2_stopByTouch 18 = .ok (.iconst 0, 1) := by decide +kernel
theorem dX2_stopByTouch_19 : decode cX2_stopByTouch 19 = .ok (.istore_n 3, 1) := by decide +kernel
theorem dX2_stopByTouch_20 : decode cX2_stopByTouch 20 = .ok (.iload_n 3, 1) := by decide +kernel
theorem dX2_stopByTouch_21 : decode cX2_stopByTouch 21 = .ok (.aload_n 0, 1) := by decide +kernel
theorem dX2_stopByTouch_22 : decode cX2_stopByTouch 22 = .ok (.getfield 12, 3) := by decide +kernel
theorem dX2_stopByTouch_25 : decode cX2_stopByTouch 25 = .ok (.getfield 35, 3) := by decide +kernel
theorem dX2_stopByTouch_28 : decode cX2_stopByTouch 28 = .ok (.if_icmp .ge 36, 3) := by decide +kernel
theorem dX2_stopByTouch_31 : decode cX2_stopByTouch 31 = .ok (.aload_n 0, 1) := by decide +kernel
theorem dX2_stopByTouch_32 : decode cX2_stopByTouch 32 = .ok (.getfield 22, 3) := by decide +kernel
theorem dX2_stopByTouch_35 : decode cX2_stopByTouch 35 = .ok (.iload_n 1, 1) := by decide +kernel
theorem dX2_stopByTouch_36 : decode cX2_stopByTouch 36 = .ok (.iaload, 1) := by decide +kernel
theorem dX2_stopByTouch_37 : decode cX2_stopByTouch 37 = .ok (.iload_n 3, 1) := by decide +kernel
theorem dX2_stopByTouch_38 : decode cX2_stopByTouch 38 = .ok (.ishr, 1) := by decide +kernel
theorem dX2_stopByTouch_39 : decode cX2_stopByTouch 39 = .ok (.iconst 1, 1) := by decide +kernel
theorem dX2_stopByTouch_40 : decode cX2_stopByTouch 40 = .ok (.iand, 1) := by decide +kernel
theorem dX2_stopByTouch_41 : decode cX2_stopByTouch 41 = .ok (.iconst 1, 1) := by decide +kernel
theorem dX2_stopByTouch_42 : decode cX2_stopByTouch 42 = .ok (.if_icmp .ne 16, 3) := by decide +kernel
theorem dX2_stopByTouch_45 : decode cX2_stopByTouch 45 = .ok (.iload_n 2, 1) := by decide +kernel
theorem dX2_stopByTouch_46 : decode cX2_stopByTouch 46 = .ok (.aload_n 0, 1) := by decide +kernel
theorem dX2_stopByTouch_47 : decode cX2_stopByTouch 47 = .ok (.getfield 25, 3) := by decide +kernel
theorem dX2_stopByTouch_50 : decode cX2_stopByTouch 50 = .ok (.iload_n 3, 1) := by decide +kernel
theorem dX2_stopByTouch_51 : decode cX2_stopByTouch 51 = .ok (.iaload, 1) := by decide +kernel
theorem dX2_stopByTouch_52 : decode cX2_stopByTouch 52 = .ok (.iconst 1, 1) := by decide +kernel
theorem dX2_stopByTouch_53 : decode cX2_stopByTouch 53 = .ok (.iadd, 1) := by decide +kernel
theorem dX2_stopByTouch_54 : decode cX2_stopByTouch 54 = .ok (.invokestatic 76, 3) := by decide +kernel
theorem dX2_stopByTouch_57 : decode cX2_stopByTouch 57 = .ok (.istore_n 2, 1) := by decide +kernel
theorem dX2_stopByTouch_58 : decode cX2_stopByTouch 58 = .ok (.iinc 3 1, 3) := by decide +kernel
theorem dX2_stopByTouch_61 : decode cX2_stopByTouch 61 = .ok (.goto (-41), 3) := by decide +kernel
theorem dX2_stopByTouch_64 : decode cX2_stopByTouch 64 = .ok (.iload_n 2, 1) := by decide +kernel
theorem dX2_stopByTouch_65 : decode cX2_stopByTouch 65 = .ok (.ireturn, 1) := by decide +kernel
theorem dX2_findGetter_0 : decode cX2_findGetter 0 = .ok (.sipush 1000, 3) := by decide +kernel
theorem dX2_findGetter_3 : decode cX2_findGetter 3 = .ok (.istore_n 1, 1) := by decide +kernel
theorem dX2_findGetter_4 : decode cX2_findGetter 4 = .ok (.sipush 1000, 3) := by decide +kernel
theorem dX2_findGetter_7 : decode cX2_findGetter 7 = .ok (.istore_n 2, 1) := by decide +kernel
theorem dX2_findGetter_8 : decode cX2_findGetter 8 = .ok (.iconst (-1), 1) := by decide +kernel
theorem dX2_findGetter_9 : decode cX2_findGetter 9 = .ok (.istore_n 3, 1) := by decide +kernel
theorem dX2_findGetter_10 : decode cX2_findGetter 10 = .ok (.iconst (-1), 1) := by decide +kernel
theorem dX2_findGetter_11 : decode cX2_findGetter 11 = .ok (.istore 4, 2) := by decide +kernel
theorem dX2_findGetter_13 : decode cX2_findGetter 13 = .ok (.iconst 0, 1) := by decide +kernel
theorem dX2_findGetter_14 : decode cX2_findGetter 14 = .ok (.istore 5, 2) := by decide +kernel
theorem dX2_findGetter_16 : decode cX2_findGetter 16 = .ok (.iload 5, 2) := by decide +kernel
theorem dX2_findGetter_18 : decode cX2_findGetter 18 = .ok (.aload_n 0, 1) := by decide +kernel
theorem dX2_findGetter_19 : decode cX2_findGetter 19 = .ok (.getfield 12, 3) := by decide +kernel
theorem dX2_findGetter_22 : decode cX2_findGetter 22 = .ok (.getfield 35, 3) := by decide +kernel
theorem dX2_findGetter_25 : decode cX2_findGetter 25 = .ok (.if_icmp .ge 74, 3) := by decide +kernel
theorem dX2_findGetter_28 : decode cX2_findGetter 28 = .ok (.aload_n 0, 1) := by decide +kernel
theorem dX2_findGetter_29 : decode cX2_findGetter 29 = .ok (.getfield 28, 3) := by decide +kernel
theorem dX2_findGetter_32 : decode cX2_findGetter 32 = .ok (.iload 5, 2) := by decide +kernel
theorem dX2_findGetter_34 : decode cX2_findGetter 34 = .ok (.iaload, 1) := by decide +kernel
theorem dX2_findGetter_35 : decode cX2_findGetter 35 = .ok (.istore 6, 2) := by decide +kernel
theorem dX2_findGetter_37 : decode cX2_findGetter 37 = .ok (.iload 6, 2) := by decide +kernel
theorem dX2_findGetter_39 : decode cX2_findGetter 39 = .ok (.iload_n 1, 1) := by decide +kernel
theorem dX2_findGetter_40 : decode cX2_findGetter 40 = .ok (.if_icmp .ge 17, 3) := by decide +kernel
theorem dX2_findGetter_43 : decode cX2_findGetter 43 = .ok (.iload_n 1, 1) := by decide +kernel
theorem dX2_findGetter_44 : decode cX2_findGetter 44 = .ok (.istore_n 2, 1) := by decide +kernel
theorem dX2_findGetter_45 : decode cX2_findGetter 45 = .ok (.iload_n 3, 1) := by decide +kernel
theorem dX2_findGetter_46 : decode cX2_findGetter 46 = .ok (.istore 4, 2) := by decide +kernel
theorem dX2_findGetter_48 : decode cX2_findGetter 48 = .ok (.iload 6, 2) := by decide +kernel
theorem dX2_findGetter_50 : decode cX2_findGetter 50 = .ok (.istore_n 1, 1) := by decide +kernel
theorem dX2_findGetter_51 : decode cX2_findGetter 51 = .ok (.iload 5, 2) := by decide +kernel
theorem dX2_findGetter_53 : decode cX2_findGetter 53 = .ok (.istore_n 3, 1) := by decide +kernel
theorem dX2_findGetter_54 : decode cX2_findGetter 54 = .ok (.goto 39, 3) := by decide +kernel
theorem dX2_findGetter_57 : decode cX2_findGetter 57 = .ok (.iload 6, 2) := by decide +kernel
theorem dX2_findGetter_59 : decode cX2_findGetter 59 = .ok (.iload_n 1, 1) := by decide +kernel
theorem dX2_findGetter_60 : decode cX2_findGetter 60 = .ok (.if_icmp .ne 8, 3) := by decide +kernel
theorem dX2_findGetter_63 : decode cX2_findGetter 63 = .ok (.iconst (-1), 1) := by decide +kernel
theorem dX2_findGetter_64 : decode cX2_findGetter 64 = .ok (.istore_n 3, 1) := by decide +kernel
theorem dX2_findGetter_65 : decode cX2_findGetter 65 = .ok (.goto 28, 3) := by decide +kernel
theorem dX2_findGetter_68 : decode cX2_findGetter 68 = .ok (.iload 6, 2) := by decide +kernel
theorem dX2_findGetter_70 : decode cX2_findGetter 70 = .ok (.iload_n 2, 1) := by decide +kernel
theorem dX2_findGetter_71 : decode cX2_findGetter 71 = .ok (.if_icmp .ge 13, 3) := by decide +kernel
theorem dX2_findGetter_74 : decode cX2_findGetter 74 = .ok (.iload 6, 2) := by decide +kernel
theorem dX2_findGetter_76 : decode cX2_findGetter 76 = .ok (.istore_n 2, 1) := by decide +kernel
theorem dX2_findGetter_77 : decode cX2_findGetter 77 = .ok (.iload 5, 2) := by decide +kernel
theorem dX2_findGetter_79 : decode cX2_findGetter 79 = .ok (.istore 4, 2) := by decide +kernel
theorem dX2_findGetter_81 : decode cX2_findGetter 81 = .ok (.goto 12, 3) := by decide +kernel
theorem dX2_findGetter_84 : decode cX2_findGetter 84 = .ok (.iload 6, 2) := by decide +kernel
theorem dX2_findGetter_86 : decode cX2_findGetter 86 = .ok (.iload_n 2, 1) := by decide +kernel
theorem dX2_findGetter_87 : decode cX2_findGetter 87 = .ok (.if_icmp .ne 6, 3) := by decide +kernel
theorem dX2_findGetter_90 : decode cX2_findGetter 90 = .ok (.iconst (-1), 1) := by decide +kernel
theorem dX2_findGetter_91 : decode cX2_findGetter 91 = .ok (.istore 4, 2) := by decide +kernel
theorem dX2_findGetter_93 : decode cX2_findGetter 93 = .ok (.iinc 5 1, 3) := by decide +kernel
theorem dX2_findGetter_96 : decode cX2_findGetter 96 = .ok (.goto (-80), 3) := by decide +kernel
theorem dX2_findGetter_99 : decode cX2_findGetter 99 = .ok (.aload_n 0, 1) := by decide +kernel
theorem dX2_findGetter_100 : decode cX2_findGetter 100 = .ok (.iload_n 3, 1) := by decide +kernel
theorem dX2_findGetter_101 : decode cX2_findGetter 101 = .ok (.iconst (-1), 1) := by decide +kernel
theorem dX2_findGetter_102 : decode cX2_findGetter 102 = .ok (.if_icmp .ne 7, 3) := by decide +kernel
theorem dX2_findGetter_105 : decode cX2_findGetter 105 = .ok (.iconst (-1), 1) := by decide +kernel
theorem dX2_findGetter_106 : decode cX2_findGetter 106 = .ok (.goto 5, 3) := by decide +kernel
theorem dX2_findGetter_109 : decode cX2_findGetter 109 = .ok (.iload 4, 2) := by decide +kernel
theorem dX2_findGetter_111 : decode cX2_findGetter 111 = .ok (.putfield 31, 3) := by decide +kernel
theorem dX2_findGetter_114 : decode cX2_findGetter 114 = .ok (.return_, 1) := by decide +kernel
theorem dX2_priceOf_0 : decode cX2_priceOf 0 = .ok (.aload_n 0, 1) := by decide +kernel
theorem dX2_priceOf_1 : decode cX2_priceOf 1 = .ok (.getfield 12, 3) := by decide +kernel
theorem dX2_priceOf_4 : decode cX2_priceOf 4 = .ok (.getfield 38, 3) := by decide +kernel
theorem dX2_priceOf_7 : decode cX2_priceOf 7 = .ok (.iload_n 1, 1) := by decide +kernel
theorem dX2_priceOf_8 : decode cX2_priceOf 8 = .ok (.aaload, 1) := by decide +kernel
theorem dX2_priceOf_9 : decode cX2_priceOf 9 = .ok (.aload_n 0, 1) := by decide +kernel
theorem dX2_priceOf_10 : decode cX2_priceOf 10 = .ok (.getfield 25, 3) := by decide +kernel
theorem dX2_priceOf_13 : decode cX2_priceOf 13 = .ok (.iload_n 1, 1) := by decide +kernel
theorem dX2_priceOf_14 : decode cX2_priceOf 14 = .ok (.iaload, 1) := by decide +kernel
theorem dX2_priceOf_15 : decode cX2_priceOf 15 = .ok (.aload_n 0, 1) := by decide +kernel
theorem dX2_priceOf_16 : decode cX2_priceOf 16 = .ok (.getfield 12, 3) := by decide +kernel
theorem dX2_priceOf_19 : decode cX2_priceOf 19 = .ok (.getfield 81, 3) := by decide +kernel
theorem dX2_priceOf_22 : decode cX2_priceOf 22 = .ok (.invokevirtual 84, 3) := by decide +kernel
theorem dX2_priceOf_25 : decode cX2_priceOf 25 = .ok (.ireturn, 1) := by decide +kernel
theorem dX2_gainOf_0 : decode cX2_gainOf 0 = .ok (.iload_n 1, 1) := by decide +kernel
theorem dX2_gainOf_1 : decode cX2_gainOf 1 = .ok (.aload_n 0, 1) := by decide +kernel
theorem dX2_gainOf_2 : decode cX2_gainOf 2 = .ok (.getfield 31, 3) := by decide +kernel
theorem dX2_gainOf_5 : decode cX2_gainOf 5 = .ok (.if_icmp .ne 27, 3) := by decide +kernel
theorem dX2_gainOf_8 : decode cX2_gainOf 8 = .ok (.bipush 10, 2) := by decide +kernel
theorem dX2_gainOf_10 : decode cX2_gainOf 10 = .ok (.aload_n 0, 1) := by decide +kernel
theorem dX2_gainOf_11 : decode cX2_gainOf 11 = .ok (.getfield 12, 3) := by decide +kernel
theorem dX2_gainOf_14 : decode cX2_gainOf 14 = .ok (.getfield 38, 3) := by decide +kernel
theorem dX2_gainOf_17 : decode cX2_gainOf 17 = .ok (.iload_n 1, 1) := by decide +kernel
theorem dX2_gainOf_18 : decode cX2_gainOf 18 = .ok (.aaload, 1) := by decide +kernel
theorem dX2_gainOf_19 : decode cX2_gainOf 19 = .ok (.getfield 87, 3) := by decide +kernel
theorem dX2_gainOf_22 : decode cX2_gainOf 22 = .ok (.imul, 1) := by decide +kernel
theorem dX2_gainOf_23 : decode cX2_gainOf 23 = .ok (.aload_n 0, 1) := by decide +kernel
theorem dX2_gainOf_24 : decode cX2_gainOf 24 = .ok (.iload_n 1, 1) := by decide +kernel
theorem dX2_gainOf_25 : decode cX2_gainOf 25 = .ok (.invokevirtual 90, 3) := by decide +kernel
theorem dX2_gainOf_28 : decode cX2_gainOf 28 = .ok (.isub, 1) := by decide +kernel
theorem dX2_gainOf_29 : decode cX2_gainOf 29 = .ok (.goto 4, 3) := by decide +kernel
theorem dX2_gainOf_32 : decode cX2_gainOf 32 = .ok (.iconst 0, 1) := by decide +kernel
theorem dX2_gainOf_33 : decode cX2_gainOf 33 = .ok (.ireturn, 1) := by decide +kernel
theorem dX3_init_0 : decode cX3_init 0 = .ok (.aload_n 0, 1) := by decide +kernel
theorem dX3_init_1 : decode cX3_init 1 = .ok (.iload_n 1, 1) := by decide +kernel
theorem dX3_init_2 : decode cX3_init 2 = .ok (.iload_n 2, 1) := by decide +kernel
theorem dX3_init_3 : decode cX3_init 3 = .ok (.iload_n 3, 1) := by decide +kernel
theorem dX3_init_4 : decode cX3_init 4 = .ok (.invokespecial 1, 3) := by decide +kernel
theorem dX3_init_7 : decode cX3_init 7 = .ok (.return_, 1) := by decide +kernel
theorem dX3_kind_0 : decode cX3_kind 0 = .ok (.iconst 3, 1) := by decide +kernel
theorem dX3_kind_1 : decode cX3_kind 1 = .ok (.ireturn, 1) := by decide +kernel
theorem dX3_echo_0 : decode cX3_echo 0 = .ok (.iconst 2, 1) := by decide +kernel
theorem dX3_echo_1 : decode cX3_echo 1 = .ok (.ireturn, 1) := by decide +kernel
theorem dX4_init_0 : decode cX4_init 0 = .ok (.aload_n 0, 1) := by decide +kernel
theorem dX4_init_1 : decode cX4_init 1 = .ok (.invokespecial 3, 3) := by decide +kernel
theorem dX4_init_4 : decode cX4_init 4 = .ok (.aload_n 0, 1) := by decide +kernel
theorem dX4_init_5 : decode cX4_init 5 = .ok (.iconst 5, 1) := by decide +kernel
theorem dX4_init_6 : decode cX4_init 6 = .ok (.anewarray 9, 3) := by decide +kernel
theorem dX4_init_9 : decode cX4_init 9 = .ok (.putfield 11, 3) := by decide +kernel
theorem dX4_init_12 : decode cX4_init 12 = .ok (.iconst 0, 1) := by decide +kernel
theorem dX4_init_13 : decode cX4_init 13 = .ok (.istore_n 1, 1) := by decide +kernel
theorem dX4_init_14 : decode cX4_init 14 = .ok (.iload_n 1, 1) := by decide +kernel
theorem dX4_init_15 : decode cX4_init 15 = .ok (.iconst 5, 1) := by decide +kernel
theorem dX4_init_16 : decode cX4_init 16 = .ok (.if_icmp .ge 25, 3) := by decide +kernel
theorem dX4_init_19 : decode cX4_init 19 = .ok (.aload_n 0, 1) := by decide +kernel
theorem dX4_init_20 : decode cX4_init 20 = .ok (.getfield 11, 3) := by decide +kernel
theorem dX4_init_23 : decode cX4_init 23 = .ok (.iload_n 1, 1) := by decide +kernel
theorem dX4_init_24 : decode cX4_init 24 = .ok (.new 9, 3) := by decide +kernel
theorem dX4_init_27 : decode cX4_init 27 = .ok (.dup, 1) := by decide +kernel
theorem dX4_init_28 : decode cX4_init 28 = .ok (.iconst 1, 1) := by decide +kernel
theorem dX4_init_29 : decode cX4_init 29 = .ok (.iconst 0, 1) := by decide +kernel
theorem dX4_init_30 : decode cX4_init 30 = .ok (.iconst 0, 1) := by decide +kernel
theorem dX4_init_31 : decode cX4_init 31 = .ok (.invokespecial 17, 3) := by decide +kernel
theorem dX4_init_34 : decode cX4_init 34 = .ok (.aastore, 1) := by decide +kernel
theorem dX4_init_35 : decode cX4_init 35 = .ok (.iinc 1 1, 3) := by decide +kernel
theorem dX4_init_38 : decode cX4_init 38 = .ok (.goto (-24), 3) := by decide +kernel
theorem dX4_init_41 : decode cX4_init 41 = .ok (.return_, 1) := by decide +kernel
theorem dX4_has_0 : decode cX4_has 0 = .ok (.iload_n 1, 1) := by decide +kernel
theorem dX4_has_1 : decode cX4_has 1 = .ok (.ifCond .lt 15, 3) := by decide +kernel
theorem dX4_has_4 : decode cX4_has 4 = .ok (.iload_n 1, 1) := by decide +kernel
theorem dX4_has_5 : decode cX4_has 5 = .ok (.aload_n 0, 1) := by decide +kernel
theorem dX4_has_6 : decode cX4_has 6 = .ok (.getfield 20, 3) := by decide +kernel
theorem dX4_has_9 : decode cX4_has 9 = .ok (.if_icmp .ge 7, 3) := by decide +kernel
theorem dX4_has_12 : decode cX4_has 12 = .ok (.iconst 1, 1) := by decide +kernel
theorem dX4_has_13 : decode cX4_has 13 = .ok (.goto 4, 3) := by decide +kernel
theorem dX4_has_16 : decode cX4_has 16 = .ok (.iconst 0, 1) := by decide +kernel
theorem dX4_has_17 : decode cX4_has 17 = .ok (.ireturn, 1) := by decide +kernel
theorem dX4_seat_0 : decode cX4_seat 0 = .ok (.aload_n 0, 1) := by decide +kernel
theorem dX4_seat_1 : decode cX4_seat 1 = .ok (.getfield 20, 3) := by decide +kernel
theorem dX4_seat_4 : decode cX4_seat 4 = .ok (.iconst 5, 1) := by decide +kernel
theorem dX4_seat_5 : decode cX4_seat 5 = .ok (.if_icmp .ge 30, 3) := by decide +kernel
theorem dX4_seat_8 : decode cX4_seat 8 = .ok (.aload_n 0, 1) := by decide +kernel
theorem dX4_seat_9 : decode cX4_seat 9 = .ok (.getfield 11, 3) := by decide +kernel
theorem dX4_seat_12 : decode cX4_seat 12 = .ok (.aload_n 0, 1) := by decide +kernel
theorem dX4_seat_13 : decode cX4_seat 13 = .ok (.getfield 20, 3) := by decide +kernel
theorem dX4_seat_16 : decode cX4_seat 16 = .ok (.iload_n 1, 1) := by decide +kernel
theorem dX4_seat_17 : decode cX4_seat 17 = .ok (.iload_n 2, 1) := by decide +kernel
theorem dX4_seat_18 : decode cX4_seat 18 = .ok (.iload_n 3, 1) := by decide +kernel
theorem dX4_seat_19 : decode cX4_seat 19 = .ok (.iload 4, 2) := by decide +kernel
theorem dX4_seat_21 : decode cX4_seat 21 = .ok (.invokestatic 24, 3) := by decide +kernel
theorem dX4_seat_24 : decode cX4_seat 24 = .ok (.aastore, 1) := by decide +kernel
theorem dX4_seat_25 : decode cX4_seat 25 = .ok (.aload_n 0, 1) := by decide +kernel
theorem dX4_seat_26 : decode cX4_seat 26 = .ok (.dup, 1) := by decide +kernel
theorem dX4_seat_27 : decode cX4_seat 27 = .ok (.getfield 20, 3) := by decide +kernel
theorem dX4_seat_30 : decode cX4_seat 30 = .ok (.iconst 1, 1) := by decide +kernel
theorem dX4_seat_31 : decode cX4_seat 31 = .ok (.iadd, 1) := by decide +kernel
theorem dX4_seat_32 : decode cX4_seat 32 = .ok (.putfield 20, 3) := by decide +kernel
theorem dX4_seat_35 : decode cX4_seat 35 = .ok (.return_, 1) := by decide +kernel
theorem dX4_newBidder_0 : decode cX4_newBidder 0 = .ok (.iload_n 0, 1) := by decide +kernel
theorem dX4_newBidder_1 : decode cX4_newBidder 1 = .ok (.tableswitch 75 1 4 #[31, 42, 53, 64], 31) := by decide +kernel
theorem dX4_newBidder_32 : decode cX4_newBidder 32 = .ok (.new 28, 3) := by decide +kernel
theorem dX4_newBidder_35 : decode cX4_newBidder 35 = .ok (.dup, 1) := by decide +kernel
theorem dX4_newBidder_36 : decode cX4_newBidder 36 = .ok (.iload_n 1, 1) := by decide +kernel
theorem dX4_newBidder_37 : decode cX4_newBidder 37 = .ok (.iload_n 2, 1) := by decide +kernel
theorem dX4_newBidder_38 : decode cX4_newBidder 38 = .ok (.iload_n 3, 1) := by decide +kernel
theorem dX4_newBidder_39 : decode cX4_newBidder 39 = .ok (.invokespecial 30, 3) := by decide +kernel
theorem dX4_newBidder_42 : decode cX4_newBidder 42 = .ok (.areturn, 1) := by decide +kernel
theorem dX4_newBidder_43 : decode cX4_newBidder 43 = .ok (.new 31, 3) := by decide +kernel
theorem dX4_newBidder_46 : decode cX4_newBidder 46 = .ok (.dup, 1) := by decide +kernel
theorem dX4_newBidder_47 : decode cX4_newBidder 47 = .ok (.iload_n 1, 1) := by decide +kernel
theorem dX4_newBidder_48 : decode cX4_newBidder 48 = .ok (.iload_n 2, 1) := by decide +kernel
theorem dX4_newBidder_49 : decode cX4_newBidder 49 = .ok (.iload_n 3, 1) := by decide +kernel
theorem dX4_newBidder_50 : decode cX4_newBidder 50 = .ok (.invokespecial 33, 3) := by decide +kernel
theorem dX4_newBidder_53 : decode cX4_newBidder 53 = .ok (.areturn, 1) := by decide +kernel
theorem dX4_newBidder_54 : decode cX4_newBidder 54 = .ok (.new 34, 3) := by decide +kernel
theorem dX4_newBidder_57 : decode cX4_newBidder 57 = .ok (.dup, 1) := by decide +kernel
theorem dX4_newBidder_58 : decode cX4_newBidder 58 = .ok (.iload_n 1, 1) := by decide +kernel
theorem dX4_newBidder_59 : decode cX4_newBidder 59 = .ok (.iload_n 2, 1) := by decide +kernel
theorem dX4_newBidder_60 : decode cX4_newBidder 60 = .ok (.iload_n 3, 1) := by decide +kernel
theorem dX4_newBidder_61 : decode cX4_newBidder 61 = .ok (.invokespecial 36, 3) := by decide +kernel
theorem dX4_newBidder_64 : decode cX4_newBidder 64 = .ok (.areturn, 1) := by decide +kernel
theorem dX4_newBidder_65 : decode cX4_newBidder 65 = .ok (.new 37, 3) := by decide +kernel
theorem dX4_newBidder_68 : decode cX4_newBidder 68 = .ok (.dup, 1) := by decide +kernel
theorem dX4_newBidder_69 : decode cX4_newBidder 69 = .ok (.iload_n 1, 1) := by decide +kernel
theorem dX4_newBidder_70 : decode cX4_newBidder 70 = .ok (.iload_n 2, 1) := by decide +kernel
theorem dX4_newBidder_71 : decode cX4_newBidder 71 = .ok (.iload_n 3, 1) := by decide +kernel
theorem dX4_newBidder_72 : decode cX4_newBidder 72 = .ok (.invokespecial 39, 3) := by decide +kernel
theorem dX4_newBidder_75 : decode cX4_newBidder 75 = .ok (.areturn, 1) := by decide +kernel
theorem dX4_newBidder_76 : decode cX4_newBidder 76 = .ok (.new 9, 3) := by decide +kernel
theorem dX4_newBidder_79 : decode cX4_newBidder 79 = .ok (.dup, 1) := by decide +kernel
theorem dX4_newBidder_80 : decode cX4_newBidder 80 = .ok (.iload_n 1, 1) := by decide +kernel
theorem dX4_newBidder_81 : decode cX4_newBidder 81 = .ok (.iload_n 2, 1) := by decide +kernel
theorem dX4_newBidder_82 : decode cX4_newBidder 82 = .ok (.iload_n 3, 1) := by decide +kernel
theorem dX4_newBidder_83 : decode cX4_newBidder 83 = .ok (.invokespecial 17, 3) := by decide +kernel
theorem dX4_newBidder_86 : decode cX4_newBidder 86 = .ok (.areturn, 1) := by decide +kernel
theorem dX4_touches_0 : decode cX4_touches 0 = .ok (.aload_n 0, 1) := by decide +kernel
theorem dX4_touches_1 : decode cX4_touches 1 = .ok (.getfield 11, 3) := by decide +kernel
theorem dX4_touches_4 : decode cX4_touches 4 = .ok (.iload_n 2, 1) := by decide +kernel
theorem dX4_touches_5 : decode cX4_touches 5 = .ok (.aaload, 1) := by decide +kernel
theorem dX4_touches_6 : decode cX4_touches 6 = .ok (.getfield 40, 3) := by decide +kernel
theorem dX4_touches_9 : decode cX4_touches 9 = .ok (.iload_n 1, 1) := by decide +kernel
theorem dX4_touches_10 : decode cX4_touches 10 = .ok (.ishr, 1) := by decide +kernel
theorem dX4_touches_11 : decode cX4_touches 11 = .ok (.iconst 1, 1) := by decide +kernel
theorem dX4_touches_12 : decode cX4_touches 12 = .ok (.iand, 1) := by decide +kernel
theorem dX4_touches_13 : decode cX4_touches 13 = .ok (.iconst 1, 1) := by decide +kernel
theorem dX4_touches_14 : decode cX4_touches 14 = .ok (.if_icmp .ne 7, 3) := by decide +kernel
theorem dX4_touches_17 : decode cX4_touches 17 = .ok (.iconst 1, 1) := by decide +kernel
theorem dX4_touches_18 : decode cX4_touches 18 = .ok (.goto 4, 3) := by decide +kernel
theorem dX4_touches_21 : decode cX4_touches 21 = .ok (.iconst 0, 1) := by decide +kernel
theorem dX4_touches_22 : decode cX4_touches 22 = .ok (.ireturn, 1) := by decide +kernel
theorem dX4_howManyHaveChosen_0 : decode cX4_howManyHaveChosen 0 = .ok (.iconst 0, 1) := by decide +kernel
theorem dX4_howManyHaveChosen_1 : decode cX4_howManyHaveChosen 1 = .ok (.istore_n 1, 1) := by decide +kernel
theorem dX4_howManyHaveChosen_2 : decode cX4_howManyHaveChosen 2 = .ok (.iconst 0, 1) := by decide +kernel
theorem dX4_howManyHaveChosen_3 : decode cX4_howManyHaveChosen 3 = .ok (.istore_n 2, 1) := by decide +kernel
theorem dX4_howManyHaveChosen_4 : decode cX4_howManyHaveChosen 4 = .ok (.iload_n 2, 1) := by decide +kernel
theorem dX4_howManyHaveChosen_5 : decode cX4_howManyHaveChosen 5 = .ok (.aload_n 0, 1) := by decide +kernel
theorem dX4_howManyHaveChosen_6 : decode cX4_howManyHaveChosen 6 = .ok (.getfield 20, 3) := by decide +kernel
theorem dX4_howManyHaveChosen_9 : decode cX4_howManyHaveChosen 9 = .ok (.if_icmp .ge 25, 3) := by decide +kernel
theorem dX4_howManyHaveChosen_12 : decode cX4_howManyHaveChosen 12 = .ok (.aload_n 0, 1) := by decide +kernel
theorem dX4_howManyHaveChosen_13 : decode cX4_howManyHaveChosen 13 = .ok (.getfield 11, 3) := by decide +kernel
theorem dX4_howManyHaveChosen_16 : decode cX4_howManyHaveChosen 16 = .ok (.iload_n 2, 1) := by decide +kernel
theorem dX4_howManyHaveChosen_17 : decode cX4_howManyHaveChosen 17 = .ok (.aaload, 1) := by decide +kernel
theorem dX4_howManyHaveChosen_18 : decode cX4_howManyHaveChosen 18 = .ok (.getfield 43, 3) := by decide +kernel
theorem dX4_howManyHaveChosen_21 : decode cX4_howManyHaveChosen 21 = .ok (.iconst (-1), 1) := by decide +kernel
theorem dX4_howManyHaveChosen_22 : decode cX4_howManyHaveChosen 22 = .ok (.if_icmp .eq 6, 3) := by decide +kernel
theorem dX4_howManyHaveChosen_25 : decode cX4_howManyHaveChosen 25 = .ok (.iinc 1 1, 3) := by decide +kernel
theorem dX4_howManyHaveChosen_28 : decode cX4_howManyHaveChosen 28 = .ok (.iinc 2 1, 3) := by decide +kernel
theorem dX4_howManyHaveChosen_31 : decode cX4_howManyHaveChosen 31 = .ok (.goto (-27), 3) := by decide +kernel
theorem dX4_howManyHaveChosen_34 : decode cX4_howManyHaveChosen 34 = .ok (.iload_n 1, 1) := by decide +kernel
theorem dX4_howManyHaveChosen_35 : decode cX4_howManyHaveChosen 35 = .ok (.ireturn, 1) := by decide +kernel
theorem dX4_howManyTouches_0 : decode cX4_howManyTouches 0 = .ok (.iconst 0, 1) := by decide +kernel
theorem dX4_howManyTouches_1 : decode cX4_howManyTouches 1 = .ok (.istore_n 1, 1) := by decide +kernel
theorem dX4_howManyTouches_2 : decode cX4_howManyTouches 2 = .ok (.iconst 0, 1) := by decide +kernel
theorem dX4_howManyTouches_3 : decode cX4_howManyTouches 3 = .ok (.istore_n 2, 1) := by decide +kernel
theorem dX4_howManyTouches_4 : decode cX4_howManyTouches 4 = .ok (.iload_n 2, 1) := by decide +kernel
theorem dX4_howManyTouches_5 : decode cX4_howManyTouches 5 = .ok (.aload_n 0, 1) := by decide +kernel
theorem dX4_howManyTouches_6 : decode cX4_howManyTouches 6 = .ok (.getfield 20, 3) := by decide +kernel
theorem dX4_howManyTouches_9 : decode cX4_howManyTouches 9 = .ok (.if_icmp .ge 24, 3) := by decide +kernel
theorem dX4_howManyTouches_12 : decode cX4_howManyTouches 12 = .ok (.iload_n 1, 1) := by decide +kernel
theorem dX4_howManyTouches_13 : decode cX4_howManyTouches 13 = .ok (.aload_n 0, 1) := by decide +kernel
theorem dX4_howManyTouches_14 : decode cX4_howManyTouches 14 = .ok (.getfield 11, 3) := by decide +kernel
theorem dX4_howManyTouches_17 : decode cX4_howManyTouches 17 = .ok (.iload_n 2, 1) := by decide +kernel
theorem dX4_howManyTouches_18 : decode cX4_howManyTouches 18 = .ok (.aaload, 1) := by decide +kernel
theorem dX4_howManyTouches_19 : decode cX4_howManyTouches 19 = .ok (.getfield 40, 3) := by decide +kernel
theorem dX4_howManyTouches_22 : decode cX4_howManyTouches 22 = .ok (.invokestatic 46, 3) := by decide +kernel
theorem dX4_howManyTouches_25 : decode cX4_howManyTouches 25 = .ok (.iadd, 1) := by decide +kernel
theorem dX4_howManyTouches_26 : decode cX4_howManyTouches 26 = .ok (.istore_n 1, 1) := by decide +kernel
theorem dX4_howManyTouches_27 : decode cX4_howManyTouches 27 = .ok (.iinc 2 1, 3) := by decide +kernel
theorem dX4_howManyTouches_30 : decode cX4_howManyTouches 30 = .ok (.goto (-26), 3) := by decide +kernel
theorem dX4_howManyTouches_33 : decode cX4_howManyTouches 33 = .ok (.iload_n 1, 1) := by decide +kernel
theorem dX4_howManyTouches_34 : decode cX4_howManyTouches 34 = .ok (.ireturn, 1) := by decide +kernel
theorem dX5_init_0 : decode cX5_init 0 = .ok (.aload_n 0, 1) := by decide +kernel
theorem dX5_init_1 : decode cX5_init 1 = .ok (.invokespecial 1, 3) := by decide +kernel
theorem dX5_init_4 : decode cX5_init 4 = .ok (.aload_n 0, 1) := by decide +kernel
theorem dX5_init_5 : decode cX5_init 5 = .ok (.bipush 8, 2) := by decide +kernel
theorem dX5_init_7 : decode cX5_init 7 = .ok (.newarray .int, 2) := by decide +kernel
theorem dX5_init_9 : decode cX5_init 9 = .ok (.putfield 9, 3) := by decide +kernel
theorem dX5_init_12 : decode cX5_init 12 = .ok (.aload_n 0, 1) := by decide +kernel
theorem dX5_init_13 : decode cX5_init 13 = .ok (.bipush 8, 2) := by decide +kernel
theorem dX5_init_15 : decode cX5_init 15 = .ok (.newarray .int, 2) := by decide +kernel
theorem dX5_init_17 : decode cX5_init 17 = .ok (.putfield 13, 3) := by decide +kernel
theorem dX5_init_20 : decode cX5_init 20 = .ok (.return_, 1) := by decide +kernel
theorem dX5_isFull_0 : decode cX5_isFull 0 = .ok (.aload_n 0, 1) := by decide +kernel
theorem dX5_isFull_1 : decode cX5_isFull 1 = .ok (.getfield 16, 3) := by decide +kernel
theorem dX5_isFull_4 : decode cX5_isFull 4 = .ok (.bipush 8, 2) := by decide +kernel
theorem dX5_isFull_6 : decode cX5_isFull 6 = .ok (.if_icmp .lt 7, 3) := by decide +kernel
theorem dX5_isFull_9 : decode cX5_isFull 9 = .ok (.iconst 1, 1) := by decide +kernel
theorem dX5_isFull_10 : decode cX5_isFull 10 = .ok (.goto 4, 3) := by decide +kernel
theorem dX5_isFull_13 : decode cX5_isFull 13 = .ok (.iconst 0, 1) := by decide +kernel
theorem dX5_isFull_14 : decode cX5_isFull 14 = .ok (.ireturn, 1) := by decide +kernel
theorem dX5_add_0 : decode cX5_add 0 = .ok (.aload_n 0, 1) := by decide +kernel
theorem dX5_add_1 : decode cX5_add 1 = .ok (.getfield 16, 3) := by decide +kernel
theorem dX5_add_4 : decode cX5_add 4 = .ok (.bipush 8, 2) := by decide +kernel
theorem dX5_add_6 : decode cX5_add 6 = .ok (.if_icmp .ge 33, 3) := by decide +kernel
theorem dX5_add_9 : decode cX5_add 9 = .ok (.aload_n 0, 1) := by decide +kernel
theorem dX5_add_10 : decode cX5_add 10 = .ok (.getfield 9, 3) := by decide +kernel
theorem dX5_add_13 : decode cX5_add 13 = .ok (.aload_n 0, 1) := by decide +kernel
theorem dX5_add_14 : decode cX5_add 14 = .ok (.getfield 16, 3) := by decide +kernel
theorem dX5_add_17 : decode cX5_add 17 = .ok (.iload_n 1, 1) := by decide +kernel
theorem dX5_add_18 : decode cX5_add 18 = .ok (.iastore, 1) := by decide +kernel
theorem dX5_add_19 : decode cX5_add 19 = .ok (.aload_n 0, 1) := by decide +kernel
theorem dX5_add_20 : decode cX5_add 20 = .ok (.getfield 13, 3) := by decide +kernel
theorem dX5_add_23 : decode cX5_add 23 = .ok (.aload_n 0, 1) := by decide +kernel
theorem dX5_add_24 : decode cX5_add 24 = .ok (.getfield 16, 3) := by decide +kernel
theorem dX5_add_27 : decode cX5_add 27 = .ok (.iload_n 2, 1) := by decide +kernel
theorem dX5_add_28 : decode cX5_add 28 = .ok (.iastore, 1) := by decide +kernel
theorem dX5_add_29 : decode cX5_add 29 = .ok (.aload_n 0, 1) := by decide +kernel
theorem dX5_add_30 : decode cX5_add 30 = .ok (.dup, 1) := by decide +kernel
theorem dX5_add_31 : decode cX5_add 31 = .ok (.getfield 16, 3) := by decide +kernel
theorem dX5_add_34 : decode cX5_add 34 = .ok (.iconst 1, 1) := by decide +kernel
theorem dX5_add_35 : decode cX5_add 35 = .ok (.iadd, 1) := by decide +kernel
theorem dX5_add_36 : decode cX5_add 36 = .ok (.putfield 16, 3) := by decide +kernel
theorem dX5_add_39 : decode cX5_add 39 = .ok (.return_, 1) := by decide +kernel
theorem dX5_copy_0 : decode cX5_copy 0 = .ok (.iconst 0, 1) := by decide +kernel
theorem dX5_copy_1 : decode cX5_copy 1 = .ok (.istore_n 2, 1) := by decide +kernel
theorem dX5_copy_2 : decode cX5_copy 2 = .ok (.iload_n 2, 1) := by decide +kernel
theorem dX5_copy_3 : decode cX5_copy 3 = .ok (.bipush 8, 2) := by decide +kernel
theorem dX5_copy_5 : decode cX5_copy 5 = .ok (.if_icmp .ge 33, 3) := by decide +kernel
theorem dX5_copy_8 : decode cX5_copy 8 = .ok (.aload_n 0, 1) := by decide +kernel
theorem dX5_copy_9 : decode cX5_copy 9 = .ok (.getfield 9, 3) := by decide +kernel
theorem dX5_copy_12 : decode cX5_copy 12 = .ok (.iload_n 2, 1) := by decide +kernel
theorem dX5_copy_13 : decode cX5_copy 13 = .ok (.aload_n 1, 1) := by decide +kernel
theorem dX5_copy_14 : decode cX5_copy 14 = .ok (.getfield 9, 3) := by decide +kernel
theorem dX5_copy_17 : decode cX5_copy 17 = .ok (.iload_n 2, 1) := by decide +kernel
theorem dX5_copy_18 : decode cX5_copy 18 = .ok (.iaload, 1) := by decide +kernel
theorem dX5_copy_19 : decode cX5_copy 19 = .ok (.iastore, 1) := by decide +kernel
theorem dX5_copy_20 : decode cX5_copy 20 = .ok (.aload_n 0, 1) := by decide +kernel
theorem dX5_copy_21 : decode cX5_copy 21 = .ok (.getfield 13, 3) := by decide +kernel
theorem dX5_copy_24 : decode cX5_copy 24 = .ok (.iload_n 2, 1) := by decide +kernel
theorem dX5_copy_25 : decode cX5_copy 25 = .ok (.aload_n 1, 1) := by decide +kernel
theorem dX5_copy_26 : decode cX5_copy 26 = .ok (.getfield 13, 3) := by decide +kernel
theorem dX5_copy_29 : decode cX5_copy 29 = .ok (.iload_n 2, 1) := by decide +kernel
theorem dX5_copy_30 : decode cX5_copy 30 = .ok (.iaload, 1) := by decide +kernel
theorem dX5_copy_31 : decode cX5_copy 31 = .ok (.iastore, 1) := by decide +kernel
theorem dX5_copy_32 : decode cX5_copy 32 = .ok (.iinc 2 1, 3) := by decide +kernel
theorem dX5_copy_35 : decode cX5_copy 35 = .ok (.goto (-33), 3) := by decide +kernel
theorem dX5_copy_38 : decode cX5_copy 38 = .ok (.aload_n 0, 1) := by decide +kernel
theorem dX5_copy_39 : decode cX5_copy 39 = .ok (.aload_n 1, 1) := by decide +kernel
theorem dX5_copy_40 : decode cX5_copy 40 = .ok (.getfield 16, 3) := by decide +kernel
theorem dX5_copy_43 : decode cX5_copy 43 = .ok (.putfield 16, 3) := by decide +kernel
theorem dX5_copy_46 : decode cX5_copy 46 = .ok (.return_, 1) := by decide +kernel
theorem dX5_agrees_0 : decode cX5_agrees 0 = .ok (.iconst 0, 1) := by decide +kernel
theorem dX5_agrees_1 : decode cX5_agrees 1 = .ok (.istore_n 2, 1) := by decide +kernel
theorem dX5_agrees_2 : decode cX5_agrees 2 = .ok (.iload_n 2, 1) := by decide +kernel
theorem dX5_agrees_3 : decode cX5_agrees 3 = .ok (.aload_n 0, 1) := by decide +kernel
theorem dX5_agrees_4 : decode cX5_agrees 4 = .ok (.getfield 16, 3) := by decide +kernel
theorem dX5_agrees_7 : decode cX5_agrees 7 = .ok (.if_icmp .ge 31, 3) := by decide +kernel
theorem dX5_agrees_10 : decode cX5_agrees 10 = .ok (.aload_n 1, 1) := by decide +kernel
theorem dX5_agrees_11 : decode cX5_agrees 11 = .ok (.getfield 20, 3) := by decide +kernel
theorem dX5_agrees_14 : decode cX5_agrees 14 = .ok (.aload_n 0, 1) := by decide +kernel
theorem dX5_agrees_15 : decode cX5_agrees 15 = .ok (.getfield 9, 3) := by decide +kernel
theorem dX5_agrees_18 : decode cX5_agrees 18 = .ok (.iload_n 2, 1) := by decide +kernel
theorem dX5_agrees_19 : decode cX5_agrees 19 = .ok (.iaload, 1) := by decide +kernel
theorem dX5_agrees_20 : decode cX5_agrees 20 = .ok (.iaload, 1) := by decide +kernel
theorem dX5_agrees_21 : decode cX5_agrees 21 = .ok (.aload_n 0, 1) := by decide +kernel
theorem dX5_agrees_22 : decode cX5_agrees 22 = .ok (.getfield 13, 3) := by decide +kernel
theorem dX5_agrees_25 : decode cX5_agrees 25 = .ok (.iload_n 2, 1) := by decide +kernel
theorem dX5_agrees_26 : decode cX5_agrees 26 = .ok (.iaload, 1) := by decide +kernel
theorem dX5_agrees_27 : decode cX5_agrees 27 = .ok (.if_icmp .eq 5, 3) := by decide +kernel
theorem dX5_agrees_30 : decode cX5_agrees 30 = .ok (.iconst 0, 1) := by decide +kernel
theorem dX5_agrees_31 : decode cX5_agrees 31 = .ok (.ireturn, 1) := by decide +kernel
theorem dX5_agrees_32 : decode cX5_agrees 32 = .ok (.iinc 2 1, 3) := by decide +kernel
theorem dX5_agrees_35 : decode cX5_agrees 35 = .ok (.goto (-33), 3) := by decide +kernel
theorem dX5_agrees_38 : decode cX5_agrees 38 = .ok (.iconst 1, 1) := by decide +kernel
theorem dX5_agrees_39 : decode cX5_agrees 39 = .ok (.ireturn, 1) := by decide +kernel
theorem dX5_agreesOn_0 : decode cX5_agreesOn 0 = .ok (.aload_n 2, 1) := by decide +kernel
theorem dX5_agreesOn_1 : decode cX5_agreesOn 1 = .ok (.getfield 20, 3) := by decide +kernel
theorem dX5_agreesOn_4 : decode cX5_agreesOn 4 = .ok (.iload_n 1, 1) := by decide +kernel
theorem dX5_agreesOn_5 : decode cX5_agreesOn 5 = .ok (.iaload, 1) := by decide +kernel
theorem dX5_agreesOn_6 : decode cX5_agreesOn 6 = .ok (.istore_n 3, 1) := by decide +kernel
theorem dX5_agreesOn_7 : decode cX5_agreesOn 7 = .ok (.iconst 0, 1) := by decide +kernel
theorem dX5_agreesOn_8 : decode cX5_agreesOn 8 = .ok (.istore 4, 2) := by decide +kernel
theorem dX5_agreesOn_10 : decode cX5_agreesOn 10 = .ok (.iload 4, 2) := by decide +kernel
theorem dX5_agreesOn_12 : decode cX5_agreesOn 12 = .ok (.aload_n 0, 1) := by decide +kernel
theorem dX5_agreesOn_13 : decode cX5_agreesOn 13 = .ok (.getfield 16, 3) := by decide +kernel
theorem dX5_agreesOn_16 : decode cX5_agreesOn 16 = .ok (.if_icmp .ge 33, 3) := by decide +kernel
theorem dX5_agreesOn_19 : decode cX5_agreesOn 19 = .ok (.aload_n 0, 1) := by decide +kernel
theorem dX5_agreesOn_20 : decode cX5_agreesOn 20 = .ok (.getfield 9, 3) := by decide +kernel
theorem dX5_agreesOn_23 : decode cX5_agreesOn 23 = .ok (.iload 4, 2) := by decide +kernel
theorem dX5_agreesOn_25 : decode cX5_agreesOn 25 = .ok (.iaload, 1) := by decide +kernel
theorem dX5_agreesOn_26 : decode cX5_agreesOn 26 = .ok (.iload_n 1, 1) := by decide +kernel
theorem dX5_agreesOn_27 : decode cX5_agreesOn 27 = .ok (.if_icmp .ne 16, 3) := by decide +kernel
theorem dX5_agreesOn_30 : decode cX5_agreesOn 30 = .ok (.aload_n 0, 1) := by decide +kernel
theorem dX5_agreesOn_31 : decode cX5_agreesOn 31 = .ok (.getfield 13, 3) := by decide +kernel
theorem dX5_agreesOn_34 : decode cX5_agreesOn 34 = .ok (.iload 4, 2) := by decide +kernel
theorem dX5_agreesOn_36 : decode cX5_agreesOn 36 = .ok (.iaload, 1) := by decide +kernel
theorem dX5_agreesOn_37 : decode cX5_agreesOn 37 = .ok (.iload_n 3, 1) := by decide +kernel
theorem dX5_agreesOn_38 : decode cX5_agreesOn 38 = .ok (.if_icmp .eq 5, 3) := by decide +kernel
theorem dX5_agreesOn_41 : decode cX5_agreesOn 41 = .ok (.iconst 0, 1) := by decide +kernel
theorem dX5_agreesOn_42 : decode cX5_agreesOn 42 = .ok (.ireturn, 1) := by decide +kernel
theorem dX5_agreesOn_43 : decode cX5_agreesOn 43 = .ok (.iinc 4 1, 3) := by decide +kernel
theorem dX5_agreesOn_46 : decode cX5_agreesOn 46 = .ok (.goto (-36), 3) := by decide +kernel
theorem dX5_agreesOn_49 : decode cX5_agreesOn 49 = .ok (.iconst 1, 1) := by decide +kernel
theorem dX5_agreesOn_50 : decode cX5_agreesOn 50 = .ok (.ireturn, 1) := by decide +kernel
theorem dX6_init_0 : decode cX6_init 0 = .ok (.aload_n 0, 1) := by decide +kernel
theorem dX6_init_1 : decode cX6_init 1 = .ok (.invokespecial 3, 3) := by decide +kernel
theorem dX6_init_4 : decode cX6_init 4 = .ok (.aload_n 0, 1) := by decide +kernel
theorem dX6_init_5 : decode cX6_init 5 = .ok (.iconst 5, 1) := by decide +kernel
theorem dX6_init_6 : decode cX6_init 6 = .ok (.newarray .int, 2) := by decide +kernel
theorem dX6_init_8 : decode cX6_init 8 = .ok (.putfield 9, 3) := by decide +kernel
theorem dX6_init_11 : decode cX6_init 11 = .ok (.aload_n 0, 1) := by decide +kernel
theorem dX6_init_12 : decode cX6_init 12 = .ok (.iconst 5, 1) := by decide +kernel
theorem dX6_init_13 : decode cX6_init 13 = .ok (.newarray .int, 2) := by decide +kernel
theorem dX6_init_15 : decode cX6_init 15 = .ok (.putfield 15, 3) := by decide +kernel
theorem dX6_init_18 : decode cX6_init 18 = .ok (.aload_n 0, 1) := by decide +kernel
theorem dX6_init_19 : decode cX6_init 19 = .ok (.iconst 5, 1) := by decide +kernel
theorem dX6_init_20 : decode cX6_init 20 = .ok (.newarray .int, 2) := by decide +kernel
theorem dX6_init_22 : decode cX6_init 22 = .ok (.putfield 18, 3) := by decide +kernel
theorem dX6_init_25 : decode cX6_init 25 = .ok (.aload_n 0, 1) := by decide +kernel
theorem dX6_init_26 : decode cX6_init 26 = .ok (.new 21, 3) := by decide +kernel
theorem dX6_init_29 : decode cX6_init 29 = .ok (.dup, 1) := by decide +kernel
theorem dX6_init_30 : decode cX6_init 30 = .ok (.invokespecial 23, 3) := by decide +kernel
theorem dX6_init_33 : decode cX6_init 33 = .ok (.putfield 24, 3) := by decide +kernel
theorem dX6_init_36 : decode cX6_init 36 = .ok (.return_, 1) := by decide +kernel
theorem dX6_isOf_0 : decode cX6_isOf 0 = .ok (.aload_n 0, 1) := by decide +kernel
theorem dX6_isOf_1 : decode cX6_isOf 1 = .ok (.getfield 28, 3) := by decide +kernel
theorem dX6_isOf_4 : decode cX6_isOf 4 = .ok (.ifCond .eq 15, 3) := by decide +kernel
theorem dX6_isOf_7 : decode cX6_isOf 7 = .ok (.aload_n 0, 1) := by decide +kernel
theorem dX6_isOf_8 : decode cX6_isOf 8 = .ok (.getfield 28, 3) := by decide +kernel
theorem dX6_isOf_11 : decode cX6_isOf 11 = .ok (.iload_n 1, 1) := by decide +kernel
theorem dX6_isOf_12 : decode cX6_isOf 12 = .ok (.if_icmp .ne 7, 3) := by decide +kernel
theorem dX6_isOf_15 : decode cX6_isOf 15 = .ok (.iconst 1, 1) := by decide +kernel
theorem dX6_isOf_16 : decode cX6_isOf 16 = .ok (.goto 4, 3) := by decide +kernel
theorem dX6_isOf_19 : decode cX6_isOf 19 = .ok (.iconst 0, 1) := by decide +kernel
theorem dX6_isOf_20 : decode cX6_isOf 20 = .ok (.ireturn, 1) := by decide +kernel
theorem dX6_keep_0 : decode cX6_keep 0 = .ok (.iconst 0, 1) := by decide +kernel
theorem dX6_keep_1 : decode cX6_keep 1 = .ok (.istore 4, 2) := by decide +kernel
theorem dX6_keep_3 : decode cX6_keep 3 = .ok (.iload 4, 2) := by decide +kernel
theorem dX6_keep_5 : decode cX6_keep 5 = .ok (.aload_n 1, 1) := by decide +kernel
theorem dX6_keep_6 : decode cX6_keep 6 = .ok (.getfield 32, 3) := by decide +kernel
theorem dX6_keep_9 : decode cX6_keep 9 = .ok (.if_icmp .ge 60, 3) := by decide +kernel
theorem dX6_keep_12 : decode cX6_keep 12 = .ok (.aload_n 0, 1) := by decide +kernel
theorem dX6_keep_13 : decode cX6_keep 13 = .ok (.getfield 9, 3) := by decide +kernel
theorem dX6_keep_16 : decode cX6_keep 16 = .ok (.iload 4, 2) := by decide +kernel
theorem dX6_keep_18 : decode cX6_keep 18 = .ok (.aload_n 1, 1) := by decide +kernel
theorem dX6_keep_19 : decode cX6_keep 19 = .ok (.getfield 37, 3) := by decide +kernel
theorem dX6_keep_22 : decode cX6_keep 22 = .ok (.iload 4, 2) := by decide +kernel
theorem dX6_keep_24 : decode cX6_keep 24 = .ok (.aaload, 1) := by decide +kernel
theorem dX6_keep_25 : decode cX6_keep 25 = .ok (.getfield 41, 3) := by decide +kernel
theorem dX6_keep_28 : decode cX6_keep 28 = .ok (.iastore, 1) := by decide +kernel
theorem dX6_keep_29 : decode cX6_keep 29 = .ok (.aload_n 0, 1) := by decide +kernel
theorem dX6_keep_30 : decode cX6_keep 30 = .ok (.getfield 15, 3) := by decide +kernel
theorem dX6_keep_33 : decode cX6_keep 33 = .ok (.iload 4, 2) := by decide +kernel
theorem dX6_keep_35 : decode cX6_keep 35 = .ok (.aload_n 1, 1) := by decide +kernel
theorem dX6_keep_36 : decode cX6_keep 36 = .ok (.getfield 37, 3) := by decide +kernel
theorem dX6_keep_39 : decode cX6_keep 39 = .ok (.iload 4, 2) := by decide +kernel
theorem dX6_keep_41 : decode cX6_keep 41 = .ok (.aaload, 1) := by decide +kernel
theorem dX6_keep_42 : decode cX6_keep 42 = .ok (.getfield 46, 3) := by decide +kernel
theorem dX6_keep_45 : decode cX6_keep 45 = .ok (.iastore, 1) := by decide +kernel
theorem dX6_keep_46 : decode cX6_keep 46 = .ok (.aload_n 0, 1) := by decide +kernel
theorem dX6_keep_47 : decode cX6_keep 47 = .ok (.getfield 18, 3) := by decide +kernel
theorem dX6_keep_50 : decode cX6_keep 50 = .ok (.iload 4, 2) := by decide +kernel
theorem dX6_keep_52 : decode cX6_keep 52 = .ok (.aload_n 1, 1) := by decide +kernel
theorem dX6_keep_53 : decode cX6_keep 53 = .ok (.getfield 37, 3) := by decide +kernel
theorem dX6_keep_56 : decode cX6_keep 56 = .ok (.iload 4, 2) := by decide +kernel
theorem dX6_keep_58 : decode cX6_keep 58 = .ok (.aaload, 1) := by decide +kernel
theorem dX6_keep_59 : decode cX6_keep 59 = .ok (.getfield 49, 3) := by decide +kernel
theorem dX6_keep_62 : decode cX6_keep 62 = .ok (.iastore, 1) := by decide +kernel
theorem dX6_keep_63 : decode cX6_keep 63 = .ok (.iinc 4 1, 3) := by decide +kernel
theorem dX6_keep_66 : decode cX6_keep 66 = .ok (.goto (-63), 3) := by decide +kernel
theorem dX6_keep_69 : decode cX6_keep 69 = .ok (.aload_n 0, 1) := by decide +kernel
theorem dX6_keep_70 : decode cX6_keep 70 = .ok (.getfield 24, 3) := by decide +kernel
theorem dX6_keep_73 : decode cX6_keep 73 = .ok (.aload_n 2, 1) := by decide +kernel
theorem dX6_keep_74 : decode cX6_keep 74 = .ok (.invokevirtual 51, 3) := by decide +kernel
theorem dX6_keep_77 : decode cX6_keep 77 = .ok (.aload_n 0, 1) := by decide +kernel
theorem dX6_keep_78 : decode cX6_keep 78 = .ok (.iload_n 3, 1) := by decide +kernel
theorem dX6_keep_79 : decode cX6_keep 79 = .ok (.putfield 28, 3) := by decide +kernel
theorem dX6_keep_82 : decode cX6_keep 82 = .ok (.return_, 1) := by decide +kernel
theorem dX6_giveBack_0 : decode cX6_giveBack 0 = .ok (.iconst 0, 1) := by decide +kernel
theorem dX6_giveBack_1 : decode cX6_giveBack 1 = .ok (.istore_n 3, 1) := by decide +kernel
theorem dX6_giveBack_2 : decode cX6_giveBack 2 = .ok (.iload_n 3, 1) := by decide +kernel
theorem dX6_giveBack_3 : decode cX6_giveBack 3 = .ok (.aload_n 1, 1) := by decide +kernel
theorem dX6_giveBack_4 : decode cX6_giveBack 4 = .ok (.getfield 32, 3) := by decide +kernel
theorem dX6_giveBack_7 : decode cX6_giveBack 7 = .ok (.if_icmp .ge 54, 3) := by decide +kernel
theorem dX6_giveBack_10 : decode cX6_giveBack 10 = .ok (.aload_n 1, 1) := by decide +kernel
theorem dX6_giveBack_11 : decode cX6_giveBack 11 = .ok (.getfield 37, 3) := by decide +kernel
theorem dX6_giveBack_14 : decode cX6_giveBack 14 = .ok (.iload_n 3, 1) := by decide +kernel
theorem dX6_giveBack_15 : decode cX6_giveBack 15 = .ok (.aaload, 1) := by decide +kernel
theorem dX6_giveBack_16 : decode cX6_giveBack 16 = .ok (.aload_n 0, 1) := by decide +kernel
theorem dX6_giveBack_17 : decode cX6_giveBack 17 = .ok (.getfield 9, 3) := by decide +kernel
theorem dX6_giveBack_20 : decode cX6_giveBack 20 = .ok (.iload_n 3, 1) := by decide +kernel
theorem dX6_giveBack_21 : decode cX6_giveBack 21 = .ok (.iaload, 1) := by decide +kernel
theorem dX6_giveBack_22 : decode cX6_giveBack 22 = .ok (.putfield 41, 3) := by decide +kernel
theorem dX6_giveBack_25 : decode cX6_giveBack 25 = .ok (.aload_n 1, 1) := by decide +kernel
theorem dX6_giveBack_26 : decode cX6_giveBack 26 = .ok (.getfield 37, 3) := by decide +kernel
theorem dX6_giveBack_29 : decode cX6_giveBack 29 = .ok (.iload_n 3, 1) := by decide +kernel
theorem dX6_giveBack_30 : decode cX6_giveBack 30 = .ok (.aaload, 1) := by decide +kernel
theorem dX6_giveBack_31 : decode cX6_giveBack 31 = .ok (.aload_n 0, 1) := by decide +kernel
theorem dX6_giveBack_32 : decode cX6_giveBack 32 = .ok (.getfield 15, 3) := by decide +kernel
theorem dX6_giveBack_35 : decode cX6_giveBack 35 = .ok (.iload_n 3, 1) := by decide +kernel
theorem dX6_giveBack_36 : decode cX6_giveBack 36 = .ok (.iaload, 1) := by decide +kernel
theorem dX6_giveBack_37 : decode cX6_giveBack 37 = .ok (.putfield 46, 3) := by decide +kernel
theorem dX6_giveBack_40 : decode cX6_giveBack 40 = .ok (.aload_n 1, 1) := by decide +kernel
theorem dX6_giveBack_41 : decode cX6_giveBack 41 = .ok (.getfield 37, 3) := by decide +kernel
theorem dX6_giveBack_44 : decode cX6_giveBack 44 = .ok (.iload_n 3, 1) := by decide +kernel
theorem dX6_giveBack_45 : decode cX6_giveBack 45 = .ok (.aaload, 1) := by decide +kernel
theorem dX6_giveBack_46 : decode cX6_giveBack 46 = .ok (.aload_n 0, 1) := by decide +kernel
theorem dX6_giveBack_47 : decode cX6_giveBack 47 = .ok (.getfield 18, 3) := by decide +kernel
theorem dX6_giveBack_50 : decode cX6_giveBack 50 = .ok (.iload_n 3, 1) := by decide +kernel
theorem dX6_giveBack_51 : decode cX6_giveBack 51 = .ok (.iaload, 1) := by decide +kernel
theorem dX6_giveBack_52 : decode cX6_giveBack 52 = .ok (.putfield 49, 3) := by decide +kernel
theorem dX6_giveBack_55 : decode cX6_giveBack 55 = .ok (.iinc 3 1, 3) := by decide +kernel
theorem dX6_giveBack_58 : decode cX6_giveBack 58 = .ok (.goto (-56), 3) := by decide +kernel
theorem dX6_giveBack_61 : decode cX6_giveBack 61 = .ok (.aload_n 2, 1) := by decide +kernel
theorem dX6_giveBack_62 : decode cX6_giveBack 62 = .ok (.aload_n 0, 1) := by decide +kernel
theorem dX6_giveBack_63 : decode cX6_giveBack 63 = .ok (.getfield 24, 3) := by decide +kernel
theorem dX6_giveBack_66 : decode cX6_giveBack 66 = .ok (.invokevirtual 51, 3) := by decide +kernel
theorem dX6_giveBack_69 : decode cX6_giveBack 69 = .ok (.return_, 1) := by decide +kernel
theorem dX7_init_0 : decode cX7_init 0 = .ok (.aload_n 0, 1) := by decide +kernel
theorem dX7_init_1 : decode cX7_init 1 = .ok (.invokespecial 3, 3) := by decide +kernel
theorem dX7_init_4 : decode cX7_init 4 = .ok (.aload_n 0, 1) := by decide +kernel
theorem dX7_init_5 : decode cX7_init 5 = .ok (.bipush 28, 2) := by decide +kernel
theorem dX7_init_7 : decode cX7_init 7 = .ok (.newarray .int, 2) := by decide +kernel
theorem dX7_init_9 : decode cX7_init 9 = .ok (.putfield 11, 3) := by decide +kernel
theorem dX7_init_12 : decode cX7_init 12 = .ok (.return_, 1) := by decide +kernel
theorem dX7_isFull_0 : decode cX7_isFull 0 = .ok (.aload_n 0, 1) := by decide +kernel
theorem dX7_isFull_1 : decode cX7_isFull 1 = .ok (.getfield 15, 3) := by decide +kernel
theorem dX7_isFull_4 : decode cX7_isFull 4 = .ok (.bipush 28, 2) := by decide +kernel
theorem dX7_isFull_6 : decode cX7_isFull 6 = .ok (.if_icmp .lt 7, 3) := by decide +kernel
theorem dX7_isFull_9 : decode cX7_isFull 9 = .ok (.iconst 1, 1) := by decide +kernel
theorem dX7_isFull_10 : decode cX7_isFull 10 = .ok (.goto 4, 3) := by decide +kernel
theorem dX7_isFull_13 : decode cX7_isFull 13 = .ok (.iconst 0, 1) := by decide +kernel
theorem dX7_isFull_14 : decode cX7_isFull 14 = .ok (.ireturn, 1) := by decide +kernel
theorem dX7_write_0 : decode cX7_write 0 = .ok (.aload_n 0, 1) := by decide +kernel
theorem dX7_write_1 : decode cX7_write 1 = .ok (.getfield 15, 3) := by decide +kernel
theorem dX7_write_4 : decode cX7_write 4 = .ok (.bipush 28, 2) := by decide +kernel
theorem dX7_write_6 : decode cX7_write 6 = .ok (.if_icmp .ge 23, 3) := by decide +kernel
theorem dX7_write_9 : decode cX7_write 9 = .ok (.aload_n 0, 1) := by decide +kernel
theorem dX7_write_10 : decode cX7_write 10 = .ok (.getfield 11, 3) := by decide +kernel
theorem dX7_write_13 : decode cX7_write 13 = .ok (.aload_n 0, 1) := by decide +kernel
theorem dX7_write_14 : decode cX7_write 14 = .ok (.getfield 15, 3) := by decide +kernel
theorem dX7_write_17 : decode cX7_write 17 = .ok (.iload_n 1, 1) := by decide +kernel
theorem dX7_write_18 : decode cX7_write 18 = .ok (.iastore, 1) := by decide +kernel
theorem dX7_write_19 : decode cX7_write 19 = .ok (.aload_n 0, 1) := by decide +kernel
theorem dX7_write_20 : decode cX7_write 20 = .ok (.dup, 1) := by decide +kernel
theorem dX7_write_21 : decode cX7_write 21 = .ok (.getfield 15, 3) := by decide +kernel
theorem dX7_write_24 : decode cX7_write 24 = .ok (.iconst 1, 1) := by decide +kernel
theorem dX7_write_25 : decode cX7_write 25 = .ok (.iadd, 1) := by decide +kernel
theorem dX7_write_26 : decode cX7_write 26 = .ok (.putfield 15, 3) := by decide +kernel
theorem dX7_write_29 : decode cX7_write 29 = .ok (.return_, 1) := by decide +kernel
theorem dX7_faultPlace_0 : decode cX7_faultPlace 0 = .ok (.bipush 28, 2) := by decide +kernel
theorem dX7_faultPlace_2 : decode cX7_faultPlace 2 = .ok (.istore_n 1, 1) := by decide +kernel
theorem dX7_faultPlace_3 : decode cX7_faultPlace 3 = .ok (.iconst 0, 1) := by decide +kernel
theorem dX7_faultPlace_4 : decode cX7_faultPlace 4 = .ok (.istore_n 2, 1) := by decide +kernel
theorem dX7_faultPlace_5 : decode cX7_faultPlace 5 = .ok (.iload_n 2, 1) := by decide +kernel
theorem dX7_faultPlace_6 : decode cX7_faultPlace 6 = .ok (.aload_n 0, 1) := by decide +kernel
theorem dX7_faultPlace_7 : decode cX7_faultPlace 7 = .ok (.getfield 15, 3) := by decide +kernel
theorem dX7_faultPlace_10 : decode cX7_faultPlace 10 = .ok (.if_icmp .ge 40, 3) := by decide +kernel
theorem dX7_faultPlace_13 : decode cX7_faultPlace 13 = .ok (.aload_n 0, 1) := by decide +kernel
theorem dX7_faultPlace_14 : decode cX7_faultPlace 14 = .ok (.getfield 11, 3) := by decide +kernel
theorem dX7_faultPlace_17 : decode cX7_faultPlace 17 = .ok (.iload_n 2, 1) := by decide +kernel
theorem dX7_faultPlace_18 : decode cX7_faultPlace 18 = .ok (.iaload, 1) := by decide +kernel
theorem dX7_faultPlace_19 : decode cX7_faultPlace 19 = .ok (.iload_n 2, 1) := by decide +kernel
theorem dX7_faultPlace_20 : decode cX7_faultPlace 20 = .ok (.iload_n 1, 1) := by decide +kernel
theorem dX7_faultPlace_21 : decode cX7_faultPlace 21 = .ok (.invokestatic 19, 3) := by decide +kernel
theorem dX7_faultPlace_24 : decode cX7_faultPlace 24 = .ok (.ifCond .ne 5, 3) := by decide +kernel
theorem dX7_faultPlace_27 : decode cX7_faultPlace 27 = .ok (.iload_n 2, 1) := by decide +kernel
theorem dX7_faultPlace_28 : decode cX7_faultPlace 28 = .ok (.ireturn, 1) := by decide +kernel
theorem dX7_faultPlace_29 : decode cX7_faultPlace 29 = .ok (.aload_n 0, 1) := by decide +kernel
theorem dX7_faultPlace_30 : decode cX7_faultPlace 30 = .ok (.getfield 11, 3) := by decide +kernel
theorem dX7_faultPlace_33 : decode cX7_faultPlace 33 = .ok (.iload_n 2, 1) := by decide +kernel
theorem dX7_faultPlace_34 : decode cX7_faultPlace 34 = .ok (.iaload, 1) := by decide +kernel
theorem dX7_faultPlace_35 : decode cX7_faultPlace 35 = .ok (.bipush 59, 2) := by decide +kernel
theorem dX7_faultPlace_37 : decode cX7_faultPlace 37 = .ok (.if_icmp .ne 7, 3) := by decide +kernel
theorem dX7_faultPlace_40 : decode cX7_faultPlace 40 = .ok (.iload_n 2, 1) := by decide +kernel
theorem dX7_faultPlace_41 : decode cX7_faultPlace 41 = .ok (.iconst 1, 1) := by decide +kernel
theorem dX7_faultPlace_42 : decode cX7_faultPlace 42 = .ok (.iadd, 1) := by decide +kernel
theorem dX7_faultPlace_43 : decode cX7_faultPlace 43 = .ok (.istore_n 1, 1) := by decide +kernel
theorem dX7_faultPlace_44 : decode cX7_faultPlace 44 = .ok (.iinc 2 1, 3) := by decide +kernel
theorem dX7_faultPlace_47 : decode cX7_faultPlace 47 = .ok (.goto (-42), 3) := by decide +kernel
theorem dX7_faultPlace_50 : decode cX7_faultPlace 50 = .ok (.aload_n 0, 1) := by decide +kernel
theorem dX7_faultPlace_51 : decode cX7_faultPlace 51 = .ok (.getfield 15, 3) := by decide +kernel
theorem dX7_faultPlace_54 : decode cX7_faultPlace 54 = .ok (.ireturn, 1) := by decide +kernel
theorem dX7_fits_0 : decode cX7_fits 0 = .ok (.iload_n 1, 1) := by decide +kernel
theorem dX7_fits_1 : decode cX7_fits 1 = .ok (.iload_n 2, 1) := by decide +kernel
theorem dX7_fits_2 : decode cX7_fits 2 = .ok (.if_icmp .lt 21, 3) := by decide +kernel
theorem dX7_fits_5 : decode cX7_fits 5 = .ok (.iload_n 1, 1) := by decide +kernel
theorem dX7_fits_6 : decode cX7_fits 6 = .ok (.iload_n 2, 1) := by decide +kernel
theorem dX7_fits_7 : decode cX7_fits 7 = .ok (.if_icmp .ne 14, 3) := by decide +kernel
theorem dX7_fits_10 : decode cX7_fits 10 = .ok (.iload_n 0, 1) := by decide +kernel
theorem dX7_fits_11 : decode cX7_fits 11 = .ok (.invokestatic 23, 3) := by decide +kernel
theorem dX7_fits_14 : decode cX7_fits 14 = .ok (.ifCond .eq 7, 3) := by decide +kernel
theorem dX7_fits_17 : decode cX7_fits 17 = .ok (.iconst 1, 1) := by decide +kernel
theorem dX7_fits_18 : decode cX7_fits 18 = .ok (.goto 4, 3) := by decide +kernel
theorem dX7_fits_21 : decode cX7_fits 21 = .ok (.iconst 0, 1) := by decide +kernel
theorem dX7_fits_22 : decode cX7_fits 22 = .ok (.ireturn, 1) := by decide +kernel
theorem dX7_fits_23 : decode cX7_fits 23 = .ok (.iload_n 1, 1) := by decide +kernel
theorem dX7_fits_24 : decode cX7_fits 24 = .ok (.iconst 5, 1) := by decide +kernel
theorem dX7_fits_25 : decode cX7_fits 25 = .ok (.irem, 1) := by decide +kernel
theorem dX7_fits_26 : decode cX7_fits 26 = .ok (.tableswitch 77 0 4 #[34, 48, 77, 77, 67], 34) := by decide +kernel
theorem dX7_fits_60 : decode cX7_fits 60 = .ok (.iload_n 0, 1) := by decide +kernel
theorem dX7_fits_61 : decode cX7_fits 61 = .ok (.invokestatic 27, 3) := by decide +kernel
theorem dX7_fits_64 : decode cX7_fits 64 = .ok (.iconst (-1), 1) := by decide +kernel
theorem dX7_fits_65 : decode cX7_fits 65 = .ok (.if_icmp .eq 7, 3) := by decide +kernel
theorem dX7_fits_68 : decode cX7_fits 68 = .ok (.iconst 1, 1) := by decide +kernel
theorem dX7_fits_69 : decode cX7_fits 69 = .ok (.goto 4, 3) := by decide +kernel
theorem dX7_fits_72 : decode cX7_fits 72 = .ok (.iconst 0, 1) := by decide +kernel
theorem dX7_fits_73 : decode cX7_fits 73 = .ok (.ireturn, 1) := by decide +kernel
theorem dX7_fits_74 : decode cX7_fits 74 = .ok (.iload_n 0, 1) := by decide +kernel
theorem dX7_fits_75 : decode cX7_fits 75 = .ok (.invokestatic 23, 3) := by decide +kernel
theorem dX7_fits_78 : decode cX7_fits 78 = .ok (.ifCond .eq 13, 3) := by decide +kernel
theorem dX7_fits_81 : decode cX7_fits 81 = .ok (.iload_n 0, 1) := by decide +kernel
theorem dX7_fits_82 : decode cX7_fits 82 = .ok (.bipush 48, 2) := by decide +kernel
theorem dX7_fits_84 : decode cX7_fits 84 = .ok (.if_icmp .eq 7, 3) := by decide +kernel
theorem dX7_fits_87 : decode cX7_fits 87 = .ok (.iconst 1, 1) := by decide +kernel
theorem dX7_fits_88 : decode cX7_fits 88 = .ok (.goto 4, 3) := by decide +kernel
theorem dX7_fits_91 : decode cX7_fits 91 = .ok (.iconst 0, 1) := by decide +kernel
theorem dX7_fits_92 : decode cX7_fits 92 = .ok (.ireturn, 1) := by decide +kernel
theorem dX7_fits_93 : decode cX7_fits 93 = .ok (.iload_n 0, 1) := by decide +kernel
theorem dX7_fits_94 : decode cX7_fits 94 = .ok (.iload_n 1, 1) := by decide +kernel
theorem dX7_fits_95 : decode cX7_fits 95 = .ok (.iconst 5, 1) := by decide +kernel
theorem dX7_fits_96 : decode cX7_fits 96 = .ok (.idiv, 1) := by decide +kernel
theorem dX7_fits_97 : decode cX7_fits 97 = .ok (.iconst 1, 1) := by decide +kernel
theorem dX7_fits_98 : decode cX7_fits 98 = .ok (.iadd, 1) := by decide +kernel
theorem dX7_fits_99 : decode cX7_fits 99 = .ok (.invokestatic 31, 3) := by decide +kernel
theorem dX7_fits_102 : decode cX7_fits 102 = .ok (.ireturn, 1) := by decide +kernel
theorem dX7_fits_103 : decode cX7_fits 103 = .ok (.iload_n 0, 1) := by decide +kernel
theorem dX7_fits_104 : decode cX7_fits 104 = .ok (.invokestatic 23, 3) := by decide +kernel
theorem dX7_fits_107 : decode cX7_fits 107 = .ok (.ireturn, 1) := by decide +kernel
theorem dX7_fitsBehindBidder_0 : decode cX7_fitsBehindBidder 0 = .ok (.iload_n 0, 1) := by decide +kernel
theorem dX7_fitsBehindBidder_1 : decode cX7_fitsBehindBidder 1 = .ok (.bipush 44, 2) := by decide +kernel
theorem dX7_fitsBehindBidder_3 : decode cX7_fitsBehindBidder 3 = .ok (.if_icmp .ne 8, 3) := by decide +kernel
theorem dX7_fitsBehindBidder_6 : decode cX7_fitsBehindBidder 6 = .ok (.iload_n 1, 1) := by decide +kernel
theorem dX7_fitsBehindBidder_7 : decode cX7_fitsBehindBidder 7 = .ok (.iconst 5, 1) := by decide +kernel
theorem dX7_fitsBehindBidder_8 : decode cX7_fitsBehindBidder 8 = .ok (.if_icmp .lt 14, 3) := by decide +kernel
theorem dX7_fitsBehindBidder_11 : decode cX7_fitsBehindBidder 11 = .ok (.iload_n 0, 1) := by decide +kernel
theorem dX7_fitsBehindBidder_12 : decode cX7_fitsBehindBidder 12 = .ok (.bipush 59, 2) := by decide +kernel
theorem dX7_fitsBehindBidder_14 : decode cX7_fitsBehindBidder 14 = .ok (.if_icmp .ne 12, 3) := by decide +kernel
theorem dX7_fitsBehindBidder_17 : decode cX7_fitsBehindBidder 17 = .ok (.iload_n 1, 1) := by decide +kernel
theorem dX7_fitsBehindBidder_18 : decode cX7_fitsBehindBidder 18 = .ok (.iconst 2, 1) := by decide +kernel
theorem dX7_fitsBehindBidder_19 : decode cX7_fitsBehindBidder 19 = .ok (.if_icmp .lt 7, 3) := by decide +kernel
theorem dX7_fitsBehindBidder_22 : decode cX7_fitsBehindBidder 22 = .ok (.iconst 1, 1) := by decide +kernel
theorem dX7_fitsBehindBidder_23 : decode cX7_fitsBehindBidder 23 = .ok (.goto 4, 3) := by decide +kernel
theorem dX7_fitsBehindBidder_26 : decode cX7_fitsBehindBidder 26 = .ok (.iconst 0, 1) := by decide +kernel
theorem dX7_fitsBehindBidder_27 : decode cX7_fitsBehindBidder 27 = .ok (.ireturn, 1) := by decide +kernel
theorem dX7_isDigit_0 : decode cX7_isDigit 0 = .ok (.iload_n 0, 1) := by decide +kernel
theorem dX7_isDigit_1 : decode cX7_isDigit 1 = .ok (.bipush 48, 2) := by decide +kernel
theorem dX7_isDigit_3 : decode cX7_isDigit 3 = .ok (.if_icmp .lt 13, 3) := by decide +kernel
theorem dX7_isDigit_6 : decode cX7_isDigit 6 = .ok (.iload_n 0, 1) := by decide +kernel
theorem dX7_isDigit_7 : decode cX7_isDigit 7 = .ok (.bipush 57, 2) := by decide +kernel
theorem dX7_isDigit_9 : decode cX7_isDigit 9 = .ok (.if_icmp .gt 7, 3) := by decide +kernel
theorem dX7_isDigit_12 : decode cX7_isDigit 12 = .ok (.iconst 1, 1) := by decide +kernel
theorem dX7_isDigit_13 : decode cX7_isDigit 13 = .ok (.goto 4, 3) := by decide +kernel
theorem dX7_isDigit_16 : decode cX7_isDigit 16 = .ok (.iconst 0, 1) := by decide +kernel
theorem dX7_isDigit_17 : decode cX7_isDigit 17 = .ok (.ireturn, 1) := by decide +kernel
theorem dX7_kindOf_0 : decode cX7_kindOf 0 = .ok (.ldc 35, 2) := by decide +kernel
theorem dX7_kindOf_2 : decode cX7_kindOf 2 = .ok (.iload_n 0, 1) := by decide +kernel
theorem dX7_kindOf_3 : decode cX7_kindOf 3 = .ok (.i2c, 1) := by decide +kernel
theorem dX7_kindOf_4 : decode cX7_kindOf 4 = .ok (.invokevirtual 37, 3) := by decide +kernel
theorem dX7_kindOf_7 : decode cX7_kindOf 7 = .ok (.ireturn, 1) := by decide +kernel
theorem dX7_isHall_0 : decode cX7_isHall 0 = .ok (.aload_n 0, 1) := by decide +kernel
theorem dX7_isHall_1 : decode cX7_isHall 1 = .ok (.getfield 15, 3) := by decide +kernel
theorem dX7_isHall_4 : decode cX7_isHall 4 = .ok (.iconst 2, 1) := by decide +kernel
theorem dX7_isHall_5 : decode cX7_isHall 5 = .ok (.if_icmp .lt 34, 3) := by decide +kernel
theorem dX7_isHall_8 : decode cX7_isHall 8 = .ok (.aload_n 0, 1) := by decide +kernel
theorem dX7_isHall_9 : decode cX7_isHall 9 = .ok (.getfield 11, 3) := by decide +kernel
theorem dX7_isHall_12 : decode cX7_isHall 12 = .ok (.aload_n 0, 1) := by decide +kernel
theorem dX7_isHall_13 : decode cX7_isHall 13 = .ok (.getfield 15, 3) := by decide +kernel
theorem dX7_isHall_16 : decode cX7_isHall 16 = .ok (.iconst 2, 1) := by decide +kernel
theorem dX7_isHall_17 : decode cX7_isHall 17 = .ok (.isub, 1) := by decide +kernel
theorem dX7_isHall_18 : decode cX7_isHall 18 = .ok (.iaload, 1) := by decide +kernel
theorem dX7_isHall_19 : decode cX7_isHall 19 = .ok (.bipush 59, 2) := by decide +kernel
theorem dX7_isHall_21 : decode cX7_isHall 21 = .ok (.if_icmp .ne 18, 3) := by decide +kernel
theorem dX7_isHall_24 : decode cX7_isHall 24 = .ok (.aload_n 0, 1) := by decide +kernel
theorem dX7_isHall_25 : decode cX7_isHall 25 = .ok (.invokevirtual 42, 3) := by decide +kernel
theorem dX7_isHall_28 : decode cX7_isHall 28 = .ok (.aload_n 0, 1) := by decide +kernel
theorem dX7_isHall_29 : decode cX7_isHall 29 = .ok (.getfield 15, 3) := by decide +kernel
theorem dX7_isHall_32 : decode cX7_isHall 32 = .ok (.if_icmp .ne 7, 3) := by decide +kernel
theorem dX7_isHall_35 : decode cX7_isHall 35 = .ok (.iconst 1, 1) := by decide +kernel
theorem dX7_isHall_36 : decode cX7_isHall 36 = .ok (.goto 4, 3) := by decide +kernel
theorem dX7_isHall_39 : decode cX7_isHall 39 = .ok (.iconst 0, 1) := by decide +kernel
theorem dX7_isHall_40 : decode cX7_isHall 40 = .ok (.ireturn, 1) := by decide +kernel
theorem dX7_readInto_0 : decode cX7_readInto 0 = .ok (.aload_n 0, 1) := by decide +kernel
theorem dX7_readInto_1 : decode cX7_readInto 1 = .ok (.getfield 15, 3) := by decide +kernel
theorem dX7_readInto_4 : decode cX7_readInto 4 = .ok (.iconst 5, 1) := by decide +kernel
theorem dX7_readInto_5 : decode cX7_readInto 5 = .ok (.idiv, 1) := by decide +kernel
theorem dX7_readInto_6 : decode cX7_readInto 6 = .ok (.istore_n 2, 1) := by decide +kernel
theorem dX7_readInto_7 : decode cX7_readInto 7 = .ok (.aload_n 1, 1) := by decide +kernel
theorem dX7_readInto_8 : decode cX7_readInto 8 = .ok (.iconst 0, 1) := by decide +kernel
theorem dX7_readInto_9 : decode cX7_readInto 9 = .ok (.putfield 46, 3) := by decide +kernel
theorem dX7_readInto_12 : decode cX7_readInto 12 = .ok (.iconst 0, 1) := by decide +kernel
theorem dX7_readInto_13 : decode cX7_readInto 13 = .ok (.istore_n 3, 1) := by decide +kernel
theorem dX7_readInto_14 : decode cX7_readInto 14 = .ok (.iload_n 3, 1) := by decide +kernel
theorem dX7_readInto_15 : decode cX7_readInto 15 = .ok (.iload_n 2, 1) := by decide +kernel
theorem dX7_readInto_16 : decode cX7_readInto 16 = .ok (.if_icmp .ge 64, 3) := by decide +kernel
theorem dX7_readInto_19 : decode cX7_readInto 19 = .ok (.iconst 5, 1) := by decide +kernel
theorem dX7_readInto_20 : decode cX7_readInto 20 = .ok (.iload_n 3, 1) := by decide +kernel
theorem dX7_readInto_21 : decode cX7_readInto 21 = .ok (.imul, 1) := by decide +kernel
theorem dX7_readInto_22 : decode cX7_readInto 22 = .ok (.istore 4, 2) := by decide +kernel
theorem dX7_readInto_24 : decode cX7_readInto 24 = .ok (.aload_n 1, 1) := by decide +kernel
theorem dX7_readInto_25 : decode cX7_readInto 25 = .ok (.aload_n 0, 1) := by decide +kernel
theorem dX7_readInto_26 : decode cX7_readInto 26 = .ok (.getfield 11, 3) := by decide +kernel
theorem dX7_readInto_29 : decode cX7_readInto 29 = .ok (.iload 4, 2) := by decide +kernel
theorem dX7_readInto_31 : decode cX7_readInto 31 = .ok (.iaload, 1) := by decide +kernel
theorem dX7_readInto_32 : decode cX7_readInto 32 = .ok (.invokestatic 27, 3) := by decide +kernel
theorem dX7_readInto_35 : decode cX7_readInto 35 = .ok (.aload_n 0, 1) := by decide +kernel
theorem dX7_readInto_36 : decode cX7_readInto 36 = .ok (.getfield 11, 3) := by decide +kernel
theorem dX7_readInto_39 : decode cX7_readInto 39 = .ok (.iload 4, 2) := by decide +kernel
theorem dX7_readInto_41 : decode cX7_readInto 41 = .ok (.iconst 1, 1) := by decide +kernel
theorem dX7_readInto_42 : decode cX7_readInto 42 = .ok (.iadd, 1) := by decide +kernel
theorem dX7_readInto_43 : decode cX7_readInto 43 = .ok (.iaload, 1) := by decide +kernel
theorem dX7_readInto_44 : decode cX7_readInto 44 = .ok (.bipush 48, 2) := by decide +kernel
theorem dX7_readInto_46 : decode cX7_readInto 46 = .ok (.isub, 1) := by decide +kernel
theorem dX7_readInto_47 : decode cX7_readInto 47 = .ok (.aload_n 0, 1) := by decide +kernel
theorem dX7_readInto_48 : decode cX7_readInto 48 = .ok (.getfield 11, 3) := by decide +kernel
theorem dX7_readInto_51 : decode cX7_readInto 51 = .ok (.iload 4, 2) := by decide +kernel
theorem dX7_readInto_53 : decode cX7_readInto 53 = .ok (.iconst 2, 1) := by decide +kernel
theorem dX7_readInto_54 : decode cX7_readInto 54 = .ok (.iadd, 1) := by decide +kernel
theorem dX7_readInto_55 : decode cX7_readInto 55 = .ok (.iaload, 1) := by decide +kernel
theorem dX7_readInto_56 : decode cX7_readInto 56 = .ok (.bipush 48, 2) := by decide +kernel
theorem dX7_readInto_58 : decode cX7_readInto 58 = .ok (.isub, 1) := by decide +kernel
theorem dX7_readInto_59 : decode cX7_readInto 59 = .ok (.aload_n 0, 1) := by decide +kernel
theorem dX7_readInto_60 : decode cX7_readInto 60 = .ok (.getfield 11, 3) := by decide +kernel
theorem dX7_readInto_63 : decode cX7_readInto 63 = .ok (.iload 4, 2) := by decide +kernel
theorem dX7_readInto_65 : decode cX7_readInto 65 = .ok (.iconst 3, 1) := by decide +kernel
theorem dX7_readInto_66 : decode cX7_readInto 66 = .ok (.iadd, 1) := by decide +kernel
theorem dX7_readInto_67 : decode cX7_readInto 67 = .ok (.iaload, 1) := by decide +kernel
theorem dX7_readInto_68 : decode cX7_readInto 68 = .ok (.bipush 48, 2) := by decide +kernel
theorem dX7_readInto_70 : decode cX7_readInto 70 = .ok (.isub, 1) := by decide +kernel
theorem dX7_readInto_71 : decode cX7_readInto 71 = .ok (.invokevirtual 51, 3) := by decide +kernel
theorem dX7_readInto_74 : decode cX7_readInto 74 = .ok (.iinc 3 1, 3) := by decide +kernel
theorem dX7_readInto_77 : decode cX7_readInto 77 = .ok (.goto (-63), 3) := by decide +kernel
theorem dX7_readInto_80 : decode cX7_readInto 80 = .ok (.aload_n 1, 1) := by decide +kernel
theorem dX7_readInto_81 : decode cX7_readInto 81 = .ok (.aload_n 0, 1) := by decide +kernel
theorem dX7_readInto_82 : decode cX7_readInto 82 = .ok (.getfield 11, 3) := by decide +kernel
theorem dX7_readInto_85 : decode cX7_readInto 85 = .ok (.aload_n 0, 1) := by decide +kernel
theorem dX7_readInto_86 : decode cX7_readInto 86 = .ok (.getfield 15, 3) := by decide +kernel
theorem dX7_readInto_89 : decode cX7_readInto 89 = .ok (.iconst 1, 1) := by decide +kernel
theorem dX7_readInto_90 : decode cX7_readInto 90 = .ok (.isub, 1) := by decide +kernel
theorem dX7_readInto_91 : decode cX7_readInto 91 = .ok (.iaload, 1) := by decide +kernel
theorem dX7_readInto_92 : decode cX7_readInto 92 = .ok (.bipush 48, 2) := by decide +kernel
theorem dX7_readInto_94 : decode cX7_readInto 94 = .ok (.isub, 1) := by decide +kernel
theorem dX7_readInto_95 : decode cX7_readInto 95 = .ok (.putfield 55, 3) := by decide +kernel
theorem dX7_readInto_98 : decode cX7_readInto 98 = .ok (.return_, 1) := by decide +kernel
theorem dX8_init_0 : decode cX8_init 0 = .ok (.aload_n 0, 1) := by decide +kernel
theorem dX8_init_1 : decode cX8_init 1 = .ok (.invokespecial 3, 3) := by decide +kernel
theorem dX8_init_4 : decode cX8_init 4 = .ok (.aload_n 0, 1) := by decide +kernel
theorem dX8_init_5 : decode cX8_init 5 = .ok (.sipush 1024, 3) := by decide +kernel
theorem dX8_init_8 : decode cX8_init 8 = .ok (.newarray .int, 2) := by decide +kernel
theorem dX8_init_10 : decode cX8_init 10 = .ok (.putfield 11, 3) := by decide +kernel
theorem dX8_init_13 : decode cX8_init 13 = .ok (.aload_n 0, 1) := by decide +kernel
theorem dX8_init_14 : decode cX8_init 14 = .ok (.sipush 1024, 3) := by decide +kernel
theorem dX8_init_17 : decode cX8_init 17 = .ok (.newarray .int, 2) := by decide +kernel
theorem dX8_init_19 : decode cX8_init 19 = .ok (.putfield 15, 3) := by decide +kernel
theorem dX8_init_22 : decode cX8_init 22 = .ok (.aload_n 0, 1) := by decide +kernel
theorem dX8_init_23 : decode cX8_init 23 = .ok (.iconst 5, 1) := by decide +kernel
theorem dX8_init_24 : decode cX8_init 24 = .ok (.newarray .int, 2) := by decide +kernel
theorem dX8_init_26 : decode cX8_init 26 = .ok (.putfield 18, 3) := by decide +kernel
theorem dX8_init_29 : decode cX8_init 29 = .ok (.aload_n 0, 1) := by decide +kernel
theorem dX8_init_30 : decode cX8_init 30 = .ok (.iconst 5, 1) := by decide +kernel
theorem dX8_init_31 : decode cX8_init 31 = .ok (.newarray .int, 2) := by decide +kernel
theorem dX8_init_33 : decode cX8_init 33 = .ok (.putfield 21, 3) := by decide +kernel
theorem dX8_init_36 : decode cX8_init 36 = .ok (.aload_n 0, 1) := by decide +kernel
theorem dX8_init_37 : decode cX8_init 37 = .ok (.iconst 5, 1) := by decide +kernel
theorem dX8_init_38 : decode cX8_init 38 = .ok (.newarray .int, 2) := by decide +kernel
theorem dX8_init_40 : decode cX8_init 40 = .ok (.putfield 24, 3) := by decide +kernel
theorem dX8_init_43 : decode cX8_init 43 = .ok (.return_, 1) := by decide +kernel
theorem dX8_find_0 : decode cX8_find 0 = .ok (.aload_n 0, 1) := by decide +kernel
theorem dX8_find_1 : decode cX8_find 1 = .ok (.aload_n 1, 1) := by decide +kernel
theorem dX8_find_2 : decode cX8_find 2 = .ok (.getfield 27, 3) := by decide +kernel
theorem dX8_find_5 : decode cX8_find 5 = .ok (.getfield 33, 3) := by decide +kernel
theorem dX8_find_8 : decode cX8_find 8 = .ok (.putfield 39, 3) := by decide +kernel
theorem dX8_find_11 : decode cX8_find 11 = .ok (.aload_n 0, 1) := by decide +kernel
theorem dX8_find_12 : decode cX8_find 12 = .ok (.iload_n 2, 1) := by decide +kernel
theorem dX8_find_13 : decode cX8_find 13 = .ok (.putfield 40, 3) := by decide +kernel
theorem dX8_find_16 : decode cX8_find 16 = .ok (.aload_n 0, 1) := by decide +kernel
theorem dX8_find_17 : decode cX8_find 17 = .ok (.invokevirtual 43, 3) := by decide +kernel
theorem dX8_find_20 : decode cX8_find 20 = .ok (.istore_n 3, 1) := by decide +kernel
theorem dX8_find_21 : decode cX8_find 21 = .ok (.aload_n 0, 1) := by decide +kernel
theorem dX8_find_22 : decode cX8_find 22 = .ok (.aload_n 1, 1) := by decide +kernel
theorem dX8_find_23 : decode cX8_find 23 = .ok (.iload_n 3, 1) := by decide +kernel
theorem dX8_find_24 : decode cX8_find 24 = .ok (.invokevirtual 47, 3) := by decide +kernel
theorem dX8_find_27 : decode cX8_find 27 = .ok (.aload_n 0, 1) := by decide +kernel
theorem dX8_find_28 : decode cX8_find 28 = .ok (.iconst 0, 1) := by decide +kernel
theorem dX8_find_29 : decode cX8_find 29 = .ok (.putfield 51, 3) := by decide +kernel
theorem dX8_find_32 : decode cX8_find 32 = .ok (.aload_n 0, 1) := by decide +kernel
theorem dX8_find_33 : decode cX8_find 33 = .ok (.invokevirtual 54, 3) := by decide +kernel
theorem dX8_find_36 : decode cX8_find 36 = .ok (.iconst 0, 1) := by decide +kernel
theorem dX8_find_37 : decode cX8_find 37 = .ok (.istore 4, 2) := by decide +kernel
theorem dX8_find_39 : decode cX8_find 39 = .ok (.iload 4, 2) := by decide +kernel
theorem dX8_find_41 : decode cX8_find 41 = .ok (.iload_n 3, 1) := by decide +kernel
theorem dX8_find_42 : decode cX8_find 42 = .ok (.if_icmp .ge 36, 3) := by decide +kernel
theorem dX8_find_45 : decode cX8_find 45 = .ok (.aload_n 0, 1) := by decide +kernel
theorem dX8_find_46 : decode cX8_find 46 = .ok (.iload 4, 2) := by decide +kernel
theorem dX8_find_48 : decode cX8_find 48 = .ok (.invokevirtual 57, 3) := by decide +kernel
theorem dX8_find_51 : decode cX8_find 51 = .ok (.ifCond .eq 17, 3) := by decide +kernel
theorem dX8_find_54 : decode cX8_find 54 = .ok (.aload_n 0, 1) := by decide +kernel
theorem dX8_find_55 : decode cX8_find 55 = .ok (.invokevirtual 61, 3) := by decide +kernel
theorem dX8_find_58 : decode cX8_find 58 = .ok (.aload_n 0, 1) := by decide +kernel
theorem dX8_find_59 : decode cX8_find 59 = .ok (.dup, 1) := by decide +kernel
theorem dX8_find_60 : decode cX8_find 60 = .ok (.getfield 51, 3) := by decide +kernel
theorem dX8_find_63 : decode cX8_find 63 = .ok (.iconst 1, 1) := by decide +kernel
theorem dX8_find_64 : decode cX8_find 64 = .ok (.iadd, 1) := by decide +kernel
theorem dX8_find_65 : decode cX8_find 65 = .ok (.putfield 51, 3) := by decide +kernel
theorem dX8_find_68 : decode cX8_find 68 = .ok (.aload_n 0, 1) := by decide +kernel
theorem dX8_find_69 : decode cX8_find 69 = .ok (.invokevirtual 64, 3) := by decide +kernel
theorem dX8_find_72 : decode cX8_find 72 = .ok (.iinc 4 1, 3) := by decide +kernel
theorem dX8_find_75 : decode cX8_find 75 = .ok (.goto (-36), 3) := by decide +kernel
theorem dX8_find_78 : decode cX8_find 78 = .ok (.return_, 1) := by decide +kernel
theorem dX8_weigh_0 : decode cX8_weigh 0 = .ok (.iconst 1, 1) := by decide +kernel
theorem dX8_weigh_1 : decode cX8_weigh 1 = .ok (.istore_n 1, 1) := by decide +kernel
theorem dX8_weigh_2 : decode cX8_weigh 2 = .ok (.aload_n 0, 1) := by decide +kernel
theorem dX8_weigh_3 : decode cX8_weigh 3 = .ok (.getfield 39, 3) := by decide +kernel
theorem dX8_weigh_6 : decode cX8_weigh 6 = .ok (.iconst 1, 1) := by decide +kernel
theorem dX8_weigh_7 : decode cX8_weigh 7 = .ok (.isub, 1) := by decide +kernel
theorem dX8_weigh_8 : decode cX8_weigh 8 = .ok (.istore_n 2, 1) := by decide +kernel
theorem dX8_weigh_9 : decode cX8_weigh 9 = .ok (.iload_n 2, 1) := by decide +kernel
theorem dX8_weigh_10 : decode cX8_weigh 10 = .ok (.ifCond .lt 23, 3) := by decide +kernel
theorem dX8_weigh_13 : decode cX8_weigh 13 = .ok (.aload_n 0, 1) := by decide +kernel
theorem dX8_weigh_14 : decode cX8_weigh 14 = .ok (.getfield 18, 3) := by decide +kernel
theorem dX8_weigh_17 : decode cX8_weigh 17 = .ok (.iload_n 2, 1) := by decide +kernel
theorem dX8_weigh_18 : decode cX8_weigh 18 = .ok (.iload_n 1, 1) := by decide +kernel
theorem dX8_weigh_19 : decode cX8_weigh 19 = .ok (.iastore, 1) := by decide +kernel
theorem dX8_weigh_20 : decode cX8_weigh 20 = .ok (.iload_n 1, 1) := by decide +kernel
theorem dX8_weigh_21 : decode cX8_weigh 21 = .ok (.aload_n 0, 1) := by decide +kernel
theorem dX8_weigh_22 : decode cX8_weigh 22 = .ok (.getfield 40, 3) := by decide +kernel
theorem dX8_weigh_25 : decode cX8_weigh 25 = .ok (.imul, 1) := by decide +kernel
theorem dX8_weigh_26 : decode cX8_weigh 26 = .ok (.istore_n 1, 1) := by decide +kernel
theorem dX8_weigh_27 : decode cX8_weigh 27 = .ok (.iinc 2 (-1), 3) := by decide +kernel
theorem dX8_weigh_30 : decode cX8_weigh 30 = .ok (.goto (-21), 3) := by decide +kernel
theorem dX8_weigh_33 : decode cX8_weigh 33 = .ok (.iload_n 1, 1) := by decide +kernel
theorem dX8_weigh_34 : decode cX8_weigh 34 = .ok (.sipush 1024, 3) := by decide +kernel
theorem dX8_weigh_37 : decode cX8_weigh 37 = .ok (.invokestatic 67, 3) := by decide +kernel
theorem dX8_weigh_40 : decode cX8_weigh 40 = .ok (.ireturn, 1) := by decide +kernel
theorem dX8_chooseFirst_0 : decode cX8_chooseFirst 0 = .ok (.iconst 0, 1) := by decide +kernel
theorem dX8_chooseFirst_1 : decode cX8_chooseFirst 1 = .ok (.istore_n 1, 1) := by decide +kernel
theorem dX8_chooseFirst_2 : decode cX8_chooseFirst 2 = .ok (.iload_n 1, 1) := by decide +kernel
theorem dX8_chooseFirst_3 : decode cX8_chooseFirst 3 = .ok (.aload_n 0, 1) := by decide +kernel
theorem dX8_chooseFirst_4 : decode cX8_chooseFirst 4 = .ok (.getfield 39, 3) := by decide +kernel
theorem dX8_chooseFirst_7 : decode cX8_chooseFirst 7 = .ok (.if_icmp .ge 16, 3) := by decide +kernel
theorem dX8_chooseFirst_10 : decode cX8_chooseFirst 10 = .ok (.aload_n 0, 1) := by decide +kernel
theorem dX8_chooseFirst_11 : decode cX8_chooseFirst 11 = .ok (.getfield 21, 3) := by decide +kernel
theorem dX8_chooseFirst_14 : decode cX8_chooseFirst 14 = .ok (.iload_n 1, 1) := by decide +kernel
theorem dX8_chooseFirst_15 : decode cX8_chooseFirst 15 = .ok (.iconst 1, 1) := by decide +kernel
theorem dX8_chooseFirst_16 : decode cX8_chooseFirst 16 = .ok (.iastore, 1) := by decide +kernel
theorem dX8_chooseFirst_17 : decode cX8_chooseFirst 17 = .ok (.iinc 1 1, 3) := by decide +kernel
theorem dX8_chooseFirst_20 : decode cX8_chooseFirst 20 = .ok (.goto (-18), 3) := by decide +kernel
theorem dX8_chooseFirst_23 : decode cX8_chooseFirst 23 = .ok (.return_, 1) := by decide +kernel
theorem dX8_chooseNext_0 : decode cX8_chooseNext 0 = .ok (.aload_n 0, 1) := by decide +kernel
theorem dX8_chooseNext_1 : decode cX8_chooseNext 1 = .ok (.getfield 39, 3) := by decide +kernel
theorem dX8_chooseNext_4 : decode cX8_chooseNext 4 = .ok (.iconst 1, 1) := by decide +kernel
theorem dX8_chooseNext_5 : decode cX8_chooseNext 5 = .ok (.isub, 1) := by decide +kernel
theorem dX8_chooseNext_6 : decode cX8_chooseNext 6 = .ok (.istore_n 1, 1) := by decide +kernel
theorem dX8_chooseNext_7 : decode cX8_chooseNext 7 = .ok (.iload_n 1, 1) := by decide +kernel
theorem dX8_chooseNext_8 : decode cX8_chooseNext 8 = .ok (.ifCond .lt 40, 3) := by decide +kernel
theorem dX8_chooseNext_11 : decode cX8_chooseNext 11 = .ok (.aload_n 0, 1) := by decide +kernel
theorem dX8_chooseNext_12 : decode cX8_chooseNext 12 = .ok (.getfield 21, 3) := by decide +kernel
theorem dX8_chooseNext_15 : decode cX8_chooseNext 15 = .ok (.iload_n 1, 1) := by decide +kernel
theorem dX8_chooseNext_16 : decode cX8_chooseNext 16 = .ok (.iaload, 1) := by decide +kernel
theorem dX8_chooseNext_17 : decode cX8_chooseNext 17 = .ok (.aload_n 0, 1) := by decide +kernel
theorem dX8_chooseNext_18 : decode cX8_chooseNext 18 = .ok (.getfield 40, 3) := by decide +kernel
theorem dX8_chooseNext_21 : decode cX8_chooseNext 21 = .ok (.if_icmp .ge 14, 3) := by decide +kernel
theorem dX8_chooseNext_24 : decode cX8_chooseNext 24 = .ok (.aload_n 0, 1) := by decide +kernel
theorem dX8_chooseNext_25 : decode cX8_chooseNext 25 = .ok (.getfield 21, 3) := by decide +kernel
theorem dX8_chooseNext_28 : decode cX8_chooseNext 28 = .ok (.iload_n 1, 1) := by decide +kernel
theorem dX8_chooseNext_29 : decode cX8_chooseNext 29 = .ok (.dup2, 1) := by decide +kernel
theorem dX8_chooseNext_30 : decode cX8_chooseNext 30 = .ok (.iaload, 1) := by decide +kernel
theorem dX8_chooseNext_31 : decode cX8_chooseNext 31 = .ok (.iconst 1, 1) := by decide +kernel
theorem dX8_chooseNext_32 : decode cX8_chooseNext 32 = .ok (.iadd, 1) := by decide +kernel
theorem dX8_chooseNext_33 : decode cX8_chooseNext 33 = .ok (.iastore, 1) := by decide +kernel
theorem dX8_chooseNext_34 : decode cX8_chooseNext 34 = .ok (.return_, 1) := by decide +kernel
theorem dX8_chooseNext_35 : decode cX8_chooseNext 35 = .ok (.aload_n 0, 1) := by decide +kernel
theorem dX8_chooseNext_36 : decode cX8_chooseNext 36 = .ok (.getfield 21, 3) := by decide +kernel
theorem dX8_chooseNext_39 : decode cX8_chooseNext 39 = .ok (.iload_n 1, 1) := by decide +kernel
theorem dX8_chooseNext_40 : decode cX8_chooseNext 40 = .ok (.iconst 1, 1) := by decide +kernel
theorem dX8_chooseNext_41 : decode cX8_chooseNext 41 = .ok (.iastore, 1) := by decide +kernel
theorem dX8_chooseNext_42 : decode cX8_chooseNext 42 = .ok (.iinc 1 (-1), 3) := by decide +kernel
theorem dX8_chooseNext_45 : decode cX8_chooseNext 45 = .ok (.goto (-38), 3) := by decide +kernel
theorem dX8_chooseNext_48 : decode cX8_chooseNext 48 = .ok (.return_, 1) := by decide +kernel
theorem dX8_tryAll_0 : decode cX8_tryAll 0 = .ok (.aload_n 1, 1) := by decide +kernel
theorem dX8_tryAll_1 : decode cX8_tryAll 1 = .ok (.invokevirtual 73, 3) := by decide +kernel
theorem dX8_tryAll_4 : decode cX8_tryAll 4 = .ok (.aload_n 0, 1) := by decide +kernel
theorem dX8_tryAll_5 : decode cX8_tryAll 5 = .ok (.invokevirtual 54, 3) := by decide +kernel
theorem dX8_tryAll_8 : decode cX8_tryAll 8 = .ok (.iconst 0, 1) := by decide +kernel
theorem dX8_tryAll_9 : decode cX8_tryAll 9 = .ok (.istore_n 3, 1) := by decide +kernel
theorem dX8_tryAll_10 : decode cX8_tryAll 10 = .ok (.iload_n 3, 1) := by decide +kernel
theorem dX8_tryAll_11 : decode cX8_tryAll 11 = .ok (.iload_n 2, 1) := by decide +kernel
theorem dX8_tryAll_12 : decode cX8_tryAll 12 = .ok (.if_icmp .ge 84, 3) := by decide +kernel
theorem dX8_tryAll_15 : decode cX8_tryAll 15 = .ok (.iconst 0, 1) := by decide +kernel
theorem dX8_tryAll_16 : decode cX8_tryAll 16 = .ok (.istore 4, 2) := by decide +kernel
theorem dX8_tryAll_18 : decode cX8_tryAll 18 = .ok (.iload 4, 2) := by decide +kernel
theorem dX8_tryAll_20 : decode cX8_tryAll 20 = .ok (.aload_n 0, 1) := by decide +kernel
theorem dX8_tryAll_21 : decode cX8_tryAll 21 = .ok (.getfield 39, 3) := by decide +kernel
theorem dX8_tryAll_24 : decode cX8_tryAll 24 = .ok (.if_icmp .ge 22, 3) := by decide +kernel
theorem dX8_tryAll_27 : decode cX8_tryAll 27 = .ok (.aload_n 1, 1) := by decide +kernel
theorem dX8_tryAll_28 : decode cX8_tryAll 28 = .ok (.iload 4, 2) := by decide +kernel
theorem dX8_tryAll_30 : decode cX8_tryAll 30 = .ok (.aload_n 0, 1) := by decide +kernel
theorem dX8_tryAll_31 : decode cX8_tryAll 31 = .ok (.getfield 21, 3) := by decide +kernel
theorem dX8_tryAll_34 : decode cX8_tryAll 34 = .ok (.iload 4, 2) := by decide +kernel
theorem dX8_tryAll_36 : decode cX8_tryAll 36 = .ok (.iaload, 1) := by decide +kernel
theorem dX8_tryAll_37 : decode cX8_tryAll 37 = .ok (.invokevirtual 76, 3) := by decide +kernel
theorem dX8_tryAll_40 : decode cX8_tryAll 40 = .ok (.iinc 4 1, 3) := by decide +kernel
theorem dX8_tryAll_43 : decode cX8_tryAll 43 = .ok (.goto (-25), 3) := by decide +kernel
theorem dX8_tryAll_46 : decode cX8_tryAll 46 = .ok (.aload_n 1, 1) := by decide +kernel
theorem dX8_tryAll_47 : decode cX8_tryAll 47 = .ok (.invokevirtual 80, 3) := by decide +kernel
theorem dX8_tryAll_50 : decode cX8_tryAll 50 = .ok (.aload_n 0, 1) := by decide +kernel
theorem dX8_tryAll_51 : decode cX8_tryAll 51 = .ok (.getfield 11, 3) := by decide +kernel
theorem dX8_tryAll_54 : decode cX8_tryAll 54 = .ok (.iload_n 3, 1) := by decide +kernel
theorem dX8_tryAll_55 : decode cX8_tryAll 55 = .ok (.aload_n 1, 1) := by decide +kernel
theorem dX8_tryAll_56 : decode cX8_tryAll 56 = .ok (.getfield 83, 3) := by decide +kernel
theorem dX8_tryAll_59 : decode cX8_tryAll 59 = .ok (.iastore, 1) := by decide +kernel
theorem dX8_tryAll_60 : decode cX8_tryAll 60 = .ok (.aload_n 0, 1) := by decide +kernel
theorem dX8_tryAll_61 : decode cX8_tryAll 61 = .ok (.getfield 15, 3) := by decide +kernel
theorem dX8_tryAll_64 : decode cX8_tryAll 64 = .ok (.iload_n 3, 1) := by decide +kernel
theorem dX8_tryAll_65 : decode cX8_tryAll 65 = .ok (.aload_n 1, 1) := by decide +kernel
theorem dX8_tryAll_66 : decode cX8_tryAll 66 = .ok (.getfield 83, 3) := by decide +kernel
theorem dX8_tryAll_69 : decode cX8_tryAll 69 = .ok (.iconst (-1), 1) := by decide +kernel
theorem dX8_tryAll_70 : decode cX8_tryAll 70 = .ok (.if_icmp .ne 7, 3) := by decide +kernel
theorem dX8_tryAll_73 : decode cX8_tryAll 73 = .ok (.iconst 0, 1) := by decide +kernel
theorem dX8_tryAll_74 : decode cX8_tryAll 74 = .ok (.goto 11, 3) := by decide +kernel
theorem dX8_tryAll_77 : decode cX8_tryAll 77 = .ok (.aload_n 1, 1) := by decide +kernel
theorem dX8_tryAll_78 : decode cX8_tryAll 78 = .ok (.aload_n 1, 1) := by decide +kernel
theorem dX8_tryAll_79 : decode cX8_tryAll 79 = .ok (.getfield 83, 3) := by decide +kernel
theorem dX8_tryAll_82 : decode cX8_tryAll 82 = .ok (.invokevirtual 86, 3) := by decide +kernel
theorem dX8_tryAll_85 : decode cX8_tryAll 85 = .ok (.iastore, 1) := by decide +kernel
theorem dX8_tryAll_86 : decode cX8_tryAll 86 = .ok (.aload_n 0, 1) := by decide +kernel
theorem dX8_tryAll_87 : decode cX8_tryAll 87 = .ok (.invokevirtual 64, 3) := by decide +kernel
theorem dX8_tryAll_90 : decode cX8_tryAll 90 = .ok (.iinc 3 1, 3) := by decide +kernel
theorem dX8_tryAll_93 : decode cX8_tryAll 93 = .ok (.goto (-83), 3) := by decide +kernel
theorem dX8_tryAll_96 : decode cX8_tryAll 96 = .ok (.return_, 1) := by decide +kernel
theorem dX8_isRest_0 : decode cX8_isRest 0 = .ok (.iconst 0, 1) := by decide +kernel
theorem dX8_isRest_1 : decode cX8_isRest 1 = .ok (.istore_n 2, 1) := by decide +kernel
theorem dX8_isRest_2 : decode cX8_isRest 2 = .ok (.iload_n 2, 1) := by decide +kernel
theorem dX8_isRest_3 : decode cX8_isRest 3 = .ok (.aload_n 0, 1) := by decide +kernel
theorem dX8_isRest_4 : decode cX8_isRest 4 = .ok (.getfield 39, 3) := by decide +kernel
theorem dX8_isRest_7 : decode cX8_isRest 7 = .ok (.if_icmp .ge 20, 3) := by decide +kernel
theorem dX8_isRest_10 : decode cX8_isRest 10 = .ok (.aload_n 0, 1) := by decide +kernel
theorem dX8_isRest_11 : decode cX8_isRest 11 = .ok (.iload_n 1, 1) := by decide +kernel
theorem dX8_isRest_12 : decode cX8_isRest 12 = .ok (.iload_n 2, 1) := by decide +kernel
theorem dX8_isRest_13 : decode cX8_isRest 13 = .ok (.invokevirtual 90, 3) := by decide +kernel
theorem dX8_isRest_16 : decode cX8_isRest 16 = .ok (.ifCond .eq 5, 3) := by decide +kernel
theorem dX8_isRest_19 : decode cX8_isRest 19 = .ok (.iconst 0, 1) := by decide +kernel
theorem dX8_isRest_20 : decode cX8_isRest 20 = .ok (.ireturn, 1) := by decide +kernel
theorem dX8_isRest_21 : decode cX8_isRest 21 = .ok (.iinc 2 1, 3) := by decide +kernel
theorem dX8_isRest_24 : decode cX8_isRest 24 = .ok (.goto (-22), 3) := by decide +kernel
theorem dX8_isRest_27 : decode cX8_isRest 27 = .ok (.iconst 1, 1) := by decide +kernel
theorem dX8_isRest_28 : decode cX8_isRest 28 = .ok (.ireturn, 1) := by decide +kernel
theorem dX8_wouldChange_0 : decode cX8_wouldChange 0 = .ok (.aload_n 0, 1) := by decide +kernel
theorem dX8_wouldChange_1 : decode cX8_wouldChange 1 = .ok (.iload_n 1, 1) := by decide +kernel
theorem dX8_wouldChange_2 : decode cX8_wouldChange 2 = .ok (.iload_n 2, 1) := by decide +kernel
theorem dX8_wouldChange_3 : decode cX8_wouldChange 3 = .ok (.invokevirtual 94, 3) := by decide +kernel
theorem dX8_wouldChange_6 : decode cX8_wouldChange 6 = .ok (.istore_n 3, 1) := by decide +kernel
theorem dX8_wouldChange_7 : decode cX8_wouldChange 7 = .ok (.iload_n 1, 1) := by decide +kernel
theorem dX8_wouldChange_8 : decode cX8_wouldChange 8 = .ok (.aload_n 0, 1) := by decide +kernel
theorem dX8_wouldChange_9 : decode cX8_wouldChange 9 = .ok (.getfield 21, 3) := by decide +kernel
theorem dX8_wouldChange_12 : decode cX8_wouldChange 12 = .ok (.iload_n 2, 1) := by decide +kernel
theorem dX8_wouldChange_13 : decode cX8_wouldChange 13 = .ok (.iaload, 1) := by decide +kernel
theorem dX8_wouldChange_14 : decode cX8_wouldChange 14 = .ok (.iconst 1, 1) := by decide +kernel
theorem dX8_wouldChange_15 : decode cX8_wouldChange 15 = .ok (.isub, 1) := by decide +kernel
theorem dX8_wouldChange_16 : decode cX8_wouldChange 16 = .ok (.aload_n 0, 1) := by decide +kernel
theorem dX8_wouldChange_17 : decode cX8_wouldChange 17 = .ok (.getfield 18, 3) := by decide +kernel
theorem dX8_wouldChange_20 : decode cX8_wouldChange 20 = .ok (.iload_n 2, 1) := by decide +kernel
theorem dX8_wouldChange_21 : decode cX8_wouldChange 21 = .ok (.iaload, 1) := by decide +kernel
theorem dX8_wouldChange_22 : decode cX8_wouldChange 22 = .ok (.imul, 1) := by decide +kernel
theorem dX8_wouldChange_23 : decode cX8_wouldChange 23 = .ok (.isub, 1) := by decide +kernel
theorem dX8_wouldChange_24 : decode cX8_wouldChange 24 = .ok (.istore 4, 2) := by decide +kernel
theorem dX8_wouldChange_26 : decode cX8_wouldChange 26 = .ok (.iconst 0, 1) := by decide +kernel
theorem dX8_wouldChange_27 : decode cX8_wouldChange 27 = .ok (.istore 5, 2) := by decide +kernel
theorem dX8_wouldChange_29 : decode cX8_wouldChange 29 = .ok (.iload 5, 2) := by decide +kernel
theorem dX8_wouldChange_31 : decode cX8_wouldChange 31 = .ok (.aload_n 0, 1) := by decide +kernel
theorem dX8_wouldChange_32 : decode cX8_wouldChange 32 = .ok (.getfield 40, 3) := by decide +kernel
theorem dX8_wouldChange_35 : decode cX8_wouldChange 35 = .ok (.if_icmp .ge 32, 3) := by decide +kernel
theorem dX8_wouldChange_38 : decode cX8_wouldChange 38 = .ok (.aload_n 0, 1) := by decide +kernel
theorem dX8_wouldChange_39 : decode cX8_wouldChange 39 = .ok (.iload 4, 2) := by decide +kernel
theorem dX8_wouldChange_41 : decode cX8_wouldChange 41 = .ok (.iload 5, 2) := by decide +kernel
theorem dX8_wouldChange_43 : decode cX8_wouldChange 43 = .ok (.aload_n 0, 1) := by decide +kernel
theorem dX8_wouldChange_44 : decode cX8_wouldChange 44 = .ok (.getfield 18, 3) := by decide +kernel
theorem dX8_wouldChange_47 : decode cX8_wouldChange 47 = .ok (.iload_n 2, 1) := by decide +kernel
theorem dX8_wouldChange_48 : decode cX8_wouldChange 48 = .ok (.iaload, 1) := by decide +kernel
theorem dX8_wouldChange_49 : decode cX8_wouldChange 49 = .ok (.imul, 1) := by decide +kernel
theorem dX8_wouldChange_50 : decode cX8_wouldChange 50 = .ok (.iadd, 1) := by decide +kernel
theorem dX8_wouldChange_51 : decode cX8_wouldChange 51 = .ok (.iload_n 2, 1) := by decide +kernel
theorem dX8_wouldChange_52 : decode cX8_wouldChange 52 = .ok (.invokevirtual 94, 3) := by decide +kernel
theorem dX8_wouldChange_55 : decode cX8_wouldChange 55 = .ok (.iload_n 3, 1) := by decide +kernel
theorem dX8_wouldChange_56 : decode cX8_wouldChange 56 = .ok (.if_icmp .le 5, 3) := by decide +kernel
theorem dX8_wouldChange_59 : decode cX8_wouldChange 59 = .ok (.iconst 1, 1) := by decide +kernel
theorem dX8_wouldChange_60 : decode cX8_wouldChange 60 = .ok (.ireturn, 1) := by decide +kernel
theorem dX8_wouldChange_61 : decode cX8_wouldChange 61 = .ok (.iinc 5 1, 3) := by decide +kernel
theorem dX8_wouldChange_64 : decode cX8_wouldChange 64 = .ok (.goto (-35), 3) := by decide +kernel
theorem dX8_wouldChange_67 : decode cX8_wouldChange 67 = .ok (.iconst 0, 1) := by decide +kernel
theorem dX8_wouldChange_68 : decode cX8_wouldChange 68 = .ok (.ireturn, 1) := by decide +kernel
theorem dX8_gainIn_0 : decode cX8_gainIn 0 = .ok (.aload_n 0, 1) := by decide +kernel
theorem dX8_gainIn_1 : decode cX8_gainIn 1 = .ok (.getfield 11, 3) := by decide +kernel
theorem dX8_gainIn_4 : decode cX8_gainIn 4 = .ok (.iload_n 1, 1) := by decide +kernel
theorem dX8_gainIn_5 : decode cX8_gainIn 5 = .ok (.iaload, 1) := by decide +kernel
theorem dX8_gainIn_6 : decode cX8_gainIn 6 = .ok (.iload_n 2, 1) := by decide +kernel
theorem dX8_gainIn_7 : decode cX8_gainIn 7 = .ok (.if_icmp .ne 12, 3) := by decide +kernel
theorem dX8_gainIn_10 : decode cX8_gainIn 10 = .ok (.aload_n 0, 1) := by decide +kernel
theorem dX8_gainIn_11 : decode cX8_gainIn 11 = .ok (.getfield 15, 3) := by decide +kernel
theorem dX8_gainIn_14 : decode cX8_gainIn 14 = .ok (.iload_n 1, 1) := by decide +kernel
theorem dX8_gainIn_15 : decode cX8_gainIn 15 = .ok (.iaload, 1) := by decide +kernel
theorem dX8_gainIn_16 : decode cX8_gainIn 16 = .ok (.goto 4, 3) := by decide +kernel
theorem dX8_gainIn_19 : decode cX8_gainIn 19 = .ok (.iconst 0, 1) := by decide +kernel
theorem dX8_gainIn_20 : decode cX8_gainIn 20 = .ok (.ireturn, 1) := by decide +kernel
theorem dX8_keepIfFirst_0 : decode cX8_keepIfFirst 0 = .ok (.iconst 0, 1) := by decide +kernel
theorem dX8_keepIfFirst_1 : decode cX8_keepIfFirst 1 = .ok (.istore_n 1, 1) := by decide +kernel
theorem dX8_keepIfFirst_2 : decode cX8_keepIfFirst 2 = .ok (.iload_n 1, 1) := by decide +kernel
theorem dX8_keepIfFirst_3 : decode cX8_keepIfFirst 3 = .ok (.aload_n 0, 1) := by decide +kernel
theorem dX8_keepIfFirst_4 : decode cX8_keepIfFirst 4 = .ok (.getfield 39, 3) := by decide +kernel
theorem dX8_keepIfFirst_7 : decode cX8_keepIfFirst 7 = .ok (.if_icmp .ge 28, 3) := by decide +kernel
theorem dX8_keepIfFirst_10 : decode cX8_keepIfFirst 10 = .ok (.aload_n 0, 1) := by decide +kernel
theorem dX8_keepIfFirst_11 : decode cX8_keepIfFirst 11 = .ok (.getfield 51, 3) := by decide +kernel
theorem dX8_keepIfFirst_14 : decode cX8_keepIfFirst 14 = .ok (.ifCond .ne 21, 3) := by decide +kernel
theorem dX8_keepIfFirst_17 : decode cX8_keepIfFirst 17 = .ok (.aload_n 0, 1) := by decide +kernel
theorem dX8_keepIfFirst_18 : decode cX8_keepIfFirst 18 = .ok (.getfield 24, 3) := by decide +kernel
theorem dX8_keepIfFirst_21 : decode cX8_keepIfFirst 21 = .ok (.iload_n 1, 1) := by decide +kernel
theorem dX8_keepIfFirst_22 : decode cX8_keepIfFirst 22 = .ok (.aload_n 0, 1) := by decide +kernel
theorem dX8_keepIfFirst_23 : decode cX8_keepIfFirst 23 = .ok (.getfield 21, 3) := by decide +kernel
theorem dX8_keepIfFirst_26 : decode cX8_keepIfFirst 26 = .ok (.iload_n 1, 1) := by decide +kernel
theorem dX8_keepIfFirst_27 : decode cX8_keepIfFirst 27 = .ok (.iaload, 1) := by decide +kernel
theorem dX8_keepIfFirst_28 : decode cX8_keepIfFirst 28 = .ok (.iastore, 1) := by decide +kernel
theorem dX8_keepIfFirst_29 : decode cX8_keepIfFirst 29 = .ok (.iinc 1 1, 3) := by decide +kernel
theorem dX8_keepIfFirst_32 : decode cX8_keepIfFirst 32 = .ok (.goto (-30), 3) := by decide +kernel
theorem dX8_keepIfFirst_35 : decode cX8_keepIfFirst 35 = .ok (.return_, 1) := by decide +kernel
theorem dX8_choiceInFirst_0 : decode cX8_choiceInFirst 0 = .ok (.aload_n 0, 1) := by decide +kernel

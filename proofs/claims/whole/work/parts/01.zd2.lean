theorem dX8_init_16 : decode cX8_init 16 = .ok (.new 16, 3) := by decide +kernel
theorem dX8_init_19 : decode cX8_init 19 = .ok (.dup, 1) := by decide +kernel
theorem dX8_init_20 : decode cX8_init 20 = .ok (.invokespecial 18, 3) := by decide +kernel
theorem dX8_init_23 : decode cX8_init 23 = .ok (.putfield 19, 3) := by decide +kernel
theorem dX8_init_26 : decode cX8_init 26 = .ok (.aload_n 0, 1) := by decide +kernel
theorem dX8_init_27 : decode cX8_init 27 = .ok (.new 23, 3) := by decide +kernel
theorem dX8_init_30 : decode cX8_init 30 = .ok (.dup, 1) := by decide +kernel
theorem dX8_init_31 : decode cX8_init 31 = .ok (.invokespecial 25, 3) := by decide +kernel
theorem dX8_init_34 : decode cX8_init 34 = .ok (.putfield 26, 3) := by decide +kernel
theorem dX8_init_37 : decode cX8_init 37 = .ok (.aload_n 0, 1) := by decide +kernel
theorem dX8_init_38 : decode cX8_init 38 = .ok (.new 30, 3) := by decide +kernel
theorem dX8_init_41 : decode cX8_init 41 = .ok (.dup, 1) := by decide +kernel
theorem dX8_init_42 : decode cX8_init 42 = .ok (.invokespecial 32, 3) := by decide +kernel
theorem dX8_init_45 : decode cX8_init 45 = .ok (.putfield 33, 3) := by decide +kernel
theorem dX8_init_48 : decode cX8_init 48 = .ok (.aload_n 0, 1) := by decide +kernel
theorem dX8_init_49 : decode cX8_init 49 = .ok (.new 37, 3) := by decide +kernel
theorem dX8_init_52 : decode cX8_init 52 = .ok (.dup, 1) := by decide +kernel
theorem dX8_init_53 : decode cX8_init 53 = .ok (.invokespecial 39, 3) := by decide +kernel
theorem dX8_init_56 : decode cX8_init 56 = .ok (.putfield 40, 3) := by decide +kernel
theorem dX8_init_59 : decode cX8_init 59 = .ok (.aload_n 0, 1) := by decide +kernel
theorem dX8_init_60 : decode cX8_init 60 = .ok (.new 44, 3) := by decide +kernel
theorem dX8_init_63 : decode cX8_init 63 = .ok (.dup, 1) := by decide +kernel
theorem dX8_init_64 : decode cX8_init 64 = .ok (.invokespecial 46, 3) := by decide +kernel
theorem dX8_init_67 : decode cX8_init 67 = .ok (.putfield 47, 3) := by decide +kernel
theorem dX8_init_70 : decode cX8_init 70 = .ok (.aload_n 0, 1) := by decide +kernel
theorem dX8_init_71 : decode cX8_init 71 = .ok (.new 44, 3) := by decide +kernel
theorem dX8_init_74 : decode cX8_init 74 = .ok (.dup, 1) := by decide +kernel
theorem dX8_init_75 : decode cX8_init 75 = .ok (.invokespecial 46, 3) := by decide +kernel
theorem dX8_init_78 : decode cX8_init 78 = .ok (.putfield 51, 3) := by decide +kernel
theorem dX8_init_81 : decode cX8_init 81 = .ok (.aload_n 0, 1) := by decide +kernel
theorem dX8_init_82 : decode cX8_init 82 = .ok (.iconst (-1), 1) := by decide +kernel
theorem dX8_init_83 : decode cX8_init 83 = .ok (.putfield 54, 3) := by decide +kernel
theorem dX8_init_86 : decode cX8_init 86 = .ok (.aload_n 0, 1) := by decide +kernel
theorem dX8_init_87 : decode cX8_init 87 = .ok (.getfield 26, 3) := by decide +kernel
theorem dX8_init_90 : decode cX8_init 90 = .ok (.iconst 4, 1) := by decide +kernel
theorem dX8_init_91 : decode cX8_init 91 = .ok (.invokevirtual 58, 3) := by decide +kernel
theorem dX8_init_94 : decode cX8_init 94 = .ok (.aload_n 0, 1) := by decide +kernel
theorem dX8_init_95 : decode cX8_init 95 = .ok (.getfield 33, 3) := by decide +kernel
theorem dX8_init_98 : decode cX8_init 98 = .ok (.iconst 4, 1) := by decide +kernel
theorem dX8_init_99 : decode cX8_init 99 = .ok (.invokevirtual 62, 3) := by decide +kernel
theorem dX8_init_102 : decode cX8_init 102 = .ok (.return_, 1) := by decide +kernel
theorem dX8_feed_0 : decode cX8_feed 0 = .ok (.aload_n 0, 1) := by decide +kernel
theorem dX8_feed_1 : decode cX8_feed 1 = .ok (.getfield 10, 3) := by decide +kernel
theorem dX8_feed_4 : decode cX8_feed 4 = .ok (.getfield 65, 3) := by decide +kernel
theorem dX8_feed_7 : decode cX8_feed 7 = .ok (.bipush 20, 2) := by decide +kernel
theorem dX8_feed_9 : decode cX8_feed 9 = .ok (.iadd, 1) := by decide +kernel
theorem dX8_feed_10 : decode cX8_feed 10 = .ok (.sipush 2000, 3) := by decide +kernel
theorem dX8_feed_13 : decode cX8_feed 13 = .ok (.if_icmp .le 5, 3) := by decide +kernel
theorem dX8_feed_16 : decode cX8_feed 16 = .ok (.iconst (-1), 1) := by decide +kernel
theorem dX8_feed_17 : decode cX8_feed 17 = .ok (.ireturn, 1) := by decide +kernel
theorem dX8_feed_18 : decode cX8_feed 18 = .ok (.aload_n 0, 1) := by decide +kernel
theorem dX8_feed_19 : decode cX8_feed 19 = .ok (.getfield 10, 3) := by decide +kernel
theorem dX8_feed_22 : decode cX8_feed 22 = .ok (.iload_n 1, 1) := by decide +kernel
theorem dX8_feed_23 : decode cX8_feed 23 = .ok (.invokevirtual 68, 3) := by decide +kernel
theorem dX8_feed_26 : decode cX8_feed 26 = .ok (.aload_n 0, 1) := by decide +kernel
theorem dX8_feed_27 : decode cX8_feed 27 = .ok (.getfield 10, 3) := by decide +kernel
theorem dX8_feed_30 : decode cX8_feed 30 = .ok (.iload_n 2, 1) := by decide +kernel
theorem dX8_feed_31 : decode cX8_feed 31 = .ok (.invokevirtual 68, 3) := by decide +kernel
theorem dX8_feed_34 : decode cX8_feed 34 = .ok (.aload_n 0, 1) := by decide +kernel
theorem dX8_feed_35 : decode cX8_feed 35 = .ok (.getfield 10, 3) := by decide +kernel
theorem dX8_feed_38 : decode cX8_feed 38 = .ok (.iload_n 3, 1) := by decide +kernel
theorem dX8_feed_39 : decode cX8_feed 39 = .ok (.invokevirtual 68, 3) := by decide +kernel
theorem dX8_feed_42 : decode cX8_feed 42 = .ok (.aload_n 0, 1) := by decide +kernel
theorem dX8_feed_43 : decode cX8_feed 43 = .ok (.getfield 10, 3) := by decide +kernel
theorem dX8_feed_46 : decode cX8_feed 46 = .ok (.iload 4, 2) := by decide +kernel
theorem dX8_feed_48 : decode cX8_feed 48 = .ok (.invokevirtual 68, 3) := by decide +kernel
theorem dX8_feed_51 : decode cX8_feed 51 = .ok (.aload_n 0, 1) := by decide +kernel
theorem dX8_feed_52 : decode cX8_feed 52 = .ok (.getfield 10, 3) := by decide +kernel
theorem dX8_feed_55 : decode cX8_feed 55 = .ok (.iload 5, 2) := by decide +kernel
theorem dX8_feed_57 : decode cX8_feed 57 = .ok (.invokevirtual 68, 3) := by decide +kernel
theorem dX8_feed_60 : decode cX8_feed 60 = .ok (.aload_n 0, 1) := by decide +kernel
theorem dX8_feed_61 : decode cX8_feed 61 = .ok (.getfield 10, 3) := by decide +kernel
theorem dX8_feed_64 : decode cX8_feed 64 = .ok (.getfield 65, 3) := by decide +kernel
theorem dX8_feed_67 : decode cX8_feed 67 = .ok (.ireturn, 1) := by decide +kernel
theorem dX8_back_0 : decode cX8_back 0 = .ok (.iload_n 1, 1) := by decide +kernel
theorem dX8_back_1 : decode cX8_back 1 = .ok (.ifCond .lt 14, 3) := by decide +kernel
theorem dX8_back_4 : decode cX8_back 4 = .ok (.iload_n 1, 1) := by decide +kernel
theorem dX8_back_5 : decode cX8_back 5 = .ok (.aload_n 0, 1) := by decide +kernel
theorem dX8_back_6 : decode cX8_back 6 = .ok (.getfield 10, 3) := by decide +kernel
theorem dX8_back_9 : decode cX8_back 9 = .ok (.getfield 65, 3) := by decide +kernel
theorem dX8_back_12 : decode cX8_back 12 = .ok (.if_icmp .le 5, 3) := by decide +kernel
theorem dX8_back_15 : decode cX8_back 15 = .ok (.iconst (-1), 1) := by decide +kernel
theorem dX8_back_16 : decode cX8_back 16 = .ok (.ireturn, 1) := by decide +kernel
theorem dX8_back_17 : decode cX8_back 17 = .ok (.aload_n 0, 1) := by decide +kernel
theorem dX8_back_18 : decode cX8_back 18 = .ok (.getfield 10, 3) := by decide +kernel
theorem dX8_back_21 : decode cX8_back 21 = .ok (.dup, 1) := by decide +kernel
theorem dX8_back_22 : decode cX8_back 22 = .ok (.getfield 65, 3) := by decide +kernel
theorem dX8_back_25 : decode cX8_back 25 = .ok (.iload_n 1, 1) := by decide +kernel
theorem dX8_back_26 : decode cX8_back 26 = .ok (.isub, 1) := by decide +kernel
theorem dX8_back_27 : decode cX8_back 27 = .ok (.putfield 65, 3) := by decide +kernel
theorem dX8_back_30 : decode cX8_back 30 = .ok (.aload_n 0, 1) := by decide +kernel
theorem dX8_back_31 : decode cX8_back 31 = .ok (.getfield 10, 3) := by decide +kernel
theorem dX8_back_34 : decode cX8_back 34 = .ok (.getfield 65, 3) := by decide +kernel
theorem dX8_back_37 : decode cX8_back 37 = .ok (.ireturn, 1) := by decide +kernel
theorem dX8_read_0 : decode cX8_read 0 = .ok (.aload_n 0, 1) := by decide +kernel
theorem dX8_read_1 : decode cX8_read 1 = .ok (.getfield 19, 3) := by decide +kernel
theorem dX8_read_4 : decode cX8_read 4 = .ok (.aload_n 0, 1) := by decide +kernel
theorem dX8_read_5 : decode cX8_read 5 = .ok (.getfield 10, 3) := by decide +kernel
theorem dX8_read_8 : decode cX8_read 8 = .ok (.aload_n 0, 1) := by decide +kernel
theorem dX8_read_9 : decode cX8_read 9 = .ok (.getfield 51, 3) := by decide +kernel
theorem dX8_read_12 : decode cX8_read 12 = .ok (.invokevirtual 71, 3) := by decide +kernel
theorem dX8_read_15 : decode cX8_read 15 = .ok (.istore_n 1, 1) := by decide +kernel
theorem dX8_read_16 : decode cX8_read 16 = .ok (.aload_n 0, 1) := by decide +kernel
theorem dX8_read_17 : decode cX8_read 17 = .ok (.iload_n 1, 1) := by decide +kernel
theorem dX8_read_18 : decode cX8_read 18 = .ok (.ifCond .ne 7, 3) := by decide +kernel
theorem dX8_read_21 : decode cX8_read 21 = .ok (.iconst (-1), 1) := by decide +kernel
theorem dX8_read_22 : decode cX8_read 22 = .ok (.goto 10, 3) := by decide +kernel
theorem dX8_read_25 : decode cX8_read 25 = .ok (.aload_n 0, 1) := by decide +kernel
theorem dX8_read_26 : decode cX8_read 26 = .ok (.getfield 10, 3) := by decide +kernel
theorem dX8_read_29 : decode cX8_read 29 = .ok (.getfield 75, 3) := by decide +kernel
theorem dX8_read_32 : decode cX8_read 32 = .ok (.putfield 54, 3) := by decide +kernel
theorem dX8_read_35 : decode cX8_read 35 = .ok (.aload_n 0, 1) := by decide +kernel
theorem dX8_read_36 : decode cX8_read 36 = .ok (.getfield 10, 3) := by decide +kernel
theorem dX8_read_39 : decode cX8_read 39 = .ok (.iconst 0, 1) := by decide +kernel
theorem dX8_read_40 : decode cX8_read 40 = .ok (.putfield 65, 3) := by decide +kernel
theorem dX8_read_43 : decode cX8_read 43 = .ok (.iload_n 1, 1) := by decide +kernel
theorem dX8_read_44 : decode cX8_read 44 = .ok (.ifCond .ne 29, 3) := by decide +kernel
theorem dX8_read_47 : decode cX8_read 47 = .ok (.aload_n 0, 1) := by decide +kernel
theorem dX8_read_48 : decode cX8_read 48 = .ok (.getfield 47, 3) := by decide +kernel
theorem dX8_read_51 : decode cX8_read 51 = .ok (.astore_n 2, 1) := by decide +kernel
theorem dX8_read_52 : decode cX8_read 52 = .ok (.aload_n 0, 1) := by decide +kernel
theorem dX8_read_53 : decode cX8_read 53 = .ok (.aload_n 0, 1) := by decide +kernel
theorem dX8_read_54 : decode cX8_read 54 = .ok (.getfield 51, 3) := by decide +kernel
theorem dX8_read_57 : decode cX8_read 57 = .ok (.putfield 47, 3) := by decide +kernel
theorem dX8_read_60 : decode cX8_read 60 = .ok (.aload_n 0, 1) := by decide +kernel
theorem dX8_read_61 : decode cX8_read 61 = .ok (.aload_n 2, 1) := by decide +kernel
theorem dX8_read_62 : decode cX8_read 62 = .ok (.putfield 51, 3) := by decide +kernel
theorem dX8_read_65 : decode cX8_read 65 = .ok (.aload_n 0, 1) := by decide +kernel
theorem dX8_read_66 : decode cX8_read 66 = .ok (.getfield 40, 3) := by decide +kernel
theorem dX8_read_69 : decode cX8_read 69 = .ok (.iconst 0, 1) := by decide +kernel
theorem dX8_read_70 : decode cX8_read 70 = .ok (.putfield 78, 3) := by decide +kernel
theorem dX8_read_73 : decode cX8_read 73 = .ok (.iload_n 1, 1) := by decide +kernel
theorem dX8_read_74 : decode cX8_read 74 = .ok (.ireturn, 1) := by decide +kernel
theorem dX8_place_0 : decode cX8_place 0 = .ok (.aload_n 0, 1) := by decide +kernel
theorem dX8_place_1 : decode cX8_place 1 = .ok (.getfield 54, 3) := by decide +kernel
theorem dX8_place_4 : decode cX8_place 4 = .ok (.ireturn, 1) := by decide +kernel
theorem dX8_sheet_0 : decode cX8_sheet 0 = .ok (.iload_n 1, 1) := by decide +kernel
theorem dX8_sheet_1 : decode cX8_sheet 1 = .ok (.iconst 2, 1) := by decide +kernel
theorem dX8_sheet_2 : decode cX8_sheet 2 = .ok (.if_icmp .lt 9, 3) := by decide +kernel
theorem dX8_sheet_5 : decode cX8_sheet 5 = .ok (.iload_n 1, 1) := by decide +kernel
theorem dX8_sheet_6 : decode cX8_sheet 6 = .ok (.bipush 8, 2) := by decide +kernel
theorem dX8_sheet_8 : decode cX8_sheet 8 = .ok (.if_icmp .le 5, 3) := by decide +kernel
theorem dX8_sheet_11 : decode cX8_sheet 11 = .ok (.iconst 0, 1) := by decide +kernel
theorem dX8_sheet_12 : decode cX8_sheet 12 = .ok (.ireturn, 1) := by decide +kernel
theorem dX8_sheet_13 : decode cX8_sheet 13 = .ok (.aload_n 0, 1) := by decide +kernel
theorem dX8_sheet_14 : decode cX8_sheet 14 = .ok (.getfield 26, 3) := by decide +kernel
theorem dX8_sheet_17 : decode cX8_sheet 17 = .ok (.iload_n 1, 1) := by decide +kernel
theorem dX8_sheet_18 : decode cX8_sheet 18 = .ok (.invokevirtual 58, 3) := by decide +kernel
theorem dX8_sheet_21 : decode cX8_sheet 21 = .ok (.aload_n 0, 1) := by decide +kernel
theorem dX8_sheet_22 : decode cX8_sheet 22 = .ok (.getfield 33, 3) := by decide +kernel
theorem dX8_sheet_25 : decode cX8_sheet 25 = .ok (.iload_n 1, 1) := by decide +kernel
theorem dX8_sheet_26 : decode cX8_sheet 26 = .ok (.invokevirtual 62, 3) := by decide +kernel
theorem dX8_sheet_29 : decode cX8_sheet 29 = .ok (.iconst 1, 1) := by decide +kernel
theorem dX8_sheet_30 : decode cX8_sheet 30 = .ok (.ireturn, 1) := by decide +kernel
theorem dX8_fold_0 : decode cX8_fold 0 = .ok (.aload_n 0, 1) := by decide +kernel
theorem dX8_fold_1 : decode cX8_fold 1 = .ok (.getfield 26, 3) := by decide +kernel
theorem dX8_fold_4 : decode cX8_fold 4 = .ok (.iconst 0, 1) := by decide +kernel
theorem dX8_fold_5 : decode cX8_fold 5 = .ok (.iload_n 1, 1) := by decide +kernel
theorem dX8_fold_6 : decode cX8_fold 6 = .ok (.iload_n 2, 1) := by decide +kernel
theorem dX8_fold_7 : decode cX8_fold 7 = .ok (.iload_n 3, 1) := by decide +kernel
theorem dX8_fold_8 : decode cX8_fold 8 = .ok (.ifCond .eq 8, 3) := by decide +kernel
theorem dX8_fold_11 : decode cX8_fold 11 = .ok (.bipush 8, 2) := by decide +kernel
theorem dX8_fold_13 : decode cX8_fold 13 = .ok (.goto 4, 3) := by decide +kernel
theorem dX8_fold_16 : decode cX8_fold 16 = .ok (.iconst 0, 1) := by decide +kernel
theorem dX8_fold_17 : decode cX8_fold 17 = .ok (.invokevirtual 82, 3) := by decide +kernel
theorem dX8_fold_20 : decode cX8_fold 20 = .ok (.ireturn, 1) := by decide +kernel
theorem dX8_tuck_0 : decode cX8_tuck 0 = .ok (.iload_n 3, 1) := by decide +kernel
theorem dX8_tuck_1 : decode cX8_tuck 1 = .ok (.ifCond .lt 9, 3) := by decide +kernel
theorem dX8_tuck_4 : decode cX8_tuck 4 = .ok (.iload_n 3, 1) := by decide +kernel
theorem dX8_tuck_5 : decode cX8_tuck 5 = .ok (.bipush 8, 2) := by decide +kernel
theorem dX8_tuck_7 : decode cX8_tuck 7 = .ok (.if_icmp .le 5, 3) := by decide +kernel
theorem dX8_tuck_10 : decode cX8_tuck 10 = .ok (.iconst (-1), 1) := by decide +kernel
theorem dX8_tuck_11 : decode cX8_tuck 11 = .ok (.ireturn, 1) := by decide +kernel
theorem dX8_tuck_12 : decode cX8_tuck 12 = .ok (.aload_n 0, 1) := by decide +kernel
theorem dX8_tuck_13 : decode cX8_tuck 13 = .ok (.getfield 26, 3) := by decide +kernel
theorem dX8_tuck_16 : decode cX8_tuck 16 = .ok (.iconst 1, 1) := by decide +kernel
theorem dX8_tuck_17 : decode cX8_tuck 17 = .ok (.iload_n 1, 1) := by decide +kernel
theorem dX8_tuck_18 : decode cX8_tuck 18 = .ok (.iload_n 2, 1) := by decide +kernel
theorem dX8_tuck_19 : decode cX8_tuck 19 = .ok (.iload_n 3, 1) := by decide +kernel
theorem dX8_tuck_20 : decode cX8_tuck 20 = .ok (.invokevirtual 82, 3) := by decide +kernel
theorem dX8_tuck_23 : decode cX8_tuck 23 = .ok (.ireturn, 1) := by decide +kernel
theorem dX8_slit_0 : decode cX8_slit 0 = .ok (.aload_n 0, 1) := by decide +kernel
theorem dX8_slit_1 : decode cX8_slit 1 = .ok (.getfield 26, 3) := by decide +kernel
theorem dX8_slit_4 : decode cX8_slit 4 = .ok (.iload_n 1, 1) := by decide +kernel
theorem dX8_slit_5 : decode cX8_slit 5 = .ok (.iload_n 2, 1) := by decide +kernel
theorem dX8_slit_6 : decode cX8_slit 6 = .ok (.invokevirtual 86, 3) := by decide +kernel
theorem dX8_slit_9 : decode cX8_slit 9 = .ok (.ireturn, 1) := by decide +kernel
theorem dX8_lock_0 : decode cX8_lock 0 = .ok (.aload_n 0, 1) := by decide +kernel
theorem dX8_lock_1 : decode cX8_lock 1 = .ok (.getfield 26, 3) := by decide +kernel
theorem dX8_lock_4 : decode cX8_lock 4 = .ok (.iload_n 1, 1) := by decide +kernel
theorem dX8_lock_5 : decode cX8_lock 5 = .ok (.iload_n 2, 1) := by decide +kernel
theorem dX8_lock_6 : decode cX8_lock 6 = .ok (.invokevirtual 90, 3) := by decide +kernel
theorem dX8_lock_9 : decode cX8_lock 9 = .ok (.ireturn, 1) := by decide +kernel
theorem dX8_seal_0 : decode cX8_seal 0 = .ok (.aload_n 0, 1) := by decide +kernel
theorem dX8_seal_1 : decode cX8_seal 1 = .ok (.getfield 26, 3) := by decide +kernel
theorem dX8_seal_4 : decode cX8_seal 4 = .ok (.iload_n 1, 1) := by decide +kernel
theorem dX8_seal_5 : decode cX8_seal 5 = .ok (.invokevirtual 93, 3) := by decide +kernel
theorem dX8_seal_8 : decode cX8_seal 8 = .ok (.ireturn, 1) := by decide +kernel
theorem dX8_soil_0 : decode cX8_soil 0 = .ok (.aload_n 0, 1) := by decide +kernel
theorem dX8_soil_1 : decode cX8_soil 1 = .ok (.getfield 26, 3) := by decide +kernel
theorem dX8_soil_4 : decode cX8_soil 4 = .ok (.invokevirtual 97, 3) := by decide +kernel
theorem dX8_soil_7 : decode cX8_soil 7 = .ok (.ireturn, 1) := by decide +kernel
theorem dX8_undo_0 : decode cX8_undo 0 = .ok (.aload_n 0, 1) := by decide +kernel
theorem dX8_undo_1 : decode cX8_undo 1 = .ok (.getfield 26, 3) := by decide +kernel
theorem dX8_undo_4 : decode cX8_undo 4 = .ok (.getfield 101, 3) := by decide +kernel
theorem dX8_undo_7 : decode cX8_undo 7 = .ok (.ifCond .ne 5, 3) := by decide +kernel
theorem dX8_undo_10 : decode cX8_undo 10 = .ok (.iconst (-1), 1) := by decide +kernel
theorem dX8_undo_11 : decode cX8_undo 11 = .ok (.ireturn, 1) := by decide +kernel
theorem dX8_undo_12 : decode cX8_undo 12 = .ok (.aload_n 0, 1) := by decide +kernel
theorem dX8_undo_13 : decode cX8_undo 13 = .ok (.getfield 26, 3) := by decide +kernel
theorem dX8_undo_16 : decode cX8_undo 16 = .ok (.aload_n 0, 1) := by decide +kernel
theorem dX8_undo_17 : decode cX8_undo 17 = .ok (.getfield 26, 3) := by decide +kernel
theorem dX8_undo_20 : decode cX8_undo 20 = .ok (.getfield 101, 3) := by decide +kernel
theorem dX8_undo_23 : decode cX8_undo 23 = .ok (.iconst 1, 1) := by decide +kernel
theorem dX8_undo_24 : decode cX8_undo 24 = .ok (.isub, 1) := by decide +kernel
theorem dX8_undo_25 : decode cX8_undo 25 = .ok (.aload_n 0, 1) := by decide +kernel
theorem dX8_undo_26 : decode cX8_undo 26 = .ok (.getfield 47, 3) := by decide +kernel
theorem dX8_undo_29 : decode cX8_undo 29 = .ok (.invokevirtual 104, 3) := by decide +kernel
theorem dX8_undo_32 : decode cX8_undo 32 = .ok (.istore_n 1, 1) := by decide +kernel
theorem dX8_undo_33 : decode cX8_undo 33 = .ok (.aload_n 0, 1) := by decide +kernel
theorem dX8_undo_34 : decode cX8_undo 34 = .ok (.getfield 26, 3) := by decide +kernel
theorem dX8_undo_37 : decode cX8_undo 37 = .ok (.dup, 1) := by decide +kernel
theorem dX8_undo_38 : decode cX8_undo 38 = .ok (.getfield 101, 3) := by decide +kernel
theorem dX8_undo_41 : decode cX8_undo 41 = .ok (.iconst 1, 1) := by decide +kernel
theorem dX8_undo_42 : decode cX8_undo 42 = .ok (.isub, 1) := by decide +kernel
theorem dX8_undo_43 : decode cX8_undo 43 = .ok (.putfield 101, 3) := by decide +kernel
theorem dX8_undo_46 : decode cX8_undo 46 = .ok (.iload_n 1, 1) := by decide +kernel
theorem dX8_undo_47 : decode cX8_undo 47 = .ok (.ireturn, 1) := by decide +kernel
theorem dX8_part_0 : decode cX8_part 0 = .ok (.aload_n 0, 1) := by decide +kernel
theorem dX8_part_1 : decode cX8_part 1 = .ok (.getfield 26, 3) := by decide +kernel
theorem dX8_part_4 : decode cX8_part 4 = .ok (.iload_n 1, 1) := by decide +kernel
theorem dX8_part_5 : decode cX8_part 5 = .ok (.invokevirtual 108, 3) := by decide +kernel
theorem dX8_part_8 : decode cX8_part 8 = .ok (.ifCond .ne 5, 3) := by decide +kernel
theorem dX8_part_11 : decode cX8_part 11 = .ok (.iconst (-1), 1) := by decide +kernel
theorem dX8_part_12 : decode cX8_part 12 = .ok (.ireturn, 1) := by decide +kernel
theorem dX8_part_13 : decode cX8_part 13 = .ok (.aload_n 0, 1) := by decide +kernel
theorem dX8_part_14 : decode cX8_part 14 = .ok (.getfield 26, 3) := by decide +kernel
theorem dX8_part_17 : decode cX8_part 17 = .ok (.invokevirtual 112, 3) := by decide +kernel
theorem dX8_part_20 : decode cX8_part 20 = .ok (.astore_n 3, 1) := by decide +kernel
theorem dX8_part_21 : decode cX8_part 21 = .ok (.iload_n 2, 1) := by decide +kernel
theorem dX8_part_22 : decode cX8_part 22 = .ok (.tableswitch 138 0 7 #[46, 53, 60, 75, 85, 95, 108, 122], 46) := by decide +kernel
theorem dX8_part_68 : decode cX8_part 68 = .ok (.aload_n 3, 1) := by decide +kernel
theorem dX8_part_69 : decode cX8_part 69 = .ok (.getfield 116, 3) := by decide +kernel
theorem dX8_part_72 : decode cX8_part 72 = .ok (.iload_n 1, 1) := by decide +kernel
theorem dX8_part_73 : decode cX8_part 73 = .ok (.iaload, 1) := by decide +kernel
theorem dX8_part_74 : decode cX8_part 74 = .ok (.ireturn, 1) := by decide +kernel
theorem dX8_part_75 : decode cX8_part 75 = .ok (.aload_n 3, 1) := by decide +kernel
theorem dX8_part_76 : decode cX8_part 76 = .ok (.getfield 122, 3) := by decide +kernel
theorem dX8_part_79 : decode cX8_part 79 = .ok (.iload_n 1, 1) := by decide +kernel
theorem dX8_part_80 : decode cX8_part 80 = .ok (.iaload, 1) := by decide +kernel
theorem dX8_part_81 : decode cX8_part 81 = .ok (.ireturn, 1) := by decide +kernel
theorem dX8_part_82 : decode cX8_part 82 = .ok (.aload_n 3, 1) := by decide +kernel
theorem dX8_part_83 : decode cX8_part 83 = .ok (.getfield 125, 3) := by decide +kernel
theorem dX8_part_86 : decode cX8_part 86 = .ok (.iload_n 1, 1) := by decide +kernel
theorem dX8_part_87 : decode cX8_part 87 = .ok (.baload, 1) := by decide +kernel
theorem dX8_part_88 : decode cX8_part 88 = .ok (.ifCond .eq 7, 3) := by decide +kernel
theorem dX8_part_91 : decode cX8_part 91 = .ok (.iconst 1, 1) := by decide +kernel
theorem dX8_part_92 : decode cX8_part 92 = .ok (.goto 4, 3) := by decide +kernel
theorem dX8_part_95 : decode cX8_part 95 = .ok (.iconst 0, 1) := by decide +kernel
theorem dX8_part_96 : decode cX8_part 96 = .ok (.ireturn, 1) := by decide +kernel
theorem dX8_part_97 : decode cX8_part 97 = .ok (.aload_n 0, 1) := by decide +kernel
theorem dX8_part_98 : decode cX8_part 98 = .ok (.getfield 26, 3) := by decide +kernel
theorem dX8_part_101 : decode cX8_part 101 = .ok (.getfield 129, 3) := by decide +kernel
theorem dX8_part_104 : decode cX8_part 104 = .ok (.iload_n 1, 1) := by decide +kernel
theorem dX8_part_105 : decode cX8_part 105 = .ok (.iaload, 1) := by decide +kernel
theorem dX8_part_106 : decode cX8_part 106 = .ok (.ireturn, 1) := by decide +kernel
theorem dX8_part_107 : decode cX8_part 107 = .ok (.aload_n 0, 1) := by decide +kernel
theorem dX8_part_108 : decode cX8_part 108 = .ok (.getfield 26, 3) := by decide +kernel
theorem dX8_part_111 : decode cX8_part 111 = .ok (.getfield 132, 3) := by decide +kernel
theorem dX8_part_114 : decode cX8_part 114 = .ok (.iload_n 1, 1) := by decide +kernel
theorem dX8_part_115 : decode cX8_part 115 = .ok (.iaload, 1) := by decide +kernel
theorem dX8_part_116 : decode cX8_part 116 = .ok (.ireturn, 1) := by decide +kernel
theorem dX8_part_117 : decode cX8_part 117 = .ok (.aload_n 0, 1) := by decide +kernel
theorem dX8_part_118 : decode cX8_part 118 = .ok (.getfield 26, 3) := by decide +kernel
theorem dX8_part_121 : decode cX8_part 121 = .ok (.iload_n 1, 1) := by decide +kernel
theorem dX8_part_122 : decode cX8_part 122 = .ok (.aload_n 0, 1) := by decide +kernel
theorem dX8_part_123 : decode cX8_part 123 = .ok (.getfield 47, 3) := by decide +kernel
theorem dX8_part_126 : decode cX8_part 126 = .ok (.invokevirtual 135, 3) := by decide +kernel
theorem dX8_part_129 : decode cX8_part 129 = .ok (.ireturn, 1) := by decide +kernel
theorem dX8_part_130 : decode cX8_part 130 = .ok (.aload_n 0, 1) := by decide +kernel
theorem dX8_part_131 : decode cX8_part 131 = .ok (.getfield 26, 3) := by decide +kernel
theorem dX8_part_134 : decode cX8_part 134 = .ok (.getfield 138, 3) := by decide +kernel
theorem dX8_part_137 : decode cX8_part 137 = .ok (.iconst 2, 1) := by decide +kernel
theorem dX8_part_138 : decode cX8_part 138 = .ok (.iload_n 1, 1) := by decide +kernel
theorem dX8_part_139 : decode cX8_part 139 = .ok (.imul, 1) := by decide +kernel
theorem dX8_part_140 : decode cX8_part 140 = .ok (.ishr, 1) := by decide +kernel
theorem dX8_part_141 : decode cX8_part 141 = .ok (.iconst 1, 1) := by decide +kernel
theorem dX8_part_142 : decode cX8_part 142 = .ok (.iand, 1) := by decide +kernel
theorem dX8_part_143 : decode cX8_part 143 = .ok (.ireturn, 1) := by decide +kernel
theorem dX8_part_144 : decode cX8_part 144 = .ok (.aload_n 0, 1) := by decide +kernel
theorem dX8_part_145 : decode cX8_part 145 = .ok (.getfield 26, 3) := by decide +kernel
theorem dX8_part_148 : decode cX8_part 148 = .ok (.getfield 138, 3) := by decide +kernel
theorem dX8_part_151 : decode cX8_part 151 = .ok (.iconst 2, 1) := by decide +kernel
theorem dX8_part_152 : decode cX8_part 152 = .ok (.iload_n 1, 1) := by decide +kernel
theorem dX8_part_153 : decode cX8_part 153 = .ok (.imul, 1) := by decide +kernel
theorem dX8_part_154 : decode cX8_part 154 = .ok (.iconst 1, 1) := by decide +kernel
theorem dX8_part_155 : decode cX8_part 155 = .ok (.iadd, 1) := by decide +kernel
theorem dX8_part_156 : decode cX8_part 156 = .ok (.ishr, 1) := by decide +kernel
theorem dX8_part_157 : decode cX8_part 157 = .ok (.iconst 1, 1) := by decide +kernel
theorem dX8_part_158 : decode cX8_part 158 = .ok (.iand, 1) := by decide +kernel
theorem dX8_part_159 : decode cX8_part 159 = .ok (.ireturn, 1) := by decide +kernel
theorem dX8_part_160 : decode cX8_part 160 = .ok (.iconst (-1), 1) := by decide +kernel
theorem dX8_part_161 : decode cX8_part 161 = .ok (.ireturn, 1) := by decide +kernel
theorem dX8_mark_0 : decode cX8_mark 0 = .ok (.iload_n 1, 1) := by decide +kernel
theorem dX8_mark_1 : decode cX8_mark 1 = .ok (.ifCond .lt 16, 3) := by decide +kernel
theorem dX8_mark_4 : decode cX8_mark 4 = .ok (.iload_n 1, 1) := by decide +kernel
theorem dX8_mark_5 : decode cX8_mark 5 = .ok (.aload_n 0, 1) := by decide +kernel
theorem dX8_mark_6 : decode cX8_mark 6 = .ok (.getfield 26, 3) := by decide +kernel
theorem dX8_mark_9 : decode cX8_mark 9 = .ok (.getfield 141, 3) := by decide +kernel
theorem dX8_mark_12 : decode cX8_mark 12 = .ok (.iconst 1, 1) := by decide +kernel
theorem dX8_mark_13 : decode cX8_mark 13 = .ok (.isub, 1) := by decide +kernel
theorem dX8_mark_14 : decode cX8_mark 14 = .ok (.if_icmp .lt 5, 3) := by decide +kernel
theorem dX8_mark_17 : decode cX8_mark 17 = .ok (.iconst (-1), 1) := by decide +kernel
theorem dX8_mark_18 : decode cX8_mark 18 = .ok (.ireturn, 1) := by decide +kernel
theorem dX8_mark_19 : decode cX8_mark 19 = .ok (.aload_n 0, 1) := by decide +kernel
theorem dX8_mark_20 : decode cX8_mark 20 = .ok (.getfield 26, 3) := by decide +kernel
theorem dX8_mark_23 : decode cX8_mark 23 = .ok (.getfield 144, 3) := by decide +kernel
theorem dX8_mark_26 : decode cX8_mark 26 = .ok (.iconst 2, 1) := by decide +kernel
theorem dX8_mark_27 : decode cX8_mark 27 = .ok (.iload_n 1, 1) := by decide +kernel
theorem dX8_mark_28 : decode cX8_mark 28 = .ok (.imul, 1) := by decide +kernel
theorem dX8_mark_29 : decode cX8_mark 29 = .ok (.ishr, 1) := by decide +kernel
theorem dX8_mark_30 : decode cX8_mark 30 = .ok (.iconst 3, 1) := by decide +kernel
theorem dX8_mark_31 : decode cX8_mark 31 = .ok (.iand, 1) := by decide +kernel
theorem dX8_mark_32 : decode cX8_mark 32 = .ok (.ireturn, 1) := by decide +kernel
theorem dX8_layers_0 : decode cX8_layers 0 = .ok (.aload_n 0, 1) := by decide +kernel
theorem dX8_layers_1 : decode cX8_layers 1 = .ok (.getfield 26, 3) := by decide +kernel
theorem dX8_layers_4 : decode cX8_layers 4 = .ok (.invokevirtual 112, 3) := by decide +kernel
theorem dX8_layers_7 : decode cX8_layers 7 = .ok (.iload_n 1, 1) := by decide +kernel
theorem dX8_layers_8 : decode cX8_layers 8 = .ok (.invokevirtual 147, 3) := by decide +kernel
theorem dX8_layers_11 : decode cX8_layers 11 = .ok (.ireturn, 1) := by decide +kernel
theorem dX8_at_0 : decode cX8_at 0 = .ok (.aload_n 0, 1) := by decide +kernel
theorem dX8_at_1 : decode cX8_at 1 = .ok (.getfield 26, 3) := by decide +kernel
theorem dX8_at_4 : decode cX8_at 4 = .ok (.invokevirtual 112, 3) := by decide +kernel
theorem dX8_at_7 : decode cX8_at 7 = .ok (.iload_n 1, 1) := by decide +kernel
theorem dX8_at_8 : decode cX8_at 8 = .ok (.iload_n 2, 1) := by decide +kernel
theorem dX8_at_9 : decode cX8_at 9 = .ok (.invokevirtual 150, 3) := by decide +kernel
theorem dX8_at_12 : decode cX8_at 12 = .ok (.ireturn, 1) := by decide +kernel
theorem dX8_harm_0 : decode cX8_harm 0 = .ok (.aload_n 0, 1) := by decide +kernel
theorem dX8_harm_1 : decode cX8_harm 1 = .ok (.getfield 26, 3) := by decide +kernel
theorem dX8_harm_4 : decode cX8_harm 4 = .ok (.iload_n 1, 1) := by decide +kernel
theorem dX8_harm_5 : decode cX8_harm 5 = .ok (.invokevirtual 153, 3) := by decide +kernel
theorem dX8_harm_8 : decode cX8_harm 8 = .ok (.ifCond .eq 18, 3) := by decide +kernel
theorem dX8_harm_11 : decode cX8_harm 11 = .ok (.aload_n 0, 1) := by decide +kernel
theorem dX8_harm_12 : decode cX8_harm 12 = .ok (.getfield 26, 3) := by decide +kernel
theorem dX8_harm_15 : decode cX8_harm 15 = .ok (.iload_n 1, 1) := by decide +kernel
theorem dX8_harm_16 : decode cX8_harm 16 = .ok (.aload_n 0, 1) := by decide +kernel
theorem dX8_harm_17 : decode cX8_harm 17 = .ok (.getfield 47, 3) := by decide +kernel
theorem dX8_harm_20 : decode cX8_harm 20 = .ok (.invokevirtual 104, 3) := by decide +kernel
theorem dX8_harm_23 : decode cX8_harm 23 = .ok (.goto 4, 3) := by decide +kernel
theorem dX8_harm_26 : decode cX8_harm 26 = .ok (.iconst (-1), 1) := by decide +kernel
theorem dX8_harm_27 : decode cX8_harm 27 = .ok (.ireturn, 1) := by decide +kernel
theorem dX8_by_0 : decode cX8_by 0 = .ok (.aload_n 0, 1) := by decide +kernel
theorem dX8_by_1 : decode cX8_by 1 = .ok (.getfield 26, 3) := by decide +kernel
theorem dX8_by_4 : decode cX8_by 4 = .ok (.iload_n 1, 1) := by decide +kernel
theorem dX8_by_5 : decode cX8_by 5 = .ok (.invokevirtual 153, 3) := by decide +kernel
theorem dX8_by_8 : decode cX8_by 8 = .ok (.ifCond .eq 18, 3) := by decide +kernel
theorem dX8_by_11 : decode cX8_by 11 = .ok (.aload_n 0, 1) := by decide +kernel
theorem dX8_by_12 : decode cX8_by 12 = .ok (.getfield 26, 3) := by decide +kernel
theorem dX8_by_15 : decode cX8_by 15 = .ok (.iload_n 1, 1) := by decide +kernel
theorem dX8_by_16 : decode cX8_by 16 = .ok (.aload_n 0, 1) := by decide +kernel
theorem dX8_by_17 : decode cX8_by 17 = .ok (.getfield 47, 3) := by decide +kernel
theorem dX8_by_20 : decode cX8_by 20 = .ok (.invokevirtual 156, 3) := by decide +kernel
theorem dX8_by_23 : decode cX8_by 23 = .ok (.goto 4, 3) := by decide +kernel
theorem dX8_by_26 : decode cX8_by 26 = .ok (.iconst (-1), 1) := by decide +kernel
theorem dX8_by_27 : decode cX8_by 27 = .ok (.ireturn, 1) := by decide +kernel
theorem dX8_ease_0 : decode cX8_ease 0 = .ok (.aload_n 0, 1) := by decide +kernel
theorem dX8_ease_1 : decode cX8_ease 1 = .ok (.getfield 26, 3) := by decide +kernel
theorem dX8_ease_4 : decode cX8_ease 4 = .ok (.iload_n 1, 1) := by decide +kernel
theorem dX8_ease_5 : decode cX8_ease 5 = .ok (.invokevirtual 108, 3) := by decide +kernel
theorem dX8_ease_8 : decode cX8_ease 8 = .ok (.ifCond .ne 5, 3) := by decide +kernel
theorem dX8_ease_11 : decode cX8_ease 11 = .ok (.iconst (-1), 1) := by decide +kernel
theorem dX8_ease_12 : decode cX8_ease 12 = .ok (.ireturn, 1) := by decide +kernel
theorem dX8_ease_13 : decode cX8_ease 13 = .ok (.aload_n 0, 1) := by decide +kernel
theorem dX8_ease_14 : decode cX8_ease 14 = .ok (.getfield 26, 3) := by decide +kernel
theorem dX8_ease_17 : decode cX8_ease 17 = .ok (.iload_n 1, 1) := by decide +kernel
theorem dX8_ease_18 : decode cX8_ease 18 = .ok (.aload_n 0, 1) := by decide +kernel
theorem dX8_ease_19 : decode cX8_ease 19 = .ok (.getfield 47, 3) := by decide +kernel
theorem dX8_ease_22 : decode cX8_ease 22 = .ok (.invokevirtual 159, 3) := by decide +kernel
theorem dX8_ease_25 : decode cX8_ease 25 = .ok (.aload_n 0, 1) := by decide +kernel
theorem dX8_ease_26 : decode cX8_ease 26 = .ok (.getfield 26, 3) := by decide +kernel
theorem dX8_ease_29 : decode cX8_ease 29 = .ok (.getfield 163, 3) := by decide +kernel
theorem dX8_ease_32 : decode cX8_ease 32 = .ok (.ireturn, 1) := by decide +kernel
theorem dX8_undone_0 : decode cX8_undone 0 = .ok (.aload_n 0, 1) := by decide +kernel
theorem dX8_undone_1 : decode cX8_undone 1 = .ok (.getfield 26, 3) := by decide +kernel
theorem dX8_undone_4 : decode cX8_undone 4 = .ok (.iload_n 1, 1) := by decide +kernel
theorem dX8_undone_5 : decode cX8_undone 5 = .ok (.invokevirtual 108, 3) := by decide +kernel
theorem dX8_undone_8 : decode cX8_undone 8 = .ok (.ifCond .ne 5, 3) := by decide +kernel
theorem dX8_undone_11 : decode cX8_undone 11 = .ok (.iconst (-1), 1) := by decide +kernel
theorem dX8_undone_12 : decode cX8_undone 12 = .ok (.ireturn, 1) := by decide +kernel
theorem dX8_undone_13 : decode cX8_undone 13 = .ok (.aload_n 0, 1) := by decide +kernel
theorem dX8_undone_14 : decode cX8_undone 14 = .ok (.getfield 26, 3) := by decide +kernel
theorem dX8_undone_17 : decode cX8_undone 17 = .ok (.iload_n 1, 1) := by decide +kernel
theorem dX8_undone_18 : decode cX8_undone 18 = .ok (.aload_n 0, 1) := by decide +kernel
theorem dX8_undone_19 : decode cX8_undone 19 = .ok (.getfield 47, 3) := by decide +kernel
theorem dX8_undone_22 : decode cX8_undone 22 = .ok (.invokevirtual 159, 3) := by decide +kernel
theorem dX8_undone_25 : decode cX8_undone 25 = .ok (.aload_n 0, 1) := by decide +kernel
theorem dX8_undone_26 : decode cX8_undone 26 = .ok (.getfield 26, 3) := by decide +kernel
theorem dX8_undone_29 : decode cX8_undone 29 = .ok (.getfield 166, 3) := by decide +kernel
theorem dX8_undone_32 : decode cX8_undone 32 = .ok (.ireturn, 1) := by decide +kernel
theorem dX8_find_0 : decode cX8_find 0 = .ok (.iload_n 1, 1) := by decide +kernel
theorem dX8_find_1 : decode cX8_find 1 = .ok (.tableswitch 57 0 2 #[27, 37, 47], 27) := by decide +kernel
theorem dX8_find_28 : decode cX8_find 28 = .ok (.aload_n 0, 1) := by decide +kernel
theorem dX8_find_29 : decode cX8_find 29 = .ok (.getfield 33, 3) := by decide +kernel
theorem dX8_find_32 : decode cX8_find 32 = .ok (.iload_n 2, 1) := by decide +kernel
theorem dX8_find_33 : decode cX8_find 33 = .ok (.iload_n 3, 1) := by decide +kernel
theorem dX8_find_34 : decode cX8_find 34 = .ok (.invokevirtual 169, 3) := by decide +kernel
theorem dX8_find_37 : decode cX8_find 37 = .ok (.ireturn, 1) := by decide +kernel
theorem dX8_find_38 : decode cX8_find 38 = .ok (.aload_n 0, 1) := by decide +kernel
theorem dX8_find_39 : decode cX8_find 39 = .ok (.getfield 33, 3) := by decide +kernel
theorem dX8_find_42 : decode cX8_find 42 = .ok (.iload_n 2, 1) := by decide +kernel
theorem dX8_find_43 : decode cX8_find 43 = .ok (.iload_n 3, 1) := by decide +kernel
theorem dX8_find_44 : decode cX8_find 44 = .ok (.invokevirtual 173, 3) := by decide +kernel
theorem dX8_find_47 : decode cX8_find 47 = .ok (.ireturn, 1) := by decide +kernel
theorem dX8_find_48 : decode cX8_find 48 = .ok (.aload_n 0, 1) := by decide +kernel
theorem dX8_find_49 : decode cX8_find 49 = .ok (.getfield 33, 3) := by decide +kernel
theorem dX8_find_52 : decode cX8_find 52 = .ok (.iload_n 2, 1) := by decide +kernel
theorem dX8_find_53 : decode cX8_find 53 = .ok (.iload_n 3, 1) := by decide +kernel
theorem dX8_find_54 : decode cX8_find 54 = .ok (.invokevirtual 176, 3) := by decide +kernel
theorem dX8_find_57 : decode cX8_find 57 = .ok (.ireturn, 1) := by decide +kernel
theorem dX8_find_58 : decode cX8_find 58 = .ok (.iconst 0, 1) := by decide +kernel
theorem dX8_find_59 : decode cX8_find 59 = .ok (.ireturn, 1) := by decide +kernel
theorem dX8_finds_0 : decode cX8_finds 0 = .ok (.aload_n 0, 1) := by decide +kernel
theorem dX8_finds_1 : decode cX8_finds 1 = .ok (.getfield 33, 3) := by decide +kernel
theorem dX8_finds_4 : decode cX8_finds 4 = .ok (.aload_n 0, 1) := by decide +kernel
theorem dX8_finds_5 : decode cX8_finds 5 = .ok (.getfield 26, 3) := by decide +kernel
theorem dX8_finds_8 : decode cX8_finds 8 = .ok (.invokevirtual 179, 3) := by decide +kernel
theorem dX8_finds_11 : decode cX8_finds 11 = .ok (.return_, 1) := by decide +kernel
theorem dX8_rows_0 : decode cX8_rows 0 = .ok (.aload_n 0, 1) := by decide +kernel
theorem dX8_rows_1 : decode cX8_rows 1 = .ok (.getfield 33, 3) := by decide +kernel
theorem dX8_rows_4 : decode cX8_rows 4 = .ok (.invokevirtual 183, 3) := by decide +kernel
theorem dX8_rows_7 : decode cX8_rows 7 = .ok (.aload_n 0, 1) := by decide +kernel
theorem dX8_rows_8 : decode cX8_rows 8 = .ok (.getfield 33, 3) := by decide +kernel
theorem dX8_rows_11 : decode cX8_rows 11 = .ok (.getfield 186, 3) := by decide +kernel
theorem dX8_rows_14 : decode cX8_rows 14 = .ok (.ireturn, 1) := by decide +kernel
theorem dX8_row_0 : decode cX8_row 0 = .ok (.aload_n 0, 1) := by decide +kernel
theorem dX8_row_1 : decode cX8_row 1 = .ok (.getfield 33, 3) := by decide +kernel
theorem dX8_row_4 : decode cX8_row 4 = .ok (.invokevirtual 183, 3) := by decide +kernel
theorem dX8_row_7 : decode cX8_row 7 = .ok (.aload_n 0, 1) := by decide +kernel
theorem dX8_row_8 : decode cX8_row 8 = .ok (.getfield 33, 3) := by decide +kernel
theorem dX8_row_11 : decode cX8_row 11 = .ok (.iload_n 1, 1) := by decide +kernel
theorem dX8_row_12 : decode cX8_row 12 = .ok (.invokevirtual 189, 3) := by decide +kernel
theorem dX8_row_15 : decode cX8_row 15 = .ok (.ireturn, 1) := by decide +kernel
theorem dX8_shut_0 : decode cX8_shut 0 = .ok (.aload_n 0, 1) := by decide +kernel
theorem dX8_shut_1 : decode cX8_shut 1 = .ok (.getfield 33, 3) := by decide +kernel
theorem dX8_shut_4 : decode cX8_shut 4 = .ok (.invokevirtual 183, 3) := by decide +kernel
theorem dX8_shut_7 : decode cX8_shut 7 = .ok (.aload_n 0, 1) := by decide +kernel
theorem dX8_shut_8 : decode cX8_shut 8 = .ok (.getfield 33, 3) := by decide +kernel
theorem dX8_shut_11 : decode cX8_shut 11 = .ok (.getfield 186, 3) := by decide +kernel
theorem dX8_shut_14 : decode cX8_shut 14 = .ok (.ifCond .le 5, 3) := by decide +kernel
theorem dX8_shut_17 : decode cX8_shut 17 = .ok (.iconst 1, 1) := by decide +kernel
theorem dX8_shut_18 : decode cX8_shut 18 = .ok (.ireturn, 1) := by decide +kernel
theorem dX8_shut_19 : decode cX8_shut 19 = .ok (.aload_n 0, 1) := by decide +kernel
theorem dX8_shut_20 : decode cX8_shut 20 = .ok (.getfield 33, 3) := by decide +kernel
theorem dX8_shut_23 : decode cX8_shut 23 = .ok (.invokevirtual 192, 3) := by decide +kernel
theorem dX8_shut_26 : decode cX8_shut 26 = .ok (.ifCond .eq 7, 3) := by decide +kernel
theorem dX8_shut_29 : decode cX8_shut 29 = .ok (.iconst 2, 1) := by decide +kernel
theorem dX8_shut_30 : decode cX8_shut 30 = .ok (.goto 4, 3) := by decide +kernel
theorem dX8_shut_33 : decode cX8_shut 33 = .ok (.iconst 0, 1) := by decide +kernel
theorem dX8_shut_34 : decode cX8_shut 34 = .ok (.ireturn, 1) := by decide +kernel
theorem dX8_hand_0 : decode cX8_hand 0 = .ok (.aload_n 0, 1) := by decide +kernel
theorem dX8_hand_1 : decode cX8_hand 1 = .ok (.getfield 40, 3) := by decide +kernel
theorem dX8_hand_4 : decode cX8_hand 4 = .ok (.iload_n 1, 1) := by decide +kernel
theorem dX8_hand_5 : decode cX8_hand 5 = .ok (.invokevirtual 196, 3) := by decide +kernel
theorem dX8_hand_8 : decode cX8_hand 8 = .ok (.ireturn, 1) := by decide +kernel
theorem dX8_look_0 : decode cX8_look 0 = .ok (.aload_n 0, 1) := by decide +kernel
theorem dX8_look_1 : decode cX8_look 1 = .ok (.getfield 40, 3) := by decide +kernel
theorem dX8_look_4 : decode cX8_look 4 = .ok (.iload_n 1, 1) := by decide +kernel
theorem dX8_look_5 : decode cX8_look 5 = .ok (.iload_n 2, 1) := by decide +kernel
theorem dX8_look_6 : decode cX8_look 6 = .ok (.invokevirtual 199, 3) := by decide +kernel
theorem dX8_look_9 : decode cX8_look 9 = .ok (.ireturn, 1) := by decide +kernel
theorem dX8_tale_0 : decode cX8_tale 0 = .ok (.aload_n 0, 1) := by decide +kernel
theorem dX8_tale_1 : decode cX8_tale 1 = .ok (.getfield 40, 3) := by decide +kernel
theorem dX8_tale_4 : decode cX8_tale 4 = .ok (.iload_n 1, 1) := by decide +kernel
theorem dX8_tale_5 : decode cX8_tale 5 = .ok (.invokevirtual 202, 3) := by decide +kernel
theorem dX8_tale_8 : decode cX8_tale 8 = .ok (.ifCond .ne 5, 3) := by decide +kernel
theorem dX8_tale_11 : decode cX8_tale 11 = .ok (.iconst (-1), 1) := by decide +kernel
theorem dX8_tale_12 : decode cX8_tale 12 = .ok (.ireturn, 1) := by decide +kernel
theorem dX8_tale_13 : decode cX8_tale 13 = .ok (.aload_n 0, 1) := by decide +kernel
theorem dX8_tale_14 : decode cX8_tale 14 = .ok (.getfield 40, 3) := by decide +kernel
theorem dX8_tale_17 : decode cX8_tale 17 = .ok (.iload_n 1, 1) := by decide +kernel
theorem dX8_tale_18 : decode cX8_tale 18 = .ok (.aload_n 0, 1) := by decide +kernel
theorem dX8_tale_19 : decode cX8_tale 19 = .ok (.getfield 47, 3) := by decide +kernel
theorem dX8_tale_22 : decode cX8_tale 22 = .ok (.invokevirtual 205, 3) := by decide +kernel
theorem dX8_tale_25 : decode cX8_tale 25 = .ok (.aload_n 0, 1) := by decide +kernel
theorem dX8_tale_26 : decode cX8_tale 26 = .ok (.getfield 40, 3) := by decide +kernel
theorem dX8_tale_29 : decode cX8_tale 29 = .ok (.iconst (-1), 1) := by decide +kernel
theorem dX8_tale_30 : decode cX8_tale 30 = .ok (.invokevirtual 208, 3) := by decide +kernel
theorem dX8_tale_33 : decode cX8_tale 33 = .ok (.aload_n 0, 1) := by decide +kernel
theorem dX8_tale_34 : decode cX8_tale 34 = .ok (.getfield 40, 3) := by decide +kernel
theorem dX8_tale_37 : decode cX8_tale 37 = .ok (.invokevirtual 210, 3) := by decide +kernel
theorem dX8_tale_40 : decode cX8_tale 40 = .ok (.ireturn, 1) := by decide +kernel
theorem dX8_tales_0 : decode cX8_tales 0 = .ok (.aload_n 0, 1) := by decide +kernel
theorem dX8_tales_1 : decode cX8_tales 1 = .ok (.getfield 40, 3) := by decide +kernel
theorem dX8_tales_4 : decode cX8_tales 4 = .ok (.iload_n 1, 1) := by decide +kernel
theorem dX8_tales_5 : decode cX8_tales 5 = .ok (.invokevirtual 202, 3) := by decide +kernel
theorem dX8_tales_8 : decode cX8_tales 8 = .ok (.ifCond .ne 7, 3) := by decide +kernel
theorem dX8_tales_11 : decode cX8_tales 11 = .ok (.ldc2_w 213, 3) := by decide +kernel
theorem dX8_tales_14 : decode cX8_tales 14 = .ok (.lreturn, 1) := by decide +kernel
theorem dX8_tales_15 : decode cX8_tales 15 = .ok (.aload_n 0, 1) := by decide +kernel
theorem dX8_tales_16 : decode cX8_tales 16 = .ok (.getfield 40, 3) := by decide +kernel
theorem dX8_tales_19 : decode cX8_tales 19 = .ok (.iload_n 1, 1) := by decide +kernel
theorem dX8_tales_20 : decode cX8_tales 20 = .ok (.aload_n 0, 1) := by decide +kernel
theorem dX8_tales_21 : decode cX8_tales 21 = .ok (.getfield 47, 3) := by decide +kernel
theorem dX8_tales_24 : decode cX8_tales 24 = .ok (.invokevirtual 205, 3) := by decide +kernel
theorem dX8_tales_27 : decode cX8_tales 27 = .ok (.aload_n 0, 1) := by decide +kernel
theorem dX8_tales_28 : decode cX8_tales 28 = .ok (.getfield 40, 3) := by decide +kernel
theorem dX8_tales_31 : decode cX8_tales 31 = .ok (.iconst (-1), 1) := by decide +kernel
theorem dX8_tales_32 : decode cX8_tales 32 = .ok (.invokevirtual 208, 3) := by decide +kernel
theorem dX8_tales_35 : decode cX8_tales 35 = .ok (.aload_n 0, 1) := by decide +kernel
theorem dX8_tales_36 : decode cX8_tales 36 = .ok (.getfield 40, 3) := by decide +kernel
theorem dX8_tales_39 : decode cX8_tales 39 = .ok (.invokevirtual 215, 3) := by decide +kernel
theorem dX8_tales_42 : decode cX8_tales 42 = .ok (.lreturn, 1) := by decide +kernel
theorem dX8_told_0 : decode cX8_told 0 = .ok (.aload_n 0, 1) := by decide +kernel
theorem dX8_told_1 : decode cX8_told 1 = .ok (.getfield 40, 3) := by decide +kernel
theorem dX8_told_4 : decode cX8_told 4 = .ok (.iload_n 2, 1) := by decide +kernel
theorem dX8_told_5 : decode cX8_told 5 = .ok (.invokevirtual 202, 3) := by decide +kernel
theorem dX8_told_8 : decode cX8_told 8 = .ok (.ifCond .eq 18, 3) := by decide +kernel
theorem dX8_told_11 : decode cX8_told 11 = .ok (.iload_n 1, 1) := by decide +kernel
theorem dX8_told_12 : decode cX8_told 12 = .ok (.ifCond .lt 14, 3) := by decide +kernel
theorem dX8_told_15 : decode cX8_told 15 = .ok (.iload_n 1, 1) := by decide +kernel
theorem dX8_told_16 : decode cX8_told 16 = .ok (.aload_n 0, 1) := by decide +kernel
theorem dX8_told_17 : decode cX8_told 17 = .ok (.getfield 40, 3) := by decide +kernel
theorem dX8_told_20 : decode cX8_told 20 = .ok (.getfield 219, 3) := by decide +kernel
theorem dX8_told_23 : decode cX8_told 23 = .ok (.if_icmp .lt 5, 3) := by decide +kernel
theorem dX8_told_26 : decode cX8_told 26 = .ok (.iconst (-1), 1) := by decide +kernel
theorem dX8_told_27 : decode cX8_told 27 = .ok (.ireturn, 1) := by decide +kernel
theorem dX8_told_28 : decode cX8_told 28 = .ok (.aload_n 0, 1) := by decide +kernel
theorem dX8_told_29 : decode cX8_told 29 = .ok (.getfield 40, 3) := by decide +kernel
theorem dX8_told_32 : decode cX8_told 32 = .ok (.iload_n 2, 1) := by decide +kernel
theorem dX8_told_33 : decode cX8_told 33 = .ok (.aload_n 0, 1) := by decide +kernel
theorem dX8_told_34 : decode cX8_told 34 = .ok (.getfield 47, 3) := by decide +kernel
theorem dX8_told_37 : decode cX8_told 37 = .ok (.invokevirtual 205, 3) := by decide +kernel
theorem dX8_told_40 : decode cX8_told 40 = .ok (.aload_n 0, 1) := by decide +kernel
theorem dX8_told_41 : decode cX8_told 41 = .ok (.getfield 40, 3) := by decide +kernel
theorem dX8_told_44 : decode cX8_told 44 = .ok (.iconst (-1), 1) := by decide +kernel
theorem dX8_told_45 : decode cX8_told 45 = .ok (.invokevirtual 208, 3) := by decide +kernel
theorem dX8_told_48 : decode cX8_told 48 = .ok (.aload_n 0, 1) := by decide +kernel
theorem dX8_told_49 : decode cX8_told 49 = .ok (.getfield 40, 3) := by decide +kernel
theorem dX8_told_52 : decode cX8_told 52 = .ok (.invokevirtual 222, 3) := by decide +kernel
theorem dX8_told_55 : decode cX8_told 55 = .ok (.pop, 1) := by decide +kernel
theorem dX8_told_56 : decode cX8_told 56 = .ok (.aload_n 0, 1) := by decide +kernel
theorem dX8_told_57 : decode cX8_told 57 = .ok (.getfield 40, 3) := by decide +kernel
theorem dX8_told_60 : decode cX8_told 60 = .ok (.getfield 225, 3) := by decide +kernel
theorem dX8_told_63 : decode cX8_told 63 = .ok (.iload_n 1, 1) := by decide +kernel
theorem dX8_told_64 : decode cX8_told 64 = .ok (.iaload, 1) := by decide +kernel
theorem dX8_told_65 : decode cX8_told 65 = .ok (.ireturn, 1) := by decide +kernel
theorem dX8_opened_0 : decode cX8_opened 0 = .ok (.aload_n 0, 1) := by decide +kernel
theorem dX8_opened_1 : decode cX8_opened 1 = .ok (.getfield 40, 3) := by decide +kernel
theorem dX8_opened_4 : decode cX8_opened 4 = .ok (.iload_n 2, 1) := by decide +kernel
theorem dX8_opened_5 : decode cX8_opened 5 = .ok (.invokevirtual 202, 3) := by decide +kernel
theorem dX8_opened_8 : decode cX8_opened 8 = .ok (.ifCond .eq 18, 3) := by decide +kernel
theorem dX8_opened_11 : decode cX8_opened 11 = .ok (.iload_n 1, 1) := by decide +kernel
theorem dX8_opened_12 : decode cX8_opened 12 = .ok (.ifCond .lt 14, 3) := by decide +kernel
theorem dX8_opened_15 : decode cX8_opened 15 = .ok (.iload_n 1, 1) := by decide +kernel
theorem dX8_opened_16 : decode cX8_opened 16 = .ok (.aload_n 0, 1) := by decide +kernel
theorem dX8_opened_17 : decode cX8_opened 17 = .ok (.getfield 40, 3) := by decide +kernel
theorem dX8_opened_20 : decode cX8_opened 20 = .ok (.getfield 228, 3) := by decide +kernel
theorem dX8_opened_23 : decode cX8_opened 23 = .ok (.if_icmp .lt 5, 3) := by decide +kernel
theorem dX8_opened_26 : decode cX8_opened 26 = .ok (.iconst (-1), 1) := by decide +kernel
theorem dX8_opened_27 : decode cX8_opened 27 = .ok (.ireturn, 1) := by decide +kernel
theorem dX8_opened_28 : decode cX8_opened 28 = .ok (.aload_n 0, 1) := by decide +kernel
theorem dX8_opened_29 : decode cX8_opened 29 = .ok (.getfield 40, 3) := by decide +kernel
theorem dX8_opened_32 : decode cX8_opened 32 = .ok (.iload_n 2, 1) := by decide +kernel
theorem dX8_opened_33 : decode cX8_opened 33 = .ok (.aload_n 0, 1) := by decide +kernel
theorem dX8_opened_34 : decode cX8_opened 34 = .ok (.getfield 47, 3) := by decide +kernel
theorem dX8_opened_37 : decode cX8_opened 37 = .ok (.invokevirtual 205, 3) := by decide +kernel
theorem dX8_opened_40 : decode cX8_opened 40 = .ok (.aload_n 0, 1) := by decide +kernel
theorem dX8_opened_41 : decode cX8_opened 41 = .ok (.getfield 40, 3) := by decide +kernel
theorem dX8_opened_44 : decode cX8_opened 44 = .ok (.iload_n 1, 1) := by decide +kernel
theorem dX8_opened_45 : decode cX8_opened 45 = .ok (.invokevirtual 231, 3) := by decide +kernel
theorem dX8_opened_48 : decode cX8_opened 48 = .ok (.ireturn, 1) := by decide +kernel
theorem dX8_turned_0 : decode cX8_turned 0 = .ok (.iload_n 1, 1) := by decide +kernel
theorem dX8_turned_1 : decode cX8_turned 1 = .ok (.ifCond .lt 14, 3) := by decide +kernel
theorem dX8_turned_4 : decode cX8_turned 4 = .ok (.iload_n 1, 1) := by decide +kernel
theorem dX8_turned_5 : decode cX8_turned 5 = .ok (.aload_n 0, 1) := by decide +kernel
theorem dX8_turned_6 : decode cX8_turned 6 = .ok (.getfield 40, 3) := by decide +kernel
theorem dX8_turned_9 : decode cX8_turned 9 = .ok (.getfield 234, 3) := by decide +kernel
theorem dX8_turned_12 : decode cX8_turned 12 = .ok (.if_icmp .lt 5, 3) := by decide +kernel
theorem dX8_turned_15 : decode cX8_turned 15 = .ok (.iconst (-1), 1) := by decide +kernel
theorem dX8_turned_16 : decode cX8_turned 16 = .ok (.ireturn, 1) := by decide +kernel
theorem dX8_turned_17 : decode cX8_turned 17 = .ok (.aload_n 0, 1) := by decide +kernel
theorem dX8_turned_18 : decode cX8_turned 18 = .ok (.getfield 40, 3) := by decide +kernel
theorem dX8_turned_21 : decode cX8_turned 21 = .ok (.iload_n 1, 1) := by decide +kernel
theorem dX8_turned_22 : decode cX8_turned 22 = .ok (.aload_n 0, 1) := by decide +kernel
theorem dX8_turned_23 : decode cX8_turned 23 = .ok (.getfield 47, 3) := by decide +kernel
theorem dX8_turned_26 : decode cX8_turned 26 = .ok (.invokevirtual 205, 3) := by decide +kernel
theorem dX8_turned_29 : decode cX8_turned 29 = .ok (.aload_n 0, 1) := by decide +kernel
theorem dX8_turned_30 : decode cX8_turned 30 = .ok (.getfield 40, 3) := by decide +kernel
theorem dX8_turned_33 : decode cX8_turned 33 = .ok (.iload_n 1, 1) := by decide +kernel
theorem dX8_turned_34 : decode cX8_turned 34 = .ok (.invokevirtual 237, 3) := by decide +kernel
theorem dX8_turned_37 : decode cX8_turned 37 = .ok (.ireturn, 1) := by decide +kernel
theorem dX8_count_0 : decode cX8_count 0 = .ok (.iload_n 1, 1) := by decide +kernel
theorem dX8_count_1 : decode cX8_count 1 = .ok (.tableswitch 130 0 8 #[51, 59, 70, 78, 86, 94, 106, 114, 122], 51) := by decide +kernel
theorem dX8_count_52 : decode cX8_count 52 = .ok (.aload_n 0, 1) := by decide +kernel
theorem dX8_count_53 : decode cX8_count 53 = .ok (.getfield 26, 3) := by decide +kernel
theorem dX8_count_56 : decode cX8_count 56 = .ok (.getfield 141, 3) := by decide +kernel
theorem dX8_count_59 : decode cX8_count 59 = .ok (.ireturn, 1) := by decide +kernel
theorem dX8_count_60 : decode cX8_count 60 = .ok (.aload_n 0, 1) := by decide +kernel
theorem dX8_count_61 : decode cX8_count 61 = .ok (.getfield 26, 3) := by decide +kernel
theorem dX8_count_64 : decode cX8_count 64 = .ok (.invokevirtual 112, 3) := by decide +kernel
theorem dX8_count_67 : decode cX8_count 67 = .ok (.getfield 240, 3) := by decide +kernel
theorem dX8_count_70 : decode cX8_count 70 = .ok (.ireturn, 1) := by decide +kernel
theorem dX8_count_71 : decode cX8_count 71 = .ok (.aload_n 0, 1) := by decide +kernel
theorem dX8_count_72 : decode cX8_count 72 = .ok (.getfield 26, 3) := by decide +kernel
theorem dX8_count_75 : decode cX8_count 75 = .ok (.getfield 101, 3) := by decide +kernel
theorem dX8_count_78 : decode cX8_count 78 = .ok (.ireturn, 1) := by decide +kernel
theorem dX8_count_79 : decode cX8_count 79 = .ok (.aload_n 0, 1) := by decide +kernel
theorem dX8_count_80 : decode cX8_count 80 = .ok (.getfield 47, 3) := by decide +kernel
theorem dX8_count_83 : decode cX8_count 83 = .ok (.getfield 243, 3) := by decide +kernel
theorem dX8_count_86 : decode cX8_count 86 = .ok (.ireturn, 1) := by decide +kernel
theorem dX8_count_87 : decode cX8_count 87 = .ok (.aload_n 0, 1) := by decide +kernel
theorem dX8_count_88 : decode cX8_count 88 = .ok (.getfield 10, 3) := by decide +kernel
theorem dX8_count_91 : decode cX8_count 91 = .ok (.getfield 65, 3) := by decide +kernel
theorem dX8_count_94 : decode cX8_count 94 = .ok (.ireturn, 1) := by decide +kernel
theorem dX8_count_95 : decode cX8_count 95 = .ok (.aload_n 0, 1) := by decide +kernel
theorem dX8_count_96 : decode cX8_count 96 = .ok (.getfield 26, 3) := by decide +kernel
theorem dX8_count_99 : decode cX8_count 99 = .ok (.aload_n 0, 1) := by decide +kernel
theorem dX8_count_100 : decode cX8_count 100 = .ok (.getfield 47, 3) := by decide +kernel
theorem dX8_count_103 : decode cX8_count 103 = .ok (.invokevirtual 246, 3) := by decide +kernel
theorem dX8_count_106 : decode cX8_count 106 = .ok (.ireturn, 1) := by decide +kernel
theorem dX8_count_107 : decode cX8_count 107 = .ok (.aload_n 0, 1) := by decide +kernel
theorem dX8_count_108 : decode cX8_count 108 = .ok (.getfield 40, 3) := by decide +kernel
theorem dX8_count_111 : decode cX8_count 111 = .ok (.getfield 228, 3) := by decide +kernel
theorem dX8_count_114 : decode cX8_count 114 = .ok (.ireturn, 1) := by decide +kernel
theorem dX8_count_115 : decode cX8_count 115 = .ok (.aload_n 0, 1) := by decide +kernel
theorem dX8_count_116 : decode cX8_count 116 = .ok (.getfield 40, 3) := by decide +kernel
theorem dX8_count_119 : decode cX8_count 119 = .ok (.getfield 219, 3) := by decide +kernel
theorem dX8_count_122 : decode cX8_count 122 = .ok (.ireturn, 1) := by decide +kernel
theorem dX8_count_123 : decode cX8_count 123 = .ok (.aload_n 0, 1) := by decide +kernel
theorem dX8_count_124 : decode cX8_count 124 = .ok (.getfield 40, 3) := by decide +kernel
theorem dX8_count_127 : decode cX8_count 127 = .ok (.getfield 234, 3) := by decide +kernel
theorem dX8_count_130 : decode cX8_count 130 = .ok (.ireturn, 1) := by decide +kernel
theorem dX8_count_131 : decode cX8_count 131 = .ok (.iconst (-1), 1) := by decide +kernel
theorem dX8_count_132 : decode cX8_count 132 = .ok (.ireturn, 1) := by decide +kernel
theorem dX8_held_0 : decode cX8_held 0 = .ok (.iconst 0, 1) := by decide +kernel
theorem dX8_held_1 : decode cX8_held 1 = .ok (.sipush 1000, 3) := by decide +kernel
theorem dX8_held_4 : decode cX8_held 4 = .ok (.iload_n 0, 1) := by decide +kernel
theorem dX8_held_5 : decode cX8_held 5 = .ok (.invokestatic 250, 3) := by decide +kernel
theorem dX8_held_8 : decode cX8_held 8 = .ok (.invokestatic 255, 3) := by decide +kernel
theorem dX8_held_11 : decode cX8_held 11 = .ok (.ireturn, 1) := by decide +kernel
theorem dX9_init_0 : decode cX9_init 0 = .ok (.aload_n 0, 1) := by decide +kernel
theorem dX9_init_1 : decode cX9_init 1 = .ok (.invokespecial 7, 3) := by decide +kernel
theorem dX9_init_4 : decode cX9_init 4 = .ok (.aload_n 0, 1) := by decide +kernel
theorem dX9_init_5 : decode cX9_init 5 = .ok (.sipush 2000, 3) := by decide +kernel
theorem dX9_init_8 : decode cX9_init 8 = .ok (.newarray .byte, 2) := by decide +kernel
theorem dX9_init_10 : decode cX9_init 10 = .ok (.putfield 13, 3) := by decide +kernel
theorem dX9_init_13 : decode cX9_init 13 = .ok (.aload_n 0, 1) := by decide +kernel
theorem dX9_init_14 : decode cX9_init 14 = .ok (.sipush 2000, 3) := by decide +kernel
theorem dX9_init_17 : decode cX9_init 17 = .ok (.newarray .byte, 2) := by decide +kernel
theorem dX9_init_19 : decode cX9_init 19 = .ok (.putfield 17, 3) := by decide +kernel
theorem dX9_init_22 : decode cX9_init 22 = .ok (.aload_n 0, 1) := by decide +kernel
theorem dX9_init_23 : decode cX9_init 23 = .ok (.sipush 403, 3) := by decide +kernel
theorem dX9_init_26 : decode cX9_init 26 = .ok (.newarray .int, 2) := by decide +kernel
theorem dX9_init_28 : decode cX9_init 28 = .ok (.putfield 20, 3) := by decide +kernel
theorem dX9_init_31 : decode cX9_init 31 = .ok (.aload_n 0, 1) := by decide +kernel
theorem dX9_init_32 : decode cX9_init 32 = .ok (.sipush 403, 3) := by decide +kernel
theorem dX9_init_35 : decode cX9_init 35 = .ok (.newarray .int, 2) := by decide +kernel
theorem dX9_init_37 : decode cX9_init 37 = .ok (.putfield 24, 3) := by decide +kernel
theorem dX9_init_40 : decode cX9_init 40 = .ok (.aload_n 0, 1) := by decide +kernel
theorem dX9_init_41 : decode cX9_init 41 = .ok (.sipush 403, 3) := by decide +kernel
theorem dX9_init_44 : decode cX9_init 44 = .ok (.newarray .int, 2) := by decide +kernel
theorem dX9_init_46 : decode cX9_init 46 = .ok (.putfield 27, 3) := by decide +kernel
theorem dX9_init_49 : decode cX9_init 49 = .ok (.aload_n 0, 1) := by decide +kernel
theorem dX9_init_50 : decode cX9_init 50 = .ok (.sipush 403, 3) := by decide +kernel
theorem dX9_init_53 : decode cX9_init 53 = .ok (.newarray .long, 2) := by decide +kernel
theorem dX9_init_55 : decode cX9_init 55 = .ok (.putfield 30, 3) := by decide +kernel
theorem dX9_init_58 : decode cX9_init 58 = .ok (.aload_n 0, 1) := by decide +kernel
theorem dX9_init_59 : decode cX9_init 59 = .ok (.bipush 14, 2) := by decide +kernel
theorem dX9_init_61 : decode cX9_init 61 = .ok (.newarray .long, 2) := by decide +kernel
theorem dX9_init_63 : decode cX9_init 63 = .ok (.putfield 34, 3) := by decide +kernel
theorem dX9_init_66 : decode cX9_init 66 = .ok (.aload_n 0, 1) := by decide +kernel
theorem dX9_init_67 : decode cX9_init 67 = .ok (.iconst (-1), 1) := by decide +kernel
theorem dX9_init_68 : decode cX9_init 68 = .ok (.putfield 37, 3) := by decide +kernel
theorem dX9_init_71 : decode cX9_init 71 = .ok (.aload_n 0, 1) := by decide +kernel
theorem dX9_init_72 : decode cX9_init 72 = .ok (.iconst 2, 1) := by decide +kernel
theorem dX9_init_73 : decode cX9_init 73 = .ok (.newarray .int, 2) := by decide +kernel
theorem dX9_init_75 : decode cX9_init 75 = .ok (.putfield 40, 3) := by decide +kernel
theorem dX9_init_78 : decode cX9_init 78 = .ok (.aload_n 0, 1) := by decide +kernel
theorem dX9_init_79 : decode cX9_init 79 = .ok (.bipush 32, 2) := by decide +kernel
theorem dX9_init_81 : decode cX9_init 81 = .ok (.newarray .int, 2) := by decide +kernel
theorem dX9_init_83 : decode cX9_init 83 = .ok (.putfield 43, 3) := by decide +kernel
theorem dX9_init_86 : decode cX9_init 86 = .ok (.aload_n 0, 1) := by decide +kernel
theorem dX9_init_87 : decode cX9_init 87 = .ok (.bipush 32, 2) := by decide +kernel
theorem dX9_init_89 : decode cX9_init 89 = .ok (.newarray .int, 2) := by decide +kernel
theorem dX9_init_91 : decode cX9_init 91 = .ok (.putfield 46, 3) := by decide +kernel
theorem dX9_init_94 : decode cX9_init 94 = .ok (.aload_n 0, 1) := by decide +kernel
theorem dX9_init_95 : decode cX9_init 95 = .ok (.bipush 32, 2) := by decide +kernel
theorem dX9_init_97 : decode cX9_init 97 = .ok (.newarray .int, 2) := by decide +kernel
theorem dX9_init_99 : decode cX9_init 99 = .ok (.putfield 49, 3) := by decide +kernel
theorem dX9_init_102 : decode cX9_init 102 = .ok (.aload_n 0, 1) := by decide +kernel
theorem dX9_init_103 : decode cX9_init 103 = .ok (.bipush 32, 2) := by decide +kernel
theorem dX9_init_105 : decode cX9_init 105 = .ok (.newarray .int, 2) := by decide +kernel
theorem dX9_init_107 : decode cX9_init 107 = .ok (.putfield 52, 3) := by decide +kernel
theorem dX9_init_110 : decode cX9_init 110 = .ok (.aload_n 0, 1) := by decide +kernel
theorem dX9_init_111 : decode cX9_init 111 = .ok (.bipush 32, 2) := by decide +kernel
theorem dX9_init_113 : decode cX9_init 113 = .ok (.newarray .int, 2) := by decide +kernel
theorem dX9_init_115 : decode cX9_init 115 = .ok (.putfield 55, 3) := by decide +kernel
theorem dX9_init_118 : decode cX9_init 118 = .ok (.aload_n 0, 1) := by decide +kernel
theorem dX9_init_119 : decode cX9_init 119 = .ok (.iconst 2, 1) := by decide +kernel
theorem dX9_init_120 : decode cX9_init 120 = .ok (.newarray .int, 2) := by decide +kernel
theorem dX9_init_122 : decode cX9_init 122 = .ok (.putfield 58, 3) := by decide +kernel
theorem dX9_init_125 : decode cX9_init 125 = .ok (.aload_n 0, 1) := by decide +kernel
theorem dX9_init_126 : decode cX9_init 126 = .ok (.sipush 400, 3) := by decide +kernel
theorem dX9_init_129 : decode cX9_init 129 = .ok (.newarray .int, 2) := by decide +kernel
theorem dX9_init_131 : decode cX9_init 131 = .ok (.putfield 61, 3) := by decide +kernel
theorem dX9_init_134 : decode cX9_init 134 = .ok (.aload_n 0, 1) := by decide +kernel
theorem dX9_init_135 : decode cX9_init 135 = .ok (.sipush 400, 3) := by decide +kernel
theorem dX9_init_138 : decode cX9_init 138 = .ok (.newarray .int, 2) := by decide +kernel
theorem dX9_init_140 : decode cX9_init 140 = .ok (.putfield 64, 3) := by decide +kernel
theorem dX9_init_143 : decode cX9_init 143 = .ok (.aload_n 0, 1) := by decide +kernel
theorem dX9_init_144 : decode cX9_init 144 = .ok (.sipush 400, 3) := by decide +kernel
theorem dX9_init_147 : decode cX9_init 147 = .ok (.newarray .int, 2) := by decide +kernel
theorem dX9_init_149 : decode cX9_init 149 = .ok (.putfield 67, 3) := by decide +kernel
theorem dX9_init_152 : decode cX9_init 152 = .ok (.aload_n 0, 1) := by decide +kernel
theorem dX9_init_153 : decode cX9_init 153 = .ok (.sipush 400, 3) := by decide +kernel
theorem dX9_init_156 : decode cX9_init 156 = .ok (.newarray .int, 2) := by decide +kernel
theorem dX9_init_158 : decode cX9_init 158 = .ok (.putfield 70, 3) := by decide +kernel
theorem dX9_init_161 : decode cX9_init 161 = .ok (.aload_n 0, 1) := by decide +kernel
theorem dX9_init_162 : decode cX9_init 162 = .ok (.sipush 400, 3) := by decide +kernel
theorem dX9_init_165 : decode cX9_init 165 = .ok (.newarray .boolean, 2) := by decide +kernel
theorem dX9_init_167 : decode cX9_init 167 = .ok (.putfield 73, 3) := by decide +kernel
theorem dX9_init_170 : decode cX9_init 170 = .ok (.aload_n 0, 1) := by decide +kernel
theorem dX9_init_171 : decode cX9_init 171 = .ok (.sipush 1000, 3) := by decide +kernel
theorem dX9_init_174 : decode cX9_init 174 = .ok (.newarray .int, 2) := by decide +kernel
theorem dX9_init_176 : decode cX9_init 176 = .ok (.putfield 77, 3) := by decide +kernel
theorem dX9_init_179 : decode cX9_init 179 = .ok (.aload_n 0, 1) := by decide +kernel
theorem dX9_init_180 : decode cX9_init 180 = .ok (.sipush 1000, 3) := by decide +kernel
theorem dX9_init_183 : decode cX9_init 183 = .ok (.newarray .int, 2) := by decide +kernel
theorem dX9_init_185 : decode cX9_init 185 = .ok (.putfield 80, 3) := by decide +kernel
theorem dX9_init_188 : decode cX9_init 188 = .ok (.aload_n 0, 1) := by decide +kernel
theorem dX9_init_189 : decode cX9_init 189 = .ok (.bipush 48, 2) := by decide +kernel
theorem dX9_init_191 : decode cX9_init 191 = .ok (.newarray .int, 2) := by decide +kernel
theorem dX9_init_193 : decode cX9_init 193 = .ok (.putfield 83, 3) := by decide +kernel
theorem dX9_init_196 : decode cX9_init 196 = .ok (.aload_n 0, 1) := by decide +kernel
theorem dX9_init_197 : decode cX9_init 197 = .ok (.iconst 5, 1) := by decide +kernel
theorem dX9_init_198 : decode cX9_init 198 = .ok (.newarray .int, 2) := by decide +kernel
theorem dX9_init_200 : decode cX9_init 200 = .ok (.putfield 86, 3) := by decide +kernel
theorem dX9_init_203 : decode cX9_init 203 = .ok (.aload_n 0, 1) := by decide +kernel
theorem dX9_init_204 : decode cX9_init 204 = .ok (.sipush 500, 3) := by decide +kernel
theorem dX9_init_207 : decode cX9_init 207 = .ok (.newarray .int, 2) := by decide +kernel
theorem dX9_init_209 : decode cX9_init 209 = .ok (.putfield 89, 3) := by decide +kernel
theorem dX9_init_212 : decode cX9_init 212 = .ok (.aload_n 0, 1) := by decide +kernel
theorem dX9_init_213 : decode cX9_init 213 = .ok (.bipush 22, 2) := by decide +kernel
theorem dX9_init_215 : decode cX9_init 215 = .ok (.newarray .int, 2) := by decide +kernel
theorem dX9_init_217 : decode cX9_init 217 = .ok (.putfield 92, 3) := by decide +kernel
theorem dX9_init_220 : decode cX9_init 220 = .ok (.aload_n 0, 1) := by decide +kernel
theorem dX9_init_221 : decode cX9_init 221 = .ok (.sipush 176, 3) := by decide +kernel
theorem dX9_init_224 : decode cX9_init 224 = .ok (.newarray .int, 2) := by decide +kernel
theorem dX9_init_226 : decode cX9_init 226 = .ok (.putfield 95, 3) := by decide +kernel
theorem dX9_init_229 : decode cX9_init 229 = .ok (.aload_n 0, 1) := by decide +kernel
theorem dX9_init_230 : decode cX9_init 230 = .ok (.sipush 176, 3) := by decide +kernel
theorem dX9_init_233 : decode cX9_init 233 = .ok (.newarray .int, 2) := by decide +kernel
theorem dX9_init_235 : decode cX9_init 235 = .ok (.putfield 98, 3) := by decide +kernel
theorem dX9_init_238 : decode cX9_init 238 = .ok (.aload_n 0, 1) := by decide +kernel
theorem dX9_init_239 : decode cX9_init 239 = .ok (.sipush 176, 3) := by decide +kernel
theorem dX9_init_242 : decode cX9_init 242 = .ok (.newarray .boolean, 2) := by decide +kernel
theorem dX9_init_244 : decode cX9_init 244 = .ok (.putfield 101, 3) := by decide +kernel
theorem dX9_init_247 : decode cX9_init 247 = .ok (.aload_n 0, 1) := by decide +kernel
theorem dX9_init_248 : decode cX9_init 248 = .ok (.bipush 8, 2) := by decide +kernel
theorem dX9_init_250 : decode cX9_init 250 = .ok (.newarray .int, 2) := by decide +kernel
theorem dX9_init_252 : decode cX9_init 252 = .ok (.putfield 104, 3) := by decide +kernel
theorem dX9_init_255 : decode cX9_init 255 = .ok (.aload_n 0, 1) := by decide +kernel
theorem dX9_init_256 : decode cX9_init 256 = .ok (.bipush 8, 2) := by decide +kernel
theorem dX9_init_258 : decode cX9_init 258 = .ok (.newarray .int, 2) := by decide +kernel
theorem dX9_init_260 : decode cX9_init 260 = .ok (.putfield 107, 3) := by decide +kernel
theorem dX9_init_263 : decode cX9_init 263 = .ok (.aload_n 0, 1) := by decide +kernel
theorem dX9_init_264 : decode cX9_init 264 = .ok (.bipush 8, 2) := by decide +kernel
theorem dX9_init_266 : decode cX9_init 266 = .ok (.newarray .int, 2) := by decide +kernel
theorem dX9_init_268 : decode cX9_init 268 = .ok (.putfield 110, 3) := by decide +kernel
theorem dX9_init_271 : decode cX9_init 271 = .ok (.aload_n 0, 1) := by decide +kernel
theorem dX9_init_272 : decode cX9_init 272 = .ok (.bipush 16, 2) := by decide +kernel
theorem dX9_init_274 : decode cX9_init 274 = .ok (.newarray .boolean, 2) := by decide +kernel
theorem dX9_init_276 : decode cX9_init 276 = .ok (.putfield 113, 3) := by decide +kernel
theorem dX9_init_279 : decode cX9_init 279 = .ok (.aload_n 0, 1) := by decide +kernel
theorem dX9_init_280 : decode cX9_init 280 = .ok (.bipush 16, 2) := by decide +kernel
theorem dX9_init_282 : decode cX9_init 282 = .ok (.newarray .int, 2) := by decide +kernel
theorem dX9_init_284 : decode cX9_init 284 = .ok (.putfield 116, 3) := by decide +kernel
theorem dX9_init_287 : decode cX9_init 287 = .ok (.aload_n 0, 1) := by decide +kernel
theorem dX9_init_288 : decode cX9_init 288 = .ok (.bipush 16, 2) := by decide +kernel
theorem dX9_init_290 : decode cX9_init 290 = .ok (.newarray .int, 2) := by decide +kernel
theorem dX9_init_292 : decode cX9_init 292 = .ok (.putfield 119, 3) := by decide +kernel
theorem dX9_init_295 : decode cX9_init 295 = .ok (.aload_n 0, 1) := by decide +kernel
theorem dX9_init_296 : decode cX9_init 296 = .ok (.bipush 16, 2) := by decide +kernel
theorem dX9_init_298 : decode cX9_init 298 = .ok (.newarray .int, 2) := by decide +kernel
theorem dX9_init_300 : decode cX9_init 300 = .ok (.putfield 122, 3) := by decide +kernel
theorem dX9_init_303 : decode cX9_init 303 = .ok (.aload_n 0, 1) := by decide +kernel
theorem dX9_init_304 : decode cX9_init 304 = .ok (.bipush 16, 2) := by decide +kernel
theorem dX9_init_306 : decode cX9_init 306 = .ok (.newarray .int, 2) := by decide +kernel
theorem dX9_init_308 : decode cX9_init 308 = .ok (.putfield 125, 3) := by decide +kernel
theorem dX9_init_311 : decode cX9_init 311 = .ok (.aload_n 0, 1) := by decide +kernel
theorem dX9_init_312 : decode cX9_init 312 = .ok (.bipush 16, 2) := by decide +kernel
theorem dX9_init_314 : decode cX9_init 314 = .ok (.newarray .int, 2) := by decide +kernel
theorem dX9_init_316 : decode cX9_init 316 = .ok (.putfield 128, 3) := by decide +kernel
theorem dX9_init_319 : decode cX9_init 319 = .ok (.aload_n 0, 1) := by decide +kernel
theorem dX9_init_320 : decode cX9_init 320 = .ok (.bipush 8, 2) := by decide +kernel
theorem dX9_init_322 : decode cX9_init 322 = .ok (.newarray .int, 2) := by decide +kernel
theorem dX9_init_324 : decode cX9_init 324 = .ok (.putfield 131, 3) := by decide +kernel
theorem dX9_init_327 : decode cX9_init 327 = .ok (.aload_n 0, 1) := by decide +kernel
theorem dX9_init_328 : decode cX9_init 328 = .ok (.bipush 8, 2) := by decide +kernel
theorem dX9_init_330 : decode cX9_init 330 = .ok (.newarray .int, 2) := by decide +kernel
theorem dX9_init_332 : decode cX9_init 332 = .ok (.putfield 134, 3) := by decide +kernel
theorem dX9_init_335 : decode cX9_init 335 = .ok (.aload_n 0, 1) := by decide +kernel
theorem dX9_init_336 : decode cX9_init 336 = .ok (.bipush 16, 2) := by decide +kernel
theorem dX9_init_338 : decode cX9_init 338 = .ok (.newarray .int, 2) := by decide +kernel
theorem dX9_init_340 : decode cX9_init 340 = .ok (.putfield 137, 3) := by decide +kernel
theorem dX9_init_343 : decode cX9_init 343 = .ok (.aload_n 0, 1) := by decide +kernel
theorem dX9_init_344 : decode cX9_init 344 = .ok (.iconst 5, 1) := by decide +kernel
theorem dX9_init_345 : decode cX9_init 345 = .ok (.newarray .int, 2) := by decide +kernel
theorem dX9_init_347 : decode cX9_init 347 = .ok (.putfield 140, 3) := by decide +kernel
theorem dX9_init_350 : decode cX9_init 350 = .ok (.aload_n 0, 1) := by decide +kernel
theorem dX9_init_351 : decode cX9_init 351 = .ok (.sipush 16384, 3) := by decide +kernel
theorem dX9_init_354 : decode cX9_init 354 = .ok (.newarray .boolean, 2) := by decide +kernel
theorem dX9_init_356 : decode cX9_init 356 = .ok (.putfield 143, 3) := by decide +kernel
theorem dX9_init_359 : decode cX9_init 359 = .ok (.aload_n 0, 1) := by decide +kernel
theorem dX9_init_360 : decode cX9_init 360 = .ok (.iconst 4, 1) := by decide +kernel
theorem dX9_init_361 : decode cX9_init 361 = .ok (.newarray .int, 2) := by decide +kernel
theorem dX9_init_363 : decode cX9_init 363 = .ok (.putfield 146, 3) := by decide +kernel
theorem dX9_init_366 : decode cX9_init 366 = .ok (.aload_n 0, 1) := by decide +kernel
theorem dX9_init_367 : decode cX9_init 367 = .ok (.iconst 4, 1) := by decide +kernel
theorem dX9_init_368 : decode cX9_init 368 = .ok (.newarray .int, 2) := by decide +kernel
theorem dX9_init_370 : decode cX9_init 370 = .ok (.putfield 149, 3) := by decide +kernel
theorem dX9_init_373 : decode cX9_init 373 = .ok (.aload_n 0, 1) := by decide +kernel
theorem dX9_init_374 : decode cX9_init 374 = .ok (.bipush 6, 2) := by decide +kernel
theorem dX9_init_376 : decode cX9_init 376 = .ok (.newarray .int, 2) := by decide +kernel
theorem dX9_init_378 : decode cX9_init 378 = .ok (.putfield 152, 3) := by decide +kernel
theorem dX9_init_381 : decode cX9_init 381 = .ok (.aload_n 0, 1) := by decide +kernel
theorem dX9_init_382 : decode cX9_init 382 = .ok (.bipush 36, 2) := by decide +kernel
theorem dX9_init_384 : decode cX9_init 384 = .ok (.newarray .int, 2) := by decide +kernel
theorem dX9_init_386 : decode cX9_init 386 = .ok (.putfield 155, 3) := by decide +kernel
theorem dX9_init_389 : decode cX9_init 389 = .ok (.aload_n 0, 1) := by decide +kernel
theorem dX9_init_390 : decode cX9_init 390 = .ok (.bipush 40, 2) := by decide +kernel
theorem dX9_init_392 : decode cX9_init 392 = .ok (.newarray .int, 2) := by decide +kernel
theorem dX9_init_394 : decode cX9_init 394 = .ok (.putfield 158, 3) := by decide +kernel
theorem dX9_init_397 : decode cX9_init 397 = .ok (.aload_n 0, 1) := by decide +kernel
theorem dX9_init_398 : decode cX9_init 398 = .ok (.bipush 40, 2) := by decide +kernel
theorem dX9_init_400 : decode cX9_init 400 = .ok (.newarray .int, 2) := by decide +kernel
theorem dX9_init_402 : decode cX9_init 402 = .ok (.putfield 161, 3) := by decide +kernel
theorem dX9_init_405 : decode cX9_init 405 = .ok (.aload_n 0, 1) := by decide +kernel
theorem dX9_init_406 : decode cX9_init 406 = .ok (.bipush 108, 2) := by decide +kernel
theorem dX9_init_408 : decode cX9_init 408 = .ok (.newarray .int, 2) := by decide +kernel
theorem dX9_init_410 : decode cX9_init 410 = .ok (.putfield 164, 3) := by decide +kernel
theorem dX9_init_413 : decode cX9_init 413 = .ok (.aload_n 0, 1) := by decide +kernel
theorem dX9_init_414 : decode cX9_init 414 = .ok (.bipush 108, 2) := by decide +kernel
theorem dX9_init_416 : decode cX9_init 416 = .ok (.newarray .int, 2) := by decide +kernel
theorem dX9_init_418 : decode cX9_init 418 = .ok (.putfield 167, 3) := by decide +kernel
theorem dX9_init_421 : decode cX9_init 421 = .ok (.aload_n 0, 1) := by decide +kernel
theorem dX9_init_422 : decode cX9_init 422 = .ok (.bipush 108, 2) := by decide +kernel
theorem dX9_init_424 : decode cX9_init 424 = .ok (.newarray .long, 2) := by decide +kernel
theorem dX9_init_426 : decode cX9_init 426 = .ok (.putfield 170, 3) := by decide +kernel
theorem dX9_init_429 : decode cX9_init 429 = .ok (.aload_n 0, 1) := by decide +kernel
theorem dX9_init_430 : decode cX9_init 430 = .ok (.bipush 36, 2) := by decide +kernel
theorem dX9_init_432 : decode cX9_init 432 = .ok (.newarray .int, 2) := by decide +kernel
theorem dX9_init_434 : decode cX9_init 434 = .ok (.putfield 173, 3) := by decide +kernel
theorem dX9_init_437 : decode cX9_init 437 = .ok (.aload_n 0, 1) := by decide +kernel
theorem dX9_init_438 : decode cX9_init 438 = .ok (.bipush 36, 2) := by decide +kernel
theorem dX9_init_440 : decode cX9_init 440 = .ok (.newarray .int, 2) := by decide +kernel
theorem dX9_init_442 : decode cX9_init 442 = .ok (.putfield 176, 3) := by decide +kernel
theorem dX9_init_445 : decode cX9_init 445 = .ok (.aload_n 0, 1) := by decide +kernel
theorem dX9_init_446 : decode cX9_init 446 = .ok (.bipush 36, 2) := by decide +kernel
theorem dX9_init_448 : decode cX9_init 448 = .ok (.newarray .int, 2) := by decide +kernel
theorem dX9_init_450 : decode cX9_init 450 = .ok (.putfield 179, 3) := by decide +kernel
theorem dX9_init_453 : decode cX9_init 453 = .ok (.aload_n 0, 1) := by decide +kernel
theorem dX9_init_454 : decode cX9_init 454 = .ok (.bipush 36, 2) := by decide +kernel
theorem dX9_init_456 : decode cX9_init 456 = .ok (.newarray .int, 2) := by decide +kernel
theorem dX9_init_458 : decode cX9_init 458 = .ok (.putfield 182, 3) := by decide +kernel
theorem dX9_init_461 : decode cX9_init 461 = .ok (.aload_n 0, 1) := by decide +kernel
theorem dX9_init_462 : decode cX9_init 462 = .ok (.getfield 34, 3) := by decide +kernel
theorem dX9_init_465 : decode cX9_init 465 = .ok (.iconst 0, 1) := by decide +kernel
theorem dX9_init_466 : decode cX9_init 466 = .ok (.bipush 104, 2) := by decide +kernel
theorem dX9_init_468 : decode cX9_init 468 = .ok (.bipush 97, 2) := by decide +kernel
theorem dX9_init_470 : decode cX9_init 470 = .ok (.bipush 114, 2) := by decide +kernel
theorem dX9_init_472 : decode cX9_init 472 = .ok (.bipush 109, 2) := by decide +kernel
theorem dX9_init_474 : decode cX9_init 474 = .ok (.iconst 0, 1) := by decide +kernel
theorem dX9_init_475 : decode cX9_init 475 = .ok (.iconst 0, 1) := by decide +kernel
theorem dX9_init_476 : decode cX9_init 476 = .ok (.iconst 0, 1) := by decide +kernel
theorem dX9_init_477 : decode cX9_init 477 = .ok (.invokestatic 185, 3) := by decide +kernel
theorem dX9_init_480 : decode cX9_init 480 = .ok (.lastore, 1) := by decide +kernel
theorem dX9_init_481 : decode cX9_init 481 = .ok (.aload_n 0, 1) := by decide +kernel
theorem dX9_init_482 : decode cX9_init 482 = .ok (.getfield 34, 3) := by decide +kernel
theorem dX9_init_485 : decode cX9_init 485 = .ok (.iconst 1, 1) := by decide +kernel
theorem dX9_init_486 : decode cX9_init 486 = .ok (.bipush 105, 2) := by decide +kernel
theorem dX9_init_488 : decode cX9_init 488 = .ok (.bipush 102, 2) := by decide +kernel
theorem dX9_init_490 : decode cX9_init 490 = .ok (.iconst 0, 1) := by decide +kernel
theorem dX9_init_491 : decode cX9_init 491 = .ok (.iconst 0, 1) := by decide +kernel
theorem dX9_init_492 : decode cX9_init 492 = .ok (.iconst 0, 1) := by decide +kernel
theorem dX9_init_493 : decode cX9_init 493 = .ok (.iconst 0, 1) := by decide +kernel
theorem dX9_init_494 : decode cX9_init 494 = .ok (.iconst 0, 1) := by decide +kernel
theorem dX9_init_495 : decode cX9_init 495 = .ok (.invokestatic 185, 3) := by decide +kernel
theorem dX9_init_498 : decode cX9_init 498 = .ok (.lastore, 1) := by decide +kernel
theorem dX9_init_499 : decode cX9_init 499 = .ok (.aload_n 0, 1) := by decide +kernel
theorem dX9_init_500 : decode cX9_init 500 = .ok (.getfield 34, 3) := by decide +kernel
theorem dX9_init_503 : decode cX9_init 503 = .ok (.iconst 2, 1) := by decide +kernel
theorem dX9_init_504 : decode cX9_init 504 = .ok (.bipush 99, 2) := by decide +kernel
theorem dX9_init_506 : decode cX9_init 506 = .ok (.bipush 117, 2) := by decide +kernel
theorem dX9_init_508 : decode cX9_init 508 = .ok (.bipush 116, 2) := by decide +kernel
theorem dX9_init_510 : decode cX9_init 510 = .ok (.iconst 0, 1) := by decide +kernel
theorem dX9_init_511 : decode cX9_init 511 = .ok (.iconst 0, 1) := by decide +kernel
theorem dX9_init_512 : decode cX9_init 512 = .ok (.iconst 0, 1) := by decide +kernel
theorem dX9_init_513 : decode cX9_init 513 = .ok (.iconst 0, 1) := by decide +kernel
theorem dX9_init_514 : decode cX9_init 514 = .ok (.invokestatic 185, 3) := by decide +kernel
theorem dX9_init_517 : decode cX9_init 517 = .ok (.lastore, 1) := by decide +kernel
theorem dX9_init_518 : decode cX9_init 518 = .ok (.aload_n 0, 1) := by decide +kernel
theorem dX9_init_519 : decode cX9_init 519 = .ok (.getfield 34, 3) := by decide +kernel
theorem dX9_init_522 : decode cX9_init 522 = .ok (.iconst 3, 1) := by decide +kernel
theorem dX9_init_523 : decode cX9_init 523 = .ok (.bipush 116, 2) := by decide +kernel
theorem dX9_init_525 : decode cX9_init 525 = .ok (.bipush 114, 2) := by decide +kernel
theorem dX9_init_527 : decode cX9_init 527 = .ok (.bipush 105, 2) := by decide +kernel
theorem dX9_init_529 : decode cX9_init 529 = .ok (.bipush 99, 2) := by decide +kernel
theorem dX9_init_531 : decode cX9_init 531 = .ok (.bipush 107, 2) := by decide +kernel
theorem dX9_init_533 : decode cX9_init 533 = .ok (.iconst 0, 1) := by decide +kernel
theorem dX9_init_534 : decode cX9_init 534 = .ok (.iconst 0, 1) := by decide +kernel
theorem dX9_init_535 : decode cX9_init 535 = .ok (.invokestatic 185, 3) := by decide +kernel
theorem dX9_init_538 : decode cX9_init 538 = .ok (.lastore, 1) := by decide +kernel
theorem dX9_init_539 : decode cX9_init 539 = .ok (.aload_n 0, 1) := by decide +kernel
theorem dX9_init_540 : decode cX9_init 540 = .ok (.getfield 34, 3) := by decide +kernel
theorem dX9_init_543 : decode cX9_init 543 = .ok (.iconst 4, 1) := by decide +kernel
theorem dX9_init_544 : decode cX9_init 544 = .ok (.bipush 112, 2) := by decide +kernel
theorem dX9_init_546 : decode cX9_init 546 = .ok (.bipush 101, 2) := by decide +kernel
theorem dX9_init_548 : decode cX9_init 548 = .ok (.bipush 101, 2) := by decide +kernel
theorem dX9_init_550 : decode cX9_init 550 = .ok (.bipush 112, 2) := by decide +kernel
theorem dX9_init_552 : decode cX9_init 552 = .ok (.iconst 0, 1) := by decide +kernel
theorem dX9_init_553 : decode cX9_init 553 = .ok (.iconst 0, 1) := by decide +kernel
theorem dX9_init_554 : decode cX9_init 554 = .ok (.iconst 0, 1) := by decide +kernel
theorem dX9_init_555 : decode cX9_init 555 = .ok (.invokestatic 185, 3) := by decide +kernel
theorem dX9_init_558 : decode cX9_init 558 = .ok (.lastore, 1) := by decide +kernel
theorem dX9_init_559 : decode cX9_init 559 = .ok (.aload_n 0, 1) := by decide +kernel
theorem dX9_init_560 : decode cX9_init 560 = .ok (.getfield 34, 3) := by decide +kernel
theorem dX9_init_563 : decode cX9_init 563 = .ok (.iconst 5, 1) := by decide +kernel
theorem dX9_init_564 : decode cX9_init 564 = .ok (.bipush 111, 2) := by decide +kernel
theorem dX9_init_566 : decode cX9_init 566 = .ok (.bipush 112, 2) := by decide +kernel
theorem dX9_init_568 : decode cX9_init 568 = .ok (.bipush 101, 2) := by decide +kernel
theorem dX9_init_570 : decode cX9_init 570 = .ok (.bipush 110, 2) := by decide +kernel
theorem dX9_init_572 : decode cX9_init 572 = .ok (.bipush 115, 2) := by decide +kernel
theorem dX9_init_574 : decode cX9_init 574 = .ok (.iconst 0, 1) := by decide +kernel
theorem dX9_init_575 : decode cX9_init 575 = .ok (.iconst 0, 1) := by decide +kernel
theorem dX9_init_576 : decode cX9_init 576 = .ok (.invokestatic 185, 3) := by decide +kernel
theorem dX9_init_579 : decode cX9_init 579 = .ok (.lastore, 1) := by decide +kernel
theorem dX9_init_580 : decode cX9_init 580 = .ok (.aload_n 0, 1) := by decide +kernel
theorem dX9_init_581 : decode cX9_init 581 = .ok (.getfield 34, 3) := by decide +kernel
theorem dX9_init_584 : decode cX9_init 584 = .ok (.bipush 6, 2) := by decide +kernel
theorem dX9_init_586 : decode cX9_init 586 = .ok (.bipush 100, 2) := by decide +kernel
theorem dX9_init_588 : decode cX9_init 588 = .ok (.bipush 111, 2) := by decide +kernel
theorem dX9_init_590 : decode cX9_init 590 = .ok (.bipush 117, 2) := by decide +kernel
theorem dX9_init_592 : decode cX9_init 592 = .ok (.bipush 98, 2) := by decide +kernel
theorem dX9_init_594 : decode cX9_init 594 = .ok (.bipush 116, 2) := by decide +kernel
theorem dX9_init_596 : decode cX9_init 596 = .ok (.iconst 0, 1) := by decide +kernel
theorem dX9_init_597 : decode cX9_init 597 = .ok (.iconst 0, 1) := by decide +kernel
theorem dX9_init_598 : decode cX9_init 598 = .ok (.invokestatic 185, 3) := by decide +kernel
theorem dX9_init_601 : decode cX9_init 601 = .ok (.lastore, 1) := by decide +kernel
theorem dX9_init_602 : decode cX9_init 602 = .ok (.aload_n 0, 1) := by decide +kernel
theorem dX9_init_603 : decode cX9_init 603 = .ok (.getfield 34, 3) := by decide +kernel
theorem dX9_init_606 : decode cX9_init 606 = .ok (.bipush 7, 2) := by decide +kernel
theorem dX9_init_608 : decode cX9_init 608 = .ok (.bipush 111, 2) := by decide +kernel
theorem dX9_init_610 : decode cX9_init 610 = .ok (.bipush 114, 2) := by decide +kernel
theorem dX9_init_612 : decode cX9_init 612 = .ok (.iconst 0, 1) := by decide +kernel
theorem dX9_init_613 : decode cX9_init 613 = .ok (.iconst 0, 1) := by decide +kernel
theorem dX9_init_614 : decode cX9_init 614 = .ok (.iconst 0, 1) := by decide +kernel
theorem dX9_init_615 : decode cX9_init 615 = .ok (.iconst 0, 1) := by decide +kernel
theorem dX9_init_616 : decode cX9_init 616 = .ok (.iconst 0, 1) := by decide +kernel
theorem dX9_init_617 : decode cX9_init 617 = .ok (.invokestatic 185, 3) := by decide +kernel
theorem dX9_init_620 : decode cX9_init 620 = .ok (.lastore, 1) := by decide +kernel
theorem dX9_init_621 : decode cX9_init 621 = .ok (.aload_n 0, 1) := by decide +kernel
theorem dX9_init_622 : decode cX9_init 622 = .ok (.getfield 34, 3) := by decide +kernel
theorem dX9_init_625 : decode cX9_init 625 = .ok (.bipush 8, 2) := by decide +kernel
theorem dX9_init_627 : decode cX9_init 627 = .ok (.bipush 97, 2) := by decide +kernel
theorem dX9_init_629 : decode cX9_init 629 = .ok (.bipush 110, 2) := by decide +kernel
theorem dX9_init_631 : decode cX9_init 631 = .ok (.bipush 100, 2) := by decide +kernel
theorem dX9_init_633 : decode cX9_init 633 = .ok (.iconst 0, 1) := by decide +kernel
theorem dX9_init_634 : decode cX9_init 634 = .ok (.iconst 0, 1) := by decide +kernel
theorem dX9_init_635 : decode cX9_init 635 = .ok (.iconst 0, 1) := by decide +kernel
theorem dX9_init_636 : decode cX9_init 636 = .ok (.iconst 0, 1) := by decide +kernel
theorem dX9_init_637 : decode cX9_init 637 = .ok (.invokestatic 185, 3) := by decide +kernel
theorem dX9_init_640 : decode cX9_init 640 = .ok (.lastore, 1) := by decide +kernel
theorem dX9_init_641 : decode cX9_init 641 = .ok (.aload_n 0, 1) := by decide +kernel
theorem dX9_init_642 : decode cX9_init 642 = .ok (.getfield 34, 3) := by decide +kernel
theorem dX9_init_645 : decode cX9_init 645 = .ok (.bipush 9, 2) := by decide +kernel
theorem dX9_init_647 : decode cX9_init 647 = .ok (.bipush 107, 2) := by decide +kernel
theorem dX9_init_649 : decode cX9_init 649 = .ok (.bipush 105, 2) := by decide +kernel
theorem dX9_init_651 : decode cX9_init 651 = .ok (.bipush 110, 2) := by decide +kernel
theorem dX9_init_653 : decode cX9_init 653 = .ok (.bipush 100, 2) := by decide +kernel
theorem dX9_init_655 : decode cX9_init 655 = .ok (.iconst 0, 1) := by decide +kernel
theorem dX9_init_656 : decode cX9_init 656 = .ok (.iconst 0, 1) := by decide +kernel
theorem dX9_init_657 : decode cX9_init 657 = .ok (.iconst 0, 1) := by decide +kernel
theorem dX9_init_658 : decode cX9_init 658 = .ok (.invokestatic 185, 3) := by decide +kernel
theorem dX9_init_661 : decode cX9_init 661 = .ok (.lastore, 1) := by decide +kernel
theorem dX9_init_662 : decode cX9_init 662 = .ok (.aload_n 0, 1) := by decide +kernel
theorem dX9_init_663 : decode cX9_init 663 = .ok (.getfield 34, 3) := by decide +kernel
theorem dX9_init_666 : decode cX9_init 666 = .ok (.bipush 10, 2) := by decide +kernel
theorem dX9_init_668 : decode cX9_init 668 = .ok (.bipush 108, 2) := by decide +kernel
theorem dX9_init_670 : decode cX9_init 670 = .ok (.bipush 97, 2) := by decide +kernel
theorem dX9_init_672 : decode cX9_init 672 = .ok (.bipush 121, 2) := by decide +kernel
theorem dX9_init_674 : decode cX9_init 674 = .ok (.bipush 101, 2) := by decide +kernel
theorem dX9_init_676 : decode cX9_init 676 = .ok (.bipush 114, 2) := by decide +kernel
theorem dX9_init_678 : decode cX9_init 678 = .ok (.bipush 115, 2) := by decide +kernel
theorem dX9_init_680 : decode cX9_init 680 = .ok (.iconst 0, 1) := by decide +kernel
theorem dX9_init_681 : decode cX9_init 681 = .ok (.invokestatic 185, 3) := by decide +kernel
theorem dX9_init_684 : decode cX9_init 684 = .ok (.lastore, 1) := by decide +kernel
theorem dX9_init_685 : decode cX9_init 685 = .ok (.aload_n 0, 1) := by decide +kernel
theorem dX9_init_686 : decode cX9_init 686 = .ok (.getfield 34, 3) := by decide +kernel
theorem dX9_init_689 : decode cX9_init 689 = .ok (.bipush 11, 2) := by decide +kernel
theorem dX9_init_691 : decode cX9_init 691 = .ok (.bipush 99, 2) := by decide +kernel
theorem dX9_init_693 : decode cX9_init 693 = .ok (.bipush 111, 2) := by decide +kernel
theorem dX9_init_695 : decode cX9_init 695 = .ok (.bipush 108, 2) := by decide +kernel
theorem dX9_init_697 : decode cX9_init 697 = .ok (.bipush 117, 2) := by decide +kernel
theorem dX9_init_699 : decode cX9_init 699 = .ok (.bipush 109, 2) := by decide +kernel
theorem dX9_init_701 : decode cX9_init 701 = .ok (.bipush 110, 2) := by decide +kernel
theorem dX9_init_703 : decode cX9_init 703 = .ok (.iconst 0, 1) := by decide +kernel
theorem dX9_init_704 : decode cX9_init 704 = .ok (.invokestatic 185, 3) := by decide +kernel
theorem dX9_init_707 : decode cX9_init 707 = .ok (.lastore, 1) := by decide +kernel
theorem dX9_init_708 : decode cX9_init 708 = .ok (.aload_n 0, 1) := by decide +kernel
theorem dX9_init_709 : decode cX9_init 709 = .ok (.getfield 34, 3) := by decide +kernel
theorem dX9_init_712 : decode cX9_init 712 = .ok (.bipush 12, 2) := by decide +kernel
theorem dX9_init_714 : decode cX9_init 714 = .ok (.bipush 110, 2) := by decide +kernel
theorem dX9_init_716 : decode cX9_init 716 = .ok (.bipush 117, 2) := by decide +kernel
theorem dX9_init_718 : decode cX9_init 718 = .ok (.bipush 109, 2) := by decide +kernel
theorem dX9_init_720 : decode cX9_init 720 = .ok (.bipush 98, 2) := by decide +kernel
theorem dX9_init_722 : decode cX9_init 722 = .ok (.bipush 101, 2) := by decide +kernel
theorem dX9_init_724 : decode cX9_init 724 = .ok (.bipush 114, 2) := by decide +kernel
theorem dX9_init_726 : decode cX9_init 726 = .ok (.iconst 0, 1) := by decide +kernel
theorem dX9_init_727 : decode cX9_init 727 = .ok (.invokestatic 185, 3) := by decide +kernel
theorem dX9_init_730 : decode cX9_init 730 = .ok (.lastore, 1) := by decide +kernel
theorem dX9_init_731 : decode cX9_init 731 = .ok (.aload_n 0, 1) := by decide +kernel
theorem dX9_init_732 : decode cX9_init 732 = .ok (.getfield 34, 3) := by decide +kernel
theorem dX9_init_735 : decode cX9_init 735 = .ok (.bipush 13, 2) := by decide +kernel
theorem dX9_init_737 : decode cX9_init 737 = .ok (.bipush 98, 2) := by decide +kernel
theorem dX9_init_739 : decode cX9_init 739 = .ok (.bipush 101, 2) := by decide +kernel
theorem dX9_init_741 : decode cX9_init 741 = .ok (.bipush 108, 2) := by decide +kernel
theorem dX9_init_743 : decode cX9_init 743 = .ok (.bipush 111, 2) := by decide +kernel
theorem dX9_init_745 : decode cX9_init 745 = .ok (.bipush 119, 2) := by decide +kernel
theorem dX9_init_747 : decode cX9_init 747 = .ok (.iconst 0, 1) := by decide +kernel
theorem dX9_init_748 : decode cX9_init 748 = .ok (.iconst 0, 1) := by decide +kernel
theorem dX9_init_749 : decode cX9_init 749 = .ok (.invokestatic 185, 3) := by decide +kernel
theorem dX9_init_752 : decode cX9_init 752 = .ok (.lastore, 1) := by decide +kernel
theorem dX9_init_753 : decode cX9_init 753 = .ok (.aload_n 0, 1) := by decide +kernel
theorem dX9_init_754 : decode cX9_init 754 = .ok (.iconst 4, 1) := by decide +kernel
theorem dX9_init_755 : decode cX9_init 755 = .ok (.putfield 189, 3) := by decide +kernel
theorem dX9_init_758 : decode cX9_init 758 = .ok (.aload_n 0, 1) := by decide +kernel
theorem dX9_init_759 : decode cX9_init 759 = .ok (.iconst 0, 1) := by decide +kernel
theorem dX9_init_760 : decode cX9_init 760 = .ok (.invokevirtual 192, 3) := by decide +kernel
theorem dX9_init_763 : decode cX9_init 763 = .ok (.aload_n 0, 1) := by decide +kernel
theorem dX9_init_764 : decode cX9_init 764 = .ok (.invokevirtual 196, 3) := by decide +kernel
theorem dX9_init_767 : decode cX9_init 767 = .ok (.return_, 1) := by decide +kernel
theorem dX9_feed_0 : decode cX9_feed 0 = .ok (.aload_n 0, 1) := by decide +kernel
theorem dX9_feed_1 : decode cX9_feed 1 = .ok (.getfield 199, 3) := by decide +kernel
theorem dX9_feed_4 : decode cX9_feed 4 = .ok (.bipush 20, 2) := by decide +kernel
theorem dX9_feed_6 : decode cX9_feed 6 = .ok (.iadd, 1) := by decide +kernel
theorem dX9_feed_7 : decode cX9_feed 7 = .ok (.sipush 2000, 3) := by decide +kernel
theorem dX9_feed_10 : decode cX9_feed 10 = .ok (.if_icmp .le 5, 3) := by decide +kernel
theorem dX9_feed_13 : decode cX9_feed 13 = .ok (.iconst (-1), 1) := by decide +kernel
theorem dX9_feed_14 : decode cX9_feed 14 = .ok (.ireturn, 1) := by decide +kernel
theorem dX9_feed_15 : decode cX9_feed 15 = .ok (.aload_n 0, 1) := by decide +kernel
theorem dX9_feed_16 : decode cX9_feed 16 = .ok (.iload_n 1, 1) := by decide +kernel
theorem dX9_feed_17 : decode cX9_feed 17 = .ok (.invokevirtual 202, 3) := by decide +kernel
theorem dX9_feed_20 : decode cX9_feed 20 = .ok (.aload_n 0, 1) := by decide +kernel
theorem dX9_feed_21 : decode cX9_feed 21 = .ok (.iload_n 2, 1) := by decide +kernel
theorem dX9_feed_22 : decode cX9_feed 22 = .ok (.invokevirtual 202, 3) := by decide +kernel
theorem dX9_feed_25 : decode cX9_feed 25 = .ok (.aload_n 0, 1) := by decide +kernel
theorem dX9_feed_26 : decode cX9_feed 26 = .ok (.iload_n 3, 1) := by decide +kernel
theorem dX9_feed_27 : decode cX9_feed 27 = .ok (.invokevirtual 202, 3) := by decide +kernel
theorem dX9_feed_30 : decode cX9_feed 30 = .ok (.aload_n 0, 1) := by decide +kernel
theorem dX9_feed_31 : decode cX9_feed 31 = .ok (.iload 4, 2) := by decide +kernel
theorem dX9_feed_33 : decode cX9_feed 33 = .ok (.invokevirtual 202, 3) := by decide +kernel
theorem dX9_feed_36 : decode cX9_feed 36 = .ok (.aload_n 0, 1) := by decide +kernel
theorem dX9_feed_37 : decode cX9_feed 37 = .ok (.iload 5, 2) := by decide +kernel
theorem dX9_feed_39 : decode cX9_feed 39 = .ok (.invokevirtual 202, 3) := by decide +kernel
theorem dX9_feed_42 : decode cX9_feed 42 = .ok (.aload_n 0, 1) := by decide +kernel
theorem dX9_feed_43 : decode cX9_feed 43 = .ok (.getfield 199, 3) := by decide +kernel
theorem dX9_feed_46 : decode cX9_feed 46 = .ok (.ireturn, 1) := by decide +kernel
theorem dX9_put_0 : decode cX9_put 0 = .ok (.bipush 24, 2) := by decide +kernel
theorem dX9_put_2 : decode cX9_put 2 = .ok (.istore_n 2, 1) := by decide +kernel
theorem dX9_put_3 : decode cX9_put 3 = .ok (.iload_n 2, 1) := by decide +kernel
theorem dX9_put_4 : decode cX9_put 4 = .ok (.ifCond .lt 32, 3) := by decide +kernel
theorem dX9_put_7 : decode cX9_put 7 = .ok (.aload_n 0, 1) := by decide +kernel
theorem dX9_put_8 : decode cX9_put 8 = .ok (.getfield 13, 3) := by decide +kernel
theorem dX9_put_11 : decode cX9_put 11 = .ok (.aload_n 0, 1) := by decide +kernel
theorem dX9_put_12 : decode cX9_put 12 = .ok (.getfield 199, 3) := by decide +kernel
theorem dX9_put_15 : decode cX9_put 15 = .ok (.iload_n 1, 1) := by decide +kernel
theorem dX9_put_16 : decode cX9_put 16 = .ok (.iload_n 2, 1) := by decide +kernel
theorem dX9_put_17 : decode cX9_put 17 = .ok (.ishr, 1) := by decide +kernel
theorem dX9_put_18 : decode cX9_put 18 = .ok (.i2b, 1) := by decide +kernel
theorem dX9_put_19 : decode cX9_put 19 = .ok (.bastore, 1) := by decide +kernel
theorem dX9_put_20 : decode cX9_put 20 = .ok (.aload_n 0, 1) := by decide +kernel
theorem dX9_put_21 : decode cX9_put 21 = .ok (.dup, 1) := by decide +kernel
theorem dX9_put_22 : decode cX9_put 22 = .ok (.getfield 199, 3) := by decide +kernel
theorem dX9_put_25 : decode cX9_put 25 = .ok (.iconst 1, 1) := by decide +kernel
theorem dX9_put_26 : decode cX9_put 26 = .ok (.iadd, 1) := by decide +kernel
theorem dX9_put_27 : decode cX9_put 27 = .ok (.putfield 199, 3) := by decide +kernel
theorem dX9_put_30 : decode cX9_put 30 = .ok (.iinc 2 (-8), 3) := by decide +kernel
theorem dX9_put_33 : decode cX9_put 33 = .ok (.goto (-30), 3) := by decide +kernel
theorem dX9_put_36 : decode cX9_put 36 = .ok (.return_, 1) := by decide +kernel
theorem dX9_back_0 : decode cX9_back 0 = .ok (.iload_n 1, 1) := by decide +kernel
theorem dX9_back_1 : decode cX9_back 1 = .ok (.ifCond .lt 11, 3) := by decide +kernel
theorem dX9_back_4 : decode cX9_back 4 = .ok (.iload_n 1, 1) := by decide +kernel
theorem dX9_back_5 : decode cX9_back 5 = .ok (.aload_n 0, 1) := by decide +kernel
theorem dX9_back_6 : decode cX9_back 6 = .ok (.getfield 199, 3) := by decide +kernel
theorem dX9_back_9 : decode cX9_back 9 = .ok (.if_icmp .le 5, 3) := by decide +kernel
theorem dX9_back_12 : decode cX9_back 12 = .ok (.iconst (-1), 1) := by decide +kernel
theorem dX9_back_13 : decode cX9_back 13 = .ok (.ireturn, 1) := by decide +kernel
theorem dX9_back_14 : decode cX9_back 14 = .ok (.aload_n 0, 1) := by decide +kernel
theorem dX9_back_15 : decode cX9_back 15 = .ok (.dup, 1) := by decide +kernel
theorem dX9_back_16 : decode cX9_back 16 = .ok (.getfield 199, 3) := by decide +kernel
theorem dX9_back_19 : decode cX9_back 19 = .ok (.iload_n 1, 1) := by decide +kernel
theorem dX9_back_20 : decode cX9_back 20 = .ok (.isub, 1) := by decide +kernel
theorem dX9_back_21 : decode cX9_back 21 = .ok (.putfield 199, 3) := by decide +kernel
theorem dX9_back_24 : decode cX9_back 24 = .ok (.aload_n 0, 1) := by decide +kernel
theorem dX9_back_25 : decode cX9_back 25 = .ok (.getfield 199, 3) := by decide +kernel
theorem dX9_back_28 : decode cX9_back 28 = .ok (.ireturn, 1) := by decide +kernel
theorem dX9_byteAt_0 : decode cX9_byteAt 0 = .ok (.iload_n 1, 1) := by decide +kernel
theorem dX9_byteAt_1 : decode cX9_byteAt 1 = .ok (.aload_n 0, 1) := by decide +kernel
theorem dX9_byteAt_2 : decode cX9_byteAt 2 = .ok (.getfield 205, 3) := by decide +kernel
theorem dX9_byteAt_5 : decode cX9_byteAt 5 = .ok (.if_icmp .ge 16, 3) := by decide +kernel
theorem dX9_byteAt_8 : decode cX9_byteAt 8 = .ok (.aload_n 0, 1) := by decide +kernel
theorem dX9_byteAt_9 : decode cX9_byteAt 9 = .ok (.getfield 17, 3) := by decide +kernel
theorem dX9_byteAt_12 : decode cX9_byteAt 12 = .ok (.iload_n 1, 1) := by decide +kernel
theorem dX9_byteAt_13 : decode cX9_byteAt 13 = .ok (.baload, 1) := by decide +kernel
theorem dX9_byteAt_14 : decode cX9_byteAt 14 = .ok (.sipush 255, 3) := by decide +kernel
theorem dX9_byteAt_17 : decode cX9_byteAt 17 = .ok (.iand, 1) := by decide +kernel
theorem dX9_byteAt_18 : decode cX9_byteAt 18 = .ok (.goto 4, 3) := by decide +kernel
theorem dX9_byteAt_21 : decode cX9_byteAt 21 = .ok (.iconst 0, 1) := by decide +kernel
theorem dX9_byteAt_22 : decode cX9_byteAt 22 = .ok (.ireturn, 1) := by decide +kernel
theorem dX9_isDigit_0 : decode cX9_isDigit 0 = .ok (.iload_n 0, 1) := by decide +kernel
theorem dX9_isDigit_1 : decode cX9_isDigit 1 = .ok (.bipush 48, 2) := by decide +kernel
theorem dX9_isDigit_3 : decode cX9_isDigit 3 = .ok (.if_icmp .lt 13, 3) := by decide +kernel
theorem dX9_isDigit_6 : decode cX9_isDigit 6 = .ok (.iload_n 0, 1) := by decide +kernel
theorem dX9_isDigit_7 : decode cX9_isDigit 7 = .ok (.bipush 57, 2) := by decide +kernel
theorem dX9_isDigit_9 : decode cX9_isDigit 9 = .ok (.if_icmp .gt 7, 3) := by decide +kernel
theorem dX9_isDigit_12 : decode cX9_isDigit 12 = .ok (.iconst 1, 1) := by decide +kernel
theorem dX9_isDigit_13 : decode cX9_isDigit 13 = .ok (.goto 4, 3) := by decide +kernel
theorem dX9_isDigit_16 : decode cX9_isDigit 16 = .ok (.iconst 0, 1) := by decide +kernel
theorem dX9_isDigit_17 : decode cX9_isDigit 17 = .ok (.ireturn, 1) := by decide +kernel
theorem dX9_isLetter_0 : decode cX9_isLetter 0 = .ok (.iload_n 0, 1) := by decide +kernel
theorem dX9_isLetter_1 : decode cX9_isLetter 1 = .ok (.bipush 97, 2) := by decide +kernel
theorem dX9_isLetter_3 : decode cX9_isLetter 3 = .ok (.if_icmp .lt 13, 3) := by decide +kernel
theorem dX9_isLetter_6 : decode cX9_isLetter 6 = .ok (.iload_n 0, 1) := by decide +kernel
theorem dX9_isLetter_7 : decode cX9_isLetter 7 = .ok (.bipush 122, 2) := by decide +kernel
theorem dX9_isLetter_9 : decode cX9_isLetter 9 = .ok (.if_icmp .gt 7, 3) := by decide +kernel
theorem dX9_isLetter_12 : decode cX9_isLetter 12 = .ok (.iconst 1, 1) := by decide +kernel
theorem dX9_isLetter_13 : decode cX9_isLetter 13 = .ok (.goto 4, 3) := by decide +kernel
theorem dX9_isLetter_16 : decode cX9_isLetter 16 = .ok (.iconst 0, 1) := by decide +kernel
theorem dX9_isLetter_17 : decode cX9_isLetter 17 = .ok (.ireturn, 1) := by decide +kernel
theorem dX9_more_0 : decode cX9_more 0 = .ok (.iload_n 2, 1) := by decide +kernel
theorem dX9_more_1 : decode cX9_more 1 = .ok (.ifCond .ne 7, 3) := by decide +kernel
theorem dX9_more_4 : decode cX9_more 4 = .ok (.lload_n 0, 1) := by decide +kernel
theorem dX9_more_5 : decode cX9_more 5 = .ok (.goto 16, 3) := by decide +kernel
theorem dX9_more_8 : decode cX9_more 8 = .ok (.ldc2_w 208, 3) := by decide +kernel
theorem dX9_more_11 : decode cX9_more 11 = .ok (.lload_n 0, 1) := by decide +kernel
theorem dX9_more_12 : decode cX9_more 12 = .ok (.lmul, 1) := by decide +kernel
theorem dX9_more_13 : decode cX9_more 13 = .ok (.iload_n 2, 1) := by decide +kernel
theorem dX9_more_14 : decode cX9_more 14 = .ok (.bipush 97, 2) := by decide +kernel
theorem dX9_more_16 : decode cX9_more 16 = .ok (.isub, 1) := by decide +kernel
theorem dX9_more_17 : decode cX9_more 17 = .ok (.iconst 1, 1) := by decide +kernel
theorem dX9_more_18 : decode cX9_more 18 = .ok (.iadd, 1) := by decide +kernel
theorem dX9_more_19 : decode cX9_more 19 = .ok (.i2l, 1) := by decide +kernel
theorem dX9_more_20 : decode cX9_more 20 = .ok (.ladd, 1) := by decide +kernel
theorem dX9_more_21 : decode cX9_more 21 = .ok (.lreturn, 1) := by decide +kernel
theorem dX9_word_0 : decode cX9_word 0 = .ok (.lconst 0, 1) := by decide +kernel
theorem dX9_word_1 : decode cX9_word 1 = .ok (.iload_n 0, 1) := by decide +kernel
theorem dX9_word_2 : decode cX9_word 2 = .ok (.invokestatic 210, 3) := by decide +kernel
theorem dX9_word_5 : decode cX9_word 5 = .ok (.iload_n 1, 1) := by decide +kernel
theorem dX9_word_6 : decode cX9_word 6 = .ok (.invokestatic 210, 3) := by decide +kernel
theorem dX9_word_9 : decode cX9_word 9 = .ok (.iload_n 2, 1) := by decide +kernel
theorem dX9_word_10 : decode cX9_word 10 = .ok (.invokestatic 210, 3) := by decide +kernel
theorem dX9_word_13 : decode cX9_word 13 = .ok (.iload_n 3, 1) := by decide +kernel
theorem dX9_word_14 : decode cX9_word 14 = .ok (.invokestatic 210, 3) := by decide +kernel
theorem dX9_word_17 : decode cX9_word 17 = .ok (.iload 4, 2) := by decide +kernel
theorem dX9_word_19 : decode cX9_word 19 = .ok (.invokestatic 210, 3) := by decide +kernel
theorem dX9_word_22 : decode cX9_word 22 = .ok (.iload 5, 2) := by decide +kernel
theorem dX9_word_24 : decode cX9_word 24 = .ok (.invokestatic 210, 3) := by decide +kernel
theorem dX9_word_27 : decode cX9_word 27 = .ok (.iload 6, 2) := by decide +kernel
theorem dX9_word_29 : decode cX9_word 29 = .ok (.invokestatic 210, 3) := by decide +kernel
theorem dX9_word_32 : decode cX9_word 32 = .ok (.lreturn, 1) := by decide +kernel
theorem dX9_tokenIs_0 : decode cX9_tokenIs 0 = .ok (.aload_n 0, 1) := by decide +kernel
theorem dX9_tokenIs_1 : decode cX9_tokenIs 1 = .ok (.getfield 20, 3) := by decide +kernel
theorem dX9_tokenIs_4 : decode cX9_tokenIs 4 = .ok (.aload_n 0, 1) := by decide +kernel
theorem dX9_tokenIs_5 : decode cX9_tokenIs 5 = .ok (.getfield 214, 3) := by decide +kernel
theorem dX9_tokenIs_8 : decode cX9_tokenIs 8 = .ok (.iload_n 1, 1) := by decide +kernel
theorem dX9_tokenIs_9 : decode cX9_tokenIs 9 = .ok (.iastore, 1) := by decide +kernel
theorem dX9_tokenIs_10 : decode cX9_tokenIs 10 = .ok (.aload_n 0, 1) := by decide +kernel
theorem dX9_tokenIs_11 : decode cX9_tokenIs 11 = .ok (.getfield 24, 3) := by decide +kernel
theorem dX9_tokenIs_14 : decode cX9_tokenIs 14 = .ok (.aload_n 0, 1) := by decide +kernel
theorem dX9_tokenIs_15 : decode cX9_tokenIs 15 = .ok (.getfield 214, 3) := by decide +kernel
theorem dX9_tokenIs_18 : decode cX9_tokenIs 18 = .ok (.iload_n 2, 1) := by decide +kernel
theorem dX9_tokenIs_19 : decode cX9_tokenIs 19 = .ok (.iastore, 1) := by decide +kernel
theorem dX9_tokenIs_20 : decode cX9_tokenIs 20 = .ok (.aload_n 0, 1) := by decide +kernel
theorem dX9_tokenIs_21 : decode cX9_tokenIs 21 = .ok (.getfield 27, 3) := by decide +kernel
theorem dX9_tokenIs_24 : decode cX9_tokenIs 24 = .ok (.aload_n 0, 1) := by decide +kernel
theorem dX9_tokenIs_25 : decode cX9_tokenIs 25 = .ok (.getfield 214, 3) := by decide +kernel
theorem dX9_tokenIs_28 : decode cX9_tokenIs 28 = .ok (.iload_n 3, 1) := by decide +kernel
theorem dX9_tokenIs_29 : decode cX9_tokenIs 29 = .ok (.iastore, 1) := by decide +kernel
theorem dX9_tokenIs_30 : decode cX9_tokenIs 30 = .ok (.aload_n 0, 1) := by decide +kernel
theorem dX9_tokenIs_31 : decode cX9_tokenIs 31 = .ok (.getfield 30, 3) := by decide +kernel
theorem dX9_tokenIs_34 : decode cX9_tokenIs 34 = .ok (.aload_n 0, 1) := by decide +kernel
theorem dX9_tokenIs_35 : decode cX9_tokenIs 35 = .ok (.getfield 214, 3) := by decide +kernel
theorem dX9_tokenIs_38 : decode cX9_tokenIs 38 = .ok (.lload 4, 2) := by decide +kernel
theorem dX9_tokenIs_40 : decode cX9_tokenIs 40 = .ok (.lastore, 1) := by decide +kernel
theorem dX9_tokenIs_41 : decode cX9_tokenIs 41 = .ok (.aload_n 0, 1) := by decide +kernel
theorem dX9_tokenIs_42 : decode cX9_tokenIs 42 = .ok (.dup, 1) := by decide +kernel
theorem dX9_tokenIs_43 : decode cX9_tokenIs 43 = .ok (.getfield 214, 3) := by decide +kernel
theorem dX9_tokenIs_46 : decode cX9_tokenIs 46 = .ok (.iconst 1, 1) := by decide +kernel
theorem dX9_tokenIs_47 : decode cX9_tokenIs 47 = .ok (.iadd, 1) := by decide +kernel
theorem dX9_tokenIs_48 : decode cX9_tokenIs 48 = .ok (.putfield 214, 3) := by decide +kernel
theorem dX9_tokenIs_51 : decode cX9_tokenIs 51 = .ok (.return_, 1) := by decide +kernel
theorem dX9_cut_0 : decode cX9_cut 0 = .ok (.aload_n 0, 1) := by decide +kernel
theorem dX9_cut_1 : decode cX9_cut 1 = .ok (.iconst 0, 1) := by decide +kernel
theorem dX9_cut_2 : decode cX9_cut 2 = .ok (.putfield 214, 3) := by decide +kernel
theorem dX9_cut_5 : decode cX9_cut 5 = .ok (.iconst 0, 1) := by decide +kernel
theorem dX9_cut_6 : decode cX9_cut 6 = .ok (.istore_n 1, 1) := by decide +kernel
theorem dX9_cut_7 : decode cX9_cut 7 = .ok (.aload_n 0, 1) := by decide +kernel
theorem dX9_cut_8 : decode cX9_cut 8 = .ok (.getfield 214, 3) := by decide +kernel
theorem dX9_cut_11 : decode cX9_cut 11 = .ok (.sipush 400, 3) := by decide +kernel
theorem dX9_cut_14 : decode cX9_cut 14 = .ok (.if_icmp .gt 280, 3) := by decide +kernel
theorem dX9_cut_17 : decode cX9_cut 17 = .ok (.aload_n 0, 1) := by decide +kernel
theorem dX9_cut_18 : decode cX9_cut 18 = .ok (.iload_n 1, 1) := by decide +kernel
theorem dX9_cut_19 : decode cX9_cut 19 = .ok (.invokevirtual 217, 3) := by decide +kernel
theorem dX9_cut_22 : decode cX9_cut 22 = .ok (.istore_n 2, 1) := by decide +kernel
theorem dX9_cut_23 : decode cX9_cut 23 = .ok (.iload_n 1, 1) := by decide +kernel
theorem dX9_cut_24 : decode cX9_cut 24 = .ok (.aload_n 0, 1) := by decide +kernel
theorem dX9_cut_25 : decode cX9_cut 25 = .ok (.getfield 205, 3) := by decide +kernel
theorem dX9_cut_28 : decode cX9_cut 28 = .ok (.if_icmp .lt 15, 3) := by decide +kernel
theorem dX9_cut_31 : decode cX9_cut 31 = .ok (.aload_n 0, 1) := by decide +kernel
theorem dX9_cut_32 : decode cX9_cut 32 = .ok (.iconst 0, 1) := by decide +kernel
theorem dX9_cut_33 : decode cX9_cut 33 = .ok (.aload_n 0, 1) := by decide +kernel
theorem dX9_cut_34 : decode cX9_cut 34 = .ok (.getfield 205, 3) := by decide +kernel
theorem dX9_cut_37 : decode cX9_cut 37 = .ok (.iconst 0, 1) := by decide +kernel
theorem dX9_cut_38 : decode cX9_cut 38 = .ok (.lconst 0, 1) := by decide +kernel
theorem dX9_cut_39 : decode cX9_cut 39 = .ok (.invokevirtual 221, 3) := by decide +kernel
theorem dX9_cut_42 : decode cX9_cut 42 = .ok (.return_, 1) := by decide +kernel
theorem dX9_cut_43 : decode cX9_cut 43 = .ok (.iload_n 2, 1) := by decide +kernel
theorem dX9_cut_44 : decode cX9_cut 44 = .ok (.bipush 9, 2) := by decide +kernel
theorem dX9_cut_46 : decode cX9_cut 46 = .ok (.if_icmp .eq 21, 3) := by decide +kernel
theorem dX9_cut_49 : decode cX9_cut 49 = .ok (.iload_n 2, 1) := by decide +kernel
theorem dX9_cut_50 : decode cX9_cut 50 = .ok (.bipush 10, 2) := by decide +kernel
theorem dX9_cut_52 : decode cX9_cut 52 = .ok (.if_icmp .eq 15, 3) := by decide +kernel
theorem dX9_cut_55 : decode cX9_cut 55 = .ok (.iload_n 2, 1) := by decide +kernel
theorem dX9_cut_56 : decode cX9_cut 56 = .ok (.bipush 13, 2) := by decide +kernel
theorem dX9_cut_58 : decode cX9_cut 58 = .ok (.if_icmp .eq 9, 3) := by decide +kernel
theorem dX9_cut_61 : decode cX9_cut 61 = .ok (.iload_n 2, 1) := by decide +kernel
theorem dX9_cut_62 : decode cX9_cut 62 = .ok (.bipush 32, 2) := by decide +kernel
theorem dX9_cut_64 : decode cX9_cut 64 = .ok (.if_icmp .ne 9, 3) := by decide +kernel
theorem dX9_cut_67 : decode cX9_cut 67 = .ok (.iinc 1 1, 3) := by decide +kernel
theorem dX9_cut_70 : decode cX9_cut 70 = .ok (.goto 221, 3) := by decide +kernel
theorem dX9_cut_73 : decode cX9_cut 73 = .ok (.iload_n 2, 1) := by decide +kernel
theorem dX9_cut_74 : decode cX9_cut 74 = .ok (.invokestatic 225, 3) := by decide +kernel
theorem dX9_cut_77 : decode cX9_cut 77 = .ok (.ifCond .eq 119, 3) := by decide +kernel
theorem dX9_cut_80 : decode cX9_cut 80 = .ok (.iconst 0, 1) := by decide +kernel
theorem dX9_cut_81 : decode cX9_cut 81 = .ok (.istore_n 3, 1) := by decide +kernel
theorem dX9_cut_82 : decode cX9_cut 82 = .ok (.lconst 0, 1) := by decide +kernel
theorem dX9_cut_83 : decode cX9_cut 83 = .ok (.lstore 4, 2) := by decide +kernel
theorem dX9_cut_85 : decode cX9_cut 85 = .ok (.aload_n 0, 1) := by decide +kernel
theorem dX9_cut_86 : decode cX9_cut 86 = .ok (.iload_n 1, 1) := by decide +kernel
theorem dX9_cut_87 : decode cX9_cut 87 = .ok (.iload_n 3, 1) := by decide +kernel
theorem dX9_cut_88 : decode cX9_cut 88 = .ok (.iadd, 1) := by decide +kernel
theorem dX9_cut_89 : decode cX9_cut 89 = .ok (.invokevirtual 217, 3) := by decide +kernel
theorem dX9_cut_92 : decode cX9_cut 92 = .ok (.invokestatic 225, 3) := by decide +kernel
theorem dX9_cut_95 : decode cX9_cut 95 = .ok (.ifCond .eq 29, 3) := by decide +kernel
theorem dX9_cut_98 : decode cX9_cut 98 = .ok (.iload_n 3, 1) := by decide +kernel
theorem dX9_cut_99 : decode cX9_cut 99 = .ok (.bipush 8, 2) := by decide +kernel
theorem dX9_cut_101 : decode cX9_cut 101 = .ok (.if_icmp .ge 17, 3) := by decide +kernel
theorem dX9_cut_104 : decode cX9_cut 104 = .ok (.lload 4, 2) := by decide +kernel
theorem dX9_cut_106 : decode cX9_cut 106 = .ok (.aload_n 0, 1) := by decide +kernel
theorem dX9_cut_107 : decode cX9_cut 107 = .ok (.iload_n 1, 1) := by decide +kernel
theorem dX9_cut_108 : decode cX9_cut 108 = .ok (.iload_n 3, 1) := by decide +kernel
theorem dX9_cut_109 : decode cX9_cut 109 = .ok (.iadd, 1) := by decide +kernel
theorem dX9_cut_110 : decode cX9_cut 110 = .ok (.invokevirtual 217, 3) := by decide +kernel
theorem dX9_cut_113 : decode cX9_cut 113 = .ok (.invokestatic 210, 3) := by decide +kernel
theorem dX9_cut_116 : decode cX9_cut 116 = .ok (.lstore 4, 2) := by decide +kernel
theorem dX9_cut_118 : decode cX9_cut 118 = .ok (.iinc 3 1, 3) := by decide +kernel
theorem dX9_cut_121 : decode cX9_cut 121 = .ok (.goto (-36), 3) := by decide +kernel
theorem dX9_cut_124 : decode cX9_cut 124 = .ok (.iload_n 3, 1) := by decide +kernel
theorem dX9_cut_125 : decode cX9_cut 125 = .ok (.bipush 8, 2) := by decide +kernel
theorem dX9_cut_127 : decode cX9_cut 127 = .ok (.if_icmp .le 7, 3) := by decide +kernel
theorem dX9_cut_130 : decode cX9_cut 130 = .ok (.iconst 3, 1) := by decide +kernel
theorem dX9_cut_131 : decode cX9_cut 131 = .ok (.goto 4, 3) := by decide +kernel
theorem dX9_cut_134 : decode cX9_cut 134 = .ok (.iconst 1, 1) := by decide +kernel
theorem dX9_cut_135 : decode cX9_cut 135 = .ok (.istore 6, 2) := by decide +kernel
theorem dX9_cut_137 : decode cX9_cut 137 = .ok (.iload_n 3, 1) := by decide +kernel
theorem dX9_cut_138 : decode cX9_cut 138 = .ok (.bipush 7, 2) := by decide +kernel
theorem dX9_cut_140 : decode cX9_cut 140 = .ok (.if_icmp .gt 39, 3) := by decide +kernel
theorem dX9_cut_143 : decode cX9_cut 143 = .ok (.iconst 0, 1) := by decide +kernel
theorem dX9_cut_144 : decode cX9_cut 144 = .ok (.istore 7, 2) := by decide +kernel
theorem dX9_cut_146 : decode cX9_cut 146 = .ok (.iload 7, 2) := by decide +kernel
theorem dX9_cut_148 : decode cX9_cut 148 = .ok (.bipush 14, 2) := by decide +kernel
theorem dX9_cut_150 : decode cX9_cut 150 = .ok (.if_icmp .ge 29, 3) := by decide +kernel
theorem dX9_cut_153 : decode cX9_cut 153 = .ok (.aload_n 0, 1) := by decide +kernel
theorem dX9_cut_154 : decode cX9_cut 154 = .ok (.getfield 34, 3) := by decide +kernel
theorem dX9_cut_157 : decode cX9_cut 157 = .ok (.iload 7, 2) := by decide +kernel
theorem dX9_cut_159 : decode cX9_cut 159 = .ok (.laload, 1) := by decide +kernel
theorem dX9_cut_160 : decode cX9_cut 160 = .ok (.lload 4, 2) := by decide +kernel
theorem dX9_cut_162 : decode cX9_cut 162 = .ok (.lcmp, 1) := by decide +kernel
theorem dX9_cut_163 : decode cX9_cut 163 = .ok (.ifCond .ne 10, 3) := by decide +kernel
theorem dX9_cut_166 : decode cX9_cut 166 = .ok (.bipush 20, 2) := by decide +kernel
theorem dX9_cut_168 : decode cX9_cut 168 = .ok (.iload 7, 2) := by decide +kernel
theorem dX9_cut_170 : decode cX9_cut 170 = .ok (.iadd, 1) := by decide +kernel
theorem dX9_cut_171 : decode cX9_cut 171 = .ok (.istore 6, 2) := by decide +kernel
theorem dX9_cut_173 : decode cX9_cut 173 = .ok (.iinc 7 1, 3) := by decide +kernel
theorem dX9_cut_176 : decode cX9_cut 176 = .ok (.goto (-30), 3) := by decide +kernel
theorem dX9_cut_179 : decode cX9_cut 179 = .ok (.aload_n 0, 1) := by decide +kernel
theorem dX9_cut_180 : decode cX9_cut 180 = .ok (.iload 6, 2) := by decide +kernel
theorem dX9_cut_182 : decode cX9_cut 182 = .ok (.iload_n 1, 1) := by decide +kernel
theorem dX9_cut_183 : decode cX9_cut 183 = .ok (.iconst 0, 1) := by decide +kernel
theorem dX9_cut_184 : decode cX9_cut 184 = .ok (.lload 4, 2) := by decide +kernel
theorem dX9_cut_186 : decode cX9_cut 186 = .ok (.invokevirtual 221, 3) := by decide +kernel
theorem dX9_cut_189 : decode cX9_cut 189 = .ok (.iload_n 1, 1) := by decide +kernel
theorem dX9_cut_190 : decode cX9_cut 190 = .ok (.iload_n 3, 1) := by decide +kernel
theorem dX9_cut_191 : decode cX9_cut 191 = .ok (.iadd, 1) := by decide +kernel
theorem dX9_cut_192 : decode cX9_cut 192 = .ok (.istore_n 1, 1) := by decide +kernel
theorem dX9_cut_193 : decode cX9_cut 193 = .ok (.goto 98, 3) := by decide +kernel
theorem dX9_cut_196 : decode cX9_cut 196 = .ok (.iload_n 2, 1) := by decide +kernel
theorem dX9_cut_197 : decode cX9_cut 197 = .ok (.invokestatic 229, 3) := by decide +kernel
theorem dX9_cut_200 : decode cX9_cut 200 = .ok (.ifCond .eq 75, 3) := by decide +kernel
theorem dX9_cut_203 : decode cX9_cut 203 = .ok (.iconst 0, 1) := by decide +kernel
theorem dX9_cut_204 : decode cX9_cut 204 = .ok (.istore_n 3, 1) := by decide +kernel
theorem dX9_cut_205 : decode cX9_cut 205 = .ok (.iconst 0, 1) := by decide +kernel
theorem dX9_cut_206 : decode cX9_cut 206 = .ok (.istore 4, 2) := by decide +kernel
theorem dX9_cut_208 : decode cX9_cut 208 = .ok (.aload_n 0, 1) := by decide +kernel
theorem dX9_cut_209 : decode cX9_cut 209 = .ok (.iload_n 1, 1) := by decide +kernel
theorem dX9_cut_210 : decode cX9_cut 210 = .ok (.iload_n 3, 1) := by decide +kernel
theorem dX9_cut_211 : decode cX9_cut 211 = .ok (.iadd, 1) := by decide +kernel
theorem dX9_cut_212 : decode cX9_cut 212 = .ok (.invokevirtual 217, 3) := by decide +kernel
theorem dX9_cut_215 : decode cX9_cut 215 = .ok (.invokestatic 229, 3) := by decide +kernel
theorem dX9_cut_218 : decode cX9_cut 218 = .ok (.ifCond .eq 32, 3) := by decide +kernel
theorem dX9_cut_221 : decode cX9_cut 221 = .ok (.iload_n 3, 1) := by decide +kernel
theorem dX9_cut_222 : decode cX9_cut 222 = .ok (.iconst 4, 1) := by decide +kernel
theorem dX9_cut_223 : decode cX9_cut 223 = .ok (.if_icmp .ge 21, 3) := by decide +kernel
theorem dX9_cut_226 : decode cX9_cut 226 = .ok (.bipush 10, 2) := by decide +kernel
theorem dX9_cut_228 : decode cX9_cut 228 = .ok (.iload 4, 2) := by decide +kernel
theorem dX9_cut_230 : decode cX9_cut 230 = .ok (.imul, 1) := by decide +kernel
theorem dX9_cut_231 : decode cX9_cut 231 = .ok (.aload_n 0, 1) := by decide +kernel
theorem dX9_cut_232 : decode cX9_cut 232 = .ok (.iload_n 1, 1) := by decide +kernel
theorem dX9_cut_233 : decode cX9_cut 233 = .ok (.iload_n 3, 1) := by decide +kernel
theorem dX9_cut_234 : decode cX9_cut 234 = .ok (.iadd, 1) := by decide +kernel
theorem dX9_cut_235 : decode cX9_cut 235 = .ok (.invokevirtual 217, 3) := by decide +kernel
theorem dX9_cut_238 : decode cX9_cut 238 = .ok (.iadd, 1) := by decide +kernel
theorem dX9_cut_239 : decode cX9_cut 239 = .ok (.bipush 48, 2) := by decide +kernel
theorem dX9_cut_241 : decode cX9_cut 241 = .ok (.isub, 1) := by decide +kernel
theorem dX9_cut_242 : decode cX9_cut 242 = .ok (.istore 4, 2) := by decide +kernel
theorem dX9_cut_244 : decode cX9_cut 244 = .ok (.iinc 3 1, 3) := by decide +kernel
theorem dX9_cut_247 : decode cX9_cut 247 = .ok (.goto (-39), 3) := by decide +kernel
theorem dX9_cut_250 : decode cX9_cut 250 = .ok (.aload_n 0, 1) := by decide +kernel
theorem dX9_cut_251 : decode cX9_cut 251 = .ok (.iload_n 3, 1) := by decide +kernel
theorem dX9_cut_252 : decode cX9_cut 252 = .ok (.iconst 4, 1) := by decide +kernel
theorem dX9_cut_253 : decode cX9_cut 253 = .ok (.if_icmp .le 7, 3) := by decide +kernel
theorem dX9_cut_256 : decode cX9_cut 256 = .ok (.iconst 3, 1) := by decide +kernel
theorem dX9_cut_257 : decode cX9_cut 257 = .ok (.goto 4, 3) := by decide +kernel
theorem dX9_cut_260 : decode cX9_cut 260 = .ok (.iconst 2, 1) := by decide +kernel
theorem dX9_cut_261 : decode cX9_cut 261 = .ok (.iload_n 1, 1) := by decide +kernel
theorem dX9_cut_262 : decode cX9_cut 262 = .ok (.iload 4, 2) := by decide +kernel
theorem dX9_cut_264 : decode cX9_cut 264 = .ok (.lconst 0, 1) := by decide +kernel
theorem dX9_cut_265 : decode cX9_cut 265 = .ok (.invokevirtual 221, 3) := by decide +kernel
theorem dX9_cut_268 : decode cX9_cut 268 = .ok (.iload_n 1, 1) := by decide +kernel
theorem dX9_cut_269 : decode cX9_cut 269 = .ok (.iload_n 3, 1) := by decide +kernel
theorem dX9_cut_270 : decode cX9_cut 270 = .ok (.iadd, 1) := by decide +kernel
theorem dX9_cut_271 : decode cX9_cut 271 = .ok (.istore_n 1, 1) := by decide +kernel
theorem dX9_cut_272 : decode cX9_cut 272 = .ok (.goto 19, 3) := by decide +kernel
theorem dX9_cut_275 : decode cX9_cut 275 = .ok (.iload_n 1, 1) := by decide +kernel
theorem dX9_cut_276 : decode cX9_cut 276 = .ok (.aload_n 0, 1) := by decide +kernel
theorem dX9_cut_277 : decode cX9_cut 277 = .ok (.iload_n 1, 1) := by decide +kernel
theorem dX9_cut_278 : decode cX9_cut 278 = .ok (.iload_n 2, 1) := by decide +kernel
theorem dX9_cut_279 : decode cX9_cut 279 = .ok (.aload_n 0, 1) := by decide +kernel
theorem dX9_cut_280 : decode cX9_cut 280 = .ok (.iload_n 1, 1) := by decide +kernel
theorem dX9_cut_281 : decode cX9_cut 281 = .ok (.iconst 1, 1) := by decide +kernel
theorem dX9_cut_282 : decode cX9_cut 282 = .ok (.iadd, 1) := by decide +kernel
theorem dX9_cut_283 : decode cX9_cut 283 = .ok (.invokevirtual 217, 3) := by decide +kernel
theorem dX9_cut_286 : decode cX9_cut 286 = .ok (.invokevirtual 232, 3) := by decide +kernel
theorem dX9_cut_289 : decode cX9_cut 289 = .ok (.iadd, 1) := by decide +kernel
theorem dX9_cut_290 : decode cX9_cut 290 = .ok (.istore_n 1, 1) := by decide +kernel
theorem dX9_cut_291 : decode cX9_cut 291 = .ok (.goto (-284), 3) := by decide +kernel
theorem dX9_cut_294 : decode cX9_cut 294 = .ok (.return_, 1) := by decide +kernel
theorem dX9_sign_0 : decode cX9_sign 0 = .ok (.iload_n 3, 1) := by decide +kernel
theorem dX9_sign_1 : decode cX9_sign 1 = .ok (.bipush 61, 2) := by decide +kernel
theorem dX9_sign_3 : decode cX9_sign 3 = .ok (.if_icmp .eq 7, 3) := by decide +kernel
theorem dX9_sign_6 : decode cX9_sign 6 = .ok (.iconst 0, 1) := by decide +kernel
theorem dX9_sign_7 : decode cX9_sign 7 = .ok (.goto 37, 3) := by decide +kernel
theorem dX9_sign_10 : decode cX9_sign 10 = .ok (.iload_n 2, 1) := by decide +kernel
theorem dX9_sign_11 : decode cX9_sign 11 = .ok (.bipush 61, 2) := by decide +kernel
theorem dX9_sign_13 : decode cX9_sign 13 = .ok (.if_icmp .ne 8, 3) := by decide +kernel
theorem dX9_sign_16 : decode cX9_sign 16 = .ok (.bipush 11, 2) := by decide +kernel
theorem dX9_sign_18 : decode cX9_sign 18 = .ok (.goto 26, 3) := by decide +kernel
theorem dX9_sign_21 : decode cX9_sign 21 = .ok (.iload_n 2, 1) := by decide +kernel
theorem dX9_sign_22 : decode cX9_sign 22 = .ok (.bipush 33, 2) := by decide +kernel
theorem dX9_sign_24 : decode cX9_sign 24 = .ok (.if_icmp .ne 8, 3) := by decide +kernel
theorem dX9_sign_27 : decode cX9_sign 27 = .ok (.bipush 12, 2) := by decide +kernel
theorem dX9_sign_29 : decode cX9_sign 29 = .ok (.goto 15, 3) := by decide +kernel
theorem dX9_sign_32 : decode cX9_sign 32 = .ok (.iload_n 2, 1) := by decide +kernel
theorem dX9_sign_33 : decode cX9_sign 33 = .ok (.bipush 60, 2) := by decide +kernel
theorem dX9_sign_35 : decode cX9_sign 35 = .ok (.if_icmp .ne 8, 3) := by decide +kernel
theorem dX9_sign_38 : decode cX9_sign 38 = .ok (.bipush 14, 2) := by decide +kernel
theorem dX9_sign_40 : decode cX9_sign 40 = .ok (.goto 4, 3) := by decide +kernel
theorem dX9_sign_43 : decode cX9_sign 43 = .ok (.iconst 0, 1) := by decide +kernel
theorem dX9_sign_44 : decode cX9_sign 44 = .ok (.istore 4, 2) := by decide +kernel
theorem dX9_sign_46 : decode cX9_sign 46 = .ok (.iconst 3, 1) := by decide +kernel
theorem dX9_sign_47 : decode cX9_sign 47 = .ok (.istore 5, 2) := by decide +kernel
theorem dX9_sign_49 : decode cX9_sign 49 = .ok (.iload 4, 2) := by decide +kernel
theorem dX9_sign_51 : decode cX9_sign 51 = .ok (.ifCond .le 10, 3) := by decide +kernel
theorem dX9_sign_54 : decode cX9_sign 54 = .ok (.iload 4, 2) := by decide +kernel
theorem dX9_sign_56 : decode cX9_sign 56 = .ok (.istore 5, 2) := by decide +kernel
theorem dX9_sign_58 : decode cX9_sign 58 = .ok (.goto 90, 3) := by decide +kernel
theorem dX9_sign_61 : decode cX9_sign 61 = .ok (.iload_n 2, 1) := by decide +kernel
theorem dX9_sign_62 : decode cX9_sign 62 = .ok (.bipush 59, 2) := by decide +kernel
theorem dX9_sign_64 : decode cX9_sign 64 = .ok (.if_icmp .ne 9, 3) := by decide +kernel
theorem dX9_sign_67 : decode cX9_sign 67 = .ok (.iconst 4, 1) := by decide +kernel
theorem dX9_sign_68 : decode cX9_sign 68 = .ok (.istore 5, 2) := by decide +kernel
theorem dX9_sign_70 : decode cX9_sign 70 = .ok (.goto 78, 3) := by decide +kernel
theorem dX9_sign_73 : decode cX9_sign 73 = .ok (.iload_n 2, 1) := by decide +kernel
theorem dX9_sign_74 : decode cX9_sign 74 = .ok (.bipush 40, 2) := by decide +kernel
theorem dX9_sign_76 : decode cX9_sign 76 = .ok (.if_icmp .ne 10, 3) := by decide +kernel
theorem dX9_sign_79 : decode cX9_sign 79 = .ok (.bipush 6, 2) := by decide +kernel
theorem dX9_sign_81 : decode cX9_sign 81 = .ok (.istore 5, 2) := by decide +kernel
theorem dX9_sign_83 : decode cX9_sign 83 = .ok (.goto 65, 3) := by decide +kernel
theorem dX9_sign_86 : decode cX9_sign 86 = .ok (.iload_n 2, 1) := by decide +kernel
theorem dX9_sign_87 : decode cX9_sign 87 = .ok (.bipush 41, 2) := by decide +kernel
theorem dX9_sign_89 : decode cX9_sign 89 = .ok (.if_icmp .ne 10, 3) := by decide +kernel
theorem dX9_sign_92 : decode cX9_sign 92 = .ok (.bipush 7, 2) := by decide +kernel
theorem dX9_sign_94 : decode cX9_sign 94 = .ok (.istore 5, 2) := by decide +kernel
theorem dX9_sign_96 : decode cX9_sign 96 = .ok (.goto 52, 3) := by decide +kernel
theorem dX9_sign_99 : decode cX9_sign 99 = .ok (.iload_n 2, 1) := by decide +kernel
theorem dX9_sign_100 : decode cX9_sign 100 = .ok (.bipush 43, 2) := by decide +kernel
theorem dX9_sign_102 : decode cX9_sign 102 = .ok (.if_icmp .ne 10, 3) := by decide +kernel
theorem dX9_sign_105 : decode cX9_sign 105 = .ok (.bipush 8, 2) := by decide +kernel
theorem dX9_sign_107 : decode cX9_sign 107 = .ok (.istore 5, 2) := by decide +kernel
theorem dX9_sign_109 : decode cX9_sign 109 = .ok (.goto 39, 3) := by decide +kernel
theorem dX9_sign_112 : decode cX9_sign 112 = .ok (.iload_n 2, 1) := by decide +kernel
theorem dX9_sign_113 : decode cX9_sign 113 = .ok (.bipush 45, 2) := by decide +kernel
theorem dX9_sign_115 : decode cX9_sign 115 = .ok (.if_icmp .ne 10, 3) := by decide +kernel
theorem dX9_sign_118 : decode cX9_sign 118 = .ok (.bipush 9, 2) := by decide +kernel
theorem dX9_sign_120 : decode cX9_sign 120 = .ok (.istore 5, 2) := by decide +kernel
theorem dX9_sign_122 : decode cX9_sign 122 = .ok (.goto 26, 3) := by decide +kernel
theorem dX9_sign_125 : decode cX9_sign 125 = .ok (.iload_n 2, 1) := by decide +kernel
theorem dX9_sign_126 : decode cX9_sign 126 = .ok (.bipush 42, 2) := by decide +kernel
theorem dX9_sign_128 : decode cX9_sign 128 = .ok (.if_icmp .ne 10, 3) := by decide +kernel
theorem dX9_sign_131 : decode cX9_sign 131 = .ok (.bipush 10, 2) := by decide +kernel
theorem dX9_sign_133 : decode cX9_sign 133 = .ok (.istore 5, 2) := by decide +kernel
theorem dX9_sign_135 : decode cX9_sign 135 = .ok (.goto 13, 3) := by decide +kernel
theorem dX9_sign_138 : decode cX9_sign 138 = .ok (.iload_n 2, 1) := by decide +kernel
theorem dX9_sign_139 : decode cX9_sign 139 = .ok (.bipush 60, 2) := by decide +kernel
theorem dX9_sign_141 : decode cX9_sign 141 = .ok (.if_icmp .ne 7, 3) := by decide +kernel
theorem dX9_sign_144 : decode cX9_sign 144 = .ok (.bipush 13, 2) := by decide +kernel
theorem dX9_sign_146 : decode cX9_sign 146 = .ok (.istore 5, 2) := by decide +kernel
theorem dX9_sign_148 : decode cX9_sign 148 = .ok (.aload_n 0, 1) := by decide +kernel
theorem dX9_sign_149 : decode cX9_sign 149 = .ok (.iload 5, 2) := by decide +kernel
theorem dX9_sign_151 : decode cX9_sign 151 = .ok (.iload_n 1, 1) := by decide +kernel
theorem dX9_sign_152 : decode cX9_sign 152 = .ok (.iconst 0, 1) := by decide +kernel
theorem dX9_sign_153 : decode cX9_sign 153 = .ok (.lconst 0, 1) := by decide +kernel
theorem dX9_sign_154 : decode cX9_sign 154 = .ok (.invokevirtual 221, 3) := by decide +kernel
theorem dX9_sign_157 : decode cX9_sign 157 = .ok (.iload 4, 2) := by decide +kernel
theorem dX9_sign_159 : decode cX9_sign 159 = .ok (.ifCond .le 7, 3) := by decide +kernel
theorem dX9_sign_162 : decode cX9_sign 162 = .ok (.iconst 2, 1) := by decide +kernel
theorem dX9_sign_163 : decode cX9_sign 163 = .ok (.goto 4, 3) := by decide +kernel
theorem dX9_sign_166 : decode cX9_sign 166 = .ok (.iconst 1, 1) := by decide +kernel
theorem dX9_sign_167 : decode cX9_sign 167 = .ok (.ireturn, 1) := by decide +kernel
theorem dX9_is_0 : decode cX9_is 0 = .ok (.aload_n 0, 1) := by decide +kernel
theorem dX9_is_1 : decode cX9_is 1 = .ok (.getfield 236, 3) := by decide +kernel
theorem dX9_is_4 : decode cX9_is 4 = .ok (.ifCond .ne 20, 3) := by decide +kernel
theorem dX9_is_7 : decode cX9_is 7 = .ok (.aload_n 0, 1) := by decide +kernel
theorem dX9_is_8 : decode cX9_is 8 = .ok (.getfield 20, 3) := by decide +kernel
theorem dX9_is_11 : decode cX9_is 11 = .ok (.aload_n 0, 1) := by decide +kernel
theorem dX9_is_12 : decode cX9_is 12 = .ok (.getfield 239, 3) := by decide +kernel
theorem dX9_is_15 : decode cX9_is 15 = .ok (.iaload, 1) := by decide +kernel
theorem dX9_is_16 : decode cX9_is 16 = .ok (.iload_n 1, 1) := by decide +kernel
theorem dX9_is_17 : decode cX9_is 17 = .ok (.if_icmp .ne 7, 3) := by decide +kernel
theorem dX9_is_20 : decode cX9_is 20 = .ok (.iconst 1, 1) := by decide +kernel
theorem dX9_is_21 : decode cX9_is 21 = .ok (.goto 4, 3) := by decide +kernel
theorem dX9_is_24 : decode cX9_is 24 = .ok (.iconst 0, 1) := by decide +kernel
theorem dX9_is_25 : decode cX9_is 25 = .ok (.ireturn, 1) := by decide +kernel
theorem dX9_fail_0 : decode cX9_fail 0 = .ok (.aload_n 0, 1) := by decide +kernel
theorem dX9_fail_1 : decode cX9_fail 1 = .ok (.getfield 236, 3) := by decide +kernel
theorem dX9_fail_4 : decode cX9_fail 4 = .ok (.ifCond .le 4, 3) := by decide +kernel
theorem dX9_fail_7 : decode cX9_fail 7 = .ok (.return_, 1) := by decide +kernel
theorem dX9_fail_8 : decode cX9_fail 8 = .ok (.aload_n 0, 1) := by decide +kernel
theorem dX9_fail_9 : decode cX9_fail 9 = .ok (.iload_n 1, 1) := by decide +kernel
theorem dX9_fail_10 : decode cX9_fail 10 = .ok (.putfield 236, 3) := by decide +kernel
theorem dX9_fail_13 : decode cX9_fail 13 = .ok (.aload_n 0, 1) := by decide +kernel
theorem dX9_fail_14 : decode cX9_fail 14 = .ok (.aload_n 0, 1) := by decide +kernel
theorem dX9_fail_15 : decode cX9_fail 15 = .ok (.getfield 24, 3) := by decide +kernel
theorem dX9_fail_18 : decode cX9_fail 18 = .ok (.aload_n 0, 1) := by decide +kernel
theorem dX9_fail_19 : decode cX9_fail 19 = .ok (.getfield 239, 3) := by decide +kernel
theorem dX9_fail_22 : decode cX9_fail 22 = .ok (.iaload, 1) := by decide +kernel
theorem dX9_fail_23 : decode cX9_fail 23 = .ok (.putfield 242, 3) := by decide +kernel
theorem dX9_fail_26 : decode cX9_fail 26 = .ok (.return_, 1) := by decide +kernel
theorem dX9_next_0 : decode cX9_next 0 = .ok (.aload_n 0, 1) := by decide +kernel
theorem dX9_next_1 : decode cX9_next 1 = .ok (.getfield 239, 3) := by decide +kernel
theorem dX9_next_4 : decode cX9_next 4 = .ok (.sipush 400, 3) := by decide +kernel
theorem dX9_next_7 : decode cX9_next 7 = .ok (.if_icmp .ne 11, 3) := by decide +kernel
theorem dX9_next_10 : decode cX9_next 10 = .ok (.aload_n 0, 1) := by decide +kernel
theorem dX9_next_11 : decode cX9_next 11 = .ok (.iconst 2, 1) := by decide +kernel
theorem dX9_next_12 : decode cX9_next 12 = .ok (.invokevirtual 251, 3) := by decide +kernel
theorem dX9_next_15 : decode cX9_next 15 = .ok (.goto 13, 3) := by decide +kernel
theorem dX9_next_18 : decode cX9_next 18 = .ok (.aload_n 0, 1) := by decide +kernel
theorem dX9_next_19 : decode cX9_next 19 = .ok (.dup, 1) := by decide +kernel
theorem dX9_next_20 : decode cX9_next 20 = .ok (.getfield 239, 3) := by decide +kernel
theorem dX9_next_23 : decode cX9_next 23 = .ok (.iconst 1, 1) := by decide +kernel
theorem dX9_next_24 : decode cX9_next 24 = .ok (.iadd, 1) := by decide +kernel
theorem dX9_next_25 : decode cX9_next 25 = .ok (.putfield 239, 3) := by decide +kernel
theorem dX9_next_28 : decode cX9_next 28 = .ok (.return_, 1) := by decide +kernel
theorem dX9_must_0 : decode cX9_must 0 = .ok (.aload_n 0, 1) := by decide +kernel
theorem dX9_must_1 : decode cX9_must 1 = .ok (.iload_n 1, 1) := by decide +kernel
theorem dX9_must_2 : decode cX9_must 2 = .ok (.invokevirtual 254, 3) := by decide +kernel
theorem dX9_must_5 : decode cX9_must 5 = .ok (.ifCond .eq 10, 3) := by decide +kernel
theorem dX9_must_8 : decode cX9_must 8 = .ok (.aload_n 0, 1) := by decide +kernel
theorem dX9_must_9 : decode cX9_must 9 = .ok (.invokevirtual 257, 3) := by decide +kernel
theorem dX9_must_12 : decode cX9_must 12 = .ok (.goto 8, 3) := by decide +kernel
theorem dX9_must_15 : decode cX9_must 15 = .ok (.aload_n 0, 1) := by decide +kernel
theorem dX9_must_16 : decode cX9_must 16 = .ok (.iconst 1, 1) := by decide +kernel
theorem dX9_must_17 : decode cX9_must 17 = .ok (.invokevirtual 251, 3) := by decide +kernel
theorem dX9_must_20 : decode cX9_must 20 = .ok (.return_, 1) := by decide +kernel
theorem dX9_read_0 : decode cX9_read 0 = .ok (.aload_n 0, 1) := by decide +kernel
theorem dX9_read_1 : decode cX9_read 1 = .ok (.aload_n 0, 1) := by decide +kernel
theorem dX9_read_2 : decode cX9_read 2 = .ok (.getfield 199, 3) := by decide +kernel
theorem dX9_read_5 : decode cX9_read 5 = .ok (.putfield 205, 3) := by decide +kernel
theorem dX9_read_8 : decode cX9_read 8 = .ok (.iconst 0, 1) := by decide +kernel
theorem dX9_read_9 : decode cX9_read 9 = .ok (.istore_n 1, 1) := by decide +kernel
theorem dX9_read_10 : decode cX9_read 10 = .ok (.iload_n 1, 1) := by decide +kernel
theorem dX9_read_11 : decode cX9_read 11 = .ok (.aload_n 0, 1) := by decide +kernel
theorem dX9_read_12 : decode cX9_read 12 = .ok (.getfield 205, 3) := by decide +kernel
theorem dX9_read_15 : decode cX9_read 15 = .ok (.if_icmp .ge 21, 3) := by decide +kernel
theorem dX9_read_18 : decode cX9_read 18 = .ok (.aload_n 0, 1) := by decide +kernel
theorem dX9_read_19 : decode cX9_read 19 = .ok (.getfield 17, 3) := by decide +kernel
theorem dX9_read_22 : decode cX9_read 22 = .ok (.iload_n 1, 1) := by decide +kernel
theorem dX9_read_23 : decode cX9_read 23 = .ok (.aload_n 0, 1) := by decide +kernel
theorem dX9_read_24 : decode cX9_read 24 = .ok (.getfield 13, 3) := by decide +kernel
theorem dX9_read_27 : decode cX9_read 27 = .ok (.iload_n 1, 1) := by decide +kernel
theorem dX9_read_28 : decode cX9_read 28 = .ok (.baload, 1) := by decide +kernel
theorem dX9_read_29 : decode cX9_read 29 = .ok (.bastore, 1) := by decide +kernel
theorem dX9_read_30 : decode cX9_read 30 = .ok (.iinc 1 1, 3) := by decide +kernel
theorem dX9_read_33 : decode cX9_read 33 = .ok (.goto (-23), 3) := by decide +kernel
theorem dX9_read_36 : decode cX9_read 36 = .ok (.aload_n 0, 1) := by decide +kernel
theorem dX9_read_37 : decode cX9_read 37 = .ok (.iconst 0, 1) := by decide +kernel
theorem dX9_read_38 : decode cX9_read 38 = .ok (.putfield 199, 3) := by decide +kernel
theorem dX9_read_41 : decode cX9_read 41 = .ok (.aload_n 0, 1) := by decide +kernel
theorem dX9_read_42 : decode cX9_read 42 = .ok (.invokevirtual 260, 3) := by decide +kernel
theorem dX9_read_45 : decode cX9_read 45 = .ok (.aload_n 0, 1) := by decide +kernel
theorem dX9_read_46 : decode cX9_read 46 = .ok (.iconst 0, 1) := by decide +kernel
theorem dX9_read_47 : decode cX9_read 47 = .ok (.putfield 239, 3) := by decide +kernel
theorem dX9_read_50 : decode cX9_read 50 = .ok (.aload_n 0, 1) := by decide +kernel
theorem dX9_read_51 : decode cX9_read 51 = .ok (.iconst 0, 1) := by decide +kernel
theorem dX9_read_52 : decode cX9_read 52 = .ok (.putfield 263, 3) := by decide +kernel
theorem dX9_read_55 : decode cX9_read 55 = .ok (.aload_n 0, 1) := by decide +kernel
theorem dX9_read_56 : decode cX9_read 56 = .ok (.iconst 0, 1) := by decide +kernel
theorem dX9_read_57 : decode cX9_read 57 = .ok (.putfield 236, 3) := by decide +kernel
theorem dX9_read_60 : decode cX9_read 60 = .ok (.aload_n 0, 1) := by decide +kernel
theorem dX9_read_61 : decode cX9_read 61 = .ok (.iconst 0, 1) := by decide +kernel
theorem dX9_read_62 : decode cX9_read 62 = .ok (.putfield 245, 3) := by decide +kernel
theorem dX9_read_65 : decode cX9_read 65 = .ok (.aload_n 0, 1) := by decide +kernel
theorem dX9_read_66 : decode cX9_read 66 = .ok (.iconst 1, 1) := by decide +kernel
theorem dX9_read_67 : decode cX9_read 67 = .ok (.aload_n 0, 1) := by decide +kernel
theorem dX9_read_68 : decode cX9_read 68 = .ok (.getfield 266, 3) := by decide +kernel
theorem dX9_read_71 : decode cX9_read 71 = .ok (.isub, 1) := by decide +kernel
theorem dX9_read_72 : decode cX9_read 72 = .ok (.putfield 269, 3) := by decide +kernel
theorem dX9_read_75 : decode cX9_read 75 = .ok (.aload_n 0, 1) := by decide +kernel
theorem dX9_read_76 : decode cX9_read 76 = .ok (.getfield 40, 3) := by decide +kernel
theorem dX9_read_79 : decode cX9_read 79 = .ok (.aload_n 0, 1) := by decide +kernel
theorem dX9_read_80 : decode cX9_read 80 = .ok (.getfield 269, 3) := by decide +kernel
theorem dX9_read_83 : decode cX9_read 83 = .ok (.iconst 0, 1) := by decide +kernel
theorem dX9_read_84 : decode cX9_read 84 = .ok (.iastore, 1) := by decide +kernel
theorem dX9_read_85 : decode cX9_read 85 = .ok (.aload_n 0, 1) := by decide +kernel
theorem dX9_read_86 : decode cX9_read 86 = .ok (.getfield 58, 3) := by decide +kernel
theorem dX9_read_89 : decode cX9_read 89 = .ok (.aload_n 0, 1) := by decide +kernel
theorem dX9_read_90 : decode cX9_read 90 = .ok (.getfield 269, 3) := by decide +kernel
theorem dX9_read_93 : decode cX9_read 93 = .ok (.iconst 0, 1) := by decide +kernel
theorem dX9_read_94 : decode cX9_read 94 = .ok (.iastore, 1) := by decide +kernel
theorem dX9_read_95 : decode cX9_read 95 = .ok (.aload_n 0, 1) := by decide +kernel
theorem dX9_read_96 : decode cX9_read 96 = .ok (.sipush 500, 3) := by decide +kernel
theorem dX9_read_99 : decode cX9_read 99 = .ok (.aload_n 0, 1) := by decide +kernel
theorem dX9_read_100 : decode cX9_read 100 = .ok (.getfield 269, 3) := by decide +kernel
theorem dX9_read_103 : decode cX9_read 103 = .ok (.imul, 1) := by decide +kernel
theorem dX9_read_104 : decode cX9_read 104 = .ok (.putfield 272, 3) := by decide +kernel
theorem dX9_read_107 : decode cX9_read 107 = .ok (.aload_n 0, 1) := by decide +kernel
theorem dX9_read_108 : decode cX9_read 108 = .ok (.getfield 236, 3) := by decide +kernel
theorem dX9_read_111 : decode cX9_read 111 = .ok (.ifCond .ne 18, 3) := by decide +kernel
theorem dX9_read_114 : decode cX9_read 114 = .ok (.aload_n 0, 1) := by decide +kernel
theorem dX9_read_115 : decode cX9_read 115 = .ok (.iconst 0, 1) := by decide +kernel
theorem dX9_read_116 : decode cX9_read 116 = .ok (.invokevirtual 254, 3) := by decide +kernel
theorem dX9_read_119 : decode cX9_read 119 = .ok (.ifCond .ne 10, 3) := by decide +kernel
theorem dX9_read_122 : decode cX9_read 122 = .ok (.aload_n 0, 1) := by decide +kernel
theorem dX9_read_123 : decode cX9_read 123 = .ok (.invokevirtual 275, 3) := by decide +kernel
theorem dX9_read_126 : decode cX9_read 126 = .ok (.goto (-19), 3) := by decide +kernel
theorem dX9_read_129 : decode cX9_read 129 = .ok (.aload_n 0, 1) := by decide +kernel
theorem dX9_read_130 : decode cX9_read 130 = .ok (.aload_n 0, 1) := by decide +kernel
theorem dX9_read_131 : decode cX9_read 131 = .ok (.getfield 236, 3) := by decide +kernel
theorem dX9_read_134 : decode cX9_read 134 = .ok (.ifCond .le 10, 3) := by decide +kernel
theorem dX9_read_137 : decode cX9_read 137 = .ok (.aload_n 0, 1) := by decide +kernel
theorem dX9_read_138 : decode cX9_read 138 = .ok (.getfield 242, 3) := by decide +kernel
theorem dX9_read_141 : decode cX9_read 141 = .ok (.goto 4, 3) := by decide +kernel
theorem dX9_read_144 : decode cX9_read 144 = .ok (.iconst (-1), 1) := by decide +kernel
theorem dX9_read_145 : decode cX9_read 145 = .ok (.putfield 37, 3) := by decide +kernel
theorem dX9_read_148 : decode cX9_read 148 = .ok (.aload_n 0, 1) := by decide +kernel
theorem dX9_read_149 : decode cX9_read 149 = .ok (.getfield 236, 3) := by decide +kernel
theorem dX9_read_152 : decode cX9_read 152 = .ok (.ifCond .le 8, 3) := by decide +kernel
theorem dX9_read_155 : decode cX9_read 155 = .ok (.aload_n 0, 1) := by decide +kernel
theorem dX9_read_156 : decode cX9_read 156 = .ok (.getfield 236, 3) := by decide +kernel
theorem dX9_read_159 : decode cX9_read 159 = .ok (.ireturn, 1) := by decide +kernel
theorem dX9_read_160 : decode cX9_read 160 = .ok (.aload_n 0, 1) := by decide +kernel
theorem dX9_read_161 : decode cX9_read 161 = .ok (.aload_n 0, 1) := by decide +kernel
theorem dX9_read_162 : decode cX9_read 162 = .ok (.getfield 269, 3) := by decide +kernel
theorem dX9_read_165 : decode cX9_read 165 = .ok (.putfield 266, 3) := by decide +kernel
theorem dX9_read_168 : decode cX9_read 168 = .ok (.iconst 0, 1) := by decide +kernel
theorem dX9_read_169 : decode cX9_read 169 = .ok (.ireturn, 1) := by decide +kernel
theorem dX9_place_0 : decode cX9_place 0 = .ok (.aload_n 0, 1) := by decide +kernel
theorem dX9_place_1 : decode cX9_place 1 = .ok (.getfield 37, 3) := by decide +kernel
theorem dX9_place_4 : decode cX9_place 4 = .ok (.ireturn, 1) := by decide +kernel
theorem dX9_tellRule_0 : decode cX9_tellRule 0 = .ok (.aload_n 0, 1) := by decide +kernel
theorem dX9_tellRule_1 : decode cX9_tellRule 1 = .ok (.bipush 20, 2) := by decide +kernel
theorem dX9_tellRule_3 : decode cX9_tellRule 3 = .ok (.invokevirtual 254, 3) := by decide +kernel
theorem dX9_tellRule_6 : decode cX9_tellRule 6 = .ok (.ifCond .ne 48, 3) := by decide +kernel
theorem dX9_tellRule_9 : decode cX9_tellRule 9 = .ok (.aload_n 0, 1) := by decide +kernel
theorem dX9_tellRule_10 : decode cX9_tellRule 10 = .ok (.bipush 22, 2) := by decide +kernel
theorem dX9_tellRule_12 : decode cX9_tellRule 12 = .ok (.invokevirtual 254, 3) := by decide +kernel
theorem dX9_tellRule_15 : decode cX9_tellRule 15 = .ok (.ifCond .ne 39, 3) := by decide +kernel
theorem dX9_tellRule_18 : decode cX9_tellRule 18 = .ok (.aload_n 0, 1) := by decide +kernel
theorem dX9_tellRule_19 : decode cX9_tellRule 19 = .ok (.bipush 23, 2) := by decide +kernel
theorem dX9_tellRule_21 : decode cX9_tellRule 21 = .ok (.invokevirtual 254, 3) := by decide +kernel
theorem dX9_tellRule_24 : decode cX9_tellRule 24 = .ok (.ifCond .ne 30, 3) := by decide +kernel
theorem dX9_tellRule_27 : decode cX9_tellRule 27 = .ok (.aload_n 0, 1) := by decide +kernel
theorem dX9_tellRule_28 : decode cX9_tellRule 28 = .ok (.bipush 24, 2) := by decide +kernel
theorem dX9_tellRule_30 : decode cX9_tellRule 30 = .ok (.invokevirtual 254, 3) := by decide +kernel
theorem dX9_tellRule_33 : decode cX9_tellRule 33 = .ok (.ifCond .ne 21, 3) := by decide +kernel
theorem dX9_tellRule_36 : decode cX9_tellRule 36 = .ok (.aload_n 0, 1) := by decide +kernel
theorem dX9_tellRule_37 : decode cX9_tellRule 37 = .ok (.bipush 25, 2) := by decide +kernel
theorem dX9_tellRule_39 : decode cX9_tellRule 39 = .ok (.invokevirtual 254, 3) := by decide +kernel
theorem dX9_tellRule_42 : decode cX9_tellRule 42 = .ok (.ifCond .ne 12, 3) := by decide +kernel
theorem dX9_tellRule_45 : decode cX9_tellRule 45 = .ok (.aload_n 0, 1) := by decide +kernel
theorem dX9_tellRule_46 : decode cX9_tellRule 46 = .ok (.bipush 26, 2) := by decide +kernel
theorem dX9_tellRule_48 : decode cX9_tellRule 48 = .ok (.invokevirtual 254, 3) := by decide +kernel
theorem dX9_tellRule_51 : decode cX9_tellRule 51 = .ok (.ifCond .eq 7, 3) := by decide +kernel
theorem dX9_tellRule_54 : decode cX9_tellRule 54 = .ok (.iconst 1, 1) := by decide +kernel
theorem dX9_tellRule_55 : decode cX9_tellRule 55 = .ok (.goto 4, 3) := by decide +kernel
theorem dX9_tellRule_58 : decode cX9_tellRule 58 = .ok (.iconst 0, 1) := by decide +kernel
theorem dX9_tellRule_59 : decode cX9_tellRule 59 = .ok (.istore_n 1, 1) := by decide +kernel
theorem dX9_tellRule_60 : decode cX9_tellRule 60 = .ok (.iload_n 1, 1) := by decide +kernel
theorem dX9_tellRule_61 : decode cX9_tellRule 61 = .ok (.ifCond .ne 11, 3) := by decide +kernel
theorem dX9_tellRule_64 : decode cX9_tellRule 64 = .ok (.aload_n 0, 1) := by decide +kernel
theorem dX9_tellRule_65 : decode cX9_tellRule 65 = .ok (.iconst 1, 1) := by decide +kernel
theorem dX9_tellRule_66 : decode cX9_tellRule 66 = .ok (.invokevirtual 251, 3) := by decide +kernel
theorem dX9_tellRule_69 : decode cX9_tellRule 69 = .ok (.goto 22, 3) := by decide +kernel
theorem dX9_tellRule_72 : decode cX9_tellRule 72 = .ok (.aload_n 0, 1) := by decide +kernel
theorem dX9_tellRule_73 : decode cX9_tellRule 73 = .ok (.getfield 40, 3) := by decide +kernel
theorem dX9_tellRule_76 : decode cX9_tellRule 76 = .ok (.aload_n 0, 1) := by decide +kernel
theorem dX9_tellRule_77 : decode cX9_tellRule 77 = .ok (.getfield 269, 3) := by decide +kernel
theorem dX9_tellRule_80 : decode cX9_tellRule 80 = .ok (.iaload, 1) := by decide +kernel
theorem dX9_tellRule_81 : decode cX9_tellRule 81 = .ok (.bipush 16, 2) := by decide +kernel
theorem dX9_tellRule_83 : decode cX9_tellRule 83 = .ok (.if_icmp .ne 8, 3) := by decide +kernel
theorem dX9_tellRule_86 : decode cX9_tellRule 86 = .ok (.aload_n 0, 1) := by decide +kernel
theorem dX9_tellRule_87 : decode cX9_tellRule 87 = .ok (.iconst 2, 1) := by decide +kernel
theorem dX9_tellRule_88 : decode cX9_tellRule 88 = .ok (.invokevirtual 251, 3) := by decide +kernel
theorem dX9_tellRule_91 : decode cX9_tellRule 91 = .ok (.aload_n 0, 1) := by decide +kernel
theorem dX9_tellRule_92 : decode cX9_tellRule 92 = .ok (.getfield 236, 3) := by decide +kernel
theorem dX9_tellRule_95 : decode cX9_tellRule 95 = .ok (.ifCond .le 4, 3) := by decide +kernel
theorem dX9_tellRule_98 : decode cX9_tellRule 98 = .ok (.return_, 1) := by decide +kernel
theorem dX9_tellRule_99 : decode cX9_tellRule 99 = .ok (.bipush 16, 2) := by decide +kernel
theorem dX9_tellRule_101 : decode cX9_tellRule 101 = .ok (.aload_n 0, 1) := by decide +kernel
theorem dX9_tellRule_102 : decode cX9_tellRule 102 = .ok (.getfield 269, 3) := by decide +kernel
theorem dX9_tellRule_105 : decode cX9_tellRule 105 = .ok (.imul, 1) := by decide +kernel
theorem dX9_tellRule_106 : decode cX9_tellRule 106 = .ok (.aload_n 0, 1) := by decide +kernel
theorem dX9_tellRule_107 : decode cX9_tellRule 107 = .ok (.getfield 40, 3) := by decide +kernel
theorem dX9_tellRule_110 : decode cX9_tellRule 110 = .ok (.aload_n 0, 1) := by decide +kernel
theorem dX9_tellRule_111 : decode cX9_tellRule 111 = .ok (.getfield 269, 3) := by decide +kernel
theorem dX9_tellRule_114 : decode cX9_tellRule 114 = .ok (.iaload, 1) := by decide +kernel
theorem dX9_tellRule_115 : decode cX9_tellRule 115 = .ok (.iadd, 1) := by decide +kernel
theorem dX9_tellRule_116 : decode cX9_tellRule 116 = .ok (.istore_n 2, 1) := by decide +kernel
theorem dX9_tellRule_117 : decode cX9_tellRule 117 = .ok (.aload_n 0, 1) := by decide +kernel
theorem dX9_tellRule_118 : decode cX9_tellRule 118 = .ok (.getfield 43, 3) := by decide +kernel
theorem dX9_tellRule_121 : decode cX9_tellRule 121 = .ok (.iload_n 2, 1) := by decide +kernel
theorem dX9_tellRule_122 : decode cX9_tellRule 122 = .ok (.aload_n 0, 1) := by decide +kernel
theorem dX9_tellRule_123 : decode cX9_tellRule 123 = .ok (.bipush 20, 2) := by decide +kernel
theorem dX9_tellRule_125 : decode cX9_tellRule 125 = .ok (.invokevirtual 254, 3) := by decide +kernel
theorem dX9_tellRule_128 : decode cX9_tellRule 128 = .ok (.ifCond .eq 7, 3) := by decide +kernel
theorem dX9_tellRule_131 : decode cX9_tellRule 131 = .ok (.iconst 0, 1) := by decide +kernel
theorem dX9_tellRule_132 : decode cX9_tellRule 132 = .ok (.goto 17, 3) := by decide +kernel
theorem dX9_tellRule_135 : decode cX9_tellRule 135 = .ok (.aload_n 0, 1) := by decide +kernel
theorem dX9_tellRule_136 : decode cX9_tellRule 136 = .ok (.getfield 20, 3) := by decide +kernel
theorem dX9_tellRule_139 : decode cX9_tellRule 139 = .ok (.aload_n 0, 1) := by decide +kernel
theorem dX9_tellRule_140 : decode cX9_tellRule 140 = .ok (.getfield 239, 3) := by decide +kernel
theorem dX9_tellRule_143 : decode cX9_tellRule 143 = .ok (.iaload, 1) := by decide +kernel
theorem dX9_tellRule_144 : decode cX9_tellRule 144 = .ok (.bipush 22, 2) := by decide +kernel
theorem dX9_tellRule_146 : decode cX9_tellRule 146 = .ok (.isub, 1) := by decide +kernel
theorem dX9_tellRule_147 : decode cX9_tellRule 147 = .ok (.iconst 1, 1) := by decide +kernel
theorem dX9_tellRule_148 : decode cX9_tellRule 148 = .ok (.iadd, 1) := by decide +kernel
theorem dX9_tellRule_149 : decode cX9_tellRule 149 = .ok (.iastore, 1) := by decide +kernel
theorem dX9_tellRule_150 : decode cX9_tellRule 150 = .ok (.aload_n 0, 1) := by decide +kernel
theorem dX9_tellRule_151 : decode cX9_tellRule 151 = .ok (.invokevirtual 257, 3) := by decide +kernel
theorem dX9_tellRule_154 : decode cX9_tellRule 154 = .ok (.aload_n 0, 1) := by decide +kernel
theorem dX9_tellRule_155 : decode cX9_tellRule 155 = .ok (.getfield 46, 3) := by decide +kernel
theorem dX9_tellRule_158 : decode cX9_tellRule 158 = .ok (.iload_n 2, 1) := by decide +kernel
theorem dX9_tellRule_159 : decode cX9_tellRule 159 = .ok (.aload_n 0, 1) := by decide +kernel
theorem dX9_tellRule_160 : decode cX9_tellRule 160 = .ok (.getfield 272, 3) := by decide +kernel
theorem dX9_tellRule_163 : decode cX9_tellRule 163 = .ok (.iastore, 1) := by decide +kernel
theorem dX9_tellRule_164 : decode cX9_tellRule 164 = .ok (.aload_n 0, 1) := by decide +kernel
theorem dX9_tellRule_165 : decode cX9_tellRule 165 = .ok (.invokevirtual 278, 3) := by decide +kernel
theorem dX9_tellRule_168 : decode cX9_tellRule 168 = .ok (.aload_n 0, 1) := by decide +kernel
theorem dX9_tellRule_169 : decode cX9_tellRule 169 = .ok (.getfield 49, 3) := by decide +kernel
theorem dX9_tellRule_172 : decode cX9_tellRule 172 = .ok (.iload_n 2, 1) := by decide +kernel
theorem dX9_tellRule_173 : decode cX9_tellRule 173 = .ok (.aload_n 0, 1) := by decide +kernel
theorem dX9_tellRule_174 : decode cX9_tellRule 174 = .ok (.getfield 272, 3) := by decide +kernel
theorem dX9_tellRule_177 : decode cX9_tellRule 177 = .ok (.iastore, 1) := by decide +kernel
theorem dX9_tellRule_178 : decode cX9_tellRule 178 = .ok (.aload_n 0, 1) := by decide +kernel
theorem dX9_tellRule_179 : decode cX9_tellRule 179 = .ok (.getfield 52, 3) := by decide +kernel
theorem dX9_tellRule_182 : decode cX9_tellRule 182 = .ok (.iload_n 2, 1) := by decide +kernel
theorem dX9_tellRule_183 : decode cX9_tellRule 183 = .ok (.aload_n 0, 1) := by decide +kernel
theorem dX9_tellRule_184 : decode cX9_tellRule 184 = .ok (.getfield 58, 3) := by decide +kernel
theorem dX9_tellRule_187 : decode cX9_tellRule 187 = .ok (.aload_n 0, 1) := by decide +kernel
theorem dX9_tellRule_188 : decode cX9_tellRule 188 = .ok (.getfield 269, 3) := by decide +kernel
theorem dX9_tellRule_191 : decode cX9_tellRule 191 = .ok (.iaload, 1) := by decide +kernel
theorem dX9_tellRule_192 : decode cX9_tellRule 192 = .ok (.iastore, 1) := by decide +kernel
theorem dX9_tellRule_193 : decode cX9_tellRule 193 = .ok (.aload_n 0, 1) := by decide +kernel
theorem dX9_tellRule_194 : decode cX9_tellRule 194 = .ok (.bipush 21, 2) := by decide +kernel
theorem dX9_tellRule_196 : decode cX9_tellRule 196 = .ok (.invokevirtual 254, 3) := by decide +kernel
theorem dX9_tellRule_199 : decode cX9_tellRule 199 = .ok (.istore_n 3, 1) := by decide +kernel
theorem dX9_tellRule_200 : decode cX9_tellRule 200 = .ok (.iload_n 3, 1) := by decide +kernel
theorem dX9_tellRule_201 : decode cX9_tellRule 201 = .ok (.ifCond .eq 7, 3) := by decide +kernel
theorem dX9_tellRule_204 : decode cX9_tellRule 204 = .ok (.aload_n 0, 1) := by decide +kernel
theorem dX9_tellRule_205 : decode cX9_tellRule 205 = .ok (.invokevirtual 257, 3) := by decide +kernel
theorem dX9_tellRule_208 : decode cX9_tellRule 208 = .ok (.iconst 1, 1) := by decide +kernel
theorem dX9_tellRule_209 : decode cX9_tellRule 209 = .ok (.istore 4, 2) := by decide +kernel
theorem dX9_tellRule_211 : decode cX9_tellRule 211 = .ok (.iload_n 3, 1) := by decide +kernel
theorem dX9_tellRule_212 : decode cX9_tellRule 212 = .ok (.ifCond .eq 55, 3) := by decide +kernel
theorem dX9_tellRule_215 : decode cX9_tellRule 215 = .ok (.aload_n 0, 1) := by decide +kernel
theorem dX9_tellRule_216 : decode cX9_tellRule 216 = .ok (.getfield 236, 3) := by decide +kernel
theorem dX9_tellRule_219 : decode cX9_tellRule 219 = .ok (.ifCond .ne 48, 3) := by decide +kernel
theorem dX9_tellRule_222 : decode cX9_tellRule 222 = .ok (.aload_n 0, 1) := by decide +kernel
theorem dX9_tellRule_223 : decode cX9_tellRule 223 = .ok (.iload 4, 2) := by decide +kernel
theorem dX9_tellRule_225 : decode cX9_tellRule 225 = .ok (.invokevirtual 281, 3) := by decide +kernel
theorem dX9_tellRule_228 : decode cX9_tellRule 228 = .ok (.aload_n 0, 1) := by decide +kernel
theorem dX9_tellRule_229 : decode cX9_tellRule 229 = .ok (.bipush 27, 2) := by decide +kernel
theorem dX9_tellRule_231 : decode cX9_tellRule 231 = .ok (.invokevirtual 254, 3) := by decide +kernel
theorem dX9_tellRule_234 : decode cX9_tellRule 234 = .ok (.istore 4, 2) := by decide +kernel
theorem dX9_tellRule_236 : decode cX9_tellRule 236 = .ok (.iload 4, 2) := by decide +kernel
theorem dX9_tellRule_238 : decode cX9_tellRule 238 = .ok (.ifCond .ne 12, 3) := by decide +kernel
theorem dX9_tellRule_241 : decode cX9_tellRule 241 = .ok (.aload_n 0, 1) := by decide +kernel
theorem dX9_tellRule_242 : decode cX9_tellRule 242 = .ok (.bipush 28, 2) := by decide +kernel
theorem dX9_tellRule_244 : decode cX9_tellRule 244 = .ok (.invokevirtual 254, 3) := by decide +kernel
theorem dX9_tellRule_247 : decode cX9_tellRule 247 = .ok (.ifCond .eq 7, 3) := by decide +kernel
theorem dX9_tellRule_250 : decode cX9_tellRule 250 = .ok (.iconst 1, 1) := by decide +kernel
theorem dX9_tellRule_251 : decode cX9_tellRule 251 = .ok (.goto 4, 3) := by decide +kernel
theorem dX9_tellRule_254 : decode cX9_tellRule 254 = .ok (.iconst 0, 1) := by decide +kernel
theorem dX9_tellRule_255 : decode cX9_tellRule 255 = .ok (.istore_n 3, 1) := by decide +kernel
theorem dX9_tellRule_256 : decode cX9_tellRule 256 = .ok (.iload_n 3, 1) := by decide +kernel
theorem dX9_tellRule_257 : decode cX9_tellRule 257 = .ok (.ifCond .eq (-46), 3) := by decide +kernel
theorem dX9_tellRule_260 : decode cX9_tellRule 260 = .ok (.aload_n 0, 1) := by decide +kernel
theorem dX9_tellRule_261 : decode cX9_tellRule 261 = .ok (.invokevirtual 257, 3) := by decide +kernel
theorem dX9_tellRule_264 : decode cX9_tellRule 264 = .ok (.goto (-53), 3) := by decide +kernel
theorem dX9_tellRule_267 : decode cX9_tellRule 267 = .ok (.aload_n 0, 1) := by decide +kernel
theorem dX9_tellRule_268 : decode cX9_tellRule 268 = .ok (.iconst 4, 1) := by decide +kernel
theorem dX9_tellRule_269 : decode cX9_tellRule 269 = .ok (.invokevirtual 285, 3) := by decide +kernel
theorem dX9_tellRule_272 : decode cX9_tellRule 272 = .ok (.aload_n 0, 1) := by decide +kernel
theorem dX9_tellRule_273 : decode cX9_tellRule 273 = .ok (.getfield 236, 3) := by decide +kernel
theorem dX9_tellRule_276 : decode cX9_tellRule 276 = .ok (.ifCond .le 4, 3) := by decide +kernel
theorem dX9_tellRule_279 : decode cX9_tellRule 279 = .ok (.return_, 1) := by decide +kernel
theorem dX9_tellRule_280 : decode cX9_tellRule 280 = .ok (.aload_n 0, 1) := by decide +kernel
theorem dX9_tellRule_281 : decode cX9_tellRule 281 = .ok (.getfield 55, 3) := by decide +kernel
theorem dX9_tellRule_284 : decode cX9_tellRule 284 = .ok (.iload_n 2, 1) := by decide +kernel
theorem dX9_tellRule_285 : decode cX9_tellRule 285 = .ok (.aload_n 0, 1) := by decide +kernel
theorem dX9_tellRule_286 : decode cX9_tellRule 286 = .ok (.getfield 58, 3) := by decide +kernel
theorem dX9_tellRule_289 : decode cX9_tellRule 289 = .ok (.aload_n 0, 1) := by decide +kernel
theorem dX9_tellRule_290 : decode cX9_tellRule 290 = .ok (.getfield 269, 3) := by decide +kernel
theorem dX9_tellRule_293 : decode cX9_tellRule 293 = .ok (.iaload, 1) := by decide +kernel
theorem dX9_tellRule_294 : decode cX9_tellRule 294 = .ok (.iastore, 1) := by decide +kernel
theorem dX9_tellRule_295 : decode cX9_tellRule 295 = .ok (.aload_n 0, 1) := by decide +kernel
theorem dX9_tellRule_296 : decode cX9_tellRule 296 = .ok (.getfield 40, 3) := by decide +kernel
theorem dX9_tellRule_299 : decode cX9_tellRule 299 = .ok (.aload_n 0, 1) := by decide +kernel
theorem dX9_tellRule_300 : decode cX9_tellRule 300 = .ok (.getfield 269, 3) := by decide +kernel
theorem dX9_tellRule_303 : decode cX9_tellRule 303 = .ok (.dup2, 1) := by decide +kernel
theorem dX9_tellRule_304 : decode cX9_tellRule 304 = .ok (.iaload, 1) := by decide +kernel
theorem dX9_tellRule_305 : decode cX9_tellRule 305 = .ok (.iconst 1, 1) := by decide +kernel
theorem dX9_tellRule_306 : decode cX9_tellRule 306 = .ok (.iadd, 1) := by decide +kernel
theorem dX9_tellRule_307 : decode cX9_tellRule 307 = .ok (.iastore, 1) := by decide +kernel
theorem dX9_tellRule_308 : decode cX9_tellRule 308 = .ok (.return_, 1) := by decide +kernel
theorem dX9_relation_0 : decode cX9_relation 0 = .ok (.aload_n 0, 1) := by decide +kernel
theorem dX9_relation_1 : decode cX9_relation 1 = .ok (.getfield 272, 3) := by decide +kernel
theorem dX9_relation_4 : decode cX9_relation 4 = .ok (.istore_n 2, 1) := by decide +kernel
theorem dX9_relation_5 : decode cX9_relation 5 = .ok (.aload_n 0, 1) := by decide +kernel
theorem dX9_relation_6 : decode cX9_relation 6 = .ok (.invokevirtual 278, 3) := by decide +kernel
theorem dX9_relation_9 : decode cX9_relation 9 = .ok (.aload_n 0, 1) := by decide +kernel
theorem dX9_relation_10 : decode cX9_relation 10 = .ok (.getfield 236, 3) := by decide +kernel
theorem dX9_relation_13 : decode cX9_relation 13 = .ok (.ifCond .le 7, 3) := by decide +kernel
theorem dX9_relation_16 : decode cX9_relation 16 = .ok (.iconst 0, 1) := by decide +kernel
theorem dX9_relation_17 : decode cX9_relation 17 = .ok (.goto 15, 3) := by decide +kernel
theorem dX9_relation_20 : decode cX9_relation 20 = .ok (.aload_n 0, 1) := by decide +kernel
theorem dX9_relation_21 : decode cX9_relation 21 = .ok (.getfield 20, 3) := by decide +kernel
theorem dX9_relation_24 : decode cX9_relation 24 = .ok (.aload_n 0, 1) := by decide +kernel
theorem dX9_relation_25 : decode cX9_relation 25 = .ok (.getfield 239, 3) := by decide +kernel
theorem dX9_relation_28 : decode cX9_relation 28 = .ok (.iaload, 1) := by decide +kernel
theorem dX9_relation_29 : decode cX9_relation 29 = .ok (.bipush 11, 2) := by decide +kernel
theorem dX9_relation_31 : decode cX9_relation 31 = .ok (.isub, 1) := by decide +kernel
theorem dX9_relation_32 : decode cX9_relation 32 = .ok (.istore_n 3, 1) := by decide +kernel
theorem dX9_relation_33 : decode cX9_relation 33 = .ok (.aload_n 0, 1) := by decide +kernel
theorem dX9_relation_34 : decode cX9_relation 34 = .ok (.getfield 236, 3) := by decide +kernel
theorem dX9_relation_37 : decode cX9_relation 37 = .ok (.ifCond .ne 17, 3) := by decide +kernel
theorem dX9_relation_40 : decode cX9_relation 40 = .ok (.iload_n 3, 1) := by decide +kernel
theorem dX9_relation_41 : decode cX9_relation 41 = .ok (.ifCond .lt 8, 3) := by decide +kernel
theorem dX9_relation_44 : decode cX9_relation 44 = .ok (.iload_n 3, 1) := by decide +kernel
theorem dX9_relation_45 : decode cX9_relation 45 = .ok (.iconst 3, 1) := by decide +kernel
theorem dX9_relation_46 : decode cX9_relation 46 = .ok (.if_icmp .le 8, 3) := by decide +kernel
theorem dX9_relation_49 : decode cX9_relation 49 = .ok (.aload_n 0, 1) := by decide +kernel
theorem dX9_relation_50 : decode cX9_relation 50 = .ok (.iconst 1, 1) := by decide +kernel
theorem dX9_relation_51 : decode cX9_relation 51 = .ok (.invokevirtual 251, 3) := by decide +kernel
theorem dX9_relation_54 : decode cX9_relation 54 = .ok (.aload_n 0, 1) := by decide +kernel
theorem dX9_relation_55 : decode cX9_relation 55 = .ok (.invokevirtual 257, 3) := by decide +kernel
theorem dX9_relation_58 : decode cX9_relation 58 = .ok (.aload_n 0, 1) := by decide +kernel
theorem dX9_relation_59 : decode cX9_relation 59 = .ok (.getfield 272, 3) := by decide +kernel
theorem dX9_relation_62 : decode cX9_relation 62 = .ok (.istore 4, 2) := by decide +kernel
theorem dX9_relation_64 : decode cX9_relation 64 = .ok (.aload_n 0, 1) := by decide +kernel
theorem dX9_relation_65 : decode cX9_relation 65 = .ok (.invokevirtual 278, 3) := by decide +kernel
theorem dX9_relation_68 : decode cX9_relation 68 = .ok (.aload_n 0, 1) := by decide +kernel
theorem dX9_relation_69 : decode cX9_relation 69 = .ok (.getfield 236, 3) := by decide +kernel
theorem dX9_relation_72 : decode cX9_relation 72 = .ok (.ifCond .le 4, 3) := by decide +kernel
theorem dX9_relation_75 : decode cX9_relation 75 = .ok (.return_, 1) := by decide +kernel
theorem dX9_relation_76 : decode cX9_relation 76 = .ok (.sipush 200, 3) := by decide +kernel
theorem dX9_relation_79 : decode cX9_relation 79 = .ok (.aload_n 0, 1) := by decide +kernel
theorem dX9_relation_80 : decode cX9_relation 80 = .ok (.getfield 269, 3) := by decide +kernel
theorem dX9_relation_83 : decode cX9_relation 83 = .ok (.imul, 1) := by decide +kernel
theorem dX9_relation_84 : decode cX9_relation 84 = .ok (.aload_n 0, 1) := by decide +kernel
theorem dX9_relation_85 : decode cX9_relation 85 = .ok (.getfield 58, 3) := by decide +kernel
theorem dX9_relation_88 : decode cX9_relation 88 = .ok (.aload_n 0, 1) := by decide +kernel
theorem dX9_relation_89 : decode cX9_relation 89 = .ok (.getfield 269, 3) := by decide +kernel
theorem dX9_relation_92 : decode cX9_relation 92 = .ok (.iaload, 1) := by decide +kernel
theorem dX9_relation_93 : decode cX9_relation 93 = .ok (.iadd, 1) := by decide +kernel
theorem dX9_relation_94 : decode cX9_relation 94 = .ok (.istore 5, 2) := by decide +kernel
theorem dX9_relation_96 : decode cX9_relation 96 = .ok (.aload_n 0, 1) := by decide +kernel
theorem dX9_relation_97 : decode cX9_relation 97 = .ok (.getfield 61, 3) := by decide +kernel
theorem dX9_relation_100 : decode cX9_relation 100 = .ok (.iload 5, 2) := by decide +kernel
theorem dX9_relation_102 : decode cX9_relation 102 = .ok (.iload_n 3, 1) := by decide +kernel
theorem dX9_relation_103 : decode cX9_relation 103 = .ok (.iastore, 1) := by decide +kernel
theorem dX9_relation_104 : decode cX9_relation 104 = .ok (.aload_n 0, 1) := by decide +kernel
theorem dX9_relation_105 : decode cX9_relation 105 = .ok (.getfield 64, 3) := by decide +kernel
theorem dX9_relation_108 : decode cX9_relation 108 = .ok (.iload 5, 2) := by decide +kernel
theorem dX9_relation_110 : decode cX9_relation 110 = .ok (.iload_n 2, 1) := by decide +kernel
theorem dX9_relation_111 : decode cX9_relation 111 = .ok (.iastore, 1) := by decide +kernel
theorem dX9_relation_112 : decode cX9_relation 112 = .ok (.aload_n 0, 1) := by decide +kernel
theorem dX9_relation_113 : decode cX9_relation 113 = .ok (.getfield 67, 3) := by decide +kernel
theorem dX9_relation_116 : decode cX9_relation 116 = .ok (.iload 5, 2) := by decide +kernel
theorem dX9_relation_118 : decode cX9_relation 118 = .ok (.iload 4, 2) := by decide +kernel
theorem dX9_relation_120 : decode cX9_relation 120 = .ok (.iastore, 1) := by decide +kernel
theorem dX9_relation_121 : decode cX9_relation 121 = .ok (.aload_n 0, 1) := by decide +kernel
theorem dX9_relation_122 : decode cX9_relation 122 = .ok (.getfield 70, 3) := by decide +kernel
theorem dX9_relation_125 : decode cX9_relation 125 = .ok (.iload 5, 2) := by decide +kernel
theorem dX9_relation_127 : decode cX9_relation 127 = .ok (.aload_n 0, 1) := by decide +kernel
theorem dX9_relation_128 : decode cX9_relation 128 = .ok (.getfield 272, 3) := by decide +kernel
theorem dX9_relation_131 : decode cX9_relation 131 = .ok (.iastore, 1) := by decide +kernel
theorem dX9_relation_132 : decode cX9_relation 132 = .ok (.aload_n 0, 1) := by decide +kernel
theorem dX9_relation_133 : decode cX9_relation 133 = .ok (.getfield 73, 3) := by decide +kernel
theorem dX9_relation_136 : decode cX9_relation 136 = .ok (.iload 5, 2) := by decide +kernel
theorem dX9_relation_138 : decode cX9_relation 138 = .ok (.iload_n 1, 1) := by decide +kernel
theorem dX9_relation_139 : decode cX9_relation 139 = .ok (.bastore, 1) := by decide +kernel
theorem dX9_relation_140 : decode cX9_relation 140 = .ok (.aload_n 0, 1) := by decide +kernel
theorem dX9_relation_141 : decode cX9_relation 141 = .ok (.getfield 58, 3) := by decide +kernel
theorem dX9_relation_144 : decode cX9_relation 144 = .ok (.aload_n 0, 1) := by decide +kernel
theorem dX9_relation_145 : decode cX9_relation 145 = .ok (.getfield 269, 3) := by decide +kernel
theorem dX9_relation_148 : decode cX9_relation 148 = .ok (.dup2, 1) := by decide +kernel
theorem dX9_relation_149 : decode cX9_relation 149 = .ok (.iaload, 1) := by decide +kernel
theorem dX9_relation_150 : decode cX9_relation 150 = .ok (.iconst 1, 1) := by decide +kernel
theorem dX9_relation_151 : decode cX9_relation 151 = .ok (.iadd, 1) := by decide +kernel
theorem dX9_relation_152 : decode cX9_relation 152 = .ok (.iastore, 1) := by decide +kernel
theorem dX9_relation_153 : decode cX9_relation 153 = .ok (.return_, 1) := by decide +kernel
theorem dX9_emit_0 : decode cX9_emit 0 = .ok (.aload_n 0, 1) := by decide +kernel
theorem dX9_emit_1 : decode cX9_emit 1 = .ok (.getfield 77, 3) := by decide +kernel
theorem dX9_emit_4 : decode cX9_emit 4 = .ok (.aload_n 0, 1) := by decide +kernel
theorem dX9_emit_5 : decode cX9_emit 5 = .ok (.getfield 272, 3) := by decide +kernel
theorem dX9_emit_8 : decode cX9_emit 8 = .ok (.iload_n 1, 1) := by decide +kernel
theorem dX9_emit_9 : decode cX9_emit 9 = .ok (.iastore, 1) := by decide +kernel
theorem dX9_emit_10 : decode cX9_emit 10 = .ok (.aload_n 0, 1) := by decide +kernel
theorem dX9_emit_11 : decode cX9_emit 11 = .ok (.getfield 80, 3) := by decide +kernel
theorem dX9_emit_14 : decode cX9_emit 14 = .ok (.aload_n 0, 1) := by decide +kernel
theorem dX9_emit_15 : decode cX9_emit 15 = .ok (.getfield 272, 3) := by decide +kernel
theorem dX9_emit_18 : decode cX9_emit 18 = .ok (.iload_n 2, 1) := by decide +kernel
theorem dX9_emit_19 : decode cX9_emit 19 = .ok (.iastore, 1) := by decide +kernel
theorem dX9_emit_20 : decode cX9_emit 20 = .ok (.aload_n 0, 1) := by decide +kernel
theorem dX9_emit_21 : decode cX9_emit 21 = .ok (.dup, 1) := by decide +kernel
theorem dX9_emit_22 : decode cX9_emit 22 = .ok (.getfield 272, 3) := by decide +kernel
theorem dX9_emit_25 : decode cX9_emit 25 = .ok (.iconst 1, 1) := by decide +kernel
theorem dX9_emit_26 : decode cX9_emit 26 = .ok (.iadd, 1) := by decide +kernel
theorem dX9_emit_27 : decode cX9_emit 27 = .ok (.putfield 272, 3) := by decide +kernel
theorem dX9_emit_30 : decode cX9_emit 30 = .ok (.return_, 1) := by decide +kernel
theorem dX9_comesOut_0 : decode cX9_comesOut 0 = .ok (.aload_n 0, 1) := by decide +kernel
theorem dX9_comesOut_1 : decode cX9_comesOut 1 = .ok (.getfield 288, 3) := by decide +kernel
theorem dX9_comesOut_4 : decode cX9_comesOut 4 = .ok (.ifCond .le 88, 3) := by decide +kernel
theorem dX9_comesOut_7 : decode cX9_comesOut 7 = .ok (.aload_n 0, 1) := by decide +kernel
theorem dX9_comesOut_8 : decode cX9_comesOut 8 = .ok (.getfield 83, 3) := by decide +kernel
theorem dX9_comesOut_11 : decode cX9_comesOut 11 = .ok (.aload_n 0, 1) := by decide +kernel
theorem dX9_comesOut_12 : decode cX9_comesOut 12 = .ok (.getfield 288, 3) := by decide +kernel
theorem dX9_comesOut_15 : decode cX9_comesOut 15 = .ok (.iconst 1, 1) := by decide +kernel
theorem dX9_comesOut_16 : decode cX9_comesOut 16 = .ok (.isub, 1) := by decide +kernel
theorem dX9_comesOut_17 : decode cX9_comesOut 17 = .ok (.iaload, 1) := by decide +kernel
theorem dX9_comesOut_18 : decode cX9_comesOut 18 = .ok (.bipush 6, 2) := by decide +kernel
theorem dX9_comesOut_20 : decode cX9_comesOut 20 = .ok (.if_icmp .eq 72, 3) := by decide +kernel
theorem dX9_comesOut_23 : decode cX9_comesOut 23 = .ok (.iload_n 1, 1) := by decide +kernel
theorem dX9_comesOut_24 : decode cX9_comesOut 24 = .ok (.ifCond .eq 19, 3) := by decide +kernel
theorem dX9_comesOut_27 : decode cX9_comesOut 27 = .ok (.aload_n 0, 1) := by decide +kernel
theorem dX9_comesOut_28 : decode cX9_comesOut 28 = .ok (.getfield 83, 3) := by decide +kernel
theorem dX9_comesOut_31 : decode cX9_comesOut 31 = .ok (.aload_n 0, 1) := by decide +kernel
theorem dX9_comesOut_32 : decode cX9_comesOut 32 = .ok (.getfield 288, 3) := by decide +kernel
theorem dX9_comesOut_35 : decode cX9_comesOut 35 = .ok (.iconst 1, 1) := by decide +kernel
theorem dX9_comesOut_36 : decode cX9_comesOut 36 = .ok (.isub, 1) := by decide +kernel
theorem dX9_comesOut_37 : decode cX9_comesOut 37 = .ok (.iaload, 1) := by decide +kernel
theorem dX9_comesOut_38 : decode cX9_comesOut 38 = .ok (.bipush 10, 2) := by decide +kernel
theorem dX9_comesOut_40 : decode cX9_comesOut 40 = .ok (.if_icmp .ne 52, 3) := by decide +kernel
theorem dX9_comesOut_43 : decode cX9_comesOut 43 = .ok (.aload_n 0, 1) := by decide +kernel
theorem dX9_comesOut_44 : decode cX9_comesOut 44 = .ok (.dup, 1) := by decide +kernel
theorem dX9_comesOut_45 : decode cX9_comesOut 45 = .ok (.getfield 288, 3) := by decide +kernel
theorem dX9_comesOut_48 : decode cX9_comesOut 48 = .ok (.iconst 1, 1) := by decide +kernel
theorem dX9_comesOut_49 : decode cX9_comesOut 49 = .ok (.isub, 1) := by decide +kernel
theorem dX9_comesOut_50 : decode cX9_comesOut 50 = .ok (.putfield 288, 3) := by decide +kernel
theorem dX9_comesOut_53 : decode cX9_comesOut 53 = .ok (.aload_n 0, 1) := by decide +kernel
theorem dX9_comesOut_54 : decode cX9_comesOut 54 = .ok (.getfield 83, 3) := by decide +kernel
theorem dX9_comesOut_57 : decode cX9_comesOut 57 = .ok (.aload_n 0, 1) := by decide +kernel
theorem dX9_comesOut_58 : decode cX9_comesOut 58 = .ok (.getfield 288, 3) := by decide +kernel
theorem dX9_comesOut_61 : decode cX9_comesOut 61 = .ok (.iaload, 1) := by decide +kernel
theorem dX9_comesOut_62 : decode cX9_comesOut 62 = .ok (.istore_n 2, 1) := by decide +kernel
theorem dX9_comesOut_63 : decode cX9_comesOut 63 = .ok (.aload_n 0, 1) := by decide +kernel
theorem dX9_comesOut_64 : decode cX9_comesOut 64 = .ok (.iload_n 2, 1) := by decide +kernel
theorem dX9_comesOut_65 : decode cX9_comesOut 65 = .ok (.bipush 8, 2) := by decide +kernel
theorem dX9_comesOut_67 : decode cX9_comesOut 67 = .ok (.if_icmp .ne 7, 3) := by decide +kernel
theorem dX9_comesOut_70 : decode cX9_comesOut 70 = .ok (.iconst 2, 1) := by decide +kernel
theorem dX9_comesOut_71 : decode cX9_comesOut 71 = .ok (.goto 14, 3) := by decide +kernel
theorem dX9_comesOut_74 : decode cX9_comesOut 74 = .ok (.iload_n 2, 1) := by decide +kernel
theorem dX9_comesOut_75 : decode cX9_comesOut 75 = .ok (.bipush 9, 2) := by decide +kernel
theorem dX9_comesOut_77 : decode cX9_comesOut 77 = .ok (.if_icmp .ne 7, 3) := by decide +kernel
theorem dX9_comesOut_80 : decode cX9_comesOut 80 = .ok (.iconst 3, 1) := by decide +kernel
theorem dX9_comesOut_81 : decode cX9_comesOut 81 = .ok (.goto 4, 3) := by decide +kernel
theorem dX9_comesOut_84 : decode cX9_comesOut 84 = .ok (.iconst 4, 1) := by decide +kernel
theorem dX9_comesOut_85 : decode cX9_comesOut 85 = .ok (.iconst 0, 1) := by decide +kernel
theorem dX9_comesOut_86 : decode cX9_comesOut 86 = .ok (.invokevirtual 291, 3) := by decide +kernel
theorem dX9_comesOut_89 : decode cX9_comesOut 89 = .ok (.goto (-89), 3) := by decide +kernel
theorem dX9_comesOut_92 : decode cX9_comesOut 92 = .ok (.return_, 1) := by decide +kernel
theorem dX9_expression_0 : decode cX9_expression 0 = .ok (.aload_n 0, 1) := by decide +kernel
theorem dX9_expression_1 : decode cX9_expression 1 = .ok (.iconst 0, 1) := by decide +kernel
theorem dX9_expression_2 : decode cX9_expression 2 = .ok (.putfield 288, 3) := by decide +kernel
theorem dX9_expression_5 : decode cX9_expression 5 = .ok (.aload_n 0, 1) := by decide +kernel
theorem dX9_expression_6 : decode cX9_expression 6 = .ok (.getfield 263, 3) := by decide +kernel
theorem dX9_expression_9 : decode cX9_expression 9 = .ok (.istore_n 1, 1) := by decide +kernel
theorem dX9_expression_10 : decode cX9_expression 10 = .ok (.iconst 1, 1) := by decide +kernel
theorem dX9_expression_11 : decode cX9_expression 11 = .ok (.istore_n 2, 1) := by decide +kernel
theorem dX9_expression_12 : decode cX9_expression 12 = .ok (.iload_n 2, 1) := by decide +kernel
theorem dX9_expression_13 : decode cX9_expression 13 = .ok (.ifCond .eq 347, 3) := by decide +kernel
theorem dX9_expression_16 : decode cX9_expression 16 = .ok (.aload_n 0, 1) := by decide +kernel
theorem dX9_expression_17 : decode cX9_expression 17 = .ok (.getfield 236, 3) := by decide +kernel
theorem dX9_expression_20 : decode cX9_expression 20 = .ok (.ifCond .ne 340, 3) := by decide +kernel
theorem dX9_expression_23 : decode cX9_expression 23 = .ok (.aload_n 0, 1) := by decide +kernel
theorem dX9_expression_24 : decode cX9_expression 24 = .ok (.bipush 6, 2) := by decide +kernel
theorem dX9_expression_26 : decode cX9_expression 26 = .ok (.invokevirtual 254, 3) := by decide +kernel
theorem dX9_expression_29 : decode cX9_expression 29 = .ok (.ifCond .eq 63, 3) := by decide +kernel
theorem dX9_expression_32 : decode cX9_expression 32 = .ok (.aload_n 0, 1) := by decide +kernel
theorem dX9_expression_33 : decode cX9_expression 33 = .ok (.getfield 263, 3) := by decide +kernel
theorem dX9_expression_36 : decode cX9_expression 36 = .ok (.bipush 6, 2) := by decide +kernel
theorem dX9_expression_38 : decode cX9_expression 38 = .ok (.if_icmp .ne 8, 3) := by decide +kernel
theorem dX9_expression_41 : decode cX9_expression 41 = .ok (.aload_n 0, 1) := by decide +kernel
theorem dX9_expression_42 : decode cX9_expression 42 = .ok (.iconst 2, 1) := by decide +kernel
theorem dX9_expression_43 : decode cX9_expression 43 = .ok (.invokevirtual 251, 3) := by decide +kernel
theorem dX9_expression_46 : decode cX9_expression 46 = .ok (.aload_n 0, 1) := by decide +kernel
theorem dX9_expression_47 : decode cX9_expression 47 = .ok (.getfield 236, 3) := by decide +kernel
theorem dX9_expression_50 : decode cX9_expression 50 = .ok (.ifCond .le 4, 3) := by decide +kernel
theorem dX9_expression_53 : decode cX9_expression 53 = .ok (.return_, 1) := by decide +kernel
theorem dX9_expression_54 : decode cX9_expression 54 = .ok (.aload_n 0, 1) := by decide +kernel
theorem dX9_expression_55 : decode cX9_expression 55 = .ok (.dup, 1) := by decide +kernel
theorem dX9_expression_56 : decode cX9_expression 56 = .ok (.getfield 263, 3) := by decide +kernel
theorem dX9_expression_59 : decode cX9_expression 59 = .ok (.iconst 1, 1) := by decide +kernel
theorem dX9_expression_60 : decode cX9_expression 60 = .ok (.iadd, 1) := by decide +kernel
theorem dX9_expression_61 : decode cX9_expression 61 = .ok (.putfield 263, 3) := by decide +kernel
theorem dX9_expression_64 : decode cX9_expression 64 = .ok (.aload_n 0, 1) := by decide +kernel
theorem dX9_expression_65 : decode cX9_expression 65 = .ok (.invokevirtual 257, 3) := by decide +kernel
theorem dX9_expression_68 : decode cX9_expression 68 = .ok (.aload_n 0, 1) := by decide +kernel
theorem dX9_expression_69 : decode cX9_expression 69 = .ok (.getfield 83, 3) := by decide +kernel
theorem dX9_expression_72 : decode cX9_expression 72 = .ok (.aload_n 0, 1) := by decide +kernel
theorem dX9_expression_73 : decode cX9_expression 73 = .ok (.getfield 288, 3) := by decide +kernel
theorem dX9_expression_76 : decode cX9_expression 76 = .ok (.bipush 6, 2) := by decide +kernel
theorem dX9_expression_78 : decode cX9_expression 78 = .ok (.iastore, 1) := by decide +kernel
theorem dX9_expression_79 : decode cX9_expression 79 = .ok (.aload_n 0, 1) := by decide +kernel
theorem dX9_expression_80 : decode cX9_expression 80 = .ok (.dup, 1) := by decide +kernel
theorem dX9_expression_81 : decode cX9_expression 81 = .ok (.getfield 288, 3) := by decide +kernel
theorem dX9_expression_84 : decode cX9_expression 84 = .ok (.iconst 1, 1) := by decide +kernel
theorem dX9_expression_85 : decode cX9_expression 85 = .ok (.iadd, 1) := by decide +kernel
theorem dX9_expression_86 : decode cX9_expression 86 = .ok (.putfield 288, 3) := by decide +kernel
theorem dX9_expression_89 : decode cX9_expression 89 = .ok (.goto (-77), 3) := by decide +kernel
theorem dX9_expression_92 : decode cX9_expression 92 = .ok (.aload_n 0, 1) := by decide +kernel
theorem dX9_expression_93 : decode cX9_expression 93 = .ok (.getfield 236, 3) := by decide +kernel
theorem dX9_expression_96 : decode cX9_expression 96 = .ok (.ifCond .ne 35, 3) := by decide +kernel
theorem dX9_expression_99 : decode cX9_expression 99 = .ok (.aload_n 0, 1) := by decide +kernel
theorem dX9_expression_100 : decode cX9_expression 100 = .ok (.getfield 20, 3) := by decide +kernel
theorem dX9_expression_103 : decode cX9_expression 103 = .ok (.aload_n 0, 1) := by decide +kernel
theorem dX9_expression_104 : decode cX9_expression 104 = .ok (.getfield 239, 3) := by decide +kernel
theorem dX9_expression_107 : decode cX9_expression 107 = .ok (.iaload, 1) := by decide +kernel
theorem dX9_expression_108 : decode cX9_expression 108 = .ok (.bipush 29, 2) := by decide +kernel
theorem dX9_expression_110 : decode cX9_expression 110 = .ok (.if_icmp .lt 21, 3) := by decide +kernel
theorem dX9_expression_113 : decode cX9_expression 113 = .ok (.aload_n 0, 1) := by decide +kernel
theorem dX9_expression_114 : decode cX9_expression 114 = .ok (.getfield 20, 3) := by decide +kernel
theorem dX9_expression_117 : decode cX9_expression 117 = .ok (.aload_n 0, 1) := by decide +kernel
theorem dX9_expression_118 : decode cX9_expression 118 = .ok (.getfield 239, 3) := by decide +kernel
theorem dX9_expression_121 : decode cX9_expression 121 = .ok (.iaload, 1) := by decide +kernel
theorem dX9_expression_122 : decode cX9_expression 122 = .ok (.bipush 33, 2) := by decide +kernel
theorem dX9_expression_124 : decode cX9_expression 124 = .ok (.if_icmp .gt 7, 3) := by decide +kernel
theorem dX9_expression_127 : decode cX9_expression 127 = .ok (.iconst 1, 1) := by decide +kernel
theorem dX9_expression_128 : decode cX9_expression 128 = .ok (.goto 4, 3) := by decide +kernel
theorem dX9_expression_131 : decode cX9_expression 131 = .ok (.iconst 0, 1) := by decide +kernel
theorem dX9_expression_132 : decode cX9_expression 132 = .ok (.istore_n 3, 1) := by decide +kernel
theorem dX9_expression_133 : decode cX9_expression 133 = .ok (.aload_n 0, 1) := by decide +kernel
theorem dX9_expression_134 : decode cX9_expression 134 = .ok (.iconst 2, 1) := by decide +kernel
theorem dX9_expression_135 : decode cX9_expression 135 = .ok (.invokevirtual 254, 3) := by decide +kernel
theorem dX9_expression_138 : decode cX9_expression 138 = .ok (.ifCond .ne 12, 3) := by decide +kernel
theorem dX9_expression_141 : decode cX9_expression 141 = .ok (.iload_n 3, 1) := by decide +kernel
theorem dX9_expression_142 : decode cX9_expression 142 = .ok (.ifCond .ne 8, 3) := by decide +kernel
theorem dX9_expression_145 : decode cX9_expression 145 = .ok (.aload_n 0, 1) := by decide +kernel
theorem dX9_expression_146 : decode cX9_expression 146 = .ok (.iconst 1, 1) := by decide +kernel
theorem dX9_expression_147 : decode cX9_expression 147 = .ok (.invokevirtual 251, 3) := by decide +kernel
theorem dX9_expression_150 : decode cX9_expression 150 = .ok (.aload_n 0, 1) := by decide +kernel
theorem dX9_expression_151 : decode cX9_expression 151 = .ok (.getfield 236, 3) := by decide +kernel
theorem dX9_expression_154 : decode cX9_expression 154 = .ok (.ifCond .le 4, 3) := by decide +kernel
theorem dX9_expression_157 : decode cX9_expression 157 = .ok (.return_, 1) := by decide +kernel
theorem dX9_expression_158 : decode cX9_expression 158 = .ok (.iload_n 3, 1) := by decide +kernel
theorem dX9_expression_159 : decode cX9_expression 159 = .ok (.ifCond .eq 23, 3) := by decide +kernel
theorem dX9_expression_162 : decode cX9_expression 162 = .ok (.aload_n 0, 1) := by decide +kernel
theorem dX9_expression_163 : decode cX9_expression 163 = .ok (.iconst 1, 1) := by decide +kernel
theorem dX9_expression_164 : decode cX9_expression 164 = .ok (.aload_n 0, 1) := by decide +kernel
theorem dX9_expression_165 : decode cX9_expression 165 = .ok (.getfield 20, 3) := by decide +kernel
theorem dX9_expression_168 : decode cX9_expression 168 = .ok (.aload_n 0, 1) := by decide +kernel
theorem dX9_expression_169 : decode cX9_expression 169 = .ok (.getfield 239, 3) := by decide +kernel
theorem dX9_expression_172 : decode cX9_expression 172 = .ok (.iaload, 1) := by decide +kernel
theorem dX9_expression_173 : decode cX9_expression 173 = .ok (.bipush 29, 2) := by decide +kernel
theorem dX9_expression_175 : decode cX9_expression 175 = .ok (.isub, 1) := by decide +kernel
theorem dX9_expression_176 : decode cX9_expression 176 = .ok (.invokevirtual 291, 3) := by decide +kernel
theorem dX9_expression_179 : decode cX9_expression 179 = .ok (.goto 17, 3) := by decide +kernel
theorem dX9_expression_182 : decode cX9_expression 182 = .ok (.aload_n 0, 1) := by decide +kernel
theorem dX9_expression_183 : decode cX9_expression 183 = .ok (.iconst 0, 1) := by decide +kernel
theorem dX9_expression_184 : decode cX9_expression 184 = .ok (.aload_n 0, 1) := by decide +kernel
theorem dX9_expression_185 : decode cX9_expression 185 = .ok (.getfield 27, 3) := by decide +kernel
theorem dX9_expression_188 : decode cX9_expression 188 = .ok (.aload_n 0, 1) := by decide +kernel
theorem dX9_expression_189 : decode cX9_expression 189 = .ok (.getfield 239, 3) := by decide +kernel
theorem dX9_expression_192 : decode cX9_expression 192 = .ok (.iaload, 1) := by decide +kernel
theorem dX9_expression_193 : decode cX9_expression 193 = .ok (.invokevirtual 291, 3) := by decide +kernel
theorem dX9_expression_196 : decode cX9_expression 196 = .ok (.aload_n 0, 1) := by decide +kernel
theorem dX9_expression_197 : decode cX9_expression 197 = .ok (.invokevirtual 257, 3) := by decide +kernel
theorem dX9_expression_200 : decode cX9_expression 200 = .ok (.aload_n 0, 1) := by decide +kernel
theorem dX9_expression_201 : decode cX9_expression 201 = .ok (.bipush 7, 2) := by decide +kernel
theorem dX9_expression_203 : decode cX9_expression 203 = .ok (.invokevirtual 254, 3) := by decide +kernel
theorem dX9_expression_206 : decode cX9_expression 206 = .ok (.ifCond .eq 43, 3) := by decide +kernel
theorem dX9_expression_209 : decode cX9_expression 209 = .ok (.aload_n 0, 1) := by decide +kernel
theorem dX9_expression_210 : decode cX9_expression 210 = .ok (.getfield 263, 3) := by decide +kernel
theorem dX9_expression_213 : decode cX9_expression 213 = .ok (.iload_n 1, 1) := by decide +kernel
theorem dX9_expression_214 : decode cX9_expression 214 = .ok (.if_icmp .le 35, 3) := by decide +kernel
theorem dX9_expression_217 : decode cX9_expression 217 = .ok (.aload_n 0, 1) := by decide +kernel
theorem dX9_expression_218 : decode cX9_expression 218 = .ok (.iconst 0, 1) := by decide +kernel
theorem dX9_expression_219 : decode cX9_expression 219 = .ok (.invokevirtual 295, 3) := by decide +kernel
theorem dX9_expression_222 : decode cX9_expression 222 = .ok (.aload_n 0, 1) := by decide +kernel
theorem dX9_expression_223 : decode cX9_expression 223 = .ok (.dup, 1) := by decide +kernel
theorem dX9_expression_224 : decode cX9_expression 224 = .ok (.getfield 288, 3) := by decide +kernel
theorem dX9_expression_227 : decode cX9_expression 227 = .ok (.iconst 1, 1) := by decide +kernel
theorem dX9_expression_228 : decode cX9_expression 228 = .ok (.isub, 1) := by decide +kernel
theorem dX9_expression_229 : decode cX9_expression 229 = .ok (.putfield 288, 3) := by decide +kernel
theorem dX9_expression_232 : decode cX9_expression 232 = .ok (.aload_n 0, 1) := by decide +kernel
theorem dX9_expression_233 : decode cX9_expression 233 = .ok (.dup, 1) := by decide +kernel
theorem dX9_expression_234 : decode cX9_expression 234 = .ok (.getfield 263, 3) := by decide +kernel
theorem dX9_expression_237 : decode cX9_expression 237 = .ok (.iconst 1, 1) := by decide +kernel
theorem dX9_expression_238 : decode cX9_expression 238 = .ok (.isub, 1) := by decide +kernel
theorem dX9_expression_239 : decode cX9_expression 239 = .ok (.putfield 263, 3) := by decide +kernel
theorem dX9_expression_242 : decode cX9_expression 242 = .ok (.aload_n 0, 1) := by decide +kernel
theorem dX9_expression_243 : decode cX9_expression 243 = .ok (.invokevirtual 257, 3) := by decide +kernel
theorem dX9_expression_246 : decode cX9_expression 246 = .ok (.goto (-46), 3) := by decide +kernel
theorem dX9_expression_249 : decode cX9_expression 249 = .ok (.aload_n 0, 1) := by decide +kernel
theorem dX9_expression_250 : decode cX9_expression 250 = .ok (.bipush 8, 2) := by decide +kernel
theorem dX9_expression_252 : decode cX9_expression 252 = .ok (.invokevirtual 254, 3) := by decide +kernel
theorem dX9_expression_255 : decode cX9_expression 255 = .ok (.ifCond .ne 21, 3) := by decide +kernel
theorem dX9_expression_258 : decode cX9_expression 258 = .ok (.aload_n 0, 1) := by decide +kernel
theorem dX9_expression_259 : decode cX9_expression 259 = .ok (.bipush 9, 2) := by decide +kernel
theorem dX9_expression_261 : decode cX9_expression 261 = .ok (.invokevirtual 254, 3) := by decide +kernel
theorem dX9_expression_264 : decode cX9_expression 264 = .ok (.ifCond .ne 12, 3) := by decide +kernel
theorem dX9_expression_267 : decode cX9_expression 267 = .ok (.aload_n 0, 1) := by decide +kernel
theorem dX9_expression_268 : decode cX9_expression 268 = .ok (.bipush 10, 2) := by decide +kernel
theorem dX9_expression_270 : decode cX9_expression 270 = .ok (.invokevirtual 254, 3) := by decide +kernel
theorem dX9_expression_273 : decode cX9_expression 273 = .ok (.ifCond .eq 7, 3) := by decide +kernel
theorem dX9_expression_276 : decode cX9_expression 276 = .ok (.iconst 1, 1) := by decide +kernel
theorem dX9_expression_277 : decode cX9_expression 277 = .ok (.goto 4, 3) := by decide +kernel
theorem dX9_expression_280 : decode cX9_expression 280 = .ok (.iconst 0, 1) := by decide +kernel
theorem dX9_expression_281 : decode cX9_expression 281 = .ok (.istore_n 2, 1) := by decide +kernel
theorem dX9_expression_282 : decode cX9_expression 282 = .ok (.iload_n 2, 1) := by decide +kernel
theorem dX9_expression_283 : decode cX9_expression 283 = .ok (.ifCond .ne 22, 3) := by decide +kernel
theorem dX9_expression_286 : decode cX9_expression 286 = .ok (.aload_n 0, 1) := by decide +kernel
theorem dX9_expression_287 : decode cX9_expression 287 = .ok (.getfield 263, 3) := by decide +kernel
theorem dX9_expression_290 : decode cX9_expression 290 = .ok (.iload_n 1, 1) := by decide +kernel
theorem dX9_expression_291 : decode cX9_expression 291 = .ok (.if_icmp .le 8, 3) := by decide +kernel
theorem dX9_expression_294 : decode cX9_expression 294 = .ok (.aload_n 0, 1) := by decide +kernel
theorem dX9_expression_295 : decode cX9_expression 295 = .ok (.iconst 1, 1) := by decide +kernel
theorem dX9_expression_296 : decode cX9_expression 296 = .ok (.invokevirtual 251, 3) := by decide +kernel
theorem dX9_expression_299 : decode cX9_expression 299 = .ok (.aload_n 0, 1) := by decide +kernel
theorem dX9_expression_300 : decode cX9_expression 300 = .ok (.iconst 0, 1) := by decide +kernel
theorem dX9_expression_301 : decode cX9_expression 301 = .ok (.invokevirtual 295, 3) := by decide +kernel
theorem dX9_expression_304 : decode cX9_expression 304 = .ok (.return_, 1) := by decide +kernel
theorem dX9_expression_305 : decode cX9_expression 305 = .ok (.aload_n 0, 1) := by decide +kernel
theorem dX9_expression_306 : decode cX9_expression 306 = .ok (.getfield 20, 3) := by decide +kernel
theorem dX9_expression_309 : decode cX9_expression 309 = .ok (.aload_n 0, 1) := by decide +kernel
theorem dX9_expression_310 : decode cX9_expression 310 = .ok (.getfield 239, 3) := by decide +kernel
theorem dX9_expression_313 : decode cX9_expression 313 = .ok (.iaload, 1) := by decide +kernel
theorem dX9_expression_314 : decode cX9_expression 314 = .ok (.istore 4, 2) := by decide +kernel
theorem dX9_expression_316 : decode cX9_expression 316 = .ok (.aload_n 0, 1) := by decide +kernel
theorem dX9_expression_317 : decode cX9_expression 317 = .ok (.iload 4, 2) := by decide +kernel
theorem dX9_expression_319 : decode cX9_expression 319 = .ok (.bipush 10, 2) := by decide +kernel
theorem dX9_expression_321 : decode cX9_expression 321 = .ok (.if_icmp .ne 7, 3) := by decide +kernel
theorem dX9_expression_324 : decode cX9_expression 324 = .ok (.iconst 1, 1) := by decide +kernel
theorem dX9_expression_325 : decode cX9_expression 325 = .ok (.goto 4, 3) := by decide +kernel
theorem dX9_expression_328 : decode cX9_expression 328 = .ok (.iconst 0, 1) := by decide +kernel
theorem dX9_expression_329 : decode cX9_expression 329 = .ok (.invokevirtual 295, 3) := by decide +kernel
theorem dX9_expression_332 : decode cX9_expression 332 = .ok (.aload_n 0, 1) := by decide +kernel
theorem dX9_expression_333 : decode cX9_expression 333 = .ok (.getfield 83, 3) := by decide +kernel
theorem dX9_expression_336 : decode cX9_expression 336 = .ok (.aload_n 0, 1) := by decide +kernel
theorem dX9_expression_337 : decode cX9_expression 337 = .ok (.getfield 288, 3) := by decide +kernel
theorem dX9_expression_340 : decode cX9_expression 340 = .ok (.iload 4, 2) := by decide +kernel
theorem dX9_expression_342 : decode cX9_expression 342 = .ok (.iastore, 1) := by decide +kernel
theorem dX9_expression_343 : decode cX9_expression 343 = .ok (.aload_n 0, 1) := by decide +kernel
theorem dX9_expression_344 : decode cX9_expression 344 = .ok (.dup, 1) := by decide +kernel
theorem dX9_expression_345 : decode cX9_expression 345 = .ok (.getfield 288, 3) := by decide +kernel
theorem dX9_expression_348 : decode cX9_expression 348 = .ok (.iconst 1, 1) := by decide +kernel
theorem dX9_expression_349 : decode cX9_expression 349 = .ok (.iadd, 1) := by decide +kernel
theorem dX9_expression_350 : decode cX9_expression 350 = .ok (.putfield 288, 3) := by decide +kernel
theorem dX9_expression_353 : decode cX9_expression 353 = .ok (.aload_n 0, 1) := by decide +kernel
theorem dX9_expression_354 : decode cX9_expression 354 = .ok (.invokevirtual 257, 3) := by decide +kernel
theorem dX9_expression_357 : decode cX9_expression 357 = .ok (.goto (-345), 3) := by decide +kernel
theorem dX9_expression_360 : decode cX9_expression 360 = .ok (.return_, 1) := by decide +kernel
theorem dX9_value_0 : decode cX9_value 0 = .ok (.iconst 0, 1) := by decide +kernel
theorem dX9_value_1 : decode cX9_value 1 = .ok (.istore_n 3, 1) := by decide +kernel
theorem dX9_value_2 : decode cX9_value 2 = .ok (.iload_n 1, 1) := by decide +kernel
theorem dX9_value_3 : decode cX9_value 3 = .ok (.istore 4, 2) := by decide +kernel
theorem dX9_value_5 : decode cX9_value 5 = .ok (.iload 4, 2) := by decide +kernel
theorem dX9_value_7 : decode cX9_value 7 = .ok (.iload_n 2, 1) := by decide +kernel
theorem dX9_value_8 : decode cX9_value 8 = .ok (.if_icmp .ge 136, 3) := by decide +kernel
theorem dX9_value_11 : decode cX9_value 11 = .ok (.aload_n 0, 1) := by decide +kernel
theorem dX9_value_12 : decode cX9_value 12 = .ok (.getfield 77, 3) := by decide +kernel
theorem dX9_value_15 : decode cX9_value 15 = .ok (.iload 4, 2) := by decide +kernel
theorem dX9_value_17 : decode cX9_value 17 = .ok (.iaload, 1) := by decide +kernel
theorem dX9_value_18 : decode cX9_value 18 = .ok (.iconst 2, 1) := by decide +kernel
theorem dX9_value_19 : decode cX9_value 19 = .ok (.if_icmp .ge 47, 3) := by decide +kernel
theorem dX9_value_22 : decode cX9_value 22 = .ok (.aload_n 0, 1) := by decide +kernel
theorem dX9_value_23 : decode cX9_value 23 = .ok (.getfield 89, 3) := by decide +kernel
theorem dX9_value_26 : decode cX9_value 26 = .ok (.iload_n 3, 1) := by decide +kernel
theorem dX9_value_27 : decode cX9_value 27 = .ok (.aload_n 0, 1) := by decide +kernel
theorem dX9_value_28 : decode cX9_value 28 = .ok (.getfield 77, 3) := by decide +kernel
theorem dX9_value_31 : decode cX9_value 31 = .ok (.iload 4, 2) := by decide +kernel
theorem dX9_value_33 : decode cX9_value 33 = .ok (.iaload, 1) := by decide +kernel
theorem dX9_value_34 : decode cX9_value 34 = .ok (.ifCond .ne 13, 3) := by decide +kernel
theorem dX9_value_37 : decode cX9_value 37 = .ok (.aload_n 0, 1) := by decide +kernel
theorem dX9_value_38 : decode cX9_value 38 = .ok (.getfield 80, 3) := by decide +kernel
theorem dX9_value_41 : decode cX9_value 41 = .ok (.iload 4, 2) := by decide +kernel
theorem dX9_value_43 : decode cX9_value 43 = .ok (.iaload, 1) := by decide +kernel
theorem dX9_value_44 : decode cX9_value 44 = .ok (.goto 15, 3) := by decide +kernel
theorem dX9_value_47 : decode cX9_value 47 = .ok (.aload_n 0, 1) := by decide +kernel
theorem dX9_value_48 : decode cX9_value 48 = .ok (.getfield 86, 3) := by decide +kernel
theorem dX9_value_51 : decode cX9_value 51 = .ok (.aload_n 0, 1) := by decide +kernel
theorem dX9_value_52 : decode cX9_value 52 = .ok (.getfield 80, 3) := by decide +kernel
theorem dX9_value_55 : decode cX9_value 55 = .ok (.iload 4, 2) := by decide +kernel
theorem dX9_value_57 : decode cX9_value 57 = .ok (.iaload, 1) := by decide +kernel
theorem dX9_value_58 : decode cX9_value 58 = .ok (.iaload, 1) := by decide +kernel
theorem dX9_value_59 : decode cX9_value 59 = .ok (.iastore, 1) := by decide +kernel
theorem dX9_value_60 : decode cX9_value 60 = .ok (.iinc 3 1, 3) := by decide +kernel
theorem dX9_value_63 : decode cX9_value 63 = .ok (.goto 75, 3) := by decide +kernel
theorem dX9_value_66 : decode cX9_value 66 = .ok (.iinc 3 (-1), 3) := by decide +kernel
theorem dX9_value_69 : decode cX9_value 69 = .ok (.aload_n 0, 1) := by decide +kernel
theorem dX9_value_70 : decode cX9_value 70 = .ok (.getfield 89, 3) := by decide +kernel
theorem dX9_value_73 : decode cX9_value 73 = .ok (.iload_n 3, 1) := by decide +kernel
theorem dX9_value_74 : decode cX9_value 74 = .ok (.iconst 1, 1) := by decide +kernel
theorem dX9_value_75 : decode cX9_value 75 = .ok (.isub, 1) := by decide +kernel
theorem dX9_value_76 : decode cX9_value 76 = .ok (.iaload, 1) := by decide +kernel
theorem dX9_value_77 : decode cX9_value 77 = .ok (.istore 5, 2) := by decide +kernel
theorem dX9_value_79 : decode cX9_value 79 = .ok (.aload_n 0, 1) := by decide +kernel
theorem dX9_value_80 : decode cX9_value 80 = .ok (.getfield 89, 3) := by decide +kernel
theorem dX9_value_83 : decode cX9_value 83 = .ok (.iload_n 3, 1) := by decide +kernel
theorem dX9_value_84 : decode cX9_value 84 = .ok (.iaload, 1) := by decide +kernel
theorem dX9_value_85 : decode cX9_value 85 = .ok (.istore 6, 2) := by decide +kernel
theorem dX9_value_87 : decode cX9_value 87 = .ok (.aload_n 0, 1) := by decide +kernel
theorem dX9_value_88 : decode cX9_value 88 = .ok (.getfield 89, 3) := by decide +kernel
theorem dX9_value_91 : decode cX9_value 91 = .ok (.iload_n 3, 1) := by decide +kernel
theorem dX9_value_92 : decode cX9_value 92 = .ok (.iconst 1, 1) := by decide +kernel
theorem dX9_value_93 : decode cX9_value 93 = .ok (.isub, 1) := by decide +kernel
theorem dX9_value_94 : decode cX9_value 94 = .ok (.aload_n 0, 1) := by decide +kernel
theorem dX9_value_95 : decode cX9_value 95 = .ok (.getfield 77, 3) := by decide +kernel
theorem dX9_value_98 : decode cX9_value 98 = .ok (.iload 4, 2) := by decide +kernel
theorem dX9_value_100 : decode cX9_value 100 = .ok (.iaload, 1) := by decide +kernel
theorem dX9_value_101 : decode cX9_value 101 = .ok (.iconst 2, 1) := by decide +kernel
theorem dX9_value_102 : decode cX9_value 102 = .ok (.if_icmp .ne 11, 3) := by decide +kernel
theorem dX9_value_105 : decode cX9_value 105 = .ok (.iload 5, 2) := by decide +kernel
theorem dX9_value_107 : decode cX9_value 107 = .ok (.iload 6, 2) := by decide +kernel
theorem dX9_value_109 : decode cX9_value 109 = .ok (.iadd, 1) := by decide +kernel
theorem dX9_value_110 : decode cX9_value 110 = .ok (.goto 27, 3) := by decide +kernel
theorem dX9_value_113 : decode cX9_value 113 = .ok (.aload_n 0, 1) := by decide +kernel
theorem dX9_value_114 : decode cX9_value 114 = .ok (.getfield 77, 3) := by decide +kernel
theorem dX9_value_117 : decode cX9_value 117 = .ok (.iload 4, 2) := by decide +kernel
theorem dX9_value_119 : decode cX9_value 119 = .ok (.iaload, 1) := by decide +kernel
theorem dX9_value_120 : decode cX9_value 120 = .ok (.iconst 3, 1) := by decide +kernel
theorem dX9_value_121 : decode cX9_value 121 = .ok (.if_icmp .ne 11, 3) := by decide +kernel
theorem dX9_value_124 : decode cX9_value 124 = .ok (.iload 5, 2) := by decide +kernel
theorem dX9_value_126 : decode cX9_value 126 = .ok (.iload 6, 2) := by decide +kernel
theorem dX9_value_128 : decode cX9_value 128 = .ok (.isub, 1) := by decide +kernel
theorem dX9_value_129 : decode cX9_value 129 = .ok (.goto 8, 3) := by decide +kernel
theorem dX9_value_132 : decode cX9_value 132 = .ok (.iload 5, 2) := by decide +kernel
theorem dX9_value_134 : decode cX9_value 134 = .ok (.iload 6, 2) := by decide +kernel
theorem dX9_value_136 : decode cX9_value 136 = .ok (.imul, 1) := by decide +kernel
theorem dX9_value_137 : decode cX9_value 137 = .ok (.iastore, 1) := by decide +kernel
theorem dX9_value_138 : decode cX9_value 138 = .ok (.iinc 4 1, 3) := by decide +kernel
theorem dX9_value_141 : decode cX9_value 141 = .ok (.goto (-136), 3) := by decide +kernel
theorem dX9_value_144 : decode cX9_value 144 = .ok (.aload_n 0, 1) := by decide +kernel
theorem dX9_value_145 : decode cX9_value 145 = .ok (.getfield 89, 3) := by decide +kernel
theorem dX9_value_148 : decode cX9_value 148 = .ok (.iconst 0, 1) := by decide +kernel
theorem dX9_value_149 : decode cX9_value 149 = .ok (.iaload, 1) := by decide +kernel
theorem dX9_value_150 : decode cX9_value 150 = .ok (.ireturn, 1) := by decide +kernel
theorem dX9_holds_0 : decode cX9_holds 0 = .ok (.aload_n 0, 1) := by decide +kernel

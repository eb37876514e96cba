theorem dX0_init_0 : decode cX0_init 0 = .ok (.aload_n 0, 1) := by decide +kernel
theorem dX0_init_1 : decode cX0_init 1 = .ok (.invokespecial 3, 3) := by decide +kernel
theorem dX0_init_4 : decode cX0_init 4 = .ok (.aload_n 0, 1) := by decide +kernel
theorem dX0_init_5 : decode cX0_init 5 = .ok (.new 9, 3) := by decide +kernel
theorem dX0_init_8 : decode cX0_init 8 = .ok (.dup, 1) := by decide +kernel
theorem dX0_init_9 : decode cX0_init 9 = .ok (.invokespecial 11, 3) := by decide +kernel
theorem dX0_init_12 : decode cX0_init 12 = .ok (.putfield 12, 3) := by decide +kernel
theorem dX0_init_15 : decode cX0_init 15 = .ok (.aload_n 0, 1) := by decide +kernel
theorem dX0_init_16 : decode cX0_init 16 = .ok (.new 18, 3) := by decide +kernel
theorem dX0_init_19 : decode cX0_init 19 = .ok (.dup, 1) := by decide +kernel
theorem dX0_init_20 : decode cX0_init 20 = .ok (.invokespecial 20, 3) := by decide +kernel
theorem dX0_init_23 : decode cX0_init 23 = .ok (.putfield 21, 3) := by decide +kernel
theorem dX0_init_26 : decode cX0_init 26 = .ok (.aload_n 0, 1) := by decide +kernel
theorem dX0_init_27 : decode cX0_init 27 = .ok (.sipush 512, 3) := by decide +kernel
theorem dX0_init_30 : decode cX0_init 30 = .ok (.newarray .int, 2) := by decide +kernel
theorem dX0_init_32 : decode cX0_init 32 = .ok (.putfield 25, 3) := by decide +kernel
theorem dX0_init_35 : decode cX0_init 35 = .ok (.return_, 1) := by decide +kernel
theorem dX0_forget_0 : decode cX0_forget 0 = .ok (.aload_n 0, 1) := by decide +kernel
theorem dX0_forget_1 : decode cX0_forget 1 = .ok (.iload_n 1, 1) := by decide +kernel
theorem dX0_forget_2 : decode cX0_forget 2 = .ok (.putfield 29, 3) := by decide +kernel
theorem dX0_forget_5 : decode cX0_forget 5 = .ok (.aload_n 0, 1) := by decide +kernel
theorem dX0_forget_6 : decode cX0_forget 6 = .ok (.iconst 0, 1) := by decide +kernel
theorem dX0_forget_7 : decode cX0_forget 7 = .ok (.putfield 33, 3) := by decide +kernel
theorem dX0_forget_10 : decode cX0_forget 10 = .ok (.aload_n 0, 1) := by decide +kernel
theorem dX0_forget_11 : decode cX0_forget 11 = .ok (.iconst 0, 1) := by decide +kernel
theorem dX0_forget_12 : decode cX0_forget 12 = .ok (.putfield 36, 3) := by decide +kernel
theorem dX0_forget_15 : decode cX0_forget 15 = .ok (.aload_n 0, 1) := by decide +kernel
theorem dX0_forget_16 : decode cX0_forget 16 = .ok (.iconst 0, 1) := by decide +kernel
theorem dX0_forget_17 : decode cX0_forget 17 = .ok (.putfield 39, 3) := by decide +kernel
theorem dX0_forget_20 : decode cX0_forget 20 = .ok (.aload_n 0, 1) := by decide +kernel
theorem dX0_forget_21 : decode cX0_forget 21 = .ok (.iconst 0, 1) := by decide +kernel
theorem dX0_forget_22 : decode cX0_forget 22 = .ok (.putfield 42, 3) := by decide +kernel
theorem dX0_forget_25 : decode cX0_forget 25 = .ok (.aload_n 0, 1) := by decide +kernel
theorem dX0_forget_26 : decode cX0_forget 26 = .ok (.iconst 0, 1) := by decide +kernel
theorem dX0_forget_27 : decode cX0_forget 27 = .ok (.putfield 45, 3) := by decide +kernel
theorem dX0_forget_30 : decode cX0_forget 30 = .ok (.aload_n 0, 1) := by decide +kernel
theorem dX0_forget_31 : decode cX0_forget 31 = .ok (.iconst 0, 1) := by decide +kernel
theorem dX0_forget_32 : decode cX0_forget 32 = .ok (.putfield 48, 3) := by decide +kernel
theorem dX0_forget_35 : decode cX0_forget 35 = .ok (.aload_n 0, 1) := by decide +kernel
theorem dX0_forget_36 : decode cX0_forget 36 = .ok (.iconst 0, 1) := by decide +kernel
theorem dX0_forget_37 : decode cX0_forget 37 = .ok (.putfield 51, 3) := by decide +kernel
theorem dX0_forget_40 : decode cX0_forget 40 = .ok (.return_, 1) := by decide +kernel
theorem dX0_noteCrease_0 : decode cX0_noteCrease 0 = .ok (.iload_n 1, 1) := by decide +kernel
theorem dX0_noteCrease_1 : decode cX0_noteCrease 1 = .ok (.ifCond .lt 23, 3) := by decide +kernel
theorem dX0_noteCrease_4 : decode cX0_noteCrease 4 = .ok (.iload_n 1, 1) := by decide +kernel
theorem dX0_noteCrease_5 : decode cX0_noteCrease 5 = .ok (.aload_n 0, 1) := by decide +kernel
theorem dX0_noteCrease_6 : decode cX0_noteCrease 6 = .ok (.getfield 29, 3) := by decide +kernel
theorem dX0_noteCrease_9 : decode cX0_noteCrease 9 = .ok (.iconst 1, 1) := by decide +kernel
theorem dX0_noteCrease_10 : decode cX0_noteCrease 10 = .ok (.isub, 1) := by decide +kernel
theorem dX0_noteCrease_11 : decode cX0_noteCrease 11 = .ok (.if_icmp .ge 13, 3) := by decide +kernel
theorem dX0_noteCrease_14 : decode cX0_noteCrease 14 = .ok (.iload_n 2, 1) := by decide +kernel
theorem dX0_noteCrease_15 : decode cX0_noteCrease 15 = .ok (.iconst (-1), 1) := by decide +kernel
theorem dX0_noteCrease_16 : decode cX0_noteCrease 16 = .ok (.if_icmp .lt 8, 3) := by decide +kernel
theorem dX0_noteCrease_19 : decode cX0_noteCrease 19 = .ok (.iload_n 2, 1) := by decide +kernel
theorem dX0_noteCrease_20 : decode cX0_noteCrease 20 = .ok (.iconst 3, 1) := by decide +kernel
theorem dX0_noteCrease_21 : decode cX0_noteCrease 21 = .ok (.if_icmp .le 5, 3) := by decide +kernel
theorem dX0_noteCrease_24 : decode cX0_noteCrease 24 = .ok (.iconst 0, 1) := by decide +kernel
theorem dX0_noteCrease_25 : decode cX0_noteCrease 25 = .ok (.ireturn, 1) := by decide +kernel
theorem dX0_noteCrease_26 : decode cX0_noteCrease 26 = .ok (.iconst 3, 1) := by decide +kernel
theorem dX0_noteCrease_27 : decode cX0_noteCrease 27 = .ok (.iconst 2, 1) := by decide +kernel
theorem dX0_noteCrease_28 : decode cX0_noteCrease 28 = .ok (.iload_n 1, 1) := by decide +kernel
theorem dX0_noteCrease_29 : decode cX0_noteCrease 29 = .ok (.imul, 1) := by decide +kernel
theorem dX0_noteCrease_30 : decode cX0_noteCrease 30 = .ok (.ishl, 1) := by decide +kernel
theorem dX0_noteCrease_31 : decode cX0_noteCrease 31 = .ok (.istore_n 3, 1) := by decide +kernel
theorem dX0_noteCrease_32 : decode cX0_noteCrease 32 = .ok (.aload_n 0, 1) := by decide +kernel
theorem dX0_noteCrease_33 : decode cX0_noteCrease 33 = .ok (.iload_n 2, 1) := by decide +kernel
theorem dX0_noteCrease_34 : decode cX0_noteCrease 34 = .ok (.iconst (-1), 1) := by decide +kernel
theorem dX0_noteCrease_35 : decode cX0_noteCrease 35 = .ok (.if_icmp .ne 14, 3) := by decide +kernel
theorem dX0_noteCrease_38 : decode cX0_noteCrease 38 = .ok (.aload_n 0, 1) := by decide +kernel
theorem dX0_noteCrease_39 : decode cX0_noteCrease 39 = .ok (.getfield 33, 3) := by decide +kernel
theorem dX0_noteCrease_42 : decode cX0_noteCrease 42 = .ok (.iload_n 3, 1) := by decide +kernel
theorem dX0_noteCrease_43 : decode cX0_noteCrease 43 = .ok (.iconst (-1), 1) := by decide +kernel
theorem dX0_noteCrease_44 : decode cX0_noteCrease 44 = .ok (.ixor, 1) := by decide +kernel
theorem dX0_noteCrease_45 : decode cX0_noteCrease 45 = .ok (.iand, 1) := by decide +kernel
theorem dX0_noteCrease_46 : decode cX0_noteCrease 46 = .ok (.goto 9, 3) := by decide +kernel
theorem dX0_noteCrease_49 : decode cX0_noteCrease 49 = .ok (.aload_n 0, 1) := by decide +kernel
theorem dX0_noteCrease_50 : decode cX0_noteCrease 50 = .ok (.getfield 33, 3) := by decide +kernel
theorem dX0_noteCrease_53 : decode cX0_noteCrease 53 = .ok (.iload_n 3, 1) := by decide +kernel
theorem dX0_noteCrease_54 : decode cX0_noteCrease 54 = .ok (.ior, 1) := by decide +kernel
theorem dX0_noteCrease_55 : decode cX0_noteCrease 55 = .ok (.putfield 33, 3) := by decide +kernel
theorem dX0_noteCrease_58 : decode cX0_noteCrease 58 = .ok (.aload_n 0, 1) := by decide +kernel
theorem dX0_noteCrease_59 : decode cX0_noteCrease 59 = .ok (.aload_n 0, 1) := by decide +kernel
theorem dX0_noteCrease_60 : decode cX0_noteCrease 60 = .ok (.getfield 36, 3) := by decide +kernel
theorem dX0_noteCrease_63 : decode cX0_noteCrease 63 = .ok (.iload_n 3, 1) := by decide +kernel
theorem dX0_noteCrease_64 : decode cX0_noteCrease 64 = .ok (.iconst (-1), 1) := by decide +kernel
theorem dX0_noteCrease_65 : decode cX0_noteCrease 65 = .ok (.ixor, 1) := by decide +kernel
theorem dX0_noteCrease_66 : decode cX0_noteCrease 66 = .ok (.iand, 1) := by decide +kernel
theorem dX0_noteCrease_67 : decode cX0_noteCrease 67 = .ok (.iload_n 2, 1) := by decide +kernel
theorem dX0_noteCrease_68 : decode cX0_noteCrease 68 = .ok (.iconst (-1), 1) := by decide +kernel
theorem dX0_noteCrease_69 : decode cX0_noteCrease 69 = .ok (.if_icmp .ne 7, 3) := by decide +kernel
theorem dX0_noteCrease_72 : decode cX0_noteCrease 72 = .ok (.iconst 0, 1) := by decide +kernel
theorem dX0_noteCrease_73 : decode cX0_noteCrease 73 = .ok (.goto 8, 3) := by decide +kernel
theorem dX0_noteCrease_76 : decode cX0_noteCrease 76 = .ok (.iload_n 2, 1) := by decide +kernel
theorem dX0_noteCrease_77 : decode cX0_noteCrease 77 = .ok (.iconst 2, 1) := by decide +kernel
theorem dX0_noteCrease_78 : decode cX0_noteCrease 78 = .ok (.iload_n 1, 1) := by decide +kernel
theorem dX0_noteCrease_79 : decode cX0_noteCrease 79 = .ok (.imul, 1) := by decide +kernel
theorem dX0_noteCrease_80 : decode cX0_noteCrease 80 = .ok (.ishl, 1) := by decide +kernel
theorem dX0_noteCrease_81 : decode cX0_noteCrease 81 = .ok (.ior, 1) := by decide +kernel
theorem dX0_noteCrease_82 : decode cX0_noteCrease 82 = .ok (.putfield 36, 3) := by decide +kernel
theorem dX0_noteCrease_85 : decode cX0_noteCrease 85 = .ok (.aload_n 0, 1) := by decide +kernel
theorem dX0_noteCrease_86 : decode cX0_noteCrease 86 = .ok (.iconst 0, 1) := by decide +kernel
theorem dX0_noteCrease_87 : decode cX0_noteCrease 87 = .ok (.putfield 51, 3) := by decide +kernel
theorem dX0_noteCrease_90 : decode cX0_noteCrease 90 = .ok (.iconst 1, 1) := by decide +kernel
theorem dX0_noteCrease_91 : decode cX0_noteCrease 91 = .ok (.ireturn, 1) := by decide +kernel
theorem dX0_noteSlit_0 : decode cX0_noteSlit 0 = .ok (.iload_n 1, 1) := by decide +kernel
theorem dX0_noteSlit_1 : decode cX0_noteSlit 1 = .ok (.ifCond .lt 21, 3) := by decide +kernel
theorem dX0_noteSlit_4 : decode cX0_noteSlit 4 = .ok (.iload_n 1, 1) := by decide +kernel
theorem dX0_noteSlit_5 : decode cX0_noteSlit 5 = .ok (.aload_n 0, 1) := by decide +kernel
theorem dX0_noteSlit_6 : decode cX0_noteSlit 6 = .ok (.getfield 29, 3) := by decide +kernel
theorem dX0_noteSlit_9 : decode cX0_noteSlit 9 = .ok (.if_icmp .ge 13, 3) := by decide +kernel
theorem dX0_noteSlit_12 : decode cX0_noteSlit 12 = .ok (.iload_n 2, 1) := by decide +kernel
theorem dX0_noteSlit_13 : decode cX0_noteSlit 13 = .ok (.iconst (-1), 1) := by decide +kernel
theorem dX0_noteSlit_14 : decode cX0_noteSlit 14 = .ok (.if_icmp .lt 8, 3) := by decide +kernel
theorem dX0_noteSlit_17 : decode cX0_noteSlit 17 = .ok (.iload_n 2, 1) := by decide +kernel
theorem dX0_noteSlit_18 : decode cX0_noteSlit 18 = .ok (.iconst 1, 1) := by decide +kernel
theorem dX0_noteSlit_19 : decode cX0_noteSlit 19 = .ok (.if_icmp .le 5, 3) := by decide +kernel
theorem dX0_noteSlit_22 : decode cX0_noteSlit 22 = .ok (.iconst 0, 1) := by decide +kernel
theorem dX0_noteSlit_23 : decode cX0_noteSlit 23 = .ok (.ireturn, 1) := by decide +kernel
theorem dX0_noteSlit_24 : decode cX0_noteSlit 24 = .ok (.iconst 1, 1) := by decide +kernel
theorem dX0_noteSlit_25 : decode cX0_noteSlit 25 = .ok (.iload_n 1, 1) := by decide +kernel
theorem dX0_noteSlit_26 : decode cX0_noteSlit 26 = .ok (.ishl, 1) := by decide +kernel
theorem dX0_noteSlit_27 : decode cX0_noteSlit 27 = .ok (.istore_n 3, 1) := by decide +kernel
theorem dX0_noteSlit_28 : decode cX0_noteSlit 28 = .ok (.aload_n 0, 1) := by decide +kernel
theorem dX0_noteSlit_29 : decode cX0_noteSlit 29 = .ok (.iload_n 2, 1) := by decide +kernel
theorem dX0_noteSlit_30 : decode cX0_noteSlit 30 = .ok (.iconst (-1), 1) := by decide +kernel
theorem dX0_noteSlit_31 : decode cX0_noteSlit 31 = .ok (.if_icmp .ne 14, 3) := by decide +kernel
theorem dX0_noteSlit_34 : decode cX0_noteSlit 34 = .ok (.aload_n 0, 1) := by decide +kernel
theorem dX0_noteSlit_35 : decode cX0_noteSlit 35 = .ok (.getfield 39, 3) := by decide +kernel
theorem dX0_noteSlit_38 : decode cX0_noteSlit 38 = .ok (.iload_n 3, 1) := by decide +kernel
theorem dX0_noteSlit_39 : decode cX0_noteSlit 39 = .ok (.iconst (-1), 1) := by decide +kernel
theorem dX0_noteSlit_40 : decode cX0_noteSlit 40 = .ok (.ixor, 1) := by decide +kernel
theorem dX0_noteSlit_41 : decode cX0_noteSlit 41 = .ok (.iand, 1) := by decide +kernel
theorem dX0_noteSlit_42 : decode cX0_noteSlit 42 = .ok (.goto 9, 3) := by decide +kernel
theorem dX0_noteSlit_45 : decode cX0_noteSlit 45 = .ok (.aload_n 0, 1) := by decide +kernel
theorem dX0_noteSlit_46 : decode cX0_noteSlit 46 = .ok (.getfield 39, 3) := by decide +kernel
theorem dX0_noteSlit_49 : decode cX0_noteSlit 49 = .ok (.iload_n 3, 1) := by decide +kernel
theorem dX0_noteSlit_50 : decode cX0_noteSlit 50 = .ok (.ior, 1) := by decide +kernel
theorem dX0_noteSlit_51 : decode cX0_noteSlit 51 = .ok (.putfield 39, 3) := by decide +kernel
theorem dX0_noteSlit_54 : decode cX0_noteSlit 54 = .ok (.aload_n 0, 1) := by decide +kernel
theorem dX0_noteSlit_55 : decode cX0_noteSlit 55 = .ok (.iload_n 2, 1) := by decide +kernel
theorem dX0_noteSlit_56 : decode cX0_noteSlit 56 = .ok (.iconst 1, 1) := by decide +kernel
theorem dX0_noteSlit_57 : decode cX0_noteSlit 57 = .ok (.if_icmp .ne 12, 3) := by decide +kernel
theorem dX0_noteSlit_60 : decode cX0_noteSlit 60 = .ok (.aload_n 0, 1) := by decide +kernel
theorem dX0_noteSlit_61 : decode cX0_noteSlit 61 = .ok (.getfield 42, 3) := by decide +kernel
theorem dX0_noteSlit_64 : decode cX0_noteSlit 64 = .ok (.iload_n 3, 1) := by decide +kernel
theorem dX0_noteSlit_65 : decode cX0_noteSlit 65 = .ok (.ior, 1) := by decide +kernel
theorem dX0_noteSlit_66 : decode cX0_noteSlit 66 = .ok (.goto 11, 3) := by decide +kernel
theorem dX0_noteSlit_69 : decode cX0_noteSlit 69 = .ok (.aload_n 0, 1) := by decide +kernel
theorem dX0_noteSlit_70 : decode cX0_noteSlit 70 = .ok (.getfield 42, 3) := by decide +kernel
theorem dX0_noteSlit_73 : decode cX0_noteSlit 73 = .ok (.iload_n 3, 1) := by decide +kernel
theorem dX0_noteSlit_74 : decode cX0_noteSlit 74 = .ok (.iconst (-1), 1) := by decide +kernel
theorem dX0_noteSlit_75 : decode cX0_noteSlit 75 = .ok (.ixor, 1) := by decide +kernel
theorem dX0_noteSlit_76 : decode cX0_noteSlit 76 = .ok (.iand, 1) := by decide +kernel
theorem dX0_noteSlit_77 : decode cX0_noteSlit 77 = .ok (.putfield 42, 3) := by decide +kernel
theorem dX0_noteSlit_80 : decode cX0_noteSlit 80 = .ok (.aload_n 0, 1) := by decide +kernel
theorem dX0_noteSlit_81 : decode cX0_noteSlit 81 = .ok (.iconst 0, 1) := by decide +kernel
theorem dX0_noteSlit_82 : decode cX0_noteSlit 82 = .ok (.putfield 51, 3) := by decide +kernel
theorem dX0_noteSlit_85 : decode cX0_noteSlit 85 = .ok (.iconst 1, 1) := by decide +kernel
theorem dX0_noteSlit_86 : decode cX0_noteSlit 86 = .ok (.ireturn, 1) := by decide +kernel
theorem dX0_noteDirt_0 : decode cX0_noteDirt 0 = .ok (.iload_n 1, 1) := by decide +kernel
theorem dX0_noteDirt_1 : decode cX0_noteDirt 1 = .ok (.ifCond .lt 23, 3) := by decide +kernel
theorem dX0_noteDirt_4 : decode cX0_noteDirt 4 = .ok (.iload_n 1, 1) := by decide +kernel
theorem dX0_noteDirt_5 : decode cX0_noteDirt 5 = .ok (.iconst 2, 1) := by decide +kernel
theorem dX0_noteDirt_6 : decode cX0_noteDirt 6 = .ok (.aload_n 0, 1) := by decide +kernel
theorem dX0_noteDirt_7 : decode cX0_noteDirt 7 = .ok (.getfield 29, 3) := by decide +kernel
theorem dX0_noteDirt_10 : decode cX0_noteDirt 10 = .ok (.imul, 1) := by decide +kernel
theorem dX0_noteDirt_11 : decode cX0_noteDirt 11 = .ok (.if_icmp .ge 13, 3) := by decide +kernel
theorem dX0_noteDirt_14 : decode cX0_noteDirt 14 = .ok (.iload_n 2, 1) := by decide +kernel
theorem dX0_noteDirt_15 : decode cX0_noteDirt 15 = .ok (.iconst (-1), 1) := by decide +kernel
theorem dX0_noteDirt_16 : decode cX0_noteDirt 16 = .ok (.if_icmp .lt 8, 3) := by decide +kernel
theorem dX0_noteDirt_19 : decode cX0_noteDirt 19 = .ok (.iload_n 2, 1) := by decide +kernel
theorem dX0_noteDirt_20 : decode cX0_noteDirt 20 = .ok (.iconst 1, 1) := by decide +kernel
theorem dX0_noteDirt_21 : decode cX0_noteDirt 21 = .ok (.if_icmp .le 5, 3) := by decide +kernel
theorem dX0_noteDirt_24 : decode cX0_noteDirt 24 = .ok (.iconst 0, 1) := by decide +kernel
theorem dX0_noteDirt_25 : decode cX0_noteDirt 25 = .ok (.ireturn, 1) := by decide +kernel
theorem dX0_noteDirt_26 : decode cX0_noteDirt 26 = .ok (.iconst 1, 1) := by decide +kernel
theorem dX0_noteDirt_27 : decode cX0_noteDirt 27 = .ok (.iload_n 1, 1) := by decide +kernel
theorem dX0_noteDirt_28 : decode cX0_noteDirt 28 = .ok (.ishl, 1) := by decide +kernel
theorem dX0_noteDirt_29 : decode cX0_noteDirt 29 = .ok (.istore_n 3, 1) := by decide +kernel
theorem dX0_noteDirt_30 : decode cX0_noteDirt 30 = .ok (.aload_n 0, 1) := by decide +kernel
theorem dX0_noteDirt_31 : decode cX0_noteDirt 31 = .ok (.iload_n 2, 1) := by decide +kernel
theorem dX0_noteDirt_32 : decode cX0_noteDirt 32 = .ok (.iconst (-1), 1) := by decide +kernel
theorem dX0_noteDirt_33 : decode cX0_noteDirt 33 = .ok (.if_icmp .ne 14, 3) := by decide +kernel
theorem dX0_noteDirt_36 : decode cX0_noteDirt 36 = .ok (.aload_n 0, 1) := by decide +kernel
theorem dX0_noteDirt_37 : decode cX0_noteDirt 37 = .ok (.getfield 45, 3) := by decide +kernel
theorem dX0_noteDirt_40 : decode cX0_noteDirt 40 = .ok (.iload_n 3, 1) := by decide +kernel
theorem dX0_noteDirt_41 : decode cX0_noteDirt 41 = .ok (.iconst (-1), 1) := by decide +kernel
theorem dX0_noteDirt_42 : decode cX0_noteDirt 42 = .ok (.ixor, 1) := by decide +kernel
theorem dX0_noteDirt_43 : decode cX0_noteDirt 43 = .ok (.iand, 1) := by decide +kernel
theorem dX0_noteDirt_44 : decode cX0_noteDirt 44 = .ok (.goto 9, 3) := by decide +kernel
theorem dX0_noteDirt_47 : decode cX0_noteDirt 47 = .ok (.aload_n 0, 1) := by decide +kernel
theorem dX0_noteDirt_48 : decode cX0_noteDirt 48 = .ok (.getfield 45, 3) := by decide +kernel
theorem dX0_noteDirt_51 : decode cX0_noteDirt 51 = .ok (.iload_n 3, 1) := by decide +kernel
theorem dX0_noteDirt_52 : decode cX0_noteDirt 52 = .ok (.ior, 1) := by decide +kernel
theorem dX0_noteDirt_53 : decode cX0_noteDirt 53 = .ok (.putfield 45, 3) := by decide +kernel
theorem dX0_noteDirt_56 : decode cX0_noteDirt 56 = .ok (.aload_n 0, 1) := by decide +kernel
theorem dX0_noteDirt_57 : decode cX0_noteDirt 57 = .ok (.iload_n 2, 1) := by decide +kernel
theorem dX0_noteDirt_58 : decode cX0_noteDirt 58 = .ok (.iconst 1, 1) := by decide +kernel
theorem dX0_noteDirt_59 : decode cX0_noteDirt 59 = .ok (.if_icmp .ne 12, 3) := by decide +kernel
theorem dX0_noteDirt_62 : decode cX0_noteDirt 62 = .ok (.aload_n 0, 1) := by decide +kernel
theorem dX0_noteDirt_63 : decode cX0_noteDirt 63 = .ok (.getfield 48, 3) := by decide +kernel
theorem dX0_noteDirt_66 : decode cX0_noteDirt 66 = .ok (.iload_n 3, 1) := by decide +kernel
theorem dX0_noteDirt_67 : decode cX0_noteDirt 67 = .ok (.ior, 1) := by decide +kernel
theorem dX0_noteDirt_68 : decode cX0_noteDirt 68 = .ok (.goto 11, 3) := by decide +kernel
theorem dX0_noteDirt_71 : decode cX0_noteDirt 71 = .ok (.aload_n 0, 1) := by decide +kernel
theorem dX0_noteDirt_72 : decode cX0_noteDirt 72 = .ok (.getfield 48, 3) := by decide +kernel
theorem dX0_noteDirt_75 : decode cX0_noteDirt 75 = .ok (.iload_n 3, 1) := by decide +kernel
theorem dX0_noteDirt_76 : decode cX0_noteDirt 76 = .ok (.iconst (-1), 1) := by decide +kernel
theorem dX0_noteDirt_77 : decode cX0_noteDirt 77 = .ok (.ixor, 1) := by decide +kernel
theorem dX0_noteDirt_78 : decode cX0_noteDirt 78 = .ok (.iand, 1) := by decide +kernel
theorem dX0_noteDirt_79 : decode cX0_noteDirt 79 = .ok (.putfield 48, 3) := by decide +kernel
theorem dX0_noteDirt_82 : decode cX0_noteDirt 82 = .ok (.aload_n 0, 1) := by decide +kernel
theorem dX0_noteDirt_83 : decode cX0_noteDirt 83 = .ok (.iconst 0, 1) := by decide +kernel
theorem dX0_noteDirt_84 : decode cX0_noteDirt 84 = .ok (.putfield 51, 3) := by decide +kernel
theorem dX0_noteDirt_87 : decode cX0_noteDirt 87 = .ok (.iconst 1, 1) := by decide +kernel
theorem dX0_noteDirt_88 : decode cX0_noteDirt 88 = .ok (.ireturn, 1) := by decide +kernel
theorem dX0_noteAll_0 : decode cX0_noteAll 0 = .ok (.aload_n 0, 1) := by decide +kernel
theorem dX0_noteAll_1 : decode cX0_noteAll 1 = .ok (.iconst 1, 1) := by decide +kernel
theorem dX0_noteAll_2 : decode cX0_noteAll 2 = .ok (.iconst 2, 1) := by decide +kernel
theorem dX0_noteAll_3 : decode cX0_noteAll 3 = .ok (.aload_n 0, 1) := by decide +kernel
theorem dX0_noteAll_4 : decode cX0_noteAll 4 = .ok (.getfield 29, 3) := by decide +kernel
theorem dX0_noteAll_7 : decode cX0_noteAll 7 = .ok (.iconst 1, 1) := by decide +kernel
theorem dX0_noteAll_8 : decode cX0_noteAll 8 = .ok (.isub, 1) := by decide +kernel
theorem dX0_noteAll_9 : decode cX0_noteAll 9 = .ok (.imul, 1) := by decide +kernel
theorem dX0_noteAll_10 : decode cX0_noteAll 10 = .ok (.ishl, 1) := by decide +kernel
theorem dX0_noteAll_11 : decode cX0_noteAll 11 = .ok (.iconst 1, 1) := by decide +kernel
theorem dX0_noteAll_12 : decode cX0_noteAll 12 = .ok (.isub, 1) := by decide +kernel
theorem dX0_noteAll_13 : decode cX0_noteAll 13 = .ok (.putfield 33, 3) := by decide +kernel
theorem dX0_noteAll_16 : decode cX0_noteAll 16 = .ok (.aload_n 0, 1) := by decide +kernel
theorem dX0_noteAll_17 : decode cX0_noteAll 17 = .ok (.aload_n 1, 1) := by decide +kernel
theorem dX0_noteAll_18 : decode cX0_noteAll 18 = .ok (.getfield 55, 3) := by decide +kernel
theorem dX0_noteAll_21 : decode cX0_noteAll 21 = .ok (.putfield 36, 3) := by decide +kernel
theorem dX0_noteAll_24 : decode cX0_noteAll 24 = .ok (.aload_n 0, 1) := by decide +kernel
theorem dX0_noteAll_25 : decode cX0_noteAll 25 = .ok (.iconst 1, 1) := by decide +kernel
theorem dX0_noteAll_26 : decode cX0_noteAll 26 = .ok (.aload_n 0, 1) := by decide +kernel
theorem dX0_noteAll_27 : decode cX0_noteAll 27 = .ok (.getfield 29, 3) := by decide +kernel
theorem dX0_noteAll_30 : decode cX0_noteAll 30 = .ok (.ishl, 1) := by decide +kernel
theorem dX0_noteAll_31 : decode cX0_noteAll 31 = .ok (.iconst 1, 1) := by decide +kernel
theorem dX0_noteAll_32 : decode cX0_noteAll 32 = .ok (.isub, 1) := by decide +kernel
theorem dX0_noteAll_33 : decode cX0_noteAll 33 = .ok (.putfield 39, 3) := by decide +kernel
theorem dX0_noteAll_36 : decode cX0_noteAll 36 = .ok (.aload_n 0, 1) := by decide +kernel
theorem dX0_noteAll_37 : decode cX0_noteAll 37 = .ok (.aload_n 1, 1) := by decide +kernel
theorem dX0_noteAll_38 : decode cX0_noteAll 38 = .ok (.invokevirtual 58, 3) := by decide +kernel
theorem dX0_noteAll_41 : decode cX0_noteAll 41 = .ok (.putfield 42, 3) := by decide +kernel
theorem dX0_noteAll_44 : decode cX0_noteAll 44 = .ok (.aload_n 0, 1) := by decide +kernel
theorem dX0_noteAll_45 : decode cX0_noteAll 45 = .ok (.iconst 1, 1) := by decide +kernel
theorem dX0_noteAll_46 : decode cX0_noteAll 46 = .ok (.iconst 2, 1) := by decide +kernel
theorem dX0_noteAll_47 : decode cX0_noteAll 47 = .ok (.aload_n 0, 1) := by decide +kernel
theorem dX0_noteAll_48 : decode cX0_noteAll 48 = .ok (.getfield 29, 3) := by decide +kernel
theorem dX0_noteAll_51 : decode cX0_noteAll 51 = .ok (.imul, 1) := by decide +kernel
theorem dX0_noteAll_52 : decode cX0_noteAll 52 = .ok (.ishl, 1) := by decide +kernel
theorem dX0_noteAll_53 : decode cX0_noteAll 53 = .ok (.iconst 1, 1) := by decide +kernel
theorem dX0_noteAll_54 : decode cX0_noteAll 54 = .ok (.isub, 1) := by decide +kernel
theorem dX0_noteAll_55 : decode cX0_noteAll 55 = .ok (.putfield 45, 3) := by decide +kernel
theorem dX0_noteAll_58 : decode cX0_noteAll 58 = .ok (.aload_n 0, 1) := by decide +kernel
theorem dX0_noteAll_59 : decode cX0_noteAll 59 = .ok (.aload_n 1, 1) := by decide +kernel
theorem dX0_noteAll_60 : decode cX0_noteAll 60 = .ok (.getfield 62, 3) := by decide +kernel
theorem dX0_noteAll_63 : decode cX0_noteAll 63 = .ok (.putfield 48, 3) := by decide +kernel
theorem dX0_noteAll_66 : decode cX0_noteAll 66 = .ok (.aload_n 0, 1) := by decide +kernel
theorem dX0_noteAll_67 : decode cX0_noteAll 67 = .ok (.iconst 0, 1) := by decide +kernel
theorem dX0_noteAll_68 : decode cX0_noteAll 68 = .ok (.putfield 51, 3) := by decide +kernel
theorem dX0_noteAll_71 : decode cX0_noteAll 71 = .ok (.return_, 1) := by decide +kernel
theorem dX0_search_0 : decode cX0_search 0 = .ok (.aload_n 0, 1) := by decide +kernel
theorem dX0_search_1 : decode cX0_search 1 = .ok (.getfield 51, 3) := by decide +kernel
theorem dX0_search_4 : decode cX0_search 4 = .ok (.ifCond .eq 4, 3) := by decide +kernel
theorem dX0_search_7 : decode cX0_search 7 = .ok (.return_, 1) := by decide +kernel
theorem dX0_search_8 : decode cX0_search 8 = .ok (.aload_n 0, 1) := by decide +kernel
theorem dX0_search_9 : decode cX0_search 9 = .ok (.iconst 1, 1) := by decide +kernel
theorem dX0_search_10 : decode cX0_search 10 = .ok (.putfield 51, 3) := by decide +kernel
theorem dX0_search_13 : decode cX0_search 13 = .ok (.aload_n 0, 1) := by decide +kernel
theorem dX0_search_14 : decode cX0_search 14 = .ok (.getfield 12, 3) := by decide +kernel
theorem dX0_search_17 : decode cX0_search 17 = .ok (.aload_n 0, 1) := by decide +kernel
theorem dX0_search_18 : decode cX0_search 18 = .ok (.getfield 29, 3) := by decide +kernel
theorem dX0_search_21 : decode cX0_search 21 = .ok (.invokevirtual 63, 3) := by decide +kernel
theorem dX0_search_24 : decode cX0_search 24 = .ok (.aload_n 0, 1) := by decide +kernel
theorem dX0_search_25 : decode cX0_search 25 = .ok (.iconst 0, 1) := by decide +kernel
theorem dX0_search_26 : decode cX0_search 26 = .ok (.putfield 67, 3) := by decide +kernel
theorem dX0_search_29 : decode cX0_search 29 = .ok (.aload_n 0, 1) := by decide +kernel
theorem dX0_search_30 : decode cX0_search 30 = .ok (.iconst (-1), 1) := by decide +kernel
theorem dX0_search_31 : decode cX0_search 31 = .ok (.putfield 70, 3) := by decide +kernel
theorem dX0_search_34 : decode cX0_search 34 = .ok (.iconst 0, 1) := by decide +kernel
theorem dX0_search_35 : decode cX0_search 35 = .ok (.istore_n 1, 1) := by decide +kernel
theorem dX0_search_36 : decode cX0_search 36 = .ok (.iload_n 1, 1) := by decide +kernel
theorem dX0_search_37 : decode cX0_search 37 = .ok (.aload_n 0, 1) := by decide +kernel
theorem dX0_search_38 : decode cX0_search 38 = .ok (.getfield 12, 3) := by decide +kernel
theorem dX0_search_41 : decode cX0_search 41 = .ok (.getfield 73, 3) := by decide +kernel
theorem dX0_search_44 : decode cX0_search 44 = .ok (.if_icmp .ge 34, 3) := by decide +kernel
theorem dX0_search_47 : decode cX0_search 47 = .ok (.aload_n 0, 1) := by decide +kernel
theorem dX0_search_48 : decode cX0_search 48 = .ok (.getfield 12, 3) := by decide +kernel
theorem dX0_search_51 : decode cX0_search 51 = .ok (.iload_n 1, 1) := by decide +kernel
theorem dX0_search_52 : decode cX0_search 52 = .ok (.invokevirtual 76, 3) := by decide +kernel
theorem dX0_search_55 : decode cX0_search 55 = .ok (.aload_n 0, 1) := by decide +kernel
theorem dX0_search_56 : decode cX0_search 56 = .ok (.getfield 33, 3) := by decide +kernel
theorem dX0_search_59 : decode cX0_search 59 = .ok (.iand, 1) := by decide +kernel
theorem dX0_search_60 : decode cX0_search 60 = .ok (.aload_n 0, 1) := by decide +kernel
theorem dX0_search_61 : decode cX0_search 61 = .ok (.getfield 36, 3) := by decide +kernel
theorem dX0_search_64 : decode cX0_search 64 = .ok (.if_icmp .ne 8, 3) := by decide +kernel
theorem dX0_search_67 : decode cX0_search 67 = .ok (.aload_n 0, 1) := by decide +kernel
theorem dX0_search_68 : decode cX0_search 68 = .ok (.iload_n 1, 1) := by decide +kernel
theorem dX0_search_69 : decode cX0_search 69 = .ok (.invokevirtual 80, 3) := by decide +kernel
theorem dX0_search_72 : decode cX0_search 72 = .ok (.iinc 1 1, 3) := by decide +kernel
theorem dX0_search_75 : decode cX0_search 75 = .ok (.goto (-39), 3) := by decide +kernel
theorem dX0_search_78 : decode cX0_search 78 = .ok (.return_, 1) := by decide +kernel
theorem dX0_countEndings_0 : decode cX0_countEndings 0 = .ok (.aload_n 0, 1) := by decide +kernel
theorem dX0_countEndings_1 : decode cX0_countEndings 1 = .ok (.getfield 12, 3) := by decide +kernel
theorem dX0_countEndings_4 : decode cX0_countEndings 4 = .ok (.aload_n 0, 1) := by decide +kernel
theorem dX0_countEndings_5 : decode cX0_countEndings 5 = .ok (.getfield 21, 3) := by decide +kernel
theorem dX0_countEndings_8 : decode cX0_countEndings 8 = .ok (.iload_n 1, 1) := by decide +kernel
theorem dX0_countEndings_9 : decode cX0_countEndings 9 = .ok (.invokevirtual 83, 3) := by decide +kernel
theorem dX0_countEndings_12 : decode cX0_countEndings 12 = .ok (.aload_n 0, 1) := by decide +kernel
theorem dX0_countEndings_13 : decode cX0_countEndings 13 = .ok (.invokevirtual 87, 3) := by decide +kernel
theorem dX0_countEndings_16 : decode cX0_countEndings 16 = .ok (.aload_n 0, 1) := by decide +kernel
theorem dX0_countEndings_17 : decode cX0_countEndings 17 = .ok (.invokevirtual 90, 3) := by decide +kernel
theorem dX0_countEndings_20 : decode cX0_countEndings 20 = .ok (.imul, 1) := by decide +kernel
theorem dX0_countEndings_21 : decode cX0_countEndings 21 = .ok (.istore_n 2, 1) := by decide +kernel
theorem dX0_countEndings_22 : decode cX0_countEndings 22 = .ok (.iload_n 2, 1) := by decide +kernel
theorem dX0_countEndings_23 : decode cX0_countEndings 23 = .ok (.ifCond .le 40, 3) := by decide +kernel
theorem dX0_countEndings_26 : decode cX0_countEndings 26 = .ok (.aload_n 0, 1) := by decide +kernel
theorem dX0_countEndings_27 : decode cX0_countEndings 27 = .ok (.getfield 70, 3) := by decide +kernel
theorem dX0_countEndings_30 : decode cX0_countEndings 30 = .ok (.iconst (-1), 1) := by decide +kernel
theorem dX0_countEndings_31 : decode cX0_countEndings 31 = .ok (.if_icmp .ne 32, 3) := by decide +kernel
theorem dX0_countEndings_34 : decode cX0_countEndings 34 = .ok (.aload_n 0, 1) := by decide +kernel
theorem dX0_countEndings_35 : decode cX0_countEndings 35 = .ok (.iload_n 1, 1) := by decide +kernel
theorem dX0_countEndings_36 : decode cX0_countEndings 36 = .ok (.putfield 70, 3) := by decide +kernel
theorem dX0_countEndings_39 : decode cX0_countEndings 39 = .ok (.aload_n 0, 1) := by decide +kernel
theorem dX0_countEndings_40 : decode cX0_countEndings 40 = .ok (.aload_n 0, 1) := by decide +kernel
theorem dX0_countEndings_41 : decode cX0_countEndings 41 = .ok (.getfield 93, 3) := by decide +kernel
theorem dX0_countEndings_44 : decode cX0_countEndings 44 = .ok (.putfield 96, 3) := by decide +kernel
theorem dX0_countEndings_47 : decode cX0_countEndings 47 = .ok (.aload_n 0, 1) := by decide +kernel
theorem dX0_countEndings_48 : decode cX0_countEndings 48 = .ok (.aload_n 0, 1) := by decide +kernel
theorem dX0_countEndings_49 : decode cX0_countEndings 49 = .ok (.getfield 48, 3) := by decide +kernel
theorem dX0_countEndings_52 : decode cX0_countEndings 52 = .ok (.ifCond .eq 7, 3) := by decide +kernel
theorem dX0_countEndings_55 : decode cX0_countEndings 55 = .ok (.iconst 1, 1) := by decide +kernel
theorem dX0_countEndings_56 : decode cX0_countEndings 56 = .ok (.goto 4, 3) := by decide +kernel
theorem dX0_countEndings_59 : decode cX0_countEndings 59 = .ok (.iconst 0, 1) := by decide +kernel
theorem dX0_countEndings_60 : decode cX0_countEndings 60 = .ok (.putfield 99, 3) := by decide +kernel
theorem dX0_countEndings_63 : decode cX0_countEndings 63 = .ok (.aload_n 0, 1) := by decide +kernel
theorem dX0_countEndings_64 : decode cX0_countEndings 64 = .ok (.dup, 1) := by decide +kernel
theorem dX0_countEndings_65 : decode cX0_countEndings 65 = .ok (.getfield 67, 3) := by decide +kernel
theorem dX0_countEndings_68 : decode cX0_countEndings 68 = .ok (.iload_n 2, 1) := by decide +kernel
theorem dX0_countEndings_69 : decode cX0_countEndings 69 = .ok (.aload_n 0, 1) := by decide +kernel
theorem dX0_countEndings_70 : decode cX0_countEndings 70 = .ok (.getfield 12, 3) := by decide +kernel
theorem dX0_countEndings_73 : decode cX0_countEndings 73 = .ok (.getfield 102, 3) := by decide +kernel
theorem dX0_countEndings_76 : decode cX0_countEndings 76 = .ok (.iload_n 1, 1) := by decide +kernel
theorem dX0_countEndings_77 : decode cX0_countEndings 77 = .ok (.iaload, 1) := by decide +kernel
theorem dX0_countEndings_78 : decode cX0_countEndings 78 = .ok (.imul, 1) := by decide +kernel
theorem dX0_countEndings_79 : decode cX0_countEndings 79 = .ok (.iadd, 1) := by decide +kernel
theorem dX0_countEndings_80 : decode cX0_countEndings 80 = .ok (.putfield 67, 3) := by decide +kernel
theorem dX0_countEndings_83 : decode cX0_countEndings 83 = .ok (.return_, 1) := by decide +kernel
theorem dX0_slitEndings_0 : decode cX0_slitEndings 0 = .ok (.aload_n 0, 1) := by decide +kernel
theorem dX0_slitEndings_1 : decode cX0_slitEndings 1 = .ok (.getfield 42, 3) := by decide +kernel
theorem dX0_slitEndings_4 : decode cX0_slitEndings 4 = .ok (.ifCond .ne 7, 3) := by decide +kernel
theorem dX0_slitEndings_7 : decode cX0_slitEndings 7 = .ok (.iconst 1, 1) := by decide +kernel
theorem dX0_slitEndings_8 : decode cX0_slitEndings 8 = .ok (.goto 4, 3) := by decide +kernel
theorem dX0_slitEndings_11 : decode cX0_slitEndings 11 = .ok (.iconst 0, 1) := by decide +kernel
theorem dX0_slitEndings_12 : decode cX0_slitEndings 12 = .ok (.istore_n 1, 1) := by decide +kernel
theorem dX0_slitEndings_13 : decode cX0_slitEndings 13 = .ok (.aload_n 0, 1) := by decide +kernel
theorem dX0_slitEndings_14 : decode cX0_slitEndings 14 = .ok (.iconst 0, 1) := by decide +kernel
theorem dX0_slitEndings_15 : decode cX0_slitEndings 15 = .ok (.putfield 93, 3) := by decide +kernel
theorem dX0_slitEndings_18 : decode cX0_slitEndings 18 = .ok (.iconst 0, 1) := by decide +kernel
theorem dX0_slitEndings_19 : decode cX0_slitEndings 19 = .ok (.istore_n 2, 1) := by decide +kernel
theorem dX0_slitEndings_20 : decode cX0_slitEndings 20 = .ok (.iload_n 2, 1) := by decide +kernel
theorem dX0_slitEndings_21 : decode cX0_slitEndings 21 = .ok (.aload_n 0, 1) := by decide +kernel
theorem dX0_slitEndings_22 : decode cX0_slitEndings 22 = .ok (.getfield 21, 3) := by decide +kernel
theorem dX0_slitEndings_25 : decode cX0_slitEndings 25 = .ok (.getfield 105, 3) := by decide +kernel
theorem dX0_slitEndings_28 : decode cX0_slitEndings 28 = .ok (.if_icmp .ge 67, 3) := by decide +kernel
theorem dX0_slitEndings_31 : decode cX0_slitEndings 31 = .ok (.iconst 1, 1) := by decide +kernel
theorem dX0_slitEndings_32 : decode cX0_slitEndings 32 = .ok (.istore_n 3, 1) := by decide +kernel
theorem dX0_slitEndings_33 : decode cX0_slitEndings 33 = .ok (.iload_n 3, 1) := by decide +kernel
theorem dX0_slitEndings_34 : decode cX0_slitEndings 34 = .ok (.aload_n 0, 1) := by decide +kernel
theorem dX0_slitEndings_35 : decode cX0_slitEndings 35 = .ok (.getfield 21, 3) := by decide +kernel
theorem dX0_slitEndings_38 : decode cX0_slitEndings 38 = .ok (.getfield 108, 3) := by decide +kernel
theorem dX0_slitEndings_41 : decode cX0_slitEndings 41 = .ok (.iload_n 2, 1) := by decide +kernel
theorem dX0_slitEndings_42 : decode cX0_slitEndings 42 = .ok (.iaload, 1) := by decide +kernel
theorem dX0_slitEndings_43 : decode cX0_slitEndings 43 = .ok (.if_icmp .gt 46, 3) := by decide +kernel
theorem dX0_slitEndings_46 : decode cX0_slitEndings 46 = .ok (.aload_n 0, 1) := by decide +kernel
theorem dX0_slitEndings_47 : decode cX0_slitEndings 47 = .ok (.iload_n 2, 1) := by decide +kernel
theorem dX0_slitEndings_48 : decode cX0_slitEndings 48 = .ok (.iload_n 3, 1) := by decide +kernel
theorem dX0_slitEndings_49 : decode cX0_slitEndings 49 = .ok (.invokevirtual 111, 3) := by decide +kernel
theorem dX0_slitEndings_52 : decode cX0_slitEndings 52 = .ok (.ifCond .eq 31, 3) := by decide +kernel
theorem dX0_slitEndings_55 : decode cX0_slitEndings 55 = .ok (.aload_n 0, 1) := by decide +kernel
theorem dX0_slitEndings_56 : decode cX0_slitEndings 56 = .ok (.iload_n 1, 1) := by decide +kernel
theorem dX0_slitEndings_57 : decode cX0_slitEndings 57 = .ok (.ifCond .ne 16, 3) := by decide +kernel
theorem dX0_slitEndings_60 : decode cX0_slitEndings 60 = .ok (.sipush 1000, 3) := by decide +kernel
theorem dX0_slitEndings_63 : decode cX0_slitEndings 63 = .ok (.bipush 10, 2) := by decide +kernel
theorem dX0_slitEndings_65 : decode cX0_slitEndings 65 = .ok (.iload_n 2, 1) := by decide +kernel
theorem dX0_slitEndings_66 : decode cX0_slitEndings 66 = .ok (.imul, 1) := by decide +kernel
theorem dX0_slitEndings_67 : decode cX0_slitEndings 67 = .ok (.iadd, 1) := by decide +kernel
theorem dX0_slitEndings_68 : decode cX0_slitEndings 68 = .ok (.iload_n 3, 1) := by decide +kernel
theorem dX0_slitEndings_69 : decode cX0_slitEndings 69 = .ok (.iadd, 1) := by decide +kernel
theorem dX0_slitEndings_70 : decode cX0_slitEndings 70 = .ok (.goto 7, 3) := by decide +kernel
theorem dX0_slitEndings_73 : decode cX0_slitEndings 73 = .ok (.aload_n 0, 1) := by decide +kernel
theorem dX0_slitEndings_74 : decode cX0_slitEndings 74 = .ok (.getfield 93, 3) := by decide +kernel
theorem dX0_slitEndings_77 : decode cX0_slitEndings 77 = .ok (.putfield 93, 3) := by decide +kernel
theorem dX0_slitEndings_80 : decode cX0_slitEndings 80 = .ok (.iinc 1 1, 3) := by decide +kernel
theorem dX0_slitEndings_83 : decode cX0_slitEndings 83 = .ok (.iinc 3 1, 3) := by decide +kernel
theorem dX0_slitEndings_86 : decode cX0_slitEndings 86 = .ok (.goto (-53), 3) := by decide +kernel
theorem dX0_slitEndings_89 : decode cX0_slitEndings 89 = .ok (.iinc 2 1, 3) := by decide +kernel
theorem dX0_slitEndings_92 : decode cX0_slitEndings 92 = .ok (.goto (-72), 3) := by decide +kernel
theorem dX0_slitEndings_95 : decode cX0_slitEndings 95 = .ok (.iload_n 1, 1) := by decide +kernel
theorem dX0_slitEndings_96 : decode cX0_slitEndings 96 = .ok (.ireturn, 1) := by decide +kernel
theorem dX0_fitsSlit_0 : decode cX0_fitsSlit 0 = .ok (.aload_n 0, 1) := by decide +kernel
theorem dX0_fitsSlit_1 : decode cX0_fitsSlit 1 = .ok (.getfield 21, 3) := by decide +kernel
theorem dX0_fitsSlit_4 : decode cX0_fitsSlit 4 = .ok (.iload_n 1, 1) := by decide +kernel
theorem dX0_fitsSlit_5 : decode cX0_fitsSlit 5 = .ok (.iload_n 2, 1) := by decide +kernel
theorem dX0_fitsSlit_6 : decode cX0_fitsSlit 6 = .ok (.invokevirtual 115, 3) := by decide +kernel
theorem dX0_fitsSlit_9 : decode cX0_fitsSlit 9 = .ok (.aload_n 0, 1) := by decide +kernel
theorem dX0_fitsSlit_10 : decode cX0_fitsSlit 10 = .ok (.getfield 39, 3) := by decide +kernel
theorem dX0_fitsSlit_13 : decode cX0_fitsSlit 13 = .ok (.iand, 1) := by decide +kernel
theorem dX0_fitsSlit_14 : decode cX0_fitsSlit 14 = .ok (.aload_n 0, 1) := by decide +kernel
theorem dX0_fitsSlit_15 : decode cX0_fitsSlit 15 = .ok (.getfield 42, 3) := by decide +kernel
theorem dX0_fitsSlit_18 : decode cX0_fitsSlit 18 = .ok (.if_icmp .ne 7, 3) := by decide +kernel
theorem dX0_fitsSlit_21 : decode cX0_fitsSlit 21 = .ok (.iconst 1, 1) := by decide +kernel
theorem dX0_fitsSlit_22 : decode cX0_fitsSlit 22 = .ok (.goto 4, 3) := by decide +kernel
theorem dX0_fitsSlit_25 : decode cX0_fitsSlit 25 = .ok (.iconst 0, 1) := by decide +kernel
theorem dX0_fitsSlit_26 : decode cX0_fitsSlit 26 = .ok (.ireturn, 1) := by decide +kernel
theorem dX0_soilEndings_0 : decode cX0_soilEndings 0 = .ok (.aload_n 0, 1) := by decide +kernel
theorem dX0_soilEndings_1 : decode cX0_soilEndings 1 = .ok (.getfield 48, 3) := by decide +kernel
theorem dX0_soilEndings_4 : decode cX0_soilEndings 4 = .ok (.ifCond .ne 7, 3) := by decide +kernel
theorem dX0_soilEndings_7 : decode cX0_soilEndings 7 = .ok (.iconst 1, 1) := by decide +kernel
theorem dX0_soilEndings_8 : decode cX0_soilEndings 8 = .ok (.goto 4, 3) := by decide +kernel
theorem dX0_soilEndings_11 : decode cX0_soilEndings 11 = .ok (.iconst 0, 1) := by decide +kernel
theorem dX0_soilEndings_12 : decode cX0_soilEndings 12 = .ok (.istore_n 1, 1) := by decide +kernel
theorem dX0_soilEndings_13 : decode cX0_soilEndings 13 = .ok (.aload_n 0, 1) := by decide +kernel
theorem dX0_soilEndings_14 : decode cX0_soilEndings 14 = .ok (.getfield 21, 3) := by decide +kernel
theorem dX0_soilEndings_17 : decode cX0_soilEndings 17 = .ok (.invokevirtual 119, 3) := by decide +kernel
theorem dX0_soilEndings_20 : decode cX0_soilEndings 20 = .ok (.aload_n 0, 1) := by decide +kernel
theorem dX0_soilEndings_21 : decode cX0_soilEndings 21 = .ok (.getfield 45, 3) := by decide +kernel
theorem dX0_soilEndings_24 : decode cX0_soilEndings 24 = .ok (.iand, 1) := by decide +kernel
theorem dX0_soilEndings_25 : decode cX0_soilEndings 25 = .ok (.aload_n 0, 1) := by decide +kernel
theorem dX0_soilEndings_26 : decode cX0_soilEndings 26 = .ok (.getfield 48, 3) := by decide +kernel
theorem dX0_soilEndings_29 : decode cX0_soilEndings 29 = .ok (.if_icmp .ne 7, 3) := by decide +kernel
theorem dX0_soilEndings_32 : decode cX0_soilEndings 32 = .ok (.iconst 1, 1) := by decide +kernel
theorem dX0_soilEndings_33 : decode cX0_soilEndings 33 = .ok (.goto 4, 3) := by decide +kernel
theorem dX0_soilEndings_36 : decode cX0_soilEndings 36 = .ok (.iconst 0, 1) := by decide +kernel
theorem dX0_soilEndings_37 : decode cX0_soilEndings 37 = .ok (.istore_n 2, 1) := by decide +kernel
theorem dX0_soilEndings_38 : decode cX0_soilEndings 38 = .ok (.iload_n 1, 1) := by decide +kernel
theorem dX0_soilEndings_39 : decode cX0_soilEndings 39 = .ok (.iload_n 2, 1) := by decide +kernel
theorem dX0_soilEndings_40 : decode cX0_soilEndings 40 = .ok (.iadd, 1) := by decide +kernel
theorem dX0_soilEndings_41 : decode cX0_soilEndings 41 = .ok (.ireturn, 1) := by decide +kernel
theorem dX0_firstAct_0 : decode cX0_firstAct 0 = .ok (.aload_n 0, 1) := by decide +kernel
theorem dX0_firstAct_1 : decode cX0_firstAct 1 = .ok (.getfield 70, 3) := by decide +kernel
theorem dX0_firstAct_4 : decode cX0_firstAct 4 = .ok (.iconst (-1), 1) := by decide +kernel
theorem dX0_firstAct_5 : decode cX0_firstAct 5 = .ok (.if_icmp .eq 7, 3) := by decide +kernel
theorem dX0_firstAct_8 : decode cX0_firstAct 8 = .ok (.iload_n 1, 1) := by decide +kernel
theorem dX0_firstAct_9 : decode cX0_firstAct 9 = .ok (.ifCond .ge 5, 3) := by decide +kernel
theorem dX0_firstAct_12 : decode cX0_firstAct 12 = .ok (.iconst (-1), 1) := by decide +kernel
theorem dX0_firstAct_13 : decode cX0_firstAct 13 = .ok (.ireturn, 1) := by decide +kernel
theorem dX0_firstAct_14 : decode cX0_firstAct 14 = .ok (.aload_n 0, 1) := by decide +kernel
theorem dX0_firstAct_15 : decode cX0_firstAct 15 = .ok (.getfield 12, 3) := by decide +kernel
theorem dX0_firstAct_18 : decode cX0_firstAct 18 = .ok (.aload_n 0, 1) := by decide +kernel
theorem dX0_firstAct_19 : decode cX0_firstAct 19 = .ok (.getfield 70, 3) := by decide +kernel
theorem dX0_firstAct_22 : decode cX0_firstAct 22 = .ok (.invokevirtual 122, 3) := by decide +kernel
theorem dX0_firstAct_25 : decode cX0_firstAct 25 = .ok (.istore_n 2, 1) := by decide +kernel
theorem dX0_firstAct_26 : decode cX0_firstAct 26 = .ok (.iload_n 1, 1) := by decide +kernel
theorem dX0_firstAct_27 : decode cX0_firstAct 27 = .ok (.iload_n 2, 1) := by decide +kernel
theorem dX0_firstAct_28 : decode cX0_firstAct 28 = .ok (.if_icmp .ge 16, 3) := by decide +kernel
theorem dX0_firstAct_31 : decode cX0_firstAct 31 = .ok (.aload_n 0, 1) := by decide +kernel
theorem dX0_firstAct_32 : decode cX0_firstAct 32 = .ok (.getfield 12, 3) := by decide +kernel
theorem dX0_firstAct_35 : decode cX0_firstAct 35 = .ok (.aload_n 0, 1) := by decide +kernel
theorem dX0_firstAct_36 : decode cX0_firstAct 36 = .ok (.getfield 70, 3) := by decide +kernel
theorem dX0_firstAct_39 : decode cX0_firstAct 39 = .ok (.iload_n 1, 1) := by decide +kernel
theorem dX0_firstAct_40 : decode cX0_firstAct 40 = .ok (.invokevirtual 125, 3) := by decide +kernel
theorem dX0_firstAct_43 : decode cX0_firstAct 43 = .ok (.ireturn, 1) := by decide +kernel
theorem dX0_firstAct_44 : decode cX0_firstAct 44 = .ok (.iload_n 1, 1) := by decide +kernel
theorem dX0_firstAct_45 : decode cX0_firstAct 45 = .ok (.iload_n 2, 1) := by decide +kernel
theorem dX0_firstAct_46 : decode cX0_firstAct 46 = .ok (.isub, 1) := by decide +kernel
theorem dX0_firstAct_47 : decode cX0_firstAct 47 = .ok (.istore_n 3, 1) := by decide +kernel
theorem dX0_firstAct_48 : decode cX0_firstAct 48 = .ok (.aload_n 0, 1) := by decide +kernel
theorem dX0_firstAct_49 : decode cX0_firstAct 49 = .ok (.getfield 96, 3) := by decide +kernel
theorem dX0_firstAct_52 : decode cX0_firstAct 52 = .ok (.ifCond .eq 15, 3) := by decide +kernel
theorem dX0_firstAct_55 : decode cX0_firstAct 55 = .ok (.iload_n 3, 1) := by decide +kernel
theorem dX0_firstAct_56 : decode cX0_firstAct 56 = .ok (.ifCond .ne 8, 3) := by decide +kernel
theorem dX0_firstAct_59 : decode cX0_firstAct 59 = .ok (.aload_n 0, 1) := by decide +kernel
theorem dX0_firstAct_60 : decode cX0_firstAct 60 = .ok (.getfield 96, 3) := by decide +kernel
theorem dX0_firstAct_63 : decode cX0_firstAct 63 = .ok (.ireturn, 1) := by decide +kernel
theorem dX0_firstAct_64 : decode cX0_firstAct 64 = .ok (.iinc 3 (-1), 3) := by decide +kernel
theorem dX0_firstAct_67 : decode cX0_firstAct 67 = .ok (.iload_n 3, 1) := by decide +kernel
theorem dX0_firstAct_68 : decode cX0_firstAct 68 = .ok (.ifCond .ne 16, 3) := by decide +kernel
theorem dX0_firstAct_71 : decode cX0_firstAct 71 = .ok (.aload_n 0, 1) := by decide +kernel
theorem dX0_firstAct_72 : decode cX0_firstAct 72 = .ok (.getfield 99, 3) := by decide +kernel
theorem dX0_firstAct_75 : decode cX0_firstAct 75 = .ok (.ifCond .eq 9, 3) := by decide +kernel
theorem dX0_firstAct_78 : decode cX0_firstAct 78 = .ok (.sipush 2000, 3) := by decide +kernel
theorem dX0_firstAct_81 : decode cX0_firstAct 81 = .ok (.goto 4, 3) := by decide +kernel
theorem dX0_firstAct_84 : decode cX0_firstAct 84 = .ok (.iconst (-1), 1) := by decide +kernel
theorem dX0_firstAct_85 : decode cX0_firstAct 85 = .ok (.ireturn, 1) := by decide +kernel
theorem dX0_isShutTwice_0 : decode cX0_isShutTwice 0 = .ok (.aload_n 0, 1) := by decide +kernel
theorem dX0_isShutTwice_1 : decode cX0_isShutTwice 1 = .ok (.invokevirtual 128, 3) := by decide +kernel
theorem dX0_isShutTwice_4 : decode cX0_isShutTwice 4 = .ok (.iconst 0, 1) := by decide +kernel
theorem dX0_isShutTwice_5 : decode cX0_isShutTwice 5 = .ok (.istore_n 1, 1) := by decide +kernel
theorem dX0_isShutTwice_6 : decode cX0_isShutTwice 6 = .ok (.iload_n 1, 1) := by decide +kernel
theorem dX0_isShutTwice_7 : decode cX0_isShutTwice 7 = .ok (.aload_n 0, 1) := by decide +kernel
theorem dX0_isShutTwice_8 : decode cX0_isShutTwice 8 = .ok (.getfield 12, 3) := by decide +kernel
theorem dX0_isShutTwice_11 : decode cX0_isShutTwice 11 = .ok (.getfield 73, 3) := by decide +kernel
theorem dX0_isShutTwice_14 : decode cX0_isShutTwice 14 = .ok (.if_icmp .ge 64, 3) := by decide +kernel
theorem dX0_isShutTwice_17 : decode cX0_isShutTwice 17 = .ok (.aload_n 0, 1) := by decide +kernel
theorem dX0_isShutTwice_18 : decode cX0_isShutTwice 18 = .ok (.getfield 12, 3) := by decide +kernel
theorem dX0_isShutTwice_21 : decode cX0_isShutTwice 21 = .ok (.iload_n 1, 1) := by decide +kernel
theorem dX0_isShutTwice_22 : decode cX0_isShutTwice 22 = .ok (.invokevirtual 76, 3) := by decide +kernel
theorem dX0_isShutTwice_25 : decode cX0_isShutTwice 25 = .ok (.aload_n 0, 1) := by decide +kernel
theorem dX0_isShutTwice_26 : decode cX0_isShutTwice 26 = .ok (.getfield 33, 3) := by decide +kernel
theorem dX0_isShutTwice_29 : decode cX0_isShutTwice 29 = .ok (.iand, 1) := by decide +kernel
theorem dX0_isShutTwice_30 : decode cX0_isShutTwice 30 = .ok (.istore_n 2, 1) := by decide +kernel
theorem dX0_isShutTwice_31 : decode cX0_isShutTwice 31 = .ok (.aload_n 0, 1) := by decide +kernel
theorem dX0_isShutTwice_32 : decode cX0_isShutTwice 32 = .ok (.getfield 36, 3) := by decide +kernel
theorem dX0_isShutTwice_35 : decode cX0_isShutTwice 35 = .ok (.iload_n 2, 1) := by decide +kernel
theorem dX0_isShutTwice_36 : decode cX0_isShutTwice 36 = .ok (.iconst (-1), 1) := by decide +kernel
theorem dX0_isShutTwice_37 : decode cX0_isShutTwice 37 = .ok (.ixor, 1) := by decide +kernel
theorem dX0_isShutTwice_38 : decode cX0_isShutTwice 38 = .ok (.iand, 1) := by decide +kernel
theorem dX0_isShutTwice_39 : decode cX0_isShutTwice 39 = .ok (.istore_n 3, 1) := by decide +kernel
theorem dX0_isShutTwice_40 : decode cX0_isShutTwice 40 = .ok (.iload_n 2, 1) := by decide +kernel
theorem dX0_isShutTwice_41 : decode cX0_isShutTwice 41 = .ok (.aload_n 0, 1) := by decide +kernel
theorem dX0_isShutTwice_42 : decode cX0_isShutTwice 42 = .ok (.getfield 36, 3) := by decide +kernel
theorem dX0_isShutTwice_45 : decode cX0_isShutTwice 45 = .ok (.iconst (-1), 1) := by decide +kernel
theorem dX0_isShutTwice_46 : decode cX0_isShutTwice 46 = .ok (.ixor, 1) := by decide +kernel
theorem dX0_isShutTwice_47 : decode cX0_isShutTwice 47 = .ok (.iand, 1) := by decide +kernel
theorem dX0_isShutTwice_48 : decode cX0_isShutTwice 48 = .ok (.ifCond .ne 24, 3) := by decide +kernel
theorem dX0_isShutTwice_51 : decode cX0_isShutTwice 51 = .ok (.aload_n 0, 1) := by decide +kernel
theorem dX0_isShutTwice_52 : decode cX0_isShutTwice 52 = .ok (.getfield 25, 3) := by decide +kernel
theorem dX0_isShutTwice_55 : decode cX0_isShutTwice 55 = .ok (.iload_n 3, 1) := by decide +kernel
theorem dX0_isShutTwice_56 : decode cX0_isShutTwice 56 = .ok (.iconst 5, 1) := by decide +kernel
theorem dX0_isShutTwice_57 : decode cX0_isShutTwice 57 = .ok (.ishr, 1) := by decide +kernel
theorem dX0_isShutTwice_58 : decode cX0_isShutTwice 58 = .ok (.iaload, 1) := by decide +kernel
theorem dX0_isShutTwice_59 : decode cX0_isShutTwice 59 = .ok (.iload_n 3, 1) := by decide +kernel
theorem dX0_isShutTwice_60 : decode cX0_isShutTwice 60 = .ok (.bipush 31, 2) := by decide +kernel
theorem dX0_isShutTwice_62 : decode cX0_isShutTwice 62 = .ok (.iand, 1) := by decide +kernel
theorem dX0_isShutTwice_63 : decode cX0_isShutTwice 63 = .ok (.ishr, 1) := by decide +kernel
theorem dX0_isShutTwice_64 : decode cX0_isShutTwice 64 = .ok (.iconst 1, 1) := by decide +kernel
theorem dX0_isShutTwice_65 : decode cX0_isShutTwice 65 = .ok (.iand, 1) := by decide +kernel
theorem dX0_isShutTwice_66 : decode cX0_isShutTwice 66 = .ok (.iconst 1, 1) := by decide +kernel
theorem dX0_isShutTwice_67 : decode cX0_isShutTwice 67 = .ok (.if_icmp .ne 5, 3) := by decide +kernel
theorem dX0_isShutTwice_70 : decode cX0_isShutTwice 70 = .ok (.iconst 1, 1) := by decide +kernel
theorem dX0_isShutTwice_71 : decode cX0_isShutTwice 71 = .ok (.ireturn, 1) := by decide +kernel
theorem dX0_isShutTwice_72 : decode cX0_isShutTwice 72 = .ok (.iinc 1 1, 3) := by decide +kernel
theorem dX0_isShutTwice_75 : decode cX0_isShutTwice 75 = .ok (.goto (-69), 3) := by decide +kernel
theorem dX0_isShutTwice_78 : decode cX0_isShutTwice 78 = .ok (.iconst 0, 1) := by decide +kernel
theorem dX0_isShutTwice_79 : decode cX0_isShutTwice 79 = .ok (.ireturn, 1) := by decide +kernel
theorem dX0_collectWithin_0 : decode cX0_collectWithin 0 = .ok (.aload_n 0, 1) := by decide +kernel
theorem dX0_collectWithin_1 : decode cX0_collectWithin 1 = .ok (.getfield 25, 3) := by decide +kernel
theorem dX0_collectWithin_4 : decode cX0_collectWithin 4 = .ok (.iconst 0, 1) := by decide +kernel
theorem dX0_collectWithin_5 : decode cX0_collectWithin 5 = .ok (.invokestatic 131, 3) := by decide +kernel
theorem dX0_collectWithin_8 : decode cX0_collectWithin 8 = .ok (.iconst 0, 1) := by decide +kernel
theorem dX0_collectWithin_9 : decode cX0_collectWithin 9 = .ok (.istore_n 1, 1) := by decide +kernel
theorem dX0_collectWithin_10 : decode cX0_collectWithin 10 = .ok (.iload_n 1, 1) := by decide +kernel
theorem dX0_collectWithin_11 : decode cX0_collectWithin 11 = .ok (.aload_n 0, 1) := by decide +kernel
theorem dX0_collectWithin_12 : decode cX0_collectWithin 12 = .ok (.getfield 12, 3) := by decide +kernel
theorem dX0_collectWithin_15 : decode cX0_collectWithin 15 = .ok (.getfield 73, 3) := by decide +kernel
theorem dX0_collectWithin_18 : decode cX0_collectWithin 18 = .ok (.if_icmp .ge 51, 3) := by decide +kernel
theorem dX0_collectWithin_21 : decode cX0_collectWithin 21 = .ok (.aload_n 0, 1) := by decide +kernel
theorem dX0_collectWithin_22 : decode cX0_collectWithin 22 = .ok (.getfield 12, 3) := by decide +kernel
theorem dX0_collectWithin_25 : decode cX0_collectWithin 25 = .ok (.iload_n 1, 1) := by decide +kernel
theorem dX0_collectWithin_26 : decode cX0_collectWithin 26 = .ok (.invokevirtual 76, 3) := by decide +kernel
theorem dX0_collectWithin_29 : decode cX0_collectWithin 29 = .ok (.aload_n 0, 1) := by decide +kernel
theorem dX0_collectWithin_30 : decode cX0_collectWithin 30 = .ok (.getfield 33, 3) := by decide +kernel
theorem dX0_collectWithin_33 : decode cX0_collectWithin 33 = .ok (.iand, 1) := by decide +kernel
theorem dX0_collectWithin_34 : decode cX0_collectWithin 34 = .ok (.istore_n 2, 1) := by decide +kernel
theorem dX0_collectWithin_35 : decode cX0_collectWithin 35 = .ok (.iload_n 2, 1) := by decide +kernel
theorem dX0_collectWithin_36 : decode cX0_collectWithin 36 = .ok (.aload_n 0, 1) := by decide +kernel
theorem dX0_collectWithin_37 : decode cX0_collectWithin 37 = .ok (.getfield 36, 3) := by decide +kernel
theorem dX0_collectWithin_40 : decode cX0_collectWithin 40 = .ok (.iconst (-1), 1) := by decide +kernel
theorem dX0_collectWithin_41 : decode cX0_collectWithin 41 = .ok (.ixor, 1) := by decide +kernel
theorem dX0_collectWithin_42 : decode cX0_collectWithin 42 = .ok (.iand, 1) := by decide +kernel
theorem dX0_collectWithin_43 : decode cX0_collectWithin 43 = .ok (.ifCond .ne 20, 3) := by decide +kernel
theorem dX0_collectWithin_46 : decode cX0_collectWithin 46 = .ok (.aload_n 0, 1) := by decide +kernel
theorem dX0_collectWithin_47 : decode cX0_collectWithin 47 = .ok (.getfield 25, 3) := by decide +kernel
theorem dX0_collectWithin_50 : decode cX0_collectWithin 50 = .ok (.iload_n 2, 1) := by decide +kernel
theorem dX0_collectWithin_51 : decode cX0_collectWithin 51 = .ok (.iconst 5, 1) := by decide +kernel
theorem dX0_collectWithin_52 : decode cX0_collectWithin 52 = .ok (.ishr, 1) := by decide +kernel
theorem dX0_collectWithin_53 : decode cX0_collectWithin 53 = .ok (.dup2, 1) := by decide +kernel
theorem dX0_collectWithin_54 : decode cX0_collectWithin 54 = .ok (.iaload, 1) := by decide +kernel
theorem dX0_collectWithin_55 : decode cX0_collectWithin 55 = .ok (.iconst 1, 1) := by decide +kernel
theorem dX0_collectWithin_56 : decode cX0_collectWithin 56 = .ok (.iload_n 2, 1) := by decide +kernel
theorem dX0_collectWithin_57 : decode cX0_collectWithin 57 = .ok (.bipush 31, 2) := by decide +kernel
theorem dX0_collectWithin_59 : decode cX0_collectWithin 59 = .ok (.iand, 1) := by decide +kernel
theorem dX0_collectWithin_60 : decode cX0_collectWithin 60 = .ok (.ishl, 1) := by decide +kernel
theorem dX0_collectWithin_61 : decode cX0_collectWithin 61 = .ok (.ior, 1) := by decide +kernel
theorem dX0_collectWithin_62 : decode cX0_collectWithin 62 = .ok (.iastore, 1) := by decide +kernel
theorem dX0_collectWithin_63 : decode cX0_collectWithin 63 = .ok (.iinc 1 1, 3) := by decide +kernel
theorem dX0_collectWithin_66 : decode cX0_collectWithin 66 = .ok (.goto (-56), 3) := by decide +kernel
theorem dX0_collectWithin_69 : decode cX0_collectWithin 69 = .ok (.iconst 0, 1) := by decide +kernel
theorem dX0_collectWithin_70 : decode cX0_collectWithin 70 = .ok (.istore_n 1, 1) := by decide +kernel
theorem dX0_collectWithin_71 : decode cX0_collectWithin 71 = .ok (.iload_n 1, 1) := by decide +kernel
theorem dX0_collectWithin_72 : decode cX0_collectWithin 72 = .ok (.getstatic 137, 3) := by decide +kernel
theorem dX0_collectWithin_75 : decode cX0_collectWithin 75 = .ok (.arraylength, 1) := by decide +kernel
theorem dX0_collectWithin_76 : decode cX0_collectWithin 76 = .ok (.if_icmp .ge 51, 3) := by decide +kernel
theorem dX0_collectWithin_79 : decode cX0_collectWithin 79 = .ok (.iconst 0, 1) := by decide +kernel
theorem dX0_collectWithin_80 : decode cX0_collectWithin 80 = .ok (.istore_n 2, 1) := by decide +kernel
theorem dX0_collectWithin_81 : decode cX0_collectWithin 81 = .ok (.iload_n 2, 1) := by decide +kernel
theorem dX0_collectWithin_82 : decode cX0_collectWithin 82 = .ok (.aload_n 0, 1) := by decide +kernel
theorem dX0_collectWithin_83 : decode cX0_collectWithin 83 = .ok (.getfield 25, 3) := by decide +kernel
theorem dX0_collectWithin_86 : decode cX0_collectWithin 86 = .ok (.arraylength, 1) := by decide +kernel
theorem dX0_collectWithin_87 : decode cX0_collectWithin 87 = .ok (.if_icmp .ge 34, 3) := by decide +kernel
theorem dX0_collectWithin_90 : decode cX0_collectWithin 90 = .ok (.aload_n 0, 1) := by decide +kernel
theorem dX0_collectWithin_91 : decode cX0_collectWithin 91 = .ok (.getfield 25, 3) := by decide +kernel
theorem dX0_collectWithin_94 : decode cX0_collectWithin 94 = .ok (.iload_n 2, 1) := by decide +kernel
theorem dX0_collectWithin_95 : decode cX0_collectWithin 95 = .ok (.dup2, 1) := by decide +kernel
theorem dX0_collectWithin_96 : decode cX0_collectWithin 96 = .ok (.iaload, 1) := by decide +kernel
theorem dX0_collectWithin_97 : decode cX0_collectWithin 97 = .ok (.aload_n 0, 1) := by decide +kernel
theorem dX0_collectWithin_98 : decode cX0_collectWithin 98 = .ok (.getfield 25, 3) := by decide +kernel
theorem dX0_collectWithin_101 : decode cX0_collectWithin 101 = .ok (.iload_n 2, 1) := by decide +kernel
theorem dX0_collectWithin_102 : decode cX0_collectWithin 102 = .ok (.iaload, 1) := by decide +kernel
theorem dX0_collectWithin_103 : decode cX0_collectWithin 103 = .ok (.getstatic 137, 3) := by decide +kernel
theorem dX0_collectWithin_106 : decode cX0_collectWithin 106 = .ok (.iload_n 1, 1) := by decide +kernel
theorem dX0_collectWithin_107 : decode cX0_collectWithin 107 = .ok (.iaload, 1) := by decide +kernel
theorem dX0_collectWithin_108 : decode cX0_collectWithin 108 = .ok (.iand, 1) := by decide +kernel
theorem dX0_collectWithin_109 : decode cX0_collectWithin 109 = .ok (.iconst 1, 1) := by decide +kernel
theorem dX0_collectWithin_110 : decode cX0_collectWithin 110 = .ok (.iload_n 1, 1) := by decide +kernel
theorem dX0_collectWithin_111 : decode cX0_collectWithin 111 = .ok (.ishl, 1) := by decide +kernel
theorem dX0_collectWithin_112 : decode cX0_collectWithin 112 = .ok (.iushr, 1) := by decide +kernel
theorem dX0_collectWithin_113 : decode cX0_collectWithin 113 = .ok (.ior, 1) := by decide +kernel
theorem dX0_collectWithin_114 : decode cX0_collectWithin 114 = .ok (.iastore, 1) := by decide +kernel
theorem dX0_collectWithin_115 : decode cX0_collectWithin 115 = .ok (.iinc 2 1, 3) := by decide +kernel
theorem dX0_collectWithin_118 : decode cX0_collectWithin 118 = .ok (.goto (-37), 3) := by decide +kernel
theorem dX0_collectWithin_121 : decode cX0_collectWithin 121 = .ok (.iinc 1 1, 3) := by decide +kernel
theorem dX0_collectWithin_124 : decode cX0_collectWithin 124 = .ok (.goto (-53), 3) := by decide +kernel
theorem dX0_collectWithin_127 : decode cX0_collectWithin 127 = .ok (.iconst 1, 1) := by decide +kernel
theorem dX0_collectWithin_128 : decode cX0_collectWithin 128 = .ok (.istore_n 1, 1) := by decide +kernel
theorem dX0_collectWithin_129 : decode cX0_collectWithin 129 = .ok (.iload_n 1, 1) := by decide +kernel
theorem dX0_collectWithin_130 : decode cX0_collectWithin 130 = .ok (.aload_n 0, 1) := by decide +kernel
theorem dX0_collectWithin_131 : decode cX0_collectWithin 131 = .ok (.getfield 25, 3) := by decide +kernel
theorem dX0_collectWithin_134 : decode cX0_collectWithin 134 = .ok (.arraylength, 1) := by decide +kernel
theorem dX0_collectWithin_135 : decode cX0_collectWithin 135 = .ok (.if_icmp .ge 50, 3) := by decide +kernel
theorem dX0_collectWithin_138 : decode cX0_collectWithin 138 = .ok (.iconst 0, 1) := by decide +kernel
theorem dX0_collectWithin_139 : decode cX0_collectWithin 139 = .ok (.istore_n 2, 1) := by decide +kernel
theorem dX0_collectWithin_140 : decode cX0_collectWithin 140 = .ok (.iload_n 2, 1) := by decide +kernel
theorem dX0_collectWithin_141 : decode cX0_collectWithin 141 = .ok (.aload_n 0, 1) := by decide +kernel
theorem dX0_collectWithin_142 : decode cX0_collectWithin 142 = .ok (.getfield 25, 3) := by decide +kernel
theorem dX0_collectWithin_145 : decode cX0_collectWithin 145 = .ok (.arraylength, 1) := by decide +kernel
theorem dX0_collectWithin_146 : decode cX0_collectWithin 146 = .ok (.if_icmp .ge 32, 3) := by decide +kernel
theorem dX0_collectWithin_149 : decode cX0_collectWithin 149 = .ok (.iload_n 2, 1) := by decide +kernel
theorem dX0_collectWithin_150 : decode cX0_collectWithin 150 = .ok (.iload_n 1, 1) := by decide +kernel
theorem dX0_collectWithin_151 : decode cX0_collectWithin 151 = .ok (.iand, 1) := by decide +kernel
theorem dX0_collectWithin_152 : decode cX0_collectWithin 152 = .ok (.ifCond .eq 20, 3) := by decide +kernel
theorem dX0_collectWithin_155 : decode cX0_collectWithin 155 = .ok (.aload_n 0, 1) := by decide +kernel
theorem dX0_collectWithin_156 : decode cX0_collectWithin 156 = .ok (.getfield 25, 3) := by decide +kernel
theorem dX0_collectWithin_159 : decode cX0_collectWithin 159 = .ok (.iload_n 2, 1) := by decide +kernel
theorem dX0_collectWithin_160 : decode cX0_collectWithin 160 = .ok (.iload_n 1, 1) := by decide +kernel
theorem dX0_collectWithin_161 : decode cX0_collectWithin 161 = .ok (.isub, 1) := by decide +kernel
theorem dX0_collectWithin_162 : decode cX0_collectWithin 162 = .ok (.dup2, 1) := by decide +kernel
theorem dX0_collectWithin_163 : decode cX0_collectWithin 163 = .ok (.iaload, 1) := by decide +kernel
theorem dX0_collectWithin_164 : decode cX0_collectWithin 164 = .ok (.aload_n 0, 1) := by decide +kernel
theorem dX0_collectWithin_165 : decode cX0_collectWithin 165 = .ok (.getfield 25, 3) := by decide +kernel
theorem dX0_collectWithin_168 : decode cX0_collectWithin 168 = .ok (.iload_n 2, 1) := by decide +kernel
theorem dX0_collectWithin_169 : decode cX0_collectWithin 169 = .ok (.iaload, 1) := by decide +kernel
theorem dX0_collectWithin_170 : decode cX0_collectWithin 170 = .ok (.ior, 1) := by decide +kernel
theorem dX0_collectWithin_171 : decode cX0_collectWithin 171 = .ok (.iastore, 1) := by decide +kernel
theorem dX0_collectWithin_172 : decode cX0_collectWithin 172 = .ok (.iinc 2 1, 3) := by decide +kernel
theorem dX0_collectWithin_175 : decode cX0_collectWithin 175 = .ok (.goto (-35), 3) := by decide +kernel
theorem dX0_collectWithin_178 : decode cX0_collectWithin 178 = .ok (.iload_n 1, 1) := by decide +kernel
theorem dX0_collectWithin_179 : decode cX0_collectWithin 179 = .ok (.iconst 2, 1) := by decide +kernel
theorem dX0_collectWithin_180 : decode cX0_collectWithin 180 = .ok (.imul, 1) := by decide +kernel
theorem dX0_collectWithin_181 : decode cX0_collectWithin 181 = .ok (.istore_n 1, 1) := by decide +kernel
theorem dX0_collectWithin_182 : decode cX0_collectWithin 182 = .ok (.goto (-53), 3) := by decide +kernel
theorem dX0_collectWithin_185 : decode cX0_collectWithin 185 = .ok (.return_, 1) := by decide +kernel
theorem dX1_init_0 : decode cX1_init 0 = .ok (.aload_n 0, 1) := by decide +kernel
theorem dX1_init_1 : decode cX1_init 1 = .ok (.invokespecial 3, 3) := by decide +kernel
theorem dX1_init_4 : decode cX1_init 4 = .ok (.aload_n 0, 1) := by decide +kernel
theorem dX1_init_5 : decode cX1_init 5 = .ok (.sipush 1300, 3) := by decide +kernel
theorem dX1_init_8 : decode cX1_init 8 = .ok (.newarray .long, 2) := by decide +kernel
theorem dX1_init_10 : decode cX1_init 10 = .ok (.putfield 11, 3) := by decide +kernel
theorem dX1_init_13 : decode cX1_init 13 = .ok (.aload_n 0, 1) := by decide +kernel
theorem dX1_init_14 : decode cX1_init 14 = .ok (.sipush 1300, 3) := by decide +kernel
theorem dX1_init_17 : decode cX1_init 17 = .ok (.newarray .int, 2) := by decide +kernel
theorem dX1_init_19 : decode cX1_init 19 = .ok (.putfield 15, 3) := by decide +kernel
theorem dX1_init_22 : decode cX1_init 22 = .ok (.aload_n 0, 1) := by decide +kernel
theorem dX1_init_23 : decode cX1_init 23 = .ok (.sipush 1300, 3) := by decide +kernel
theorem dX1_init_26 : decode cX1_init 26 = .ok (.newarray .int, 2) := by decide +kernel
theorem dX1_init_28 : decode cX1_init 28 = .ok (.putfield 19, 3) := by decide +kernel
theorem dX1_init_31 : decode cX1_init 31 = .ok (.aload_n 0, 1) := by decide +kernel
theorem dX1_init_32 : decode cX1_init 32 = .ok (.iconst 4, 1) := by decide +kernel
theorem dX1_init_33 : decode cX1_init 33 = .ok (.newarray .int, 2) := by decide +kernel
theorem dX1_init_35 : decode cX1_init 35 = .ok (.putfield 22, 3) := by decide +kernel
theorem dX1_init_38 : decode cX1_init 38 = .ok (.aload_n 0, 1) := by decide +kernel
theorem dX1_init_39 : decode cX1_init 39 = .ok (.sipush 2048, 3) := by decide +kernel
theorem dX1_init_42 : decode cX1_init 42 = .ok (.newarray .int, 2) := by decide +kernel
theorem dX1_init_44 : decode cX1_init 44 = .ok (.putfield 25, 3) := by decide +kernel
theorem dX1_init_47 : decode cX1_init 47 = .ok (.aload_n 0, 1) := by decide +kernel
theorem dX1_init_48 : decode cX1_init 48 = .ok (.new 28, 3) := by decide +kernel
theorem dX1_init_51 : decode cX1_init 51 = .ok (.dup, 1) := by decide +kernel
theorem dX1_init_52 : decode cX1_init 52 = .ok (.invokespecial 30, 3) := by decide +kernel
theorem dX1_init_55 : decode cX1_init 55 = .ok (.putfield 31, 3) := by decide +kernel
theorem dX1_init_58 : decode cX1_init 58 = .ok (.aload_n 0, 1) := by decide +kernel
theorem dX1_init_59 : decode cX1_init 59 = .ok (.new 28, 3) := by decide +kernel
theorem dX1_init_62 : decode cX1_init 62 = .ok (.dup, 1) := by decide +kernel
theorem dX1_init_63 : decode cX1_init 63 = .ok (.invokespecial 30, 3) := by decide +kernel
theorem dX1_init_66 : decode cX1_init 66 = .ok (.putfield 35, 3) := by decide +kernel
theorem dX1_init_69 : decode cX1_init 69 = .ok (.return_, 1) := by decide +kernel
theorem dX1_prepare_0 : decode cX1_prepare 0 = .ok (.aload_n 0, 1) := by decide +kernel
theorem dX1_prepare_1 : decode cX1_prepare 1 = .ok (.getfield 38, 3) := by decide +kernel
theorem dX1_prepare_4 : decode cX1_prepare 4 = .ok (.iload_n 1, 1) := by decide +kernel
theorem dX1_prepare_5 : decode cX1_prepare 5 = .ok (.if_icmp .ne 4, 3) := by decide +kernel
theorem dX1_prepare_8 : decode cX1_prepare 8 = .ok (.return_, 1) := by decide +kernel
theorem dX1_prepare_9 : decode cX1_prepare 9 = .ok (.aload_n 0, 1) := by decide +kernel
theorem dX1_prepare_10 : decode cX1_prepare 10 = .ok (.iload_n 1, 1) := by decide +kernel
theorem dX1_prepare_11 : decode cX1_prepare 11 = .ok (.putfield 38, 3) := by decide +kernel
theorem dX1_prepare_14 : decode cX1_prepare 14 = .ok (.aload_n 0, 1) := by decide +kernel
theorem dX1_prepare_15 : decode cX1_prepare 15 = .ok (.iconst 0, 1) := by decide +kernel
theorem dX1_prepare_16 : decode cX1_prepare 16 = .ok (.putfield 42, 3) := by decide +kernel
theorem dX1_prepare_19 : decode cX1_prepare 19 = .ok (.aload_n 0, 1) := by decide +kernel
theorem dX1_prepare_20 : decode cX1_prepare 20 = .ok (.getfield 35, 3) := by decide +kernel
theorem dX1_prepare_23 : decode cX1_prepare 23 = .ok (.iload_n 1, 1) := by decide +kernel
theorem dX1_prepare_24 : decode cX1_prepare 24 = .ok (.invokevirtual 45, 3) := by decide +kernel
theorem dX1_prepare_27 : decode cX1_prepare 27 = .ok (.aload_n 0, 1) := by decide +kernel
theorem dX1_prepare_28 : decode cX1_prepare 28 = .ok (.invokevirtual 49, 3) := by decide +kernel
theorem dX1_prepare_31 : decode cX1_prepare 31 = .ok (.aload_n 0, 1) := by decide +kernel
theorem dX1_prepare_32 : decode cX1_prepare 32 = .ok (.aload_n 0, 1) := by decide +kernel
theorem dX1_prepare_33 : decode cX1_prepare 33 = .ok (.getfield 35, 3) := by decide +kernel
theorem dX1_prepare_36 : decode cX1_prepare 36 = .ok (.invokevirtual 52, 3) := by decide +kernel
theorem dX1_prepare_39 : decode cX1_prepare 39 = .ok (.iconst 1, 1) := by decide +kernel
theorem dX1_prepare_40 : decode cX1_prepare 40 = .ok (.iconst 0, 1) := by decide +kernel
theorem dX1_prepare_41 : decode cX1_prepare 41 = .ok (.invokevirtual 56, 3) := by decide +kernel
theorem dX1_prepare_44 : decode cX1_prepare 44 = .ok (.aload_n 0, 1) := by decide +kernel
theorem dX1_prepare_45 : decode cX1_prepare 45 = .ok (.getfield 22, 3) := by decide +kernel
theorem dX1_prepare_48 : decode cX1_prepare 48 = .ok (.iconst 0, 1) := by decide +kernel
theorem dX1_prepare_49 : decode cX1_prepare 49 = .ok (.aload_n 0, 1) := by decide +kernel
theorem dX1_prepare_50 : decode cX1_prepare 50 = .ok (.getfield 42, 3) := by decide +kernel
theorem dX1_prepare_53 : decode cX1_prepare 53 = .ok (.iastore, 1) := by decide +kernel
theorem dX1_prepare_54 : decode cX1_prepare 54 = .ok (.iconst 0, 1) := by decide +kernel
theorem dX1_prepare_55 : decode cX1_prepare 55 = .ok (.istore_n 2, 1) := by decide +kernel
theorem dX1_prepare_56 : decode cX1_prepare 56 = .ok (.iconst 1, 1) := by decide +kernel
theorem dX1_prepare_57 : decode cX1_prepare 57 = .ok (.istore_n 3, 1) := by decide +kernel
theorem dX1_prepare_58 : decode cX1_prepare 58 = .ok (.iload_n 3, 1) := by decide +kernel
theorem dX1_prepare_59 : decode cX1_prepare 59 = .ok (.iconst 3, 1) := by decide +kernel
theorem dX1_prepare_60 : decode cX1_prepare 60 = .ok (.if_icmp .gt 54, 3) := by decide +kernel
theorem dX1_prepare_63 : decode cX1_prepare 63 = .ok (.aload_n 0, 1) := by decide +kernel
theorem dX1_prepare_64 : decode cX1_prepare 64 = .ok (.invokevirtual 49, 3) := by decide +kernel
theorem dX1_prepare_67 : decode cX1_prepare 67 = .ok (.aload_n 0, 1) := by decide +kernel
theorem dX1_prepare_68 : decode cX1_prepare 68 = .ok (.getfield 42, 3) := by decide +kernel
theorem dX1_prepare_71 : decode cX1_prepare 71 = .ok (.istore 4, 2) := by decide +kernel
theorem dX1_prepare_73 : decode cX1_prepare 73 = .ok (.iload_n 2, 1) := by decide +kernel
theorem dX1_prepare_74 : decode cX1_prepare 74 = .ok (.istore 5, 2) := by decide +kernel
theorem dX1_prepare_76 : decode cX1_prepare 76 = .ok (.iload 5, 2) := by decide +kernel
theorem dX1_prepare_78 : decode cX1_prepare 78 = .ok (.iload 4, 2) := by decide +kernel
theorem dX1_prepare_80 : decode cX1_prepare 80 = .ok (.if_icmp .ge 15, 3) := by decide +kernel
theorem dX1_prepare_83 : decode cX1_prepare 83 = .ok (.aload_n 0, 1) := by decide +kernel
theorem dX1_prepare_84 : decode cX1_prepare 84 = .ok (.iload 5, 2) := by decide +kernel
theorem dX1_prepare_86 : decode cX1_prepare 86 = .ok (.invokevirtual 60, 3) := by decide +kernel
theorem dX1_prepare_89 : decode cX1_prepare 89 = .ok (.iinc 5 1, 3) := by decide +kernel
theorem dX1_prepare_92 : decode cX1_prepare 92 = .ok (.goto (-16), 3) := by decide +kernel
theorem dX1_prepare_95 : decode cX1_prepare 95 = .ok (.iload 4, 2) := by decide +kernel
theorem dX1_prepare_97 : decode cX1_prepare 97 = .ok (.istore_n 2, 1) := by decide +kernel
theorem dX1_prepare_98 : decode cX1_prepare 98 = .ok (.aload_n 0, 1) := by decide +kernel
theorem dX1_prepare_99 : decode cX1_prepare 99 = .ok (.getfield 22, 3) := by decide +kernel
theorem dX1_prepare_102 : decode cX1_prepare 102 = .ok (.iload_n 3, 1) := by decide +kernel
theorem dX1_prepare_103 : decode cX1_prepare 103 = .ok (.aload_n 0, 1) := by decide +kernel
theorem dX1_prepare_104 : decode cX1_prepare 104 = .ok (.getfield 42, 3) := by decide +kernel
theorem dX1_prepare_107 : decode cX1_prepare 107 = .ok (.iastore, 1) := by decide +kernel
theorem dX1_prepare_108 : decode cX1_prepare 108 = .ok (.iinc 3 1, 3) := by decide +kernel
theorem dX1_prepare_111 : decode cX1_prepare 111 = .ok (.goto (-53), 3) := by decide +kernel
theorem dX1_prepare_114 : decode cX1_prepare 114 = .ok (.return_, 1) := by decide +kernel
theorem dX1_creasesOf_0 : decode cX1_creasesOf 0 = .ok (.aload_n 0, 1) := by decide +kernel
theorem dX1_creasesOf_1 : decode cX1_creasesOf 1 = .ok (.getfield 11, 3) := by decide +kernel
theorem dX1_creasesOf_4 : decode cX1_creasesOf 4 = .ok (.iload_n 1, 1) := by decide +kernel
theorem dX1_creasesOf_5 : decode cX1_creasesOf 5 = .ok (.laload, 1) := by decide +kernel
theorem dX1_creasesOf_6 : decode cX1_creasesOf 6 = .ok (.bipush 49, 2) := by decide +kernel
theorem dX1_creasesOf_8 : decode cX1_creasesOf 8 = .ok (.lshr, 1) := by decide +kernel
theorem dX1_creasesOf_9 : decode cX1_creasesOf 9 = .ok (.l2i, 1) := by decide +kernel
theorem dX1_creasesOf_10 : decode cX1_creasesOf 10 = .ok (.ireturn, 1) := by decide +kernel
theorem dX1_turnsOf_0 : decode cX1_turnsOf 0 = .ok (.iconst 0, 1) := by decide +kernel
theorem dX1_turnsOf_1 : decode cX1_turnsOf 1 = .ok (.istore_n 2, 1) := by decide +kernel
theorem dX1_turnsOf_2 : decode cX1_turnsOf 2 = .ok (.iload_n 2, 1) := by decide +kernel
theorem dX1_turnsOf_3 : decode cX1_turnsOf 3 = .ok (.iconst 3, 1) := by decide +kernel
theorem dX1_turnsOf_4 : decode cX1_turnsOf 4 = .ok (.if_icmp .ge 19, 3) := by decide +kernel
theorem dX1_turnsOf_7 : decode cX1_turnsOf 7 = .ok (.iload_n 1, 1) := by decide +kernel
theorem dX1_turnsOf_8 : decode cX1_turnsOf 8 = .ok (.aload_n 0, 1) := by decide +kernel
theorem dX1_turnsOf_9 : decode cX1_turnsOf 9 = .ok (.getfield 22, 3) := by decide +kernel
theorem dX1_turnsOf_12 : decode cX1_turnsOf 12 = .ok (.iload_n 2, 1) := by decide +kernel
theorem dX1_turnsOf_13 : decode cX1_turnsOf 13 = .ok (.iaload, 1) := by decide +kernel
theorem dX1_turnsOf_14 : decode cX1_turnsOf 14 = .ok (.if_icmp .lt 9, 3) := by decide +kernel
theorem dX1_turnsOf_17 : decode cX1_turnsOf 17 = .ok (.iinc 2 1, 3) := by decide +kernel
theorem dX1_turnsOf_20 : decode cX1_turnsOf 20 = .ok (.goto (-18), 3) := by decide +kernel
theorem dX1_turnsOf_23 : decode cX1_turnsOf 23 = .ok (.iload_n 2, 1) := by decide +kernel
theorem dX1_turnsOf_24 : decode cX1_turnsOf 24 = .ok (.ireturn, 1) := by decide +kernel
theorem dX1_actOf_0 : decode cX1_actOf 0 = .ok (.aload_n 0, 1) := by decide +kernel
theorem dX1_actOf_1 : decode cX1_actOf 1 = .ok (.iload_n 1, 1) := by decide +kernel
theorem dX1_actOf_2 : decode cX1_actOf 2 = .ok (.invokevirtual 63, 3) := by decide +kernel
theorem dX1_actOf_5 : decode cX1_actOf 5 = .ok (.iconst 1, 1) := by decide +kernel
theorem dX1_actOf_6 : decode cX1_actOf 6 = .ok (.isub, 1) := by decide +kernel
theorem dX1_actOf_7 : decode cX1_actOf 7 = .ok (.iload_n 2, 1) := by decide +kernel
theorem dX1_actOf_8 : decode cX1_actOf 8 = .ok (.isub, 1) := by decide +kernel
theorem dX1_actOf_9 : decode cX1_actOf 9 = .ok (.istore_n 3, 1) := by decide +kernel
theorem dX1_actOf_10 : decode cX1_actOf 10 = .ok (.aload_n 0, 1) := by decide +kernel
theorem dX1_actOf_11 : decode cX1_actOf 11 = .ok (.getfield 19, 3) := by decide +kernel
theorem dX1_actOf_14 : decode cX1_actOf 14 = .ok (.iload_n 1, 1) := by decide +kernel
theorem dX1_actOf_15 : decode cX1_actOf 15 = .ok (.iaload, 1) := by decide +kernel
theorem dX1_actOf_16 : decode cX1_actOf 16 = .ok (.bipush 10, 2) := by decide +kernel
theorem dX1_actOf_18 : decode cX1_actOf 18 = .ok (.iload_n 3, 1) := by decide +kernel
theorem dX1_actOf_19 : decode cX1_actOf 19 = .ok (.imul, 1) := by decide +kernel
theorem dX1_actOf_20 : decode cX1_actOf 20 = .ok (.ishr, 1) := by decide +kernel
theorem dX1_actOf_21 : decode cX1_actOf 21 = .ok (.sipush 1023, 3) := by decide +kernel
theorem dX1_actOf_24 : decode cX1_actOf 24 = .ok (.iand, 1) := by decide +kernel
theorem dX1_actOf_25 : decode cX1_actOf 25 = .ok (.ireturn, 1) := by decide +kernel
theorem dX1_unpack_0 : decode cX1_unpack 0 = .ok (.aload_n 1, 1) := by decide +kernel
theorem dX1_unpack_1 : decode cX1_unpack 1 = .ok (.aload_n 0, 1) := by decide +kernel
theorem dX1_unpack_2 : decode cX1_unpack 2 = .ok (.getfield 11, 3) := by decide +kernel
theorem dX1_unpack_5 : decode cX1_unpack 5 = .ok (.iload_n 2, 1) := by decide +kernel
theorem dX1_unpack_6 : decode cX1_unpack 6 = .ok (.laload, 1) := by decide +kernel
theorem dX1_unpack_7 : decode cX1_unpack 7 = .ok (.ldc2_w 67, 3) := by decide +kernel
theorem dX1_unpack_10 : decode cX1_unpack 10 = .ok (.land, 1) := by decide +kernel
theorem dX1_unpack_11 : decode cX1_unpack 11 = .ok (.aload_n 0, 1) := by decide +kernel
theorem dX1_unpack_12 : decode cX1_unpack 12 = .ok (.getfield 38, 3) := by decide +kernel
theorem dX1_unpack_15 : decode cX1_unpack 15 = .ok (.invokevirtual 69, 3) := by decide +kernel
theorem dX1_unpack_18 : decode cX1_unpack 18 = .ok (.return_, 1) := by decide +kernel
theorem dX1_turnOn_0 : decode cX1_turnOn 0 = .ok (.aload_n 0, 1) := by decide +kernel
theorem dX1_turnOn_1 : decode cX1_turnOn 1 = .ok (.aload_n 0, 1) := by decide +kernel
theorem dX1_turnOn_2 : decode cX1_turnOn 2 = .ok (.getfield 31, 3) := by decide +kernel
theorem dX1_turnOn_5 : decode cX1_turnOn 5 = .ok (.iload_n 1, 1) := by decide +kernel
theorem dX1_turnOn_6 : decode cX1_turnOn 6 = .ok (.invokevirtual 73, 3) := by decide +kernel
theorem dX1_turnOn_9 : decode cX1_turnOn 9 = .ok (.aload_n 0, 1) := by decide +kernel
theorem dX1_turnOn_10 : decode cX1_turnOn 10 = .ok (.getfield 31, 3) := by decide +kernel
theorem dX1_turnOn_13 : decode cX1_turnOn 13 = .ok (.invokevirtual 76, 3) := by decide +kernel
theorem dX1_turnOn_16 : decode cX1_turnOn 16 = .ok (.istore_n 2, 1) := by decide +kernel
theorem dX1_turnOn_17 : decode cX1_turnOn 17 = .ok (.iconst 1, 1) := by decide +kernel
theorem dX1_turnOn_18 : decode cX1_turnOn 18 = .ok (.istore_n 3, 1) := by decide +kernel
theorem dX1_turnOn_19 : decode cX1_turnOn 19 = .ok (.iload_n 3, 1) := by decide +kernel
theorem dX1_turnOn_20 : decode cX1_turnOn 20 = .ok (.aload_n 0, 1) := by decide +kernel
theorem dX1_turnOn_21 : decode cX1_turnOn 21 = .ok (.getfield 31, 3) := by decide +kernel
theorem dX1_turnOn_24 : decode cX1_turnOn 24 = .ok (.getfield 80, 3) := by decide +kernel
theorem dX1_turnOn_27 : decode cX1_turnOn 27 = .ok (.if_icmp .ge 142, 3) := by decide +kernel
theorem dX1_turnOn_30 : decode cX1_turnOn 30 = .ok (.aload_n 0, 1) := by decide +kernel
theorem dX1_turnOn_31 : decode cX1_turnOn 31 = .ok (.iload_n 1, 1) := by decide +kernel
theorem dX1_turnOn_32 : decode cX1_turnOn 32 = .ok (.invokevirtual 83, 3) := by decide +kernel
theorem dX1_turnOn_35 : decode cX1_turnOn 35 = .ok (.aload_n 0, 1) := by decide +kernel
theorem dX1_turnOn_36 : decode cX1_turnOn 36 = .ok (.getfield 31, 3) := by decide +kernel
theorem dX1_turnOn_39 : decode cX1_turnOn 39 = .ok (.iload_n 3, 1) := by decide +kernel
theorem dX1_turnOn_40 : decode cX1_turnOn 40 = .ok (.iconst 1, 1) := by decide +kernel
theorem dX1_turnOn_41 : decode cX1_turnOn 41 = .ok (.invokevirtual 86, 3) := by decide +kernel
theorem dX1_turnOn_44 : decode cX1_turnOn 44 = .ok (.ior, 1) := by decide +kernel
theorem dX1_turnOn_45 : decode cX1_turnOn 45 = .ok (.istore 4, 2) := by decide +kernel
theorem dX1_turnOn_47 : decode cX1_turnOn 47 = .ok (.aload_n 0, 1) := by decide +kernel
theorem dX1_turnOn_48 : decode cX1_turnOn 48 = .ok (.iload_n 1, 1) := by decide +kernel
theorem dX1_turnOn_49 : decode cX1_turnOn 49 = .ok (.invokevirtual 83, 3) := by decide +kernel
theorem dX1_turnOn_52 : decode cX1_turnOn 52 = .ok (.aload_n 0, 1) := by decide +kernel
theorem dX1_turnOn_53 : decode cX1_turnOn 53 = .ok (.getfield 31, 3) := by decide +kernel
theorem dX1_turnOn_56 : decode cX1_turnOn 56 = .ok (.iload_n 3, 1) := by decide +kernel
theorem dX1_turnOn_57 : decode cX1_turnOn 57 = .ok (.iconst 0, 1) := by decide +kernel
theorem dX1_turnOn_58 : decode cX1_turnOn 58 = .ok (.invokevirtual 86, 3) := by decide +kernel
theorem dX1_turnOn_61 : decode cX1_turnOn 61 = .ok (.ior, 1) := by decide +kernel
theorem dX1_turnOn_62 : decode cX1_turnOn 62 = .ok (.istore 5, 2) := by decide +kernel
theorem dX1_turnOn_64 : decode cX1_turnOn 64 = .ok (.iconst 0, 1) := by decide +kernel
theorem dX1_turnOn_65 : decode cX1_turnOn 65 = .ok (.istore 6, 2) := by decide +kernel
theorem dX1_turnOn_67 : decode cX1_turnOn 67 = .ok (.iload 6, 2) := by decide +kernel
theorem dX1_turnOn_69 : decode cX1_turnOn 69 = .ok (.iconst 2, 1) := by decide +kernel
theorem dX1_turnOn_70 : decode cX1_turnOn 70 = .ok (.if_icmp .ge 93, 3) := by decide +kernel
theorem dX1_turnOn_73 : decode cX1_turnOn 73 = .ok (.bipush 100, 2) := by decide +kernel
theorem dX1_turnOn_75 : decode cX1_turnOn 75 = .ok (.iload_n 3, 1) := by decide +kernel
theorem dX1_turnOn_76 : decode cX1_turnOn 76 = .ok (.imul, 1) := by decide +kernel
theorem dX1_turnOn_77 : decode cX1_turnOn 77 = .ok (.bipush 10, 2) := by decide +kernel
theorem dX1_turnOn_79 : decode cX1_turnOn 79 = .ok (.iload 6, 2) := by decide +kernel
theorem dX1_turnOn_81 : decode cX1_turnOn 81 = .ok (.imul, 1) := by decide +kernel
theorem dX1_turnOn_82 : decode cX1_turnOn 82 = .ok (.iadd, 1) := by decide +kernel
theorem dX1_turnOn_83 : decode cX1_turnOn 83 = .ok (.istore 7, 2) := by decide +kernel
theorem dX1_turnOn_85 : decode cX1_turnOn 85 = .ok (.iload 6, 2) := by decide +kernel
theorem dX1_turnOn_87 : decode cX1_turnOn 87 = .ok (.ifCond .ne 7, 3) := by decide +kernel
theorem dX1_turnOn_90 : decode cX1_turnOn 90 = .ok (.iconst 1, 1) := by decide +kernel
theorem dX1_turnOn_91 : decode cX1_turnOn 91 = .ok (.goto 4, 3) := by decide +kernel
theorem dX1_turnOn_94 : decode cX1_turnOn 94 = .ok (.iconst 0, 1) := by decide +kernel
theorem dX1_turnOn_95 : decode cX1_turnOn 95 = .ok (.istore 8, 2) := by decide +kernel
theorem dX1_turnOn_97 : decode cX1_turnOn 97 = .ok (.aload_n 0, 1) := by decide +kernel
theorem dX1_turnOn_98 : decode cX1_turnOn 98 = .ok (.iload_n 1, 1) := by decide +kernel
theorem dX1_turnOn_99 : decode cX1_turnOn 99 = .ok (.iload 7, 2) := by decide +kernel
theorem dX1_turnOn_101 : decode cX1_turnOn 101 = .ok (.iload 8, 2) := by decide +kernel
theorem dX1_turnOn_103 : decode cX1_turnOn 103 = .ok (.bipush 8, 2) := by decide +kernel
theorem dX1_turnOn_105 : decode cX1_turnOn 105 = .ok (.iload 4, 2) := by decide +kernel
theorem dX1_turnOn_107 : decode cX1_turnOn 107 = .ok (.invokevirtual 90, 3) := by decide +kernel
theorem dX1_turnOn_110 : decode cX1_turnOn 110 = .ok (.aload_n 0, 1) := by decide +kernel
theorem dX1_turnOn_111 : decode cX1_turnOn 111 = .ok (.iload_n 1, 1) := by decide +kernel
theorem dX1_turnOn_112 : decode cX1_turnOn 112 = .ok (.iload 7, 2) := by decide +kernel
theorem dX1_turnOn_114 : decode cX1_turnOn 114 = .ok (.iconst 1, 1) := by decide +kernel
theorem dX1_turnOn_115 : decode cX1_turnOn 115 = .ok (.iadd, 1) := by decide +kernel
theorem dX1_turnOn_116 : decode cX1_turnOn 116 = .ok (.iload 8, 2) := by decide +kernel
theorem dX1_turnOn_118 : decode cX1_turnOn 118 = .ok (.iconst 0, 1) := by decide +kernel
theorem dX1_turnOn_119 : decode cX1_turnOn 119 = .ok (.iload 5, 2) := by decide +kernel
theorem dX1_turnOn_121 : decode cX1_turnOn 121 = .ok (.invokevirtual 90, 3) := by decide +kernel
theorem dX1_turnOn_124 : decode cX1_turnOn 124 = .ok (.iconst 1, 1) := by decide +kernel
theorem dX1_turnOn_125 : decode cX1_turnOn 125 = .ok (.istore 9, 2) := by decide +kernel
theorem dX1_turnOn_127 : decode cX1_turnOn 127 = .ok (.iload 9, 2) := by decide +kernel
theorem dX1_turnOn_129 : decode cX1_turnOn 129 = .ok (.iload_n 2, 1) := by decide +kernel
theorem dX1_turnOn_130 : decode cX1_turnOn 130 = .ok (.if_icmp .ge 27, 3) := by decide +kernel
theorem dX1_turnOn_133 : decode cX1_turnOn 133 = .ok (.aload_n 0, 1) := by decide +kernel
theorem dX1_turnOn_134 : decode cX1_turnOn 134 = .ok (.iload_n 1, 1) := by decide +kernel
theorem dX1_turnOn_135 : decode cX1_turnOn 135 = .ok (.iload 7, 2) := by decide +kernel
theorem dX1_turnOn_137 : decode cX1_turnOn 137 = .ok (.iconst 1, 1) := by decide +kernel
theorem dX1_turnOn_138 : decode cX1_turnOn 138 = .ok (.iadd, 1) := by decide +kernel
theorem dX1_turnOn_139 : decode cX1_turnOn 139 = .ok (.iload 9, 2) := by decide +kernel
theorem dX1_turnOn_141 : decode cX1_turnOn 141 = .ok (.iadd, 1) := by decide +kernel
theorem dX1_turnOn_142 : decode cX1_turnOn 142 = .ok (.iload 8, 2) := by decide +kernel
theorem dX1_turnOn_144 : decode cX1_turnOn 144 = .ok (.iload 9, 2) := by decide +kernel
theorem dX1_turnOn_146 : decode cX1_turnOn 146 = .ok (.iload 4, 2) := by decide +kernel
theorem dX1_turnOn_148 : decode cX1_turnOn 148 = .ok (.invokevirtual 90, 3) := by decide +kernel
theorem dX1_turnOn_151 : decode cX1_turnOn 151 = .ok (.iinc 9 1, 3) := by decide +kernel
theorem dX1_turnOn_154 : decode cX1_turnOn 154 = .ok (.goto (-27), 3) := by decide +kernel
theorem dX1_turnOn_157 : decode cX1_turnOn 157 = .ok (.iinc 6 1, 3) := by decide +kernel
theorem dX1_turnOn_160 : decode cX1_turnOn 160 = .ok (.goto (-93), 3) := by decide +kernel
theorem dX1_turnOn_163 : decode cX1_turnOn 163 = .ok (.iinc 3 1, 3) := by decide +kernel
theorem dX1_turnOn_166 : decode cX1_turnOn 166 = .ok (.goto (-147), 3) := by decide +kernel
theorem dX1_turnOn_169 : decode cX1_turnOn 169 = .ok (.return_, 1) := by decide +kernel
theorem dX1_addTurned_0 : decode cX1_addTurned 0 = .ok (.aload_n 0, 1) := by decide +kernel
theorem dX1_addTurned_1 : decode cX1_addTurned 1 = .ok (.getfield 35, 3) := by decide +kernel
theorem dX1_addTurned_4 : decode cX1_addTurned 4 = .ok (.aload_n 0, 1) := by decide +kernel
theorem dX1_addTurned_5 : decode cX1_addTurned 5 = .ok (.getfield 31, 3) := by decide +kernel
theorem dX1_addTurned_8 : decode cX1_addTurned 8 = .ok (.iload_n 2, 1) := by decide +kernel
theorem dX1_addTurned_9 : decode cX1_addTurned 9 = .ok (.bipush 100, 2) := by decide +kernel
theorem dX1_addTurned_11 : decode cX1_addTurned 11 = .ok (.idiv, 1) := by decide +kernel
theorem dX1_addTurned_12 : decode cX1_addTurned 12 = .ok (.iload_n 3, 1) := by decide +kernel
theorem dX1_addTurned_13 : decode cX1_addTurned 13 = .ok (.iload 4, 2) := by decide +kernel
theorem dX1_addTurned_15 : decode cX1_addTurned 15 = .ok (.invokevirtual 94, 3) := by decide +kernel
theorem dX1_addTurned_18 : decode cX1_addTurned 18 = .ok (.iload 4, 2) := by decide +kernel
theorem dX1_addTurned_20 : decode cX1_addTurned 20 = .ok (.ifCond .le 14, 3) := by decide +kernel
theorem dX1_addTurned_23 : decode cX1_addTurned 23 = .ok (.iload 4, 2) := by decide +kernel
theorem dX1_addTurned_25 : decode cX1_addTurned 25 = .ok (.bipush 8, 2) := by decide +kernel
theorem dX1_addTurned_27 : decode cX1_addTurned 27 = .ok (.if_icmp .ge 7, 3) := by decide +kernel
theorem dX1_addTurned_30 : decode cX1_addTurned 30 = .ok (.iconst 1, 1) := by decide +kernel
theorem dX1_addTurned_31 : decode cX1_addTurned 31 = .ok (.goto 4, 3) := by decide +kernel
theorem dX1_addTurned_34 : decode cX1_addTurned 34 = .ok (.iconst 0, 1) := by decide +kernel
theorem dX1_addTurned_35 : decode cX1_addTurned 35 = .ok (.istore 6, 2) := by decide +kernel
theorem dX1_addTurned_37 : decode cX1_addTurned 37 = .ok (.iload 6, 2) := by decide +kernel
theorem dX1_addTurned_39 : decode cX1_addTurned 39 = .ok (.ifCond .eq 14, 3) := by decide +kernel
theorem dX1_addTurned_42 : decode cX1_addTurned 42 = .ok (.aload_n 0, 1) := by decide +kernel
theorem dX1_addTurned_43 : decode cX1_addTurned 43 = .ok (.getfield 35, 3) := by decide +kernel
theorem dX1_addTurned_46 : decode cX1_addTurned 46 = .ok (.invokevirtual 98, 3) := by decide +kernel
theorem dX1_addTurned_49 : decode cX1_addTurned 49 = .ok (.ifCond .eq 4, 3) := by decide +kernel
theorem dX1_addTurned_52 : decode cX1_addTurned 52 = .ok (.return_, 1) := by decide +kernel
theorem dX1_addTurned_53 : decode cX1_addTurned 53 = .ok (.aload_n 0, 1) := by decide +kernel
theorem dX1_addTurned_54 : decode cX1_addTurned 54 = .ok (.iload 5, 2) := by decide +kernel
theorem dX1_addTurned_56 : decode cX1_addTurned 56 = .ok (.i2l, 1) := by decide +kernel
theorem dX1_addTurned_57 : decode cX1_addTurned 57 = .ok (.bipush 49, 2) := by decide +kernel
theorem dX1_addTurned_59 : decode cX1_addTurned 59 = .ok (.lshl, 1) := by decide +kernel
theorem dX1_addTurned_60 : decode cX1_addTurned 60 = .ok (.aload_n 0, 1) := by decide +kernel
theorem dX1_addTurned_61 : decode cX1_addTurned 61 = .ok (.getfield 35, 3) := by decide +kernel
theorem dX1_addTurned_64 : decode cX1_addTurned 64 = .ok (.invokevirtual 52, 3) := by decide +kernel
theorem dX1_addTurned_67 : decode cX1_addTurned 67 = .ok (.lor, 1) := by decide +kernel
theorem dX1_addTurned_68 : decode cX1_addTurned 68 = .ok (.aload_n 0, 1) := by decide +kernel
theorem dX1_addTurned_69 : decode cX1_addTurned 69 = .ok (.getfield 15, 3) := by decide +kernel
theorem dX1_addTurned_72 : decode cX1_addTurned 72 = .ok (.iload_n 1, 1) := by decide +kernel
theorem dX1_addTurned_73 : decode cX1_addTurned 73 = .ok (.iaload, 1) := by decide +kernel
theorem dX1_addTurned_74 : decode cX1_addTurned 74 = .ok (.aload_n 0, 1) := by decide +kernel
theorem dX1_addTurned_75 : decode cX1_addTurned 75 = .ok (.getfield 19, 3) := by decide +kernel
theorem dX1_addTurned_78 : decode cX1_addTurned 78 = .ok (.iload_n 1, 1) := by decide +kernel
theorem dX1_addTurned_79 : decode cX1_addTurned 79 = .ok (.iaload, 1) := by decide +kernel
theorem dX1_addTurned_80 : decode cX1_addTurned 80 = .ok (.bipush 10, 2) := by decide +kernel
theorem dX1_addTurned_82 : decode cX1_addTurned 82 = .ok (.ishl, 1) := by decide +kernel
theorem dX1_addTurned_83 : decode cX1_addTurned 83 = .ok (.iload_n 2, 1) := by decide +kernel
theorem dX1_addTurned_84 : decode cX1_addTurned 84 = .ok (.ior, 1) := by decide +kernel
theorem dX1_addTurned_85 : decode cX1_addTurned 85 = .ok (.invokevirtual 56, 3) := by decide +kernel
theorem dX1_addTurned_88 : decode cX1_addTurned 88 = .ok (.return_, 1) := by decide +kernel
theorem dX1_startLevel_0 : decode cX1_startLevel 0 = .ok (.aload_n 0, 1) := by decide +kernel
theorem dX1_startLevel_1 : decode cX1_startLevel 1 = .ok (.getfield 25, 3) := by decide +kernel
theorem dX1_startLevel_4 : decode cX1_startLevel 4 = .ok (.iconst (-1), 1) := by decide +kernel
theorem dX1_startLevel_5 : decode cX1_startLevel 5 = .ok (.invokestatic 102, 3) := by decide +kernel
theorem dX1_startLevel_8 : decode cX1_startLevel 8 = .ok (.return_, 1) := by decide +kernel
theorem dX1_add_0 : decode cX1_add 0 = .ok (.lload_n 1, 1) := by decide +kernel
theorem dX1_add_1 : decode cX1_add 1 = .ok (.ldc2_w 108, 3) := by decide +kernel
theorem dX1_add_4 : decode cX1_add 4 = .ok (.lmul, 1) := by decide +kernel
theorem dX1_add_5 : decode cX1_add 5 = .ok (.bipush 53, 2) := by decide +kernel
theorem dX1_add_7 : decode cX1_add 7 = .ok (.lushr, 1) := by decide +kernel
theorem dX1_add_8 : decode cX1_add 8 = .ok (.l2i, 1) := by decide +kernel
theorem dX1_add_9 : decode cX1_add 9 = .ok (.istore 5, 2) := by decide +kernel
theorem dX1_add_11 : decode cX1_add 11 = .ok (.iconst 0, 1) := by decide +kernel
theorem dX1_add_12 : decode cX1_add 12 = .ok (.istore 6, 2) := by decide +kernel
theorem dX1_add_14 : decode cX1_add 14 = .ok (.iload 6, 2) := by decide +kernel
theorem dX1_add_16 : decode cX1_add 16 = .ok (.sipush 2048, 3) := by decide +kernel
theorem dX1_add_19 : decode cX1_add 19 = .ok (.if_icmp .ge 69, 3) := by decide +kernel
theorem dX1_add_22 : decode cX1_add 22 = .ok (.aload_n 0, 1) := by decide +kernel
theorem dX1_add_23 : decode cX1_add 23 = .ok (.getfield 25, 3) := by decide +kernel
theorem dX1_add_26 : decode cX1_add 26 = .ok (.iload 5, 2) := by decide +kernel
theorem dX1_add_28 : decode cX1_add 28 = .ok (.iaload, 1) := by decide +kernel
theorem dX1_add_29 : decode cX1_add 29 = .ok (.istore 7, 2) := by decide +kernel
theorem dX1_add_31 : decode cX1_add 31 = .ok (.iload 7, 2) := by decide +kernel
theorem dX1_add_33 : decode cX1_add 33 = .ok (.iconst (-1), 1) := by decide +kernel
theorem dX1_add_34 : decode cX1_add 34 = .ok (.if_icmp .ne 14, 3) := by decide +kernel
theorem dX1_add_37 : decode cX1_add 37 = .ok (.aload_n 0, 1) := by decide +kernel
theorem dX1_add_38 : decode cX1_add 38 = .ok (.iload 5, 2) := by decide +kernel
theorem dX1_add_40 : decode cX1_add 40 = .ok (.lload_n 1, 1) := by decide +kernel
theorem dX1_add_41 : decode cX1_add 41 = .ok (.iload_n 3, 1) := by decide +kernel
theorem dX1_add_42 : decode cX1_add 42 = .ok (.iload 4, 2) := by decide +kernel
theorem dX1_add_44 : decode cX1_add 44 = .ok (.invokevirtual 110, 3) := by decide +kernel
theorem dX1_add_47 : decode cX1_add 47 = .ok (.return_, 1) := by decide +kernel
theorem dX1_add_48 : decode cX1_add 48 = .ok (.aload_n 0, 1) := by decide +kernel
theorem dX1_add_49 : decode cX1_add 49 = .ok (.getfield 11, 3) := by decide +kernel
theorem dX1_add_52 : decode cX1_add 52 = .ok (.iload 7, 2) := by decide +kernel
theorem dX1_add_54 : decode cX1_add 54 = .ok (.laload, 1) := by decide +kernel
theorem dX1_add_55 : decode cX1_add 55 = .ok (.lload_n 1, 1) := by decide +kernel
theorem dX1_add_56 : decode cX1_add 56 = .ok (.lcmp, 1) := by decide +kernel
theorem dX1_add_57 : decode cX1_add 57 = .ok (.ifCond .ne 15, 3) := by decide +kernel
theorem dX1_add_60 : decode cX1_add 60 = .ok (.aload_n 0, 1) := by decide +kernel
theorem dX1_add_61 : decode cX1_add 61 = .ok (.getfield 15, 3) := by decide +kernel
theorem dX1_add_64 : decode cX1_add 64 = .ok (.iload 7, 2) := by decide +kernel
theorem dX1_add_66 : decode cX1_add 66 = .ok (.dup2, 1) := by decide +kernel
theorem dX1_add_67 : decode cX1_add 67 = .ok (.iaload, 1) := by decide +kernel
theorem dX1_add_68 : decode cX1_add 68 = .ok (.iload_n 3, 1) := by decide +kernel
theorem dX1_add_69 : decode cX1_add 69 = .ok (.iadd, 1) := by decide +kernel
theorem dX1_add_70 : decode cX1_add 70 = .ok (.iastore, 1) := by decide +kernel
theorem dX1_add_71 : decode cX1_add 71 = .ok (.return_, 1) := by decide +kernel
theorem dX1_add_72 : decode cX1_add 72 = .ok (.iload 5, 2) := by decide +kernel
theorem dX1_add_74 : decode cX1_add 74 = .ok (.iconst 1, 1) := by decide +kernel
theorem dX1_add_75 : decode cX1_add 75 = .ok (.iadd, 1) := by decide +kernel
theorem dX1_add_76 : decode cX1_add 76 = .ok (.sipush 2047, 3) := by decide +kernel
theorem dX1_add_79 : decode cX1_add 79 = .ok (.iand, 1) := by decide +kernel
theorem dX1_add_80 : decode cX1_add 80 = .ok (.istore 5, 2) := by decide +kernel
theorem dX1_add_82 : decode cX1_add 82 = .ok (.iinc 6 1, 3) := by decide +kernel
theorem dX1_add_85 : decode cX1_add 85 = .ok (.goto (-71), 3) := by decide +kernel
theorem dX1_add_88 : decode cX1_add 88 = .ok (.return_, 1) := by decide +kernel
theorem dX1_append_0 : decode cX1_append 0 = .ok (.aload_n 0, 1) := by decide +kernel
theorem dX1_append_1 : decode cX1_append 1 = .ok (.getfield 42, 3) := by decide +kernel
theorem dX1_append_4 : decode cX1_append 4 = .ok (.sipush 1300, 3) := by decide +kernel
theorem dX1_append_7 : decode cX1_append 7 = .ok (.if_icmp .ge 55, 3) := by decide +kernel
theorem dX1_append_10 : decode cX1_append 10 = .ok (.aload_n 0, 1) := by decide +kernel
theorem dX1_append_11 : decode cX1_append 11 = .ok (.getfield 25, 3) := by decide +kernel
theorem dX1_append_14 : decode cX1_append 14 = .ok (.iload_n 1, 1) := by decide +kernel
theorem dX1_append_15 : decode cX1_append 15 = .ok (.aload_n 0, 1) := by decide +kernel
theorem dX1_append_16 : decode cX1_append 16 = .ok (.getfield 42, 3) := by decide +kernel
theorem dX1_append_19 : decode cX1_append 19 = .ok (.iastore, 1) := by decide +kernel
theorem dX1_append_20 : decode cX1_append 20 = .ok (.aload_n 0, 1) := by decide +kernel
theorem dX1_append_21 : decode cX1_append 21 = .ok (.getfield 11, 3) := by decide +kernel
theorem dX1_append_24 : decode cX1_append 24 = .ok (.aload_n 0, 1) := by decide +kernel
theorem dX1_append_25 : decode cX1_append 25 = .ok (.getfield 42, 3) := by decide +kernel
theorem dX1_append_28 : decode cX1_append 28 = .ok (.lload_n 2, 1) := by decide +kernel
theorem dX1_append_29 : decode cX1_append 29 = .ok (.lastore, 1) := by decide +kernel
theorem dX1_append_30 : decode cX1_append 30 = .ok (.aload_n 0, 1) := by decide +kernel
theorem dX1_append_31 : decode cX1_append 31 = .ok (.getfield 15, 3) := by decide +kernel
theorem dX1_append_34 : decode cX1_append 34 = .ok (.aload_n 0, 1) := by decide +kernel
theorem dX1_append_35 : decode cX1_append 35 = .ok (.getfield 42, 3) := by decide +kernel
theorem dX1_append_38 : decode cX1_append 38 = .ok (.iload 4, 2) := by decide +kernel
theorem dX1_append_40 : decode cX1_append 40 = .ok (.iastore, 1) := by decide +kernel
theorem dX1_append_41 : decode cX1_append 41 = .ok (.aload_n 0, 1) := by decide +kernel
theorem dX1_append_42 : decode cX1_append 42 = .ok (.getfield 19, 3) := by decide +kernel
theorem dX1_append_45 : decode cX1_append 45 = .ok (.aload_n 0, 1) := by decide +kernel
theorem dX1_append_46 : decode cX1_append 46 = .ok (.getfield 42, 3) := by decide +kernel
theorem dX1_append_49 : decode cX1_append 49 = .ok (.iload 5, 2) := by decide +kernel
theorem dX1_append_51 : decode cX1_append 51 = .ok (.iastore, 1) := by decide +kernel
theorem dX1_append_52 : decode cX1_append 52 = .ok (.aload_n 0, 1) := by decide +kernel
theorem dX1_append_53 : decode cX1_append 53 = .ok (.dup, 1) := by decide +kernel
theorem dX1_append_54 : decode cX1_append 54 = .ok (.getfield 42, 3) := by decide +kernel
theorem dX1_append_57 : decode cX1_append 57 = .ok (.iconst 1, 1) := by decide +kernel
theorem dX1_append_58 : decode cX1_append 58 = .ok (.iadd, 1) := by decide +kernel
theorem dX1_append_59 : decode cX1_append 59 = .ok (.putfield 42, 3) := by decide +kernel
theorem dX1_append_62 : decode cX1_append 62 = .ok (.return_, 1) := by decide +kernel
theorem dX2_init_0 : decode cX2_init 0 = .ok (.aload_n 0, 1) := by decide +kernel
theorem dX2_init_1 : decode cX2_init 1 = .ok (.invokespecial 3, 3) := by decide +kernel
theorem dX2_init_4 : decode cX2_init 4 = .ok (.aload_n 0, 1) := by decide +kernel
theorem dX2_init_5 : decode cX2_init 5 = .ok (.bipush 8, 2) := by decide +kernel
theorem dX2_init_7 : decode cX2_init 7 = .ok (.newarray .int, 2) := by decide +kernel
theorem dX2_init_9 : decode cX2_init 9 = .ok (.putfield 9, 3) := by decide +kernel
theorem dX2_init_12 : decode cX2_init 12 = .ok (.aload_n 0, 1) := by decide +kernel
theorem dX2_init_13 : decode cX2_init 13 = .ok (.bipush 8, 2) := by decide +kernel
theorem dX2_init_15 : decode cX2_init 15 = .ok (.newarray .int, 2) := by decide +kernel
theorem dX2_init_17 : decode cX2_init 17 = .ok (.putfield 15, 3) := by decide +kernel
theorem dX2_init_20 : decode cX2_init 20 = .ok (.aload_n 0, 1) := by decide +kernel
theorem dX2_init_21 : decode cX2_init 21 = .ok (.bipush 8, 2) := by decide +kernel
theorem dX2_init_23 : decode cX2_init 23 = .ok (.newarray .boolean, 2) := by decide +kernel
theorem dX2_init_25 : decode cX2_init 25 = .ok (.putfield 18, 3) := by decide +kernel
theorem dX2_init_28 : decode cX2_init 28 = .ok (.aload_n 0, 1) := by decide +kernel
theorem dX2_init_29 : decode cX2_init 29 = .ok (.bipush 8, 2) := by decide +kernel
theorem dX2_init_31 : decode cX2_init 31 = .ok (.newarray .int, 2) := by decide +kernel
theorem dX2_init_33 : decode cX2_init 33 = .ok (.putfield 22, 3) := by decide +kernel
theorem dX2_init_36 : decode cX2_init 36 = .ok (.aload_n 0, 1) := by decide +kernel
theorem dX2_init_37 : decode cX2_init 37 = .ok (.bipush 64, 2) := by decide +kernel
theorem dX2_init_39 : decode cX2_init 39 = .ok (.newarray .int, 2) := by decide +kernel
theorem dX2_init_41 : decode cX2_init 41 = .ok (.putfield 25, 3) := by decide +kernel
theorem dX2_init_44 : decode cX2_init 44 = .ok (.return_, 1) := by decide +kernel
theorem dX2_layFlat_0 : decode cX2_layFlat 0 = .ok (.aload_n 0, 1) := by decide +kernel
theorem dX2_layFlat_1 : decode cX2_layFlat 1 = .ok (.iload_n 1, 1) := by decide +kernel
theorem dX2_layFlat_2 : decode cX2_layFlat 2 = .ok (.iload_n 1, 1) := by decide +kernel
theorem dX2_layFlat_3 : decode cX2_layFlat 3 = .ok (.invokevirtual 28, 3) := by decide +kernel
theorem dX2_layFlat_6 : decode cX2_layFlat 6 = .ok (.iconst 0, 1) := by decide +kernel
theorem dX2_layFlat_7 : decode cX2_layFlat 7 = .ok (.istore_n 2, 1) := by decide +kernel
theorem dX2_layFlat_8 : decode cX2_layFlat 8 = .ok (.iload_n 2, 1) := by decide +kernel
theorem dX2_layFlat_9 : decode cX2_layFlat 9 = .ok (.aload_n 0, 1) := by decide +kernel
theorem dX2_layFlat_10 : decode cX2_layFlat 10 = .ok (.getfield 32, 3) := by decide +kernel
theorem dX2_layFlat_13 : decode cX2_layFlat 13 = .ok (.if_icmp .ge 17, 3) := by decide +kernel
theorem dX2_layFlat_16 : decode cX2_layFlat 16 = .ok (.aload_n 0, 1) := by decide +kernel
theorem dX2_layFlat_17 : decode cX2_layFlat 17 = .ok (.iload_n 2, 1) := by decide +kernel
theorem dX2_layFlat_18 : decode cX2_layFlat 18 = .ok (.iload_n 2, 1) := by decide +kernel
theorem dX2_layFlat_19 : decode cX2_layFlat 19 = .ok (.iconst 0, 1) := by decide +kernel
theorem dX2_layFlat_20 : decode cX2_layFlat 20 = .ok (.iconst 1, 1) := by decide +kernel
theorem dX2_layFlat_21 : decode cX2_layFlat 21 = .ok (.invokevirtual 36, 3) := by decide +kernel
theorem dX2_layFlat_24 : decode cX2_layFlat 24 = .ok (.iinc 2 1, 3) := by decide +kernel
theorem dX2_layFlat_27 : decode cX2_layFlat 27 = .ok (.goto (-19), 3) := by decide +kernel
theorem dX2_layFlat_30 : decode cX2_layFlat 30 = .ok (.return_, 1) := by decide +kernel
theorem dX2_copy_0 : decode cX2_copy 0 = .ok (.aload_n 0, 1) := by decide +kernel
theorem dX2_copy_1 : decode cX2_copy 1 = .ok (.aload_n 1, 1) := by decide +kernel
theorem dX2_copy_2 : decode cX2_copy 2 = .ok (.getfield 32, 3) := by decide +kernel
theorem dX2_copy_5 : decode cX2_copy 5 = .ok (.aload_n 1, 1) := by decide +kernel
theorem dX2_copy_6 : decode cX2_copy 6 = .ok (.getfield 40, 3) := by decide +kernel
theorem dX2_copy_9 : decode cX2_copy 9 = .ok (.invokevirtual 28, 3) := by decide +kernel
theorem dX2_copy_12 : decode cX2_copy 12 = .ok (.iconst 0, 1) := by decide +kernel
theorem dX2_copy_13 : decode cX2_copy 13 = .ok (.istore_n 2, 1) := by decide +kernel
theorem dX2_copy_14 : decode cX2_copy 14 = .ok (.iload_n 2, 1) := by decide +kernel
theorem dX2_copy_15 : decode cX2_copy 15 = .ok (.aload_n 0, 1) := by decide +kernel
theorem dX2_copy_16 : decode cX2_copy 16 = .ok (.getfield 32, 3) := by decide +kernel
theorem dX2_copy_19 : decode cX2_copy 19 = .ok (.if_icmp .ge 32, 3) := by decide +kernel
theorem dX2_copy_22 : decode cX2_copy 22 = .ok (.aload_n 0, 1) := by decide +kernel
theorem dX2_copy_23 : decode cX2_copy 23 = .ok (.iload_n 2, 1) := by decide +kernel
theorem dX2_copy_24 : decode cX2_copy 24 = .ok (.aload_n 1, 1) := by decide +kernel
theorem dX2_copy_25 : decode cX2_copy 25 = .ok (.getfield 9, 3) := by decide +kernel
theorem dX2_copy_28 : decode cX2_copy 28 = .ok (.iload_n 2, 1) := by decide +kernel
theorem dX2_copy_29 : decode cX2_copy 29 = .ok (.iaload, 1) := by decide +kernel
theorem dX2_copy_30 : decode cX2_copy 30 = .ok (.aload_n 1, 1) := by decide +kernel
theorem dX2_copy_31 : decode cX2_copy 31 = .ok (.getfield 15, 3) := by decide +kernel
theorem dX2_copy_34 : decode cX2_copy 34 = .ok (.iload_n 2, 1) := by decide +kernel
theorem dX2_copy_35 : decode cX2_copy 35 = .ok (.iaload, 1) := by decide +kernel
theorem dX2_copy_36 : decode cX2_copy 36 = .ok (.aload_n 1, 1) := by decide +kernel
theorem dX2_copy_37 : decode cX2_copy 37 = .ok (.getfield 18, 3) := by decide +kernel
theorem dX2_copy_40 : decode cX2_copy 40 = .ok (.iload_n 2, 1) := by decide +kernel
theorem dX2_copy_41 : decode cX2_copy 41 = .ok (.baload, 1) := by decide +kernel
theorem dX2_copy_42 : decode cX2_copy 42 = .ok (.invokevirtual 36, 3) := by decide +kernel
theorem dX2_copy_45 : decode cX2_copy 45 = .ok (.iinc 2 1, 3) := by decide +kernel
theorem dX2_copy_48 : decode cX2_copy 48 = .ok (.goto (-34), 3) := by decide +kernel
theorem dX2_copy_51 : decode cX2_copy 51 = .ok (.return_, 1) := by decide +kernel
theorem dX2_begin_0 : decode cX2_begin 0 = .ok (.aload_n 0, 1) := by decide +kernel
theorem dX2_begin_1 : decode cX2_begin 1 = .ok (.iload_n 1, 1) := by decide +kernel
theorem dX2_begin_2 : decode cX2_begin 2 = .ok (.putfield 32, 3) := by decide +kernel
theorem dX2_begin_5 : decode cX2_begin 5 = .ok (.aload_n 0, 1) := by decide +kernel
theorem dX2_begin_6 : decode cX2_begin 6 = .ok (.iload_n 2, 1) := by decide +kernel
theorem dX2_begin_7 : decode cX2_begin 7 = .ok (.putfield 40, 3) := by decide +kernel
theorem dX2_begin_10 : decode cX2_begin 10 = .ok (.aload_n 0, 1) := by decide +kernel
theorem dX2_begin_11 : decode cX2_begin 11 = .ok (.getfield 22, 3) := by decide +kernel
theorem dX2_begin_14 : decode cX2_begin 14 = .ok (.iconst 0, 1) := by decide +kernel
theorem dX2_begin_15 : decode cX2_begin 15 = .ok (.invokestatic 43, 3) := by decide +kernel
theorem dX2_begin_18 : decode cX2_begin 18 = .ok (.return_, 1) := by decide +kernel
theorem dX2_lay_0 : decode cX2_lay 0 = .ok (.iload_n 2, 1) := by decide +kernel
theorem dX2_lay_1 : decode cX2_lay 1 = .ok (.ifCond .lt 19, 3) := by decide +kernel
theorem dX2_lay_4 : decode cX2_lay 4 = .ok (.iload_n 2, 1) := by decide +kernel
theorem dX2_lay_5 : decode cX2_lay 5 = .ok (.bipush 8, 2) := by decide +kernel
theorem dX2_lay_7 : decode cX2_lay 7 = .ok (.if_icmp .ge 13, 3) := by decide +kernel
theorem dX2_lay_10 : decode cX2_lay 10 = .ok (.iload_n 3, 1) := by decide +kernel
theorem dX2_lay_11 : decode cX2_lay 11 = .ok (.ifCond .lt 9, 3) := by decide +kernel
theorem dX2_lay_14 : decode cX2_lay 14 = .ok (.iload_n 3, 1) := by decide +kernel
theorem dX2_lay_15 : decode cX2_lay 15 = .ok (.bipush 8, 2) := by decide +kernel
theorem dX2_lay_17 : decode cX2_lay 17 = .ok (.if_icmp .lt 4, 3) := by decide +kernel
theorem dX2_lay_20 : decode cX2_lay 20 = .ok (.return_, 1) := by decide +kernel
theorem dX2_lay_21 : decode cX2_lay 21 = .ok (.aload_n 0, 1) := by decide +kernel
theorem dX2_lay_22 : decode cX2_lay 22 = .ok (.getfield 9, 3) := by decide +kernel
theorem dX2_lay_25 : decode cX2_lay 25 = .ok (.iload_n 1, 1) := by decide +kernel
theorem dX2_lay_26 : decode cX2_lay 26 = .ok (.iload_n 2, 1) := by decide +kernel
theorem dX2_lay_27 : decode cX2_lay 27 = .ok (.iastore, 1) := by decide +kernel
theorem dX2_lay_28 : decode cX2_lay 28 = .ok (.aload_n 0, 1) := by decide +kernel
theorem dX2_lay_29 : decode cX2_lay 29 = .ok (.getfield 15, 3) := by decide +kernel
theorem dX2_lay_32 : decode cX2_lay 32 = .ok (.iload_n 1, 1) := by decide +kernel
theorem dX2_lay_33 : decode cX2_lay 33 = .ok (.iload_n 3, 1) := by decide +kernel
theorem dX2_lay_34 : decode cX2_lay 34 = .ok (.iastore, 1) := by decide +kernel
theorem dX2_lay_35 : decode cX2_lay 35 = .ok (.aload_n 0, 1) := by decide +kernel
theorem dX2_lay_36 : decode cX2_lay 36 = .ok (.getfield 18, 3) := by decide +kernel
theorem dX2_lay_39 : decode cX2_lay 39 = .ok (.iload_n 1, 1) := by decide +kernel
theorem dX2_lay_40 : decode cX2_lay 40 = .ok (.iload 4, 2) := by decide +kernel
theorem dX2_lay_42 : decode cX2_lay 42 = .ok (.bastore, 1) := by decide +kernel
theorem dX2_lay_43 : decode cX2_lay 43 = .ok (.aload_n 0, 1) := by decide +kernel
theorem dX2_lay_44 : decode cX2_lay 44 = .ok (.getfield 22, 3) := by decide +kernel
theorem dX2_lay_47 : decode cX2_lay 47 = .ok (.iload_n 2, 1) := by decide +kernel
theorem dX2_lay_48 : decode cX2_lay 48 = .ok (.dup2, 1) := by decide +kernel
theorem dX2_lay_49 : decode cX2_lay 49 = .ok (.iaload, 1) := by decide +kernel
theorem dX2_lay_50 : decode cX2_lay 50 = .ok (.iconst 1, 1) := by decide +kernel
theorem dX2_lay_51 : decode cX2_lay 51 = .ok (.iadd, 1) := by decide +kernel
theorem dX2_lay_52 : decode cX2_lay 52 = .ok (.iastore, 1) := by decide +kernel
theorem dX2_lay_53 : decode cX2_lay 53 = .ok (.aload_n 0, 1) := by decide +kernel
theorem dX2_lay_54 : decode cX2_lay 54 = .ok (.getfield 25, 3) := by decide +kernel
theorem dX2_lay_57 : decode cX2_lay 57 = .ok (.bipush 8, 2) := by decide +kernel
theorem dX2_lay_59 : decode cX2_lay 59 = .ok (.iload_n 2, 1) := by decide +kernel
theorem dX2_lay_60 : decode cX2_lay 60 = .ok (.imul, 1) := by decide +kernel
theorem dX2_lay_61 : decode cX2_lay 61 = .ok (.iload_n 3, 1) := by decide +kernel
theorem dX2_lay_62 : decode cX2_lay 62 = .ok (.iadd, 1) := by decide +kernel
theorem dX2_lay_63 : decode cX2_lay 63 = .ok (.iload_n 1, 1) := by decide +kernel
theorem dX2_lay_64 : decode cX2_lay 64 = .ok (.iastore, 1) := by decide +kernel
theorem dX2_lay_65 : decode cX2_lay 65 = .ok (.return_, 1) := by decide +kernel
theorem dX2_turn_0 : decode cX2_turn 0 = .ok (.aload_n 1, 1) := by decide +kernel
theorem dX2_turn_1 : decode cX2_turn 1 = .ok (.getfield 40, 3) := by decide +kernel
theorem dX2_turn_4 : decode cX2_turn 4 = .ok (.istore 5, 2) := by decide +kernel
theorem dX2_turn_6 : decode cX2_turn 6 = .ok (.aload_n 0, 1) := by decide +kernel
theorem dX2_turn_7 : decode cX2_turn 7 = .ok (.aload_n 1, 1) := by decide +kernel
theorem dX2_turn_8 : decode cX2_turn 8 = .ok (.getfield 32, 3) := by decide +kernel
theorem dX2_turn_11 : decode cX2_turn 11 = .ok (.iload_n 2, 1) := by decide +kernel
theorem dX2_turn_12 : decode cX2_turn 12 = .ok (.iload 5, 2) := by decide +kernel
theorem dX2_turn_14 : decode cX2_turn 14 = .ok (.iload_n 2, 1) := by decide +kernel
theorem dX2_turn_15 : decode cX2_turn 15 = .ok (.isub, 1) := by decide +kernel
theorem dX2_turn_16 : decode cX2_turn 16 = .ok (.invokestatic 49, 3) := by decide +kernel
theorem dX2_turn_19 : decode cX2_turn 19 = .ok (.invokevirtual 28, 3) := by decide +kernel
theorem dX2_turn_22 : decode cX2_turn 22 = .ok (.iload_n 3, 1) := by decide +kernel
theorem dX2_turn_23 : decode cX2_turn 23 = .ok (.ifCond .eq 7, 3) := by decide +kernel
theorem dX2_turn_26 : decode cX2_turn 26 = .ok (.iload_n 2, 1) := by decide +kernel
theorem dX2_turn_27 : decode cX2_turn 27 = .ok (.goto 13, 3) := by decide +kernel
theorem dX2_turn_30 : decode cX2_turn 30 = .ok (.iconst 0, 1) := by decide +kernel
theorem dX2_turn_31 : decode cX2_turn 31 = .ok (.iconst 2, 1) := by decide +kernel
theorem dX2_turn_32 : decode cX2_turn 32 = .ok (.iload_n 2, 1) := by decide +kernel
theorem dX2_turn_33 : decode cX2_turn 33 = .ok (.imul, 1) := by decide +kernel
theorem dX2_turn_34 : decode cX2_turn 34 = .ok (.iload 5, 2) := by decide +kernel
theorem dX2_turn_36 : decode cX2_turn 36 = .ok (.isub, 1) := by decide +kernel
theorem dX2_turn_37 : decode cX2_turn 37 = .ok (.invokestatic 55, 3) := by decide +kernel
theorem dX2_turn_40 : decode cX2_turn 40 = .ok (.istore 6, 2) := by decide +kernel
theorem dX2_turn_42 : decode cX2_turn 42 = .ok (.iconst 0, 1) := by decide +kernel
theorem dX2_turn_43 : decode cX2_turn 43 = .ok (.istore 7, 2) := by decide +kernel
theorem dX2_turn_45 : decode cX2_turn 45 = .ok (.iload 7, 2) := by decide +kernel
theorem dX2_turn_47 : decode cX2_turn 47 = .ok (.aload_n 0, 1) := by decide +kernel
theorem dX2_turn_48 : decode cX2_turn 48 = .ok (.getfield 32, 3) := by decide +kernel
theorem dX2_turn_51 : decode cX2_turn 51 = .ok (.if_icmp .ge 165, 3) := by decide +kernel
theorem dX2_turn_54 : decode cX2_turn 54 = .ok (.aload_n 1, 1) := by decide +kernel
theorem dX2_turn_55 : decode cX2_turn 55 = .ok (.getfield 9, 3) := by decide +kernel
theorem dX2_turn_58 : decode cX2_turn 58 = .ok (.iload 7, 2) := by decide +kernel
theorem dX2_turn_60 : decode cX2_turn 60 = .ok (.iaload, 1) := by decide +kernel
theorem dX2_turn_61 : decode cX2_turn 61 = .ok (.istore 8, 2) := by decide +kernel
theorem dX2_turn_63 : decode cX2_turn 63 = .ok (.aload_n 1, 1) := by decide +kernel
theorem dX2_turn_64 : decode cX2_turn 64 = .ok (.getfield 15, 3) := by decide +kernel
theorem dX2_turn_67 : decode cX2_turn 67 = .ok (.iload 7, 2) := by decide +kernel
theorem dX2_turn_69 : decode cX2_turn 69 = .ok (.iaload, 1) := by decide +kernel
theorem dX2_turn_70 : decode cX2_turn 70 = .ok (.istore 9, 2) := by decide +kernel
theorem dX2_turn_72 : decode cX2_turn 72 = .ok (.iconst 2, 1) := by decide +kernel
theorem dX2_turn_73 : decode cX2_turn 73 = .ok (.iload_n 2, 1) := by decide +kernel
theorem dX2_turn_74 : decode cX2_turn 74 = .ok (.imul, 1) := by decide +kernel
theorem dX2_turn_75 : decode cX2_turn 75 = .ok (.iconst 1, 1) := by decide +kernel
theorem dX2_turn_76 : decode cX2_turn 76 = .ok (.isub, 1) := by decide +kernel
theorem dX2_turn_77 : decode cX2_turn 77 = .ok (.iload 8, 2) := by decide +kernel
theorem dX2_turn_79 : decode cX2_turn 79 = .ok (.isub, 1) := by decide +kernel
theorem dX2_turn_80 : decode cX2_turn 80 = .ok (.istore 10, 2) := by decide +kernel
theorem dX2_turn_82 : decode cX2_turn 82 = .ok (.iload 10, 2) := by decide +kernel
theorem dX2_turn_84 : decode cX2_turn 84 = .ok (.ifCond .lt 20, 3) := by decide +kernel
theorem dX2_turn_87 : decode cX2_turn 87 = .ok (.iload 10, 2) := by decide +kernel
theorem dX2_turn_89 : decode cX2_turn 89 = .ok (.iload 5, 2) := by decide +kernel
theorem dX2_turn_91 : decode cX2_turn 91 = .ok (.if_icmp .ge 13, 3) := by decide +kernel
theorem dX2_turn_94 : decode cX2_turn 94 = .ok (.aload_n 1, 1) := by decide +kernel
theorem dX2_turn_95 : decode cX2_turn 95 = .ok (.getfield 22, 3) := by decide +kernel
theorem dX2_turn_98 : decode cX2_turn 98 = .ok (.iload 10, 2) := by decide +kernel
theorem dX2_turn_100 : decode cX2_turn 100 = .ok (.iaload, 1) := by decide +kernel
theorem dX2_turn_101 : decode cX2_turn 101 = .ok (.goto 4, 3) := by decide +kernel
theorem dX2_turn_104 : decode cX2_turn 104 = .ok (.iconst 0, 1) := by decide +kernel
theorem dX2_turn_105 : decode cX2_turn 105 = .ok (.istore 11, 2) := by decide +kernel
theorem dX2_turn_107 : decode cX2_turn 107 = .ok (.iload 8, 2) := by decide +kernel
theorem dX2_turn_109 : decode cX2_turn 109 = .ok (.iload_n 2, 1) := by decide +kernel
theorem dX2_turn_110 : decode cX2_turn 110 = .ok (.if_icmp .ge 7, 3) := by decide +kernel
theorem dX2_turn_113 : decode cX2_turn 113 = .ok (.iconst 1, 1) := by decide +kernel
theorem dX2_turn_114 : decode cX2_turn 114 = .ok (.goto 4, 3) := by decide +kernel
theorem dX2_turn_117 : decode cX2_turn 117 = .ok (.iconst 0, 1) := by decide +kernel
theorem dX2_turn_118 : decode cX2_turn 118 = .ok (.iload_n 3, 1) := by decide +kernel
theorem dX2_turn_119 : decode cX2_turn 119 = .ok (.if_icmp .ne 56, 3) := by decide +kernel
theorem dX2_turn_122 : decode cX2_turn 122 = .ok (.aload_n 1, 1) := by decide +kernel
theorem dX2_turn_123 : decode cX2_turn 123 = .ok (.getfield 22, 3) := by decide +kernel
theorem dX2_turn_126 : decode cX2_turn 126 = .ok (.iload 8, 2) := by decide +kernel
theorem dX2_turn_128 : decode cX2_turn 128 = .ok (.iaload, 1) := by decide +kernel
theorem dX2_turn_129 : decode cX2_turn 129 = .ok (.iconst 1, 1) := by decide +kernel
theorem dX2_turn_130 : decode cX2_turn 130 = .ok (.isub, 1) := by decide +kernel
theorem dX2_turn_131 : decode cX2_turn 131 = .ok (.iload 9, 2) := by decide +kernel
theorem dX2_turn_133 : decode cX2_turn 133 = .ok (.isub, 1) := by decide +kernel
theorem dX2_turn_134 : decode cX2_turn 134 = .ok (.istore 12, 2) := by decide +kernel
theorem dX2_turn_136 : decode cX2_turn 136 = .ok (.aload_n 0, 1) := by decide +kernel
theorem dX2_turn_137 : decode cX2_turn 137 = .ok (.iload 7, 2) := by decide +kernel
theorem dX2_turn_139 : decode cX2_turn 139 = .ok (.iload 10, 2) := by decide +kernel
theorem dX2_turn_141 : decode cX2_turn 141 = .ok (.iload 6, 2) := by decide +kernel
theorem dX2_turn_143 : decode cX2_turn 143 = .ok (.isub, 1) := by decide +kernel
theorem dX2_turn_144 : decode cX2_turn 144 = .ok (.iload 4, 2) := by decide +kernel
theorem dX2_turn_146 : decode cX2_turn 146 = .ok (.iload 11, 2) := by decide +kernel
theorem dX2_turn_148 : decode cX2_turn 148 = .ok (.invokestatic 55, 3) := by decide +kernel
theorem dX2_turn_151 : decode cX2_turn 151 = .ok (.iload 12, 2) := by decide +kernel
theorem dX2_turn_153 : decode cX2_turn 153 = .ok (.iadd, 1) := by decide +kernel
theorem dX2_turn_154 : decode cX2_turn 154 = .ok (.aload_n 1, 1) := by decide +kernel
theorem dX2_turn_155 : decode cX2_turn 155 = .ok (.getfield 18, 3) := by decide +kernel
theorem dX2_turn_158 : decode cX2_turn 158 = .ok (.iload 7, 2) := by decide +kernel
theorem dX2_turn_160 : decode cX2_turn 160 = .ok (.baload, 1) := by decide +kernel
theorem dX2_turn_161 : decode cX2_turn 161 = .ok (.ifCond .ne 7, 3) := by decide +kernel
theorem dX2_turn_164 : decode cX2_turn 164 = .ok (.iconst 1, 1) := by decide +kernel
theorem dX2_turn_165 : decode cX2_turn 165 = .ok (.goto 4, 3) := by decide +kernel
theorem dX2_turn_168 : decode cX2_turn 168 = .ok (.iconst 0, 1) := by decide +kernel
theorem dX2_turn_169 : decode cX2_turn 169 = .ok (.invokevirtual 36, 3) := by decide +kernel
theorem dX2_turn_172 : decode cX2_turn 172 = .ok (.goto 38, 3) := by decide +kernel
theorem dX2_turn_175 : decode cX2_turn 175 = .ok (.aload_n 0, 1) := by decide +kernel
theorem dX2_turn_176 : decode cX2_turn 176 = .ok (.iload 7, 2) := by decide +kernel
theorem dX2_turn_178 : decode cX2_turn 178 = .ok (.iload 8, 2) := by decide +kernel
theorem dX2_turn_180 : decode cX2_turn 180 = .ok (.iload 6, 2) := by decide +kernel
theorem dX2_turn_182 : decode cX2_turn 182 = .ok (.isub, 1) := by decide +kernel
theorem dX2_turn_183 : decode cX2_turn 183 = .ok (.iload 9, 2) := by decide +kernel
theorem dX2_turn_185 : decode cX2_turn 185 = .ok (.iload 4, 2) := by decide +kernel
theorem dX2_turn_187 : decode cX2_turn 187 = .ok (.if_icmp .ge 8, 3) := by decide +kernel
theorem dX2_turn_190 : decode cX2_turn 190 = .ok (.iload 9, 2) := by decide +kernel
theorem dX2_turn_192 : decode cX2_turn 192 = .ok (.goto 8, 3) := by decide +kernel
theorem dX2_turn_195 : decode cX2_turn 195 = .ok (.iload 9, 2) := by decide +kernel
theorem dX2_turn_197 : decode cX2_turn 197 = .ok (.iload 11, 2) := by decide +kernel
theorem dX2_turn_199 : decode cX2_turn 199 = .ok (.iadd, 1) := by decide +kernel
theorem dX2_turn_200 : decode cX2_turn 200 = .ok (.aload_n 1, 1) := by decide +kernel
theorem dX2_turn_201 : decode cX2_turn 201 = .ok (.getfield 18, 3) := by decide +kernel
theorem dX2_turn_204 : decode cX2_turn 204 = .ok (.iload 7, 2) := by decide +kernel
theorem dX2_turn_206 : decode cX2_turn 206 = .ok (.baload, 1) := by decide +kernel
theorem dX2_turn_207 : decode cX2_turn 207 = .ok (.invokevirtual 36, 3) := by decide +kernel
theorem dX2_turn_210 : decode cX2_turn 210 = .ok (.iinc 7 1, 3) := by decide +kernel
theorem dX2_turn_213 : decode cX2_turn 213 = .ok (.goto (-168), 3) := by decide +kernel
theorem dX2_turn_216 : decode cX2_turn 216 = .ok (.return_, 1) := by decide +kernel
theorem dX2_turnedBy_0 : decode cX2_turnedBy 0 = .ok (.iconst 0, 1) := by decide +kernel
theorem dX2_turnedBy_1 : decode cX2_turnedBy 1 = .ok (.istore_n 3, 1) := by decide +kernel
theorem dX2_turnedBy_2 : decode cX2_turnedBy 2 = .ok (.iconst 0, 1) := by decide +kernel
theorem dX2_turnedBy_3 : decode cX2_turnedBy 3 = .ok (.istore 4, 2) := by decide +kernel
theorem dX2_turnedBy_5 : decode cX2_turnedBy 5 = .ok (.iload 4, 2) := by decide +kernel
theorem dX2_turnedBy_7 : decode cX2_turnedBy 7 = .ok (.aload_n 0, 1) := by decide +kernel
theorem dX2_turnedBy_8 : decode cX2_turnedBy 8 = .ok (.getfield 32, 3) := by decide +kernel
theorem dX2_turnedBy_11 : decode cX2_turnedBy 11 = .ok (.if_icmp .ge 32, 3) := by decide +kernel
theorem dX2_turnedBy_14 : decode cX2_turnedBy 14 = .ok (.aload_n 0, 1) := by decide +kernel
theorem dX2_turnedBy_15 : decode cX2_turnedBy 15 = .ok (.getfield 9, 3) := by decide +kernel
theorem dX2_turnedBy_18 : decode cX2_turnedBy 18 = .ok (.iload 4, 2) := by decide +kernel
theorem dX2_turnedBy_20 : decode cX2_turnedBy 20 = .ok (.iaload, 1) := by decide +kernel
theorem dX2_turnedBy_21 : decode cX2_turnedBy 21 = .ok (.iload_n 1, 1) := by decide +kernel
theorem dX2_turnedBy_22 : decode cX2_turnedBy 22 = .ok (.if_icmp .ge 7, 3) := by decide +kernel
theorem dX2_turnedBy_25 : decode cX2_turnedBy 25 = .ok (.iconst 1, 1) := by decide +kernel
theorem dX2_turnedBy_26 : decode cX2_turnedBy 26 = .ok (.goto 4, 3) := by decide +kernel
theorem dX2_turnedBy_29 : decode cX2_turnedBy 29 = .ok (.iconst 0, 1) := by decide +kernel
theorem dX2_turnedBy_30 : decode cX2_turnedBy 30 = .ok (.iload_n 2, 1) := by decide +kernel
theorem dX2_turnedBy_31 : decode cX2_turnedBy 31 = .ok (.if_icmp .ne 6, 3) := by decide +kernel
theorem dX2_turnedBy_34 : decode cX2_turnedBy 34 = .ok (.iinc 3 1, 3) := by decide +kernel
theorem dX2_turnedBy_37 : decode cX2_turnedBy 37 = .ok (.iinc 4 1, 3) := by decide +kernel
theorem dX2_turnedBy_40 : decode cX2_turnedBy 40 = .ok (.goto (-35), 3) := by decide +kernel
theorem dX2_turnedBy_43 : decode cX2_turnedBy 43 = .ok (.iload_n 3, 1) := by decide +kernel
theorem dX2_turnedBy_44 : decode cX2_turnedBy 44 = .ok (.ireturn, 1) := by decide +kernel
theorem dX2_creasesAt_0 : decode cX2_creasesAt 0 = .ok (.iconst 0, 1) := by decide +kernel
theorem dX2_creasesAt_1 : decode cX2_creasesAt 1 = .ok (.istore_n 3, 1) := by decide +kernel
theorem dX2_creasesAt_2 : decode cX2_creasesAt 2 = .ok (.iconst 0, 1) := by decide +kernel
theorem dX2_creasesAt_3 : decode cX2_creasesAt 3 = .ok (.istore 4, 2) := by decide +kernel
theorem dX2_creasesAt_5 : decode cX2_creasesAt 5 = .ok (.iload 4, 2) := by decide +kernel
theorem dX2_creasesAt_7 : decode cX2_creasesAt 7 = .ok (.aload_n 0, 1) := by decide +kernel
theorem dX2_creasesAt_8 : decode cX2_creasesAt 8 = .ok (.getfield 32, 3) := by decide +kernel
theorem dX2_creasesAt_11 : decode cX2_creasesAt 11 = .ok (.iconst 1, 1) := by decide +kernel
theorem dX2_creasesAt_12 : decode cX2_creasesAt 12 = .ok (.isub, 1) := by decide +kernel
theorem dX2_creasesAt_13 : decode cX2_creasesAt 13 = .ok (.if_icmp .ge 52, 3) := by decide +kernel
theorem dX2_creasesAt_16 : decode cX2_creasesAt 16 = .ok (.aload_n 0, 1) := by decide +kernel
theorem dX2_creasesAt_17 : decode cX2_creasesAt 17 = .ok (.iload 4, 2) := by decide +kernel
theorem dX2_creasesAt_19 : decode cX2_creasesAt 19 = .ok (.invokevirtual 58, 3) := by decide +kernel
theorem dX2_creasesAt_22 : decode cX2_creasesAt 22 = .ok (.ifCond .ne 37, 3) := by decide +kernel
theorem dX2_creasesAt_25 : decode cX2_creasesAt 25 = .ok (.aload_n 0, 1) := by decide +kernel
theorem dX2_creasesAt_26 : decode cX2_creasesAt 26 = .ok (.iload 4, 2) := by decide +kernel
theorem dX2_creasesAt_28 : decode cX2_creasesAt 28 = .ok (.invokevirtual 62, 3) := by decide +kernel
theorem dX2_creasesAt_31 : decode cX2_creasesAt 31 = .ok (.iload_n 1, 1) := by decide +kernel
theorem dX2_creasesAt_32 : decode cX2_creasesAt 32 = .ok (.if_icmp .ne 27, 3) := by decide +kernel
theorem dX2_creasesAt_35 : decode cX2_creasesAt 35 = .ok (.iload_n 3, 1) := by decide +kernel
theorem dX2_creasesAt_36 : decode cX2_creasesAt 36 = .ok (.aload_n 0, 1) := by decide +kernel
theorem dX2_creasesAt_37 : decode cX2_creasesAt 37 = .ok (.getfield 18, 3) := by decide +kernel
theorem dX2_creasesAt_40 : decode cX2_creasesAt 40 = .ok (.iload 4, 2) := by decide +kernel
theorem dX2_creasesAt_42 : decode cX2_creasesAt 42 = .ok (.baload, 1) := by decide +kernel
theorem dX2_creasesAt_43 : decode cX2_creasesAt 43 = .ok (.iload_n 2, 1) := by decide +kernel
theorem dX2_creasesAt_44 : decode cX2_creasesAt 44 = .ok (.if_icmp .ne 7, 3) := by decide +kernel
theorem dX2_creasesAt_47 : decode cX2_creasesAt 47 = .ok (.iconst 1, 1) := by decide +kernel
theorem dX2_creasesAt_48 : decode cX2_creasesAt 48 = .ok (.goto 4, 3) := by decide +kernel
theorem dX2_creasesAt_51 : decode cX2_creasesAt 51 = .ok (.iconst 2, 1) := by decide +kernel
theorem dX2_creasesAt_52 : decode cX2_creasesAt 52 = .ok (.iconst 2, 1) := by decide +kernel
theorem dX2_creasesAt_53 : decode cX2_creasesAt 53 = .ok (.iload 4, 2) := by decide +kernel
theorem dX2_creasesAt_55 : decode cX2_creasesAt 55 = .ok (.imul, 1) := by decide +kernel
theorem dX2_creasesAt_56 : decode cX2_creasesAt 56 = .ok (.ishl, 1) := by decide +kernel
theorem dX2_creasesAt_57 : decode cX2_creasesAt 57 = .ok (.ior, 1) := by decide +kernel
theorem dX2_creasesAt_58 : decode cX2_creasesAt 58 = .ok (.istore_n 3, 1) := by decide +kernel
theorem dX2_creasesAt_59 : decode cX2_creasesAt 59 = .ok (.iinc 4 1, 3) := by decide +kernel
theorem dX2_creasesAt_62 : decode cX2_creasesAt 62 = .ok (.goto (-57), 3) := by decide +kernel
theorem dX2_creasesAt_65 : decode cX2_creasesAt 65 = .ok (.iload_n 3, 1) := by decide +kernel
theorem dX2_creasesAt_66 : decode cX2_creasesAt 66 = .ok (.ireturn, 1) := by decide +kernel
theorem dX2_isCrease_0 : decode cX2_isCrease 0 = .ok (.aload_n 0, 1) := by decide +kernel
theorem dX2_isCrease_1 : decode cX2_isCrease 1 = .ok (.getfield 9, 3) := by decide +kernel
theorem dX2_isCrease_4 : decode cX2_isCrease 4 = .ok (.iload_n 1, 1) := by decide +kernel
theorem dX2_isCrease_5 : decode cX2_isCrease 5 = .ok (.iaload, 1) := by decide +kernel
theorem dX2_isCrease_6 : decode cX2_isCrease 6 = .ok (.aload_n 0, 1) := by decide +kernel
theorem dX2_isCrease_7 : decode cX2_isCrease 7 = .ok (.getfield 9, 3) := by decide +kernel
theorem dX2_isCrease_10 : decode cX2_isCrease 10 = .ok (.iload_n 1, 1) := by decide +kernel
theorem dX2_isCrease_11 : decode cX2_isCrease 11 = .ok (.iconst 1, 1) := by decide +kernel
theorem dX2_isCrease_12 : decode cX2_isCrease 12 = .ok (.iadd, 1) := by decide +kernel
theorem dX2_isCrease_13 : decode cX2_isCrease 13 = .ok (.iaload, 1) := by decide +kernel
theorem dX2_isCrease_14 : decode cX2_isCrease 14 = .ok (.if_icmp .ne 7, 3) := by decide +kernel
theorem dX2_isCrease_17 : decode cX2_isCrease 17 = .ok (.iconst 1, 1) := by decide +kernel
theorem dX2_isCrease_18 : decode cX2_isCrease 18 = .ok (.goto 4, 3) := by decide +kernel
theorem dX2_isCrease_21 : decode cX2_isCrease 21 = .ok (.iconst 0, 1) := by decide +kernel
theorem dX2_isCrease_22 : decode cX2_isCrease 22 = .ok (.ireturn, 1) := by decide +kernel
theorem dX2_lineOf_0 : decode cX2_lineOf 0 = .ok (.aload_n 0, 1) := by decide +kernel
theorem dX2_lineOf_1 : decode cX2_lineOf 1 = .ok (.iload_n 1, 1) := by decide +kernel
theorem dX2_lineOf_2 : decode cX2_lineOf 2 = .ok (.invokevirtual 58, 3) := by decide +kernel
theorem dX2_lineOf_5 : decode cX2_lineOf 5 = .ok (.ifCond .eq 30, 3) := by decide +kernel
theorem dX2_lineOf_8 : decode cX2_lineOf 8 = .ok (.aload_n 0, 1) := by decide +kernel
theorem dX2_lineOf_9 : decode cX2_lineOf 9 = .ok (.getfield 18, 3) := by decide +kernel
theorem dX2_lineOf_12 : decode cX2_lineOf 12 = .ok (.iload_n 1, 1) := by decide +kernel
theorem dX2_lineOf_13 : decode cX2_lineOf 13 = .ok (.baload, 1) := by decide +kernel
theorem dX2_lineOf_14 : decode cX2_lineOf 14 = .ok (.ifCond .eq 14, 3) := by decide +kernel
theorem dX2_lineOf_17 : decode cX2_lineOf 17 = .ok (.aload_n 0, 1) := by decide +kernel
theorem dX2_lineOf_18 : decode cX2_lineOf 18 = .ok (.getfield 9, 3) := by decide +kernel
theorem dX2_lineOf_21 : decode cX2_lineOf 21 = .ok (.iload_n 1, 1) := by decide +kernel
theorem dX2_lineOf_22 : decode cX2_lineOf 22 = .ok (.iaload, 1) := by decide +kernel
theorem dX2_lineOf_23 : decode cX2_lineOf 23 = .ok (.iconst 1, 1) := by decide +kernel
theorem dX2_lineOf_24 : decode cX2_lineOf 24 = .ok (.iadd, 1) := by decide +kernel
theorem dX2_lineOf_25 : decode cX2_lineOf 25 = .ok (.goto 9, 3) := by decide +kernel
theorem dX2_lineOf_28 : decode cX2_lineOf 28 = .ok (.aload_n 0, 1) := by decide +kernel
theorem dX2_lineOf_29 : decode cX2_lineOf 29 = .ok (.getfield 9, 3) := by decide +kernel
theorem dX2_lineOf_32 : decode cX2_lineOf 32 = .ok (.iload_n 1, 1) := by decide +kernel
theorem dX2_lineOf_33 : decode cX2_lineOf 33 = .ok (.iaload, 1) := by decide +kernel
theorem dX2_lineOf_34 : decode cX2_lineOf 34 = .ok (.ireturn, 1) := by decide +kernel
theorem dX2_lineOf_35 : decode cX2_lineOf 35 = .ok (.aload_n 0, 1) := by decide +kernel
theorem dX2_lineOf_36 : decode cX2_lineOf 36 = .ok (.getfield 9, 3) := by decide +kernel
theorem dX2_lineOf_39 : decode cX2_lineOf 39 = .ok (.iload_n 1, 1) := by decide +kernel
theorem dX2_lineOf_40 : decode cX2_lineOf 40 = .ok (.iaload, 1) := by decide +kernel
theorem dX2_lineOf_41 : decode cX2_lineOf 41 = .ok (.aload_n 0, 1) := by decide +kernel
theorem dX2_lineOf_42 : decode cX2_lineOf 42 = .ok (.getfield 9, 3) := by decide +kernel
theorem dX2_lineOf_45 : decode cX2_lineOf 45 = .ok (.iload_n 1, 1) := by decide +kernel
theorem dX2_lineOf_46 : decode cX2_lineOf 46 = .ok (.iconst 1, 1) := by decide +kernel
theorem dX2_lineOf_47 : decode cX2_lineOf 47 = .ok (.iadd, 1) := by decide +kernel
theorem dX2_lineOf_48 : decode cX2_lineOf 48 = .ok (.iaload, 1) := by decide +kernel
theorem dX2_lineOf_49 : decode cX2_lineOf 49 = .ok (.invokestatic 49, 3) := by decide +kernel
theorem dX2_lineOf_52 : decode cX2_lineOf 52 = .ok (.ireturn, 1) := by decide +kernel
theorem dX2_passesThrough_0 : decode cX2_passesThrough 0 = .ok (.iconst 1, 1) := by decide +kernel
theorem dX2_passesThrough_1 : decode cX2_passesThrough 1 = .ok (.istore_n 1, 1) := by decide +kernel
theorem dX2_passesThrough_2 : decode cX2_passesThrough 2 = .ok (.iload_n 1, 1) := by decide +kernel
theorem dX2_passesThrough_3 : decode cX2_passesThrough 3 = .ok (.aload_n 0, 1) := by decide +kernel
theorem dX2_passesThrough_4 : decode cX2_passesThrough 4 = .ok (.getfield 32, 3) := by decide +kernel
theorem dX2_passesThrough_7 : decode cX2_passesThrough 7 = .ok (.iconst 1, 1) := by decide +kernel
theorem dX2_passesThrough_8 : decode cX2_passesThrough 8 = .ok (.isub, 1) := by decide +kernel
theorem dX2_passesThrough_9 : decode cX2_passesThrough 9 = .ok (.if_icmp .ge 46, 3) := by decide +kernel
theorem dX2_passesThrough_12 : decode cX2_passesThrough 12 = .ok (.iconst 0, 1) := by decide +kernel
theorem dX2_passesThrough_13 : decode cX2_passesThrough 13 = .ok (.istore_n 2, 1) := by decide +kernel
theorem dX2_passesThrough_14 : decode cX2_passesThrough 14 = .ok (.iload_n 2, 1) := by decide +kernel
theorem dX2_passesThrough_15 : decode cX2_passesThrough 15 = .ok (.iload_n 1, 1) := by decide +kernel
theorem dX2_passesThrough_16 : decode cX2_passesThrough 16 = .ok (.if_icmp .ge 33, 3) := by decide +kernel
theorem dX2_passesThrough_19 : decode cX2_passesThrough 19 = .ok (.aload_n 0, 1) := by decide +kernel
theorem dX2_passesThrough_20 : decode cX2_passesThrough 20 = .ok (.iload_n 1, 1) := by decide +kernel
theorem dX2_passesThrough_21 : decode cX2_passesThrough 21 = .ok (.invokevirtual 62, 3) := by decide +kernel
theorem dX2_passesThrough_24 : decode cX2_passesThrough 24 = .ok (.aload_n 0, 1) := by decide +kernel
theorem dX2_passesThrough_25 : decode cX2_passesThrough 25 = .ok (.iload_n 2, 1) := by decide +kernel
theorem dX2_passesThrough_26 : decode cX2_passesThrough 26 = .ok (.invokevirtual 62, 3) := by decide +kernel
theorem dX2_passesThrough_29 : decode cX2_passesThrough 29 = .ok (.if_icmp .ne 14, 3) := by decide +kernel
theorem dX2_passesThrough_32 : decode cX2_passesThrough 32 = .ok (.aload_n 0, 1) := by decide +kernel
theorem dX2_passesThrough_33 : decode cX2_passesThrough 33 = .ok (.iload_n 1, 1) := by decide +kernel
theorem dX2_passesThrough_34 : decode cX2_passesThrough 34 = .ok (.iload_n 2, 1) := by decide +kernel
theorem dX2_passesThrough_35 : decode cX2_passesThrough 35 = .ok (.invokevirtual 66, 3) := by decide +kernel
theorem dX2_passesThrough_38 : decode cX2_passesThrough 38 = .ok (.ifCond .eq 5, 3) := by decide +kernel
theorem dX2_passesThrough_41 : decode cX2_passesThrough 41 = .ok (.iconst 1, 1) := by decide +kernel
theorem dX2_passesThrough_42 : decode cX2_passesThrough 42 = .ok (.ireturn, 1) := by decide +kernel
theorem dX2_passesThrough_43 : decode cX2_passesThrough 43 = .ok (.iinc 2 1, 3) := by decide +kernel
theorem dX2_passesThrough_46 : decode cX2_passesThrough 46 = .ok (.goto (-32), 3) := by decide +kernel
theorem dX2_passesThrough_49 : decode cX2_passesThrough 49 = .ok (.iinc 1 1, 3) := by decide +kernel
theorem dX2_passesThrough_52 : decode cX2_passesThrough 52 = .ok (.goto (-50), 3) := by decide +kernel
theorem dX2_passesThrough_55 : decode cX2_passesThrough 55 = .ok (.iconst 0, 1) := by decide +kernel
theorem dX2_passesThrough_56 : decode cX2_passesThrough 56 = .ok (.ireturn, 1) := by decide +kernel
theorem dX2_clash_0 : decode cX2_clash 0 = .ok (.aload_n 0, 1) := by decide +kernel
theorem dX2_clash_1 : decode cX2_clash 1 = .ok (.iload_n 1, 1) := by decide +kernel
theorem dX2_clash_2 : decode cX2_clash 2 = .ok (.invokevirtual 58, 3) := by decide +kernel
theorem dX2_clash_5 : decode cX2_clash 5 = .ok (.ifCond .eq 49, 3) := by decide +kernel
theorem dX2_clash_8 : decode cX2_clash 8 = .ok (.aload_n 0, 1) := by decide +kernel
theorem dX2_clash_9 : decode cX2_clash 9 = .ok (.iload_n 2, 1) := by decide +kernel
theorem dX2_clash_10 : decode cX2_clash 10 = .ok (.invokevirtual 58, 3) := by decide +kernel
theorem dX2_clash_13 : decode cX2_clash 13 = .ok (.ifCond .eq 41, 3) := by decide +kernel
theorem dX2_clash_16 : decode cX2_clash 16 = .ok (.aload_n 0, 1) := by decide +kernel
theorem dX2_clash_17 : decode cX2_clash 17 = .ok (.getfield 9, 3) := by decide +kernel
theorem dX2_clash_20 : decode cX2_clash 20 = .ok (.iload_n 1, 1) := by decide +kernel
theorem dX2_clash_21 : decode cX2_clash 21 = .ok (.iaload, 1) := by decide +kernel
theorem dX2_clash_22 : decode cX2_clash 22 = .ok (.aload_n 0, 1) := by decide +kernel
theorem dX2_clash_23 : decode cX2_clash 23 = .ok (.getfield 9, 3) := by decide +kernel
theorem dX2_clash_26 : decode cX2_clash 26 = .ok (.iload_n 2, 1) := by decide +kernel
theorem dX2_clash_27 : decode cX2_clash 27 = .ok (.iaload, 1) := by decide +kernel
theorem dX2_clash_28 : decode cX2_clash 28 = .ok (.if_icmp .ne 24, 3) := by decide +kernel
theorem dX2_clash_31 : decode cX2_clash 31 = .ok (.aload_n 0, 1) := by decide +kernel
theorem dX2_clash_32 : decode cX2_clash 32 = .ok (.iload_n 1, 1) := by decide +kernel
theorem dX2_clash_33 : decode cX2_clash 33 = .ok (.iload_n 2, 1) := by decide +kernel
theorem dX2_clash_34 : decode cX2_clash 34 = .ok (.invokevirtual 70, 3) := by decide +kernel
theorem dX2_clash_37 : decode cX2_clash 37 = .ok (.aload_n 0, 1) := by decide +kernel
theorem dX2_clash_38 : decode cX2_clash 38 = .ok (.iload_n 1, 1) := by decide +kernel
theorem dX2_clash_39 : decode cX2_clash 39 = .ok (.iload_n 2, 1) := by decide +kernel
theorem dX2_clash_40 : decode cX2_clash 40 = .ok (.iconst 1, 1) := by decide +kernel
theorem dX2_clash_41 : decode cX2_clash 41 = .ok (.iadd, 1) := by decide +kernel
theorem dX2_clash_42 : decode cX2_clash 42 = .ok (.invokevirtual 70, 3) := by decide +kernel
theorem dX2_clash_45 : decode cX2_clash 45 = .ok (.if_icmp .eq 7, 3) := by decide +kernel
theorem dX2_clash_48 : decode cX2_clash 48 = .ok (.iconst 1, 1) := by decide +kernel
theorem dX2_clash_49 : decode cX2_clash 49 = .ok (.goto 4, 3) := by decide +kernel
theorem dX2_clash_52 : decode cX2_clash 52 = .ok (.iconst 0, 1) := by decide +kernel
theorem dX2_clash_53 : decode cX2_clash 53 = .ok (.ireturn, 1) := by decide +kernel
theorem dX2_clash_54 : decode cX2_clash 54 = .ok (.aload_n 0, 1) := by decide +kernel
theorem dX2_clash_55 : decode cX2_clash 55 = .ok (.iload_n 1, 1) := by decide +kernel
theorem dX2_clash_56 : decode cX2_clash 56 = .ok (.invokevirtual 58, 3) := by decide +kernel
theorem dX2_clash_59 : decode cX2_clash 59 = .ok (.ifCond .eq 31, 3) := by decide +kernel
theorem dX2_clash_62 : decode cX2_clash 62 = .ok (.aload_n 0, 1) := by decide +kernel
theorem dX2_clash_63 : decode cX2_clash 63 = .ok (.iload_n 1, 1) := by decide +kernel
theorem dX2_clash_64 : decode cX2_clash 64 = .ok (.aload_n 0, 1) := by decide +kernel
theorem dX2_clash_65 : decode cX2_clash 65 = .ok (.getfield 9, 3) := by decide +kernel
theorem dX2_clash_68 : decode cX2_clash 68 = .ok (.iload_n 2, 1) := by decide +kernel
theorem dX2_clash_69 : decode cX2_clash 69 = .ok (.iaload, 1) := by decide +kernel
theorem dX2_clash_70 : decode cX2_clash 70 = .ok (.aload_n 0, 1) := by decide +kernel
theorem dX2_clash_71 : decode cX2_clash 71 = .ok (.getfield 9, 3) := by decide +kernel
theorem dX2_clash_74 : decode cX2_clash 74 = .ok (.iload_n 1, 1) := by decide +kernel
theorem dX2_clash_75 : decode cX2_clash 75 = .ok (.iaload, 1) := by decide +kernel
theorem dX2_clash_76 : decode cX2_clash 76 = .ok (.if_icmp .ne 7, 3) := by decide +kernel
theorem dX2_clash_79 : decode cX2_clash 79 = .ok (.iload_n 2, 1) := by decide +kernel
theorem dX2_clash_80 : decode cX2_clash 80 = .ok (.goto 6, 3) := by decide +kernel
theorem dX2_clash_83 : decode cX2_clash 83 = .ok (.iload_n 2, 1) := by decide +kernel
theorem dX2_clash_84 : decode cX2_clash 84 = .ok (.iconst 1, 1) := by decide +kernel
theorem dX2_clash_85 : decode cX2_clash 85 = .ok (.iadd, 1) := by decide +kernel
theorem dX2_clash_86 : decode cX2_clash 86 = .ok (.invokevirtual 70, 3) := by decide +kernel
theorem dX2_clash_89 : decode cX2_clash 89 = .ok (.ireturn, 1) := by decide +kernel
theorem dX2_clash_90 : decode cX2_clash 90 = .ok (.aload_n 0, 1) := by decide +kernel
theorem dX2_clash_91 : decode cX2_clash 91 = .ok (.iload_n 2, 1) := by decide +kernel
theorem dX2_clash_92 : decode cX2_clash 92 = .ok (.invokevirtual 58, 3) := by decide +kernel
theorem dX2_clash_95 : decode cX2_clash 95 = .ok (.ifCond .eq 31, 3) := by decide +kernel
theorem dX2_clash_98 : decode cX2_clash 98 = .ok (.aload_n 0, 1) := by decide +kernel
theorem dX2_clash_99 : decode cX2_clash 99 = .ok (.iload_n 2, 1) := by decide +kernel
theorem dX2_clash_100 : decode cX2_clash 100 = .ok (.aload_n 0, 1) := by decide +kernel
theorem dX2_clash_101 : decode cX2_clash 101 = .ok (.getfield 9, 3) := by decide +kernel
theorem dX2_clash_104 : decode cX2_clash 104 = .ok (.iload_n 1, 1) := by decide +kernel
theorem dX2_clash_105 : decode cX2_clash 105 = .ok (.iaload, 1) := by decide +kernel
theorem dX2_clash_106 : decode cX2_clash 106 = .ok (.aload_n 0, 1) := by decide +kernel
theorem dX2_clash_107 : decode cX2_clash 107 = .ok (.getfield 9, 3) := by decide +kernel
theorem dX2_clash_110 : decode cX2_clash 110 = .ok (.iload_n 2, 1) := by decide +kernel
theorem dX2_clash_111 : decode cX2_clash 111 = .ok (.iaload, 1) := by decide +kernel
theorem dX2_clash_112 : decode cX2_clash 112 = .ok (.if_icmp .ne 7, 3) := by decide +kernel
theorem dX2_clash_115 : decode cX2_clash 115 = .ok (.iload_n 1, 1) := by decide +kernel
theorem dX2_clash_116 : decode cX2_clash 116 = .ok (.goto 6, 3) := by decide +kernel
theorem dX2_clash_119 : decode cX2_clash 119 = .ok (.iload_n 1, 1) := by decide +kernel
theorem dX2_clash_120 : decode cX2_clash 120 = .ok (.iconst 1, 1) := by decide +kernel
theorem dX2_clash_121 : decode cX2_clash 121 = .ok (.iadd, 1) := by decide +kernel
theorem dX2_clash_122 : decode cX2_clash 122 = .ok (.invokevirtual 70, 3) := by decide +kernel
theorem dX2_clash_125 : decode cX2_clash 125 = .ok (.ireturn, 1) := by decide +kernel
theorem dX2_clash_126 : decode cX2_clash 126 = .ok (.aload_n 0, 1) := by decide +kernel
theorem dX2_clash_127 : decode cX2_clash 127 = .ok (.getfield 9, 3) := by decide +kernel
theorem dX2_clash_130 : decode cX2_clash 130 = .ok (.iload_n 1, 1) := by decide +kernel
theorem dX2_clash_131 : decode cX2_clash 131 = .ok (.iaload, 1) := by decide +kernel
theorem dX2_clash_132 : decode cX2_clash 132 = .ok (.aload_n 0, 1) := by decide +kernel
theorem dX2_clash_133 : decode cX2_clash 133 = .ok (.getfield 9, 3) := by decide +kernel
theorem dX2_clash_136 : decode cX2_clash 136 = .ok (.iload_n 2, 1) := by decide +kernel
theorem dX2_clash_137 : decode cX2_clash 137 = .ok (.iaload, 1) := by decide +kernel
theorem dX2_clash_138 : decode cX2_clash 138 = .ok (.if_icmp .ne 7, 3) := by decide +kernel
theorem dX2_clash_141 : decode cX2_clash 141 = .ok (.iconst 1, 1) := by decide +kernel
theorem dX2_clash_142 : decode cX2_clash 142 = .ok (.goto 4, 3) := by decide +kernel
theorem dX2_clash_145 : decode cX2_clash 145 = .ok (.iconst 0, 1) := by decide +kernel
theorem dX2_clash_146 : decode cX2_clash 146 = .ok (.istore_n 3, 1) := by decide +kernel
theorem dX2_clash_147 : decode cX2_clash 147 = .ok (.iload_n 3, 1) := by decide +kernel
theorem dX2_clash_148 : decode cX2_clash 148 = .ok (.ifCond .eq 7, 3) := by decide +kernel
theorem dX2_clash_151 : decode cX2_clash 151 = .ok (.iload_n 2, 1) := by decide +kernel
theorem dX2_clash_152 : decode cX2_clash 152 = .ok (.goto 6, 3) := by decide +kernel
theorem dX2_clash_155 : decode cX2_clash 155 = .ok (.iload_n 2, 1) := by decide +kernel
theorem dX2_clash_156 : decode cX2_clash 156 = .ok (.iconst 1, 1) := by decide +kernel
theorem dX2_clash_157 : decode cX2_clash 157 = .ok (.iadd, 1) := by decide +kernel
theorem dX2_clash_158 : decode cX2_clash 158 = .ok (.istore 4, 2) := by decide +kernel
theorem dX2_clash_160 : decode cX2_clash 160 = .ok (.iload_n 3, 1) := by decide +kernel
theorem dX2_clash_161 : decode cX2_clash 161 = .ok (.ifCond .eq 9, 3) := by decide +kernel
theorem dX2_clash_164 : decode cX2_clash 164 = .ok (.iload_n 2, 1) := by decide +kernel
theorem dX2_clash_165 : decode cX2_clash 165 = .ok (.iconst 1, 1) := by decide +kernel
theorem dX2_clash_166 : decode cX2_clash 166 = .ok (.iadd, 1) := by decide +kernel
theorem dX2_clash_167 : decode cX2_clash 167 = .ok (.goto 4, 3) := by decide +kernel
theorem dX2_clash_170 : decode cX2_clash 170 = .ok (.iload_n 2, 1) := by decide +kernel
theorem dX2_clash_171 : decode cX2_clash 171 = .ok (.istore 5, 2) := by decide +kernel
theorem dX2_clash_173 : decode cX2_clash 173 = .ok (.aload_n 0, 1) := by decide +kernel
theorem dX2_clash_174 : decode cX2_clash 174 = .ok (.getfield 15, 3) := by decide +kernel
theorem dX2_clash_177 : decode cX2_clash 177 = .ok (.iload_n 1, 1) := by decide +kernel
theorem dX2_clash_178 : decode cX2_clash 178 = .ok (.iaload, 1) := by decide +kernel
theorem dX2_clash_179 : decode cX2_clash 179 = .ok (.aload_n 0, 1) := by decide +kernel
theorem dX2_clash_180 : decode cX2_clash 180 = .ok (.getfield 15, 3) := by decide +kernel
theorem dX2_clash_183 : decode cX2_clash 183 = .ok (.iload 4, 2) := by decide +kernel
theorem dX2_clash_185 : decode cX2_clash 185 = .ok (.iaload, 1) := by decide +kernel
theorem dX2_clash_186 : decode cX2_clash 186 = .ok (.if_icmp .ge 7, 3) := by decide +kernel
theorem dX2_clash_189 : decode cX2_clash 189 = .ok (.iconst 1, 1) := by decide +kernel
theorem dX2_clash_190 : decode cX2_clash 190 = .ok (.goto 4, 3) := by decide +kernel
theorem dX2_clash_193 : decode cX2_clash 193 = .ok (.iconst 0, 1) := by decide +kernel
theorem dX2_clash_194 : decode cX2_clash 194 = .ok (.aload_n 0, 1) := by decide +kernel
theorem dX2_clash_195 : decode cX2_clash 195 = .ok (.getfield 15, 3) := by decide +kernel
theorem dX2_clash_198 : decode cX2_clash 198 = .ok (.iload_n 1, 1) := by decide +kernel
theorem dX2_clash_199 : decode cX2_clash 199 = .ok (.iconst 1, 1) := by decide +kernel
theorem dX2_clash_200 : decode cX2_clash 200 = .ok (.iadd, 1) := by decide +kernel
theorem dX2_clash_201 : decode cX2_clash 201 = .ok (.iaload, 1) := by decide +kernel
theorem dX2_clash_202 : decode cX2_clash 202 = .ok (.aload_n 0, 1) := by decide +kernel
theorem dX2_clash_203 : decode cX2_clash 203 = .ok (.getfield 15, 3) := by decide +kernel
theorem dX2_clash_206 : decode cX2_clash 206 = .ok (.iload 5, 2) := by decide +kernel
theorem dX2_clash_208 : decode cX2_clash 208 = .ok (.iaload, 1) := by decide +kernel
theorem dX2_clash_209 : decode cX2_clash 209 = .ok (.if_icmp .ge 7, 3) := by decide +kernel
theorem dX2_clash_212 : decode cX2_clash 212 = .ok (.iconst 1, 1) := by decide +kernel
theorem dX2_clash_213 : decode cX2_clash 213 = .ok (.goto 4, 3) := by decide +kernel
theorem dX2_clash_216 : decode cX2_clash 216 = .ok (.iconst 0, 1) := by decide +kernel
theorem dX2_clash_217 : decode cX2_clash 217 = .ok (.if_icmp .eq 7, 3) := by decide +kernel
theorem dX2_clash_220 : decode cX2_clash 220 = .ok (.iconst 1, 1) := by decide +kernel
theorem dX2_clash_221 : decode cX2_clash 221 = .ok (.goto 4, 3) := by decide +kernel
theorem dX2_clash_224 : decode cX2_clash 224 = .ok (.iconst 0, 1) := by decide +kernel
theorem dX2_clash_225 : decode cX2_clash 225 = .ok (.ireturn, 1) := by decide +kernel
theorem dX2_isBetween_0 : decode cX2_isBetween 0 = .ok (.aload_n 0, 1) := by decide +kernel
theorem dX2_isBetween_1 : decode cX2_isBetween 1 = .ok (.getfield 15, 3) := by decide +kernel
theorem dX2_isBetween_4 : decode cX2_isBetween 4 = .ok (.iload_n 1, 1) := by decide +kernel
theorem dX2_isBetween_5 : decode cX2_isBetween 5 = .ok (.iaload, 1) := by decide +kernel
theorem dX2_isBetween_6 : decode cX2_isBetween 6 = .ok (.aload_n 0, 1) := by decide +kernel
theorem dX2_isBetween_7 : decode cX2_isBetween 7 = .ok (.getfield 15, 3) := by decide +kernel
theorem dX2_isBetween_10 : decode cX2_isBetween 10 = .ok (.iload_n 2, 1) := by decide +kernel
theorem dX2_isBetween_11 : decode cX2_isBetween 11 = .ok (.iaload, 1) := by decide +kernel
theorem dX2_isBetween_12 : decode cX2_isBetween 12 = .ok (.if_icmp .ge 7, 3) := by decide +kernel
theorem dX2_isBetween_15 : decode cX2_isBetween 15 = .ok (.iconst 1, 1) := by decide +kernel
theorem dX2_isBetween_16 : decode cX2_isBetween 16 = .ok (.goto 4, 3) := by decide +kernel
theorem dX2_isBetween_19 : decode cX2_isBetween 19 = .ok (.iconst 0, 1) := by decide +kernel
theorem dX2_isBetween_20 : decode cX2_isBetween 20 = .ok (.aload_n 0, 1) := by decide +kernel
theorem dX2_isBetween_21 : decode cX2_isBetween 21 = .ok (.getfield 15, 3) := by decide +kernel
theorem dX2_isBetween_24 : decode cX2_isBetween 24 = .ok (.iload_n 1, 1) := by decide +kernel
theorem dX2_isBetween_25 : decode cX2_isBetween 25 = .ok (.iconst 1, 1) := by decide +kernel
theorem dX2_isBetween_26 : decode cX2_isBetween 26 = .ok (.iadd, 1) := by decide +kernel
theorem dX2_isBetween_27 : decode cX2_isBetween 27 = .ok (.iaload, 1) := by decide +kernel
theorem dX2_isBetween_28 : decode cX2_isBetween 28 = .ok (.aload_n 0, 1) := by decide +kernel
theorem dX2_isBetween_29 : decode cX2_isBetween 29 = .ok (.getfield 15, 3) := by decide +kernel
theorem dX2_isBetween_32 : decode cX2_isBetween 32 = .ok (.iload_n 2, 1) := by decide +kernel
theorem dX2_isBetween_33 : decode cX2_isBetween 33 = .ok (.iaload, 1) := by decide +kernel
theorem dX2_isBetween_34 : decode cX2_isBetween 34 = .ok (.if_icmp .ge 7, 3) := by decide +kernel
theorem dX2_isBetween_37 : decode cX2_isBetween 37 = .ok (.iconst 1, 1) := by decide +kernel
theorem dX2_isBetween_38 : decode cX2_isBetween 38 = .ok (.goto 4, 3) := by decide +kernel
theorem dX2_isBetween_41 : decode cX2_isBetween 41 = .ok (.iconst 0, 1) := by decide +kernel
theorem dX2_isBetween_42 : decode cX2_isBetween 42 = .ok (.if_icmp .eq 7, 3) := by decide +kernel
theorem dX2_isBetween_45 : decode cX2_isBetween 45 = .ok (.iconst 1, 1) := by decide +kernel
theorem dX2_isBetween_46 : decode cX2_isBetween 46 = .ok (.goto 4, 3) := by decide +kernel
theorem dX2_isBetween_49 : decode cX2_isBetween 49 = .ok (.iconst 0, 1) := by decide +kernel
theorem dX2_isBetween_50 : decode cX2_isBetween 50 = .ok (.ireturn, 1) := by decide +kernel
theorem dX2_heightOf_0 : decode cX2_heightOf 0 = .ok (.iload_n 1, 1) := by decide +kernel
theorem dX2_heightOf_1 : decode cX2_heightOf 1 = .ok (.ifCond .lt 11, 3) := by decide +kernel
theorem dX2_heightOf_4 : decode cX2_heightOf 4 = .ok (.iload_n 1, 1) := by decide +kernel
theorem dX2_heightOf_5 : decode cX2_heightOf 5 = .ok (.aload_n 0, 1) := by decide +kernel
theorem dX2_heightOf_6 : decode cX2_heightOf 6 = .ok (.getfield 40, 3) := by decide +kernel
theorem dX2_heightOf_9 : decode cX2_heightOf 9 = .ok (.if_icmp .lt 7, 3) := by decide +kernel
theorem dX2_heightOf_12 : decode cX2_heightOf 12 = .ok (.iconst (-1), 1) := by decide +kernel
theorem dX2_heightOf_13 : decode cX2_heightOf 13 = .ok (.goto 9, 3) := by decide +kernel
theorem dX2_heightOf_16 : decode cX2_heightOf 16 = .ok (.aload_n 0, 1) := by decide +kernel
theorem dX2_heightOf_17 : decode cX2_heightOf 17 = .ok (.getfield 22, 3) := by decide +kernel
theorem dX2_heightOf_20 : decode cX2_heightOf 20 = .ok (.iload_n 1, 1) := by decide +kernel
theorem dX2_heightOf_21 : decode cX2_heightOf 21 = .ok (.iaload, 1) := by decide +kernel
theorem dX2_heightOf_22 : decode cX2_heightOf 22 = .ok (.ireturn, 1) := by decide +kernel
theorem dX2_partAt_0 : decode cX2_partAt 0 = .ok (.iload_n 2, 1) := by decide +kernel
theorem dX2_partAt_1 : decode cX2_partAt 1 = .ok (.ifCond .lt 12, 3) := by decide +kernel
theorem dX2_partAt_4 : decode cX2_partAt 4 = .ok (.iload_n 2, 1) := by decide +kernel
theorem dX2_partAt_5 : decode cX2_partAt 5 = .ok (.aload_n 0, 1) := by decide +kernel
theorem dX2_partAt_6 : decode cX2_partAt 6 = .ok (.iload_n 1, 1) := by decide +kernel
theorem dX2_partAt_7 : decode cX2_partAt 7 = .ok (.invokevirtual 73, 3) := by decide +kernel
theorem dX2_partAt_10 : decode cX2_partAt 10 = .ok (.if_icmp .lt 7, 3) := by decide +kernel
theorem dX2_partAt_13 : decode cX2_partAt 13 = .ok (.iconst (-1), 1) := by decide +kernel
theorem dX2_partAt_14 : decode cX2_partAt 14 = .ok (.goto 14, 3) := by decide +kernel
theorem dX2_partAt_17 : decode cX2_partAt 17 = .ok (.aload_n 0, 1) := by decide +kernel
theorem dX2_partAt_18 : decode cX2_partAt 18 = .ok (.getfield 25, 3) := by decide +kernel
theorem dX2_partAt_21 : decode cX2_partAt 21 = .ok (.bipush 8, 2) := by decide +kernel
theorem dX2_partAt_23 : decode cX2_partAt 23 = .ok (.iload_n 1, 1) := by decide +kernel
theorem dX2_partAt_24 : decode cX2_partAt 24 = .ok (.imul, 1) := by decide +kernel
theorem dX2_partAt_25 : decode cX2_partAt 25 = .ok (.iload_n 2, 1) := by decide +kernel
theorem dX2_partAt_26 : decode cX2_partAt 26 = .ok (.iadd, 1) := by decide +kernel
theorem dX2_partAt_27 : decode cX2_partAt 27 = .ok (.iaload, 1) := by decide +kernel
theorem dX2_partAt_28 : decode cX2_partAt 28 = .ok (.ireturn, 1) := by decide +kernel
theorem dX2_mostLayers_0 : decode cX2_mostLayers 0 = .ok (.iconst 0, 1) := by decide +kernel
theorem dX2_mostLayers_1 : decode cX2_mostLayers 1 = .ok (.istore_n 1, 1) := by decide +kernel
theorem dX2_mostLayers_2 : decode cX2_mostLayers 2 = .ok (.iconst 0, 1) := by decide +kernel
theorem dX2_mostLayers_3 : decode cX2_mostLayers 3 = .ok (.istore_n 2, 1) := by decide +kernel
theorem dX2_mostLayers_4 : decode cX2_mostLayers 4 = .ok (.iload_n 2, 1) := by decide +kernel
theorem dX2_mostLayers_5 : decode cX2_mostLayers 5 = .ok (.aload_n 0, 1) := by decide +kernel
theorem dX2_mostLayers_6 : decode cX2_mostLayers 6 = .ok (.getfield 40, 3) := by decide +kernel
theorem dX2_mostLayers_9 : decode cX2_mostLayers 9 = .ok (.if_icmp .ge 20, 3) := by decide +kernel
theorem dX2_mostLayers_12 : decode cX2_mostLayers 12 = .ok (.iload_n 1, 1) := by decide +kernel
theorem dX2_mostLayers_13 : decode cX2_mostLayers 13 = .ok (.aload_n 0, 1) := by decide +kernel
theorem dX2_mostLayers_14 : decode cX2_mostLayers 14 = .ok (.getfield 22, 3) := by decide +kernel
theorem dX2_mostLayers_17 : decode cX2_mostLayers 17 = .ok (.iload_n 2, 1) := by decide +kernel
theorem dX2_mostLayers_18 : decode cX2_mostLayers 18 = .ok (.iaload, 1) := by decide +kernel
theorem dX2_mostLayers_19 : decode cX2_mostLayers 19 = .ok (.invokestatic 49, 3) := by decide +kernel
theorem dX2_mostLayers_22 : decode cX2_mostLayers 22 = .ok (.istore_n 1, 1) := by decide +kernel
theorem dX2_mostLayers_23 : decode cX2_mostLayers 23 = .ok (.iinc 2 1, 3) := by decide +kernel
theorem dX2_mostLayers_26 : decode cX2_mostLayers 26 = .ok (.goto (-22), 3) := by decide +kernel
theorem dX2_mostLayers_29 : decode cX2_mostLayers 29 = .ok (.iload_n 1, 1) := by decide +kernel
theorem dX2_mostLayers_30 : decode cX2_mostLayers 30 = .ok (.ireturn, 1) := by decide +kernel
theorem dX2_highest_0 : decode cX2_highest 0 = .ok (.iconst 0, 1) := by decide +kernel
theorem dX2_highest_1 : decode cX2_highest 1 = .ok (.istore_n 3, 1) := by decide +kernel
theorem dX2_highest_2 : decode cX2_highest 2 = .ok (.iconst 1, 1) := by decide +kernel
theorem dX2_highest_3 : decode cX2_highest 3 = .ok (.istore 4, 2) := by decide +kernel
theorem dX2_highest_5 : decode cX2_highest 5 = .ok (.iload 4, 2) := by decide +kernel
theorem dX2_highest_7 : decode cX2_highest 7 = .ok (.iload_n 2, 1) := by decide +kernel
theorem dX2_highest_8 : decode cX2_highest 8 = .ok (.if_icmp .gt 37, 3) := by decide +kernel
theorem dX2_highest_11 : decode cX2_highest 11 = .ok (.aload_n 0, 1) := by decide +kernel
theorem dX2_highest_12 : decode cX2_highest 12 = .ok (.iload_n 1, 1) := by decide +kernel
theorem dX2_highest_13 : decode cX2_highest 13 = .ok (.aload_n 0, 1) := by decide +kernel
theorem dX2_highest_14 : decode cX2_highest 14 = .ok (.iload_n 1, 1) := by decide +kernel
theorem dX2_highest_15 : decode cX2_highest 15 = .ok (.invokevirtual 73, 3) := by decide +kernel
theorem dX2_highest_18 : decode cX2_highest 18 = .ok (.iload 4, 2) := by decide +kernel
theorem dX2_highest_20 : decode cX2_highest 20 = .ok (.isub, 1) := by decide +kernel
theorem dX2_highest_21 : decode cX2_highest 21 = .ok (.invokevirtual 76, 3) := by decide +kernel
theorem dX2_highest_24 : decode cX2_highest 24 = .ok (.istore 5, 2) := by decide +kernel
theorem dX2_highest_26 : decode cX2_highest 26 = .ok (.iload 5, 2) := by decide +kernel
theorem dX2_highest_28 : decode cX2_highest 28 = .ok (.iconst (-1), 1) := by decide +kernel
theorem dX2_highest_29 : decode cX2_highest 29 = .ok (.if_icmp .eq 10, 3) := by decide +kernel
theorem dX2_highest_32 : decode cX2_highest 32 = .ok (.iload_n 3, 1) := by decide +kernel
theorem dX2_highest_33 : decode cX2_highest 33 = .ok (.iconst 1, 1) := by decide +kernel
theorem dX2_highest_34 : decode cX2_highest 34 = .ok (.iload 5, 2) := by decide +kernel
theorem dX2_highest_36 : decode cX2_highest 36 = .ok (.ishl, 1) := by decide +kernel
theorem dX2_highest_37 : decode cX2_highest 37 = .ok (.ior, 1) := by decide +kernel
theorem dX2_highest_38 : decode cX2_highest 38 = .ok (.istore_n 3, 1) := by decide +kernel
theorem dX2_highest_39 : decode cX2_highest 39 = .ok (.iinc 4 1, 3) := by decide +kernel
theorem dX2_highest_42 : decode cX2_highest 42 = .ok (.goto (-37), 3) := by decide +kernel
theorem dX2_highest_45 : decode cX2_highest 45 = .ok (.iload_n 3, 1) := by decide +kernel
theorem dX2_highest_46 : decode cX2_highest 46 = .ok (.ireturn, 1) := by decide +kernel
theorem dX2_outerFaces_0 : decode cX2_outerFaces 0 = .ok (.iconst 0, 1) := by decide +kernel
theorem dX2_outerFaces_1 : decode cX2_outerFaces 1 = .ok (.istore_n 1, 1) := by decide +kernel
theorem dX2_outerFaces_2 : decode cX2_outerFaces 2 = .ok (.iconst 0, 1) := by decide +kernel
theorem dX2_outerFaces_3 : decode cX2_outerFaces 3 = .ok (.istore_n 2, 1) := by decide +kernel
theorem dX2_outerFaces_4 : decode cX2_outerFaces 4 = .ok (.iload_n 2, 1) := by decide +kernel
theorem dX2_outerFaces_5 : decode cX2_outerFaces 5 = .ok (.aload_n 0, 1) := by decide +kernel
theorem dX2_outerFaces_6 : decode cX2_outerFaces 6 = .ok (.getfield 40, 3) := by decide +kernel
theorem dX2_outerFaces_9 : decode cX2_outerFaces 9 = .ok (.if_icmp .ge 95, 3) := by decide +kernel
theorem dX2_outerFaces_12 : decode cX2_outerFaces 12 = .ok (.aload_n 0, 1) := by decide +kernel
theorem dX2_outerFaces_13 : decode cX2_outerFaces 13 = .ok (.iload_n 2, 1) := by decide +kernel
theorem dX2_outerFaces_14 : decode cX2_outerFaces 14 = .ok (.aload_n 0, 1) := by decide +kernel
theorem dX2_outerFaces_15 : decode cX2_outerFaces 15 = .ok (.getfield 22, 3) := by decide +kernel
theorem dX2_outerFaces_18 : decode cX2_outerFaces 18 = .ok (.iload_n 2, 1) := by decide +kernel
theorem dX2_outerFaces_19 : decode cX2_outerFaces 19 = .ok (.iaload, 1) := by decide +kernel
theorem dX2_outerFaces_20 : decode cX2_outerFaces 20 = .ok (.iconst 1, 1) := by decide +kernel
theorem dX2_outerFaces_21 : decode cX2_outerFaces 21 = .ok (.isub, 1) := by decide +kernel
theorem dX2_outerFaces_22 : decode cX2_outerFaces 22 = .ok (.invokevirtual 76, 3) := by decide +kernel
theorem dX2_outerFaces_25 : decode cX2_outerFaces 25 = .ok (.istore_n 3, 1) := by decide +kernel
theorem dX2_outerFaces_26 : decode cX2_outerFaces 26 = .ok (.aload_n 0, 1) := by decide +kernel
theorem dX2_outerFaces_27 : decode cX2_outerFaces 27 = .ok (.iload_n 2, 1) := by decide +kernel
theorem dX2_outerFaces_28 : decode cX2_outerFaces 28 = .ok (.iconst 0, 1) := by decide +kernel
theorem dX2_outerFaces_29 : decode cX2_outerFaces 29 = .ok (.invokevirtual 76, 3) := by decide +kernel
theorem dX2_outerFaces_32 : decode cX2_outerFaces 32 = .ok (.istore 4, 2) := by decide +kernel
theorem dX2_outerFaces_34 : decode cX2_outerFaces 34 = .ok (.iload_n 3, 1) := by decide +kernel
theorem dX2_outerFaces_35 : decode cX2_outerFaces 35 = .ok (.iconst (-1), 1) := by decide +kernel
theorem dX2_outerFaces_36 : decode cX2_outerFaces 36 = .ok (.if_icmp .eq 62, 3) := by decide +kernel
theorem dX2_outerFaces_39 : decode cX2_outerFaces 39 = .ok (.iload 4, 2) := by decide +kernel
theorem dX2_outerFaces_41 : decode cX2_outerFaces 41 = .ok (.iconst (-1), 1) := by decide +kernel
theorem dX2_outerFaces_42 : decode cX2_outerFaces 42 = .ok (.if_icmp .eq 56, 3) := by decide +kernel
theorem dX2_outerFaces_45 : decode cX2_outerFaces 45 = .ok (.iload_n 1, 1) := by decide +kernel
theorem dX2_outerFaces_46 : decode cX2_outerFaces 46 = .ok (.iconst 1, 1) := by decide +kernel
theorem dX2_outerFaces_47 : decode cX2_outerFaces 47 = .ok (.aload_n 0, 1) := by decide +kernel
theorem dX2_outerFaces_48 : decode cX2_outerFaces 48 = .ok (.getfield 18, 3) := by decide +kernel
theorem dX2_outerFaces_51 : decode cX2_outerFaces 51 = .ok (.iload_n 3, 1) := by decide +kernel
theorem dX2_outerFaces_52 : decode cX2_outerFaces 52 = .ok (.baload, 1) := by decide +kernel
theorem dX2_outerFaces_53 : decode cX2_outerFaces 53 = .ok (.ifCond .eq 9, 3) := by decide +kernel
theorem dX2_outerFaces_56 : decode cX2_outerFaces 56 = .ok (.iconst 2, 1) := by decide +kernel
theorem dX2_outerFaces_57 : decode cX2_outerFaces 57 = .ok (.iload_n 3, 1) := by decide +kernel
theorem dX2_outerFaces_58 : decode cX2_outerFaces 58 = .ok (.imul, 1) := by decide +kernel
theorem dX2_outerFaces_59 : decode cX2_outerFaces 59 = .ok (.goto 8, 3) := by decide +kernel
theorem dX2_outerFaces_62 : decode cX2_outerFaces 62 = .ok (.iconst 2, 1) := by decide +kernel
theorem dX2_outerFaces_63 : decode cX2_outerFaces 63 = .ok (.iload_n 3, 1) := by decide +kernel
theorem dX2_outerFaces_64 : decode cX2_outerFaces 64 = .ok (.imul, 1) := by decide +kernel
theorem dX2_outerFaces_65 : decode cX2_outerFaces 65 = .ok (.iconst 1, 1) := by decide +kernel
theorem dX2_outerFaces_66 : decode cX2_outerFaces 66 = .ok (.iadd, 1) := by decide +kernel
theorem dX2_outerFaces_67 : decode cX2_outerFaces 67 = .ok (.ishl, 1) := by decide +kernel
theorem dX2_outerFaces_68 : decode cX2_outerFaces 68 = .ok (.ior, 1) := by decide +kernel
theorem dX2_outerFaces_69 : decode cX2_outerFaces 69 = .ok (.istore_n 1, 1) := by decide +kernel
theorem dX2_outerFaces_70 : decode cX2_outerFaces 70 = .ok (.iload_n 1, 1) := by decide +kernel
theorem dX2_outerFaces_71 : decode cX2_outerFaces 71 = .ok (.iconst 1, 1) := by decide +kernel
theorem dX2_outerFaces_72 : decode cX2_outerFaces 72 = .ok (.aload_n 0, 1) := by decide +kernel
theorem dX2_outerFaces_73 : decode cX2_outerFaces 73 = .ok (.getfield 18, 3) := by decide +kernel
theorem dX2_outerFaces_76 : decode cX2_outerFaces 76 = .ok (.iload 4, 2) := by decide +kernel
theorem dX2_outerFaces_78 : decode cX2_outerFaces 78 = .ok (.baload, 1) := by decide +kernel
theorem dX2_outerFaces_79 : decode cX2_outerFaces 79 = .ok (.ifCond .eq 12, 3) := by decide +kernel
theorem dX2_outerFaces_82 : decode cX2_outerFaces 82 = .ok (.iconst 2, 1) := by decide +kernel
theorem dX2_outerFaces_83 : decode cX2_outerFaces 83 = .ok (.iload 4, 2) := by decide +kernel
theorem dX2_outerFaces_85 : decode cX2_outerFaces 85 = .ok (.imul, 1) := by decide +kernel
theorem dX2_outerFaces_86 : decode cX2_outerFaces 86 = .ok (.iconst 1, 1) := by decide +kernel
theorem dX2_outerFaces_87 : decode cX2_outerFaces 87 = .ok (.iadd, 1) := by decide +kernel
theorem dX2_outerFaces_88 : decode cX2_outerFaces 88 = .ok (.goto 7, 3) := by decide +kernel
theorem dX2_outerFaces_91 : decode cX2_outerFaces 91 = .ok (.iconst 2, 1) := by decide +kernel
theorem dX2_outerFaces_92 : decode cX2_outerFaces 92 = .ok (.iload 4, 2) := by decide +kernel
theorem dX2_outerFaces_94 : decode cX2_outerFaces 94 = .ok (.imul, 1) := by decide +kernel
theorem dX2_outerFaces_95 : decode cX2_outerFaces 95 = .ok (.ishl, 1) := by decide +kernel
theorem dX2_outerFaces_96 : decode cX2_outerFaces 96 = .ok (.ior, 1) := by decide +kernel
theorem dX2_outerFaces_97 : decode cX2_outerFaces 97 = .ok (.istore_n 1, 1) := by decide +kernel
theorem dX2_outerFaces_98 : decode cX2_outerFaces 98 = .ok (.iinc 2 1, 3) := by decide +kernel
theorem dX2_outerFaces_101 : decode cX2_outerFaces 101 = .ok (.goto (-97), 3) := by decide +kernel
theorem dX2_outerFaces_104 : decode cX2_outerFaces 104 = .ok (.iload_n 1, 1) := by decide +kernel
theorem dX2_outerFaces_105 : decode cX2_outerFaces 105 = .ok (.ireturn, 1) := by decide +kernel
theorem dX2_canBeRead_0 : decode cX2_canBeRead 0 = .ok (.aload_n 0, 1) := by decide +kernel
theorem dX2_canBeRead_1 : decode cX2_canBeRead 1 = .ok (.getfield 18, 3) := by decide +kernel
theorem dX2_canBeRead_4 : decode cX2_canBeRead 4 = .ok (.iload_n 1, 1) := by decide +kernel
theorem dX2_canBeRead_5 : decode cX2_canBeRead 5 = .ok (.baload, 1) := by decide +kernel
theorem dX2_canBeRead_6 : decode cX2_canBeRead 6 = .ok (.ifCond .eq 33, 3) := by decide +kernel
theorem dX2_canBeRead_9 : decode cX2_canBeRead 9 = .ok (.aload_n 0, 1) := by decide +kernel
theorem dX2_canBeRead_10 : decode cX2_canBeRead 10 = .ok (.getfield 15, 3) := by decide +kernel
theorem dX2_canBeRead_13 : decode cX2_canBeRead 13 = .ok (.iload_n 1, 1) := by decide +kernel
theorem dX2_canBeRead_14 : decode cX2_canBeRead 14 = .ok (.iaload, 1) := by decide +kernel
theorem dX2_canBeRead_15 : decode cX2_canBeRead 15 = .ok (.aload_n 0, 1) := by decide +kernel
theorem dX2_canBeRead_16 : decode cX2_canBeRead 16 = .ok (.getfield 22, 3) := by decide +kernel
theorem dX2_canBeRead_19 : decode cX2_canBeRead 19 = .ok (.aload_n 0, 1) := by decide +kernel
theorem dX2_canBeRead_20 : decode cX2_canBeRead 20 = .ok (.getfield 9, 3) := by decide +kernel
theorem dX2_canBeRead_23 : decode cX2_canBeRead 23 = .ok (.iload_n 1, 1) := by decide +kernel
theorem dX2_canBeRead_24 : decode cX2_canBeRead 24 = .ok (.iaload, 1) := by decide +kernel
theorem dX2_canBeRead_25 : decode cX2_canBeRead 25 = .ok (.iaload, 1) := by decide +kernel
theorem dX2_canBeRead_26 : decode cX2_canBeRead 26 = .ok (.iconst 1, 1) := by decide +kernel
theorem dX2_canBeRead_27 : decode cX2_canBeRead 27 = .ok (.isub, 1) := by decide +kernel
theorem dX2_canBeRead_28 : decode cX2_canBeRead 28 = .ok (.if_icmp .ne 7, 3) := by decide +kernel
theorem dX2_canBeRead_31 : decode cX2_canBeRead 31 = .ok (.iconst 1, 1) := by decide +kernel
theorem dX2_canBeRead_32 : decode cX2_canBeRead 32 = .ok (.goto 21, 3) := by decide +kernel
theorem dX2_canBeRead_35 : decode cX2_canBeRead 35 = .ok (.iconst 0, 1) := by decide +kernel
theorem dX2_canBeRead_36 : decode cX2_canBeRead 36 = .ok (.goto 17, 3) := by decide +kernel
theorem dX2_canBeRead_39 : decode cX2_canBeRead 39 = .ok (.aload_n 0, 1) := by decide +kernel
theorem dX2_canBeRead_40 : decode cX2_canBeRead 40 = .ok (.getfield 15, 3) := by decide +kernel
theorem dX2_canBeRead_43 : decode cX2_canBeRead 43 = .ok (.iload_n 1, 1) := by decide +kernel
theorem dX2_canBeRead_44 : decode cX2_canBeRead 44 = .ok (.iaload, 1) := by decide +kernel
theorem dX2_canBeRead_45 : decode cX2_canBeRead 45 = .ok (.ifCond .ne 7, 3) := by decide +kernel
theorem dX2_canBeRead_48 : decode cX2_canBeRead 48 = .ok (.iconst 1, 1) := by decide +kernel
theorem dX2_canBeRead_49 : decode cX2_canBeRead 49 = .ok (.goto 4, 3) := by decide +kernel
theorem dX2_canBeRead_52 : decode cX2_canBeRead 52 = .ok (.iconst 0, 1) := by decide +kernel
theorem dX2_canBeRead_53 : decode cX2_canBeRead 53 = .ok (.ireturn, 1) := by decide +kernel
theorem dX2_facing_0 : decode cX2_facing 0 = .ok (.aload_n 0, 1) := by decide +kernel
theorem dX2_facing_1 : decode cX2_facing 1 = .ok (.aload_n 0, 1) := by decide +kernel
theorem dX2_facing_2 : decode cX2_facing 2 = .ok (.getfield 9, 3) := by decide +kernel
theorem dX2_facing_5 : decode cX2_facing 5 = .ok (.iload_n 1, 1) := by decide +kernel
theorem dX2_facing_6 : decode cX2_facing 6 = .ok (.iaload, 1) := by decide +kernel
theorem dX2_facing_7 : decode cX2_facing 7 = .ok (.aload_n 0, 1) := by decide +kernel
theorem dX2_facing_8 : decode cX2_facing 8 = .ok (.getfield 18, 3) := by decide +kernel
theorem dX2_facing_11 : decode cX2_facing 11 = .ok (.iload_n 1, 1) := by decide +kernel
theorem dX2_facing_12 : decode cX2_facing 12 = .ok (.baload, 1) := by decide +kernel
theorem dX2_facing_13 : decode cX2_facing 13 = .ok (.ifCond .eq 14, 3) := by decide +kernel
theorem dX2_facing_16 : decode cX2_facing 16 = .ok (.aload_n 0, 1) := by decide +kernel
theorem dX2_facing_17 : decode cX2_facing 17 = .ok (.getfield 15, 3) := by decide +kernel
theorem dX2_facing_20 : decode cX2_facing 20 = .ok (.iload_n 1, 1) := by decide +kernel
theorem dX2_facing_21 : decode cX2_facing 21 = .ok (.iaload, 1) := by decide +kernel
theorem dX2_facing_22 : decode cX2_facing 22 = .ok (.iconst 1, 1) := by decide +kernel
theorem dX2_facing_23 : decode cX2_facing 23 = .ok (.iadd, 1) := by decide +kernel
theorem dX2_facing_24 : decode cX2_facing 24 = .ok (.goto 11, 3) := by decide +kernel
theorem dX2_facing_27 : decode cX2_facing 27 = .ok (.aload_n 0, 1) := by decide +kernel
theorem dX2_facing_28 : decode cX2_facing 28 = .ok (.getfield 15, 3) := by decide +kernel
theorem dX2_facing_31 : decode cX2_facing 31 = .ok (.iload_n 1, 1) := by decide +kernel
theorem dX2_facing_32 : decode cX2_facing 32 = .ok (.iaload, 1) := by decide +kernel
theorem dX2_facing_33 : decode cX2_facing 33 = .ok (.iconst 1, 1) := by decide +kernel
theorem dX2_facing_34 : decode cX2_facing 34 = .ok (.isub, 1) := by decide +kernel
theorem dX2_facing_35 : decode cX2_facing 35 = .ok (.invokevirtual 76, 3) := by decide +kernel
theorem dX2_facing_38 : decode cX2_facing 38 = .ok (.ireturn, 1) := by decide +kernel
theorem dX2_gapes_0 : decode cX2_gapes 0 = .ok (.aload_n 0, 1) := by decide +kernel
theorem dX2_gapes_1 : decode cX2_gapes 1 = .ok (.getfield 9, 3) := by decide +kernel
theorem dX2_gapes_4 : decode cX2_gapes 4 = .ok (.iload_n 1, 1) := by decide +kernel
theorem dX2_gapes_5 : decode cX2_gapes 5 = .ok (.iaload, 1) := by decide +kernel
theorem dX2_gapes_6 : decode cX2_gapes 6 = .ok (.ifCond .ne 17, 3) := by decide +kernel
theorem dX2_gapes_9 : decode cX2_gapes 9 = .ok (.aload_n 0, 1) := by decide +kernel
theorem dX2_gapes_10 : decode cX2_gapes 10 = .ok (.iload_n 1, 1) := by decide +kernel
theorem dX2_gapes_11 : decode cX2_gapes 11 = .ok (.iload_n 2, 1) := by decide +kernel
theorem dX2_gapes_12 : decode cX2_gapes 12 = .ok (.iconst 0, 1) := by decide +kernel
theorem dX2_gapes_13 : decode cX2_gapes 13 = .ok (.invokevirtual 79, 3) := by decide +kernel
theorem dX2_gapes_16 : decode cX2_gapes 16 = .ok (.ifCond .ne 7, 3) := by decide +kernel
theorem dX2_gapes_19 : decode cX2_gapes 19 = .ok (.iconst 1, 1) := by decide +kernel
theorem dX2_gapes_20 : decode cX2_gapes 20 = .ok (.goto 4, 3) := by decide +kernel
theorem dX2_gapes_23 : decode cX2_gapes 23 = .ok (.iconst 0, 1) := by decide +kernel
theorem dX2_gapes_24 : decode cX2_gapes 24 = .ok (.istore_n 3, 1) := by decide +kernel
theorem dX2_gapes_25 : decode cX2_gapes 25 = .ok (.aload_n 0, 1) := by decide +kernel
theorem dX2_gapes_26 : decode cX2_gapes 26 = .ok (.getfield 9, 3) := by decide +kernel
theorem dX2_gapes_29 : decode cX2_gapes 29 = .ok (.iload_n 1, 1) := by decide +kernel
theorem dX2_gapes_30 : decode cX2_gapes 30 = .ok (.iaload, 1) := by decide +kernel
theorem dX2_gapes_31 : decode cX2_gapes 31 = .ok (.aload_n 0, 1) := by decide +kernel
theorem dX2_gapes_32 : decode cX2_gapes 32 = .ok (.getfield 40, 3) := by decide +kernel
theorem dX2_gapes_35 : decode cX2_gapes 35 = .ok (.iconst 1, 1) := by decide +kernel
theorem dX2_gapes_36 : decode cX2_gapes 36 = .ok (.isub, 1) := by decide +kernel
theorem dX2_gapes_37 : decode cX2_gapes 37 = .ok (.if_icmp .ne 20, 3) := by decide +kernel
theorem dX2_gapes_40 : decode cX2_gapes 40 = .ok (.aload_n 0, 1) := by decide +kernel
theorem dX2_gapes_41 : decode cX2_gapes 41 = .ok (.iload_n 1, 1) := by decide +kernel
theorem dX2_gapes_42 : decode cX2_gapes 42 = .ok (.iload_n 2, 1) := by decide +kernel
theorem dX2_gapes_43 : decode cX2_gapes 43 = .ok (.aload_n 0, 1) := by decide +kernel
theorem dX2_gapes_44 : decode cX2_gapes 44 = .ok (.getfield 40, 3) := by decide +kernel
theorem dX2_gapes_47 : decode cX2_gapes 47 = .ok (.invokevirtual 79, 3) := by decide +kernel
theorem dX2_gapes_50 : decode cX2_gapes 50 = .ok (.ifCond .ne 7, 3) := by decide +kernel
theorem dX2_gapes_53 : decode cX2_gapes 53 = .ok (.iconst 1, 1) := by decide +kernel
theorem dX2_gapes_54 : decode cX2_gapes 54 = .ok (.goto 4, 3) := by decide +kernel
theorem dX2_gapes_57 : decode cX2_gapes 57 = .ok (.iconst 0, 1) := by decide +kernel
theorem dX2_gapes_58 : decode cX2_gapes 58 = .ok (.istore 4, 2) := by decide +kernel
theorem dX2_gapes_60 : decode cX2_gapes 60 = .ok (.iload_n 3, 1) := by decide +kernel
theorem dX2_gapes_61 : decode cX2_gapes 61 = .ok (.ifCond .ne 8, 3) := by decide +kernel
theorem dX2_gapes_64 : decode cX2_gapes 64 = .ok (.iload 4, 2) := by decide +kernel
theorem dX2_gapes_66 : decode cX2_gapes 66 = .ok (.ifCond .eq 7, 3) := by decide +kernel
theorem dX2_gapes_69 : decode cX2_gapes 69 = .ok (.iconst 1, 1) := by decide +kernel
theorem dX2_gapes_70 : decode cX2_gapes 70 = .ok (.goto 4, 3) := by decide +kernel
theorem dX2_gapes_73 : decode cX2_gapes 73 = .ok (.iconst 0, 1) := by decide +kernel
theorem dX2_gapes_74 : decode cX2_gapes 74 = .ok (.ireturn, 1) := by decide +kernel
theorem dX2_isHeld_0 : decode cX2_isHeld 0 = .ok (.aload_n 0, 1) := by decide +kernel
theorem dX2_isHeld_1 : decode cX2_isHeld 1 = .ok (.getfield 15, 3) := by decide +kernel
theorem dX2_isHeld_4 : decode cX2_isHeld 4 = .ok (.iload_n 1, 1) := by decide +kernel
theorem dX2_isHeld_5 : decode cX2_isHeld 5 = .ok (.iaload, 1) := by decide +kernel
theorem dX2_isHeld_6 : decode cX2_isHeld 6 = .ok (.aload_n 0, 1) := by decide +kernel
theorem dX2_isHeld_7 : decode cX2_isHeld 7 = .ok (.getfield 15, 3) := by decide +kernel
theorem dX2_isHeld_10 : decode cX2_isHeld 10 = .ok (.iload_n 2, 1) := by decide +kernel
theorem dX2_isHeld_11 : decode cX2_isHeld 11 = .ok (.iaload, 1) := by decide +kernel
theorem dX2_isHeld_12 : decode cX2_isHeld 12 = .ok (.invokestatic 55, 3) := by decide +kernel
theorem dX2_isHeld_15 : decode cX2_isHeld 15 = .ok (.istore 4, 2) := by decide +kernel
theorem dX2_isHeld_17 : decode cX2_isHeld 17 = .ok (.aload_n 0, 1) := by decide +kernel
theorem dX2_isHeld_18 : decode cX2_isHeld 18 = .ok (.getfield 15, 3) := by decide +kernel
theorem dX2_isHeld_21 : decode cX2_isHeld 21 = .ok (.iload_n 1, 1) := by decide +kernel
theorem dX2_isHeld_22 : decode cX2_isHeld 22 = .ok (.iaload, 1) := by decide +kernel
theorem dX2_isHeld_23 : decode cX2_isHeld 23 = .ok (.aload_n 0, 1) := by decide +kernel
theorem dX2_isHeld_24 : decode cX2_isHeld 24 = .ok (.getfield 15, 3) := by decide +kernel
theorem dX2_isHeld_27 : decode cX2_isHeld 27 = .ok (.iload_n 2, 1) := by decide +kernel
theorem dX2_isHeld_28 : decode cX2_isHeld 28 = .ok (.iaload, 1) := by decide +kernel
theorem dX2_isHeld_29 : decode cX2_isHeld 29 = .ok (.invokestatic 49, 3) := by decide +kernel
theorem dX2_isHeld_32 : decode cX2_isHeld 32 = .ok (.istore 5, 2) := by decide +kernel
theorem dX2_isHeld_34 : decode cX2_isHeld 34 = .ok (.iconst 0, 1) := by decide +kernel
theorem dX2_isHeld_35 : decode cX2_isHeld 35 = .ok (.istore 6, 2) := by decide +kernel
theorem dX2_isHeld_37 : decode cX2_isHeld 37 = .ok (.iload 6, 2) := by decide +kernel
theorem dX2_isHeld_39 : decode cX2_isHeld 39 = .ok (.aload_n 0, 1) := by decide +kernel
theorem dX2_isHeld_40 : decode cX2_isHeld 40 = .ok (.getfield 32, 3) := by decide +kernel
theorem dX2_isHeld_43 : decode cX2_isHeld 43 = .ok (.iconst 1, 1) := by decide +kernel
theorem dX2_isHeld_44 : decode cX2_isHeld 44 = .ok (.isub, 1) := by decide +kernel
theorem dX2_isHeld_45 : decode cX2_isHeld 45 = .ok (.if_icmp .ge 78, 3) := by decide +kernel
theorem dX2_isHeld_48 : decode cX2_isHeld 48 = .ok (.aload_n 0, 1) := by decide +kernel
theorem dX2_isHeld_49 : decode cX2_isHeld 49 = .ok (.iload 6, 2) := by decide +kernel
theorem dX2_isHeld_51 : decode cX2_isHeld 51 = .ok (.invokevirtual 58, 3) := by decide +kernel
theorem dX2_isHeld_54 : decode cX2_isHeld 54 = .ok (.ifCond .eq 63, 3) := by decide +kernel
theorem dX2_isHeld_57 : decode cX2_isHeld 57 = .ok (.aload_n 0, 1) := by decide +kernel
theorem dX2_isHeld_58 : decode cX2_isHeld 58 = .ok (.iload 6, 2) := by decide +kernel
theorem dX2_isHeld_60 : decode cX2_isHeld 60 = .ok (.invokevirtual 62, 3) := by decide +kernel
theorem dX2_isHeld_63 : decode cX2_isHeld 63 = .ok (.iload_n 3, 1) := by decide +kernel
theorem dX2_isHeld_64 : decode cX2_isHeld 64 = .ok (.if_icmp .ne 53, 3) := by decide +kernel
theorem dX2_isHeld_67 : decode cX2_isHeld 67 = .ok (.aload_n 0, 1) := by decide +kernel
theorem dX2_isHeld_68 : decode cX2_isHeld 68 = .ok (.getfield 15, 3) := by decide +kernel
theorem dX2_isHeld_71 : decode cX2_isHeld 71 = .ok (.iload 6, 2) := by decide +kernel
theorem dX2_isHeld_73 : decode cX2_isHeld 73 = .ok (.iaload, 1) := by decide +kernel
theorem dX2_isHeld_74 : decode cX2_isHeld 74 = .ok (.aload_n 0, 1) := by decide +kernel
theorem dX2_isHeld_75 : decode cX2_isHeld 75 = .ok (.getfield 15, 3) := by decide +kernel
theorem dX2_isHeld_78 : decode cX2_isHeld 78 = .ok (.iload 6, 2) := by decide +kernel
theorem dX2_isHeld_80 : decode cX2_isHeld 80 = .ok (.iconst 1, 1) := by decide +kernel
theorem dX2_isHeld_81 : decode cX2_isHeld 81 = .ok (.iadd, 1) := by decide +kernel
theorem dX2_isHeld_82 : decode cX2_isHeld 82 = .ok (.iaload, 1) := by decide +kernel
theorem dX2_isHeld_83 : decode cX2_isHeld 83 = .ok (.invokestatic 55, 3) := by decide +kernel
theorem dX2_isHeld_86 : decode cX2_isHeld 86 = .ok (.iload 4, 2) := by decide +kernel
theorem dX2_isHeld_88 : decode cX2_isHeld 88 = .ok (.if_icmp .gt 29, 3) := by decide +kernel
theorem dX2_isHeld_91 : decode cX2_isHeld 91 = .ok (.aload_n 0, 1) := by decide +kernel
theorem dX2_isHeld_92 : decode cX2_isHeld 92 = .ok (.getfield 15, 3) := by decide +kernel
theorem dX2_isHeld_95 : decode cX2_isHeld 95 = .ok (.iload 6, 2) := by decide +kernel
theorem dX2_isHeld_97 : decode cX2_isHeld 97 = .ok (.iaload, 1) := by decide +kernel
theorem dX2_isHeld_98 : decode cX2_isHeld 98 = .ok (.aload_n 0, 1) := by decide +kernel
theorem dX2_isHeld_99 : decode cX2_isHeld 99 = .ok (.getfield 15, 3) := by decide +kernel
theorem dX2_isHeld_102 : decode cX2_isHeld 102 = .ok (.iload 6, 2) := by decide +kernel
theorem dX2_isHeld_104 : decode cX2_isHeld 104 = .ok (.iconst 1, 1) := by decide +kernel
theorem dX2_isHeld_105 : decode cX2_isHeld 105 = .ok (.iadd, 1) := by decide +kernel
theorem dX2_isHeld_106 : decode cX2_isHeld 106 = .ok (.iaload, 1) := by decide +kernel
theorem dX2_isHeld_107 : decode cX2_isHeld 107 = .ok (.invokestatic 49, 3) := by decide +kernel
theorem dX2_isHeld_110 : decode cX2_isHeld 110 = .ok (.iload 5, 2) := by decide +kernel
theorem dX2_isHeld_112 : decode cX2_isHeld 112 = .ok (.if_icmp .lt 5, 3) := by decide +kernel
theorem dX2_isHeld_115 : decode cX2_isHeld 115 = .ok (.iconst 1, 1) := by decide +kernel
theorem dX2_isHeld_116 : decode cX2_isHeld 116 = .ok (.ireturn, 1) := by decide +kernel
theorem dX2_isHeld_117 : decode cX2_isHeld 117 = .ok (.iinc 6 1, 3) := by decide +kernel
theorem dX2_isHeld_120 : decode cX2_isHeld 120 = .ok (.goto (-83), 3) := by decide +kernel
theorem dX2_isHeld_123 : decode cX2_isHeld 123 = .ok (.iconst 0, 1) := by decide +kernel
theorem dX2_isHeld_124 : decode cX2_isHeld 124 = .ok (.ireturn, 1) := by decide +kernel
theorem dX2_packed_0 : decode cX2_packed 0 = .ok (.aload_n 0, 1) := by decide +kernel
theorem dX2_packed_1 : decode cX2_packed 1 = .ok (.getfield 18, 3) := by decide +kernel
theorem dX2_packed_4 : decode cX2_packed 4 = .ok (.iconst 0, 1) := by decide +kernel
theorem dX2_packed_5 : decode cX2_packed 5 = .ok (.baload, 1) := by decide +kernel
theorem dX2_packed_6 : decode cX2_packed 6 = .ok (.ifCond .eq 7, 3) := by decide +kernel
theorem dX2_packed_9 : decode cX2_packed 9 = .ok (.lconst 1, 1) := by decide +kernel
theorem dX2_packed_10 : decode cX2_packed 10 = .ok (.goto 4, 3) := by decide +kernel
theorem dX2_packed_13 : decode cX2_packed 13 = .ok (.lconst 0, 1) := by decide +kernel
theorem dX2_packed_14 : decode cX2_packed 14 = .ok (.lstore_n 1, 1) := by decide +kernel
theorem dX2_packed_15 : decode cX2_packed 15 = .ok (.iconst 0, 1) := by decide +kernel
theorem dX2_packed_16 : decode cX2_packed 16 = .ok (.istore_n 3, 1) := by decide +kernel
theorem dX2_packed_17 : decode cX2_packed 17 = .ok (.iload_n 3, 1) := by decide +kernel
theorem dX2_packed_18 : decode cX2_packed 18 = .ok (.aload_n 0, 1) := by decide +kernel
theorem dX2_packed_19 : decode cX2_packed 19 = .ok (.getfield 32, 3) := by decide +kernel
theorem dX2_packed_22 : decode cX2_packed 22 = .ok (.if_icmp .ge 32, 3) := by decide +kernel
theorem dX2_packed_25 : decode cX2_packed 25 = .ok (.lload_n 1, 1) := by decide +kernel
theorem dX2_packed_26 : decode cX2_packed 26 = .ok (.bipush 6, 2) := by decide +kernel
theorem dX2_packed_28 : decode cX2_packed 28 = .ok (.lshl, 1) := by decide +kernel
theorem dX2_packed_29 : decode cX2_packed 29 = .ok (.aload_n 0, 1) := by decide +kernel
theorem dX2_packed_30 : decode cX2_packed 30 = .ok (.getfield 9, 3) := by decide +kernel
theorem dX2_packed_33 : decode cX2_packed 33 = .ok (.iload_n 3, 1) := by decide +kernel
theorem dX2_packed_34 : decode cX2_packed 34 = .ok (.iaload, 1) := by decide +kernel
theorem dX2_packed_35 : decode cX2_packed 35 = .ok (.iconst 3, 1) := by decide +kernel
theorem dX2_packed_36 : decode cX2_packed 36 = .ok (.ishl, 1) := by decide +kernel
theorem dX2_packed_37 : decode cX2_packed 37 = .ok (.i2l, 1) := by decide +kernel
theorem dX2_packed_38 : decode cX2_packed 38 = .ok (.lor, 1) := by decide +kernel
theorem dX2_packed_39 : decode cX2_packed 39 = .ok (.aload_n 0, 1) := by decide +kernel
theorem dX2_packed_40 : decode cX2_packed 40 = .ok (.getfield 15, 3) := by decide +kernel
theorem dX2_packed_43 : decode cX2_packed 43 = .ok (.iload_n 3, 1) := by decide +kernel
theorem dX2_packed_44 : decode cX2_packed 44 = .ok (.iaload, 1) := by decide +kernel
theorem dX2_packed_45 : decode cX2_packed 45 = .ok (.i2l, 1) := by decide +kernel
theorem dX2_packed_46 : decode cX2_packed 46 = .ok (.lor, 1) := by decide +kernel
theorem dX2_packed_47 : decode cX2_packed 47 = .ok (.lstore_n 1, 1) := by decide +kernel
theorem dX2_packed_48 : decode cX2_packed 48 = .ok (.iinc 3 1, 3) := by decide +kernel
theorem dX2_packed_51 : decode cX2_packed 51 = .ok (.goto (-34), 3) := by decide +kernel
theorem dX2_packed_54 : decode cX2_packed 54 = .ok (.lload_n 1, 1) := by decide +kernel
theorem dX2_packed_55 : decode cX2_packed 55 = .ok (.lreturn, 1) := by decide +kernel
theorem dX2_unpack_0 : decode cX2_unpack 0 = .ok (.aload_n 0, 1) := by decide +kernel
theorem dX2_unpack_1 : decode cX2_unpack 1 = .ok (.iload_n 3, 1) := by decide +kernel
theorem dX2_unpack_2 : decode cX2_unpack 2 = .ok (.iconst 0, 1) := by decide +kernel
theorem dX2_unpack_3 : decode cX2_unpack 3 = .ok (.invokevirtual 28, 3) := by decide +kernel
theorem dX2_unpack_6 : decode cX2_unpack 6 = .ok (.lload_n 1, 1) := by decide +kernel
theorem dX2_unpack_7 : decode cX2_unpack 7 = .ok (.bipush 6, 2) := by decide +kernel
theorem dX2_unpack_9 : decode cX2_unpack 9 = .ok (.iload_n 3, 1) := by decide +kernel
theorem dX2_unpack_10 : decode cX2_unpack 10 = .ok (.imul, 1) := by decide +kernel
theorem dX2_unpack_11 : decode cX2_unpack 11 = .ok (.lshr, 1) := by decide +kernel
theorem dX2_unpack_12 : decode cX2_unpack 12 = .ok (.lconst 1, 1) := by decide +kernel
theorem dX2_unpack_13 : decode cX2_unpack 13 = .ok (.land, 1) := by decide +kernel
theorem dX2_unpack_14 : decode cX2_unpack 14 = .ok (.lconst 1, 1) := by decide +kernel
theorem dX2_unpack_15 : decode cX2_unpack 15 = .ok (.lcmp, 1) := by decide +kernel
theorem dX2_unpack_16 : decode cX2_unpack 16 = .ok (.ifCond .ne 7, 3) := by decide +kernel
theorem dX2_unpack_19 : decode cX2_unpack 19 = .ok (.iconst 1, 1) := by decide +kernel
theorem dX2_unpack_20 : decode cX2_unpack 20 = .ok (.goto 4, 3) := by decide +kernel
theorem dX2_unpack_23 : decode cX2_unpack 23 = .ok (.iconst 0, 1) := by decide +kernel
theorem dX2_unpack_24 : decode cX2_unpack 24 = .ok (.istore 4, 2) := by decide +kernel
theorem dX2_unpack_26 : decode cX2_unpack 26 = .ok (.iconst (-1), 1) := by decide +kernel
theorem dX2_unpack_27 : decode cX2_unpack 27 = .ok (.istore 5, 2) := by decide +kernel
theorem dX2_unpack_29 : decode cX2_unpack 29 = .ok (.iconst 0, 1) := by decide +kernel
theorem dX2_unpack_30 : decode cX2_unpack 30 = .ok (.istore 6, 2) := by decide +kernel
theorem dX2_unpack_32 : decode cX2_unpack 32 = .ok (.iload 6, 2) := by decide +kernel
theorem dX2_unpack_34 : decode cX2_unpack 34 = .ok (.iload_n 3, 1) := by decide +kernel
theorem dX2_unpack_35 : decode cX2_unpack 35 = .ok (.if_icmp .ge 85, 3) := by decide +kernel
theorem dX2_unpack_38 : decode cX2_unpack 38 = .ok (.lload_n 1, 1) := by decide +kernel
theorem dX2_unpack_39 : decode cX2_unpack 39 = .ok (.bipush 6, 2) := by decide +kernel
theorem dX2_unpack_41 : decode cX2_unpack 41 = .ok (.iload_n 3, 1) := by decide +kernel
theorem dX2_unpack_42 : decode cX2_unpack 42 = .ok (.iconst 1, 1) := by decide +kernel
theorem dX2_unpack_43 : decode cX2_unpack 43 = .ok (.isub, 1) := by decide +kernel
theorem dX2_unpack_44 : decode cX2_unpack 44 = .ok (.iload 6, 2) := by decide +kernel
theorem dX2_unpack_46 : decode cX2_unpack 46 = .ok (.isub, 1) := by decide +kernel
theorem dX2_unpack_47 : decode cX2_unpack 47 = .ok (.imul, 1) := by decide +kernel
theorem dX2_unpack_48 : decode cX2_unpack 48 = .ok (.lshr, 1) := by decide +kernel
theorem dX2_unpack_49 : decode cX2_unpack 49 = .ok (.l2i, 1) := by decide +kernel
theorem dX2_unpack_50 : decode cX2_unpack 50 = .ok (.bipush 63, 2) := by decide +kernel
theorem dX2_unpack_52 : decode cX2_unpack 52 = .ok (.iand, 1) := by decide +kernel
theorem dX2_unpack_53 : decode cX2_unpack 53 = .ok (.istore 7, 2) := by decide +kernel
theorem dX2_unpack_55 : decode cX2_unpack 55 = .ok (.iload 7, 2) := by decide +kernel
theorem dX2_unpack_57 : decode cX2_unpack 57 = .ok (.iconst 3, 1) := by decide +kernel
theorem dX2_unpack_58 : decode cX2_unpack 58 = .ok (.ishr, 1) := by decide +kernel
theorem dX2_unpack_59 : decode cX2_unpack 59 = .ok (.istore 8, 2) := by decide +kernel
theorem dX2_unpack_61 : decode cX2_unpack 61 = .ok (.iload 8, 2) := by decide +kernel
theorem dX2_unpack_63 : decode cX2_unpack 63 = .ok (.iload 5, 2) := by decide +kernel
theorem dX2_unpack_65 : decode cX2_unpack 65 = .ok (.if_icmp .ne 15, 3) := by decide +kernel
theorem dX2_unpack_68 : decode cX2_unpack 68 = .ok (.iload 4, 2) := by decide +kernel
theorem dX2_unpack_70 : decode cX2_unpack 70 = .ok (.ifCond .ne 7, 3) := by decide +kernel
theorem dX2_unpack_73 : decode cX2_unpack 73 = .ok (.iconst 1, 1) := by decide +kernel
theorem dX2_unpack_74 : decode cX2_unpack 74 = .ok (.goto 4, 3) := by decide +kernel
theorem dX2_unpack_77 : decode cX2_unpack 77 = .ok (.iconst 0, 1) := by decide +kernel
theorem dX2_unpack_78 : decode cX2_unpack 78 = .ok (.istore 4, 2) := by decide +kernel
theorem dX2_unpack_80 : decode cX2_unpack 80 = .ok (.iload 8, 2) := by decide +kernel
theorem dX2_unpack_82 : decode cX2_unpack 82 = .ok (.istore 5, 2) := by decide +kernel
theorem dX2_unpack_84 : decode cX2_unpack 84 = .ok (.aload_n 0, 1) := by decide +kernel
theorem dX2_unpack_85 : decode cX2_unpack 85 = .ok (.aload_n 0, 1) := by decide +kernel
theorem dX2_unpack_86 : decode cX2_unpack 86 = .ok (.getfield 40, 3) := by decide +kernel
theorem dX2_unpack_89 : decode cX2_unpack 89 = .ok (.iload 8, 2) := by decide +kernel
theorem dX2_unpack_91 : decode cX2_unpack 91 = .ok (.iconst 1, 1) := by decide +kernel
theorem dX2_unpack_92 : decode cX2_unpack 92 = .ok (.iadd, 1) := by decide +kernel
theorem dX2_unpack_93 : decode cX2_unpack 93 = .ok (.invokestatic 49, 3) := by decide +kernel
theorem dX2_unpack_96 : decode cX2_unpack 96 = .ok (.putfield 40, 3) := by decide +kernel
theorem dX2_unpack_99 : decode cX2_unpack 99 = .ok (.aload_n 0, 1) := by decide +kernel
theorem dX2_unpack_100 : decode cX2_unpack 100 = .ok (.iload 6, 2) := by decide +kernel
theorem dX2_unpack_102 : decode cX2_unpack 102 = .ok (.iload 8, 2) := by decide +kernel
theorem dX2_unpack_104 : decode cX2_unpack 104 = .ok (.iload 7, 2) := by decide +kernel
theorem dX2_unpack_106 : decode cX2_unpack 106 = .ok (.bipush 7, 2) := by decide +kernel
theorem dX2_unpack_108 : decode cX2_unpack 108 = .ok (.iand, 1) := by decide +kernel
theorem dX2_unpack_109 : decode cX2_unpack 109 = .ok (.iload 4, 2) := by decide +kernel
theorem dX2_unpack_111 : decode cX2_unpack 111 = .ok (.invokevirtual 36, 3) := by decide +kernel
theorem dX2_unpack_114 : decode cX2_unpack 114 = .ok (.iinc 6 1, 3) := by decide +kernel
theorem dX2_unpack_117 : decode cX2_unpack 117 = .ok (.goto (-85), 3) := by decide +kernel
theorem dX2_unpack_120 : decode cX2_unpack 120 = .ok (.return_, 1) := by decide +kernel
theorem dX3_init_0 : decode cX3_init 0 = .ok (.aload_n 0, 1) := by decide +kernel
theorem dX3_init_1 : decode cX3_init 1 = .ok (.invokespecial 3, 3) := by decide +kernel
theorem dX3_init_4 : decode cX3_init 4 = .ok (.aload_n 0, 1) := by decide +kernel
theorem dX3_init_5 : decode cX3_init 5 = .ok (.bipush 16, 2) := by decide +kernel
theorem dX3_init_7 : decode cX3_init 7 = .ok (.newarray .int, 2) := by decide +kernel
theorem dX3_init_9 : decode cX3_init 9 = .ok (.putfield 11, 3) := by decide +kernel
theorem dX3_init_12 : decode cX3_init 12 = .ok (.aload_n 0, 1) := by decide +kernel
theorem dX3_init_13 : decode cX3_init 13 = .ok (.bipush 16, 2) := by decide +kernel
theorem dX3_init_15 : decode cX3_init 15 = .ok (.newarray .int, 2) := by decide +kernel
theorem dX3_init_17 : decode cX3_init 17 = .ok (.putfield 17, 3) := by decide +kernel
theorem dX3_init_20 : decode cX3_init 20 = .ok (.aload_n 0, 1) := by decide +kernel
theorem dX3_init_21 : decode cX3_init 21 = .ok (.bipush 16, 2) := by decide +kernel
theorem dX3_init_23 : decode cX3_init 23 = .ok (.newarray .int, 2) := by decide +kernel
theorem dX3_init_25 : decode cX3_init 25 = .ok (.putfield 20, 3) := by decide +kernel
theorem dX3_init_28 : decode cX3_init 28 = .ok (.aload_n 0, 1) := by decide +kernel
theorem dX3_init_29 : decode cX3_init 29 = .ok (.bipush 16, 2) := by decide +kernel
theorem dX3_init_31 : decode cX3_init 31 = .ok (.newarray .int, 2) := by decide +kernel
theorem dX3_init_33 : decode cX3_init 33 = .ok (.putfield 23, 3) := by decide +kernel
theorem dX3_init_36 : decode cX3_init 36 = .ok (.aload_n 0, 1) := by decide +kernel
theorem dX3_init_37 : decode cX3_init 37 = .ok (.sipush 400, 3) := by decide +kernel
theorem dX3_init_40 : decode cX3_init 40 = .ok (.newarray .int, 2) := by decide +kernel
theorem dX3_init_42 : decode cX3_init 42 = .ok (.putfield 26, 3) := by decide +kernel
theorem dX3_init_45 : decode cX3_init 45 = .ok (.aload_n 0, 1) := by decide +kernel
theorem dX3_init_46 : decode cX3_init 46 = .ok (.iconst 5, 1) := by decide +kernel
theorem dX3_init_47 : decode cX3_init 47 = .ok (.newarray .int, 2) := by decide +kernel
theorem dX3_init_49 : decode cX3_init 49 = .ok (.putfield 29, 3) := by decide +kernel
theorem dX3_init_52 : decode cX3_init 52 = .ok (.aload_n 0, 1) := by decide +kernel
theorem dX3_init_53 : decode cX3_init 53 = .ok (.bipush 32, 2) := by decide +kernel
theorem dX3_init_55 : decode cX3_init 55 = .ok (.newarray .int, 2) := by decide +kernel
theorem dX3_init_57 : decode cX3_init 57 = .ok (.putfield 32, 3) := by decide +kernel
theorem dX3_init_60 : decode cX3_init 60 = .ok (.return_, 1) := by decide +kernel
theorem dX3_clear_0 : decode cX3_clear 0 = .ok (.aload_n 0, 1) := by decide +kernel
theorem dX3_clear_1 : decode cX3_clear 1 = .ok (.iconst 0, 1) := by decide +kernel
theorem dX3_clear_2 : decode cX3_clear 2 = .ok (.putfield 35, 3) := by decide +kernel
theorem dX3_clear_5 : decode cX3_clear 5 = .ok (.aload_n 0, 1) := by decide +kernel
theorem dX3_clear_6 : decode cX3_clear 6 = .ok (.iconst 0, 1) := by decide +kernel
theorem dX3_clear_7 : decode cX3_clear 7 = .ok (.putfield 39, 3) := by decide +kernel
theorem dX3_clear_10 : decode cX3_clear 10 = .ok (.return_, 1) := by decide +kernel
theorem dX3_begin_0 : decode cX3_begin 0 = .ok (.aload_n 0, 1) := by decide +kernel
theorem dX3_begin_1 : decode cX3_begin 1 = .ok (.getfield 35, 3) := by decide +kernel
theorem dX3_begin_4 : decode cX3_begin 4 = .ok (.bipush 16, 2) := by decide +kernel
theorem dX3_begin_6 : decode cX3_begin 6 = .ok (.if_icmp .ge 26, 3) := by decide +kernel
theorem dX3_begin_9 : decode cX3_begin 9 = .ok (.aload_n 0, 1) := by decide +kernel
theorem dX3_begin_10 : decode cX3_begin 10 = .ok (.getfield 11, 3) := by decide +kernel
theorem dX3_begin_13 : decode cX3_begin 13 = .ok (.aload_n 0, 1) := by decide +kernel
theorem dX3_begin_14 : decode cX3_begin 14 = .ok (.getfield 35, 3) := by decide +kernel
theorem dX3_begin_17 : decode cX3_begin 17 = .ok (.iload_n 1, 1) := by decide +kernel
theorem dX3_begin_18 : decode cX3_begin 18 = .ok (.iastore, 1) := by decide +kernel
theorem dX3_begin_19 : decode cX3_begin 19 = .ok (.aload_n 0, 1) := by decide +kernel
theorem dX3_begin_20 : decode cX3_begin 20 = .ok (.getfield 17, 3) := by decide +kernel
theorem dX3_begin_23 : decode cX3_begin 23 = .ok (.aload_n 0, 1) := by decide +kernel
theorem dX3_begin_24 : decode cX3_begin 24 = .ok (.getfield 35, 3) := by decide +kernel
theorem dX3_begin_27 : decode cX3_begin 27 = .ok (.aload_n 0, 1) := by decide +kernel
theorem dX3_begin_28 : decode cX3_begin 28 = .ok (.getfield 39, 3) := by decide +kernel
theorem dX3_begin_31 : decode cX3_begin 31 = .ok (.iastore, 1) := by decide +kernel
theorem dX3_begin_32 : decode cX3_begin 32 = .ok (.return_, 1) := by decide +kernel
theorem dX3_beginCondition_0 : decode cX3_beginCondition 0 = .ok (.aload_n 0, 1) := by decide +kernel
theorem dX3_beginCondition_1 : decode cX3_beginCondition 1 = .ok (.getfield 35, 3) := by decide +kernel
theorem dX3_beginCondition_4 : decode cX3_beginCondition 4 = .ok (.bipush 16, 2) := by decide +kernel
theorem dX3_beginCondition_6 : decode cX3_beginCondition 6 = .ok (.if_icmp .ge 16, 3) := by decide +kernel
theorem dX3_beginCondition_9 : decode cX3_beginCondition 9 = .ok (.aload_n 0, 1) := by decide +kernel
theorem dX3_beginCondition_10 : decode cX3_beginCondition 10 = .ok (.getfield 20, 3) := by decide +kernel
theorem dX3_beginCondition_13 : decode cX3_beginCondition 13 = .ok (.aload_n 0, 1) := by decide +kernel
theorem dX3_beginCondition_14 : decode cX3_beginCondition 14 = .ok (.getfield 35, 3) := by decide +kernel
theorem dX3_beginCondition_17 : decode cX3_beginCondition 17 = .ok (.aload_n 0, 1) := by decide +kernel
theorem dX3_beginCondition_18 : decode cX3_beginCondition 18 = .ok (.getfield 39, 3) := by decide +kernel
theorem dX3_beginCondition_21 : decode cX3_beginCondition 21 = .ok (.iastore, 1) := by decide +kernel
theorem dX3_beginCondition_22 : decode cX3_beginCondition 22 = .ok (.return_, 1) := by decide +kernel
theorem dX3_end_0 : decode cX3_end 0 = .ok (.aload_n 0, 1) := by decide +kernel
theorem dX3_end_1 : decode cX3_end 1 = .ok (.getfield 35, 3) := by decide +kernel
theorem dX3_end_4 : decode cX3_end 4 = .ok (.bipush 16, 2) := by decide +kernel
theorem dX3_end_6 : decode cX3_end 6 = .ok (.if_icmp .ge 43, 3) := by decide +kernel
theorem dX3_end_9 : decode cX3_end 9 = .ok (.iload_n 1, 1) := by decide +kernel
theorem dX3_end_10 : decode cX3_end 10 = .ok (.ifCond .ne 16, 3) := by decide +kernel
theorem dX3_end_13 : decode cX3_end 13 = .ok (.aload_n 0, 1) := by decide +kernel
theorem dX3_end_14 : decode cX3_end 14 = .ok (.getfield 20, 3) := by decide +kernel
theorem dX3_end_17 : decode cX3_end 17 = .ok (.aload_n 0, 1) := by decide +kernel
theorem dX3_end_18 : decode cX3_end 18 = .ok (.getfield 35, 3) := by decide +kernel
theorem dX3_end_21 : decode cX3_end 21 = .ok (.aload_n 0, 1) := by decide +kernel
theorem dX3_end_22 : decode cX3_end 22 = .ok (.getfield 39, 3) := by decide +kernel
theorem dX3_end_25 : decode cX3_end 25 = .ok (.iastore, 1) := by decide +kernel
theorem dX3_end_26 : decode cX3_end 26 = .ok (.aload_n 0, 1) := by decide +kernel
theorem dX3_end_27 : decode cX3_end 27 = .ok (.getfield 23, 3) := by decide +kernel
theorem dX3_end_30 : decode cX3_end 30 = .ok (.aload_n 0, 1) := by decide +kernel
theorem dX3_end_31 : decode cX3_end 31 = .ok (.getfield 35, 3) := by decide +kernel
theorem dX3_end_34 : decode cX3_end 34 = .ok (.aload_n 0, 1) := by decide +kernel
theorem dX3_end_35 : decode cX3_end 35 = .ok (.getfield 39, 3) := by decide +kernel
theorem dX3_end_38 : decode cX3_end 38 = .ok (.iastore, 1) := by decide +kernel
theorem dX3_end_39 : decode cX3_end 39 = .ok (.aload_n 0, 1) := by decide +kernel
theorem dX3_end_40 : decode cX3_end 40 = .ok (.dup, 1) := by decide +kernel
theorem dX3_end_41 : decode cX3_end 41 = .ok (.getfield 35, 3) := by decide +kernel
theorem dX3_end_44 : decode cX3_end 44 = .ok (.iconst 1, 1) := by decide +kernel
theorem dX3_end_45 : decode cX3_end 45 = .ok (.iadd, 1) := by decide +kernel
theorem dX3_end_46 : decode cX3_end 46 = .ok (.putfield 35, 3) := by decide +kernel
theorem dX3_end_49 : decode cX3_end 49 = .ok (.return_, 1) := by decide +kernel
theorem dX3_emit_0 : decode cX3_emit 0 = .ok (.aload_n 0, 1) := by decide +kernel
theorem dX3_emit_1 : decode cX3_emit 1 = .ok (.getfield 39, 3) := by decide +kernel
theorem dX3_emit_4 : decode cX3_emit 4 = .ok (.aload_n 0, 1) := by decide +kernel
theorem dX3_emit_5 : decode cX3_emit 5 = .ok (.getfield 26, 3) := by decide +kernel
theorem dX3_emit_8 : decode cX3_emit 8 = .ok (.arraylength, 1) := by decide +kernel
theorem dX3_emit_9 : decode cX3_emit 9 = .ok (.if_icmp .ge 23, 3) := by decide +kernel
theorem dX3_emit_12 : decode cX3_emit 12 = .ok (.aload_n 0, 1) := by decide +kernel
theorem dX3_emit_13 : decode cX3_emit 13 = .ok (.getfield 26, 3) := by decide +kernel
theorem dX3_emit_16 : decode cX3_emit 16 = .ok (.aload_n 0, 1) := by decide +kernel
theorem dX3_emit_17 : decode cX3_emit 17 = .ok (.getfield 39, 3) := by decide +kernel
theorem dX3_emit_20 : decode cX3_emit 20 = .ok (.iload_n 1, 1) := by decide +kernel
theorem dX3_emit_21 : decode cX3_emit 21 = .ok (.iastore, 1) := by decide +kernel
theorem dX3_emit_22 : decode cX3_emit 22 = .ok (.aload_n 0, 1) := by decide +kernel
theorem dX3_emit_23 : decode cX3_emit 23 = .ok (.dup, 1) := by decide +kernel
theorem dX3_emit_24 : decode cX3_emit 24 = .ok (.getfield 39, 3) := by decide +kernel
theorem dX3_emit_27 : decode cX3_emit 27 = .ok (.iconst 1, 1) := by decide +kernel
theorem dX3_emit_28 : decode cX3_emit 28 = .ok (.iadd, 1) := by decide +kernel
theorem dX3_emit_29 : decode cX3_emit 29 = .ok (.putfield 39, 3) := by decide +kernel
theorem dX3_emit_32 : decode cX3_emit 32 = .ok (.return_, 1) := by decide +kernel
theorem dX3_setVars_0 : decode cX3_setVars 0 = .ok (.aload_n 0, 1) := by decide +kernel
theorem dX3_setVars_1 : decode cX3_setVars 1 = .ok (.getfield 29, 3) := by decide +kernel
theorem dX3_setVars_4 : decode cX3_setVars 4 = .ok (.iconst 0, 1) := by decide +kernel
theorem dX3_setVars_5 : decode cX3_setVars 5 = .ok (.iload_n 1, 1) := by decide +kernel
theorem dX3_setVars_6 : decode cX3_setVars 6 = .ok (.iastore, 1) := by decide +kernel
theorem dX3_setVars_7 : decode cX3_setVars 7 = .ok (.aload_n 0, 1) := by decide +kernel
theorem dX3_setVars_8 : decode cX3_setVars 8 = .ok (.getfield 29, 3) := by decide +kernel
theorem dX3_setVars_11 : decode cX3_setVars 11 = .ok (.iconst 1, 1) := by decide +kernel
theorem dX3_setVars_12 : decode cX3_setVars 12 = .ok (.iload_n 2, 1) := by decide +kernel
theorem dX3_setVars_13 : decode cX3_setVars 13 = .ok (.iastore, 1) := by decide +kernel
theorem dX3_setVars_14 : decode cX3_setVars 14 = .ok (.aload_n 0, 1) := by decide +kernel
theorem dX3_setVars_15 : decode cX3_setVars 15 = .ok (.getfield 29, 3) := by decide +kernel
theorem dX3_setVars_18 : decode cX3_setVars 18 = .ok (.iconst 2, 1) := by decide +kernel
theorem dX3_setVars_19 : decode cX3_setVars 19 = .ok (.iload_n 3, 1) := by decide +kernel
theorem dX3_setVars_20 : decode cX3_setVars 20 = .ok (.iastore, 1) := by decide +kernel
theorem dX3_setVars_21 : decode cX3_setVars 21 = .ok (.aload_n 0, 1) := by decide +kernel
theorem dX3_setVars_22 : decode cX3_setVars 22 = .ok (.getfield 29, 3) := by decide +kernel
theorem dX3_setVars_25 : decode cX3_setVars 25 = .ok (.iconst 3, 1) := by decide +kernel
theorem dX3_setVars_26 : decode cX3_setVars 26 = .ok (.iload 4, 2) := by decide +kernel
theorem dX3_setVars_28 : decode cX3_setVars 28 = .ok (.iastore, 1) := by decide +kernel
theorem dX3_setVars_29 : decode cX3_setVars 29 = .ok (.aload_n 0, 1) := by decide +kernel
theorem dX3_setVars_30 : decode cX3_setVars 30 = .ok (.getfield 29, 3) := by decide +kernel
theorem dX3_setVars_33 : decode cX3_setVars 33 = .ok (.iconst 4, 1) := by decide +kernel
theorem dX3_setVars_34 : decode cX3_setVars 34 = .ok (.iload 5, 2) := by decide +kernel
theorem dX3_setVars_36 : decode cX3_setVars 36 = .ok (.iastore, 1) := by decide +kernel
theorem dX3_setVars_37 : decode cX3_setVars 37 = .ok (.return_, 1) := by decide +kernel
theorem dX3_firstRule_0 : decode cX3_firstRule 0 = .ok (.iconst 0, 1) := by decide +kernel
theorem dX3_firstRule_1 : decode cX3_firstRule 1 = .ok (.istore_n 2, 1) := by decide +kernel
theorem dX3_firstRule_2 : decode cX3_firstRule 2 = .ok (.iload_n 2, 1) := by decide +kernel
theorem dX3_firstRule_3 : decode cX3_firstRule 3 = .ok (.aload_n 0, 1) := by decide +kernel
theorem dX3_firstRule_4 : decode cX3_firstRule 4 = .ok (.getfield 35, 3) := by decide +kernel
theorem dX3_firstRule_7 : decode cX3_firstRule 7 = .ok (.if_icmp .ge 65, 3) := by decide +kernel
theorem dX3_firstRule_10 : decode cX3_firstRule 10 = .ok (.aload_n 0, 1) := by decide +kernel
theorem dX3_firstRule_11 : decode cX3_firstRule 11 = .ok (.getfield 20, 3) := by decide +kernel
theorem dX3_firstRule_14 : decode cX3_firstRule 14 = .ok (.iload_n 2, 1) := by decide +kernel
theorem dX3_firstRule_15 : decode cX3_firstRule 15 = .ok (.iaload, 1) := by decide +kernel
theorem dX3_firstRule_16 : decode cX3_firstRule 16 = .ok (.aload_n 0, 1) := by decide +kernel
theorem dX3_firstRule_17 : decode cX3_firstRule 17 = .ok (.getfield 23, 3) := by decide +kernel
theorem dX3_firstRule_20 : decode cX3_firstRule 20 = .ok (.iload_n 2, 1) := by decide +kernel
theorem dX3_firstRule_21 : decode cX3_firstRule 21 = .ok (.iaload, 1) := by decide +kernel
theorem dX3_firstRule_22 : decode cX3_firstRule 22 = .ok (.if_icmp .ne 7, 3) := by decide +kernel
theorem dX3_firstRule_25 : decode cX3_firstRule 25 = .ok (.iconst 1, 1) := by decide +kernel
theorem dX3_firstRule_26 : decode cX3_firstRule 26 = .ok (.goto 4, 3) := by decide +kernel
theorem dX3_firstRule_29 : decode cX3_firstRule 29 = .ok (.iconst 0, 1) := by decide +kernel
theorem dX3_firstRule_30 : decode cX3_firstRule 30 = .ok (.istore_n 3, 1) := by decide +kernel
theorem dX3_firstRule_31 : decode cX3_firstRule 31 = .ok (.aload_n 0, 1) := by decide +kernel
theorem dX3_firstRule_32 : decode cX3_firstRule 32 = .ok (.getfield 11, 3) := by decide +kernel
theorem dX3_firstRule_35 : decode cX3_firstRule 35 = .ok (.iload_n 2, 1) := by decide +kernel
theorem dX3_firstRule_36 : decode cX3_firstRule 36 = .ok (.iaload, 1) := by decide +kernel
theorem dX3_firstRule_37 : decode cX3_firstRule 37 = .ok (.iload_n 1, 1) := by decide +kernel
theorem dX3_firstRule_38 : decode cX3_firstRule 38 = .ok (.if_icmp .ne 28, 3) := by decide +kernel
theorem dX3_firstRule_41 : decode cX3_firstRule 41 = .ok (.iload_n 3, 1) := by decide +kernel
theorem dX3_firstRule_42 : decode cX3_firstRule 42 = .ok (.ifCond .ne 22, 3) := by decide +kernel
theorem dX3_firstRule_45 : decode cX3_firstRule 45 = .ok (.aload_n 0, 1) := by decide +kernel
theorem dX3_firstRule_46 : decode cX3_firstRule 46 = .ok (.aload_n 0, 1) := by decide +kernel
theorem dX3_firstRule_47 : decode cX3_firstRule 47 = .ok (.getfield 20, 3) := by decide +kernel
theorem dX3_firstRule_50 : decode cX3_firstRule 50 = .ok (.iload_n 2, 1) := by decide +kernel
theorem dX3_firstRule_51 : decode cX3_firstRule 51 = .ok (.iaload, 1) := by decide +kernel
theorem dX3_firstRule_52 : decode cX3_firstRule 52 = .ok (.aload_n 0, 1) := by decide +kernel
theorem dX3_firstRule_53 : decode cX3_firstRule 53 = .ok (.getfield 23, 3) := by decide +kernel
theorem dX3_firstRule_56 : decode cX3_firstRule 56 = .ok (.iload_n 2, 1) := by decide +kernel
theorem dX3_firstRule_57 : decode cX3_firstRule 57 = .ok (.iaload, 1) := by decide +kernel
theorem dX3_firstRule_58 : decode cX3_firstRule 58 = .ok (.invokevirtual 42, 3) := by decide +kernel
theorem dX3_firstRule_61 : decode cX3_firstRule 61 = .ok (.ifCond .eq 5, 3) := by decide +kernel

theorem dX0_init_0 : decode cX0_init 0 = .ok (.aload_n 0, 1) := by decide +kernel
theorem dX0_init_1 : decode cX0_init 1 = .ok (.invokespecial 3, 3) := by decide +kernel
theorem dX0_init_4 : decode cX0_init 4 = .ok (.aload_n 0, 1) := by decide +kernel
theorem dX0_init_5 : decode cX0_init 5 = .ok (.sipush 1067, 3) := by decide +kernel
theorem dX0_init_8 : decode cX0_init 8 = .ok (.newarray .long, 2) := by decide +kernel
theorem dX0_init_10 : decode cX0_init 10 = .ok (.putfield 11, 3) := by decide +kernel
theorem dX0_init_13 : decode cX0_init 13 = .ok (.aload_n 0, 1) := by decide +kernel
theorem dX0_init_14 : decode cX0_init 14 = .ok (.sipush 285, 3) := by decide +kernel
theorem dX0_init_17 : decode cX0_init 17 = .ok (.newarray .int, 2) := by decide +kernel
theorem dX0_init_19 : decode cX0_init 19 = .ok (.putfield 15, 3) := by decide +kernel
theorem dX0_init_22 : decode cX0_init 22 = .ok (.aload_n 0, 1) := by decide +kernel
theorem dX0_init_23 : decode cX0_init 23 = .ok (.sipush 164, 3) := by decide +kernel
theorem dX0_init_26 : decode cX0_init 26 = .ok (.newarray .int, 2) := by decide +kernel
theorem dX0_init_28 : decode cX0_init 28 = .ok (.putfield 19, 3) := by decide +kernel
theorem dX0_init_31 : decode cX0_init 31 = .ok (.aload_n 0, 1) := by decide +kernel
theorem dX0_init_32 : decode cX0_init 32 = .ok (.bipush 24, 2) := by decide +kernel
theorem dX0_init_34 : decode cX0_init 34 = .ok (.newarray .int, 2) := by decide +kernel
theorem dX0_init_36 : decode cX0_init 36 = .ok (.putfield 22, 3) := by decide +kernel
theorem dX0_init_39 : decode cX0_init 39 = .ok (.aload_n 0, 1) := by decide +kernel
theorem dX0_init_40 : decode cX0_init 40 = .ok (.sipush 2134, 3) := by decide +kernel
theorem dX0_init_43 : decode cX0_init 43 = .ok (.newarray .long, 2) := by decide +kernel
theorem dX0_init_45 : decode cX0_init 45 = .ok (.putfield 25, 3) := by decide +kernel
theorem dX0_init_48 : decode cX0_init 48 = .ok (.aload_n 0, 1) := by decide +kernel
theorem dX0_init_49 : decode cX0_init 49 = .ok (.bipush 64, 2) := by decide +kernel
theorem dX0_init_51 : decode cX0_init 51 = .ok (.newarray .int, 2) := by decide +kernel
theorem dX0_init_53 : decode cX0_init 53 = .ok (.putfield 30, 3) := by decide +kernel
theorem dX0_init_56 : decode cX0_init 56 = .ok (.aload_n 0, 1) := by decide +kernel
theorem dX0_init_57 : decode cX0_init 57 = .ok (.aload_n 1, 1) := by decide +kernel
theorem dX0_init_58 : decode cX0_init 58 = .ok (.putfield 33, 3) := by decide +kernel
theorem dX0_init_61 : decode cX0_init 61 = .ok (.aload_n 0, 1) := by decide +kernel
theorem dX0_init_62 : decode cX0_init 62 = .ok (.iconst 0, 1) := by decide +kernel
theorem dX0_init_63 : decode cX0_init 63 = .ok (.putfield 37, 3) := by decide +kernel
theorem dX0_init_66 : decode cX0_init 66 = .ok (.return_, 1) := by decide +kernel
theorem dX0_prepare_0 : decode cX0_prepare 0 = .ok (.aload_n 0, 1) := by decide +kernel
theorem dX0_prepare_1 : decode cX0_prepare 1 = .ok (.getfield 37, 3) := by decide +kernel
theorem dX0_prepare_4 : decode cX0_prepare 4 = .ok (.iconst 1, 1) := by decide +kernel
theorem dX0_prepare_5 : decode cX0_prepare 5 = .ok (.iadd, 1) := by decide +kernel
theorem dX0_prepare_6 : decode cX0_prepare 6 = .ok (.istore_n 2, 1) := by decide +kernel
theorem dX0_prepare_7 : decode cX0_prepare 7 = .ok (.iload_n 2, 1) := by decide +kernel
theorem dX0_prepare_8 : decode cX0_prepare 8 = .ok (.iload_n 1, 1) := by decide +kernel
theorem dX0_prepare_9 : decode cX0_prepare 9 = .ok (.if_icmp .gt 30, 3) := by decide +kernel
theorem dX0_prepare_12 : decode cX0_prepare 12 = .ok (.iload_n 2, 1) := by decide +kernel
theorem dX0_prepare_13 : decode cX0_prepare 13 = .ok (.bipush 8, 2) := by decide +kernel
theorem dX0_prepare_15 : decode cX0_prepare 15 = .ok (.if_icmp .ge 24, 3) := by decide +kernel
theorem dX0_prepare_18 : decode cX0_prepare 18 = .ok (.aload_n 0, 1) := by decide +kernel
theorem dX0_prepare_19 : decode cX0_prepare 19 = .ok (.iload_n 2, 1) := by decide +kernel
theorem dX0_prepare_20 : decode cX0_prepare 20 = .ok (.invokevirtual 41, 3) := by decide +kernel
theorem dX0_prepare_23 : decode cX0_prepare 23 = .ok (.aload_n 0, 1) := by decide +kernel
theorem dX0_prepare_24 : decode cX0_prepare 24 = .ok (.iload_n 2, 1) := by decide +kernel
theorem dX0_prepare_25 : decode cX0_prepare 25 = .ok (.invokevirtual 45, 3) := by decide +kernel
theorem dX0_prepare_28 : decode cX0_prepare 28 = .ok (.aload_n 0, 1) := by decide +kernel
theorem dX0_prepare_29 : decode cX0_prepare 29 = .ok (.iload_n 2, 1) := by decide +kernel
theorem dX0_prepare_30 : decode cX0_prepare 30 = .ok (.putfield 37, 3) := by decide +kernel
theorem dX0_prepare_33 : decode cX0_prepare 33 = .ok (.iinc 2 1, 3) := by decide +kernel
theorem dX0_prepare_36 : decode cX0_prepare 36 = .ok (.goto (-29), 3) := by decide +kernel
theorem dX0_prepare_39 : decode cX0_prepare 39 = .ok (.return_, 1) := by decide +kernel
theorem dX0_size_0 : decode cX0_size 0 = .ok (.aload_n 0, 1) := by decide +kernel
theorem dX0_size_1 : decode cX0_size 1 = .ok (.iload_n 1, 1) := by decide +kernel
theorem dX0_size_2 : decode cX0_size 2 = .ok (.iload_n 2, 1) := by decide +kernel
theorem dX0_size_3 : decode cX0_size 3 = .ok (.invokevirtual 48, 3) := by decide +kernel
theorem dX0_size_6 : decode cX0_size 6 = .ok (.aload_n 0, 1) := by decide +kernel
theorem dX0_size_7 : decode cX0_size 7 = .ok (.iload_n 1, 1) := by decide +kernel
theorem dX0_size_8 : decode cX0_size 8 = .ok (.iconst 1, 1) := by decide +kernel
theorem dX0_size_9 : decode cX0_size 9 = .ok (.isub, 1) := by decide +kernel
theorem dX0_size_10 : decode cX0_size 10 = .ok (.iload_n 2, 1) := by decide +kernel
theorem dX0_size_11 : decode cX0_size 11 = .ok (.invokevirtual 48, 3) := by decide +kernel
theorem dX0_size_14 : decode cX0_size 14 = .ok (.isub, 1) := by decide +kernel
theorem dX0_size_15 : decode cX0_size 15 = .ok (.ireturn, 1) := by decide +kernel
theorem dX0_at_0 : decode cX0_at 0 = .ok (.aload_n 0, 1) := by decide +kernel
theorem dX0_at_1 : decode cX0_at 1 = .ok (.aload_n 0, 1) := by decide +kernel
theorem dX0_at_2 : decode cX0_at 2 = .ok (.iload_n 2, 1) := by decide +kernel
theorem dX0_at_3 : decode cX0_at 3 = .ok (.aload_n 0, 1) := by decide +kernel
theorem dX0_at_4 : decode cX0_at 4 = .ok (.iload_n 1, 1) := by decide +kernel
theorem dX0_at_5 : decode cX0_at 5 = .ok (.iconst 1, 1) := by decide +kernel
theorem dX0_at_6 : decode cX0_at 6 = .ok (.isub, 1) := by decide +kernel
theorem dX0_at_7 : decode cX0_at 7 = .ok (.iload_n 2, 1) := by decide +kernel
theorem dX0_at_8 : decode cX0_at 8 = .ok (.invokevirtual 48, 3) := by decide +kernel
theorem dX0_at_11 : decode cX0_at 11 = .ok (.iload_n 3, 1) := by decide +kernel
theorem dX0_at_12 : decode cX0_at 12 = .ok (.iadd, 1) := by decide +kernel
theorem dX0_at_13 : decode cX0_at 13 = .ok (.invokevirtual 52, 3) := by decide +kernel
theorem dX0_at_16 : decode cX0_at 16 = .ok (.invokevirtual 55, 3) := by decide +kernel
theorem dX0_at_19 : decode cX0_at 19 = .ok (.lreturn, 1) := by decide +kernel
theorem dX0_indexOf_0 : decode cX0_indexOf 0 = .ok (.aload_n 0, 1) := by decide +kernel
theorem dX0_indexOf_1 : decode cX0_indexOf 1 = .ok (.iload_n 1, 1) := by decide +kernel
theorem dX0_indexOf_2 : decode cX0_indexOf 2 = .ok (.iconst 1, 1) := by decide +kernel
theorem dX0_indexOf_3 : decode cX0_indexOf 3 = .ok (.isub, 1) := by decide +kernel
theorem dX0_indexOf_4 : decode cX0_indexOf 4 = .ok (.iload_n 2, 1) := by decide +kernel
theorem dX0_indexOf_5 : decode cX0_indexOf 5 = .ok (.invokevirtual 48, 3) := by decide +kernel
theorem dX0_indexOf_8 : decode cX0_indexOf 8 = .ok (.istore 5, 2) := by decide +kernel
theorem dX0_indexOf_10 : decode cX0_indexOf 10 = .ok (.iload 5, 2) := by decide +kernel
theorem dX0_indexOf_12 : decode cX0_indexOf 12 = .ok (.istore 6, 2) := by decide +kernel
theorem dX0_indexOf_14 : decode cX0_indexOf 14 = .ok (.aload_n 0, 1) := by decide +kernel
theorem dX0_indexOf_15 : decode cX0_indexOf 15 = .ok (.iload_n 1, 1) := by decide +kernel
theorem dX0_indexOf_16 : decode cX0_indexOf 16 = .ok (.iload_n 2, 1) := by decide +kernel
theorem dX0_indexOf_17 : decode cX0_indexOf 17 = .ok (.invokevirtual 48, 3) := by decide +kernel
theorem dX0_indexOf_20 : decode cX0_indexOf 20 = .ok (.istore 7, 2) := by decide +kernel
theorem dX0_indexOf_22 : decode cX0_indexOf 22 = .ok (.iconst 0, 1) := by decide +kernel
theorem dX0_indexOf_23 : decode cX0_indexOf 23 = .ok (.istore 8, 2) := by decide +kernel
theorem dX0_indexOf_25 : decode cX0_indexOf 25 = .ok (.iload 8, 2) := by decide +kernel
theorem dX0_indexOf_27 : decode cX0_indexOf 27 = .ok (.bipush 32, 2) := by decide +kernel
theorem dX0_indexOf_29 : decode cX0_indexOf 29 = .ok (.if_icmp .ge 54, 3) := by decide +kernel
theorem dX0_indexOf_32 : decode cX0_indexOf 32 = .ok (.iload 6, 2) := by decide +kernel
theorem dX0_indexOf_34 : decode cX0_indexOf 34 = .ok (.iload 7, 2) := by decide +kernel
theorem dX0_indexOf_36 : decode cX0_indexOf 36 = .ok (.if_icmp .ge 47, 3) := by decide +kernel
theorem dX0_indexOf_39 : decode cX0_indexOf 39 = .ok (.iload 6, 2) := by decide +kernel
theorem dX0_indexOf_41 : decode cX0_indexOf 41 = .ok (.iload 7, 2) := by decide +kernel
theorem dX0_indexOf_43 : decode cX0_indexOf 43 = .ok (.iadd, 1) := by decide +kernel
theorem dX0_indexOf_44 : decode cX0_indexOf 44 = .ok (.iconst 1, 1) := by decide +kernel
theorem dX0_indexOf_45 : decode cX0_indexOf 45 = .ok (.iushr, 1) := by decide +kernel
theorem dX0_indexOf_46 : decode cX0_indexOf 46 = .ok (.istore 9, 2) := by decide +kernel
theorem dX0_indexOf_48 : decode cX0_indexOf 48 = .ok (.aload_n 0, 1) := by decide +kernel
theorem dX0_indexOf_49 : decode cX0_indexOf 49 = .ok (.aload_n 0, 1) := by decide +kernel
theorem dX0_indexOf_50 : decode cX0_indexOf 50 = .ok (.iload_n 2, 1) := by decide +kernel
theorem dX0_indexOf_51 : decode cX0_indexOf 51 = .ok (.iload 9, 2) := by decide +kernel
theorem dX0_indexOf_53 : decode cX0_indexOf 53 = .ok (.invokevirtual 52, 3) := by decide +kernel
theorem dX0_indexOf_56 : decode cX0_indexOf 56 = .ok (.invokevirtual 55, 3) := by decide +kernel
theorem dX0_indexOf_59 : decode cX0_indexOf 59 = .ok (.lload_n 3, 1) := by decide +kernel
theorem dX0_indexOf_60 : decode cX0_indexOf 60 = .ok (.lcmp, 1) := by decide +kernel
theorem dX0_indexOf_61 : decode cX0_indexOf 61 = .ok (.ifCond .ge 12, 3) := by decide +kernel
theorem dX0_indexOf_64 : decode cX0_indexOf 64 = .ok (.iload 9, 2) := by decide +kernel
theorem dX0_indexOf_66 : decode cX0_indexOf 66 = .ok (.iconst 1, 1) := by decide +kernel
theorem dX0_indexOf_67 : decode cX0_indexOf 67 = .ok (.iadd, 1) := by decide +kernel
theorem dX0_indexOf_68 : decode cX0_indexOf 68 = .ok (.istore 6, 2) := by decide +kernel
theorem dX0_indexOf_70 : decode cX0_indexOf 70 = .ok (.goto 7, 3) := by decide +kernel
theorem dX0_indexOf_73 : decode cX0_indexOf 73 = .ok (.iload 9, 2) := by decide +kernel
theorem dX0_indexOf_75 : decode cX0_indexOf 75 = .ok (.istore 7, 2) := by decide +kernel
theorem dX0_indexOf_77 : decode cX0_indexOf 77 = .ok (.iinc 8 1, 3) := by decide +kernel
theorem dX0_indexOf_80 : decode cX0_indexOf 80 = .ok (.goto (-55), 3) := by decide +kernel
theorem dX0_indexOf_83 : decode cX0_indexOf 83 = .ok (.iload 6, 2) := by decide +kernel
theorem dX0_indexOf_85 : decode cX0_indexOf 85 = .ok (.aload_n 0, 1) := by decide +kernel
theorem dX0_indexOf_86 : decode cX0_indexOf 86 = .ok (.iload_n 1, 1) := by decide +kernel
theorem dX0_indexOf_87 : decode cX0_indexOf 87 = .ok (.iload_n 2, 1) := by decide +kernel
theorem dX0_indexOf_88 : decode cX0_indexOf 88 = .ok (.invokevirtual 48, 3) := by decide +kernel
theorem dX0_indexOf_91 : decode cX0_indexOf 91 = .ok (.if_icmp .ge 27, 3) := by decide +kernel
theorem dX0_indexOf_94 : decode cX0_indexOf 94 = .ok (.aload_n 0, 1) := by decide +kernel
theorem dX0_indexOf_95 : decode cX0_indexOf 95 = .ok (.aload_n 0, 1) := by decide +kernel
theorem dX0_indexOf_96 : decode cX0_indexOf 96 = .ok (.iload_n 2, 1) := by decide +kernel
theorem dX0_indexOf_97 : decode cX0_indexOf 97 = .ok (.iload 6, 2) := by decide +kernel
theorem dX0_indexOf_99 : decode cX0_indexOf 99 = .ok (.invokevirtual 52, 3) := by decide +kernel
theorem dX0_indexOf_102 : decode cX0_indexOf 102 = .ok (.invokevirtual 55, 3) := by decide +kernel
theorem dX0_indexOf_105 : decode cX0_indexOf 105 = .ok (.lload_n 3, 1) := by decide +kernel
theorem dX0_indexOf_106 : decode cX0_indexOf 106 = .ok (.lcmp, 1) := by decide +kernel
theorem dX0_indexOf_107 : decode cX0_indexOf 107 = .ok (.ifCond .ne 11, 3) := by decide +kernel
theorem dX0_indexOf_110 : decode cX0_indexOf 110 = .ok (.iload 6, 2) := by decide +kernel
theorem dX0_indexOf_112 : decode cX0_indexOf 112 = .ok (.iload 5, 2) := by decide +kernel
theorem dX0_indexOf_114 : decode cX0_indexOf 114 = .ok (.isub, 1) := by decide +kernel
theorem dX0_indexOf_115 : decode cX0_indexOf 115 = .ok (.goto 4, 3) := by decide +kernel
theorem dX0_indexOf_118 : decode cX0_indexOf 118 = .ok (.iconst (-1), 1) := by decide +kernel
theorem dX0_indexOf_119 : decode cX0_indexOf 119 = .ok (.ireturn, 1) := by decide +kernel
theorem dX0_trait_0 : decode cX0_trait 0 = .ok (.aload_n 0, 1) := by decide +kernel
theorem dX0_trait_1 : decode cX0_trait 1 = .ok (.iload_n 2, 1) := by decide +kernel
theorem dX0_trait_2 : decode cX0_trait 2 = .ok (.aload_n 0, 1) := by decide +kernel
theorem dX0_trait_3 : decode cX0_trait 3 = .ok (.iload_n 1, 1) := by decide +kernel
theorem dX0_trait_4 : decode cX0_trait 4 = .ok (.iconst 1, 1) := by decide +kernel
theorem dX0_trait_5 : decode cX0_trait 5 = .ok (.isub, 1) := by decide +kernel
theorem dX0_trait_6 : decode cX0_trait 6 = .ok (.iload_n 2, 1) := by decide +kernel
theorem dX0_trait_7 : decode cX0_trait 7 = .ok (.invokevirtual 48, 3) := by decide +kernel
theorem dX0_trait_10 : decode cX0_trait 10 = .ok (.iload_n 3, 1) := by decide +kernel
theorem dX0_trait_11 : decode cX0_trait 11 = .ok (.iadd, 1) := by decide +kernel
theorem dX0_trait_12 : decode cX0_trait 12 = .ok (.invokevirtual 52, 3) := by decide +kernel
theorem dX0_trait_15 : decode cX0_trait 15 = .ok (.istore 5, 2) := by decide +kernel
theorem dX0_trait_17 : decode cX0_trait 17 = .ok (.iload 5, 2) := by decide +kernel
theorem dX0_trait_19 : decode cX0_trait 19 = .ok (.iconst 0, 1) := by decide +kernel
theorem dX0_trait_20 : decode cX0_trait 20 = .ok (.sipush 1066, 3) := by decide +kernel
theorem dX0_trait_23 : decode cX0_trait 23 = .ok (.invokestatic 59, 3) := by decide +kernel
theorem dX0_trait_26 : decode cX0_trait 26 = .ok (.ifCond .eq 14, 3) := by decide +kernel
theorem dX0_trait_29 : decode cX0_trait 29 = .ok (.iload 4, 2) := by decide +kernel
theorem dX0_trait_31 : decode cX0_trait 31 = .ok (.iconst 0, 1) := by decide +kernel
theorem dX0_trait_32 : decode cX0_trait 32 = .ok (.bipush 15, 2) := by decide +kernel
theorem dX0_trait_34 : decode cX0_trait 34 = .ok (.invokestatic 59, 3) := by decide +kernel
theorem dX0_trait_37 : decode cX0_trait 37 = .ok (.ifCond .ne 5, 3) := by decide +kernel
theorem dX0_trait_40 : decode cX0_trait 40 = .ok (.iconst (-1), 1) := by decide +kernel
theorem dX0_trait_41 : decode cX0_trait 41 = .ok (.ireturn, 1) := by decide +kernel
theorem dX0_trait_42 : decode cX0_trait 42 = .ok (.iconst 2, 1) := by decide +kernel
theorem dX0_trait_43 : decode cX0_trait 43 = .ok (.iload 5, 2) := by decide +kernel
theorem dX0_trait_45 : decode cX0_trait 45 = .ok (.imul, 1) := by decide +kernel
theorem dX0_trait_46 : decode cX0_trait 46 = .ok (.iload 4, 2) := by decide +kernel
theorem dX0_trait_48 : decode cX0_trait 48 = .ok (.iconst 3, 1) := by decide +kernel
theorem dX0_trait_49 : decode cX0_trait 49 = .ok (.ishr, 1) := by decide +kernel
theorem dX0_trait_50 : decode cX0_trait 50 = .ok (.iadd, 1) := by decide +kernel
theorem dX0_trait_51 : decode cX0_trait 51 = .ok (.istore 6, 2) := by decide +kernel
theorem dX0_trait_53 : decode cX0_trait 53 = .ok (.bipush 8, 2) := by decide +kernel
theorem dX0_trait_55 : decode cX0_trait 55 = .ok (.iload 4, 2) := by decide +kernel
theorem dX0_trait_57 : decode cX0_trait 57 = .ok (.bipush 7, 2) := by decide +kernel
theorem dX0_trait_59 : decode cX0_trait 59 = .ok (.iand, 1) := by decide +kernel
theorem dX0_trait_60 : decode cX0_trait 60 = .ok (.imul, 1) := by decide +kernel
theorem dX0_trait_61 : decode cX0_trait 61 = .ok (.istore 7, 2) := by decide +kernel
theorem dX0_trait_63 : decode cX0_trait 63 = .ok (.aload_n 0, 1) := by decide +kernel
theorem dX0_trait_64 : decode cX0_trait 64 = .ok (.getfield 25, 3) := by decide +kernel
theorem dX0_trait_67 : decode cX0_trait 67 = .ok (.iload 6, 2) := by decide +kernel
theorem dX0_trait_69 : decode cX0_trait 69 = .ok (.laload, 1) := by decide +kernel
theorem dX0_trait_70 : decode cX0_trait 70 = .ok (.iload 7, 2) := by decide +kernel
theorem dX0_trait_72 : decode cX0_trait 72 = .ok (.lushr, 1) := by decide +kernel
theorem dX0_trait_73 : decode cX0_trait 73 = .ok (.l2i, 1) := by decide +kernel
theorem dX0_trait_74 : decode cX0_trait 74 = .ok (.sipush 255, 3) := by decide +kernel
theorem dX0_trait_77 : decode cX0_trait 77 = .ok (.iand, 1) := by decide +kernel
theorem dX0_trait_78 : decode cX0_trait 78 = .ok (.istore 8, 2) := by decide +kernel
theorem dX0_trait_80 : decode cX0_trait 80 = .ok (.iload 8, 2) := by decide +kernel
theorem dX0_trait_82 : decode cX0_trait 82 = .ok (.ifCond .ne 59, 3) := by decide +kernel
theorem dX0_trait_85 : decode cX0_trait 85 = .ok (.iconst 1, 1) := by decide +kernel
theorem dX0_trait_86 : decode cX0_trait 86 = .ok (.iload 4, 2) := by decide +kernel
theorem dX0_trait_88 : decode cX0_trait 88 = .ok (.bipush 15, 2) := by decide +kernel
theorem dX0_trait_90 : decode cX0_trait 90 = .ok (.if_icmp .ne 20, 3) := by decide +kernel
theorem dX0_trait_93 : decode cX0_trait 93 = .ok (.aload_n 0, 1) := by decide +kernel
theorem dX0_trait_94 : decode cX0_trait 94 = .ok (.getfield 33, 3) := by decide +kernel
theorem dX0_trait_97 : decode cX0_trait 97 = .ok (.aload_n 0, 1) := by decide +kernel
theorem dX0_trait_98 : decode cX0_trait 98 = .ok (.getfield 11, 3) := by decide +kernel
theorem dX0_trait_101 : decode cX0_trait 101 = .ok (.iload 5, 2) := by decide +kernel
theorem dX0_trait_103 : decode cX0_trait 103 = .ok (.laload, 1) := by decide +kernel
theorem dX0_trait_104 : decode cX0_trait 104 = .ok (.invokevirtual 63, 3) := by decide +kernel
theorem dX0_trait_107 : decode cX0_trait 107 = .ok (.goto 15, 3) := by decide +kernel
theorem dX0_trait_110 : decode cX0_trait 110 = .ok (.aload_n 0, 1) := by decide +kernel
theorem dX0_trait_111 : decode cX0_trait 111 = .ok (.getfield 11, 3) := by decide +kernel
theorem dX0_trait_114 : decode cX0_trait 114 = .ok (.iload 5, 2) := by decide +kernel
theorem dX0_trait_116 : decode cX0_trait 116 = .ok (.laload, 1) := by decide +kernel
theorem dX0_trait_117 : decode cX0_trait 117 = .ok (.iload 4, 2) := by decide +kernel
theorem dX0_trait_119 : decode cX0_trait 119 = .ok (.invokestatic 69, 3) := by decide +kernel
theorem dX0_trait_122 : decode cX0_trait 122 = .ok (.iadd, 1) := by decide +kernel
theorem dX0_trait_123 : decode cX0_trait 123 = .ok (.istore 8, 2) := by decide +kernel
theorem dX0_trait_125 : decode cX0_trait 125 = .ok (.aload_n 0, 1) := by decide +kernel
theorem dX0_trait_126 : decode cX0_trait 126 = .ok (.getfield 25, 3) := by decide +kernel
theorem dX0_trait_129 : decode cX0_trait 129 = .ok (.iload 6, 2) := by decide +kernel
theorem dX0_trait_131 : decode cX0_trait 131 = .ok (.dup2, 1) := by decide +kernel
theorem dX0_trait_132 : decode cX0_trait 132 = .ok (.laload, 1) := by decide +kernel
theorem dX0_trait_133 : decode cX0_trait 133 = .ok (.iload 8, 2) := by decide +kernel
theorem dX0_trait_135 : decode cX0_trait 135 = .ok (.i2l, 1) := by decide +kernel
theorem dX0_trait_136 : decode cX0_trait 136 = .ok (.iload 7, 2) := by decide +kernel
theorem dX0_trait_138 : decode cX0_trait 138 = .ok (.lshl, 1) := by decide +kernel
theorem dX0_trait_139 : decode cX0_trait 139 = .ok (.lor, 1) := by decide +kernel
theorem dX0_trait_140 : decode cX0_trait 140 = .ok (.lastore, 1) := by decide +kernel
theorem dX0_trait_141 : decode cX0_trait 141 = .ok (.iload 8, 2) := by decide +kernel
theorem dX0_trait_143 : decode cX0_trait 143 = .ok (.iconst 1, 1) := by decide +kernel
theorem dX0_trait_144 : decode cX0_trait 144 = .ok (.isub, 1) := by decide +kernel
theorem dX0_trait_145 : decode cX0_trait 145 = .ok (.ireturn, 1) := by decide +kernel
theorem dX0_crowds_0 : decode cX0_crowds 0 = .ok (.iconst 0, 1) := by decide +kernel
theorem dX0_crowds_1 : decode cX0_crowds 1 = .ok (.istore 5, 2) := by decide +kernel
theorem dX0_crowds_3 : decode cX0_crowds 3 = .ok (.iload 5, 2) := by decide +kernel
theorem dX0_crowds_5 : decode cX0_crowds 5 = .ok (.aload_n 0, 1) := by decide +kernel
theorem dX0_crowds_6 : decode cX0_crowds 6 = .ok (.getfield 30, 3) := by decide +kernel
theorem dX0_crowds_9 : decode cX0_crowds 9 = .ok (.arraylength, 1) := by decide +kernel
theorem dX0_crowds_10 : decode cX0_crowds 10 = .ok (.if_icmp .ge 17, 3) := by decide +kernel
theorem dX0_crowds_13 : decode cX0_crowds 13 = .ok (.aload_n 0, 1) := by decide +kernel
theorem dX0_crowds_14 : decode cX0_crowds 14 = .ok (.getfield 30, 3) := by decide +kernel
theorem dX0_crowds_17 : decode cX0_crowds 17 = .ok (.iload 5, 2) := by decide +kernel
theorem dX0_crowds_19 : decode cX0_crowds 19 = .ok (.iconst 0, 1) := by decide +kernel
theorem dX0_crowds_20 : decode cX0_crowds 20 = .ok (.iastore, 1) := by decide +kernel
theorem dX0_crowds_21 : decode cX0_crowds 21 = .ok (.iinc 5 1, 3) := by decide +kernel
theorem dX0_crowds_24 : decode cX0_crowds 24 = .ok (.goto (-21), 3) := by decide +kernel
theorem dX0_crowds_27 : decode cX0_crowds 27 = .ok (.aload_n 0, 1) := by decide +kernel
theorem dX0_crowds_28 : decode cX0_crowds 28 = .ok (.iload_n 1, 1) := by decide +kernel
theorem dX0_crowds_29 : decode cX0_crowds 29 = .ok (.iload_n 2, 1) := by decide +kernel
theorem dX0_crowds_30 : decode cX0_crowds 30 = .ok (.invokevirtual 75, 3) := by decide +kernel
theorem dX0_crowds_33 : decode cX0_crowds 33 = .ok (.istore 5, 2) := by decide +kernel
theorem dX0_crowds_35 : decode cX0_crowds 35 = .ok (.iconst 0, 1) := by decide +kernel
theorem dX0_crowds_36 : decode cX0_crowds 36 = .ok (.istore 6, 2) := by decide +kernel
theorem dX0_crowds_38 : decode cX0_crowds 38 = .ok (.iconst 0, 1) := by decide +kernel
theorem dX0_crowds_39 : decode cX0_crowds 39 = .ok (.istore 7, 2) := by decide +kernel
theorem dX0_crowds_41 : decode cX0_crowds 41 = .ok (.iconst 0, 1) := by decide +kernel
theorem dX0_crowds_42 : decode cX0_crowds 42 = .ok (.istore 8, 2) := by decide +kernel
theorem dX0_crowds_44 : decode cX0_crowds 44 = .ok (.iload 8, 2) := by decide +kernel
theorem dX0_crowds_46 : decode cX0_crowds 46 = .ok (.iload 5, 2) := by decide +kernel
theorem dX0_crowds_48 : decode cX0_crowds 48 = .ok (.if_icmp .ge 81, 3) := by decide +kernel
theorem dX0_crowds_51 : decode cX0_crowds 51 = .ok (.aload_n 0, 1) := by decide +kernel
theorem dX0_crowds_52 : decode cX0_crowds 52 = .ok (.iload_n 1, 1) := by decide +kernel
theorem dX0_crowds_53 : decode cX0_crowds 53 = .ok (.iload_n 2, 1) := by decide +kernel
theorem dX0_crowds_54 : decode cX0_crowds 54 = .ok (.iload 8, 2) := by decide +kernel
theorem dX0_crowds_56 : decode cX0_crowds 56 = .ok (.iload_n 3, 1) := by decide +kernel
theorem dX0_crowds_57 : decode cX0_crowds 57 = .ok (.invokevirtual 78, 3) := by decide +kernel
theorem dX0_crowds_60 : decode cX0_crowds 60 = .ok (.istore 9, 2) := by decide +kernel
theorem dX0_crowds_62 : decode cX0_crowds 62 = .ok (.iload 9, 2) := by decide +kernel
theorem dX0_crowds_64 : decode cX0_crowds 64 = .ok (.iconst 0, 1) := by decide +kernel
theorem dX0_crowds_65 : decode cX0_crowds 65 = .ok (.aload_n 0, 1) := by decide +kernel
theorem dX0_crowds_66 : decode cX0_crowds 66 = .ok (.getfield 30, 3) := by decide +kernel
theorem dX0_crowds_69 : decode cX0_crowds 69 = .ok (.arraylength, 1) := by decide +kernel
theorem dX0_crowds_70 : decode cX0_crowds 70 = .ok (.iconst 1, 1) := by decide +kernel
theorem dX0_crowds_71 : decode cX0_crowds 71 = .ok (.isub, 1) := by decide +kernel
theorem dX0_crowds_72 : decode cX0_crowds 72 = .ok (.invokestatic 59, 3) := by decide +kernel
theorem dX0_crowds_75 : decode cX0_crowds 75 = .ok (.ifCond .eq 48, 3) := by decide +kernel
theorem dX0_crowds_78 : decode cX0_crowds 78 = .ok (.iload 7, 2) := by decide +kernel
theorem dX0_crowds_80 : decode cX0_crowds 80 = .ok (.aload_n 0, 1) := by decide +kernel
theorem dX0_crowds_81 : decode cX0_crowds 81 = .ok (.getfield 30, 3) := by decide +kernel
theorem dX0_crowds_84 : decode cX0_crowds 84 = .ok (.iload 9, 2) := by decide +kernel
theorem dX0_crowds_86 : decode cX0_crowds 86 = .ok (.iaload, 1) := by decide +kernel
theorem dX0_crowds_87 : decode cX0_crowds 87 = .ok (.ifCond .ne 7, 3) := by decide +kernel
theorem dX0_crowds_90 : decode cX0_crowds 90 = .ok (.iconst 1, 1) := by decide +kernel
theorem dX0_crowds_91 : decode cX0_crowds 91 = .ok (.goto 4, 3) := by decide +kernel
theorem dX0_crowds_94 : decode cX0_crowds 94 = .ok (.iconst 0, 1) := by decide +kernel
theorem dX0_crowds_95 : decode cX0_crowds 95 = .ok (.iadd, 1) := by decide +kernel
theorem dX0_crowds_96 : decode cX0_crowds 96 = .ok (.istore 7, 2) := by decide +kernel
theorem dX0_crowds_98 : decode cX0_crowds 98 = .ok (.aload_n 0, 1) := by decide +kernel
theorem dX0_crowds_99 : decode cX0_crowds 99 = .ok (.getfield 30, 3) := by decide +kernel
theorem dX0_crowds_102 : decode cX0_crowds 102 = .ok (.iload 9, 2) := by decide +kernel
theorem dX0_crowds_104 : decode cX0_crowds 104 = .ok (.dup2, 1) := by decide +kernel
theorem dX0_crowds_105 : decode cX0_crowds 105 = .ok (.iaload, 1) := by decide +kernel
theorem dX0_crowds_106 : decode cX0_crowds 106 = .ok (.iconst 1, 1) := by decide +kernel
theorem dX0_crowds_107 : decode cX0_crowds 107 = .ok (.iadd, 1) := by decide +kernel
theorem dX0_crowds_108 : decode cX0_crowds 108 = .ok (.iastore, 1) := by decide +kernel
theorem dX0_crowds_109 : decode cX0_crowds 109 = .ok (.iload 6, 2) := by decide +kernel
theorem dX0_crowds_111 : decode cX0_crowds 111 = .ok (.aload_n 0, 1) := by decide +kernel
theorem dX0_crowds_112 : decode cX0_crowds 112 = .ok (.getfield 30, 3) := by decide +kernel
theorem dX0_crowds_115 : decode cX0_crowds 115 = .ok (.iload 9, 2) := by decide +kernel
theorem dX0_crowds_117 : decode cX0_crowds 117 = .ok (.iaload, 1) := by decide +kernel
theorem dX0_crowds_118 : decode cX0_crowds 118 = .ok (.invokestatic 82, 3) := by decide +kernel
theorem dX0_crowds_121 : decode cX0_crowds 121 = .ok (.istore 6, 2) := by decide +kernel
theorem dX0_crowds_123 : decode cX0_crowds 123 = .ok (.iinc 8 1, 3) := by decide +kernel
theorem dX0_crowds_126 : decode cX0_crowds 126 = .ok (.goto (-82), 3) := by decide +kernel
theorem dX0_crowds_129 : decode cX0_crowds 129 = .ok (.iload 4, 2) := by decide +kernel
theorem dX0_crowds_131 : decode cX0_crowds 131 = .ok (.ifCond .eq 8, 3) := by decide +kernel
theorem dX0_crowds_134 : decode cX0_crowds 134 = .ok (.iload 6, 2) := by decide +kernel
theorem dX0_crowds_136 : decode cX0_crowds 136 = .ok (.goto 5, 3) := by decide +kernel
theorem dX0_crowds_139 : decode cX0_crowds 139 = .ok (.iload 7, 2) := by decide +kernel
theorem dX0_crowds_141 : decode cX0_crowds 141 = .ok (.ireturn, 1) := by decide +kernel
theorem dX0_end_0 : decode cX0_end 0 = .ok (.iload_n 2, 1) := by decide +kernel
theorem dX0_end_1 : decode cX0_end 1 = .ok (.bipush 8, 2) := by decide +kernel
theorem dX0_end_3 : decode cX0_end 3 = .ok (.imul, 1) := by decide +kernel
theorem dX0_end_4 : decode cX0_end 4 = .ok (.iload_n 1, 1) := by decide +kernel
theorem dX0_end_5 : decode cX0_end 5 = .ok (.iadd, 1) := by decide +kernel
theorem dX0_end_6 : decode cX0_end 6 = .ok (.istore_n 3, 1) := by decide +kernel
theorem dX0_end_7 : decode cX0_end 7 = .ok (.iload_n 3, 1) := by decide +kernel
theorem dX0_end_8 : decode cX0_end 8 = .ok (.iconst 0, 1) := by decide +kernel
theorem dX0_end_9 : decode cX0_end 9 = .ok (.aload_n 0, 1) := by decide +kernel
theorem dX0_end_10 : decode cX0_end 10 = .ok (.getfield 22, 3) := by decide +kernel
theorem dX0_end_13 : decode cX0_end 13 = .ok (.arraylength, 1) := by decide +kernel
theorem dX0_end_14 : decode cX0_end 14 = .ok (.iconst 1, 1) := by decide +kernel
theorem dX0_end_15 : decode cX0_end 15 = .ok (.isub, 1) := by decide +kernel
theorem dX0_end_16 : decode cX0_end 16 = .ok (.invokestatic 59, 3) := by decide +kernel
theorem dX0_end_19 : decode cX0_end 19 = .ok (.ifCond .eq 12, 3) := by decide +kernel
theorem dX0_end_22 : decode cX0_end 22 = .ok (.aload_n 0, 1) := by decide +kernel
theorem dX0_end_23 : decode cX0_end 23 = .ok (.getfield 22, 3) := by decide +kernel
theorem dX0_end_26 : decode cX0_end 26 = .ok (.iload_n 3, 1) := by decide +kernel
theorem dX0_end_27 : decode cX0_end 27 = .ok (.iaload, 1) := by decide +kernel
theorem dX0_end_28 : decode cX0_end 28 = .ok (.goto 4, 3) := by decide +kernel
theorem dX0_end_31 : decode cX0_end 31 = .ok (.iconst 0, 1) := by decide +kernel
theorem dX0_end_32 : decode cX0_end 32 = .ok (.ireturn, 1) := by decide +kernel
theorem dX0_numberOf_0 : decode cX0_numberOf 0 = .ok (.iload_n 1, 1) := by decide +kernel
theorem dX0_numberOf_1 : decode cX0_numberOf 1 = .ok (.iconst 0, 1) := by decide +kernel
theorem dX0_numberOf_2 : decode cX0_numberOf 2 = .ok (.sipush 1066, 3) := by decide +kernel
theorem dX0_numberOf_5 : decode cX0_numberOf 5 = .ok (.invokestatic 59, 3) := by decide +kernel
theorem dX0_numberOf_8 : decode cX0_numberOf 8 = .ok (.ifCond .eq 12, 3) := by decide +kernel
theorem dX0_numberOf_11 : decode cX0_numberOf 11 = .ok (.aload_n 0, 1) := by decide +kernel
theorem dX0_numberOf_12 : decode cX0_numberOf 12 = .ok (.getfield 11, 3) := by decide +kernel
theorem dX0_numberOf_15 : decode cX0_numberOf 15 = .ok (.iload_n 1, 1) := by decide +kernel
theorem dX0_numberOf_16 : decode cX0_numberOf 16 = .ok (.laload, 1) := by decide +kernel
theorem dX0_numberOf_17 : decode cX0_numberOf 17 = .ok (.goto 4, 3) := by decide +kernel
theorem dX0_numberOf_20 : decode cX0_numberOf 20 = .ok (.lconst 0, 1) := by decide +kernel
theorem dX0_numberOf_21 : decode cX0_numberOf 21 = .ok (.lreturn, 1) := by decide +kernel
theorem dX0_member_0 : decode cX0_member 0 = .ok (.iload_n 1, 1) := by decide +kernel
theorem dX0_member_1 : decode cX0_member 1 = .ok (.ifCond .ne 5, 3) := by decide +kernel
theorem dX0_member_4 : decode cX0_member 4 = .ok (.iload_n 2, 1) := by decide +kernel
theorem dX0_member_5 : decode cX0_member 5 = .ok (.ireturn, 1) := by decide +kernel
theorem dX0_member_6 : decode cX0_member 6 = .ok (.iload_n 1, 1) := by decide +kernel
theorem dX0_member_7 : decode cX0_member 7 = .ok (.iconst 1, 1) := by decide +kernel
theorem dX0_member_8 : decode cX0_member 8 = .ok (.if_icmp .ne 10, 3) := by decide +kernel
theorem dX0_member_11 : decode cX0_member 11 = .ok (.aload_n 0, 1) := by decide +kernel
theorem dX0_member_12 : decode cX0_member 12 = .ok (.getfield 15, 3) := by decide +kernel
theorem dX0_member_15 : decode cX0_member 15 = .ok (.goto 7, 3) := by decide +kernel
theorem dX0_member_18 : decode cX0_member 18 = .ok (.aload_n 0, 1) := by decide +kernel
theorem dX0_member_19 : decode cX0_member 19 = .ok (.getfield 19, 3) := by decide +kernel
theorem dX0_member_22 : decode cX0_member 22 = .ok (.astore_n 3, 1) := by decide +kernel
theorem dX0_member_23 : decode cX0_member 23 = .ok (.iload_n 2, 1) := by decide +kernel
theorem dX0_member_24 : decode cX0_member 24 = .ok (.iconst 0, 1) := by decide +kernel
theorem dX0_member_25 : decode cX0_member 25 = .ok (.aload_n 3, 1) := by decide +kernel
theorem dX0_member_26 : decode cX0_member 26 = .ok (.arraylength, 1) := by decide +kernel
theorem dX0_member_27 : decode cX0_member 27 = .ok (.iconst 1, 1) := by decide +kernel
theorem dX0_member_28 : decode cX0_member 28 = .ok (.isub, 1) := by decide +kernel
theorem dX0_member_29 : decode cX0_member 29 = .ok (.invokestatic 59, 3) := by decide +kernel
theorem dX0_member_32 : decode cX0_member 32 = .ok (.ifCond .eq 9, 3) := by decide +kernel
theorem dX0_member_35 : decode cX0_member 35 = .ok (.aload_n 3, 1) := by decide +kernel
theorem dX0_member_36 : decode cX0_member 36 = .ok (.iload_n 2, 1) := by decide +kernel
theorem dX0_member_37 : decode cX0_member 37 = .ok (.iaload, 1) := by decide +kernel
theorem dX0_member_38 : decode cX0_member 38 = .ok (.goto 4, 3) := by decide +kernel
theorem dX0_member_41 : decode cX0_member 41 = .ok (.iconst (-1), 1) := by decide +kernel
theorem dX0_member_42 : decode cX0_member 42 = .ok (.ireturn, 1) := by decide +kernel
theorem dX0_makeFixed_0 : decode cX0_makeFixed 0 = .ok (.aload_n 0, 1) := by decide +kernel
theorem dX0_makeFixed_1 : decode cX0_makeFixed 1 = .ok (.getfield 22, 3) := by decide +kernel
theorem dX0_makeFixed_4 : decode cX0_makeFixed 4 = .ok (.iload_n 1, 1) := by decide +kernel
theorem dX0_makeFixed_5 : decode cX0_makeFixed 5 = .ok (.aload_n 0, 1) := by decide +kernel
theorem dX0_makeFixed_6 : decode cX0_makeFixed 6 = .ok (.getfield 22, 3) := by decide +kernel
theorem dX0_makeFixed_9 : decode cX0_makeFixed 9 = .ok (.iload_n 1, 1) := by decide +kernel
theorem dX0_makeFixed_10 : decode cX0_makeFixed 10 = .ok (.iconst 1, 1) := by decide +kernel
theorem dX0_makeFixed_11 : decode cX0_makeFixed 11 = .ok (.isub, 1) := by decide +kernel
theorem dX0_makeFixed_12 : decode cX0_makeFixed 12 = .ok (.iaload, 1) := by decide +kernel
theorem dX0_makeFixed_13 : decode cX0_makeFixed 13 = .ok (.iastore, 1) := by decide +kernel
theorem dX0_makeFixed_14 : decode cX0_makeFixed 14 = .ok (.iload_n 1, 1) := by decide +kernel
theorem dX0_makeFixed_15 : decode cX0_makeFixed 15 = .ok (.iconst 1, 1) := by decide +kernel
theorem dX0_makeFixed_16 : decode cX0_makeFixed 16 = .ok (.if_icmp .ne 10, 3) := by decide +kernel
theorem dX0_makeFixed_19 : decode cX0_makeFixed 19 = .ok (.aload_n 0, 1) := by decide +kernel
theorem dX0_makeFixed_20 : decode cX0_makeFixed 20 = .ok (.iconst 1, 1) := by decide +kernel
theorem dX0_makeFixed_21 : decode cX0_makeFixed 21 = .ok (.lconst 1, 1) := by decide +kernel
theorem dX0_makeFixed_22 : decode cX0_makeFixed 22 = .ok (.invokevirtual 87, 3) := by decide +kernel
theorem dX0_makeFixed_25 : decode cX0_makeFixed 25 = .ok (.return_, 1) := by decide +kernel
theorem dX0_makeFixed_26 : decode cX0_makeFixed 26 = .ok (.aload_n 0, 1) := by decide +kernel
theorem dX0_makeFixed_27 : decode cX0_makeFixed 27 = .ok (.getfield 22, 3) := by decide +kernel
theorem dX0_makeFixed_30 : decode cX0_makeFixed 30 = .ok (.iload_n 1, 1) := by decide +kernel
theorem dX0_makeFixed_31 : decode cX0_makeFixed 31 = .ok (.iconst 2, 1) := by decide +kernel
theorem dX0_makeFixed_32 : decode cX0_makeFixed 32 = .ok (.isub, 1) := by decide +kernel
theorem dX0_makeFixed_33 : decode cX0_makeFixed 33 = .ok (.iaload, 1) := by decide +kernel
theorem dX0_makeFixed_34 : decode cX0_makeFixed 34 = .ok (.istore_n 2, 1) := by decide +kernel
theorem dX0_makeFixed_35 : decode cX0_makeFixed 35 = .ok (.iload_n 2, 1) := by decide +kernel
theorem dX0_makeFixed_36 : decode cX0_makeFixed 36 = .ok (.aload_n 0, 1) := by decide +kernel
theorem dX0_makeFixed_37 : decode cX0_makeFixed 37 = .ok (.getfield 22, 3) := by decide +kernel
theorem dX0_makeFixed_40 : decode cX0_makeFixed 40 = .ok (.iload_n 1, 1) := by decide +kernel
theorem dX0_makeFixed_41 : decode cX0_makeFixed 41 = .ok (.iconst 1, 1) := by decide +kernel
theorem dX0_makeFixed_42 : decode cX0_makeFixed 42 = .ok (.isub, 1) := by decide +kernel
theorem dX0_makeFixed_43 : decode cX0_makeFixed 43 = .ok (.iaload, 1) := by decide +kernel
theorem dX0_makeFixed_44 : decode cX0_makeFixed 44 = .ok (.if_icmp .ge 27, 3) := by decide +kernel
theorem dX0_makeFixed_47 : decode cX0_makeFixed 47 = .ok (.iload_n 2, 1) := by decide +kernel
theorem dX0_makeFixed_48 : decode cX0_makeFixed 48 = .ok (.sipush 1067, 3) := by decide +kernel
theorem dX0_makeFixed_51 : decode cX0_makeFixed 51 = .ok (.if_icmp .ge 20, 3) := by decide +kernel
theorem dX0_makeFixed_54 : decode cX0_makeFixed 54 = .ok (.aload_n 0, 1) := by decide +kernel
theorem dX0_makeFixed_55 : decode cX0_makeFixed 55 = .ok (.iload_n 1, 1) := by decide +kernel
theorem dX0_makeFixed_56 : decode cX0_makeFixed 56 = .ok (.aload_n 0, 1) := by decide +kernel
theorem dX0_makeFixed_57 : decode cX0_makeFixed 57 = .ok (.getfield 11, 3) := by decide +kernel
theorem dX0_makeFixed_60 : decode cX0_makeFixed 60 = .ok (.iload_n 2, 1) := by decide +kernel
theorem dX0_makeFixed_61 : decode cX0_makeFixed 61 = .ok (.laload, 1) := by decide +kernel
theorem dX0_makeFixed_62 : decode cX0_makeFixed 62 = .ok (.invokevirtual 91, 3) := by decide +kernel
theorem dX0_makeFixed_65 : decode cX0_makeFixed 65 = .ok (.iinc 2 1, 3) := by decide +kernel
theorem dX0_makeFixed_68 : decode cX0_makeFixed 68 = .ok (.goto (-33), 3) := by decide +kernel
theorem dX0_makeFixed_71 : decode cX0_makeFixed 71 = .ok (.return_, 1) := by decide +kernel
theorem dX0_insertGrown_0 : decode cX0_insertGrown 0 = .ok (.lload_n 2, 1) := by decide +kernel
theorem dX0_insertGrown_1 : decode cX0_insertGrown 1 = .ok (.invokestatic 94, 3) := by decide +kernel
theorem dX0_insertGrown_4 : decode cX0_insertGrown 4 = .ok (.lstore 4, 2) := by decide +kernel
theorem dX0_insertGrown_6 : decode cX0_insertGrown 6 = .ok (.lload_n 2, 1) := by decide +kernel
theorem dX0_insertGrown_7 : decode cX0_insertGrown 7 = .ok (.lload 4, 2) := by decide +kernel
theorem dX0_insertGrown_9 : decode cX0_insertGrown 9 = .ok (.invokestatic 98, 3) := by decide +kernel
theorem dX0_insertGrown_12 : decode cX0_insertGrown 12 = .ok (.lstore 6, 2) := by decide +kernel
theorem dX0_insertGrown_14 : decode cX0_insertGrown 14 = .ok (.lload 6, 2) := by decide +kernel
theorem dX0_insertGrown_16 : decode cX0_insertGrown 16 = .ok (.invokestatic 102, 3) := by decide +kernel
theorem dX0_insertGrown_19 : decode cX0_insertGrown 19 = .ok (.istore 8, 2) := by decide +kernel
theorem dX0_insertGrown_21 : decode cX0_insertGrown 21 = .ok (.iconst 0, 1) := by decide +kernel
theorem dX0_insertGrown_22 : decode cX0_insertGrown 22 = .ok (.istore 9, 2) := by decide +kernel
theorem dX0_insertGrown_24 : decode cX0_insertGrown 24 = .ok (.iload 9, 2) := by decide +kernel
theorem dX0_insertGrown_26 : decode cX0_insertGrown 26 = .ok (.iload 8, 2) := by decide +kernel
theorem dX0_insertGrown_28 : decode cX0_insertGrown 28 = .ok (.if_icmp .ge 37, 3) := by decide +kernel
theorem dX0_insertGrown_31 : decode cX0_insertGrown 31 = .ok (.lload 6, 2) := by decide +kernel
theorem dX0_insertGrown_33 : decode cX0_insertGrown 33 = .ok (.lload 6, 2) := by decide +kernel
theorem dX0_insertGrown_35 : decode cX0_insertGrown 35 = .ok (.lneg, 1) := by decide +kernel
theorem dX0_insertGrown_36 : decode cX0_insertGrown 36 = .ok (.land, 1) := by decide +kernel
theorem dX0_insertGrown_37 : decode cX0_insertGrown 37 = .ok (.lstore 10, 2) := by decide +kernel
theorem dX0_insertGrown_39 : decode cX0_insertGrown 39 = .ok (.lload 6, 2) := by decide +kernel
theorem dX0_insertGrown_41 : decode cX0_insertGrown 41 = .ok (.lload 10, 2) := by decide +kernel
theorem dX0_insertGrown_43 : decode cX0_insertGrown 43 = .ok (.lxor, 1) := by decide +kernel
theorem dX0_insertGrown_44 : decode cX0_insertGrown 44 = .ok (.lstore 6, 2) := by decide +kernel
theorem dX0_insertGrown_46 : decode cX0_insertGrown 46 = .ok (.aload_n 0, 1) := by decide +kernel
theorem dX0_insertGrown_47 : decode cX0_insertGrown 47 = .ok (.iload_n 1, 1) := by decide +kernel
theorem dX0_insertGrown_48 : decode cX0_insertGrown 48 = .ok (.lload 4, 2) := by decide +kernel
theorem dX0_insertGrown_50 : decode cX0_insertGrown 50 = .ok (.lload 10, 2) := by decide +kernel
theorem dX0_insertGrown_52 : decode cX0_insertGrown 52 = .ok (.lor, 1) := by decide +kernel
theorem dX0_insertGrown_53 : decode cX0_insertGrown 53 = .ok (.invokestatic 107, 3) := by decide +kernel
theorem dX0_insertGrown_56 : decode cX0_insertGrown 56 = .ok (.invokevirtual 87, 3) := by decide +kernel
theorem dX0_insertGrown_59 : decode cX0_insertGrown 59 = .ok (.iinc 9 1, 3) := by decide +kernel
theorem dX0_insertGrown_62 : decode cX0_insertGrown 62 = .ok (.goto (-38), 3) := by decide +kernel
theorem dX0_insertGrown_65 : decode cX0_insertGrown 65 = .ok (.return_, 1) := by decide +kernel
theorem dX0_insert_0 : decode cX0_insert 0 = .ok (.aload_n 0, 1) := by decide +kernel
theorem dX0_insert_1 : decode cX0_insert 1 = .ok (.getfield 22, 3) := by decide +kernel
theorem dX0_insert_4 : decode cX0_insert 4 = .ok (.iload_n 1, 1) := by decide +kernel
theorem dX0_insert_5 : decode cX0_insert 5 = .ok (.iconst 1, 1) := by decide +kernel
theorem dX0_insert_6 : decode cX0_insert 6 = .ok (.isub, 1) := by decide +kernel
theorem dX0_insert_7 : decode cX0_insert 7 = .ok (.iaload, 1) := by decide +kernel
theorem dX0_insert_8 : decode cX0_insert 8 = .ok (.istore 4, 2) := by decide +kernel
theorem dX0_insert_10 : decode cX0_insert 10 = .ok (.aload_n 0, 1) := by decide +kernel
theorem dX0_insert_11 : decode cX0_insert 11 = .ok (.getfield 22, 3) := by decide +kernel
theorem dX0_insert_14 : decode cX0_insert 14 = .ok (.iload_n 1, 1) := by decide +kernel
theorem dX0_insert_15 : decode cX0_insert 15 = .ok (.iaload, 1) := by decide +kernel
theorem dX0_insert_16 : decode cX0_insert 16 = .ok (.istore 5, 2) := by decide +kernel
theorem dX0_insert_18 : decode cX0_insert 18 = .ok (.iload 5, 2) := by decide +kernel
theorem dX0_insert_20 : decode cX0_insert 20 = .ok (.istore 6, 2) := by decide +kernel
theorem dX0_insert_22 : decode cX0_insert 22 = .ok (.iconst 0, 1) := by decide +kernel
theorem dX0_insert_23 : decode cX0_insert 23 = .ok (.istore 7, 2) := by decide +kernel
theorem dX0_insert_25 : decode cX0_insert 25 = .ok (.iload 7, 2) := by decide +kernel
theorem dX0_insert_27 : decode cX0_insert 27 = .ok (.bipush 32, 2) := by decide +kernel
theorem dX0_insert_29 : decode cX0_insert 29 = .ok (.if_icmp .ge 50, 3) := by decide +kernel
theorem dX0_insert_32 : decode cX0_insert 32 = .ok (.iload 4, 2) := by decide +kernel
theorem dX0_insert_34 : decode cX0_insert 34 = .ok (.iload 6, 2) := by decide +kernel
theorem dX0_insert_36 : decode cX0_insert 36 = .ok (.if_icmp .ge 43, 3) := by decide +kernel
theorem dX0_insert_39 : decode cX0_insert 39 = .ok (.iload 4, 2) := by decide +kernel
theorem dX0_insert_41 : decode cX0_insert 41 = .ok (.iload 6, 2) := by decide +kernel
theorem dX0_insert_43 : decode cX0_insert 43 = .ok (.iadd, 1) := by decide +kernel
theorem dX0_insert_44 : decode cX0_insert 44 = .ok (.iconst 1, 1) := by decide +kernel
theorem dX0_insert_45 : decode cX0_insert 45 = .ok (.iushr, 1) := by decide +kernel
theorem dX0_insert_46 : decode cX0_insert 46 = .ok (.istore 8, 2) := by decide +kernel
theorem dX0_insert_48 : decode cX0_insert 48 = .ok (.aload_n 0, 1) := by decide +kernel
theorem dX0_insert_49 : decode cX0_insert 49 = .ok (.getfield 11, 3) := by decide +kernel
theorem dX0_insert_52 : decode cX0_insert 52 = .ok (.iload 8, 2) := by decide +kernel
theorem dX0_insert_54 : decode cX0_insert 54 = .ok (.laload, 1) := by decide +kernel
theorem dX0_insert_55 : decode cX0_insert 55 = .ok (.lload_n 2, 1) := by decide +kernel
theorem dX0_insert_56 : decode cX0_insert 56 = .ok (.lcmp, 1) := by decide +kernel
theorem dX0_insert_57 : decode cX0_insert 57 = .ok (.ifCond .ge 12, 3) := by decide +kernel
theorem dX0_insert_60 : decode cX0_insert 60 = .ok (.iload 8, 2) := by decide +kernel
theorem dX0_insert_62 : decode cX0_insert 62 = .ok (.iconst 1, 1) := by decide +kernel
theorem dX0_insert_63 : decode cX0_insert 63 = .ok (.iadd, 1) := by decide +kernel
theorem dX0_insert_64 : decode cX0_insert 64 = .ok (.istore 4, 2) := by decide +kernel
theorem dX0_insert_66 : decode cX0_insert 66 = .ok (.goto 7, 3) := by decide +kernel
theorem dX0_insert_69 : decode cX0_insert 69 = .ok (.iload 8, 2) := by decide +kernel
theorem dX0_insert_71 : decode cX0_insert 71 = .ok (.istore 6, 2) := by decide +kernel
theorem dX0_insert_73 : decode cX0_insert 73 = .ok (.iinc 7 1, 3) := by decide +kernel
theorem dX0_insert_76 : decode cX0_insert 76 = .ok (.goto (-51), 3) := by decide +kernel
theorem dX0_insert_79 : decode cX0_insert 79 = .ok (.iload 4, 2) := by decide +kernel
theorem dX0_insert_81 : decode cX0_insert 81 = .ok (.iload 5, 2) := by decide +kernel
theorem dX0_insert_83 : decode cX0_insert 83 = .ok (.if_icmp .ge 15, 3) := by decide +kernel
theorem dX0_insert_86 : decode cX0_insert 86 = .ok (.aload_n 0, 1) := by decide +kernel
theorem dX0_insert_87 : decode cX0_insert 87 = .ok (.getfield 11, 3) := by decide +kernel
theorem dX0_insert_90 : decode cX0_insert 90 = .ok (.iload 4, 2) := by decide +kernel
theorem dX0_insert_92 : decode cX0_insert 92 = .ok (.laload, 1) := by decide +kernel
theorem dX0_insert_93 : decode cX0_insert 93 = .ok (.lload_n 2, 1) := by decide +kernel
theorem dX0_insert_94 : decode cX0_insert 94 = .ok (.lcmp, 1) := by decide +kernel
theorem dX0_insert_95 : decode cX0_insert 95 = .ok (.ifCond .eq 11, 3) := by decide +kernel
theorem dX0_insert_98 : decode cX0_insert 98 = .ok (.iload 5, 2) := by decide +kernel
theorem dX0_insert_100 : decode cX0_insert 100 = .ok (.sipush 1067, 3) := by decide +kernel
theorem dX0_insert_103 : decode cX0_insert 103 = .ok (.if_icmp .lt 4, 3) := by decide +kernel
theorem dX0_insert_106 : decode cX0_insert 106 = .ok (.return_, 1) := by decide +kernel
theorem dX0_insert_107 : decode cX0_insert 107 = .ok (.aload_n 0, 1) := by decide +kernel
theorem dX0_insert_108 : decode cX0_insert 108 = .ok (.getfield 11, 3) := by decide +kernel
theorem dX0_insert_111 : decode cX0_insert 111 = .ok (.iload 4, 2) := by decide +kernel
theorem dX0_insert_113 : decode cX0_insert 113 = .ok (.aload_n 0, 1) := by decide +kernel
theorem dX0_insert_114 : decode cX0_insert 114 = .ok (.getfield 11, 3) := by decide +kernel
theorem dX0_insert_117 : decode cX0_insert 117 = .ok (.iload 4, 2) := by decide +kernel
theorem dX0_insert_119 : decode cX0_insert 119 = .ok (.iconst 1, 1) := by decide +kernel
theorem dX0_insert_120 : decode cX0_insert 120 = .ok (.iadd, 1) := by decide +kernel
theorem dX0_insert_121 : decode cX0_insert 121 = .ok (.iload 5, 2) := by decide +kernel
theorem dX0_insert_123 : decode cX0_insert 123 = .ok (.iload 4, 2) := by decide +kernel
theorem dX0_insert_125 : decode cX0_insert 125 = .ok (.isub, 1) := by decide +kernel
theorem dX0_insert_126 : decode cX0_insert 126 = .ok (.invokestatic 110, 3) := by decide +kernel
theorem dX0_insert_129 : decode cX0_insert 129 = .ok (.aload_n 0, 1) := by decide +kernel
theorem dX0_insert_130 : decode cX0_insert 130 = .ok (.getfield 11, 3) := by decide +kernel
theorem dX0_insert_133 : decode cX0_insert 133 = .ok (.iload 4, 2) := by decide +kernel
theorem dX0_insert_135 : decode cX0_insert 135 = .ok (.lload_n 2, 1) := by decide +kernel
theorem dX0_insert_136 : decode cX0_insert 136 = .ok (.lastore, 1) := by decide +kernel
theorem dX0_insert_137 : decode cX0_insert 137 = .ok (.aload_n 0, 1) := by decide +kernel
theorem dX0_insert_138 : decode cX0_insert 138 = .ok (.getfield 22, 3) := by decide +kernel
theorem dX0_insert_141 : decode cX0_insert 141 = .ok (.iload_n 1, 1) := by decide +kernel
theorem dX0_insert_142 : decode cX0_insert 142 = .ok (.iload 5, 2) := by decide +kernel
theorem dX0_insert_144 : decode cX0_insert 144 = .ok (.iconst 1, 1) := by decide +kernel
theorem dX0_insert_145 : decode cX0_insert 145 = .ok (.iadd, 1) := by decide +kernel
theorem dX0_insert_146 : decode cX0_insert 146 = .ok (.iastore, 1) := by decide +kernel
theorem dX0_insert_147 : decode cX0_insert 147 = .ok (.return_, 1) := by decide +kernel
theorem dX0_sortKinds_0 : decode cX0_sortKinds 0 = .ok (.aload_n 0, 1) := by decide +kernel
theorem dX0_sortKinds_1 : decode cX0_sortKinds 1 = .ok (.iload_n 1, 1) := by decide +kernel
theorem dX0_sortKinds_2 : decode cX0_sortKinds 2 = .ok (.iconst 1, 1) := by decide +kernel
theorem dX0_sortKinds_3 : decode cX0_sortKinds 3 = .ok (.isub, 1) := by decide +kernel
theorem dX0_sortKinds_4 : decode cX0_sortKinds 4 = .ok (.iconst 1, 1) := by decide +kernel
theorem dX0_sortKinds_5 : decode cX0_sortKinds 5 = .ok (.invokevirtual 48, 3) := by decide +kernel
theorem dX0_sortKinds_8 : decode cX0_sortKinds 8 = .ok (.istore_n 2, 1) := by decide +kernel
theorem dX0_sortKinds_9 : decode cX0_sortKinds 9 = .ok (.aload_n 0, 1) := by decide +kernel
theorem dX0_sortKinds_10 : decode cX0_sortKinds 10 = .ok (.iload_n 1, 1) := by decide +kernel
theorem dX0_sortKinds_11 : decode cX0_sortKinds 11 = .ok (.iconst 1, 1) := by decide +kernel
theorem dX0_sortKinds_12 : decode cX0_sortKinds 12 = .ok (.isub, 1) := by decide +kernel
theorem dX0_sortKinds_13 : decode cX0_sortKinds 13 = .ok (.iconst 2, 1) := by decide +kernel
theorem dX0_sortKinds_14 : decode cX0_sortKinds 14 = .ok (.invokevirtual 48, 3) := by decide +kernel
theorem dX0_sortKinds_17 : decode cX0_sortKinds 17 = .ok (.istore_n 3, 1) := by decide +kernel
theorem dX0_sortKinds_18 : decode cX0_sortKinds 18 = .ok (.aload_n 0, 1) := by decide +kernel
theorem dX0_sortKinds_19 : decode cX0_sortKinds 19 = .ok (.getfield 22, 3) := by decide +kernel
theorem dX0_sortKinds_22 : decode cX0_sortKinds 22 = .ok (.iload_n 1, 1) := by decide +kernel
theorem dX0_sortKinds_23 : decode cX0_sortKinds 23 = .ok (.iconst 1, 1) := by decide +kernel
theorem dX0_sortKinds_24 : decode cX0_sortKinds 24 = .ok (.isub, 1) := by decide +kernel
theorem dX0_sortKinds_25 : decode cX0_sortKinds 25 = .ok (.iaload, 1) := by decide +kernel
theorem dX0_sortKinds_26 : decode cX0_sortKinds 26 = .ok (.istore 4, 2) := by decide +kernel
theorem dX0_sortKinds_28 : decode cX0_sortKinds 28 = .ok (.iload 4, 2) := by decide +kernel
theorem dX0_sortKinds_30 : decode cX0_sortKinds 30 = .ok (.aload_n 0, 1) := by decide +kernel
theorem dX0_sortKinds_31 : decode cX0_sortKinds 31 = .ok (.getfield 22, 3) := by decide +kernel
theorem dX0_sortKinds_34 : decode cX0_sortKinds 34 = .ok (.iload_n 1, 1) := by decide +kernel
theorem dX0_sortKinds_35 : decode cX0_sortKinds 35 = .ok (.iaload, 1) := by decide +kernel
theorem dX0_sortKinds_36 : decode cX0_sortKinds 36 = .ok (.if_icmp .ge 81, 3) := by decide +kernel
theorem dX0_sortKinds_39 : decode cX0_sortKinds 39 = .ok (.iload 4, 2) := by decide +kernel
theorem dX0_sortKinds_41 : decode cX0_sortKinds 41 = .ok (.sipush 1067, 3) := by decide +kernel
theorem dX0_sortKinds_44 : decode cX0_sortKinds 44 = .ok (.if_icmp .ge 73, 3) := by decide +kernel
theorem dX0_sortKinds_47 : decode cX0_sortKinds 47 = .ok (.iload_n 2, 1) := by decide +kernel
theorem dX0_sortKinds_48 : decode cX0_sortKinds 48 = .ok (.sipush 285, 3) := by decide +kernel
theorem dX0_sortKinds_51 : decode cX0_sortKinds 51 = .ok (.if_icmp .ge 60, 3) := by decide +kernel
theorem dX0_sortKinds_54 : decode cX0_sortKinds 54 = .ok (.aload_n 0, 1) := by decide +kernel
theorem dX0_sortKinds_55 : decode cX0_sortKinds 55 = .ok (.getfield 11, 3) := by decide +kernel
theorem dX0_sortKinds_58 : decode cX0_sortKinds 58 = .ok (.iload 4, 2) := by decide +kernel
theorem dX0_sortKinds_60 : decode cX0_sortKinds 60 = .ok (.laload, 1) := by decide +kernel
theorem dX0_sortKinds_61 : decode cX0_sortKinds 61 = .ok (.iconst 1, 1) := by decide +kernel
theorem dX0_sortKinds_62 : decode cX0_sortKinds 62 = .ok (.invokestatic 116, 3) := by decide +kernel
theorem dX0_sortKinds_65 : decode cX0_sortKinds 65 = .ok (.ifCond .eq 46, 3) := by decide +kernel
theorem dX0_sortKinds_68 : decode cX0_sortKinds 68 = .ok (.aload_n 0, 1) := by decide +kernel
theorem dX0_sortKinds_69 : decode cX0_sortKinds 69 = .ok (.getfield 15, 3) := by decide +kernel
theorem dX0_sortKinds_72 : decode cX0_sortKinds 72 = .ok (.iload_n 2, 1) := by decide +kernel
theorem dX0_sortKinds_73 : decode cX0_sortKinds 73 = .ok (.iload 4, 2) := by decide +kernel
theorem dX0_sortKinds_75 : decode cX0_sortKinds 75 = .ok (.iastore, 1) := by decide +kernel
theorem dX0_sortKinds_76 : decode cX0_sortKinds 76 = .ok (.iinc 2 1, 3) := by decide +kernel
theorem dX0_sortKinds_79 : decode cX0_sortKinds 79 = .ok (.iload_n 3, 1) := by decide +kernel
theorem dX0_sortKinds_80 : decode cX0_sortKinds 80 = .ok (.sipush 164, 3) := by decide +kernel
theorem dX0_sortKinds_83 : decode cX0_sortKinds 83 = .ok (.if_icmp .ge 28, 3) := by decide +kernel
theorem dX0_sortKinds_86 : decode cX0_sortKinds 86 = .ok (.aload_n 0, 1) := by decide +kernel
theorem dX0_sortKinds_87 : decode cX0_sortKinds 87 = .ok (.getfield 11, 3) := by decide +kernel
theorem dX0_sortKinds_90 : decode cX0_sortKinds 90 = .ok (.iload 4, 2) := by decide +kernel
theorem dX0_sortKinds_92 : decode cX0_sortKinds 92 = .ok (.laload, 1) := by decide +kernel
theorem dX0_sortKinds_93 : decode cX0_sortKinds 93 = .ok (.iconst 2, 1) := by decide +kernel
theorem dX0_sortKinds_94 : decode cX0_sortKinds 94 = .ok (.invokestatic 116, 3) := by decide +kernel
theorem dX0_sortKinds_97 : decode cX0_sortKinds 97 = .ok (.ifCond .eq 14, 3) := by decide +kernel
theorem dX0_sortKinds_100 : decode cX0_sortKinds 100 = .ok (.aload_n 0, 1) := by decide +kernel
theorem dX0_sortKinds_101 : decode cX0_sortKinds 101 = .ok (.getfield 19, 3) := by decide +kernel
theorem dX0_sortKinds_104 : decode cX0_sortKinds 104 = .ok (.iload_n 3, 1) := by decide +kernel
theorem dX0_sortKinds_105 : decode cX0_sortKinds 105 = .ok (.iload 4, 2) := by decide +kernel
theorem dX0_sortKinds_107 : decode cX0_sortKinds 107 = .ok (.iastore, 1) := by decide +kernel
theorem dX0_sortKinds_108 : decode cX0_sortKinds 108 = .ok (.iinc 3 1, 3) := by decide +kernel
theorem dX0_sortKinds_111 : decode cX0_sortKinds 111 = .ok (.iinc 4 1, 3) := by decide +kernel
theorem dX0_sortKinds_114 : decode cX0_sortKinds 114 = .ok (.goto (-86), 3) := by decide +kernel
theorem dX0_sortKinds_117 : decode cX0_sortKinds 117 = .ok (.aload_n 0, 1) := by decide +kernel
theorem dX0_sortKinds_118 : decode cX0_sortKinds 118 = .ok (.getfield 22, 3) := by decide +kernel
theorem dX0_sortKinds_121 : decode cX0_sortKinds 121 = .ok (.bipush 8, 2) := by decide +kernel
theorem dX0_sortKinds_123 : decode cX0_sortKinds 123 = .ok (.iload_n 1, 1) := by decide +kernel
theorem dX0_sortKinds_124 : decode cX0_sortKinds 124 = .ok (.iadd, 1) := by decide +kernel
theorem dX0_sortKinds_125 : decode cX0_sortKinds 125 = .ok (.iload_n 2, 1) := by decide +kernel
theorem dX0_sortKinds_126 : decode cX0_sortKinds 126 = .ok (.iastore, 1) := by decide +kernel
theorem dX0_sortKinds_127 : decode cX0_sortKinds 127 = .ok (.aload_n 0, 1) := by decide +kernel
theorem dX0_sortKinds_128 : decode cX0_sortKinds 128 = .ok (.getfield 22, 3) := by decide +kernel
theorem dX0_sortKinds_131 : decode cX0_sortKinds 131 = .ok (.bipush 16, 2) := by decide +kernel
theorem dX0_sortKinds_133 : decode cX0_sortKinds 133 = .ok (.iload_n 1, 1) := by decide +kernel
theorem dX0_sortKinds_134 : decode cX0_sortKinds 134 = .ok (.iadd, 1) := by decide +kernel
theorem dX0_sortKinds_135 : decode cX0_sortKinds 135 = .ok (.iload_n 3, 1) := by decide +kernel
theorem dX0_sortKinds_136 : decode cX0_sortKinds 136 = .ok (.iastore, 1) := by decide +kernel
theorem dX0_sortKinds_137 : decode cX0_sortKinds 137 = .ok (.return_, 1) := by decide +kernel
theorem dX1_init_0 : decode cX1_init 0 = .ok (.aload_n 0, 1) := by decide +kernel
theorem dX1_init_1 : decode cX1_init 1 = .ok (.invokespecial 5, 3) := by decide +kernel
theorem dX1_init_4 : decode cX1_init 4 = .ok (.aload_n 0, 1) := by decide +kernel
theorem dX1_init_5 : decode cX1_init 5 = .ok (.bipush 64, 2) := by decide +kernel
theorem dX1_init_7 : decode cX1_init 7 = .ok (.newarray .long, 2) := by decide +kernel
theorem dX1_init_9 : decode cX1_init 9 = .ok (.putfield 13, 3) := by decide +kernel
theorem dX1_init_12 : decode cX1_init 12 = .ok (.aload_n 0, 1) := by decide +kernel
theorem dX1_init_13 : decode cX1_init 13 = .ok (.bipush 64, 2) := by decide +kernel
theorem dX1_init_15 : decode cX1_init 15 = .ok (.newarray .int, 2) := by decide +kernel
theorem dX1_init_17 : decode cX1_init 17 = .ok (.putfield 17, 3) := by decide +kernel
theorem dX1_init_20 : decode cX1_init 20 = .ok (.aload_n 0, 1) := by decide +kernel
theorem dX1_init_21 : decode cX1_init 21 = .ok (.bipush 64, 2) := by decide +kernel
theorem dX1_init_23 : decode cX1_init 23 = .ok (.newarray .int, 2) := by decide +kernel
theorem dX1_init_25 : decode cX1_init 25 = .ok (.putfield 21, 3) := by decide +kernel
theorem dX1_init_28 : decode cX1_init 28 = .ok (.aload_n 0, 1) := by decide +kernel
theorem dX1_init_29 : decode cX1_init 29 = .ok (.bipush 64, 2) := by decide +kernel
theorem dX1_init_31 : decode cX1_init 31 = .ok (.newarray .int, 2) := by decide +kernel
theorem dX1_init_33 : decode cX1_init 33 = .ok (.putfield 24, 3) := by decide +kernel
theorem dX1_init_36 : decode cX1_init 36 = .ok (.aload_n 0, 1) := by decide +kernel
theorem dX1_init_37 : decode cX1_init 37 = .ok (.bipush 36, 2) := by decide +kernel
theorem dX1_init_39 : decode cX1_init 39 = .ok (.newarray .long, 2) := by decide +kernel
theorem dX1_init_41 : decode cX1_init 41 = .ok (.putfield 27, 3) := by decide +kernel
theorem dX1_init_44 : decode cX1_init 44 = .ok (.aload_n 0, 1) := by decide +kernel
theorem dX1_init_45 : decode cX1_init 45 = .ok (.bipush 36, 2) := by decide +kernel
theorem dX1_init_47 : decode cX1_init 47 = .ok (.newarray .int, 2) := by decide +kernel
theorem dX1_init_49 : decode cX1_init 49 = .ok (.putfield 30, 3) := by decide +kernel
theorem dX1_init_52 : decode cX1_init 52 = .ok (.aload_n 0, 1) := by decide +kernel
theorem dX1_init_53 : decode cX1_init 53 = .ok (.bipush 36, 2) := by decide +kernel
theorem dX1_init_55 : decode cX1_init 55 = .ok (.newarray .int, 2) := by decide +kernel
theorem dX1_init_57 : decode cX1_init 57 = .ok (.putfield 33, 3) := by decide +kernel
theorem dX1_init_60 : decode cX1_init 60 = .ok (.return_, 1) := by decide +kernel
theorem dX1_search_0 : decode cX1_search 0 = .ok (.aload_n 0, 1) := by decide +kernel
theorem dX1_search_1 : decode cX1_search 1 = .ok (.aload_n 3, 1) := by decide +kernel
theorem dX1_search_2 : decode cX1_search 2 = .ok (.invokevirtual 36, 3) := by decide +kernel
theorem dX1_search_5 : decode cX1_search 5 = .ok (.aload_n 0, 1) := by decide +kernel
theorem dX1_search_6 : decode cX1_search 6 = .ok (.iconst 0, 1) := by decide +kernel
theorem dX1_search_7 : decode cX1_search 7 = .ok (.ldc2_w 42, 3) := by decide +kernel
theorem dX1_search_10 : decode cX1_search 10 = .ok (.bipush 8, 2) := by decide +kernel
theorem dX1_search_12 : decode cX1_search 12 = .ok (.iload_n 1, 1) := by decide +kernel
theorem dX1_search_13 : decode cX1_search 13 = .ok (.isub, 1) := by decide +kernel
theorem dX1_search_14 : decode cX1_search 14 = .ok (.lushr, 1) := by decide +kernel
theorem dX1_search_15 : decode cX1_search 15 = .ok (.ldc2_w 44, 3) := by decide +kernel
theorem dX1_search_18 : decode cX1_search 18 = .ok (.bipush 8, 2) := by decide +kernel
theorem dX1_search_20 : decode cX1_search 20 = .ok (.bipush 8, 2) := by decide +kernel
theorem dX1_search_22 : decode cX1_search 22 = .ok (.iload_n 2, 1) := by decide +kernel
theorem dX1_search_23 : decode cX1_search 23 = .ok (.isub, 1) := by decide +kernel
theorem dX1_search_24 : decode cX1_search 24 = .ok (.imul, 1) := by decide +kernel
theorem dX1_search_25 : decode cX1_search 25 = .ok (.lushr, 1) := by decide +kernel
theorem dX1_search_26 : decode cX1_search 26 = .ok (.lmul, 1) := by decide +kernel
theorem dX1_search_27 : decode cX1_search 27 = .ok (.ldc2_w 46, 3) := by decide +kernel
theorem dX1_search_30 : decode cX1_search 30 = .ok (.lxor, 1) := by decide +kernel
theorem dX1_search_31 : decode cX1_search 31 = .ok (.invokevirtual 48, 3) := by decide +kernel
theorem dX1_search_34 : decode cX1_search 34 = .ok (.iconst 0, 1) := by decide +kernel
theorem dX1_search_35 : decode cX1_search 35 = .ok (.istore 4, 2) := by decide +kernel
theorem dX1_search_37 : decode cX1_search 37 = .ok (.iconst 0, 1) := by decide +kernel
theorem dX1_search_38 : decode cX1_search 38 = .ok (.istore 5, 2) := by decide +kernel
theorem dX1_search_40 : decode cX1_search 40 = .ok (.iconst 0, 1) := by decide +kernel
theorem dX1_search_41 : decode cX1_search 41 = .ok (.istore 6, 2) := by decide +kernel
theorem dX1_search_43 : decode cX1_search 43 = .ok (.iconst 0, 1) := by decide +kernel
theorem dX1_search_44 : decode cX1_search 44 = .ok (.istore 7, 2) := by decide +kernel
theorem dX1_search_46 : decode cX1_search 46 = .ok (.iload 7, 2) := by decide +kernel
theorem dX1_search_48 : decode cX1_search 48 = .ok (.ldc 52, 2) := by decide +kernel
theorem dX1_search_50 : decode cX1_search 50 = .ok (.if_icmp .gt 134, 3) := by decide +kernel
theorem dX1_search_53 : decode cX1_search 53 = .ok (.iload 4, 2) := by decide +kernel
theorem dX1_search_55 : decode cX1_search 55 = .ok (.ifCond .lt 129, 3) := by decide +kernel
theorem dX1_search_58 : decode cX1_search 58 = .ok (.aload_n 0, 1) := by decide +kernel
theorem dX1_search_59 : decode cX1_search 59 = .ok (.getfield 33, 3) := by decide +kernel
theorem dX1_search_62 : decode cX1_search 62 = .ok (.iload 4, 2) := by decide +kernel
theorem dX1_search_64 : decode cX1_search 64 = .ok (.iaload, 1) := by decide +kernel
theorem dX1_search_65 : decode cX1_search 65 = .ok (.istore 8, 2) := by decide +kernel
theorem dX1_search_67 : decode cX1_search 67 = .ok (.iload 8, 2) := by decide +kernel
theorem dX1_search_69 : decode cX1_search 69 = .ok (.aload_n 0, 1) := by decide +kernel
theorem dX1_search_70 : decode cX1_search 70 = .ok (.getfield 53, 3) := by decide +kernel
theorem dX1_search_73 : decode cX1_search 73 = .ok (.if_icmp .lt 9, 3) := by decide +kernel
theorem dX1_search_76 : decode cX1_search 76 = .ok (.iinc 4 (-1), 3) := by decide +kernel
theorem dX1_search_79 : decode cX1_search 79 = .ok (.goto 99, 3) := by decide +kernel
theorem dX1_search_82 : decode cX1_search 82 = .ok (.aload_n 0, 1) := by decide +kernel
theorem dX1_search_83 : decode cX1_search 83 = .ok (.getfield 33, 3) := by decide +kernel
theorem dX1_search_86 : decode cX1_search 86 = .ok (.iload 4, 2) := by decide +kernel
theorem dX1_search_88 : decode cX1_search 88 = .ok (.iload 8, 2) := by decide +kernel
theorem dX1_search_90 : decode cX1_search 90 = .ok (.iconst 1, 1) := by decide +kernel
theorem dX1_search_91 : decode cX1_search 91 = .ok (.iadd, 1) := by decide +kernel
theorem dX1_search_92 : decode cX1_search 92 = .ok (.iastore, 1) := by decide +kernel
theorem dX1_search_93 : decode cX1_search 93 = .ok (.iinc 5 1, 3) := by decide +kernel
theorem dX1_search_96 : decode cX1_search 96 = .ok (.iload 5, 2) := by decide +kernel
theorem dX1_search_98 : decode cX1_search 98 = .ok (.sipush 20000, 3) := by decide +kernel
theorem dX1_search_101 : decode cX1_search 101 = .ok (.if_icmp .le 5, 3) := by decide +kernel
theorem dX1_search_104 : decode cX1_search 104 = .ok (.iconst (-1), 1) := by decide +kernel
theorem dX1_search_105 : decode cX1_search 105 = .ok (.ireturn, 1) := by decide +kernel
theorem dX1_search_106 : decode cX1_search 106 = .ok (.aload_n 0, 1) := by decide +kernel
theorem dX1_search_107 : decode cX1_search 107 = .ok (.iload 8, 2) := by decide +kernel
theorem dX1_search_109 : decode cX1_search 109 = .ok (.iload 4, 2) := by decide +kernel
theorem dX1_search_111 : decode cX1_search 111 = .ok (.iload_n 1, 1) := by decide +kernel
theorem dX1_search_112 : decode cX1_search 112 = .ok (.iload_n 2, 1) := by decide +kernel
theorem dX1_search_113 : decode cX1_search 113 = .ok (.invokevirtual 57, 3) := by decide +kernel
theorem dX1_search_116 : decode cX1_search 116 = .ok (.lstore 9, 2) := by decide +kernel
theorem dX1_search_118 : decode cX1_search 118 = .ok (.lload 9, 2) := by decide +kernel
theorem dX1_search_120 : decode cX1_search 120 = .ok (.aload_n 0, 1) := by decide +kernel
theorem dX1_search_121 : decode cX1_search 121 = .ok (.getfield 27, 3) := by decide +kernel
theorem dX1_search_124 : decode cX1_search 124 = .ok (.iload 4, 2) := by decide +kernel
theorem dX1_search_126 : decode cX1_search 126 = .ok (.laload, 1) := by decide +kernel
theorem dX1_search_127 : decode cX1_search 127 = .ok (.lor, 1) := by decide +kernel
theorem dX1_search_128 : decode cX1_search 128 = .ok (.ldc2_w 46, 3) := by decide +kernel
theorem dX1_search_131 : decode cX1_search 131 = .ok (.lcmp, 1) := by decide +kernel
theorem dX1_search_132 : decode cX1_search 132 = .ok (.ifCond .ne 9, 3) := by decide +kernel
theorem dX1_search_135 : decode cX1_search 135 = .ok (.iinc 6 1, 3) := by decide +kernel
theorem dX1_search_138 : decode cX1_search 138 = .ok (.goto 40, 3) := by decide +kernel
theorem dX1_search_141 : decode cX1_search 141 = .ok (.lload 9, 2) := by decide +kernel
theorem dX1_search_143 : decode cX1_search 143 = .ok (.lconst 0, 1) := by decide +kernel
theorem dX1_search_144 : decode cX1_search 144 = .ok (.lcmp, 1) := by decide +kernel
theorem dX1_search_145 : decode cX1_search 145 = .ok (.ifCond .eq 33, 3) := by decide +kernel
theorem dX1_search_148 : decode cX1_search 148 = .ok (.iload 4, 2) := by decide +kernel
theorem dX1_search_150 : decode cX1_search 150 = .ok (.iconst 1, 1) := by decide +kernel
theorem dX1_search_151 : decode cX1_search 151 = .ok (.iadd, 1) := by decide +kernel
theorem dX1_search_152 : decode cX1_search 152 = .ok (.bipush 36, 2) := by decide +kernel
theorem dX1_search_154 : decode cX1_search 154 = .ok (.if_icmp .ge 24, 3) := by decide +kernel
theorem dX1_search_157 : decode cX1_search 157 = .ok (.iinc 4 1, 3) := by decide +kernel
theorem dX1_search_160 : decode cX1_search 160 = .ok (.aload_n 0, 1) := by decide +kernel
theorem dX1_search_161 : decode cX1_search 161 = .ok (.iload 4, 2) := by decide +kernel
theorem dX1_search_163 : decode cX1_search 163 = .ok (.lload 9, 2) := by decide +kernel
theorem dX1_search_165 : decode cX1_search 165 = .ok (.aload_n 0, 1) := by decide +kernel
theorem dX1_search_166 : decode cX1_search 166 = .ok (.getfield 27, 3) := by decide +kernel
theorem dX1_search_169 : decode cX1_search 169 = .ok (.iload 4, 2) := by decide +kernel
theorem dX1_search_171 : decode cX1_search 171 = .ok (.iconst 1, 1) := by decide +kernel
theorem dX1_search_172 : decode cX1_search 172 = .ok (.isub, 1) := by decide +kernel
theorem dX1_search_173 : decode cX1_search 173 = .ok (.laload, 1) := by decide +kernel
theorem dX1_search_174 : decode cX1_search 174 = .ok (.lor, 1) := by decide +kernel
theorem dX1_search_175 : decode cX1_search 175 = .ok (.invokevirtual 48, 3) := by decide +kernel
theorem dX1_search_178 : decode cX1_search 178 = .ok (.iinc 7 1, 3) := by decide +kernel
theorem dX1_search_181 : decode cX1_search 181 = .ok (.goto (-135), 3) := by decide +kernel
theorem dX1_search_184 : decode cX1_search 184 = .ok (.iload 6, 2) := by decide +kernel
theorem dX1_search_186 : decode cX1_search 186 = .ok (.ireturn, 1) := by decide +kernel
theorem dX1_measure_0 : decode cX1_measure 0 = .ok (.aload_n 0, 1) := by decide +kernel
theorem dX1_measure_1 : decode cX1_measure 1 = .ok (.aload_n 1, 1) := by decide +kernel
theorem dX1_measure_2 : decode cX1_measure 2 = .ok (.invokevirtual 61, 3) := by decide +kernel
theorem dX1_measure_5 : decode cX1_measure 5 = .ok (.bipush 64, 2) := by decide +kernel
theorem dX1_measure_7 : decode cX1_measure 7 = .ok (.invokestatic 64, 3) := by decide +kernel
theorem dX1_measure_10 : decode cX1_measure 10 = .ok (.putfield 53, 3) := by decide +kernel
theorem dX1_measure_13 : decode cX1_measure 13 = .ok (.iconst 0, 1) := by decide +kernel
theorem dX1_measure_14 : decode cX1_measure 14 = .ok (.istore_n 2, 1) := by decide +kernel
theorem dX1_measure_15 : decode cX1_measure 15 = .ok (.iload_n 2, 1) := by decide +kernel
theorem dX1_measure_16 : decode cX1_measure 16 = .ok (.aload_n 0, 1) := by decide +kernel
theorem dX1_measure_17 : decode cX1_measure 17 = .ok (.getfield 53, 3) := by decide +kernel
theorem dX1_measure_20 : decode cX1_measure 20 = .ok (.if_icmp .ge 65, 3) := by decide +kernel
theorem dX1_measure_23 : decode cX1_measure 23 = .ok (.aload_n 0, 1) := by decide +kernel
theorem dX1_measure_24 : decode cX1_measure 24 = .ok (.getfield 13, 3) := by decide +kernel
theorem dX1_measure_27 : decode cX1_measure 27 = .ok (.iload_n 2, 1) := by decide +kernel
theorem dX1_measure_28 : decode cX1_measure 28 = .ok (.aload_n 1, 1) := by decide +kernel
theorem dX1_measure_29 : decode cX1_measure 29 = .ok (.iload_n 2, 1) := by decide +kernel
theorem dX1_measure_30 : decode cX1_measure 30 = .ok (.invokevirtual 70, 3) := by decide +kernel
theorem dX1_measure_33 : decode cX1_measure 33 = .ok (.lastore, 1) := by decide +kernel
theorem dX1_measure_34 : decode cX1_measure 34 = .ok (.aload_n 0, 1) := by decide +kernel
theorem dX1_measure_35 : decode cX1_measure 35 = .ok (.getfield 17, 3) := by decide +kernel
theorem dX1_measure_38 : decode cX1_measure 38 = .ok (.iload_n 2, 1) := by decide +kernel
theorem dX1_measure_39 : decode cX1_measure 39 = .ok (.aload_n 0, 1) := by decide +kernel
theorem dX1_measure_40 : decode cX1_measure 40 = .ok (.getfield 13, 3) := by decide +kernel
theorem dX1_measure_43 : decode cX1_measure 43 = .ok (.iload_n 2, 1) := by decide +kernel
theorem dX1_measure_44 : decode cX1_measure 44 = .ok (.laload, 1) := by decide +kernel
theorem dX1_measure_45 : decode cX1_measure 45 = .ok (.invokestatic 74, 3) := by decide +kernel
theorem dX1_measure_48 : decode cX1_measure 48 = .ok (.iastore, 1) := by decide +kernel
theorem dX1_measure_49 : decode cX1_measure 49 = .ok (.aload_n 0, 1) := by decide +kernel
theorem dX1_measure_50 : decode cX1_measure 50 = .ok (.getfield 21, 3) := by decide +kernel
theorem dX1_measure_53 : decode cX1_measure 53 = .ok (.iload_n 2, 1) := by decide +kernel
theorem dX1_measure_54 : decode cX1_measure 54 = .ok (.aload_n 0, 1) := by decide +kernel
theorem dX1_measure_55 : decode cX1_measure 55 = .ok (.getfield 13, 3) := by decide +kernel
theorem dX1_measure_58 : decode cX1_measure 58 = .ok (.iload_n 2, 1) := by decide +kernel
theorem dX1_measure_59 : decode cX1_measure 59 = .ok (.laload, 1) := by decide +kernel
theorem dX1_measure_60 : decode cX1_measure 60 = .ok (.invokestatic 78, 3) := by decide +kernel
theorem dX1_measure_63 : decode cX1_measure 63 = .ok (.iastore, 1) := by decide +kernel
theorem dX1_measure_64 : decode cX1_measure 64 = .ok (.aload_n 0, 1) := by decide +kernel
theorem dX1_measure_65 : decode cX1_measure 65 = .ok (.getfield 24, 3) := by decide +kernel
theorem dX1_measure_68 : decode cX1_measure 68 = .ok (.iload_n 2, 1) := by decide +kernel
theorem dX1_measure_69 : decode cX1_measure 69 = .ok (.aload_n 0, 1) := by decide +kernel
theorem dX1_measure_70 : decode cX1_measure 70 = .ok (.getfield 13, 3) := by decide +kernel
theorem dX1_measure_73 : decode cX1_measure 73 = .ok (.iload_n 2, 1) := by decide +kernel
theorem dX1_measure_74 : decode cX1_measure 74 = .ok (.laload, 1) := by decide +kernel
theorem dX1_measure_75 : decode cX1_measure 75 = .ok (.invokestatic 81, 3) := by decide +kernel
theorem dX1_measure_78 : decode cX1_measure 78 = .ok (.iastore, 1) := by decide +kernel
theorem dX1_measure_79 : decode cX1_measure 79 = .ok (.iinc 2 1, 3) := by decide +kernel
theorem dX1_measure_82 : decode cX1_measure 82 = .ok (.goto (-67), 3) := by decide +kernel
theorem dX1_measure_85 : decode cX1_measure 85 = .ok (.return_, 1) := by decide +kernel
theorem dX1_open_0 : decode cX1_open 0 = .ok (.aload_n 0, 1) := by decide +kernel
theorem dX1_open_1 : decode cX1_open 1 = .ok (.getfield 27, 3) := by decide +kernel
theorem dX1_open_4 : decode cX1_open 4 = .ok (.iload_n 1, 1) := by decide +kernel
theorem dX1_open_5 : decode cX1_open 5 = .ok (.lload_n 2, 1) := by decide +kernel
theorem dX1_open_6 : decode cX1_open 6 = .ok (.lastore, 1) := by decide +kernel
theorem dX1_open_7 : decode cX1_open 7 = .ok (.aload_n 0, 1) := by decide +kernel
theorem dX1_open_8 : decode cX1_open 8 = .ok (.getfield 30, 3) := by decide +kernel
theorem dX1_open_11 : decode cX1_open 11 = .ok (.iload_n 1, 1) := by decide +kernel
theorem dX1_open_12 : decode cX1_open 12 = .ok (.lload_n 2, 1) := by decide +kernel
theorem dX1_open_13 : decode cX1_open 13 = .ok (.ldc2_w 46, 3) := by decide +kernel
theorem dX1_open_16 : decode cX1_open 16 = .ok (.lxor, 1) := by decide +kernel
theorem dX1_open_17 : decode cX1_open 17 = .ok (.invokestatic 74, 3) := by decide +kernel
theorem dX1_open_20 : decode cX1_open 20 = .ok (.iastore, 1) := by decide +kernel
theorem dX1_open_21 : decode cX1_open 21 = .ok (.aload_n 0, 1) := by decide +kernel
theorem dX1_open_22 : decode cX1_open 22 = .ok (.getfield 33, 3) := by decide +kernel
theorem dX1_open_25 : decode cX1_open 25 = .ok (.iload_n 1, 1) := by decide +kernel
theorem dX1_open_26 : decode cX1_open 26 = .ok (.iconst 0, 1) := by decide +kernel
theorem dX1_open_27 : decode cX1_open 27 = .ok (.iastore, 1) := by decide +kernel
theorem dX1_open_28 : decode cX1_open 28 = .ok (.return_, 1) := by decide +kernel
theorem dX1_laid_0 : decode cX1_laid 0 = .ok (.aload_n 0, 1) := by decide +kernel
theorem dX1_laid_1 : decode cX1_laid 1 = .ok (.getfield 30, 3) := by decide +kernel
theorem dX1_laid_4 : decode cX1_laid 4 = .ok (.iload_n 2, 1) := by decide +kernel
theorem dX1_laid_5 : decode cX1_laid 5 = .ok (.iaload, 1) := by decide +kernel
theorem dX1_laid_6 : decode cX1_laid 6 = .ok (.bipush 7, 2) := by decide +kernel
theorem dX1_laid_8 : decode cX1_laid 8 = .ok (.iand, 1) := by decide +kernel
theorem dX1_laid_9 : decode cX1_laid 9 = .ok (.aload_n 0, 1) := by decide +kernel
theorem dX1_laid_10 : decode cX1_laid 10 = .ok (.getfield 17, 3) := by decide +kernel
theorem dX1_laid_13 : decode cX1_laid 13 = .ok (.iload_n 1, 1) := by decide +kernel
theorem dX1_laid_14 : decode cX1_laid 14 = .ok (.iaload, 1) := by decide +kernel
theorem dX1_laid_15 : decode cX1_laid 15 = .ok (.isub, 1) := by decide +kernel
theorem dX1_laid_16 : decode cX1_laid 16 = .ok (.istore 5, 2) := by decide +kernel
theorem dX1_laid_18 : decode cX1_laid 18 = .ok (.aload_n 0, 1) := by decide +kernel
theorem dX1_laid_19 : decode cX1_laid 19 = .ok (.getfield 30, 3) := by decide +kernel
theorem dX1_laid_22 : decode cX1_laid 22 = .ok (.iload_n 2, 1) := by decide +kernel
theorem dX1_laid_23 : decode cX1_laid 23 = .ok (.iaload, 1) := by decide +kernel
theorem dX1_laid_24 : decode cX1_laid 24 = .ok (.iconst 3, 1) := by decide +kernel
theorem dX1_laid_25 : decode cX1_laid 25 = .ok (.ishr, 1) := by decide +kernel
theorem dX1_laid_26 : decode cX1_laid 26 = .ok (.istore 6, 2) := by decide +kernel
theorem dX1_laid_28 : decode cX1_laid 28 = .ok (.iload 5, 2) := by decide +kernel
theorem dX1_laid_30 : decode cX1_laid 30 = .ok (.ifCond .lt 30, 3) := by decide +kernel
theorem dX1_laid_33 : decode cX1_laid 33 = .ok (.iload 5, 2) := by decide +kernel
theorem dX1_laid_35 : decode cX1_laid 35 = .ok (.aload_n 0, 1) := by decide +kernel
theorem dX1_laid_36 : decode cX1_laid 36 = .ok (.getfield 21, 3) := by decide +kernel
theorem dX1_laid_39 : decode cX1_laid 39 = .ok (.iload_n 1, 1) := by decide +kernel
theorem dX1_laid_40 : decode cX1_laid 40 = .ok (.iaload, 1) := by decide +kernel
theorem dX1_laid_41 : decode cX1_laid 41 = .ok (.iadd, 1) := by decide +kernel
theorem dX1_laid_42 : decode cX1_laid 42 = .ok (.iload_n 3, 1) := by decide +kernel
theorem dX1_laid_43 : decode cX1_laid 43 = .ok (.if_icmp .gt 17, 3) := by decide +kernel
theorem dX1_laid_46 : decode cX1_laid 46 = .ok (.iload 6, 2) := by decide +kernel
theorem dX1_laid_48 : decode cX1_laid 48 = .ok (.aload_n 0, 1) := by decide +kernel
theorem dX1_laid_49 : decode cX1_laid 49 = .ok (.getfield 24, 3) := by decide +kernel
theorem dX1_laid_52 : decode cX1_laid 52 = .ok (.iload_n 1, 1) := by decide +kernel
theorem dX1_laid_53 : decode cX1_laid 53 = .ok (.iaload, 1) := by decide +kernel
theorem dX1_laid_54 : decode cX1_laid 54 = .ok (.iadd, 1) := by decide +kernel
theorem dX1_laid_55 : decode cX1_laid 55 = .ok (.iload 4, 2) := by decide +kernel
theorem dX1_laid_57 : decode cX1_laid 57 = .ok (.if_icmp .le 5, 3) := by decide +kernel
theorem dX1_laid_60 : decode cX1_laid 60 = .ok (.lconst 0, 1) := by decide +kernel
theorem dX1_laid_61 : decode cX1_laid 61 = .ok (.lreturn, 1) := by decide +kernel
theorem dX1_laid_62 : decode cX1_laid 62 = .ok (.aload_n 0, 1) := by decide +kernel
theorem dX1_laid_63 : decode cX1_laid 63 = .ok (.getfield 13, 3) := by decide +kernel
theorem dX1_laid_66 : decode cX1_laid 66 = .ok (.iload_n 1, 1) := by decide +kernel
theorem dX1_laid_67 : decode cX1_laid 67 = .ok (.laload, 1) := by decide +kernel
theorem dX1_laid_68 : decode cX1_laid 68 = .ok (.bipush 8, 2) := by decide +kernel
theorem dX1_laid_70 : decode cX1_laid 70 = .ok (.iload 6, 2) := by decide +kernel
theorem dX1_laid_72 : decode cX1_laid 72 = .ok (.imul, 1) := by decide +kernel
theorem dX1_laid_73 : decode cX1_laid 73 = .ok (.iload 5, 2) := by decide +kernel
theorem dX1_laid_75 : decode cX1_laid 75 = .ok (.iadd, 1) := by decide +kernel
theorem dX1_laid_76 : decode cX1_laid 76 = .ok (.lshl, 1) := by decide +kernel
theorem dX1_laid_77 : decode cX1_laid 77 = .ok (.lstore 7, 2) := by decide +kernel
theorem dX1_laid_79 : decode cX1_laid 79 = .ok (.lload 7, 2) := by decide +kernel
theorem dX1_laid_81 : decode cX1_laid 81 = .ok (.aload_n 0, 1) := by decide +kernel
theorem dX1_laid_82 : decode cX1_laid 82 = .ok (.getfield 27, 3) := by decide +kernel
theorem dX1_laid_85 : decode cX1_laid 85 = .ok (.iload_n 2, 1) := by decide +kernel
theorem dX1_laid_86 : decode cX1_laid 86 = .ok (.laload, 1) := by decide +kernel
theorem dX1_laid_87 : decode cX1_laid 87 = .ok (.land, 1) := by decide +kernel
theorem dX1_laid_88 : decode cX1_laid 88 = .ok (.lconst 0, 1) := by decide +kernel
theorem dX1_laid_89 : decode cX1_laid 89 = .ok (.lcmp, 1) := by decide +kernel
theorem dX1_laid_90 : decode cX1_laid 90 = .ok (.ifCond .ne 8, 3) := by decide +kernel
theorem dX1_laid_93 : decode cX1_laid 93 = .ok (.lload 7, 2) := by decide +kernel
theorem dX1_laid_95 : decode cX1_laid 95 = .ok (.goto 4, 3) := by decide +kernel
theorem dX1_laid_98 : decode cX1_laid 98 = .ok (.lconst 0, 1) := by decide +kernel
theorem dX1_laid_99 : decode cX1_laid 99 = .ok (.lreturn, 1) := by decide +kernel
theorem dX2_lowest_0 : decode cX2_lowest 0 = .ok (.lload_n 0, 1) := by decide +kernel
theorem dX2_lowest_1 : decode cX2_lowest 1 = .ok (.lload_n 0, 1) := by decide +kernel
theorem dX2_lowest_2 : decode cX2_lowest 2 = .ok (.lneg, 1) := by decide +kernel
theorem dX2_lowest_3 : decode cX2_lowest 3 = .ok (.land, 1) := by decide +kernel
theorem dX2_lowest_4 : decode cX2_lowest 4 = .ok (.lconst 1, 1) := by decide +kernel
theorem dX2_lowest_5 : decode cX2_lowest 5 = .ok (.lsub, 1) := by decide +kernel
theorem dX2_lowest_6 : decode cX2_lowest 6 = .ok (.invokestatic 11, 3) := by decide +kernel
theorem dX2_lowest_9 : decode cX2_lowest 9 = .ok (.ireturn, 1) := by decide +kernel
theorem dX2_has_0 : decode cX2_has 0 = .ok (.iload_n 2, 1) := by decide +kernel
theorem dX2_has_1 : decode cX2_has 1 = .ok (.iconst 0, 1) := by decide +kernel
theorem dX2_has_2 : decode cX2_has 2 = .ok (.bipush 7, 2) := by decide +kernel
theorem dX2_has_4 : decode cX2_has 4 = .ok (.invokestatic 17, 3) := by decide +kernel
theorem dX2_has_7 : decode cX2_has 7 = .ok (.ifCond .eq 32, 3) := by decide +kernel
theorem dX2_has_10 : decode cX2_has 10 = .ok (.iload_n 3, 1) := by decide +kernel
theorem dX2_has_11 : decode cX2_has 11 = .ok (.iconst 0, 1) := by decide +kernel
theorem dX2_has_12 : decode cX2_has 12 = .ok (.bipush 7, 2) := by decide +kernel
theorem dX2_has_14 : decode cX2_has 14 = .ok (.invokestatic 17, 3) := by decide +kernel
theorem dX2_has_17 : decode cX2_has 17 = .ok (.ifCond .eq 22, 3) := by decide +kernel
theorem dX2_has_20 : decode cX2_has 20 = .ok (.lload_n 0, 1) := by decide +kernel
theorem dX2_has_21 : decode cX2_has 21 = .ok (.bipush 8, 2) := by decide +kernel
theorem dX2_has_23 : decode cX2_has 23 = .ok (.iload_n 3, 1) := by decide +kernel
theorem dX2_has_24 : decode cX2_has 24 = .ok (.imul, 1) := by decide +kernel
theorem dX2_has_25 : decode cX2_has 25 = .ok (.iload_n 2, 1) := by decide +kernel
theorem dX2_has_26 : decode cX2_has 26 = .ok (.iadd, 1) := by decide +kernel
theorem dX2_has_27 : decode cX2_has 27 = .ok (.lushr, 1) := by decide +kernel
theorem dX2_has_28 : decode cX2_has 28 = .ok (.lconst 1, 1) := by decide +kernel
theorem dX2_has_29 : decode cX2_has 29 = .ok (.land, 1) := by decide +kernel
theorem dX2_has_30 : decode cX2_has 30 = .ok (.lconst 0, 1) := by decide +kernel
theorem dX2_has_31 : decode cX2_has 31 = .ok (.lcmp, 1) := by decide +kernel
theorem dX2_has_32 : decode cX2_has 32 = .ok (.ifCond .eq 7, 3) := by decide +kernel
theorem dX2_has_35 : decode cX2_has 35 = .ok (.iconst 1, 1) := by decide +kernel
theorem dX2_has_36 : decode cX2_has 36 = .ok (.goto 4, 3) := by decide +kernel
theorem dX2_has_39 : decode cX2_has 39 = .ok (.iconst 0, 1) := by decide +kernel
theorem dX2_has_40 : decode cX2_has 40 = .ok (.ireturn, 1) := by decide +kernel
theorem dX2_columns_0 : decode cX2_columns 0 = .ok (.lload_n 0, 1) := by decide +kernel
theorem dX2_columns_1 : decode cX2_columns 1 = .ok (.lload_n 0, 1) := by decide +kernel
theorem dX2_columns_2 : decode cX2_columns 2 = .ok (.bipush 32, 2) := by decide +kernel
theorem dX2_columns_4 : decode cX2_columns 4 = .ok (.lushr, 1) := by decide +kernel
theorem dX2_columns_5 : decode cX2_columns 5 = .ok (.lor, 1) := by decide +kernel
theorem dX2_columns_6 : decode cX2_columns 6 = .ok (.lstore_n 2, 1) := by decide +kernel
theorem dX2_columns_7 : decode cX2_columns 7 = .ok (.lload_n 2, 1) := by decide +kernel
theorem dX2_columns_8 : decode cX2_columns 8 = .ok (.lload_n 2, 1) := by decide +kernel
theorem dX2_columns_9 : decode cX2_columns 9 = .ok (.bipush 16, 2) := by decide +kernel
theorem dX2_columns_11 : decode cX2_columns 11 = .ok (.lushr, 1) := by decide +kernel
theorem dX2_columns_12 : decode cX2_columns 12 = .ok (.lor, 1) := by decide +kernel
theorem dX2_columns_13 : decode cX2_columns 13 = .ok (.lstore_n 2, 1) := by decide +kernel
theorem dX2_columns_14 : decode cX2_columns 14 = .ok (.lload_n 2, 1) := by decide +kernel
theorem dX2_columns_15 : decode cX2_columns 15 = .ok (.lload_n 2, 1) := by decide +kernel
theorem dX2_columns_16 : decode cX2_columns 16 = .ok (.bipush 8, 2) := by decide +kernel
theorem dX2_columns_18 : decode cX2_columns 18 = .ok (.lushr, 1) := by decide +kernel
theorem dX2_columns_19 : decode cX2_columns 19 = .ok (.lor, 1) := by decide +kernel
theorem dX2_columns_20 : decode cX2_columns 20 = .ok (.lstore_n 2, 1) := by decide +kernel
theorem dX2_columns_21 : decode cX2_columns 21 = .ok (.lload_n 2, 1) := by decide +kernel
theorem dX2_columns_22 : decode cX2_columns 22 = .ok (.ldc2_w 21, 3) := by decide +kernel
theorem dX2_columns_25 : decode cX2_columns 25 = .ok (.land, 1) := by decide +kernel
theorem dX2_columns_26 : decode cX2_columns 26 = .ok (.lreturn, 1) := by decide +kernel
theorem dX2_width_0 : decode cX2_width 0 = .ok (.lload_n 0, 1) := by decide +kernel
theorem dX2_width_1 : decode cX2_width 1 = .ok (.invokestatic 23, 3) := by decide +kernel
theorem dX2_width_4 : decode cX2_width 4 = .ok (.invokestatic 11, 3) := by decide +kernel
theorem dX2_width_7 : decode cX2_width 7 = .ok (.ireturn, 1) := by decide +kernel
theorem dX2_height_0 : decode cX2_height 0 = .ok (.lload_n 0, 1) := by decide +kernel
theorem dX2_height_1 : decode cX2_height 1 = .ok (.lload_n 0, 1) := by decide +kernel
theorem dX2_height_2 : decode cX2_height 2 = .ok (.iconst 4, 1) := by decide +kernel
theorem dX2_height_3 : decode cX2_height 3 = .ok (.lushr, 1) := by decide +kernel
theorem dX2_height_4 : decode cX2_height 4 = .ok (.lor, 1) := by decide +kernel
theorem dX2_height_5 : decode cX2_height 5 = .ok (.lstore_n 2, 1) := by decide +kernel
theorem dX2_height_6 : decode cX2_height 6 = .ok (.lload_n 2, 1) := by decide +kernel
theorem dX2_height_7 : decode cX2_height 7 = .ok (.lload_n 2, 1) := by decide +kernel
theorem dX2_height_8 : decode cX2_height 8 = .ok (.iconst 2, 1) := by decide +kernel
theorem dX2_height_9 : decode cX2_height 9 = .ok (.lushr, 1) := by decide +kernel
theorem dX2_height_10 : decode cX2_height 10 = .ok (.lor, 1) := by decide +kernel
theorem dX2_height_11 : decode cX2_height 11 = .ok (.lstore_n 2, 1) := by decide +kernel
theorem dX2_height_12 : decode cX2_height 12 = .ok (.lload_n 2, 1) := by decide +kernel
theorem dX2_height_13 : decode cX2_height 13 = .ok (.lload_n 2, 1) := by decide +kernel
theorem dX2_height_14 : decode cX2_height 14 = .ok (.iconst 1, 1) := by decide +kernel
theorem dX2_height_15 : decode cX2_height 15 = .ok (.lushr, 1) := by decide +kernel
theorem dX2_height_16 : decode cX2_height 16 = .ok (.lor, 1) := by decide +kernel
theorem dX2_height_17 : decode cX2_height 17 = .ok (.lstore_n 2, 1) := by decide +kernel
theorem dX2_height_18 : decode cX2_height 18 = .ok (.lload_n 2, 1) := by decide +kernel
theorem dX2_height_19 : decode cX2_height 19 = .ok (.ldc2_w 27, 3) := by decide +kernel
theorem dX2_height_22 : decode cX2_height 22 = .ok (.land, 1) := by decide +kernel
theorem dX2_height_23 : decode cX2_height 23 = .ok (.invokestatic 11, 3) := by decide +kernel
theorem dX2_height_26 : decode cX2_height 26 = .ok (.ireturn, 1) := by decide +kernel
theorem dX2_settled_0 : decode cX2_settled 0 = .ok (.lload_n 0, 1) := by decide +kernel
theorem dX2_settled_1 : decode cX2_settled 1 = .ok (.lconst 0, 1) := by decide +kernel
theorem dX2_settled_2 : decode cX2_settled 2 = .ok (.lcmp, 1) := by decide +kernel
theorem dX2_settled_3 : decode cX2_settled 3 = .ok (.ifCond .ne 5, 3) := by decide +kernel
theorem dX2_settled_6 : decode cX2_settled 6 = .ok (.lconst 0, 1) := by decide +kernel
theorem dX2_settled_7 : decode cX2_settled 7 = .ok (.lreturn, 1) := by decide +kernel
theorem dX2_settled_8 : decode cX2_settled 8 = .ok (.lload_n 0, 1) := by decide +kernel
theorem dX2_settled_9 : decode cX2_settled 9 = .ok (.lload_n 0, 1) := by decide +kernel
theorem dX2_settled_10 : decode cX2_settled 10 = .ok (.lload_n 0, 1) := by decide +kernel
theorem dX2_settled_11 : decode cX2_settled 11 = .ok (.lneg, 1) := by decide +kernel
theorem dX2_settled_12 : decode cX2_settled 12 = .ok (.land, 1) := by decide +kernel
theorem dX2_settled_13 : decode cX2_settled 13 = .ok (.lconst 1, 1) := by decide +kernel
theorem dX2_settled_14 : decode cX2_settled 14 = .ok (.lsub, 1) := by decide +kernel
theorem dX2_settled_15 : decode cX2_settled 15 = .ok (.invokestatic 11, 3) := by decide +kernel
theorem dX2_settled_18 : decode cX2_settled 18 = .ok (.bipush 56, 2) := by decide +kernel
theorem dX2_settled_20 : decode cX2_settled 20 = .ok (.iand, 1) := by decide +kernel
theorem dX2_settled_21 : decode cX2_settled 21 = .ok (.lushr, 1) := by decide +kernel
theorem dX2_settled_22 : decode cX2_settled 22 = .ok (.lstore_n 2, 1) := by decide +kernel
theorem dX2_settled_23 : decode cX2_settled 23 = .ok (.lload_n 2, 1) := by decide +kernel
theorem dX2_settled_24 : decode cX2_settled 24 = .ok (.invokestatic 23, 3) := by decide +kernel
theorem dX2_settled_27 : decode cX2_settled 27 = .ok (.lstore 4, 2) := by decide +kernel
theorem dX2_settled_29 : decode cX2_settled 29 = .ok (.lload_n 2, 1) := by decide +kernel
theorem dX2_settled_30 : decode cX2_settled 30 = .ok (.lload 4, 2) := by decide +kernel
theorem dX2_settled_32 : decode cX2_settled 32 = .ok (.lload 4, 2) := by decide +kernel
theorem dX2_settled_34 : decode cX2_settled 34 = .ok (.lneg, 1) := by decide +kernel
theorem dX2_settled_35 : decode cX2_settled 35 = .ok (.land, 1) := by decide +kernel
theorem dX2_settled_36 : decode cX2_settled 36 = .ok (.lconst 1, 1) := by decide +kernel
theorem dX2_settled_37 : decode cX2_settled 37 = .ok (.lsub, 1) := by decide +kernel
theorem dX2_settled_38 : decode cX2_settled 38 = .ok (.invokestatic 11, 3) := by decide +kernel
theorem dX2_settled_41 : decode cX2_settled 41 = .ok (.lushr, 1) := by decide +kernel
theorem dX2_settled_42 : decode cX2_settled 42 = .ok (.lreturn, 1) := by decide +kernel
theorem dX2_moved_0 : decode cX2_moved 0 = .ok (.iload_n 2, 1) := by decide +kernel
theorem dX2_moved_1 : decode cX2_moved 1 = .ok (.bipush (-7), 2) := by decide +kernel
theorem dX2_moved_3 : decode cX2_moved 3 = .ok (.bipush 7, 2) := by decide +kernel
theorem dX2_moved_5 : decode cX2_moved 5 = .ok (.invokestatic 17, 3) := by decide +kernel
theorem dX2_moved_8 : decode cX2_moved 8 = .ok (.ifCond .eq 14, 3) := by decide +kernel
theorem dX2_moved_11 : decode cX2_moved 11 = .ok (.iload_n 3, 1) := by decide +kernel
theorem dX2_moved_12 : decode cX2_moved 12 = .ok (.bipush (-7), 2) := by decide +kernel
theorem dX2_moved_14 : decode cX2_moved 14 = .ok (.bipush 7, 2) := by decide +kernel
theorem dX2_moved_16 : decode cX2_moved 16 = .ok (.invokestatic 17, 3) := by decide +kernel
theorem dX2_moved_19 : decode cX2_moved 19 = .ok (.ifCond .ne 5, 3) := by decide +kernel
theorem dX2_moved_22 : decode cX2_moved 22 = .ok (.lconst 0, 1) := by decide +kernel
theorem dX2_moved_23 : decode cX2_moved 23 = .ok (.lreturn, 1) := by decide +kernel
theorem dX2_moved_24 : decode cX2_moved 24 = .ok (.iload_n 2, 1) := by decide +kernel
theorem dX2_moved_25 : decode cX2_moved 25 = .ok (.ifCond .lt 19, 3) := by decide +kernel
theorem dX2_moved_28 : decode cX2_moved 28 = .ok (.lload_n 0, 1) := by decide +kernel
theorem dX2_moved_29 : decode cX2_moved 29 = .ok (.ldc2_w 21, 3) := by decide +kernel
theorem dX2_moved_32 : decode cX2_moved 32 = .ok (.iload_n 2, 1) := by decide +kernel
theorem dX2_moved_33 : decode cX2_moved 33 = .ok (.lushr, 1) := by decide +kernel
theorem dX2_moved_34 : decode cX2_moved 34 = .ok (.ldc2_w 27, 3) := by decide +kernel
theorem dX2_moved_37 : decode cX2_moved 37 = .ok (.lmul, 1) := by decide +kernel
theorem dX2_moved_38 : decode cX2_moved 38 = .ok (.land, 1) := by decide +kernel
theorem dX2_moved_39 : decode cX2_moved 39 = .ok (.iload_n 2, 1) := by decide +kernel
theorem dX2_moved_40 : decode cX2_moved 40 = .ok (.lshl, 1) := by decide +kernel
theorem dX2_moved_41 : decode cX2_moved 41 = .ok (.goto 22, 3) := by decide +kernel
theorem dX2_moved_44 : decode cX2_moved 44 = .ok (.lload_n 0, 1) := by decide +kernel
theorem dX2_moved_45 : decode cX2_moved 45 = .ok (.ldc2_w 21, 3) := by decide +kernel
theorem dX2_moved_48 : decode cX2_moved 48 = .ok (.iload_n 2, 1) := by decide +kernel
theorem dX2_moved_49 : decode cX2_moved 49 = .ok (.ineg, 1) := by decide +kernel
theorem dX2_moved_50 : decode cX2_moved 50 = .ok (.lshl, 1) := by decide +kernel
theorem dX2_moved_51 : decode cX2_moved 51 = .ok (.ldc2_w 21, 3) := by decide +kernel
theorem dX2_moved_54 : decode cX2_moved 54 = .ok (.land, 1) := by decide +kernel
theorem dX2_moved_55 : decode cX2_moved 55 = .ok (.ldc2_w 27, 3) := by decide +kernel
theorem dX2_moved_58 : decode cX2_moved 58 = .ok (.lmul, 1) := by decide +kernel
theorem dX2_moved_59 : decode cX2_moved 59 = .ok (.land, 1) := by decide +kernel
theorem dX2_moved_60 : decode cX2_moved 60 = .ok (.iload_n 2, 1) := by decide +kernel
theorem dX2_moved_61 : decode cX2_moved 61 = .ok (.ineg, 1) := by decide +kernel
theorem dX2_moved_62 : decode cX2_moved 62 = .ok (.lushr, 1) := by decide +kernel
theorem dX2_moved_63 : decode cX2_moved 63 = .ok (.lstore 4, 2) := by decide +kernel
theorem dX2_moved_65 : decode cX2_moved 65 = .ok (.iload_n 3, 1) := by decide +kernel
theorem dX2_moved_66 : decode cX2_moved 66 = .ok (.ifCond .lt 13, 3) := by decide +kernel
theorem dX2_moved_69 : decode cX2_moved 69 = .ok (.lload 4, 2) := by decide +kernel
theorem dX2_moved_71 : decode cX2_moved 71 = .ok (.bipush 8, 2) := by decide +kernel
theorem dX2_moved_73 : decode cX2_moved 73 = .ok (.iload_n 3, 1) := by decide +kernel
theorem dX2_moved_74 : decode cX2_moved 74 = .ok (.imul, 1) := by decide +kernel
theorem dX2_moved_75 : decode cX2_moved 75 = .ok (.lshl, 1) := by decide +kernel
theorem dX2_moved_76 : decode cX2_moved 76 = .ok (.goto 10, 3) := by decide +kernel
theorem dX2_moved_79 : decode cX2_moved 79 = .ok (.lload 4, 2) := by decide +kernel
theorem dX2_moved_81 : decode cX2_moved 81 = .ok (.bipush (-8), 2) := by decide +kernel
theorem dX2_moved_83 : decode cX2_moved 83 = .ok (.iload_n 3, 1) := by decide +kernel
theorem dX2_moved_84 : decode cX2_moved 84 = .ok (.imul, 1) := by decide +kernel
theorem dX2_moved_85 : decode cX2_moved 85 = .ok (.lushr, 1) := by decide +kernel
theorem dX2_moved_86 : decode cX2_moved 86 = .ok (.lreturn, 1) := by decide +kernel
theorem dX2_united_0 : decode cX2_united 0 = .ok (.iconst 0, 1) := by decide +kernel
theorem dX2_united_1 : decode cX2_united 1 = .ok (.iload 4, 2) := by decide +kernel
theorem dX2_united_3 : decode cX2_united 3 = .ok (.ineg, 1) := by decide +kernel
theorem dX2_united_4 : decode cX2_united 4 = .ok (.invokestatic 29, 3) := by decide +kernel
theorem dX2_united_7 : decode cX2_united 7 = .ok (.istore 6, 2) := by decide +kernel
theorem dX2_united_9 : decode cX2_united 9 = .ok (.iconst 0, 1) := by decide +kernel
theorem dX2_united_10 : decode cX2_united 10 = .ok (.iload 5, 2) := by decide +kernel
theorem dX2_united_12 : decode cX2_united 12 = .ok (.ineg, 1) := by decide +kernel
theorem dX2_united_13 : decode cX2_united 13 = .ok (.invokestatic 29, 3) := by decide +kernel
theorem dX2_united_16 : decode cX2_united 16 = .ok (.istore 7, 2) := by decide +kernel
theorem dX2_united_18 : decode cX2_united 18 = .ok (.iload 6, 2) := by decide +kernel
theorem dX2_united_20 : decode cX2_united 20 = .ok (.lload_n 0, 1) := by decide +kernel
theorem dX2_united_21 : decode cX2_united 21 = .ok (.invokestatic 35, 3) := by decide +kernel
theorem dX2_united_24 : decode cX2_united 24 = .ok (.iadd, 1) := by decide +kernel
theorem dX2_united_25 : decode cX2_united 25 = .ok (.iload 6, 2) := by decide +kernel
theorem dX2_united_27 : decode cX2_united 27 = .ok (.iload 4, 2) := by decide +kernel
theorem dX2_united_29 : decode cX2_united 29 = .ok (.iadd, 1) := by decide +kernel
theorem dX2_united_30 : decode cX2_united 30 = .ok (.lload_n 2, 1) := by decide +kernel
theorem dX2_united_31 : decode cX2_united 31 = .ok (.invokestatic 35, 3) := by decide +kernel
theorem dX2_united_34 : decode cX2_united 34 = .ok (.iadd, 1) := by decide +kernel
theorem dX2_united_35 : decode cX2_united 35 = .ok (.invokestatic 29, 3) := by decide +kernel
theorem dX2_united_38 : decode cX2_united 38 = .ok (.istore 8, 2) := by decide +kernel
theorem dX2_united_40 : decode cX2_united 40 = .ok (.iload 7, 2) := by decide +kernel
theorem dX2_united_42 : decode cX2_united 42 = .ok (.lload_n 0, 1) := by decide +kernel
theorem dX2_united_43 : decode cX2_united 43 = .ok (.invokestatic 38, 3) := by decide +kernel
theorem dX2_united_46 : decode cX2_united 46 = .ok (.iadd, 1) := by decide +kernel
theorem dX2_united_47 : decode cX2_united 47 = .ok (.iload 7, 2) := by decide +kernel
theorem dX2_united_49 : decode cX2_united 49 = .ok (.iload 5, 2) := by decide +kernel
theorem dX2_united_51 : decode cX2_united 51 = .ok (.iadd, 1) := by decide +kernel
theorem dX2_united_52 : decode cX2_united 52 = .ok (.lload_n 2, 1) := by decide +kernel
theorem dX2_united_53 : decode cX2_united 53 = .ok (.invokestatic 38, 3) := by decide +kernel
theorem dX2_united_56 : decode cX2_united 56 = .ok (.iadd, 1) := by decide +kernel
theorem dX2_united_57 : decode cX2_united 57 = .ok (.invokestatic 29, 3) := by decide +kernel
theorem dX2_united_60 : decode cX2_united 60 = .ok (.istore 9, 2) := by decide +kernel
theorem dX2_united_62 : decode cX2_united 62 = .ok (.iload 8, 2) := by decide +kernel
theorem dX2_united_64 : decode cX2_united 64 = .ok (.bipush 7, 2) := by decide +kernel
theorem dX2_united_66 : decode cX2_united 66 = .ok (.if_icmp .gt 10, 3) := by decide +kernel
theorem dX2_united_69 : decode cX2_united 69 = .ok (.iload 9, 2) := by decide +kernel
theorem dX2_united_71 : decode cX2_united 71 = .ok (.bipush 7, 2) := by decide +kernel
theorem dX2_united_73 : decode cX2_united 73 = .ok (.if_icmp .le 5, 3) := by decide +kernel
theorem dX2_united_76 : decode cX2_united 76 = .ok (.lconst 0, 1) := by decide +kernel
theorem dX2_united_77 : decode cX2_united 77 = .ok (.lreturn, 1) := by decide +kernel
theorem dX2_united_78 : decode cX2_united 78 = .ok (.lload_n 0, 1) := by decide +kernel
theorem dX2_united_79 : decode cX2_united 79 = .ok (.iload 6, 2) := by decide +kernel
theorem dX2_united_81 : decode cX2_united 81 = .ok (.iload 7, 2) := by decide +kernel
theorem dX2_united_83 : decode cX2_united 83 = .ok (.invokestatic 41, 3) := by decide +kernel
theorem dX2_united_86 : decode cX2_united 86 = .ok (.lload_n 2, 1) := by decide +kernel
theorem dX2_united_87 : decode cX2_united 87 = .ok (.iload 6, 2) := by decide +kernel
theorem dX2_united_89 : decode cX2_united 89 = .ok (.iload 4, 2) := by decide +kernel
theorem dX2_united_91 : decode cX2_united 91 = .ok (.iadd, 1) := by decide +kernel
theorem dX2_united_92 : decode cX2_united 92 = .ok (.iload 7, 2) := by decide +kernel
theorem dX2_united_94 : decode cX2_united 94 = .ok (.iload 5, 2) := by decide +kernel
theorem dX2_united_96 : decode cX2_united 96 = .ok (.iadd, 1) := by decide +kernel
theorem dX2_united_97 : decode cX2_united 97 = .ok (.invokestatic 41, 3) := by decide +kernel
theorem dX2_united_100 : decode cX2_united 100 = .ok (.lor, 1) := by decide +kernel
theorem dX2_united_101 : decode cX2_united 101 = .ok (.lreturn, 1) := by decide +kernel
theorem dX2_around_0 : decode cX2_around 0 = .ok (.lload_n 0, 1) := by decide +kernel
theorem dX2_around_1 : decode cX2_around 1 = .ok (.iconst 1, 1) := by decide +kernel
theorem dX2_around_2 : decode cX2_around 2 = .ok (.lshl, 1) := by decide +kernel
theorem dX2_around_3 : decode cX2_around 3 = .ok (.lload_n 0, 1) := by decide +kernel
theorem dX2_around_4 : decode cX2_around 4 = .ok (.iconst 1, 1) := by decide +kernel
theorem dX2_around_5 : decode cX2_around 5 = .ok (.lushr, 1) := by decide +kernel
theorem dX2_around_6 : decode cX2_around 6 = .ok (.lor, 1) := by decide +kernel
theorem dX2_around_7 : decode cX2_around 7 = .ok (.lload_n 0, 1) := by decide +kernel
theorem dX2_around_8 : decode cX2_around 8 = .ok (.bipush 8, 2) := by decide +kernel
theorem dX2_around_10 : decode cX2_around 10 = .ok (.lshl, 1) := by decide +kernel
theorem dX2_around_11 : decode cX2_around 11 = .ok (.lor, 1) := by decide +kernel
theorem dX2_around_12 : decode cX2_around 12 = .ok (.lload_n 0, 1) := by decide +kernel
theorem dX2_around_13 : decode cX2_around 13 = .ok (.bipush 8, 2) := by decide +kernel
theorem dX2_around_15 : decode cX2_around 15 = .ok (.lushr, 1) := by decide +kernel
theorem dX2_around_16 : decode cX2_around 16 = .ok (.lor, 1) := by decide +kernel
theorem dX2_around_17 : decode cX2_around 17 = .ok (.lreturn, 1) := by decide +kernel
theorem dX2_reach_0 : decode cX2_reach 0 = .ok (.lload_n 0, 1) := by decide +kernel
theorem dX2_reach_1 : decode cX2_reach 1 = .ok (.lload_n 2, 1) := by decide +kernel
theorem dX2_reach_2 : decode cX2_reach 2 = .ok (.land, 1) := by decide +kernel
theorem dX2_reach_3 : decode cX2_reach 3 = .ok (.lstore 4, 2) := by decide +kernel
theorem dX2_reach_5 : decode cX2_reach 5 = .ok (.iconst 0, 1) := by decide +kernel
theorem dX2_reach_6 : decode cX2_reach 6 = .ok (.istore 6, 2) := by decide +kernel
theorem dX2_reach_8 : decode cX2_reach 8 = .ok (.iload 6, 2) := by decide +kernel
theorem dX2_reach_10 : decode cX2_reach 10 = .ok (.bipush 64, 2) := by decide +kernel
theorem dX2_reach_12 : decode cX2_reach 12 = .ok (.if_icmp .ge 36, 3) := by decide +kernel
theorem dX2_reach_15 : decode cX2_reach 15 = .ok (.lload 4, 2) := by decide +kernel
theorem dX2_reach_17 : decode cX2_reach 17 = .ok (.lload 4, 2) := by decide +kernel
theorem dX2_reach_19 : decode cX2_reach 19 = .ok (.invokestatic 45, 3) := by decide +kernel
theorem dX2_reach_22 : decode cX2_reach 22 = .ok (.lload_n 2, 1) := by decide +kernel
theorem dX2_reach_23 : decode cX2_reach 23 = .ok (.land, 1) := by decide +kernel
theorem dX2_reach_24 : decode cX2_reach 24 = .ok (.lor, 1) := by decide +kernel
theorem dX2_reach_25 : decode cX2_reach 25 = .ok (.lstore 7, 2) := by decide +kernel
theorem dX2_reach_27 : decode cX2_reach 27 = .ok (.lload 7, 2) := by decide +kernel
theorem dX2_reach_29 : decode cX2_reach 29 = .ok (.lload 4, 2) := by decide +kernel
theorem dX2_reach_31 : decode cX2_reach 31 = .ok (.lcmp, 1) := by decide +kernel
theorem dX2_reach_32 : decode cX2_reach 32 = .ok (.ifCond .ne 6, 3) := by decide +kernel
theorem dX2_reach_35 : decode cX2_reach 35 = .ok (.lload 4, 2) := by decide +kernel
theorem dX2_reach_37 : decode cX2_reach 37 = .ok (.lreturn, 1) := by decide +kernel
theorem dX2_reach_38 : decode cX2_reach 38 = .ok (.lload 7, 2) := by decide +kernel
theorem dX2_reach_40 : decode cX2_reach 40 = .ok (.lstore 4, 2) := by decide +kernel
theorem dX2_reach_42 : decode cX2_reach 42 = .ok (.iinc 6 1, 3) := by decide +kernel
theorem dX2_reach_45 : decode cX2_reach 45 = .ok (.goto (-37), 3) := by decide +kernel
theorem dX2_reach_48 : decode cX2_reach 48 = .ok (.lload 4, 2) := by decide +kernel
theorem dX2_reach_50 : decode cX2_reach 50 = .ok (.lreturn, 1) := by decide +kernel
theorem dX2_hangs_0 : decode cX2_hangs 0 = .ok (.lload_n 0, 1) := by decide +kernel
theorem dX2_hangs_1 : decode cX2_hangs 1 = .ok (.lconst 0, 1) := by decide +kernel
theorem dX2_hangs_2 : decode cX2_hangs 2 = .ok (.lcmp, 1) := by decide +kernel
theorem dX2_hangs_3 : decode cX2_hangs 3 = .ok (.ifCond .eq 20, 3) := by decide +kernel
theorem dX2_hangs_6 : decode cX2_hangs 6 = .ok (.lload_n 0, 1) := by decide +kernel
theorem dX2_hangs_7 : decode cX2_hangs 7 = .ok (.lload_n 0, 1) := by decide +kernel
theorem dX2_hangs_8 : decode cX2_hangs 8 = .ok (.lneg, 1) := by decide +kernel
theorem dX2_hangs_9 : decode cX2_hangs 9 = .ok (.land, 1) := by decide +kernel
theorem dX2_hangs_10 : decode cX2_hangs 10 = .ok (.lload_n 0, 1) := by decide +kernel
theorem dX2_hangs_11 : decode cX2_hangs 11 = .ok (.invokestatic 48, 3) := by decide +kernel
theorem dX2_hangs_14 : decode cX2_hangs 14 = .ok (.lload_n 0, 1) := by decide +kernel
theorem dX2_hangs_15 : decode cX2_hangs 15 = .ok (.lcmp, 1) := by decide +kernel
theorem dX2_hangs_16 : decode cX2_hangs 16 = .ok (.ifCond .ne 7, 3) := by decide +kernel
theorem dX2_hangs_19 : decode cX2_hangs 19 = .ok (.iconst 1, 1) := by decide +kernel
theorem dX2_hangs_20 : decode cX2_hangs 20 = .ok (.goto 4, 3) := by decide +kernel
theorem dX2_hangs_23 : decode cX2_hangs 23 = .ok (.iconst 0, 1) := by decide +kernel
theorem dX2_hangs_24 : decode cX2_hangs 24 = .ok (.ireturn, 1) := by decide +kernel
theorem dX2_isFigure_0 : decode cX2_isFigure 0 = .ok (.lload_n 0, 1) := by decide +kernel
theorem dX2_isFigure_1 : decode cX2_isFigure 1 = .ok (.ldc2_w 52, 3) := by decide +kernel
theorem dX2_isFigure_4 : decode cX2_isFigure 4 = .ok (.land, 1) := by decide +kernel
theorem dX2_isFigure_5 : decode cX2_isFigure 5 = .ok (.lconst 0, 1) := by decide +kernel
theorem dX2_isFigure_6 : decode cX2_isFigure 6 = .ok (.lcmp, 1) := by decide +kernel
theorem dX2_isFigure_7 : decode cX2_isFigure 7 = .ok (.ifCond .ne 43, 3) := by decide +kernel
theorem dX2_isFigure_10 : decode cX2_isFigure 10 = .ok (.lload_n 0, 1) := by decide +kernel
theorem dX2_isFigure_11 : decode cX2_isFigure 11 = .ok (.ldc2_w 21, 3) := by decide +kernel
theorem dX2_isFigure_14 : decode cX2_isFigure 14 = .ok (.land, 1) := by decide +kernel
theorem dX2_isFigure_15 : decode cX2_isFigure 15 = .ok (.lconst 0, 1) := by decide +kernel
theorem dX2_isFigure_16 : decode cX2_isFigure 16 = .ok (.lcmp, 1) := by decide +kernel
theorem dX2_isFigure_17 : decode cX2_isFigure 17 = .ok (.ifCond .eq 33, 3) := by decide +kernel
theorem dX2_isFigure_20 : decode cX2_isFigure 20 = .ok (.lload_n 0, 1) := by decide +kernel
theorem dX2_isFigure_21 : decode cX2_isFigure 21 = .ok (.ldc2_w 27, 3) := by decide +kernel
theorem dX2_isFigure_24 : decode cX2_isFigure 24 = .ok (.land, 1) := by decide +kernel
theorem dX2_isFigure_25 : decode cX2_isFigure 25 = .ok (.lconst 0, 1) := by decide +kernel
theorem dX2_isFigure_26 : decode cX2_isFigure 26 = .ok (.lcmp, 1) := by decide +kernel
theorem dX2_isFigure_27 : decode cX2_isFigure 27 = .ok (.ifCond .eq 23, 3) := by decide +kernel
theorem dX2_isFigure_30 : decode cX2_isFigure 30 = .ok (.lload_n 0, 1) := by decide +kernel
theorem dX2_isFigure_31 : decode cX2_isFigure 31 = .ok (.invokestatic 11, 3) := by decide +kernel
theorem dX2_isFigure_34 : decode cX2_isFigure 34 = .ok (.bipush 12, 2) := by decide +kernel
theorem dX2_isFigure_36 : decode cX2_isFigure 36 = .ok (.if_icmp .gt 14, 3) := by decide +kernel
theorem dX2_isFigure_39 : decode cX2_isFigure 39 = .ok (.lload_n 0, 1) := by decide +kernel
theorem dX2_isFigure_40 : decode cX2_isFigure 40 = .ok (.invokestatic 54, 3) := by decide +kernel
theorem dX2_isFigure_43 : decode cX2_isFigure 43 = .ok (.ifCond .eq 7, 3) := by decide +kernel
theorem dX2_isFigure_46 : decode cX2_isFigure 46 = .ok (.iconst 1, 1) := by decide +kernel
theorem dX2_isFigure_47 : decode cX2_isFigure 47 = .ok (.goto 4, 3) := by decide +kernel
theorem dX2_isFigure_50 : decode cX2_isFigure 50 = .ok (.iconst 0, 1) := by decide +kernel
theorem dX2_isFigure_51 : decode cX2_isFigure 51 = .ok (.ireturn, 1) := by decide +kernel
theorem dX2_flipped_0 : decode cX2_flipped 0 = .ok (.lload_n 0, 1) := by decide +kernel
theorem dX2_flipped_1 : decode cX2_flipped 1 = .ok (.iconst 1, 1) := by decide +kernel
theorem dX2_flipped_2 : decode cX2_flipped 2 = .ok (.lushr, 1) := by decide +kernel
theorem dX2_flipped_3 : decode cX2_flipped 3 = .ok (.ldc2_w 58, 3) := by decide +kernel
theorem dX2_flipped_6 : decode cX2_flipped 6 = .ok (.land, 1) := by decide +kernel
theorem dX2_flipped_7 : decode cX2_flipped 7 = .ok (.lload_n 0, 1) := by decide +kernel
theorem dX2_flipped_8 : decode cX2_flipped 8 = .ok (.ldc2_w 58, 3) := by decide +kernel
theorem dX2_flipped_11 : decode cX2_flipped 11 = .ok (.land, 1) := by decide +kernel
theorem dX2_flipped_12 : decode cX2_flipped 12 = .ok (.iconst 1, 1) := by decide +kernel
theorem dX2_flipped_13 : decode cX2_flipped 13 = .ok (.lshl, 1) := by decide +kernel
theorem dX2_flipped_14 : decode cX2_flipped 14 = .ok (.lor, 1) := by decide +kernel
theorem dX2_flipped_15 : decode cX2_flipped 15 = .ok (.lstore_n 2, 1) := by decide +kernel
theorem dX2_flipped_16 : decode cX2_flipped 16 = .ok (.lload_n 2, 1) := by decide +kernel
theorem dX2_flipped_17 : decode cX2_flipped 17 = .ok (.iconst 2, 1) := by decide +kernel
theorem dX2_flipped_18 : decode cX2_flipped 18 = .ok (.lushr, 1) := by decide +kernel
theorem dX2_flipped_19 : decode cX2_flipped 19 = .ok (.ldc2_w 60, 3) := by decide +kernel
theorem dX2_flipped_22 : decode cX2_flipped 22 = .ok (.land, 1) := by decide +kernel
theorem dX2_flipped_23 : decode cX2_flipped 23 = .ok (.lload_n 2, 1) := by decide +kernel
theorem dX2_flipped_24 : decode cX2_flipped 24 = .ok (.ldc2_w 60, 3) := by decide +kernel
theorem dX2_flipped_27 : decode cX2_flipped 27 = .ok (.land, 1) := by decide +kernel
theorem dX2_flipped_28 : decode cX2_flipped 28 = .ok (.iconst 2, 1) := by decide +kernel
theorem dX2_flipped_29 : decode cX2_flipped 29 = .ok (.lshl, 1) := by decide +kernel
theorem dX2_flipped_30 : decode cX2_flipped 30 = .ok (.lor, 1) := by decide +kernel
theorem dX2_flipped_31 : decode cX2_flipped 31 = .ok (.lstore_n 2, 1) := by decide +kernel
theorem dX2_flipped_32 : decode cX2_flipped 32 = .ok (.lload_n 2, 1) := by decide +kernel
theorem dX2_flipped_33 : decode cX2_flipped 33 = .ok (.iconst 4, 1) := by decide +kernel
theorem dX2_flipped_34 : decode cX2_flipped 34 = .ok (.lushr, 1) := by decide +kernel
theorem dX2_flipped_35 : decode cX2_flipped 35 = .ok (.ldc2_w 62, 3) := by decide +kernel
theorem dX2_flipped_38 : decode cX2_flipped 38 = .ok (.land, 1) := by decide +kernel
theorem dX2_flipped_39 : decode cX2_flipped 39 = .ok (.lload_n 2, 1) := by decide +kernel
theorem dX2_flipped_40 : decode cX2_flipped 40 = .ok (.ldc2_w 62, 3) := by decide +kernel
theorem dX2_flipped_43 : decode cX2_flipped 43 = .ok (.land, 1) := by decide +kernel
theorem dX2_flipped_44 : decode cX2_flipped 44 = .ok (.iconst 4, 1) := by decide +kernel
theorem dX2_flipped_45 : decode cX2_flipped 45 = .ok (.lshl, 1) := by decide +kernel
theorem dX2_flipped_46 : decode cX2_flipped 46 = .ok (.lor, 1) := by decide +kernel
theorem dX2_flipped_47 : decode cX2_flipped 47 = .ok (.lreturn, 1) := by decide +kernel
theorem dX2_transposed_0 : decode cX2_transposed 0 = .ok (.lload_n 0, 1) := by decide +kernel
theorem dX2_transposed_1 : decode cX2_transposed 1 = .ok (.lload_n 0, 1) := by decide +kernel
theorem dX2_transposed_2 : decode cX2_transposed 2 = .ok (.bipush 7, 2) := by decide +kernel
theorem dX2_transposed_4 : decode cX2_transposed 4 = .ok (.lushr, 1) := by decide +kernel
theorem dX2_transposed_5 : decode cX2_transposed 5 = .ok (.lxor, 1) := by decide +kernel
theorem dX2_transposed_6 : decode cX2_transposed 6 = .ok (.ldc2_w 64, 3) := by decide +kernel
theorem dX2_transposed_9 : decode cX2_transposed 9 = .ok (.land, 1) := by decide +kernel
theorem dX2_transposed_10 : decode cX2_transposed 10 = .ok (.lstore_n 2, 1) := by decide +kernel
theorem dX2_transposed_11 : decode cX2_transposed 11 = .ok (.lload_n 0, 1) := by decide +kernel
theorem dX2_transposed_12 : decode cX2_transposed 12 = .ok (.lload_n 2, 1) := by decide +kernel
theorem dX2_transposed_13 : decode cX2_transposed 13 = .ok (.lxor, 1) := by decide +kernel
theorem dX2_transposed_14 : decode cX2_transposed 14 = .ok (.lload_n 2, 1) := by decide +kernel
theorem dX2_transposed_15 : decode cX2_transposed 15 = .ok (.bipush 7, 2) := by decide +kernel
theorem dX2_transposed_17 : decode cX2_transposed 17 = .ok (.lshl, 1) := by decide +kernel
theorem dX2_transposed_18 : decode cX2_transposed 18 = .ok (.lxor, 1) := by decide +kernel
theorem dX2_transposed_19 : decode cX2_transposed 19 = .ok (.lstore 4, 2) := by decide +kernel
theorem dX2_transposed_21 : decode cX2_transposed 21 = .ok (.lload 4, 2) := by decide +kernel
theorem dX2_transposed_23 : decode cX2_transposed 23 = .ok (.lload 4, 2) := by decide +kernel
theorem dX2_transposed_25 : decode cX2_transposed 25 = .ok (.bipush 14, 2) := by decide +kernel
theorem dX2_transposed_27 : decode cX2_transposed 27 = .ok (.lushr, 1) := by decide +kernel
theorem dX2_transposed_28 : decode cX2_transposed 28 = .ok (.lxor, 1) := by decide +kernel
theorem dX2_transposed_29 : decode cX2_transposed 29 = .ok (.ldc2_w 66, 3) := by decide +kernel
theorem dX2_transposed_32 : decode cX2_transposed 32 = .ok (.land, 1) := by decide +kernel
theorem dX2_transposed_33 : decode cX2_transposed 33 = .ok (.lstore_n 2, 1) := by decide +kernel
theorem dX2_transposed_34 : decode cX2_transposed 34 = .ok (.lload 4, 2) := by decide +kernel
theorem dX2_transposed_36 : decode cX2_transposed 36 = .ok (.lload_n 2, 1) := by decide +kernel
theorem dX2_transposed_37 : decode cX2_transposed 37 = .ok (.lxor, 1) := by decide +kernel
theorem dX2_transposed_38 : decode cX2_transposed 38 = .ok (.lload_n 2, 1) := by decide +kernel
theorem dX2_transposed_39 : decode cX2_transposed 39 = .ok (.bipush 14, 2) := by decide +kernel
theorem dX2_transposed_41 : decode cX2_transposed 41 = .ok (.lshl, 1) := by decide +kernel
theorem dX2_transposed_42 : decode cX2_transposed 42 = .ok (.lxor, 1) := by decide +kernel
theorem dX2_transposed_43 : decode cX2_transposed 43 = .ok (.lstore 4, 2) := by decide +kernel
theorem dX2_transposed_45 : decode cX2_transposed 45 = .ok (.lload 4, 2) := by decide +kernel
theorem dX2_transposed_47 : decode cX2_transposed 47 = .ok (.lload 4, 2) := by decide +kernel
theorem dX2_transposed_49 : decode cX2_transposed 49 = .ok (.bipush 28, 2) := by decide +kernel
theorem dX2_transposed_51 : decode cX2_transposed 51 = .ok (.lushr, 1) := by decide +kernel
theorem dX2_transposed_52 : decode cX2_transposed 52 = .ok (.lxor, 1) := by decide +kernel
theorem dX2_transposed_53 : decode cX2_transposed 53 = .ok (.ldc2_w 68, 3) := by decide +kernel
theorem dX2_transposed_56 : decode cX2_transposed 56 = .ok (.land, 1) := by decide +kernel
theorem dX2_transposed_57 : decode cX2_transposed 57 = .ok (.lstore_n 2, 1) := by decide +kernel
theorem dX2_transposed_58 : decode cX2_transposed 58 = .ok (.lload 4, 2) := by decide +kernel
theorem dX2_transposed_60 : decode cX2_transposed 60 = .ok (.lload_n 2, 1) := by decide +kernel
theorem dX2_transposed_61 : decode cX2_transposed 61 = .ok (.lxor, 1) := by decide +kernel
theorem dX2_transposed_62 : decode cX2_transposed 62 = .ok (.lload_n 2, 1) := by decide +kernel
theorem dX2_transposed_63 : decode cX2_transposed 63 = .ok (.bipush 28, 2) := by decide +kernel
theorem dX2_transposed_65 : decode cX2_transposed 65 = .ok (.lshl, 1) := by decide +kernel
theorem dX2_transposed_66 : decode cX2_transposed 66 = .ok (.lxor, 1) := by decide +kernel
theorem dX2_transposed_67 : decode cX2_transposed 67 = .ok (.lreturn, 1) := by decide +kernel
theorem dX2_mirrored_0 : decode cX2_mirrored 0 = .ok (.lload_n 0, 1) := by decide +kernel
theorem dX2_mirrored_1 : decode cX2_mirrored 1 = .ok (.invokestatic 70, 3) := by decide +kernel
theorem dX2_mirrored_4 : decode cX2_mirrored 4 = .ok (.invokestatic 73, 3) := by decide +kernel
theorem dX2_mirrored_7 : decode cX2_mirrored 7 = .ok (.lreturn, 1) := by decide +kernel
theorem dX2_quarter_0 : decode cX2_quarter 0 = .ok (.lload_n 0, 1) := by decide +kernel
theorem dX2_quarter_1 : decode cX2_quarter 1 = .ok (.invokestatic 76, 3) := by decide +kernel
theorem dX2_quarter_4 : decode cX2_quarter 4 = .ok (.invokestatic 70, 3) := by decide +kernel
theorem dX2_quarter_7 : decode cX2_quarter 7 = .ok (.invokestatic 73, 3) := by decide +kernel
theorem dX2_quarter_10 : decode cX2_quarter 10 = .ok (.lreturn, 1) := by decide +kernel
theorem dX2_turned_0 : decode cX2_turned 0 = .ok (.iload_n 2, 1) := by decide +kernel
theorem dX2_turned_1 : decode cX2_turned 1 = .ok (.iconst 4, 1) := by decide +kernel
theorem dX2_turned_2 : decode cX2_turned 2 = .ok (.if_icmp .lt 10, 3) := by decide +kernel
theorem dX2_turned_5 : decode cX2_turned 5 = .ok (.lload_n 0, 1) := by decide +kernel
theorem dX2_turned_6 : decode cX2_turned 6 = .ok (.invokestatic 79, 3) := by decide +kernel
theorem dX2_turned_9 : decode cX2_turned 9 = .ok (.goto 4, 3) := by decide +kernel
theorem dX2_turned_12 : decode cX2_turned 12 = .ok (.lload_n 0, 1) := by decide +kernel
theorem dX2_turned_13 : decode cX2_turned 13 = .ok (.lstore_n 3, 1) := by decide +kernel
theorem dX2_turned_14 : decode cX2_turned 14 = .ok (.iconst 0, 1) := by decide +kernel
theorem dX2_turned_15 : decode cX2_turned 15 = .ok (.istore 5, 2) := by decide +kernel
theorem dX2_turned_17 : decode cX2_turned 17 = .ok (.iload 5, 2) := by decide +kernel
theorem dX2_turned_19 : decode cX2_turned 19 = .ok (.iload_n 2, 1) := by decide +kernel
theorem dX2_turned_20 : decode cX2_turned 20 = .ok (.iconst 3, 1) := by decide +kernel
theorem dX2_turned_21 : decode cX2_turned 21 = .ok (.iand, 1) := by decide +kernel
theorem dX2_turned_22 : decode cX2_turned 22 = .ok (.if_icmp .ge 14, 3) := by decide +kernel
theorem dX2_turned_25 : decode cX2_turned 25 = .ok (.lload_n 3, 1) := by decide +kernel
theorem dX2_turned_26 : decode cX2_turned 26 = .ok (.invokestatic 82, 3) := by decide +kernel
theorem dX2_turned_29 : decode cX2_turned 29 = .ok (.lstore_n 3, 1) := by decide +kernel
theorem dX2_turned_30 : decode cX2_turned 30 = .ok (.iinc 5 1, 3) := by decide +kernel
theorem dX2_turned_33 : decode cX2_turned 33 = .ok (.goto (-16), 3) := by decide +kernel
theorem dX2_turned_36 : decode cX2_turned 36 = .ok (.lload_n 3, 1) := by decide +kernel
theorem dX2_turned_37 : decode cX2_turned 37 = .ok (.lreturn, 1) := by decide +kernel
theorem dX2_turnsOf_0 : decode cX2_turnsOf 0 = .ok (.iload_n 0, 1) := by decide +kernel
theorem dX2_turnsOf_1 : decode cX2_turnsOf 1 = .ok (.ifCond .ne 7, 3) := by decide +kernel
theorem dX2_turnsOf_4 : decode cX2_turnsOf 4 = .ok (.iconst 1, 1) := by decide +kernel
theorem dX2_turnsOf_5 : decode cX2_turnsOf 5 = .ok (.goto 14, 3) := by decide +kernel
theorem dX2_turnsOf_8 : decode cX2_turnsOf 8 = .ok (.iload_n 0, 1) := by decide +kernel
theorem dX2_turnsOf_9 : decode cX2_turnsOf 9 = .ok (.iconst 1, 1) := by decide +kernel
theorem dX2_turnsOf_10 : decode cX2_turnsOf 10 = .ok (.if_icmp .ne 7, 3) := by decide +kernel
theorem dX2_turnsOf_13 : decode cX2_turnsOf 13 = .ok (.iconst 4, 1) := by decide +kernel
theorem dX2_turnsOf_14 : decode cX2_turnsOf 14 = .ok (.goto 5, 3) := by decide +kernel
theorem dX2_turnsOf_17 : decode cX2_turnsOf 17 = .ok (.bipush 8, 2) := by decide +kernel
theorem dX2_turnsOf_19 : decode cX2_turnsOf 19 = .ok (.ireturn, 1) := by decide +kernel
theorem dX2_least_0 : decode cX2_least 0 = .ok (.lload_n 0, 1) := by decide +kernel
theorem dX2_least_1 : decode cX2_least 1 = .ok (.lstore_n 3, 1) := by decide +kernel
theorem dX2_least_2 : decode cX2_least 2 = .ok (.lload_n 0, 1) := by decide +kernel
theorem dX2_least_3 : decode cX2_least 3 = .ok (.lstore 5, 2) := by decide +kernel
theorem dX2_least_5 : decode cX2_least 5 = .ok (.iconst 1, 1) := by decide +kernel
theorem dX2_least_6 : decode cX2_least 6 = .ok (.istore 7, 2) := by decide +kernel
theorem dX2_least_8 : decode cX2_least 8 = .ok (.iload 7, 2) := by decide +kernel
theorem dX2_least_10 : decode cX2_least 10 = .ok (.iload_n 2, 1) := by decide +kernel
theorem dX2_least_11 : decode cX2_least 11 = .ok (.invokestatic 85, 3) := by decide +kernel
theorem dX2_least_14 : decode cX2_least 14 = .ok (.if_icmp .ge 36, 3) := by decide +kernel
theorem dX2_least_17 : decode cX2_least 17 = .ok (.iload 7, 2) := by decide +kernel
theorem dX2_least_19 : decode cX2_least 19 = .ok (.iconst 4, 1) := by decide +kernel
theorem dX2_least_20 : decode cX2_least 20 = .ok (.if_icmp .ne 10, 3) := by decide +kernel
theorem dX2_least_23 : decode cX2_least 23 = .ok (.lload_n 0, 1) := by decide +kernel
theorem dX2_least_24 : decode cX2_least 24 = .ok (.invokestatic 79, 3) := by decide +kernel
theorem dX2_least_27 : decode cX2_least 27 = .ok (.goto 8, 3) := by decide +kernel
theorem dX2_least_30 : decode cX2_least 30 = .ok (.lload 5, 2) := by decide +kernel
theorem dX2_least_32 : decode cX2_least 32 = .ok (.invokestatic 82, 3) := by decide +kernel
theorem dX2_least_35 : decode cX2_least 35 = .ok (.lstore 5, 2) := by decide +kernel
theorem dX2_least_37 : decode cX2_least 37 = .ok (.lload_n 3, 1) := by decide +kernel
theorem dX2_least_38 : decode cX2_least 38 = .ok (.lload 5, 2) := by decide +kernel
theorem dX2_least_40 : decode cX2_least 40 = .ok (.invokestatic 89, 3) := by decide +kernel
theorem dX2_least_43 : decode cX2_least 43 = .ok (.lstore_n 3, 1) := by decide +kernel
theorem dX2_least_44 : decode cX2_least 44 = .ok (.iinc 7 1, 3) := by decide +kernel
theorem dX2_least_47 : decode cX2_least 47 = .ok (.goto (-39), 3) := by decide +kernel
theorem dX2_least_50 : decode cX2_least 50 = .ok (.lload_n 3, 1) := by decide +kernel
theorem dX2_least_51 : decode cX2_least 51 = .ok (.lreturn, 1) := by decide +kernel
theorem dX2_isLeast_0 : decode cX2_isLeast 0 = .ok (.lload_n 0, 1) := by decide +kernel
theorem dX2_isLeast_1 : decode cX2_isLeast 1 = .ok (.lstore_n 3, 1) := by decide +kernel
theorem dX2_isLeast_2 : decode cX2_isLeast 2 = .ok (.iconst 1, 1) := by decide +kernel
theorem dX2_isLeast_3 : decode cX2_isLeast 3 = .ok (.istore 5, 2) := by decide +kernel
theorem dX2_isLeast_5 : decode cX2_isLeast 5 = .ok (.iload 5, 2) := by decide +kernel
theorem dX2_isLeast_7 : decode cX2_isLeast 7 = .ok (.iload_n 2, 1) := by decide +kernel
theorem dX2_isLeast_8 : decode cX2_isLeast 8 = .ok (.invokestatic 85, 3) := by decide +kernel
theorem dX2_isLeast_11 : decode cX2_isLeast 11 = .ok (.if_icmp .ge 35, 3) := by decide +kernel
theorem dX2_isLeast_14 : decode cX2_isLeast 14 = .ok (.iload 5, 2) := by decide +kernel
theorem dX2_isLeast_16 : decode cX2_isLeast 16 = .ok (.iconst 4, 1) := by decide +kernel
theorem dX2_isLeast_17 : decode cX2_isLeast 17 = .ok (.if_icmp .ne 10, 3) := by decide +kernel
theorem dX2_isLeast_20 : decode cX2_isLeast 20 = .ok (.lload_n 0, 1) := by decide +kernel
theorem dX2_isLeast_21 : decode cX2_isLeast 21 = .ok (.invokestatic 79, 3) := by decide +kernel
theorem dX2_isLeast_24 : decode cX2_isLeast 24 = .ok (.goto 7, 3) := by decide +kernel
theorem dX2_isLeast_27 : decode cX2_isLeast 27 = .ok (.lload_n 3, 1) := by decide +kernel
theorem dX2_isLeast_28 : decode cX2_isLeast 28 = .ok (.invokestatic 82, 3) := by decide +kernel
theorem dX2_isLeast_31 : decode cX2_isLeast 31 = .ok (.lstore_n 3, 1) := by decide +kernel
theorem dX2_isLeast_32 : decode cX2_isLeast 32 = .ok (.lload_n 3, 1) := by decide +kernel
theorem dX2_isLeast_33 : decode cX2_isLeast 33 = .ok (.lload_n 0, 1) := by decide +kernel
theorem dX2_isLeast_34 : decode cX2_isLeast 34 = .ok (.lcmp, 1) := by decide +kernel
theorem dX2_isLeast_35 : decode cX2_isLeast 35 = .ok (.ifCond .ge 5, 3) := by decide +kernel
theorem dX2_isLeast_38 : decode cX2_isLeast 38 = .ok (.iconst 0, 1) := by decide +kernel
theorem dX2_isLeast_39 : decode cX2_isLeast 39 = .ok (.ireturn, 1) := by decide +kernel
theorem dX2_isLeast_40 : decode cX2_isLeast 40 = .ok (.iinc 5 1, 3) := by decide +kernel
theorem dX2_isLeast_43 : decode cX2_isLeast 43 = .ok (.goto (-38), 3) := by decide +kernel
theorem dX2_isLeast_46 : decode cX2_isLeast 46 = .ok (.iconst 1, 1) := by decide +kernel
theorem dX2_isLeast_47 : decode cX2_isLeast 47 = .ok (.ireturn, 1) := by decide +kernel
theorem dX2_roomed_0 : decode cX2_roomed 0 = .ok (.lload_n 0, 1) := by decide +kernel
theorem dX2_roomed_1 : decode cX2_roomed 1 = .ok (.invokestatic 35, 3) := by decide +kernel
theorem dX2_roomed_4 : decode cX2_roomed 4 = .ok (.bipush 7, 2) := by decide +kernel
theorem dX2_roomed_6 : decode cX2_roomed 6 = .ok (.if_icmp .ge 9, 3) := by decide +kernel
theorem dX2_roomed_9 : decode cX2_roomed 9 = .ok (.lload_n 0, 1) := by decide +kernel
theorem dX2_roomed_10 : decode cX2_roomed 10 = .ok (.iconst 1, 1) := by decide +kernel
theorem dX2_roomed_11 : decode cX2_roomed 11 = .ok (.lshl, 1) := by decide +kernel
theorem dX2_roomed_12 : decode cX2_roomed 12 = .ok (.goto 4, 3) := by decide +kernel
theorem dX2_roomed_15 : decode cX2_roomed 15 = .ok (.lload_n 0, 1) := by decide +kernel
theorem dX2_roomed_16 : decode cX2_roomed 16 = .ok (.lstore_n 2, 1) := by decide +kernel
theorem dX2_roomed_17 : decode cX2_roomed 17 = .ok (.lload_n 0, 1) := by decide +kernel
theorem dX2_roomed_18 : decode cX2_roomed 18 = .ok (.invokestatic 38, 3) := by decide +kernel
theorem dX2_roomed_21 : decode cX2_roomed 21 = .ok (.bipush 7, 2) := by decide +kernel
theorem dX2_roomed_23 : decode cX2_roomed 23 = .ok (.if_icmp .ge 10, 3) := by decide +kernel
theorem dX2_roomed_26 : decode cX2_roomed 26 = .ok (.lload_n 2, 1) := by decide +kernel
theorem dX2_roomed_27 : decode cX2_roomed 27 = .ok (.bipush 8, 2) := by decide +kernel
theorem dX2_roomed_29 : decode cX2_roomed 29 = .ok (.lshl, 1) := by decide +kernel
theorem dX2_roomed_30 : decode cX2_roomed 30 = .ok (.goto 4, 3) := by decide +kernel
theorem dX2_roomed_33 : decode cX2_roomed 33 = .ok (.lload_n 2, 1) := by decide +kernel
theorem dX2_roomed_34 : decode cX2_roomed 34 = .ok (.lreturn, 1) := by decide +kernel
theorem dX2_sites_0 : decode cX2_sites 0 = .ok (.lload_n 2, 1) := by decide +kernel
theorem dX2_sites_1 : decode cX2_sites 1 = .ok (.ldc2_w 92, 3) := by decide +kernel
theorem dX2_sites_4 : decode cX2_sites 4 = .ok (.lxor, 1) := by decide +kernel
theorem dX2_sites_5 : decode cX2_sites 5 = .ok (.lstore 4, 2) := by decide +kernel
theorem dX2_sites_7 : decode cX2_sites 7 = .ok (.lload_n 0, 1) := by decide +kernel
theorem dX2_sites_8 : decode cX2_sites 8 = .ok (.invokestatic 35, 3) := by decide +kernel
theorem dX2_sites_11 : decode cX2_sites 11 = .ok (.bipush 7, 2) := by decide +kernel
theorem dX2_sites_13 : decode cX2_sites 13 = .ok (.if_icmp .lt 11, 3) := by decide +kernel
theorem dX2_sites_16 : decode cX2_sites 16 = .ok (.lload 4, 2) := by decide +kernel
theorem dX2_sites_18 : decode cX2_sites 18 = .ok (.ldc2_w 94, 3) := by decide +kernel
theorem dX2_sites_21 : decode cX2_sites 21 = .ok (.land, 1) := by decide +kernel
theorem dX2_sites_22 : decode cX2_sites 22 = .ok (.lstore 4, 2) := by decide +kernel
theorem dX2_sites_24 : decode cX2_sites 24 = .ok (.lload_n 0, 1) := by decide +kernel
theorem dX2_sites_25 : decode cX2_sites 25 = .ok (.invokestatic 38, 3) := by decide +kernel
theorem dX2_sites_28 : decode cX2_sites 28 = .ok (.bipush 7, 2) := by decide +kernel
theorem dX2_sites_30 : decode cX2_sites 30 = .ok (.if_icmp .lt 11, 3) := by decide +kernel
theorem dX2_sites_33 : decode cX2_sites 33 = .ok (.lload 4, 2) := by decide +kernel
theorem dX2_sites_35 : decode cX2_sites 35 = .ok (.ldc2_w 96, 3) := by decide +kernel
theorem dX2_sites_38 : decode cX2_sites 38 = .ok (.land, 1) := by decide +kernel
theorem dX2_sites_39 : decode cX2_sites 39 = .ok (.lstore 4, 2) := by decide +kernel
theorem dX2_sites_41 : decode cX2_sites 41 = .ok (.lload_n 2, 1) := by decide +kernel
theorem dX2_sites_42 : decode cX2_sites 42 = .ok (.invokestatic 45, 3) := by decide +kernel
theorem dX2_sites_45 : decode cX2_sites 45 = .ok (.lload 4, 2) := by decide +kernel
theorem dX2_sites_47 : decode cX2_sites 47 = .ok (.land, 1) := by decide +kernel
theorem dX2_sites_48 : decode cX2_sites 48 = .ok (.lreturn, 1) := by decide +kernel
theorem dX3_addForms_0 : decode cX3_addForms 0 = .ok (.aload_n 3, 1) := by decide +kernel
theorem dX3_addForms_1 : decode cX3_addForms 1 = .ok (.lload_n 0, 1) := by decide +kernel
theorem dX3_addForms_2 : decode cX3_addForms 2 = .ok (.invokevirtual 9, 3) := by decide +kernel
theorem dX3_addForms_5 : decode cX3_addForms 5 = .ok (.lload_n 0, 1) := by decide +kernel
theorem dX3_addForms_6 : decode cX3_addForms 6 = .ok (.lstore 4, 2) := by decide +kernel
theorem dX3_addForms_8 : decode cX3_addForms 8 = .ok (.iconst 1, 1) := by decide +kernel
theorem dX3_addForms_9 : decode cX3_addForms 9 = .ok (.istore 6, 2) := by decide +kernel
theorem dX3_addForms_11 : decode cX3_addForms 11 = .ok (.iload 6, 2) := by decide +kernel
theorem dX3_addForms_13 : decode cX3_addForms 13 = .ok (.bipush 8, 2) := by decide +kernel
theorem dX3_addForms_15 : decode cX3_addForms 15 = .ok (.if_icmp .ge 39, 3) := by decide +kernel
theorem dX3_addForms_18 : decode cX3_addForms 18 = .ok (.iload_n 2, 1) := by decide +kernel
theorem dX3_addForms_19 : decode cX3_addForms 19 = .ok (.ifCond .eq 35, 3) := by decide +kernel
theorem dX3_addForms_22 : decode cX3_addForms 22 = .ok (.iload 6, 2) := by decide +kernel
theorem dX3_addForms_24 : decode cX3_addForms 24 = .ok (.iconst 4, 1) := by decide +kernel
theorem dX3_addForms_25 : decode cX3_addForms 25 = .ok (.if_icmp .ne 10, 3) := by decide +kernel
theorem dX3_addForms_28 : decode cX3_addForms 28 = .ok (.lload_n 0, 1) := by decide +kernel
theorem dX3_addForms_29 : decode cX3_addForms 29 = .ok (.invokestatic 15, 3) := by decide +kernel
theorem dX3_addForms_32 : decode cX3_addForms 32 = .ok (.goto 8, 3) := by decide +kernel
theorem dX3_addForms_35 : decode cX3_addForms 35 = .ok (.lload 4, 2) := by decide +kernel
theorem dX3_addForms_37 : decode cX3_addForms 37 = .ok (.invokestatic 21, 3) := by decide +kernel
theorem dX3_addForms_40 : decode cX3_addForms 40 = .ok (.lstore 4, 2) := by decide +kernel
theorem dX3_addForms_42 : decode cX3_addForms 42 = .ok (.aload_n 3, 1) := by decide +kernel
theorem dX3_addForms_43 : decode cX3_addForms 43 = .ok (.lload 4, 2) := by decide +kernel
theorem dX3_addForms_45 : decode cX3_addForms 45 = .ok (.invokevirtual 9, 3) := by decide +kernel
theorem dX3_addForms_48 : decode cX3_addForms 48 = .ok (.iinc 6 1, 3) := by decide +kernel
theorem dX3_addForms_51 : decode cX3_addForms 51 = .ok (.goto (-40), 3) := by decide +kernel
theorem dX3_addForms_54 : decode cX3_addForms 54 = .ok (.return_, 1) := by decide +kernel
theorem dX3_gather_0 : decode cX3_gather 0 = .ok (.aload 4, 2) := by decide +kernel
theorem dX3_gather_2 : decode cX3_gather 2 = .ok (.invokevirtual 24, 3) := by decide +kernel
theorem dX3_gather_5 : decode cX3_gather 5 = .ok (.iload_n 3, 1) := by decide +kernel
theorem dX3_gather_6 : decode cX3_gather 6 = .ok (.ifCond .eq 13, 3) := by decide +kernel
theorem dX3_gather_9 : decode cX3_gather 9 = .ok (.lload_n 0, 1) := by decide +kernel
theorem dX3_gather_10 : decode cX3_gather 10 = .ok (.iload_n 2, 1) := by decide +kernel
theorem dX3_gather_11 : decode cX3_gather 11 = .ok (.aload 4, 2) := by decide +kernel
theorem dX3_gather_13 : decode cX3_gather 13 = .ok (.invokestatic 27, 3) := by decide +kernel
theorem dX3_gather_16 : decode cX3_gather 16 = .ok (.goto 10, 3) := by decide +kernel
theorem dX3_gather_19 : decode cX3_gather 19 = .ok (.lload_n 0, 1) := by decide +kernel
theorem dX3_gather_20 : decode cX3_gather 20 = .ok (.iload_n 2, 1) := by decide +kernel
theorem dX3_gather_21 : decode cX3_gather 21 = .ok (.aload 4, 2) := by decide +kernel
theorem dX3_gather_23 : decode cX3_gather 23 = .ok (.invokestatic 33, 3) := by decide +kernel
theorem dX3_gather_26 : decode cX3_gather 26 = .ok (.return_, 1) := by decide +kernel
theorem dX3_gatherGrown_0 : decode cX3_gatherGrown 0 = .ok (.lload_n 0, 1) := by decide +kernel
theorem dX3_gatherGrown_1 : decode cX3_gatherGrown 1 = .ok (.invokestatic 36, 3) := by decide +kernel
theorem dX3_gatherGrown_4 : decode cX3_gatherGrown 4 = .ok (.bipush 12, 2) := by decide +kernel
theorem dX3_gatherGrown_6 : decode cX3_gatherGrown 6 = .ok (.if_icmp .lt 4, 3) := by decide +kernel
theorem dX3_gatherGrown_9 : decode cX3_gatherGrown 9 = .ok (.return_, 1) := by decide +kernel
theorem dX3_gatherGrown_10 : decode cX3_gatherGrown 10 = .ok (.lload_n 0, 1) := by decide +kernel
theorem dX3_gatherGrown_11 : decode cX3_gatherGrown 11 = .ok (.invokestatic 42, 3) := by decide +kernel
theorem dX3_gatherGrown_14 : decode cX3_gatherGrown 14 = .ok (.lstore 4, 2) := by decide +kernel
theorem dX3_gatherGrown_16 : decode cX3_gatherGrown 16 = .ok (.lload_n 0, 1) := by decide +kernel
theorem dX3_gatherGrown_17 : decode cX3_gatherGrown 17 = .ok (.lload 4, 2) := by decide +kernel
theorem dX3_gatherGrown_19 : decode cX3_gatherGrown 19 = .ok (.invokestatic 45, 3) := by decide +kernel
theorem dX3_gatherGrown_22 : decode cX3_gatherGrown 22 = .ok (.lstore 6, 2) := by decide +kernel
theorem dX3_gatherGrown_24 : decode cX3_gatherGrown 24 = .ok (.lload 6, 2) := by decide +kernel
theorem dX3_gatherGrown_26 : decode cX3_gatherGrown 26 = .ok (.invokestatic 36, 3) := by decide +kernel
theorem dX3_gatherGrown_29 : decode cX3_gatherGrown 29 = .ok (.istore 8, 2) := by decide +kernel
theorem dX3_gatherGrown_31 : decode cX3_gatherGrown 31 = .ok (.iconst 0, 1) := by decide +kernel
theorem dX3_gatherGrown_32 : decode cX3_gatherGrown 32 = .ok (.istore 9, 2) := by decide +kernel
theorem dX3_gatherGrown_34 : decode cX3_gatherGrown 34 = .ok (.iload 9, 2) := by decide +kernel
theorem dX3_gatherGrown_36 : decode cX3_gatherGrown 36 = .ok (.iload 8, 2) := by decide +kernel
theorem dX3_gatherGrown_38 : decode cX3_gatherGrown 38 = .ok (.if_icmp .ge 40, 3) := by decide +kernel
theorem dX3_gatherGrown_41 : decode cX3_gatherGrown 41 = .ok (.lload 6, 2) := by decide +kernel
theorem dX3_gatherGrown_43 : decode cX3_gatherGrown 43 = .ok (.lload 6, 2) := by decide +kernel
theorem dX3_gatherGrown_45 : decode cX3_gatherGrown 45 = .ok (.lneg, 1) := by decide +kernel
theorem dX3_gatherGrown_46 : decode cX3_gatherGrown 46 = .ok (.land, 1) := by decide +kernel
theorem dX3_gatherGrown_47 : decode cX3_gatherGrown 47 = .ok (.lstore 10, 2) := by decide +kernel
theorem dX3_gatherGrown_49 : decode cX3_gatherGrown 49 = .ok (.lload 6, 2) := by decide +kernel
theorem dX3_gatherGrown_51 : decode cX3_gatherGrown 51 = .ok (.lload 10, 2) := by decide +kernel
theorem dX3_gatherGrown_53 : decode cX3_gatherGrown 53 = .ok (.lxor, 1) := by decide +kernel
theorem dX3_gatherGrown_54 : decode cX3_gatherGrown 54 = .ok (.lstore 6, 2) := by decide +kernel
theorem dX3_gatherGrown_56 : decode cX3_gatherGrown 56 = .ok (.aload_n 3, 1) := by decide +kernel
theorem dX3_gatherGrown_57 : decode cX3_gatherGrown 57 = .ok (.lload 4, 2) := by decide +kernel
theorem dX3_gatherGrown_59 : decode cX3_gatherGrown 59 = .ok (.lload 10, 2) := by decide +kernel
theorem dX3_gatherGrown_61 : decode cX3_gatherGrown 61 = .ok (.lor, 1) := by decide +kernel
theorem dX3_gatherGrown_62 : decode cX3_gatherGrown 62 = .ok (.invokestatic 49, 3) := by decide +kernel
theorem dX3_gatherGrown_65 : decode cX3_gatherGrown 65 = .ok (.iload_n 2, 1) := by decide +kernel
theorem dX3_gatherGrown_66 : decode cX3_gatherGrown 66 = .ok (.invokestatic 52, 3) := by decide +kernel
theorem dX3_gatherGrown_69 : decode cX3_gatherGrown 69 = .ok (.invokevirtual 9, 3) := by decide +kernel
theorem dX3_gatherGrown_72 : decode cX3_gatherGrown 72 = .ok (.iinc 9 1, 3) := by decide +kernel
theorem dX3_gatherGrown_75 : decode cX3_gatherGrown 75 = .ok (.goto (-41), 3) := by decide +kernel
theorem dX3_gatherGrown_78 : decode cX3_gatherGrown 78 = .ok (.return_, 1) := by decide +kernel
theorem dX3_gatherShrunk_0 : decode cX3_gatherShrunk 0 = .ok (.lload_n 0, 1) := by decide +kernel
theorem dX3_gatherShrunk_1 : decode cX3_gatherShrunk 1 = .ok (.lstore 4, 2) := by decide +kernel
theorem dX3_gatherShrunk_3 : decode cX3_gatherShrunk 3 = .ok (.lload_n 0, 1) := by decide +kernel
theorem dX3_gatherShrunk_4 : decode cX3_gatherShrunk 4 = .ok (.invokestatic 36, 3) := by decide +kernel
theorem dX3_gatherShrunk_7 : decode cX3_gatherShrunk 7 = .ok (.istore 6, 2) := by decide +kernel
theorem dX3_gatherShrunk_9 : decode cX3_gatherShrunk 9 = .ok (.iconst 0, 1) := by decide +kernel
theorem dX3_gatherShrunk_10 : decode cX3_gatherShrunk 10 = .ok (.istore 7, 2) := by decide +kernel
theorem dX3_gatherShrunk_12 : decode cX3_gatherShrunk 12 = .ok (.iload 7, 2) := by decide +kernel
theorem dX3_gatherShrunk_14 : decode cX3_gatherShrunk 14 = .ok (.iload 6, 2) := by decide +kernel
theorem dX3_gatherShrunk_16 : decode cX3_gatherShrunk 16 = .ok (.if_icmp .ge 49, 3) := by decide +kernel
theorem dX3_gatherShrunk_19 : decode cX3_gatherShrunk 19 = .ok (.lload 4, 2) := by decide +kernel
theorem dX3_gatherShrunk_21 : decode cX3_gatherShrunk 21 = .ok (.lload 4, 2) := by decide +kernel
theorem dX3_gatherShrunk_23 : decode cX3_gatherShrunk 23 = .ok (.lneg, 1) := by decide +kernel
theorem dX3_gatherShrunk_24 : decode cX3_gatherShrunk 24 = .ok (.land, 1) := by decide +kernel
theorem dX3_gatherShrunk_25 : decode cX3_gatherShrunk 25 = .ok (.lstore 8, 2) := by decide +kernel
theorem dX3_gatherShrunk_27 : decode cX3_gatherShrunk 27 = .ok (.lload 4, 2) := by decide +kernel
theorem dX3_gatherShrunk_29 : decode cX3_gatherShrunk 29 = .ok (.lload 8, 2) := by decide +kernel
theorem dX3_gatherShrunk_31 : decode cX3_gatherShrunk 31 = .ok (.lxor, 1) := by decide +kernel
theorem dX3_gatherShrunk_32 : decode cX3_gatherShrunk 32 = .ok (.lstore 4, 2) := by decide +kernel
theorem dX3_gatherShrunk_34 : decode cX3_gatherShrunk 34 = .ok (.lload_n 0, 1) := by decide +kernel
theorem dX3_gatherShrunk_35 : decode cX3_gatherShrunk 35 = .ok (.lload 8, 2) := by decide +kernel
theorem dX3_gatherShrunk_37 : decode cX3_gatherShrunk 37 = .ok (.lxor, 1) := by decide +kernel
theorem dX3_gatherShrunk_38 : decode cX3_gatherShrunk 38 = .ok (.invokestatic 56, 3) := by decide +kernel
theorem dX3_gatherShrunk_41 : decode cX3_gatherShrunk 41 = .ok (.ifCond .eq 18, 3) := by decide +kernel
theorem dX3_gatherShrunk_44 : decode cX3_gatherShrunk 44 = .ok (.aload_n 3, 1) := by decide +kernel
theorem dX3_gatherShrunk_45 : decode cX3_gatherShrunk 45 = .ok (.lload_n 0, 1) := by decide +kernel
theorem dX3_gatherShrunk_46 : decode cX3_gatherShrunk 46 = .ok (.lload 8, 2) := by decide +kernel
theorem dX3_gatherShrunk_48 : decode cX3_gatherShrunk 48 = .ok (.lxor, 1) := by decide +kernel
theorem dX3_gatherShrunk_49 : decode cX3_gatherShrunk 49 = .ok (.invokestatic 49, 3) := by decide +kernel
theorem dX3_gatherShrunk_52 : decode cX3_gatherShrunk 52 = .ok (.iload_n 2, 1) := by decide +kernel
theorem dX3_gatherShrunk_53 : decode cX3_gatherShrunk 53 = .ok (.invokestatic 52, 3) := by decide +kernel
theorem dX3_gatherShrunk_56 : decode cX3_gatherShrunk 56 = .ok (.invokevirtual 9, 3) := by decide +kernel
theorem dX3_gatherShrunk_59 : decode cX3_gatherShrunk 59 = .ok (.iinc 7 1, 3) := by decide +kernel
theorem dX3_gatherShrunk_62 : decode cX3_gatherShrunk 62 = .ok (.goto (-50), 3) := by decide +kernel
theorem dX3_gatherShrunk_65 : decode cX3_gatherShrunk 65 = .ok (.return_, 1) := by decide +kernel
theorem dX3_byLots_0 : decode cX3_byLots 0 = .ok (.lconst 1, 1) := by decide +kernel
theorem dX3_byLots_1 : decode cX3_byLots 1 = .ok (.lstore_n 2, 1) := by decide +kernel
theorem dX3_byLots_2 : decode cX3_byLots 2 = .ok (.iload_n 0, 1) := by decide +kernel
theorem dX3_byLots_3 : decode cX3_byLots 3 = .ok (.ldc 60, 2) := by decide +kernel
theorem dX3_byLots_5 : decode cX3_byLots 5 = .ok (.iand, 1) := by decide +kernel
theorem dX3_byLots_6 : decode cX3_byLots 6 = .ok (.istore 4, 2) := by decide +kernel
theorem dX3_byLots_8 : decode cX3_byLots 8 = .ok (.iconst 1, 1) := by decide +kernel
theorem dX3_byLots_9 : decode cX3_byLots 9 = .ok (.istore 5, 2) := by decide +kernel
theorem dX3_byLots_11 : decode cX3_byLots 11 = .ok (.iload 5, 2) := by decide +kernel
theorem dX3_byLots_13 : decode cX3_byLots 13 = .ok (.iload_n 1, 1) := by decide +kernel
theorem dX3_byLots_14 : decode cX3_byLots 14 = .ok (.if_icmp .ge 71, 3) := by decide +kernel
theorem dX3_byLots_17 : decode cX3_byLots 17 = .ok (.lload_n 2, 1) := by decide +kernel
theorem dX3_byLots_18 : decode cX3_byLots 18 = .ok (.invokestatic 42, 3) := by decide +kernel
theorem dX3_byLots_21 : decode cX3_byLots 21 = .ok (.lstore 6, 2) := by decide +kernel
theorem dX3_byLots_23 : decode cX3_byLots 23 = .ok (.lload_n 2, 1) := by decide +kernel
theorem dX3_byLots_24 : decode cX3_byLots 24 = .ok (.lload 6, 2) := by decide +kernel
theorem dX3_byLots_26 : decode cX3_byLots 26 = .ok (.invokestatic 45, 3) := by decide +kernel
theorem dX3_byLots_29 : decode cX3_byLots 29 = .ok (.lstore 8, 2) := by decide +kernel
theorem dX3_byLots_31 : decode cX3_byLots 31 = .ok (.lload 8, 2) := by decide +kernel
theorem dX3_byLots_33 : decode cX3_byLots 33 = .ok (.invokestatic 36, 3) := by decide +kernel
theorem dX3_byLots_36 : decode cX3_byLots 36 = .ok (.istore 10, 2) := by decide +kernel
theorem dX3_byLots_38 : decode cX3_byLots 38 = .ok (.iload 10, 2) := by decide +kernel
theorem dX3_byLots_40 : decode cX3_byLots 40 = .ok (.ifCond .ne 5, 3) := by decide +kernel
theorem dX3_byLots_43 : decode cX3_byLots 43 = .ok (.lload_n 2, 1) := by decide +kernel
theorem dX3_byLots_44 : decode cX3_byLots 44 = .ok (.lreturn, 1) := by decide +kernel
theorem dX3_byLots_45 : decode cX3_byLots 45 = .ok (.sipush 25173, 3) := by decide +kernel
theorem dX3_byLots_48 : decode cX3_byLots 48 = .ok (.iload 4, 2) := by decide +kernel
theorem dX3_byLots_50 : decode cX3_byLots 50 = .ok (.imul, 1) := by decide +kernel
theorem dX3_byLots_51 : decode cX3_byLots 51 = .ok (.sipush 13849, 3) := by decide +kernel
theorem dX3_byLots_54 : decode cX3_byLots 54 = .ok (.iadd, 1) := by decide +kernel
theorem dX3_byLots_55 : decode cX3_byLots 55 = .ok (.ldc 60, 2) := by decide +kernel
theorem dX3_byLots_57 : decode cX3_byLots 57 = .ok (.iand, 1) := by decide +kernel
theorem dX3_byLots_58 : decode cX3_byLots 58 = .ok (.istore 4, 2) := by decide +kernel
theorem dX3_byLots_60 : decode cX3_byLots 60 = .ok (.lload 6, 2) := by decide +kernel
theorem dX3_byLots_62 : decode cX3_byLots 62 = .ok (.lload 8, 2) := by decide +kernel
theorem dX3_byLots_64 : decode cX3_byLots 64 = .ok (.iload 4, 2) := by decide +kernel
theorem dX3_byLots_66 : decode cX3_byLots 66 = .ok (.iconst 4, 1) := by decide +kernel
theorem dX3_byLots_67 : decode cX3_byLots 67 = .ok (.idiv, 1) := by decide +kernel
theorem dX3_byLots_68 : decode cX3_byLots 68 = .ok (.iload 10, 2) := by decide +kernel
theorem dX3_byLots_70 : decode cX3_byLots 70 = .ok (.irem, 1) := by decide +kernel
theorem dX3_byLots_71 : decode cX3_byLots 71 = .ok (.invokestatic 61, 3) := by decide +kernel
theorem dX3_byLots_74 : decode cX3_byLots 74 = .ok (.lor, 1) := by decide +kernel
theorem dX3_byLots_75 : decode cX3_byLots 75 = .ok (.invokestatic 49, 3) := by decide +kernel
theorem dX3_byLots_78 : decode cX3_byLots 78 = .ok (.lstore_n 2, 1) := by decide +kernel
theorem dX3_byLots_79 : decode cX3_byLots 79 = .ok (.iinc 5 1, 3) := by decide +kernel
theorem dX3_byLots_82 : decode cX3_byLots 82 = .ok (.goto (-71), 3) := by decide +kernel
theorem dX3_byLots_85 : decode cX3_byLots 85 = .ok (.lload_n 2, 1) := by decide +kernel
theorem dX3_byLots_86 : decode cX3_byLots 86 = .ok (.lreturn, 1) := by decide +kernel
theorem dX3_bitOf_0 : decode cX3_bitOf 0 = .ok (.lload_n 0, 1) := by decide +kernel
theorem dX3_bitOf_1 : decode cX3_bitOf 1 = .ok (.lstore_n 3, 1) := by decide +kernel
theorem dX3_bitOf_2 : decode cX3_bitOf 2 = .ok (.iconst 0, 1) := by decide +kernel
theorem dX3_bitOf_3 : decode cX3_bitOf 3 = .ok (.istore 5, 2) := by decide +kernel
theorem dX3_bitOf_5 : decode cX3_bitOf 5 = .ok (.iload 5, 2) := by decide +kernel
theorem dX3_bitOf_7 : decode cX3_bitOf 7 = .ok (.iload_n 2, 1) := by decide +kernel
theorem dX3_bitOf_8 : decode cX3_bitOf 8 = .ok (.if_icmp .ge 15, 3) := by decide +kernel
theorem dX3_bitOf_11 : decode cX3_bitOf 11 = .ok (.lload_n 3, 1) := by decide +kernel
theorem dX3_bitOf_12 : decode cX3_bitOf 12 = .ok (.lload_n 3, 1) := by decide +kernel
theorem dX3_bitOf_13 : decode cX3_bitOf 13 = .ok (.lconst 1, 1) := by decide +kernel
theorem dX3_bitOf_14 : decode cX3_bitOf 14 = .ok (.lsub, 1) := by decide +kernel
theorem dX3_bitOf_15 : decode cX3_bitOf 15 = .ok (.land, 1) := by decide +kernel
theorem dX3_bitOf_16 : decode cX3_bitOf 16 = .ok (.lstore_n 3, 1) := by decide +kernel
theorem dX3_bitOf_17 : decode cX3_bitOf 17 = .ok (.iinc 5 1, 3) := by decide +kernel
theorem dX3_bitOf_20 : decode cX3_bitOf 20 = .ok (.goto (-15), 3) := by decide +kernel
theorem dX3_bitOf_23 : decode cX3_bitOf 23 = .ok (.lload_n 3, 1) := by decide +kernel
theorem dX3_bitOf_24 : decode cX3_bitOf 24 = .ok (.lload_n 3, 1) := by decide +kernel
theorem dX3_bitOf_25 : decode cX3_bitOf 25 = .ok (.lneg, 1) := by decide +kernel
theorem dX3_bitOf_26 : decode cX3_bitOf 26 = .ok (.land, 1) := by decide +kernel
theorem dX3_bitOf_27 : decode cX3_bitOf 27 = .ok (.lreturn, 1) := by decide +kernel
theorem dX4_init_0 : decode cX4_init 0 = .ok (.aload_n 0, 1) := by decide +kernel
theorem dX4_init_1 : decode cX4_init 1 = .ok (.invokespecial 5, 3) := by decide +kernel
theorem dX4_init_4 : decode cX4_init 4 = .ok (.aload_n 0, 1) := by decide +kernel
theorem dX4_init_5 : decode cX4_init 5 = .ok (.sipush 289, 3) := by decide +kernel
theorem dX4_init_8 : decode cX4_init 8 = .ok (.newarray .int, 2) := by decide +kernel
theorem dX4_init_10 : decode cX4_init 10 = .ok (.putfield 11, 3) := by decide +kernel
theorem dX4_init_13 : decode cX4_init 13 = .ok (.return_, 1) := by decide +kernel
theorem dX4_overlap_0 : decode cX4_overlap 0 = .ok (.lload_n 0, 1) := by decide +kernel
theorem dX4_overlap_1 : decode cX4_overlap 1 = .ok (.lload_n 2, 1) := by decide +kernel
theorem dX4_overlap_2 : decode cX4_overlap 2 = .ok (.iload 4, 2) := by decide +kernel
theorem dX4_overlap_4 : decode cX4_overlap 4 = .ok (.iload 5, 2) := by decide +kernel
theorem dX4_overlap_6 : decode cX4_overlap 6 = .ok (.invokestatic 15, 3) := by decide +kernel
theorem dX4_overlap_9 : decode cX4_overlap 9 = .ok (.land, 1) := by decide +kernel
theorem dX4_overlap_10 : decode cX4_overlap 10 = .ok (.invokestatic 21, 3) := by decide +kernel
theorem dX4_overlap_13 : decode cX4_overlap 13 = .ok (.ireturn, 1) := by decide +kernel
theorem dX4_sharedSides_0 : decode cX4_sharedSides 0 = .ok (.lload_n 0, 1) := by decide +kernel
theorem dX4_sharedSides_1 : decode cX4_sharedSides 1 = .ok (.lload_n 2, 1) := by decide +kernel
theorem dX4_sharedSides_2 : decode cX4_sharedSides 2 = .ok (.iload 4, 2) := by decide +kernel
theorem dX4_sharedSides_4 : decode cX4_sharedSides 4 = .ok (.iconst 1, 1) := by decide +kernel
theorem dX4_sharedSides_5 : decode cX4_sharedSides 5 = .ok (.isub, 1) := by decide +kernel
theorem dX4_sharedSides_6 : decode cX4_sharedSides 6 = .ok (.iload 5, 2) := by decide +kernel
theorem dX4_sharedSides_8 : decode cX4_sharedSides 8 = .ok (.invokestatic 27, 3) := by decide +kernel
theorem dX4_sharedSides_11 : decode cX4_sharedSides 11 = .ok (.lload_n 0, 1) := by decide +kernel
theorem dX4_sharedSides_12 : decode cX4_sharedSides 12 = .ok (.lload_n 2, 1) := by decide +kernel
theorem dX4_sharedSides_13 : decode cX4_sharedSides 13 = .ok (.iload 4, 2) := by decide +kernel
theorem dX4_sharedSides_15 : decode cX4_sharedSides 15 = .ok (.iconst 1, 1) := by decide +kernel
theorem dX4_sharedSides_16 : decode cX4_sharedSides 16 = .ok (.iadd, 1) := by decide +kernel
theorem dX4_sharedSides_17 : decode cX4_sharedSides 17 = .ok (.iload 5, 2) := by decide +kernel
theorem dX4_sharedSides_19 : decode cX4_sharedSides 19 = .ok (.invokestatic 27, 3) := by decide +kernel
theorem dX4_sharedSides_22 : decode cX4_sharedSides 22 = .ok (.iadd, 1) := by decide +kernel
theorem dX4_sharedSides_23 : decode cX4_sharedSides 23 = .ok (.lload_n 0, 1) := by decide +kernel
theorem dX4_sharedSides_24 : decode cX4_sharedSides 24 = .ok (.lload_n 2, 1) := by decide +kernel
theorem dX4_sharedSides_25 : decode cX4_sharedSides 25 = .ok (.iload 4, 2) := by decide +kernel
theorem dX4_sharedSides_27 : decode cX4_sharedSides 27 = .ok (.iload 5, 2) := by decide +kernel
theorem dX4_sharedSides_29 : decode cX4_sharedSides 29 = .ok (.iconst 1, 1) := by decide +kernel
theorem dX4_sharedSides_30 : decode cX4_sharedSides 30 = .ok (.isub, 1) := by decide +kernel
theorem dX4_sharedSides_31 : decode cX4_sharedSides 31 = .ok (.invokestatic 27, 3) := by decide +kernel
theorem dX4_sharedSides_34 : decode cX4_sharedSides 34 = .ok (.iadd, 1) := by decide +kernel
theorem dX4_sharedSides_35 : decode cX4_sharedSides 35 = .ok (.lload_n 0, 1) := by decide +kernel
theorem dX4_sharedSides_36 : decode cX4_sharedSides 36 = .ok (.lload_n 2, 1) := by decide +kernel
theorem dX4_sharedSides_37 : decode cX4_sharedSides 37 = .ok (.iload 4, 2) := by decide +kernel
theorem dX4_sharedSides_39 : decode cX4_sharedSides 39 = .ok (.iload 5, 2) := by decide +kernel
theorem dX4_sharedSides_41 : decode cX4_sharedSides 41 = .ok (.iconst 1, 1) := by decide +kernel
theorem dX4_sharedSides_42 : decode cX4_sharedSides 42 = .ok (.iadd, 1) := by decide +kernel
theorem dX4_sharedSides_43 : decode cX4_sharedSides 43 = .ok (.invokestatic 27, 3) := by decide +kernel
theorem dX4_sharedSides_46 : decode cX4_sharedSides 46 = .ok (.iadd, 1) := by decide +kernel
theorem dX4_sharedSides_47 : decode cX4_sharedSides 47 = .ok (.ireturn, 1) := by decide +kernel
theorem dX4_placings_0 : decode cX4_placings 0 = .ok (.iconst 0, 1) := by decide +kernel
theorem dX4_placings_1 : decode cX4_placings 1 = .ok (.istore_n 3, 1) := by decide +kernel
theorem dX4_placings_2 : decode cX4_placings 2 = .ok (.iconst 0, 1) := by decide +kernel
theorem dX4_placings_3 : decode cX4_placings 3 = .ok (.istore 4, 2) := by decide +kernel
theorem dX4_placings_5 : decode cX4_placings 5 = .ok (.iload 4, 2) := by decide +kernel
theorem dX4_placings_7 : decode cX4_placings 7 = .ok (.aload_n 0, 1) := by decide +kernel
theorem dX4_placings_8 : decode cX4_placings 8 = .ok (.invokevirtual 31, 3) := by decide +kernel
theorem dX4_placings_11 : decode cX4_placings 11 = .ok (.if_icmp .ge 98, 3) := by decide +kernel
theorem dX4_placings_14 : decode cX4_placings 14 = .ok (.aload_n 0, 1) := by decide +kernel
theorem dX4_placings_15 : decode cX4_placings 15 = .ok (.iload 4, 2) := by decide +kernel
theorem dX4_placings_17 : decode cX4_placings 17 = .ok (.invokevirtual 37, 3) := by decide +kernel
theorem dX4_placings_20 : decode cX4_placings 20 = .ok (.lstore 5, 2) := by decide +kernel
theorem dX4_placings_22 : decode cX4_placings 22 = .ok (.lload_n 1, 1) := by decide +kernel
theorem dX4_placings_23 : decode cX4_placings 23 = .ok (.invokestatic 41, 3) := by decide +kernel
theorem dX4_placings_26 : decode cX4_placings 26 = .ok (.lload 5, 2) := by decide +kernel
theorem dX4_placings_28 : decode cX4_placings 28 = .ok (.invokestatic 41, 3) := by decide +kernel
theorem dX4_placings_31 : decode cX4_placings 31 = .ok (.isub, 1) := by decide +kernel
theorem dX4_placings_32 : decode cX4_placings 32 = .ok (.istore 7, 2) := by decide +kernel
theorem dX4_placings_34 : decode cX4_placings 34 = .ok (.lload_n 1, 1) := by decide +kernel
theorem dX4_placings_35 : decode cX4_placings 35 = .ok (.invokestatic 44, 3) := by decide +kernel
theorem dX4_placings_38 : decode cX4_placings 38 = .ok (.lload 5, 2) := by decide +kernel
theorem dX4_placings_40 : decode cX4_placings 40 = .ok (.invokestatic 44, 3) := by decide +kernel
theorem dX4_placings_43 : decode cX4_placings 43 = .ok (.isub, 1) := by decide +kernel
theorem dX4_placings_44 : decode cX4_placings 44 = .ok (.istore 8, 2) := by decide +kernel
theorem dX4_placings_46 : decode cX4_placings 46 = .ok (.iconst 0, 1) := by decide +kernel
theorem dX4_placings_47 : decode cX4_placings 47 = .ok (.istore 9, 2) := by decide +kernel
theorem dX4_placings_49 : decode cX4_placings 49 = .ok (.iload 9, 2) := by decide +kernel
theorem dX4_placings_51 : decode cX4_placings 51 = .ok (.iload 7, 2) := by decide +kernel
theorem dX4_placings_53 : decode cX4_placings 53 = .ok (.if_icmp .gt 50, 3) := by decide +kernel
theorem dX4_placings_56 : decode cX4_placings 56 = .ok (.iconst 0, 1) := by decide +kernel
theorem dX4_placings_57 : decode cX4_placings 57 = .ok (.istore 10, 2) := by decide +kernel
theorem dX4_placings_59 : decode cX4_placings 59 = .ok (.iload 10, 2) := by decide +kernel
theorem dX4_placings_61 : decode cX4_placings 61 = .ok (.iload 8, 2) := by decide +kernel
theorem dX4_placings_63 : decode cX4_placings 63 = .ok (.if_icmp .gt 34, 3) := by decide +kernel
theorem dX4_placings_66 : decode cX4_placings 66 = .ok (.lload 5, 2) := by decide +kernel
theorem dX4_placings_68 : decode cX4_placings 68 = .ok (.bipush 8, 2) := by decide +kernel
theorem dX4_placings_70 : decode cX4_placings 70 = .ok (.iload 9, 2) := by decide +kernel
theorem dX4_placings_72 : decode cX4_placings 72 = .ok (.imul, 1) := by decide +kernel
theorem dX4_placings_73 : decode cX4_placings 73 = .ok (.iload 10, 2) := by decide +kernel
theorem dX4_placings_75 : decode cX4_placings 75 = .ok (.iadd, 1) := by decide +kernel
theorem dX4_placings_76 : decode cX4_placings 76 = .ok (.lshl, 1) := by decide +kernel
theorem dX4_placings_77 : decode cX4_placings 77 = .ok (.lload_n 1, 1) := by decide +kernel
theorem dX4_placings_78 : decode cX4_placings 78 = .ok (.ldc2_w 47, 3) := by decide +kernel
theorem dX4_placings_81 : decode cX4_placings 81 = .ok (.lxor, 1) := by decide +kernel
theorem dX4_placings_82 : decode cX4_placings 82 = .ok (.land, 1) := by decide +kernel
theorem dX4_placings_83 : decode cX4_placings 83 = .ok (.lconst 0, 1) := by decide +kernel
theorem dX4_placings_84 : decode cX4_placings 84 = .ok (.lcmp, 1) := by decide +kernel
theorem dX4_placings_85 : decode cX4_placings 85 = .ok (.ifCond .ne 6, 3) := by decide +kernel
theorem dX4_placings_88 : decode cX4_placings 88 = .ok (.iinc 3 1, 3) := by decide +kernel
theorem dX4_placings_91 : decode cX4_placings 91 = .ok (.iinc 10 1, 3) := by decide +kernel
theorem dX4_placings_94 : decode cX4_placings 94 = .ok (.goto (-35), 3) := by decide +kernel
theorem dX4_placings_97 : decode cX4_placings 97 = .ok (.iinc 9 1, 3) := by decide +kernel
theorem dX4_placings_100 : decode cX4_placings 100 = .ok (.goto (-51), 3) := by decide +kernel
theorem dX4_placings_103 : decode cX4_placings 103 = .ok (.iinc 4 1, 3) := by decide +kernel
theorem dX4_placings_106 : decode cX4_placings 106 = .ok (.goto (-101), 3) := by decide +kernel
theorem dX4_placings_109 : decode cX4_placings 109 = .ok (.iload_n 3, 1) := by decide +kernel
theorem dX4_placings_110 : decode cX4_placings 110 = .ok (.ireturn, 1) := by decide +kernel
theorem dX4_largestCommon_0 : decode cX4_largestCommon 0 = .ok (.iconst 0, 1) := by decide +kernel
theorem dX4_largestCommon_1 : decode cX4_largestCommon 1 = .ok (.istore_n 3, 1) := by decide +kernel
theorem dX4_largestCommon_2 : decode cX4_largestCommon 2 = .ok (.iconst 0, 1) := by decide +kernel
theorem dX4_largestCommon_3 : decode cX4_largestCommon 3 = .ok (.istore 4, 2) := by decide +kernel
theorem dX4_largestCommon_5 : decode cX4_largestCommon 5 = .ok (.iload 4, 2) := by decide +kernel
theorem dX4_largestCommon_7 : decode cX4_largestCommon 7 = .ok (.aload_n 0, 1) := by decide +kernel
theorem dX4_largestCommon_8 : decode cX4_largestCommon 8 = .ok (.invokevirtual 31, 3) := by decide +kernel
theorem dX4_largestCommon_11 : decode cX4_largestCommon 11 = .ok (.if_icmp .ge 67, 3) := by decide +kernel
theorem dX4_largestCommon_14 : decode cX4_largestCommon 14 = .ok (.bipush (-6), 2) := by decide +kernel
theorem dX4_largestCommon_16 : decode cX4_largestCommon 16 = .ok (.istore 5, 2) := by decide +kernel
theorem dX4_largestCommon_18 : decode cX4_largestCommon 18 = .ok (.iload 5, 2) := by decide +kernel
theorem dX4_largestCommon_20 : decode cX4_largestCommon 20 = .ok (.bipush 7, 2) := by decide +kernel
theorem dX4_largestCommon_22 : decode cX4_largestCommon 22 = .ok (.if_icmp .ge 50, 3) := by decide +kernel
theorem dX4_largestCommon_25 : decode cX4_largestCommon 25 = .ok (.bipush (-6), 2) := by decide +kernel
theorem dX4_largestCommon_27 : decode cX4_largestCommon 27 = .ok (.istore 6, 2) := by decide +kernel
theorem dX4_largestCommon_29 : decode cX4_largestCommon 29 = .ok (.iload 6, 2) := by decide +kernel
theorem dX4_largestCommon_31 : decode cX4_largestCommon 31 = .ok (.bipush 7, 2) := by decide +kernel
theorem dX4_largestCommon_33 : decode cX4_largestCommon 33 = .ok (.if_icmp .ge 33, 3) := by decide +kernel
theorem dX4_largestCommon_36 : decode cX4_largestCommon 36 = .ok (.lload_n 1, 1) := by decide +kernel
theorem dX4_largestCommon_37 : decode cX4_largestCommon 37 = .ok (.aload_n 0, 1) := by decide +kernel
theorem dX4_largestCommon_38 : decode cX4_largestCommon 38 = .ok (.iload 4, 2) := by decide +kernel
theorem dX4_largestCommon_40 : decode cX4_largestCommon 40 = .ok (.invokevirtual 37, 3) := by decide +kernel
theorem dX4_largestCommon_43 : decode cX4_largestCommon 43 = .ok (.iload 6, 2) := by decide +kernel
theorem dX4_largestCommon_45 : decode cX4_largestCommon 45 = .ok (.iload 5, 2) := by decide +kernel
theorem dX4_largestCommon_47 : decode cX4_largestCommon 47 = .ok (.invokestatic 15, 3) := by decide +kernel
theorem dX4_largestCommon_50 : decode cX4_largestCommon 50 = .ok (.land, 1) := by decide +kernel
theorem dX4_largestCommon_51 : decode cX4_largestCommon 51 = .ok (.lstore 7, 2) := by decide +kernel
theorem dX4_largestCommon_53 : decode cX4_largestCommon 53 = .ok (.lload 7, 2) := by decide +kernel
theorem dX4_largestCommon_55 : decode cX4_largestCommon 55 = .ok (.iload_n 3, 1) := by decide +kernel
theorem dX4_largestCommon_56 : decode cX4_largestCommon 56 = .ok (.invokestatic 49, 3) := by decide +kernel
theorem dX4_largestCommon_59 : decode cX4_largestCommon 59 = .ok (.istore_n 3, 1) := by decide +kernel
theorem dX4_largestCommon_60 : decode cX4_largestCommon 60 = .ok (.iinc 6 1, 3) := by decide +kernel
theorem dX4_largestCommon_63 : decode cX4_largestCommon 63 = .ok (.goto (-34), 3) := by decide +kernel
theorem dX4_largestCommon_66 : decode cX4_largestCommon 66 = .ok (.iinc 5 1, 3) := by decide +kernel
theorem dX4_largestCommon_69 : decode cX4_largestCommon 69 = .ok (.goto (-51), 3) := by decide +kernel
theorem dX4_largestCommon_72 : decode cX4_largestCommon 72 = .ok (.iinc 4 1, 3) := by decide +kernel
theorem dX4_largestCommon_75 : decode cX4_largestCommon 75 = .ok (.goto (-70), 3) := by decide +kernel
theorem dX4_largestCommon_78 : decode cX4_largestCommon 78 = .ok (.iload_n 3, 1) := by decide +kernel
theorem dX4_largestCommon_79 : decode cX4_largestCommon 79 = .ok (.ireturn, 1) := by decide +kernel
theorem dX4_largestPart_0 : decode cX4_largestPart 0 = .ok (.iload_n 2, 1) := by decide +kernel
theorem dX4_largestPart_1 : decode cX4_largestPart 1 = .ok (.istore_n 3, 1) := by decide +kernel
theorem dX4_largestPart_2 : decode cX4_largestPart 2 = .ok (.lload_n 0, 1) := by decide +kernel
theorem dX4_largestPart_3 : decode cX4_largestPart 3 = .ok (.lstore 4, 2) := by decide +kernel
theorem dX4_largestPart_5 : decode cX4_largestPart 5 = .ok (.iconst 0, 1) := by decide +kernel
theorem dX4_largestPart_6 : decode cX4_largestPart 6 = .ok (.istore 6, 2) := by decide +kernel
theorem dX4_largestPart_8 : decode cX4_largestPart 8 = .ok (.iload 6, 2) := by decide +kernel
theorem dX4_largestPart_10 : decode cX4_largestPart 10 = .ok (.bipush 64, 2) := by decide +kernel
theorem dX4_largestPart_12 : decode cX4_largestPart 12 = .ok (.if_icmp .ge 48, 3) := by decide +kernel
theorem dX4_largestPart_15 : decode cX4_largestPart 15 = .ok (.lload 4, 2) := by decide +kernel
theorem dX4_largestPart_17 : decode cX4_largestPart 17 = .ok (.invokestatic 21, 3) := by decide +kernel
theorem dX4_largestPart_20 : decode cX4_largestPart 20 = .ok (.iload_n 3, 1) := by decide +kernel
theorem dX4_largestPart_21 : decode cX4_largestPart 21 = .ok (.if_icmp .le 39, 3) := by decide +kernel
theorem dX4_largestPart_24 : decode cX4_largestPart 24 = .ok (.lload 4, 2) := by decide +kernel
theorem dX4_largestPart_26 : decode cX4_largestPart 26 = .ok (.lload 4, 2) := by decide +kernel
theorem dX4_largestPart_28 : decode cX4_largestPart 28 = .ok (.lneg, 1) := by decide +kernel
theorem dX4_largestPart_29 : decode cX4_largestPart 29 = .ok (.land, 1) := by decide +kernel
theorem dX4_largestPart_30 : decode cX4_largestPart 30 = .ok (.lload 4, 2) := by decide +kernel
theorem dX4_largestPart_32 : decode cX4_largestPart 32 = .ok (.invokestatic 53, 3) := by decide +kernel
theorem dX4_largestPart_35 : decode cX4_largestPart 35 = .ok (.lstore 7, 2) := by decide +kernel
theorem dX4_largestPart_37 : decode cX4_largestPart 37 = .ok (.iload_n 3, 1) := by decide +kernel
theorem dX4_largestPart_38 : decode cX4_largestPart 38 = .ok (.lload 7, 2) := by decide +kernel
theorem dX4_largestPart_40 : decode cX4_largestPart 40 = .ok (.invokestatic 21, 3) := by decide +kernel
theorem dX4_largestPart_43 : decode cX4_largestPart 43 = .ok (.invokestatic 57, 3) := by decide +kernel
theorem dX4_largestPart_46 : decode cX4_largestPart 46 = .ok (.istore_n 3, 1) := by decide +kernel
theorem dX4_largestPart_47 : decode cX4_largestPart 47 = .ok (.lload 4, 2) := by decide +kernel
theorem dX4_largestPart_49 : decode cX4_largestPart 49 = .ok (.lload 7, 2) := by decide +kernel
theorem dX4_largestPart_51 : decode cX4_largestPart 51 = .ok (.lxor, 1) := by decide +kernel
theorem dX4_largestPart_52 : decode cX4_largestPart 52 = .ok (.lstore 4, 2) := by decide +kernel
theorem dX4_largestPart_54 : decode cX4_largestPart 54 = .ok (.iinc 6 1, 3) := by decide +kernel
theorem dX4_largestPart_57 : decode cX4_largestPart 57 = .ok (.goto (-49), 3) := by decide +kernel
theorem dX4_largestPart_60 : decode cX4_largestPart 60 = .ok (.iload_n 3, 1) := by decide +kernel
theorem dX4_largestPart_61 : decode cX4_largestPart 61 = .ok (.ireturn, 1) := by decide +kernel
theorem dX4_measure_0 : decode cX4_measure 0 = .ok (.iconst 0, 1) := by decide +kernel
theorem dX4_measure_1 : decode cX4_measure 1 = .ok (.istore 5, 2) := by decide +kernel
theorem dX4_measure_3 : decode cX4_measure 3 = .ok (.iload 5, 2) := by decide +kernel
theorem dX4_measure_5 : decode cX4_measure 5 = .ok (.aload_n 0, 1) := by decide +kernel
theorem dX4_measure_6 : decode cX4_measure 6 = .ok (.getfield 11, 3) := by decide +kernel
theorem dX4_measure_9 : decode cX4_measure 9 = .ok (.arraylength, 1) := by decide +kernel
theorem dX4_measure_10 : decode cX4_measure 10 = .ok (.if_icmp .ge 37, 3) := by decide +kernel
theorem dX4_measure_13 : decode cX4_measure 13 = .ok (.aload_n 0, 1) := by decide +kernel
theorem dX4_measure_14 : decode cX4_measure 14 = .ok (.getfield 11, 3) := by decide +kernel
theorem dX4_measure_17 : decode cX4_measure 17 = .ok (.iload 5, 2) := by decide +kernel
theorem dX4_measure_19 : decode cX4_measure 19 = .ok (.lload_n 1, 1) := by decide +kernel
theorem dX4_measure_20 : decode cX4_measure 20 = .ok (.lload_n 3, 1) := by decide +kernel
theorem dX4_measure_21 : decode cX4_measure 21 = .ok (.iload 5, 2) := by decide +kernel
theorem dX4_measure_23 : decode cX4_measure 23 = .ok (.bipush 17, 2) := by decide +kernel
theorem dX4_measure_25 : decode cX4_measure 25 = .ok (.irem, 1) := by decide +kernel
theorem dX4_measure_26 : decode cX4_measure 26 = .ok (.bipush 8, 2) := by decide +kernel
theorem dX4_measure_28 : decode cX4_measure 28 = .ok (.isub, 1) := by decide +kernel
theorem dX4_measure_29 : decode cX4_measure 29 = .ok (.iload 5, 2) := by decide +kernel
theorem dX4_measure_31 : decode cX4_measure 31 = .ok (.bipush 17, 2) := by decide +kernel
theorem dX4_measure_33 : decode cX4_measure 33 = .ok (.idiv, 1) := by decide +kernel
theorem dX4_measure_34 : decode cX4_measure 34 = .ok (.bipush 8, 2) := by decide +kernel
theorem dX4_measure_36 : decode cX4_measure 36 = .ok (.isub, 1) := by decide +kernel
theorem dX4_measure_37 : decode cX4_measure 37 = .ok (.invokestatic 27, 3) := by decide +kernel
theorem dX4_measure_40 : decode cX4_measure 40 = .ok (.iastore, 1) := by decide +kernel
theorem dX4_measure_41 : decode cX4_measure 41 = .ok (.iinc 5 1, 3) := by decide +kernel
theorem dX4_measure_44 : decode cX4_measure 44 = .ok (.goto (-41), 3) := by decide +kernel
theorem dX4_measure_47 : decode cX4_measure 47 = .ok (.aload_n 0, 1) := by decide +kernel
theorem dX4_measure_48 : decode cX4_measure 48 = .ok (.iconst 0, 1) := by decide +kernel
theorem dX4_measure_49 : decode cX4_measure 49 = .ok (.putfield 63, 3) := by decide +kernel
theorem dX4_measure_52 : decode cX4_measure 52 = .ok (.aload_n 0, 1) := by decide +kernel
theorem dX4_measure_53 : decode cX4_measure 53 = .ok (.iconst 0, 1) := by decide +kernel
theorem dX4_measure_54 : decode cX4_measure 54 = .ok (.putfield 67, 3) := by decide +kernel
theorem dX4_measure_57 : decode cX4_measure 57 = .ok (.aload_n 0, 1) := by decide +kernel
theorem dX4_measure_58 : decode cX4_measure 58 = .ok (.iconst 0, 1) := by decide +kernel
theorem dX4_measure_59 : decode cX4_measure 59 = .ok (.putfield 70, 3) := by decide +kernel
theorem dX4_measure_62 : decode cX4_measure 62 = .ok (.aload_n 0, 1) := by decide +kernel
theorem dX4_measure_63 : decode cX4_measure 63 = .ok (.iconst 0, 1) := by decide +kernel
theorem dX4_measure_64 : decode cX4_measure 64 = .ok (.putfield 73, 3) := by decide +kernel
theorem dX4_measure_67 : decode cX4_measure 67 = .ok (.aload_n 0, 1) := by decide +kernel
theorem dX4_measure_68 : decode cX4_measure 68 = .ok (.iconst 0, 1) := by decide +kernel
theorem dX4_measure_69 : decode cX4_measure 69 = .ok (.putfield 76, 3) := by decide +kernel
theorem dX4_measure_72 : decode cX4_measure 72 = .ok (.aload_n 0, 1) := by decide +kernel
theorem dX4_measure_73 : decode cX4_measure 73 = .ok (.iconst 0, 1) := by decide +kernel
theorem dX4_measure_74 : decode cX4_measure 74 = .ok (.putfield 79, 3) := by decide +kernel
theorem dX4_measure_77 : decode cX4_measure 77 = .ok (.bipush (-7), 2) := by decide +kernel
theorem dX4_measure_79 : decode cX4_measure 79 = .ok (.istore 5, 2) := by decide +kernel
theorem dX4_measure_81 : decode cX4_measure 81 = .ok (.iload 5, 2) := by decide +kernel
theorem dX4_measure_83 : decode cX4_measure 83 = .ok (.bipush 7, 2) := by decide +kernel
theorem dX4_measure_85 : decode cX4_measure 85 = .ok (.if_icmp .gt 89, 3) := by decide +kernel
theorem dX4_measure_88 : decode cX4_measure 88 = .ok (.bipush (-7), 2) := by decide +kernel
theorem dX4_measure_90 : decode cX4_measure 90 = .ok (.istore 6, 2) := by decide +kernel
theorem dX4_measure_92 : decode cX4_measure 92 = .ok (.iload 6, 2) := by decide +kernel
theorem dX4_measure_94 : decode cX4_measure 94 = .ok (.bipush 7, 2) := by decide +kernel
theorem dX4_measure_96 : decode cX4_measure 96 = .ok (.if_icmp .gt 72, 3) := by decide +kernel
theorem dX4_measure_99 : decode cX4_measure 99 = .ok (.aload_n 0, 1) := by decide +kernel
theorem dX4_measure_100 : decode cX4_measure 100 = .ok (.iload 6, 2) := by decide +kernel
theorem dX4_measure_102 : decode cX4_measure 102 = .ok (.iload 5, 2) := by decide +kernel
theorem dX4_measure_104 : decode cX4_measure 104 = .ok (.invokevirtual 82, 3) := by decide +kernel
theorem dX4_measure_107 : decode cX4_measure 107 = .ok (.ifCond .le 16, 3) := by decide +kernel
theorem dX4_measure_110 : decode cX4_measure 110 = .ok (.aload_n 0, 1) := by decide +kernel
theorem dX4_measure_111 : decode cX4_measure 111 = .ok (.dup, 1) := by decide +kernel
theorem dX4_measure_112 : decode cX4_measure 112 = .ok (.getfield 63, 3) := by decide +kernel
theorem dX4_measure_115 : decode cX4_measure 115 = .ok (.iconst 1, 1) := by decide +kernel
theorem dX4_measure_116 : decode cX4_measure 116 = .ok (.iadd, 1) := by decide +kernel
theorem dX4_measure_117 : decode cX4_measure 117 = .ok (.putfield 63, 3) := by decide +kernel
theorem dX4_measure_120 : decode cX4_measure 120 = .ok (.goto 42, 3) := by decide +kernel
theorem dX4_measure_123 : decode cX4_measure 123 = .ok (.aload_n 0, 1) := by decide +kernel
theorem dX4_measure_124 : decode cX4_measure 124 = .ok (.iload 6, 2) := by decide +kernel
theorem dX4_measure_126 : decode cX4_measure 126 = .ok (.iload 5, 2) := by decide +kernel
theorem dX4_measure_128 : decode cX4_measure 128 = .ok (.invokevirtual 85, 3) := by decide +kernel
theorem dX4_measure_131 : decode cX4_measure 131 = .ok (.aload_n 0, 1) := by decide +kernel
theorem dX4_measure_132 : decode cX4_measure 132 = .ok (.lload_n 1, 1) := by decide +kernel
theorem dX4_measure_133 : decode cX4_measure 133 = .ok (.invokestatic 44, 3) := by decide +kernel
theorem dX4_measure_136 : decode cX4_measure 136 = .ok (.lload_n 3, 1) := by decide +kernel
theorem dX4_measure_137 : decode cX4_measure 137 = .ok (.invokestatic 44, 3) := by decide +kernel
theorem dX4_measure_140 : decode cX4_measure 140 = .ok (.iload 6, 2) := by decide +kernel
theorem dX4_measure_142 : decode cX4_measure 142 = .ok (.invokestatic 89, 3) := by decide +kernel
theorem dX4_measure_145 : decode cX4_measure 145 = .ok (.lload_n 1, 1) := by decide +kernel
theorem dX4_measure_146 : decode cX4_measure 146 = .ok (.invokestatic 41, 3) := by decide +kernel
theorem dX4_measure_149 : decode cX4_measure 149 = .ok (.lload_n 3, 1) := by decide +kernel
theorem dX4_measure_150 : decode cX4_measure 150 = .ok (.invokestatic 41, 3) := by decide +kernel
theorem dX4_measure_153 : decode cX4_measure 153 = .ok (.iload 5, 2) := by decide +kernel
theorem dX4_measure_155 : decode cX4_measure 155 = .ok (.invokestatic 89, 3) := by decide +kernel
theorem dX4_measure_158 : decode cX4_measure 158 = .ok (.imul, 1) := by decide +kernel
theorem dX4_measure_159 : decode cX4_measure 159 = .ok (.invokevirtual 93, 3) := by decide +kernel
theorem dX4_measure_162 : decode cX4_measure 162 = .ok (.iinc 6 1, 3) := by decide +kernel
theorem dX4_measure_165 : decode cX4_measure 165 = .ok (.goto (-73), 3) := by decide +kernel
theorem dX4_measure_168 : decode cX4_measure 168 = .ok (.iinc 5 1, 3) := by decide +kernel
theorem dX4_measure_171 : decode cX4_measure 171 = .ok (.goto (-90), 3) := by decide +kernel
theorem dX4_measure_174 : decode cX4_measure 174 = .ok (.return_, 1) := by decide +kernel
theorem dX4_overlapAt_0 : decode cX4_overlapAt 0 = .ok (.iload_n 2, 1) := by decide +kernel
theorem dX4_overlapAt_1 : decode cX4_overlapAt 1 = .ok (.bipush 8, 2) := by decide +kernel
theorem dX4_overlapAt_3 : decode cX4_overlapAt 3 = .ok (.iadd, 1) := by decide +kernel
theorem dX4_overlapAt_4 : decode cX4_overlapAt 4 = .ok (.bipush 17, 2) := by decide +kernel
theorem dX4_overlapAt_6 : decode cX4_overlapAt 6 = .ok (.imul, 1) := by decide +kernel
theorem dX4_overlapAt_7 : decode cX4_overlapAt 7 = .ok (.iload_n 1, 1) := by decide +kernel
theorem dX4_overlapAt_8 : decode cX4_overlapAt 8 = .ok (.iadd, 1) := by decide +kernel
theorem dX4_overlapAt_9 : decode cX4_overlapAt 9 = .ok (.bipush 8, 2) := by decide +kernel
theorem dX4_overlapAt_11 : decode cX4_overlapAt 11 = .ok (.iadd, 1) := by decide +kernel
theorem dX4_overlapAt_12 : decode cX4_overlapAt 12 = .ok (.istore_n 3, 1) := by decide +kernel
theorem dX4_overlapAt_13 : decode cX4_overlapAt 13 = .ok (.iload_n 3, 1) := by decide +kernel
theorem dX4_overlapAt_14 : decode cX4_overlapAt 14 = .ok (.iconst 0, 1) := by decide +kernel
theorem dX4_overlapAt_15 : decode cX4_overlapAt 15 = .ok (.aload_n 0, 1) := by decide +kernel
theorem dX4_overlapAt_16 : decode cX4_overlapAt 16 = .ok (.getfield 11, 3) := by decide +kernel
theorem dX4_overlapAt_19 : decode cX4_overlapAt 19 = .ok (.arraylength, 1) := by decide +kernel
theorem dX4_overlapAt_20 : decode cX4_overlapAt 20 = .ok (.iconst 1, 1) := by decide +kernel
theorem dX4_overlapAt_21 : decode cX4_overlapAt 21 = .ok (.isub, 1) := by decide +kernel
theorem dX4_overlapAt_22 : decode cX4_overlapAt 22 = .ok (.invokestatic 97, 3) := by decide +kernel
theorem dX4_overlapAt_25 : decode cX4_overlapAt 25 = .ok (.ifCond .eq 12, 3) := by decide +kernel
theorem dX4_overlapAt_28 : decode cX4_overlapAt 28 = .ok (.aload_n 0, 1) := by decide +kernel
theorem dX4_overlapAt_29 : decode cX4_overlapAt 29 = .ok (.getfield 11, 3) := by decide +kernel
theorem dX4_overlapAt_32 : decode cX4_overlapAt 32 = .ok (.iload_n 3, 1) := by decide +kernel
theorem dX4_overlapAt_33 : decode cX4_overlapAt 33 = .ok (.iaload, 1) := by decide +kernel
theorem dX4_overlapAt_34 : decode cX4_overlapAt 34 = .ok (.goto 4, 3) := by decide +kernel
theorem dX4_overlapAt_37 : decode cX4_overlapAt 37 = .ok (.iconst 0, 1) := by decide +kernel
theorem dX4_overlapAt_38 : decode cX4_overlapAt 38 = .ok (.ireturn, 1) := by decide +kernel
theorem dX4_noteShared_0 : decode cX4_noteShared 0 = .ok (.aload_n 0, 1) := by decide +kernel
theorem dX4_noteShared_1 : decode cX4_noteShared 1 = .ok (.iload_n 1, 1) := by decide +kernel
theorem dX4_noteShared_2 : decode cX4_noteShared 2 = .ok (.iconst 1, 1) := by decide +kernel
theorem dX4_noteShared_3 : decode cX4_noteShared 3 = .ok (.isub, 1) := by decide +kernel
theorem dX4_noteShared_4 : decode cX4_noteShared 4 = .ok (.iload_n 2, 1) := by decide +kernel
theorem dX4_noteShared_5 : decode cX4_noteShared 5 = .ok (.invokevirtual 82, 3) := by decide +kernel
theorem dX4_noteShared_8 : decode cX4_noteShared 8 = .ok (.aload_n 0, 1) := by decide +kernel
theorem dX4_noteShared_9 : decode cX4_noteShared 9 = .ok (.iload_n 1, 1) := by decide +kernel
theorem dX4_noteShared_10 : decode cX4_noteShared 10 = .ok (.iconst 1, 1) := by decide +kernel
theorem dX4_noteShared_11 : decode cX4_noteShared 11 = .ok (.iadd, 1) := by decide +kernel
theorem dX4_noteShared_12 : decode cX4_noteShared 12 = .ok (.iload_n 2, 1) := by decide +kernel
theorem dX4_noteShared_13 : decode cX4_noteShared 13 = .ok (.invokevirtual 82, 3) := by decide +kernel
theorem dX4_noteShared_16 : decode cX4_noteShared 16 = .ok (.iadd, 1) := by decide +kernel
theorem dX4_noteShared_17 : decode cX4_noteShared 17 = .ok (.aload_n 0, 1) := by decide +kernel
theorem dX4_noteShared_18 : decode cX4_noteShared 18 = .ok (.iload_n 1, 1) := by decide +kernel
theorem dX4_noteShared_19 : decode cX4_noteShared 19 = .ok (.iload_n 2, 1) := by decide +kernel
theorem dX4_noteShared_20 : decode cX4_noteShared 20 = .ok (.iconst 1, 1) := by decide +kernel
theorem dX4_noteShared_21 : decode cX4_noteShared 21 = .ok (.isub, 1) := by decide +kernel
theorem dX4_noteShared_22 : decode cX4_noteShared 22 = .ok (.invokevirtual 82, 3) := by decide +kernel
theorem dX4_noteShared_25 : decode cX4_noteShared 25 = .ok (.iadd, 1) := by decide +kernel
theorem dX4_noteShared_26 : decode cX4_noteShared 26 = .ok (.aload_n 0, 1) := by decide +kernel
theorem dX4_noteShared_27 : decode cX4_noteShared 27 = .ok (.iload_n 1, 1) := by decide +kernel
theorem dX4_noteShared_28 : decode cX4_noteShared 28 = .ok (.iload_n 2, 1) := by decide +kernel
theorem dX4_noteShared_29 : decode cX4_noteShared 29 = .ok (.iconst 1, 1) := by decide +kernel
theorem dX4_noteShared_30 : decode cX4_noteShared 30 = .ok (.iadd, 1) := by decide +kernel
theorem dX4_noteShared_31 : decode cX4_noteShared 31 = .ok (.invokevirtual 82, 3) := by decide +kernel
theorem dX4_noteShared_34 : decode cX4_noteShared 34 = .ok (.iadd, 1) := by decide +kernel
theorem dX4_noteShared_35 : decode cX4_noteShared 35 = .ok (.istore_n 3, 1) := by decide +kernel
theorem dX4_noteShared_36 : decode cX4_noteShared 36 = .ok (.iload_n 3, 1) := by decide +kernel
theorem dX4_noteShared_37 : decode cX4_noteShared 37 = .ok (.ifCond .le 13, 3) := by decide +kernel
theorem dX4_noteShared_40 : decode cX4_noteShared 40 = .ok (.aload_n 0, 1) := by decide +kernel
theorem dX4_noteShared_41 : decode cX4_noteShared 41 = .ok (.dup, 1) := by decide +kernel
theorem dX4_noteShared_42 : decode cX4_noteShared 42 = .ok (.getfield 67, 3) := by decide +kernel
theorem dX4_noteShared_45 : decode cX4_noteShared 45 = .ok (.iconst 1, 1) := by decide +kernel
theorem dX4_noteShared_46 : decode cX4_noteShared 46 = .ok (.iadd, 1) := by decide +kernel
theorem dX4_noteShared_47 : decode cX4_noteShared 47 = .ok (.putfield 67, 3) := by decide +kernel
theorem dX4_noteShared_50 : decode cX4_noteShared 50 = .ok (.iload_n 3, 1) := by decide +kernel
theorem dX4_noteShared_51 : decode cX4_noteShared 51 = .ok (.aload_n 0, 1) := by decide +kernel
theorem dX4_noteShared_52 : decode cX4_noteShared 52 = .ok (.getfield 70, 3) := by decide +kernel
theorem dX4_noteShared_55 : decode cX4_noteShared 55 = .ok (.if_icmp .le 18, 3) := by decide +kernel
theorem dX4_noteShared_58 : decode cX4_noteShared 58 = .ok (.aload_n 0, 1) := by decide +kernel
theorem dX4_noteShared_59 : decode cX4_noteShared 59 = .ok (.iload_n 3, 1) := by decide +kernel
theorem dX4_noteShared_60 : decode cX4_noteShared 60 = .ok (.putfield 70, 3) := by decide +kernel
theorem dX4_noteShared_63 : decode cX4_noteShared 63 = .ok (.aload_n 0, 1) := by decide +kernel
theorem dX4_noteShared_64 : decode cX4_noteShared 64 = .ok (.iload_n 1, 1) := by decide +kernel
theorem dX4_noteShared_65 : decode cX4_noteShared 65 = .ok (.putfield 73, 3) := by decide +kernel
theorem dX4_noteShared_68 : decode cX4_noteShared 68 = .ok (.aload_n 0, 1) := by decide +kernel
theorem dX4_noteShared_69 : decode cX4_noteShared 69 = .ok (.iload_n 2, 1) := by decide +kernel
theorem dX4_noteShared_70 : decode cX4_noteShared 70 = .ok (.putfield 76, 3) := by decide +kernel
theorem dX4_noteShared_73 : decode cX4_noteShared 73 = .ok (.return_, 1) := by decide +kernel
theorem dX4_noteBox_0 : decode cX4_noteBox 0 = .ok (.aload_n 0, 1) := by decide +kernel
theorem dX4_noteBox_1 : decode cX4_noteBox 1 = .ok (.getfield 79, 3) := by decide +kernel
theorem dX4_noteBox_4 : decode cX4_noteBox 4 = .ok (.ifCond .eq 11, 3) := by decide +kernel
theorem dX4_noteBox_7 : decode cX4_noteBox 7 = .ok (.iload_n 1, 1) := by decide +kernel
theorem dX4_noteBox_8 : decode cX4_noteBox 8 = .ok (.aload_n 0, 1) := by decide +kernel
theorem dX4_noteBox_9 : decode cX4_noteBox 9 = .ok (.getfield 79, 3) := by decide +kernel
theorem dX4_noteBox_12 : decode cX4_noteBox 12 = .ok (.if_icmp .ge 8, 3) := by decide +kernel
theorem dX4_noteBox_15 : decode cX4_noteBox 15 = .ok (.aload_n 0, 1) := by decide +kernel
theorem dX4_noteBox_16 : decode cX4_noteBox 16 = .ok (.iload_n 1, 1) := by decide +kernel
theorem dX4_noteBox_17 : decode cX4_noteBox 17 = .ok (.putfield 79, 3) := by decide +kernel
theorem dX4_noteBox_20 : decode cX4_noteBox 20 = .ok (.return_, 1) := by decide +kernel
theorem dX4_around_0 : decode cX4_around 0 = .ok (.iload_n 0, 1) := by decide +kernel
theorem dX4_around_1 : decode cX4_around 1 = .ok (.iload_n 2, 1) := by decide +kernel
theorem dX4_around_2 : decode cX4_around 2 = .ok (.iload_n 1, 1) := by decide +kernel
theorem dX4_around_3 : decode cX4_around 3 = .ok (.iadd, 1) := by decide +kernel
theorem dX4_around_4 : decode cX4_around 4 = .ok (.invokestatic 57, 3) := by decide +kernel
theorem dX4_around_7 : decode cX4_around 7 = .ok (.iconst 0, 1) := by decide +kernel
theorem dX4_around_8 : decode cX4_around 8 = .ok (.iload_n 2, 1) := by decide +kernel
theorem dX4_around_9 : decode cX4_around 9 = .ok (.invokestatic 101, 3) := by decide +kernel
theorem dX4_around_12 : decode cX4_around 12 = .ok (.isub, 1) := by decide +kernel
theorem dX4_around_13 : decode cX4_around 13 = .ok (.ireturn, 1) := by decide +kernel
theorem dX4_measured_0 : decode cX4_measured 0 = .ok (.iload_n 1, 1) := by decide +kernel
theorem dX4_measured_1 : decode cX4_measured 1 = .ok (.tableswitch 66 0 4 #[35, 40, 45, 50, 58], 35) := by decide +kernel
theorem dX4_measured_36 : decode cX4_measured 36 = .ok (.aload_n 0, 1) := by decide +kernel
theorem dX4_measured_37 : decode cX4_measured 37 = .ok (.getfield 63, 3) := by decide +kernel
theorem dX4_measured_40 : decode cX4_measured 40 = .ok (.ireturn, 1) := by decide +kernel
theorem dX4_measured_41 : decode cX4_measured 41 = .ok (.aload_n 0, 1) := by decide +kernel
theorem dX4_measured_42 : decode cX4_measured 42 = .ok (.getfield 67, 3) := by decide +kernel
theorem dX4_measured_45 : decode cX4_measured 45 = .ok (.ireturn, 1) := by decide +kernel
theorem dX4_measured_46 : decode cX4_measured 46 = .ok (.aload_n 0, 1) := by decide +kernel
theorem dX4_measured_47 : decode cX4_measured 47 = .ok (.getfield 70, 3) := by decide +kernel
theorem dX4_measured_50 : decode cX4_measured 50 = .ok (.ireturn, 1) := by decide +kernel
theorem dX4_measured_51 : decode cX4_measured 51 = .ok (.aload_n 0, 1) := by decide +kernel
theorem dX4_measured_52 : decode cX4_measured 52 = .ok (.getfield 73, 3) := by decide +kernel
theorem dX4_measured_55 : decode cX4_measured 55 = .ok (.bipush 10, 2) := by decide +kernel
theorem dX4_measured_57 : decode cX4_measured 57 = .ok (.iadd, 1) := by decide +kernel
theorem dX4_measured_58 : decode cX4_measured 58 = .ok (.ireturn, 1) := by decide +kernel
theorem dX4_measured_59 : decode cX4_measured 59 = .ok (.aload_n 0, 1) := by decide +kernel
theorem dX4_measured_60 : decode cX4_measured 60 = .ok (.getfield 76, 3) := by decide +kernel
theorem dX4_measured_63 : decode cX4_measured 63 = .ok (.bipush 10, 2) := by decide +kernel
theorem dX4_measured_65 : decode cX4_measured 65 = .ok (.iadd, 1) := by decide +kernel
theorem dX4_measured_66 : decode cX4_measured 66 = .ok (.ireturn, 1) := by decide +kernel
theorem dX4_measured_67 : decode cX4_measured 67 = .ok (.aload_n 0, 1) := by decide +kernel
theorem dX4_measured_68 : decode cX4_measured 68 = .ok (.getfield 79, 3) := by decide +kernel
theorem dX4_measured_71 : decode cX4_measured 71 = .ok (.ireturn, 1) := by decide +kernel
theorem dX5_init_0 : decode cX5_init 0 = .ok (.aload_n 0, 1) := by decide +kernel
theorem dX5_init_1 : decode cX5_init 1 = .ok (.invokespecial 3, 3) := by decide +kernel
theorem dX5_init_4 : decode cX5_init 4 = .ok (.aload_n 0, 1) := by decide +kernel
theorem dX5_init_5 : decode cX5_init 5 = .ok (.bipush 52, 2) := by decide +kernel
theorem dX5_init_7 : decode cX5_init 7 = .ok (.newarray .byte, 2) := by decide +kernel
theorem dX5_init_9 : decode cX5_init 9 = .ok (.putfield 11, 3) := by decide +kernel
theorem dX5_init_12 : decode cX5_init 12 = .ok (.return_, 1) := by decide +kernel
theorem dX5_length_0 : decode cX5_length 0 = .ok (.aload_n 0, 1) := by decide +kernel
theorem dX5_length_1 : decode cX5_length 1 = .ok (.getfield 15, 3) := by decide +kernel
theorem dX5_length_4 : decode cX5_length 4 = .ok (.ireturn, 1) := by decide +kernel
theorem dX5_letter_0 : decode cX5_letter 0 = .ok (.iload_n 1, 1) := by decide +kernel
theorem dX5_letter_1 : decode cX5_letter 1 = .ok (.iconst 0, 1) := by decide +kernel
theorem dX5_letter_2 : decode cX5_letter 2 = .ok (.bipush 51, 2) := by decide +kernel
theorem dX5_letter_4 : decode cX5_letter 4 = .ok (.invokestatic 19, 3) := by decide +kernel
theorem dX5_letter_7 : decode cX5_letter 7 = .ok (.ifCond .eq 12, 3) := by decide +kernel
theorem dX5_letter_10 : decode cX5_letter 10 = .ok (.aload_n 0, 1) := by decide +kernel
theorem dX5_letter_11 : decode cX5_letter 11 = .ok (.getfield 11, 3) := by decide +kernel
theorem dX5_letter_14 : decode cX5_letter 14 = .ok (.iload_n 1, 1) := by decide +kernel
theorem dX5_letter_15 : decode cX5_letter 15 = .ok (.baload, 1) := by decide +kernel
theorem dX5_letter_16 : decode cX5_letter 16 = .ok (.goto 4, 3) := by decide +kernel
theorem dX5_letter_19 : decode cX5_letter 19 = .ok (.iconst (-1), 1) := by decide +kernel
theorem dX5_letter_20 : decode cX5_letter 20 = .ok (.ireturn, 1) := by decide +kernel
theorem dX5_cuttings_0 : decode cX5_cuttings 0 = .ok (.aload_n 0, 1) := by decide +kernel
theorem dX5_cuttings_1 : decode cX5_cuttings 1 = .ok (.getfield 23, 3) := by decide +kernel
theorem dX5_cuttings_4 : decode cX5_cuttings 4 = .ok (.ireturn, 1) := by decide +kernel
theorem dX5_tilesBy_0 : decode cX5_tilesBy 0 = .ok (.aload_n 0, 1) := by decide +kernel
theorem dX5_tilesBy_1 : decode cX5_tilesBy 1 = .ok (.lload_n 1, 1) := by decide +kernel
theorem dX5_tilesBy_2 : decode cX5_tilesBy 2 = .ok (.invokevirtual 26, 3) := by decide +kernel
theorem dX5_tilesBy_5 : decode cX5_tilesBy 5 = .ok (.ifCond .ne 5, 3) := by decide +kernel
theorem dX5_tilesBy_8 : decode cX5_tilesBy 8 = .ok (.iconst 0, 1) := by decide +kernel
theorem dX5_tilesBy_9 : decode cX5_tilesBy 9 = .ok (.ireturn, 1) := by decide +kernel
theorem dX5_tilesBy_10 : decode cX5_tilesBy 10 = .ok (.aload_n 0, 1) := by decide +kernel
theorem dX5_tilesBy_11 : decode cX5_tilesBy 11 = .ok (.invokevirtual 30, 3) := by decide +kernel
theorem dX5_tilesBy_14 : decode cX5_tilesBy 14 = .ok (.aload_n 0, 1) := by decide +kernel
theorem dX5_tilesBy_15 : decode cX5_tilesBy 15 = .ok (.getfield 23, 3) := by decide +kernel
theorem dX5_tilesBy_18 : decode cX5_tilesBy 18 = .ok (.ifCond .le 7, 3) := by decide +kernel
theorem dX5_tilesBy_21 : decode cX5_tilesBy 21 = .ok (.iconst 1, 1) := by decide +kernel
theorem dX5_tilesBy_22 : decode cX5_tilesBy 22 = .ok (.goto 4, 3) := by decide +kernel
theorem dX5_tilesBy_25 : decode cX5_tilesBy 25 = .ok (.iconst 0, 1) := by decide +kernel
theorem dX5_tilesBy_26 : decode cX5_tilesBy 26 = .ok (.ireturn, 1) := by decide +kernel
theorem dX5_trace_0 : decode cX5_trace 0 = .ok (.aload_n 0, 1) := by decide +kernel
theorem dX5_trace_1 : decode cX5_trace 1 = .ok (.iconst 0, 1) := by decide +kernel
theorem dX5_trace_2 : decode cX5_trace 2 = .ok (.putfield 15, 3) := by decide +kernel
theorem dX5_trace_5 : decode cX5_trace 5 = .ok (.lload_n 1, 1) := by decide +kernel
theorem dX5_trace_6 : decode cX5_trace 6 = .ok (.invokestatic 33, 3) := by decide +kernel
theorem dX5_trace_9 : decode cX5_trace 9 = .ok (.lconst 0, 1) := by decide +kernel
theorem dX5_trace_10 : decode cX5_trace 10 = .ok (.lcmp, 1) := by decide +kernel
theorem dX5_trace_11 : decode cX5_trace 11 = .ok (.ifCond .ne 12, 3) := by decide +kernel
theorem dX5_trace_14 : decode cX5_trace 14 = .ok (.lload_n 1, 1) := by decide +kernel
theorem dX5_trace_15 : decode cX5_trace 15 = .ok (.invokestatic 39, 3) := by decide +kernel
theorem dX5_trace_18 : decode cX5_trace 18 = .ok (.lconst 0, 1) := by decide +kernel
theorem dX5_trace_19 : decode cX5_trace 19 = .ok (.lcmp, 1) := by decide +kernel
theorem dX5_trace_20 : decode cX5_trace 20 = .ok (.ifCond .eq 5, 3) := by decide +kernel
theorem dX5_trace_23 : decode cX5_trace 23 = .ok (.iconst 0, 1) := by decide +kernel
theorem dX5_trace_24 : decode cX5_trace 24 = .ok (.ireturn, 1) := by decide +kernel
theorem dX5_trace_25 : decode cX5_trace 25 = .ok (.lload_n 1, 1) := by decide +kernel
theorem dX5_trace_26 : decode cX5_trace 26 = .ok (.invokestatic 42, 3) := by decide +kernel
theorem dX5_trace_29 : decode cX5_trace 29 = .ok (.istore_n 3, 1) := by decide +kernel
theorem dX5_trace_30 : decode cX5_trace 30 = .ok (.lload_n 1, 1) := by decide +kernel
theorem dX5_trace_31 : decode cX5_trace 31 = .ok (.invokestatic 46, 3) := by decide +kernel
theorem dX5_trace_34 : decode cX5_trace 34 = .ok (.istore 4, 2) := by decide +kernel
theorem dX5_trace_36 : decode cX5_trace 36 = .ok (.iconst 0, 1) := by decide +kernel
theorem dX5_trace_37 : decode cX5_trace 37 = .ok (.istore 5, 2) := by decide +kernel
theorem dX5_trace_39 : decode cX5_trace 39 = .ok (.iconst 0, 1) := by decide +kernel
theorem dX5_trace_40 : decode cX5_trace 40 = .ok (.istore 6, 2) := by decide +kernel
theorem dX5_trace_42 : decode cX5_trace 42 = .ok (.iconst 0, 1) := by decide +kernel
theorem dX5_trace_43 : decode cX5_trace 43 = .ok (.istore 7, 2) := by decide +kernel
theorem dX5_trace_45 : decode cX5_trace 45 = .ok (.iload 7, 2) := by decide +kernel
theorem dX5_trace_47 : decode cX5_trace 47 = .ok (.iload_n 3, 1) := by decide +kernel
theorem dX5_trace_48 : decode cX5_trace 48 = .ok (.if_icmp .ge 72, 3) := by decide +kernel
theorem dX5_trace_51 : decode cX5_trace 51 = .ok (.iload 7, 2) := by decide +kernel
theorem dX5_trace_53 : decode cX5_trace 53 = .ok (.iload_n 3, 1) := by decide +kernel
theorem dX5_trace_54 : decode cX5_trace 54 = .ok (.iadd, 1) := by decide +kernel
theorem dX5_trace_55 : decode cX5_trace 55 = .ok (.bipush 52, 2) := by decide +kernel
theorem dX5_trace_57 : decode cX5_trace 57 = .ok (.if_icmp .ge 63, 3) := by decide +kernel
theorem dX5_trace_60 : decode cX5_trace 60 = .ok (.aload_n 0, 1) := by decide +kernel
theorem dX5_trace_61 : decode cX5_trace 61 = .ok (.getfield 11, 3) := by decide +kernel
theorem dX5_trace_64 : decode cX5_trace 64 = .ok (.iload 7, 2) := by decide +kernel
theorem dX5_trace_66 : decode cX5_trace 66 = .ok (.iload 6, 2) := by decide +kernel
theorem dX5_trace_68 : decode cX5_trace 68 = .ok (.i2b, 1) := by decide +kernel
theorem dX5_trace_69 : decode cX5_trace 69 = .ok (.bastore, 1) := by decide +kernel
theorem dX5_trace_70 : decode cX5_trace 70 = .ok (.aload_n 0, 1) := by decide +kernel
theorem dX5_trace_71 : decode cX5_trace 71 = .ok (.getfield 11, 3) := by decide +kernel
theorem dX5_trace_74 : decode cX5_trace 74 = .ok (.iload 7, 2) := by decide +kernel
theorem dX5_trace_76 : decode cX5_trace 76 = .ok (.iload_n 3, 1) := by decide +kernel
theorem dX5_trace_77 : decode cX5_trace 77 = .ok (.iadd, 1) := by decide +kernel
theorem dX5_trace_78 : decode cX5_trace 78 = .ok (.iload 6, 2) := by decide +kernel
theorem dX5_trace_80 : decode cX5_trace 80 = .ok (.i2b, 1) := by decide +kernel
theorem dX5_trace_81 : decode cX5_trace 81 = .ok (.bastore, 1) := by decide +kernel
theorem dX5_trace_82 : decode cX5_trace 82 = .ok (.iload 4, 2) := by decide +kernel
theorem dX5_trace_84 : decode cX5_trace 84 = .ok (.iload 6, 2) := by decide +kernel
theorem dX5_trace_86 : decode cX5_trace 86 = .ok (.invokestatic 51, 3) := by decide +kernel
theorem dX5_trace_89 : decode cX5_trace 89 = .ok (.iadd, 1) := by decide +kernel
theorem dX5_trace_90 : decode cX5_trace 90 = .ok (.istore 4, 2) := by decide +kernel
theorem dX5_trace_92 : decode cX5_trace 92 = .ok (.iload 5, 2) := by decide +kernel
theorem dX5_trace_94 : decode cX5_trace 94 = .ok (.iload 6, 2) := by decide +kernel
theorem dX5_trace_96 : decode cX5_trace 96 = .ok (.invokestatic 55, 3) := by decide +kernel
theorem dX5_trace_99 : decode cX5_trace 99 = .ok (.iadd, 1) := by decide +kernel
theorem dX5_trace_100 : decode cX5_trace 100 = .ok (.istore 5, 2) := by decide +kernel
theorem dX5_trace_102 : decode cX5_trace 102 = .ok (.lload_n 1, 1) := by decide +kernel
theorem dX5_trace_103 : decode cX5_trace 103 = .ok (.iload 4, 2) := by decide +kernel
theorem dX5_trace_105 : decode cX5_trace 105 = .ok (.iload 5, 2) := by decide +kernel
theorem dX5_trace_107 : decode cX5_trace 107 = .ok (.iload 6, 2) := by decide +kernel
theorem dX5_trace_109 : decode cX5_trace 109 = .ok (.invokestatic 58, 3) := by decide +kernel
theorem dX5_trace_112 : decode cX5_trace 112 = .ok (.istore 6, 2) := by decide +kernel
theorem dX5_trace_114 : decode cX5_trace 114 = .ok (.iinc 7 1, 3) := by decide +kernel
theorem dX5_trace_117 : decode cX5_trace 117 = .ok (.goto (-72), 3) := by decide +kernel
theorem dX5_trace_120 : decode cX5_trace 120 = .ok (.aload_n 0, 1) := by decide +kernel
theorem dX5_trace_121 : decode cX5_trace 121 = .ok (.iload_n 3, 1) := by decide +kernel
theorem dX5_trace_122 : decode cX5_trace 122 = .ok (.putfield 15, 3) := by decide +kernel
theorem dX5_trace_125 : decode cX5_trace 125 = .ok (.iconst 1, 1) := by decide +kernel
theorem dX5_trace_126 : decode cX5_trace 126 = .ok (.ireturn, 1) := by decide +kernel
theorem dX5_stepX_0 : decode cX5_stepX 0 = .ok (.iload_n 0, 1) := by decide +kernel
theorem dX5_stepX_1 : decode cX5_stepX 1 = .ok (.ifCond .ne 7, 3) := by decide +kernel
theorem dX5_stepX_4 : decode cX5_stepX 4 = .ok (.iconst 1, 1) := by decide +kernel
theorem dX5_stepX_5 : decode cX5_stepX 5 = .ok (.goto 13, 3) := by decide +kernel
theorem dX5_stepX_8 : decode cX5_stepX 8 = .ok (.iload_n 0, 1) := by decide +kernel
theorem dX5_stepX_9 : decode cX5_stepX 9 = .ok (.iconst 2, 1) := by decide +kernel
theorem dX5_stepX_10 : decode cX5_stepX 10 = .ok (.if_icmp .ne 7, 3) := by decide +kernel
theorem dX5_stepX_13 : decode cX5_stepX 13 = .ok (.iconst (-1), 1) := by decide +kernel
theorem dX5_stepX_14 : decode cX5_stepX 14 = .ok (.goto 4, 3) := by decide +kernel
theorem dX5_stepX_17 : decode cX5_stepX 17 = .ok (.iconst 0, 1) := by decide +kernel
theorem dX5_stepX_18 : decode cX5_stepX 18 = .ok (.ireturn, 1) := by decide +kernel
theorem dX5_stepY_0 : decode cX5_stepY 0 = .ok (.iload_n 0, 1) := by decide +kernel
theorem dX5_stepY_1 : decode cX5_stepY 1 = .ok (.iconst 1, 1) := by decide +kernel
theorem dX5_stepY_2 : decode cX5_stepY 2 = .ok (.if_icmp .ne 7, 3) := by decide +kernel
theorem dX5_stepY_5 : decode cX5_stepY 5 = .ok (.iconst 1, 1) := by decide +kernel
theorem dX5_stepY_6 : decode cX5_stepY 6 = .ok (.goto 13, 3) := by decide +kernel
theorem dX5_stepY_9 : decode cX5_stepY 9 = .ok (.iload_n 0, 1) := by decide +kernel
theorem dX5_stepY_10 : decode cX5_stepY 10 = .ok (.iconst 3, 1) := by decide +kernel
theorem dX5_stepY_11 : decode cX5_stepY 11 = .ok (.if_icmp .ne 7, 3) := by decide +kernel
theorem dX5_stepY_14 : decode cX5_stepY 14 = .ok (.iconst (-1), 1) := by decide +kernel
theorem dX5_stepY_15 : decode cX5_stepY 15 = .ok (.goto 4, 3) := by decide +kernel
theorem dX5_stepY_18 : decode cX5_stepY 18 = .ok (.iconst 0, 1) := by decide +kernel
theorem dX5_stepY_19 : decode cX5_stepY 19 = .ok (.ireturn, 1) := by decide +kernel
theorem dX5_nextLetter_0 : decode cX5_nextLetter 0 = .ok (.iload 4, 2) := by decide +kernel
theorem dX5_nextLetter_2 : decode cX5_nextLetter 2 = .ok (.iconst 1, 1) := by decide +kernel
theorem dX5_nextLetter_3 : decode cX5_nextLetter 3 = .ok (.if_icmp .eq 9, 3) := by decide +kernel
theorem dX5_nextLetter_6 : decode cX5_nextLetter 6 = .ok (.iload 4, 2) := by decide +kernel
theorem dX5_nextLetter_8 : decode cX5_nextLetter 8 = .ok (.iconst 2, 1) := by decide +kernel
theorem dX5_nextLetter_9 : decode cX5_nextLetter 9 = .ok (.if_icmp .ne 9, 3) := by decide +kernel
theorem dX5_nextLetter_12 : decode cX5_nextLetter 12 = .ok (.iload_n 2, 1) := by decide +kernel
theorem dX5_nextLetter_13 : decode cX5_nextLetter 13 = .ok (.iconst 1, 1) := by decide +kernel
theorem dX5_nextLetter_14 : decode cX5_nextLetter 14 = .ok (.isub, 1) := by decide +kernel
theorem dX5_nextLetter_15 : decode cX5_nextLetter 15 = .ok (.goto 4, 3) := by decide +kernel
theorem dX5_nextLetter_18 : decode cX5_nextLetter 18 = .ok (.iload_n 2, 1) := by decide +kernel
theorem dX5_nextLetter_19 : decode cX5_nextLetter 19 = .ok (.istore 5, 2) := by decide +kernel
theorem dX5_nextLetter_21 : decode cX5_nextLetter 21 = .ok (.iload 4, 2) := by decide +kernel
theorem dX5_nextLetter_23 : decode cX5_nextLetter 23 = .ok (.iconst 2, 1) := by decide +kernel
theorem dX5_nextLetter_24 : decode cX5_nextLetter 24 = .ok (.if_icmp .lt 9, 3) := by decide +kernel
theorem dX5_nextLetter_27 : decode cX5_nextLetter 27 = .ok (.iload_n 3, 1) := by decide +kernel
theorem dX5_nextLetter_28 : decode cX5_nextLetter 28 = .ok (.iconst 1, 1) := by decide +kernel
theorem dX5_nextLetter_29 : decode cX5_nextLetter 29 = .ok (.isub, 1) := by decide +kernel
theorem dX5_nextLetter_30 : decode cX5_nextLetter 30 = .ok (.goto 4, 3) := by decide +kernel
theorem dX5_nextLetter_33 : decode cX5_nextLetter 33 = .ok (.iload_n 3, 1) := by decide +kernel
theorem dX5_nextLetter_34 : decode cX5_nextLetter 34 = .ok (.istore 6, 2) := by decide +kernel
theorem dX5_nextLetter_36 : decode cX5_nextLetter 36 = .ok (.iload 5, 2) := by decide +kernel
theorem dX5_nextLetter_38 : decode cX5_nextLetter 38 = .ok (.iload 4, 2) := by decide +kernel
theorem dX5_nextLetter_40 : decode cX5_nextLetter 40 = .ok (.invokestatic 55, 3) := by decide +kernel
theorem dX5_nextLetter_43 : decode cX5_nextLetter 43 = .ok (.iadd, 1) := by decide +kernel
theorem dX5_nextLetter_44 : decode cX5_nextLetter 44 = .ok (.istore 7, 2) := by decide +kernel
theorem dX5_nextLetter_46 : decode cX5_nextLetter 46 = .ok (.iload 6, 2) := by decide +kernel
theorem dX5_nextLetter_48 : decode cX5_nextLetter 48 = .ok (.iload 4, 2) := by decide +kernel
theorem dX5_nextLetter_50 : decode cX5_nextLetter 50 = .ok (.invokestatic 51, 3) := by decide +kernel
theorem dX5_nextLetter_53 : decode cX5_nextLetter 53 = .ok (.isub, 1) := by decide +kernel
theorem dX5_nextLetter_54 : decode cX5_nextLetter 54 = .ok (.istore 8, 2) := by decide +kernel
theorem dX5_nextLetter_56 : decode cX5_nextLetter 56 = .ok (.lload_n 0, 1) := by decide +kernel
theorem dX5_nextLetter_57 : decode cX5_nextLetter 57 = .ok (.iload 7, 2) := by decide +kernel
theorem dX5_nextLetter_59 : decode cX5_nextLetter 59 = .ok (.iload 8, 2) := by decide +kernel
theorem dX5_nextLetter_61 : decode cX5_nextLetter 61 = .ok (.invokestatic 62, 3) := by decide +kernel
theorem dX5_nextLetter_64 : decode cX5_nextLetter 64 = .ok (.ifCond .eq 10, 3) := by decide +kernel
theorem dX5_nextLetter_67 : decode cX5_nextLetter 67 = .ok (.iload 4, 2) := by decide +kernel
theorem dX5_nextLetter_69 : decode cX5_nextLetter 69 = .ok (.iconst 3, 1) := by decide +kernel
theorem dX5_nextLetter_70 : decode cX5_nextLetter 70 = .ok (.iadd, 1) := by decide +kernel
theorem dX5_nextLetter_71 : decode cX5_nextLetter 71 = .ok (.iconst 3, 1) := by decide +kernel
theorem dX5_nextLetter_72 : decode cX5_nextLetter 72 = .ok (.iand, 1) := by decide +kernel
theorem dX5_nextLetter_73 : decode cX5_nextLetter 73 = .ok (.ireturn, 1) := by decide +kernel
theorem dX5_nextLetter_74 : decode cX5_nextLetter 74 = .ok (.lload_n 0, 1) := by decide +kernel
theorem dX5_nextLetter_75 : decode cX5_nextLetter 75 = .ok (.iload 5, 2) := by decide +kernel
theorem dX5_nextLetter_77 : decode cX5_nextLetter 77 = .ok (.iload 6, 2) := by decide +kernel
theorem dX5_nextLetter_79 : decode cX5_nextLetter 79 = .ok (.invokestatic 62, 3) := by decide +kernel
theorem dX5_nextLetter_82 : decode cX5_nextLetter 82 = .ok (.ifCond .eq 8, 3) := by decide +kernel
theorem dX5_nextLetter_85 : decode cX5_nextLetter 85 = .ok (.iload 4, 2) := by decide +kernel
theorem dX5_nextLetter_87 : decode cX5_nextLetter 87 = .ok (.goto 9, 3) := by decide +kernel
theorem dX5_nextLetter_90 : decode cX5_nextLetter 90 = .ok (.iload 4, 2) := by decide +kernel
theorem dX5_nextLetter_92 : decode cX5_nextLetter 92 = .ok (.iconst 1, 1) := by decide +kernel
theorem dX5_nextLetter_93 : decode cX5_nextLetter 93 = .ok (.iadd, 1) := by decide +kernel
theorem dX5_nextLetter_94 : decode cX5_nextLetter 94 = .ok (.iconst 3, 1) := by decide +kernel
theorem dX5_nextLetter_95 : decode cX5_nextLetter 95 = .ok (.iand, 1) := by decide +kernel
theorem dX5_nextLetter_96 : decode cX5_nextLetter 96 = .ok (.ireturn, 1) := by decide +kernel
theorem dX5_cut_0 : decode cX5_cut 0 = .ok (.aload_n 0, 1) := by decide +kernel
theorem dX5_cut_1 : decode cX5_cut 1 = .ok (.iconst 0, 1) := by decide +kernel
theorem dX5_cut_2 : decode cX5_cut 2 = .ok (.putfield 23, 3) := by decide +kernel
theorem dX5_cut_5 : decode cX5_cut 5 = .ok (.aload_n 0, 1) := by decide +kernel
theorem dX5_cut_6 : decode cX5_cut 6 = .ok (.iconst 0, 1) := by decide +kernel
theorem dX5_cut_7 : decode cX5_cut 7 = .ok (.putfield 66, 3) := by decide +kernel
theorem dX5_cut_10 : decode cX5_cut 10 = .ok (.aload_n 0, 1) := by decide +kernel
theorem dX5_cut_11 : decode cX5_cut 11 = .ok (.getfield 15, 3) := by decide +kernel
theorem dX5_cut_14 : decode cX5_cut 14 = .ok (.iconst 2, 1) := by decide +kernel
theorem dX5_cut_15 : decode cX5_cut 15 = .ok (.idiv, 1) := by decide +kernel
theorem dX5_cut_16 : decode cX5_cut 16 = .ok (.istore_n 1, 1) := by decide +kernel
theorem dX5_cut_17 : decode cX5_cut 17 = .ok (.iconst 0, 1) := by decide +kernel
theorem dX5_cut_18 : decode cX5_cut 18 = .ok (.istore_n 2, 1) := by decide +kernel
theorem dX5_cut_19 : decode cX5_cut 19 = .ok (.iload_n 2, 1) := by decide +kernel
theorem dX5_cut_20 : decode cX5_cut 20 = .ok (.iload_n 1, 1) := by decide +kernel
theorem dX5_cut_21 : decode cX5_cut 21 = .ok (.if_icmp .ge 37, 3) := by decide +kernel
theorem dX5_cut_24 : decode cX5_cut 24 = .ok (.iconst 1, 1) := by decide +kernel
theorem dX5_cut_25 : decode cX5_cut 25 = .ok (.istore_n 3, 1) := by decide +kernel
theorem dX5_cut_26 : decode cX5_cut 26 = .ok (.iload_n 3, 1) := by decide +kernel
theorem dX5_cut_27 : decode cX5_cut 27 = .ok (.iload_n 1, 1) := by decide +kernel
theorem dX5_cut_28 : decode cX5_cut 28 = .ok (.if_icmp .ge 24, 3) := by decide +kernel
theorem dX5_cut_31 : decode cX5_cut 31 = .ok (.aload_n 0, 1) := by decide +kernel
theorem dX5_cut_32 : decode cX5_cut 32 = .ok (.iload_n 2, 1) := by decide +kernel
theorem dX5_cut_33 : decode cX5_cut 33 = .ok (.iload_n 3, 1) := by decide +kernel
theorem dX5_cut_34 : decode cX5_cut 34 = .ok (.invokevirtual 69, 3) := by decide +kernel
theorem dX5_cut_37 : decode cX5_cut 37 = .ok (.ifCond .eq 9, 3) := by decide +kernel
theorem dX5_cut_40 : decode cX5_cut 40 = .ok (.aload_n 0, 1) := by decide +kernel
theorem dX5_cut_41 : decode cX5_cut 41 = .ok (.iload_n 2, 1) := by decide +kernel
theorem dX5_cut_42 : decode cX5_cut 42 = .ok (.iload_n 3, 1) := by decide +kernel
theorem dX5_cut_43 : decode cX5_cut 43 = .ok (.invokevirtual 73, 3) := by decide +kernel
theorem dX5_cut_46 : decode cX5_cut 46 = .ok (.iinc 3 1, 3) := by decide +kernel
theorem dX5_cut_49 : decode cX5_cut 49 = .ok (.goto (-23), 3) := by decide +kernel
theorem dX5_cut_52 : decode cX5_cut 52 = .ok (.iinc 2 1, 3) := by decide +kernel
theorem dX5_cut_55 : decode cX5_cut 55 = .ok (.goto (-36), 3) := by decide +kernel
theorem dX5_cut_58 : decode cX5_cut 58 = .ok (.return_, 1) := by decide +kernel
theorem dX5_cutFrom_0 : decode cX5_cutFrom 0 = .ok (.aload_n 0, 1) := by decide +kernel
theorem dX5_cutFrom_1 : decode cX5_cutFrom 1 = .ok (.getfield 15, 3) := by decide +kernel
theorem dX5_cutFrom_4 : decode cX5_cutFrom 4 = .ok (.iconst 2, 1) := by decide +kernel
theorem dX5_cutFrom_5 : decode cX5_cutFrom 5 = .ok (.idiv, 1) := by decide +kernel
theorem dX5_cutFrom_6 : decode cX5_cutFrom 6 = .ok (.istore_n 3, 1) := by decide +kernel
theorem dX5_cutFrom_7 : decode cX5_cutFrom 7 = .ok (.iconst 1, 1) := by decide +kernel
theorem dX5_cutFrom_8 : decode cX5_cutFrom 8 = .ok (.istore 4, 2) := by decide +kernel
theorem dX5_cutFrom_10 : decode cX5_cutFrom 10 = .ok (.iload_n 2, 1) := by decide +kernel
theorem dX5_cutFrom_11 : decode cX5_cutFrom 11 = .ok (.iload 4, 2) := by decide +kernel
theorem dX5_cutFrom_13 : decode cX5_cutFrom 13 = .ok (.iadd, 1) := by decide +kernel
theorem dX5_cutFrom_14 : decode cX5_cutFrom 14 = .ok (.iload_n 3, 1) := by decide +kernel
theorem dX5_cutFrom_15 : decode cX5_cutFrom 15 = .ok (.if_icmp .gt 54, 3) := by decide +kernel
theorem dX5_cutFrom_18 : decode cX5_cutFrom 18 = .ok (.iload_n 3, 1) := by decide +kernel
theorem dX5_cutFrom_19 : decode cX5_cutFrom 19 = .ok (.iload_n 2, 1) := by decide +kernel
theorem dX5_cutFrom_20 : decode cX5_cutFrom 20 = .ok (.isub, 1) := by decide +kernel
theorem dX5_cutFrom_21 : decode cX5_cutFrom 21 = .ok (.iload 4, 2) := by decide +kernel
theorem dX5_cutFrom_23 : decode cX5_cutFrom 23 = .ok (.isub, 1) := by decide +kernel
theorem dX5_cutFrom_24 : decode cX5_cutFrom 24 = .ok (.istore 5, 2) := by decide +kernel
theorem dX5_cutFrom_26 : decode cX5_cutFrom 26 = .ok (.aload_n 0, 1) := by decide +kernel
theorem dX5_cutFrom_27 : decode cX5_cutFrom 27 = .ok (.iload_n 1, 1) := by decide +kernel
theorem dX5_cutFrom_28 : decode cX5_cutFrom 28 = .ok (.iload_n 2, 1) := by decide +kernel
theorem dX5_cutFrom_29 : decode cX5_cutFrom 29 = .ok (.iadd, 1) := by decide +kernel
theorem dX5_cutFrom_30 : decode cX5_cutFrom 30 = .ok (.iload 4, 2) := by decide +kernel
theorem dX5_cutFrom_32 : decode cX5_cutFrom 32 = .ok (.invokevirtual 69, 3) := by decide +kernel
theorem dX5_cutFrom_35 : decode cX5_cutFrom 35 = .ok (.ifCond .eq 28, 3) := by decide +kernel
theorem dX5_cutFrom_38 : decode cX5_cutFrom 38 = .ok (.aload_n 0, 1) := by decide +kernel
theorem dX5_cutFrom_39 : decode cX5_cutFrom 39 = .ok (.iload_n 1, 1) := by decide +kernel
theorem dX5_cutFrom_40 : decode cX5_cutFrom 40 = .ok (.iload_n 2, 1) := by decide +kernel
theorem dX5_cutFrom_41 : decode cX5_cutFrom 41 = .ok (.iadd, 1) := by decide +kernel
theorem dX5_cutFrom_42 : decode cX5_cutFrom 42 = .ok (.iload 4, 2) := by decide +kernel
theorem dX5_cutFrom_44 : decode cX5_cutFrom 44 = .ok (.iadd, 1) := by decide +kernel
theorem dX5_cutFrom_45 : decode cX5_cutFrom 45 = .ok (.iload 5, 2) := by decide +kernel
theorem dX5_cutFrom_47 : decode cX5_cutFrom 47 = .ok (.invokevirtual 69, 3) := by decide +kernel
theorem dX5_cutFrom_50 : decode cX5_cutFrom 50 = .ok (.ifCond .eq 13, 3) := by decide +kernel
theorem dX5_cutFrom_53 : decode cX5_cutFrom 53 = .ok (.aload_n 0, 1) := by decide +kernel
theorem dX5_cutFrom_54 : decode cX5_cutFrom 54 = .ok (.iload_n 1, 1) := by decide +kernel
theorem dX5_cutFrom_55 : decode cX5_cutFrom 55 = .ok (.iload_n 2, 1) := by decide +kernel
theorem dX5_cutFrom_56 : decode cX5_cutFrom 56 = .ok (.iload 4, 2) := by decide +kernel
theorem dX5_cutFrom_58 : decode cX5_cutFrom 58 = .ok (.iload 5, 2) := by decide +kernel
theorem dX5_cutFrom_60 : decode cX5_cutFrom 60 = .ok (.invokevirtual 77, 3) := by decide +kernel
theorem dX5_cutFrom_63 : decode cX5_cutFrom 63 = .ok (.iinc 4 1, 3) := by decide +kernel
theorem dX5_cutFrom_66 : decode cX5_cutFrom 66 = .ok (.goto (-56), 3) := by decide +kernel
theorem dX5_cutFrom_69 : decode cX5_cutFrom 69 = .ok (.return_, 1) := by decide +kernel
theorem dX5_note_0 : decode cX5_note 0 = .ok (.aload_n 0, 1) := by decide +kernel
theorem dX5_note_1 : decode cX5_note 1 = .ok (.getfield 23, 3) := by decide +kernel
theorem dX5_note_4 : decode cX5_note 4 = .ok (.ifCond .ne 24, 3) := by decide +kernel
theorem dX5_note_7 : decode cX5_note 7 = .ok (.aload_n 0, 1) := by decide +kernel
theorem dX5_note_8 : decode cX5_note 8 = .ok (.iload_n 1, 1) := by decide +kernel
theorem dX5_note_9 : decode cX5_note 9 = .ok (.putfield 81, 3) := by decide +kernel
theorem dX5_note_12 : decode cX5_note 12 = .ok (.aload_n 0, 1) := by decide +kernel
theorem dX5_note_13 : decode cX5_note 13 = .ok (.iload_n 2, 1) := by decide +kernel
theorem dX5_note_14 : decode cX5_note 14 = .ok (.putfield 84, 3) := by decide +kernel
theorem dX5_note_17 : decode cX5_note 17 = .ok (.aload_n 0, 1) := by decide +kernel
theorem dX5_note_18 : decode cX5_note 18 = .ok (.iload_n 3, 1) := by decide +kernel
theorem dX5_note_19 : decode cX5_note 19 = .ok (.putfield 87, 3) := by decide +kernel
theorem dX5_note_22 : decode cX5_note 22 = .ok (.aload_n 0, 1) := by decide +kernel
theorem dX5_note_23 : decode cX5_note 23 = .ok (.iload 4, 2) := by decide +kernel
theorem dX5_note_25 : decode cX5_note 25 = .ok (.putfield 90, 3) := by decide +kernel
theorem dX5_note_28 : decode cX5_note 28 = .ok (.aload_n 0, 1) := by decide +kernel
theorem dX5_note_29 : decode cX5_note 29 = .ok (.dup, 1) := by decide +kernel
theorem dX5_note_30 : decode cX5_note 30 = .ok (.getfield 23, 3) := by decide +kernel
theorem dX5_note_33 : decode cX5_note 33 = .ok (.iconst 1, 1) := by decide +kernel
theorem dX5_note_34 : decode cX5_note 34 = .ok (.iadd, 1) := by decide +kernel
theorem dX5_note_35 : decode cX5_note 35 = .ok (.putfield 23, 3) := by decide +kernel
theorem dX5_note_38 : decode cX5_note 38 = .ok (.iload 4, 2) := by decide +kernel
theorem dX5_note_40 : decode cX5_note 40 = .ok (.ifCond .ne 13, 3) := by decide +kernel
theorem dX5_note_43 : decode cX5_note 43 = .ok (.aload_n 0, 1) := by decide +kernel
theorem dX5_note_44 : decode cX5_note 44 = .ok (.dup, 1) := by decide +kernel
theorem dX5_note_45 : decode cX5_note 45 = .ok (.getfield 66, 3) := by decide +kernel
theorem dX5_note_48 : decode cX5_note 48 = .ok (.iconst 1, 1) := by decide +kernel
theorem dX5_note_49 : decode cX5_note 49 = .ok (.iadd, 1) := by decide +kernel
theorem dX5_note_50 : decode cX5_note 50 = .ok (.putfield 66, 3) := by decide +kernel
theorem dX5_note_53 : decode cX5_note 53 = .ok (.return_, 1) := by decide +kernel
theorem dX5_isOpposed_0 : decode cX5_isOpposed 0 = .ok (.iload_n 1, 1) := by decide +kernel
theorem dX5_isOpposed_1 : decode cX5_isOpposed 1 = .ok (.aload_n 0, 1) := by decide +kernel
theorem dX5_isOpposed_2 : decode cX5_isOpposed 2 = .ok (.getfield 15, 3) := by decide +kernel
theorem dX5_isOpposed_5 : decode cX5_isOpposed 5 = .ok (.iconst 2, 1) := by decide +kernel
theorem dX5_isOpposed_6 : decode cX5_isOpposed 6 = .ok (.idiv, 1) := by decide +kernel
theorem dX5_isOpposed_7 : decode cX5_isOpposed 7 = .ok (.iadd, 1) := by decide +kernel
theorem dX5_isOpposed_8 : decode cX5_isOpposed 8 = .ok (.istore_n 3, 1) := by decide +kernel
theorem dX5_isOpposed_9 : decode cX5_isOpposed 9 = .ok (.iload_n 1, 1) := by decide +kernel
theorem dX5_isOpposed_10 : decode cX5_isOpposed 10 = .ok (.ifCond .lt 11, 3) := by decide +kernel
theorem dX5_isOpposed_13 : decode cX5_isOpposed 13 = .ok (.iload_n 3, 1) := by decide +kernel
theorem dX5_isOpposed_14 : decode cX5_isOpposed 14 = .ok (.iload_n 2, 1) := by decide +kernel
theorem dX5_isOpposed_15 : decode cX5_isOpposed 15 = .ok (.iadd, 1) := by decide +kernel
theorem dX5_isOpposed_16 : decode cX5_isOpposed 16 = .ok (.bipush 52, 2) := by decide +kernel
theorem dX5_isOpposed_18 : decode cX5_isOpposed 18 = .ok (.if_icmp .le 5, 3) := by decide +kernel
theorem dX5_isOpposed_21 : decode cX5_isOpposed 21 = .ok (.iconst 0, 1) := by decide +kernel
theorem dX5_isOpposed_22 : decode cX5_isOpposed 22 = .ok (.ireturn, 1) := by decide +kernel
theorem dX5_isOpposed_23 : decode cX5_isOpposed 23 = .ok (.iconst 0, 1) := by decide +kernel
theorem dX5_isOpposed_24 : decode cX5_isOpposed 24 = .ok (.istore 4, 2) := by decide +kernel
theorem dX5_isOpposed_26 : decode cX5_isOpposed 26 = .ok (.iload 4, 2) := by decide +kernel
theorem dX5_isOpposed_28 : decode cX5_isOpposed 28 = .ok (.iload_n 2, 1) := by decide +kernel
theorem dX5_isOpposed_29 : decode cX5_isOpposed 29 = .ok (.if_icmp .ge 38, 3) := by decide +kernel
theorem dX5_isOpposed_32 : decode cX5_isOpposed 32 = .ok (.aload_n 0, 1) := by decide +kernel
theorem dX5_isOpposed_33 : decode cX5_isOpposed 33 = .ok (.getfield 11, 3) := by decide +kernel
theorem dX5_isOpposed_36 : decode cX5_isOpposed 36 = .ok (.iload_n 3, 1) := by decide +kernel
theorem dX5_isOpposed_37 : decode cX5_isOpposed 37 = .ok (.iload 4, 2) := by decide +kernel
theorem dX5_isOpposed_39 : decode cX5_isOpposed 39 = .ok (.iadd, 1) := by decide +kernel
theorem dX5_isOpposed_40 : decode cX5_isOpposed 40 = .ok (.baload, 1) := by decide +kernel
theorem dX5_isOpposed_41 : decode cX5_isOpposed 41 = .ok (.aload_n 0, 1) := by decide +kernel
theorem dX5_isOpposed_42 : decode cX5_isOpposed 42 = .ok (.getfield 11, 3) := by decide +kernel
theorem dX5_isOpposed_45 : decode cX5_isOpposed 45 = .ok (.iload_n 1, 1) := by decide +kernel
theorem dX5_isOpposed_46 : decode cX5_isOpposed 46 = .ok (.iload_n 2, 1) := by decide +kernel
theorem dX5_isOpposed_47 : decode cX5_isOpposed 47 = .ok (.iadd, 1) := by decide +kernel
theorem dX5_isOpposed_48 : decode cX5_isOpposed 48 = .ok (.iconst 1, 1) := by decide +kernel
theorem dX5_isOpposed_49 : decode cX5_isOpposed 49 = .ok (.isub, 1) := by decide +kernel
theorem dX5_isOpposed_50 : decode cX5_isOpposed 50 = .ok (.iload 4, 2) := by decide +kernel
theorem dX5_isOpposed_52 : decode cX5_isOpposed 52 = .ok (.isub, 1) := by decide +kernel
theorem dX5_isOpposed_53 : decode cX5_isOpposed 53 = .ok (.baload, 1) := by decide +kernel
theorem dX5_isOpposed_54 : decode cX5_isOpposed 54 = .ok (.iconst 2, 1) := by decide +kernel
theorem dX5_isOpposed_55 : decode cX5_isOpposed 55 = .ok (.ixor, 1) := by decide +kernel
theorem dX5_isOpposed_56 : decode cX5_isOpposed 56 = .ok (.if_icmp .eq 5, 3) := by decide +kernel
theorem dX5_isOpposed_59 : decode cX5_isOpposed 59 = .ok (.iconst 0, 1) := by decide +kernel
theorem dX5_isOpposed_60 : decode cX5_isOpposed 60 = .ok (.ireturn, 1) := by decide +kernel
theorem dX5_isOpposed_61 : decode cX5_isOpposed 61 = .ok (.iinc 4 1, 3) := by decide +kernel
theorem dX5_isOpposed_64 : decode cX5_isOpposed 64 = .ok (.goto (-38), 3) := by decide +kernel
theorem dX5_isOpposed_67 : decode cX5_isOpposed 67 = .ok (.iconst 1, 1) := by decide +kernel
theorem dX5_isOpposed_68 : decode cX5_isOpposed 68 = .ok (.ireturn, 1) := by decide +kernel
theorem dX5_cutting_0 : decode cX5_cutting 0 = .ok (.iload_n 1, 1) := by decide +kernel
theorem dX5_cutting_1 : decode cX5_cutting 1 = .ok (.tableswitch 60 0 4 #[35, 40, 45, 50, 55], 35) := by decide +kernel
theorem dX5_cutting_36 : decode cX5_cutting 36 = .ok (.aload_n 0, 1) := by decide +kernel
theorem dX5_cutting_37 : decode cX5_cutting 37 = .ok (.getfield 23, 3) := by decide +kernel
theorem dX5_cutting_40 : decode cX5_cutting 40 = .ok (.ireturn, 1) := by decide +kernel
theorem dX5_cutting_41 : decode cX5_cutting 41 = .ok (.aload_n 0, 1) := by decide +kernel
theorem dX5_cutting_42 : decode cX5_cutting 42 = .ok (.getfield 66, 3) := by decide +kernel
theorem dX5_cutting_45 : decode cX5_cutting 45 = .ok (.ireturn, 1) := by decide +kernel
theorem dX5_cutting_46 : decode cX5_cutting 46 = .ok (.aload_n 0, 1) := by decide +kernel
theorem dX5_cutting_47 : decode cX5_cutting 47 = .ok (.getfield 81, 3) := by decide +kernel
theorem dX5_cutting_50 : decode cX5_cutting 50 = .ok (.ireturn, 1) := by decide +kernel
theorem dX5_cutting_51 : decode cX5_cutting 51 = .ok (.aload_n 0, 1) := by decide +kernel
theorem dX5_cutting_52 : decode cX5_cutting 52 = .ok (.getfield 84, 3) := by decide +kernel
theorem dX5_cutting_55 : decode cX5_cutting 55 = .ok (.ireturn, 1) := by decide +kernel
theorem dX5_cutting_56 : decode cX5_cutting 56 = .ok (.aload_n 0, 1) := by decide +kernel
theorem dX5_cutting_57 : decode cX5_cutting 57 = .ok (.getfield 87, 3) := by decide +kernel
theorem dX5_cutting_60 : decode cX5_cutting 60 = .ok (.ireturn, 1) := by decide +kernel
theorem dX5_cutting_61 : decode cX5_cutting 61 = .ok (.aload_n 0, 1) := by decide +kernel
theorem dX5_cutting_62 : decode cX5_cutting 62 = .ok (.getfield 90, 3) := by decide +kernel
theorem dX5_cutting_65 : decode cX5_cutting 65 = .ok (.ireturn, 1) := by decide +kernel
theorem dX5_findMoves_0 : decode cX5_findMoves 0 = .ok (.aload_n 0, 1) := by decide +kernel
theorem dX5_findMoves_1 : decode cX5_findMoves 1 = .ok (.iconst 0, 1) := by decide +kernel
theorem dX5_findMoves_2 : decode cX5_findMoves 2 = .ok (.putfield 93, 3) := by decide +kernel
theorem dX5_findMoves_5 : decode cX5_findMoves 5 = .ok (.aload_n 0, 1) := by decide +kernel
theorem dX5_findMoves_6 : decode cX5_findMoves 6 = .ok (.iconst 0, 1) := by decide +kernel
theorem dX5_findMoves_7 : decode cX5_findMoves 7 = .ok (.putfield 96, 3) := by decide +kernel
theorem dX5_findMoves_10 : decode cX5_findMoves 10 = .ok (.aload_n 0, 1) := by decide +kernel
theorem dX5_findMoves_11 : decode cX5_findMoves 11 = .ok (.iconst 0, 1) := by decide +kernel
theorem dX5_findMoves_12 : decode cX5_findMoves 12 = .ok (.putfield 99, 3) := by decide +kernel
theorem dX5_findMoves_15 : decode cX5_findMoves 15 = .ok (.aload_n 0, 1) := by decide +kernel
theorem dX5_findMoves_16 : decode cX5_findMoves 16 = .ok (.iconst 0, 1) := by decide +kernel
theorem dX5_findMoves_17 : decode cX5_findMoves 17 = .ok (.putfield 102, 3) := by decide +kernel
theorem dX5_findMoves_20 : decode cX5_findMoves 20 = .ok (.iconst 0, 1) := by decide +kernel
theorem dX5_findMoves_21 : decode cX5_findMoves 21 = .ok (.istore_n 1, 1) := by decide +kernel
theorem dX5_findMoves_22 : decode cX5_findMoves 22 = .ok (.iload_n 1, 1) := by decide +kernel
theorem dX5_findMoves_23 : decode cX5_findMoves 23 = .ok (.aload_n 0, 1) := by decide +kernel
theorem dX5_findMoves_24 : decode cX5_findMoves 24 = .ok (.getfield 84, 3) := by decide +kernel
theorem dX5_findMoves_27 : decode cX5_findMoves 27 = .ok (.aload_n 0, 1) := by decide +kernel
theorem dX5_findMoves_28 : decode cX5_findMoves 28 = .ok (.getfield 87, 3) := by decide +kernel
theorem dX5_findMoves_31 : decode cX5_findMoves 31 = .ok (.iadd, 1) := by decide +kernel
theorem dX5_findMoves_32 : decode cX5_findMoves 32 = .ok (.aload_n 0, 1) := by decide +kernel
theorem dX5_findMoves_33 : decode cX5_findMoves 33 = .ok (.getfield 90, 3) := by decide +kernel
theorem dX5_findMoves_36 : decode cX5_findMoves 36 = .ok (.iadd, 1) := by decide +kernel
theorem dX5_findMoves_37 : decode cX5_findMoves 37 = .ok (.if_icmp .ge 93, 3) := by decide +kernel
theorem dX5_findMoves_40 : decode cX5_findMoves 40 = .ok (.aload_n 0, 1) := by decide +kernel
theorem dX5_findMoves_41 : decode cX5_findMoves 41 = .ok (.aload_n 0, 1) := by decide +kernel
theorem dX5_findMoves_42 : decode cX5_findMoves 42 = .ok (.getfield 81, 3) := by decide +kernel
theorem dX5_findMoves_45 : decode cX5_findMoves 45 = .ok (.iload_n 1, 1) := by decide +kernel
theorem dX5_findMoves_46 : decode cX5_findMoves 46 = .ok (.iadd, 1) := by decide +kernel
theorem dX5_findMoves_47 : decode cX5_findMoves 47 = .ok (.invokevirtual 105, 3) := by decide +kernel
theorem dX5_findMoves_50 : decode cX5_findMoves 50 = .ok (.istore_n 2, 1) := by decide +kernel
theorem dX5_findMoves_51 : decode cX5_findMoves 51 = .ok (.iload_n 1, 1) := by decide +kernel
theorem dX5_findMoves_52 : decode cX5_findMoves 52 = .ok (.aload_n 0, 1) := by decide +kernel
theorem dX5_findMoves_53 : decode cX5_findMoves 53 = .ok (.getfield 84, 3) := by decide +kernel
theorem dX5_findMoves_56 : decode cX5_findMoves 56 = .ok (.aload_n 0, 1) := by decide +kernel
theorem dX5_findMoves_57 : decode cX5_findMoves 57 = .ok (.getfield 87, 3) := by decide +kernel
theorem dX5_findMoves_60 : decode cX5_findMoves 60 = .ok (.iadd, 1) := by decide +kernel
theorem dX5_findMoves_61 : decode cX5_findMoves 61 = .ok (.if_icmp .ge 29, 3) := by decide +kernel
theorem dX5_findMoves_64 : decode cX5_findMoves 64 = .ok (.aload_n 0, 1) := by decide +kernel
theorem dX5_findMoves_65 : decode cX5_findMoves 65 = .ok (.dup, 1) := by decide +kernel
theorem dX5_findMoves_66 : decode cX5_findMoves 66 = .ok (.getfield 93, 3) := by decide +kernel
theorem dX5_findMoves_69 : decode cX5_findMoves 69 = .ok (.iload_n 2, 1) := by decide +kernel
theorem dX5_findMoves_70 : decode cX5_findMoves 70 = .ok (.invokestatic 51, 3) := by decide +kernel
theorem dX5_findMoves_73 : decode cX5_findMoves 73 = .ok (.iadd, 1) := by decide +kernel
theorem dX5_findMoves_74 : decode cX5_findMoves 74 = .ok (.putfield 93, 3) := by decide +kernel
theorem dX5_findMoves_77 : decode cX5_findMoves 77 = .ok (.aload_n 0, 1) := by decide +kernel
theorem dX5_findMoves_78 : decode cX5_findMoves 78 = .ok (.dup, 1) := by decide +kernel
theorem dX5_findMoves_79 : decode cX5_findMoves 79 = .ok (.getfield 96, 3) := by decide +kernel
theorem dX5_findMoves_82 : decode cX5_findMoves 82 = .ok (.iload_n 2, 1) := by decide +kernel
theorem dX5_findMoves_83 : decode cX5_findMoves 83 = .ok (.invokestatic 55, 3) := by decide +kernel
theorem dX5_findMoves_86 : decode cX5_findMoves 86 = .ok (.iadd, 1) := by decide +kernel
theorem dX5_findMoves_87 : decode cX5_findMoves 87 = .ok (.putfield 96, 3) := by decide +kernel
theorem dX5_findMoves_90 : decode cX5_findMoves 90 = .ok (.iload_n 1, 1) := by decide +kernel
theorem dX5_findMoves_91 : decode cX5_findMoves 91 = .ok (.aload_n 0, 1) := by decide +kernel
theorem dX5_findMoves_92 : decode cX5_findMoves 92 = .ok (.getfield 84, 3) := by decide +kernel
theorem dX5_findMoves_95 : decode cX5_findMoves 95 = .ok (.if_icmp .lt 29, 3) := by decide +kernel
theorem dX5_findMoves_98 : decode cX5_findMoves 98 = .ok (.aload_n 0, 1) := by decide +kernel
theorem dX5_findMoves_99 : decode cX5_findMoves 99 = .ok (.dup, 1) := by decide +kernel
theorem dX5_findMoves_100 : decode cX5_findMoves 100 = .ok (.getfield 99, 3) := by decide +kernel
theorem dX5_findMoves_103 : decode cX5_findMoves 103 = .ok (.iload_n 2, 1) := by decide +kernel
theorem dX5_findMoves_104 : decode cX5_findMoves 104 = .ok (.invokestatic 51, 3) := by decide +kernel
theorem dX5_findMoves_107 : decode cX5_findMoves 107 = .ok (.iadd, 1) := by decide +kernel
theorem dX5_findMoves_108 : decode cX5_findMoves 108 = .ok (.putfield 99, 3) := by decide +kernel
theorem dX5_findMoves_111 : decode cX5_findMoves 111 = .ok (.aload_n 0, 1) := by decide +kernel
theorem dX5_findMoves_112 : decode cX5_findMoves 112 = .ok (.dup, 1) := by decide +kernel
theorem dX5_findMoves_113 : decode cX5_findMoves 113 = .ok (.getfield 102, 3) := by decide +kernel
theorem dX5_findMoves_116 : decode cX5_findMoves 116 = .ok (.iload_n 2, 1) := by decide +kernel
theorem dX5_findMoves_117 : decode cX5_findMoves 117 = .ok (.invokestatic 55, 3) := by decide +kernel
theorem dX5_findMoves_120 : decode cX5_findMoves 120 = .ok (.iadd, 1) := by decide +kernel
theorem dX5_findMoves_121 : decode cX5_findMoves 121 = .ok (.putfield 102, 3) := by decide +kernel
theorem dX5_findMoves_124 : decode cX5_findMoves 124 = .ok (.iinc 1 1, 3) := by decide +kernel
theorem dX5_findMoves_127 : decode cX5_findMoves 127 = .ok (.goto (-105), 3) := by decide +kernel
theorem dX5_findMoves_130 : decode cX5_findMoves 130 = .ok (.return_, 1) := by decide +kernel
theorem dX5_move_0 : decode cX5_move 0 = .ok (.iload_n 1, 1) := by decide +kernel
theorem dX5_move_1 : decode cX5_move 1 = .ok (.tableswitch 63 0 3 #[31, 39, 47, 55], 31) := by decide +kernel
theorem dX5_move_32 : decode cX5_move 32 = .ok (.aload_n 0, 1) := by decide +kernel
theorem dX5_move_33 : decode cX5_move 33 = .ok (.getfield 93, 3) := by decide +kernel
theorem dX5_move_36 : decode cX5_move 36 = .ok (.bipush 10, 2) := by decide +kernel
theorem dX5_move_38 : decode cX5_move 38 = .ok (.iadd, 1) := by decide +kernel
theorem dX5_move_39 : decode cX5_move 39 = .ok (.ireturn, 1) := by decide +kernel
theorem dX5_move_40 : decode cX5_move 40 = .ok (.aload_n 0, 1) := by decide +kernel
theorem dX5_move_41 : decode cX5_move 41 = .ok (.getfield 96, 3) := by decide +kernel
theorem dX5_move_44 : decode cX5_move 44 = .ok (.bipush 10, 2) := by decide +kernel
theorem dX5_move_46 : decode cX5_move 46 = .ok (.iadd, 1) := by decide +kernel
theorem dX5_move_47 : decode cX5_move 47 = .ok (.ireturn, 1) := by decide +kernel
theorem dX5_move_48 : decode cX5_move 48 = .ok (.aload_n 0, 1) := by decide +kernel
theorem dX5_move_49 : decode cX5_move 49 = .ok (.getfield 99, 3) := by decide +kernel
theorem dX5_move_52 : decode cX5_move 52 = .ok (.bipush 10, 2) := by decide +kernel
theorem dX5_move_54 : decode cX5_move 54 = .ok (.iadd, 1) := by decide +kernel
theorem dX5_move_55 : decode cX5_move 55 = .ok (.ireturn, 1) := by decide +kernel
theorem dX5_move_56 : decode cX5_move 56 = .ok (.aload_n 0, 1) := by decide +kernel
theorem dX5_move_57 : decode cX5_move 57 = .ok (.getfield 102, 3) := by decide +kernel
theorem dX5_move_60 : decode cX5_move 60 = .ok (.bipush 10, 2) := by decide +kernel
theorem dX5_move_62 : decode cX5_move 62 = .ok (.iadd, 1) := by decide +kernel
theorem dX5_move_63 : decode cX5_move 63 = .ok (.ireturn, 1) := by decide +kernel
theorem dX5_move_64 : decode cX5_move 64 = .ok (.aload_n 0, 1) := by decide +kernel
theorem dX5_move_65 : decode cX5_move 65 = .ok (.getfield 93, 3) := by decide +kernel
theorem dX5_move_68 : decode cX5_move 68 = .ok (.aload_n 0, 1) := by decide +kernel
theorem dX5_move_69 : decode cX5_move 69 = .ok (.getfield 96, 3) := by decide +kernel
theorem dX5_move_72 : decode cX5_move 72 = .ok (.aload_n 0, 1) := by decide +kernel
theorem dX5_move_73 : decode cX5_move 73 = .ok (.getfield 99, 3) := by decide +kernel
theorem dX5_move_76 : decode cX5_move 76 = .ok (.aload_n 0, 1) := by decide +kernel
theorem dX5_move_77 : decode cX5_move 77 = .ok (.getfield 102, 3) := by decide +kernel
theorem dX5_move_80 : decode cX5_move 80 = .ok (.invokestatic 108, 3) := by decide +kernel
theorem dX5_move_83 : decode cX5_move 83 = .ok (.invokestatic 112, 3) := by decide +kernel
theorem dX5_move_86 : decode cX5_move 86 = .ok (.ireturn, 1) := by decide +kernel
theorem dX5_crossed_0 : decode cX5_crossed 0 = .ok (.iload_n 0, 1) := by decide +kernel
theorem dX5_crossed_1 : decode cX5_crossed 1 = .ok (.iload_n 3, 1) := by decide +kernel
theorem dX5_crossed_2 : decode cX5_crossed 2 = .ok (.imul, 1) := by decide +kernel
theorem dX5_crossed_3 : decode cX5_crossed 3 = .ok (.iload_n 1, 1) := by decide +kernel
theorem dX5_crossed_4 : decode cX5_crossed 4 = .ok (.iload_n 2, 1) := by decide +kernel
theorem dX5_crossed_5 : decode cX5_crossed 5 = .ok (.imul, 1) := by decide +kernel
theorem dX5_crossed_6 : decode cX5_crossed 6 = .ok (.isub, 1) := by decide +kernel
theorem dX5_crossed_7 : decode cX5_crossed 7 = .ok (.ireturn, 1) := by decide +kernel
theorem dX5_copyAt_0 : decode cX5_copyAt 0 = .ok (.aload_n 0, 1) := by decide +kernel
theorem dX5_copyAt_1 : decode cX5_copyAt 1 = .ok (.getfield 93, 3) := by decide +kernel
theorem dX5_copyAt_4 : decode cX5_copyAt 4 = .ok (.aload_n 0, 1) := by decide +kernel
theorem dX5_copyAt_5 : decode cX5_copyAt 5 = .ok (.getfield 96, 3) := by decide +kernel
theorem dX5_copyAt_8 : decode cX5_copyAt 8 = .ok (.aload_n 0, 1) := by decide +kernel
theorem dX5_copyAt_9 : decode cX5_copyAt 9 = .ok (.getfield 99, 3) := by decide +kernel
theorem dX5_copyAt_12 : decode cX5_copyAt 12 = .ok (.aload_n 0, 1) := by decide +kernel
theorem dX5_copyAt_13 : decode cX5_copyAt 13 = .ok (.getfield 102, 3) := by decide +kernel
theorem dX5_copyAt_16 : decode cX5_copyAt 16 = .ok (.invokestatic 108, 3) := by decide +kernel
theorem dX5_copyAt_19 : decode cX5_copyAt 19 = .ok (.istore 6, 2) := by decide +kernel
theorem dX5_copyAt_21 : decode cX5_copyAt 21 = .ok (.iload 6, 2) := by decide +kernel
theorem dX5_copyAt_23 : decode cX5_copyAt 23 = .ok (.ifCond .ne 6, 3) := by decide +kernel
theorem dX5_copyAt_26 : decode cX5_copyAt 26 = .ok (.bipush (-4), 2) := by decide +kernel
theorem dX5_copyAt_28 : decode cX5_copyAt 28 = .ok (.ireturn, 1) := by decide +kernel
theorem dX5_copyAt_29 : decode cX5_copyAt 29 = .ok (.lload_n 1, 1) := by decide +kernel
theorem dX5_copyAt_30 : decode cX5_copyAt 30 = .ok (.lstore 7, 2) := by decide +kernel
theorem dX5_copyAt_32 : decode cX5_copyAt 32 = .ok (.lload_n 1, 1) := by decide +kernel
theorem dX5_copyAt_33 : decode cX5_copyAt 33 = .ok (.invokestatic 117, 3) := by decide +kernel
theorem dX5_copyAt_36 : decode cX5_copyAt 36 = .ok (.istore 9, 2) := by decide +kernel
theorem dX5_copyAt_38 : decode cX5_copyAt 38 = .ok (.iconst 0, 1) := by decide +kernel
theorem dX5_copyAt_39 : decode cX5_copyAt 39 = .ok (.istore 10, 2) := by decide +kernel
theorem dX5_copyAt_41 : decode cX5_copyAt 41 = .ok (.iload 10, 2) := by decide +kernel
theorem dX5_copyAt_43 : decode cX5_copyAt 43 = .ok (.iload 9, 2) := by decide +kernel
theorem dX5_copyAt_45 : decode cX5_copyAt 45 = .ok (.if_icmp .ge 123, 3) := by decide +kernel
theorem dX5_copyAt_48 : decode cX5_copyAt 48 = .ok (.lload 7, 2) := by decide +kernel
theorem dX5_copyAt_50 : decode cX5_copyAt 50 = .ok (.invokestatic 46, 3) := by decide +kernel
theorem dX5_copyAt_53 : decode cX5_copyAt 53 = .ok (.istore 11, 2) := by decide +kernel
theorem dX5_copyAt_55 : decode cX5_copyAt 55 = .ok (.lload 7, 2) := by decide +kernel
theorem dX5_copyAt_57 : decode cX5_copyAt 57 = .ok (.lload 7, 2) := by decide +kernel
theorem dX5_copyAt_59 : decode cX5_copyAt 59 = .ok (.lconst 1, 1) := by decide +kernel
theorem dX5_copyAt_60 : decode cX5_copyAt 60 = .ok (.lsub, 1) := by decide +kernel
theorem dX5_copyAt_61 : decode cX5_copyAt 61 = .ok (.land, 1) := by decide +kernel
theorem dX5_copyAt_62 : decode cX5_copyAt 62 = .ok (.lstore 7, 2) := by decide +kernel
theorem dX5_copyAt_64 : decode cX5_copyAt 64 = .ok (.iload_n 3, 1) := by decide +kernel
theorem dX5_copyAt_65 : decode cX5_copyAt 65 = .ok (.iload 11, 2) := by decide +kernel
theorem dX5_copyAt_67 : decode cX5_copyAt 67 = .ok (.bipush 7, 2) := by decide +kernel
theorem dX5_copyAt_69 : decode cX5_copyAt 69 = .ok (.iand, 1) := by decide +kernel
theorem dX5_copyAt_70 : decode cX5_copyAt 70 = .ok (.isub, 1) := by decide +kernel
theorem dX5_copyAt_71 : decode cX5_copyAt 71 = .ok (.istore 12, 2) := by decide +kernel
theorem dX5_copyAt_73 : decode cX5_copyAt 73 = .ok (.iload 4, 2) := by decide +kernel
theorem dX5_copyAt_75 : decode cX5_copyAt 75 = .ok (.iload 11, 2) := by decide +kernel
theorem dX5_copyAt_77 : decode cX5_copyAt 77 = .ok (.iconst 3, 1) := by decide +kernel
theorem dX5_copyAt_78 : decode cX5_copyAt 78 = .ok (.ishr, 1) := by decide +kernel
theorem dX5_copyAt_79 : decode cX5_copyAt 79 = .ok (.isub, 1) := by decide +kernel
theorem dX5_copyAt_80 : decode cX5_copyAt 80 = .ok (.istore 13, 2) := by decide +kernel
theorem dX5_copyAt_82 : decode cX5_copyAt 82 = .ok (.iload 12, 2) := by decide +kernel
theorem dX5_copyAt_84 : decode cX5_copyAt 84 = .ok (.iload 13, 2) := by decide +kernel
theorem dX5_copyAt_86 : decode cX5_copyAt 86 = .ok (.aload_n 0, 1) := by decide +kernel
theorem dX5_copyAt_87 : decode cX5_copyAt 87 = .ok (.getfield 99, 3) := by decide +kernel
theorem dX5_copyAt_90 : decode cX5_copyAt 90 = .ok (.aload_n 0, 1) := by decide +kernel
theorem dX5_copyAt_91 : decode cX5_copyAt 91 = .ok (.getfield 102, 3) := by decide +kernel
theorem dX5_copyAt_94 : decode cX5_copyAt 94 = .ok (.invokestatic 108, 3) := by decide +kernel
theorem dX5_copyAt_97 : decode cX5_copyAt 97 = .ok (.istore 14, 2) := by decide +kernel
theorem dX5_copyAt_99 : decode cX5_copyAt 99 = .ok (.aload_n 0, 1) := by decide +kernel
theorem dX5_copyAt_100 : decode cX5_copyAt 100 = .ok (.getfield 93, 3) := by decide +kernel
theorem dX5_copyAt_103 : decode cX5_copyAt 103 = .ok (.aload_n 0, 1) := by decide +kernel
theorem dX5_copyAt_104 : decode cX5_copyAt 104 = .ok (.getfield 96, 3) := by decide +kernel
theorem dX5_copyAt_107 : decode cX5_copyAt 107 = .ok (.iload 12, 2) := by decide +kernel
theorem dX5_copyAt_109 : decode cX5_copyAt 109 = .ok (.iload 13, 2) := by decide +kernel
theorem dX5_copyAt_111 : decode cX5_copyAt 111 = .ok (.invokestatic 108, 3) := by decide +kernel
theorem dX5_copyAt_114 : decode cX5_copyAt 114 = .ok (.istore 15, 2) := by decide +kernel
theorem dX5_copyAt_116 : decode cX5_copyAt 116 = .ok (.iload 14, 2) := by decide +kernel
theorem dX5_copyAt_118 : decode cX5_copyAt 118 = .ok (.iload 6, 2) := by decide +kernel
theorem dX5_copyAt_120 : decode cX5_copyAt 120 = .ok (.irem, 1) := by decide +kernel
theorem dX5_copyAt_121 : decode cX5_copyAt 121 = .ok (.ifCond .ne 41, 3) := by decide +kernel
theorem dX5_copyAt_124 : decode cX5_copyAt 124 = .ok (.iload 15, 2) := by decide +kernel
theorem dX5_copyAt_126 : decode cX5_copyAt 126 = .ok (.iload 6, 2) := by decide +kernel
theorem dX5_copyAt_128 : decode cX5_copyAt 128 = .ok (.irem, 1) := by decide +kernel
theorem dX5_copyAt_129 : decode cX5_copyAt 129 = .ok (.ifCond .ne 33, 3) := by decide +kernel
theorem dX5_copyAt_132 : decode cX5_copyAt 132 = .ok (.iload 5, 2) := by decide +kernel
theorem dX5_copyAt_134 : decode cX5_copyAt 134 = .ok (.iconst 2, 1) := by decide +kernel
theorem dX5_copyAt_135 : decode cX5_copyAt 135 = .ok (.if_icmp .ne 8, 3) := by decide +kernel
theorem dX5_copyAt_138 : decode cX5_copyAt 138 = .ok (.iload 11, 2) := by decide +kernel
theorem dX5_copyAt_140 : decode cX5_copyAt 140 = .ok (.goto 21, 3) := by decide +kernel
theorem dX5_copyAt_143 : decode cX5_copyAt 143 = .ok (.bipush 100, 2) := by decide +kernel
theorem dX5_copyAt_145 : decode cX5_copyAt 145 = .ok (.iload 5, 2) := by decide +kernel
theorem dX5_copyAt_147 : decode cX5_copyAt 147 = .ok (.ifCond .ne 8, 3) := by decide +kernel
theorem dX5_copyAt_150 : decode cX5_copyAt 150 = .ok (.iload 14, 2) := by decide +kernel
theorem dX5_copyAt_152 : decode cX5_copyAt 152 = .ok (.goto 5, 3) := by decide +kernel
theorem dX5_copyAt_155 : decode cX5_copyAt 155 = .ok (.iload 15, 2) := by decide +kernel
theorem dX5_copyAt_157 : decode cX5_copyAt 157 = .ok (.iload 6, 2) := by decide +kernel
theorem dX5_copyAt_159 : decode cX5_copyAt 159 = .ok (.idiv, 1) := by decide +kernel
theorem dX5_copyAt_160 : decode cX5_copyAt 160 = .ok (.iadd, 1) := by decide +kernel
theorem dX5_copyAt_161 : decode cX5_copyAt 161 = .ok (.ireturn, 1) := by decide +kernel
theorem dX5_copyAt_162 : decode cX5_copyAt 162 = .ok (.iinc 10 1, 3) := by decide +kernel
theorem dX5_copyAt_165 : decode cX5_copyAt 165 = .ok (.goto (-124), 3) := by decide +kernel
theorem dX5_copyAt_168 : decode cX5_copyAt 168 = .ok (.bipush (-4), 2) := by decide +kernel
theorem dX5_copyAt_170 : decode cX5_copyAt 170 = .ok (.ireturn, 1) := by decide +kernel
theorem dX6_init_0 : decode cX6_init 0 = .ok (.aload_n 0, 1) := by decide +kernel
theorem dX6_init_1 : decode cX6_init 1 = .ok (.invokespecial 3, 3) := by decide +kernel
theorem dX6_init_4 : decode cX6_init 4 = .ok (.aload_n 0, 1) := by decide +kernel
theorem dX6_init_5 : decode cX6_init 5 = .ok (.bipush 12, 2) := by decide +kernel
theorem dX6_init_7 : decode cX6_init 7 = .ok (.newarray .long, 2) := by decide +kernel
theorem dX6_init_9 : decode cX6_init 9 = .ok (.putfield 9, 3) := by decide +kernel
theorem dX6_init_12 : decode cX6_init 12 = .ok (.aload_n 0, 1) := by decide +kernel
theorem dX6_init_13 : decode cX6_init 13 = .ok (.bipush 12, 2) := by decide +kernel
theorem dX6_init_15 : decode cX6_init 15 = .ok (.newarray .int, 2) := by decide +kernel
theorem dX6_init_17 : decode cX6_init 17 = .ok (.putfield 15, 3) := by decide +kernel
theorem dX6_init_20 : decode cX6_init 20 = .ok (.aload_n 0, 1) := by decide +kernel
theorem dX6_init_21 : decode cX6_init 21 = .ok (.sipush 4096, 3) := by decide +kernel
theorem dX6_init_24 : decode cX6_init 24 = .ok (.newarray .int, 2) := by decide +kernel
theorem dX6_init_26 : decode cX6_init 26 = .ok (.putfield 19, 3) := by decide +kernel
theorem dX6_init_29 : decode cX6_init 29 = .ok (.aload_n 0, 1) := by decide +kernel
theorem dX6_init_30 : decode cX6_init 30 = .ok (.bipush 121, 2) := by decide +kernel
theorem dX6_init_32 : decode cX6_init 32 = .ok (.newarray .long, 2) := by decide +kernel
theorem dX6_init_34 : decode cX6_init 34 = .ok (.putfield 22, 3) := by decide +kernel
theorem dX6_init_37 : decode cX6_init 37 = .ok (.return_, 1) := by decide +kernel
theorem dX6_of_0 : decode cX6_of 0 = .ok (.aload_n 0, 1) := by decide +kernel
theorem dX6_of_1 : decode cX6_of 1 = .ok (.lload_n 1, 1) := by decide +kernel
theorem dX6_of_2 : decode cX6_of 2 = .ok (.invokevirtual 25, 3) := by decide +kernel
theorem dX6_of_5 : decode cX6_of 5 = .ok (.iload_n 3, 1) := by decide +kernel
theorem dX6_of_6 : decode cX6_of 6 = .ok (.tableswitch 84 0 6 #[42, 47, 52, 59, 66, 73, 79], 42) := by decide +kernel
theorem dX6_of_48 : decode cX6_of 48 = .ok (.aload_n 0, 1) := by decide +kernel
theorem dX6_of_49 : decode cX6_of 49 = .ok (.invokevirtual 29, 3) := by decide +kernel
theorem dX6_of_52 : decode cX6_of 52 = .ok (.lreturn, 1) := by decide +kernel
theorem dX6_of_53 : decode cX6_of 53 = .ok (.aload_n 0, 1) := by decide +kernel
theorem dX6_of_54 : decode cX6_of 54 = .ok (.invokevirtual 33, 3) := by decide +kernel
theorem dX6_of_57 : decode cX6_of 57 = .ok (.lreturn, 1) := by decide +kernel
theorem dX6_of_58 : decode cX6_of 58 = .ok (.aload_n 0, 1) := by decide +kernel
theorem dX6_of_59 : decode cX6_of 59 = .ok (.lload_n 1, 1) := by decide +kernel
theorem dX6_of_60 : decode cX6_of 60 = .ok (.iconst 0, 1) := by decide +kernel
theorem dX6_of_61 : decode cX6_of 61 = .ok (.invokevirtual 36, 3) := by decide +kernel
theorem dX6_of_64 : decode cX6_of 64 = .ok (.lreturn, 1) := by decide +kernel
theorem dX6_of_65 : decode cX6_of 65 = .ok (.aload_n 0, 1) := by decide +kernel
theorem dX6_of_66 : decode cX6_of 66 = .ok (.lload_n 1, 1) := by decide +kernel
theorem dX6_of_67 : decode cX6_of 67 = .ok (.iconst 1, 1) := by decide +kernel
theorem dX6_of_68 : decode cX6_of 68 = .ok (.invokevirtual 36, 3) := by decide +kernel
theorem dX6_of_71 : decode cX6_of 71 = .ok (.lreturn, 1) := by decide +kernel
theorem dX6_of_72 : decode cX6_of 72 = .ok (.aload_n 0, 1) := by decide +kernel
theorem dX6_of_73 : decode cX6_of 73 = .ok (.lload_n 1, 1) := by decide +kernel
theorem dX6_of_74 : decode cX6_of 74 = .ok (.iconst 2, 1) := by decide +kernel
theorem dX6_of_75 : decode cX6_of 75 = .ok (.invokevirtual 36, 3) := by decide +kernel
theorem dX6_of_78 : decode cX6_of 78 = .ok (.lreturn, 1) := by decide +kernel
theorem dX6_of_79 : decode cX6_of 79 = .ok (.aload_n 0, 1) := by decide +kernel
theorem dX6_of_80 : decode cX6_of 80 = .ok (.lload_n 1, 1) := by decide +kernel
theorem dX6_of_81 : decode cX6_of 81 = .ok (.invokevirtual 40, 3) := by decide +kernel
theorem dX6_of_84 : decode cX6_of 84 = .ok (.lreturn, 1) := by decide +kernel
theorem dX6_of_85 : decode cX6_of 85 = .ok (.aload_n 0, 1) := by decide +kernel
theorem dX6_of_86 : decode cX6_of 86 = .ok (.invokevirtual 44, 3) := by decide +kernel
theorem dX6_of_89 : decode cX6_of 89 = .ok (.lreturn, 1) := by decide +kernel
theorem dX6_of_90 : decode cX6_of 90 = .ok (.lload_n 1, 1) := by decide +kernel
theorem dX6_of_91 : decode cX6_of 91 = .ok (.ldc2_w 47, 3) := by decide +kernel
theorem dX6_of_94 : decode cX6_of 94 = .ok (.land, 1) := by decide +kernel
theorem dX6_of_95 : decode cX6_of 95 = .ok (.invokestatic 49, 3) := by decide +kernel
theorem dX6_of_98 : decode cX6_of 98 = .ok (.lload_n 1, 1) := by decide +kernel
theorem dX6_of_99 : decode cX6_of 99 = .ok (.ldc2_w 55, 3) := by decide +kernel
theorem dX6_of_102 : decode cX6_of 102 = .ok (.land, 1) := by decide +kernel
theorem dX6_of_103 : decode cX6_of 103 = .ok (.invokestatic 49, 3) := by decide +kernel
theorem dX6_of_106 : decode cX6_of 106 = .ok (.isub, 1) := by decide +kernel
theorem dX6_of_107 : decode cX6_of 107 = .ok (.invokestatic 57, 3) := by decide +kernel
theorem dX6_of_110 : decode cX6_of 110 = .ok (.i2l, 1) := by decide +kernel
theorem dX6_of_111 : decode cX6_of 111 = .ok (.lreturn, 1) := by decide +kernel
theorem dX6_index_0 : decode cX6_index 0 = .ok (.aload_n 0, 1) := by decide +kernel
theorem dX6_index_1 : decode cX6_index 1 = .ok (.lload_n 1, 1) := by decide +kernel
theorem dX6_index_2 : decode cX6_index 2 = .ok (.invokestatic 49, 3) := by decide +kernel
theorem dX6_index_5 : decode cX6_index 5 = .ok (.bipush 12, 2) := by decide +kernel
theorem dX6_index_7 : decode cX6_index 7 = .ok (.invokestatic 63, 3) := by decide +kernel
theorem dX6_index_10 : decode cX6_index 10 = .ok (.putfield 67, 3) := by decide +kernel
theorem dX6_index_13 : decode cX6_index 13 = .ok (.lload_n 1, 1) := by decide +kernel
theorem dX6_index_14 : decode cX6_index 14 = .ok (.lstore_n 3, 1) := by decide +kernel
theorem dX6_index_15 : decode cX6_index 15 = .ok (.iconst 0, 1) := by decide +kernel
theorem dX6_index_16 : decode cX6_index 16 = .ok (.istore 5, 2) := by decide +kernel
theorem dX6_index_18 : decode cX6_index 18 = .ok (.iload 5, 2) := by decide +kernel
theorem dX6_index_20 : decode cX6_index 20 = .ok (.aload_n 0, 1) := by decide +kernel
theorem dX6_index_21 : decode cX6_index 21 = .ok (.getfield 67, 3) := by decide +kernel
theorem dX6_index_24 : decode cX6_index 24 = .ok (.if_icmp .ge 30, 3) := by decide +kernel
theorem dX6_index_27 : decode cX6_index 27 = .ok (.aload_n 0, 1) := by decide +kernel
theorem dX6_index_28 : decode cX6_index 28 = .ok (.getfield 9, 3) := by decide +kernel
theorem dX6_index_31 : decode cX6_index 31 = .ok (.iload 5, 2) := by decide +kernel
theorem dX6_index_33 : decode cX6_index 33 = .ok (.lload_n 3, 1) := by decide +kernel
theorem dX6_index_34 : decode cX6_index 34 = .ok (.lload_n 3, 1) := by decide +kernel
theorem dX6_index_35 : decode cX6_index 35 = .ok (.lneg, 1) := by decide +kernel
theorem dX6_index_36 : decode cX6_index 36 = .ok (.land, 1) := by decide +kernel
theorem dX6_index_37 : decode cX6_index 37 = .ok (.lastore, 1) := by decide +kernel
theorem dX6_index_38 : decode cX6_index 38 = .ok (.lload_n 3, 1) := by decide +kernel
theorem dX6_index_39 : decode cX6_index 39 = .ok (.aload_n 0, 1) := by decide +kernel
theorem dX6_index_40 : decode cX6_index 40 = .ok (.getfield 9, 3) := by decide +kernel
theorem dX6_index_43 : decode cX6_index 43 = .ok (.iload 5, 2) := by decide +kernel
theorem dX6_index_45 : decode cX6_index 45 = .ok (.laload, 1) := by decide +kernel
theorem dX6_index_46 : decode cX6_index 46 = .ok (.lxor, 1) := by decide +kernel
theorem dX6_index_47 : decode cX6_index 47 = .ok (.lstore_n 3, 1) := by decide +kernel
theorem dX6_index_48 : decode cX6_index 48 = .ok (.iinc 5 1, 3) := by decide +kernel
theorem dX6_index_51 : decode cX6_index 51 = .ok (.goto (-33), 3) := by decide +kernel
theorem dX6_index_54 : decode cX6_index 54 = .ok (.iconst 0, 1) := by decide +kernel
theorem dX6_index_55 : decode cX6_index 55 = .ok (.istore 5, 2) := by decide +kernel
theorem dX6_index_57 : decode cX6_index 57 = .ok (.iload 5, 2) := by decide +kernel
theorem dX6_index_59 : decode cX6_index 59 = .ok (.aload_n 0, 1) := by decide +kernel
theorem dX6_index_60 : decode cX6_index 60 = .ok (.getfield 67, 3) := by decide +kernel
theorem dX6_index_63 : decode cX6_index 63 = .ok (.if_icmp .ge 72, 3) := by decide +kernel
theorem dX6_index_66 : decode cX6_index 66 = .ok (.aload_n 0, 1) := by decide +kernel
theorem dX6_index_67 : decode cX6_index 67 = .ok (.getfield 15, 3) := by decide +kernel
theorem dX6_index_70 : decode cX6_index 70 = .ok (.iload 5, 2) := by decide +kernel
theorem dX6_index_72 : decode cX6_index 72 = .ok (.iconst 0, 1) := by decide +kernel
theorem dX6_index_73 : decode cX6_index 73 = .ok (.iastore, 1) := by decide +kernel
theorem dX6_index_74 : decode cX6_index 74 = .ok (.iconst 0, 1) := by decide +kernel
theorem dX6_index_75 : decode cX6_index 75 = .ok (.istore 6, 2) := by decide +kernel
theorem dX6_index_77 : decode cX6_index 77 = .ok (.iload 6, 2) := by decide +kernel
theorem dX6_index_79 : decode cX6_index 79 = .ok (.aload_n 0, 1) := by decide +kernel
theorem dX6_index_80 : decode cX6_index 80 = .ok (.getfield 67, 3) := by decide +kernel
theorem dX6_index_83 : decode cX6_index 83 = .ok (.if_icmp .ge 46, 3) := by decide +kernel
theorem dX6_index_86 : decode cX6_index 86 = .ok (.aload_n 0, 1) := by decide +kernel
theorem dX6_index_87 : decode cX6_index 87 = .ok (.getfield 9, 3) := by decide +kernel
theorem dX6_index_90 : decode cX6_index 90 = .ok (.iload 5, 2) := by decide +kernel
theorem dX6_index_92 : decode cX6_index 92 = .ok (.laload, 1) := by decide +kernel
theorem dX6_index_93 : decode cX6_index 93 = .ok (.invokestatic 71, 3) := by decide +kernel
theorem dX6_index_96 : decode cX6_index 96 = .ok (.aload_n 0, 1) := by decide +kernel
theorem dX6_index_97 : decode cX6_index 97 = .ok (.getfield 9, 3) := by decide +kernel
theorem dX6_index_100 : decode cX6_index 100 = .ok (.iload 6, 2) := by decide +kernel
theorem dX6_index_102 : decode cX6_index 102 = .ok (.laload, 1) := by decide +kernel
theorem dX6_index_103 : decode cX6_index 103 = .ok (.land, 1) := by decide +kernel
theorem dX6_index_104 : decode cX6_index 104 = .ok (.lconst 0, 1) := by decide +kernel
theorem dX6_index_105 : decode cX6_index 105 = .ok (.lcmp, 1) := by decide +kernel
theorem dX6_index_106 : decode cX6_index 106 = .ok (.ifCond .eq 17, 3) := by decide +kernel
theorem dX6_index_109 : decode cX6_index 109 = .ok (.aload_n 0, 1) := by decide +kernel
theorem dX6_index_110 : decode cX6_index 110 = .ok (.getfield 15, 3) := by decide +kernel
theorem dX6_index_113 : decode cX6_index 113 = .ok (.iload 5, 2) := by decide +kernel
theorem dX6_index_115 : decode cX6_index 115 = .ok (.dup2, 1) := by decide +kernel
theorem dX6_index_116 : decode cX6_index 116 = .ok (.iaload, 1) := by decide +kernel
theorem dX6_index_117 : decode cX6_index 117 = .ok (.iconst 1, 1) := by decide +kernel
theorem dX6_index_118 : decode cX6_index 118 = .ok (.iload 6, 2) := by decide +kernel
theorem dX6_index_120 : decode cX6_index 120 = .ok (.ishl, 1) := by decide +kernel
theorem dX6_index_121 : decode cX6_index 121 = .ok (.ior, 1) := by decide +kernel
theorem dX6_index_122 : decode cX6_index 122 = .ok (.iastore, 1) := by decide +kernel
theorem dX6_index_123 : decode cX6_index 123 = .ok (.iinc 6 1, 3) := by decide +kernel
theorem dX6_index_126 : decode cX6_index 126 = .ok (.goto (-49), 3) := by decide +kernel
theorem dX6_index_129 : decode cX6_index 129 = .ok (.iinc 5 1, 3) := by decide +kernel
theorem dX6_index_132 : decode cX6_index 132 = .ok (.goto (-75), 3) := by decide +kernel
theorem dX6_index_135 : decode cX6_index 135 = .ok (.return_, 1) := by decide +kernel
theorem dX6_orders_0 : decode cX6_orders 0 = .ok (.iconst 1, 1) := by decide +kernel
theorem dX6_orders_1 : decode cX6_orders 1 = .ok (.aload_n 0, 1) := by decide +kernel
theorem dX6_orders_2 : decode cX6_orders 2 = .ok (.getfield 67, 3) := by decide +kernel
theorem dX6_orders_5 : decode cX6_orders 5 = .ok (.ishl, 1) := by decide +kernel
theorem dX6_orders_6 : decode cX6_orders 6 = .ok (.istore_n 1, 1) := by decide +kernel
theorem dX6_orders_7 : decode cX6_orders 7 = .ok (.iconst 0, 1) := by decide +kernel
theorem dX6_orders_8 : decode cX6_orders 8 = .ok (.istore_n 2, 1) := by decide +kernel
theorem dX6_orders_9 : decode cX6_orders 9 = .ok (.iload_n 2, 1) := by decide +kernel
theorem dX6_orders_10 : decode cX6_orders 10 = .ok (.iload_n 1, 1) := by decide +kernel
theorem dX6_orders_11 : decode cX6_orders 11 = .ok (.if_icmp .ge 28, 3) := by decide +kernel
theorem dX6_orders_14 : decode cX6_orders 14 = .ok (.aload_n 0, 1) := by decide +kernel
theorem dX6_orders_15 : decode cX6_orders 15 = .ok (.getfield 19, 3) := by decide +kernel
theorem dX6_orders_18 : decode cX6_orders 18 = .ok (.iload_n 2, 1) := by decide +kernel
theorem dX6_orders_19 : decode cX6_orders 19 = .ok (.iload_n 2, 1) := by decide +kernel
theorem dX6_orders_20 : decode cX6_orders 20 = .ok (.invokestatic 76, 3) := by decide +kernel
theorem dX6_orders_23 : decode cX6_orders 23 = .ok (.iconst 1, 1) := by decide +kernel
theorem dX6_orders_24 : decode cX6_orders 24 = .ok (.if_icmp .ne 7, 3) := by decide +kernel
theorem dX6_orders_27 : decode cX6_orders 27 = .ok (.iconst 1, 1) := by decide +kernel
theorem dX6_orders_28 : decode cX6_orders 28 = .ok (.goto 4, 3) := by decide +kernel
theorem dX6_orders_31 : decode cX6_orders 31 = .ok (.iconst 0, 1) := by decide +kernel
theorem dX6_orders_32 : decode cX6_orders 32 = .ok (.iastore, 1) := by decide +kernel
theorem dX6_orders_33 : decode cX6_orders 33 = .ok (.iinc 2 1, 3) := by decide +kernel
theorem dX6_orders_36 : decode cX6_orders 36 = .ok (.goto (-27), 3) := by decide +kernel
theorem dX6_orders_39 : decode cX6_orders 39 = .ok (.iconst 1, 1) := by decide +kernel
theorem dX6_orders_40 : decode cX6_orders 40 = .ok (.istore_n 2, 1) := by decide +kernel
theorem dX6_orders_41 : decode cX6_orders 41 = .ok (.iload_n 2, 1) := by decide +kernel
theorem dX6_orders_42 : decode cX6_orders 42 = .ok (.iload_n 1, 1) := by decide +kernel
theorem dX6_orders_43 : decode cX6_orders 43 = .ok (.if_icmp .ge 74, 3) := by decide +kernel
theorem dX6_orders_46 : decode cX6_orders 46 = .ok (.iconst 0, 1) := by decide +kernel
theorem dX6_orders_47 : decode cX6_orders 47 = .ok (.istore_n 3, 1) := by decide +kernel
theorem dX6_orders_48 : decode cX6_orders 48 = .ok (.iload_n 3, 1) := by decide +kernel
theorem dX6_orders_49 : decode cX6_orders 49 = .ok (.aload_n 0, 1) := by decide +kernel
theorem dX6_orders_50 : decode cX6_orders 50 = .ok (.getfield 67, 3) := by decide +kernel
theorem dX6_orders_53 : decode cX6_orders 53 = .ok (.if_icmp .ge 58, 3) := by decide +kernel
theorem dX6_orders_56 : decode cX6_orders 56 = .ok (.aload_n 0, 1) := by decide +kernel
theorem dX6_orders_57 : decode cX6_orders 57 = .ok (.getfield 19, 3) := by decide +kernel
theorem dX6_orders_60 : decode cX6_orders 60 = .ok (.iload_n 2, 1) := by decide +kernel
theorem dX6_orders_61 : decode cX6_orders 61 = .ok (.iaload, 1) := by decide +kernel
theorem dX6_orders_62 : decode cX6_orders 62 = .ok (.ifCond .eq 49, 3) := by decide +kernel
theorem dX6_orders_65 : decode cX6_orders 65 = .ok (.iload_n 2, 1) := by decide +kernel
theorem dX6_orders_66 : decode cX6_orders 66 = .ok (.iconst 1, 1) := by decide +kernel
theorem dX6_orders_67 : decode cX6_orders 67 = .ok (.iload_n 3, 1) := by decide +kernel
theorem dX6_orders_68 : decode cX6_orders 68 = .ok (.ishl, 1) := by decide +kernel
theorem dX6_orders_69 : decode cX6_orders 69 = .ok (.ior, 1) := by decide +kernel
theorem dX6_orders_70 : decode cX6_orders 70 = .ok (.istore 4, 2) := by decide +kernel
theorem dX6_orders_72 : decode cX6_orders 72 = .ok (.iload 4, 2) := by decide +kernel
theorem dX6_orders_74 : decode cX6_orders 74 = .ok (.iload_n 2, 1) := by decide +kernel
theorem dX6_orders_75 : decode cX6_orders 75 = .ok (.if_icmp .eq 30, 3) := by decide +kernel
theorem dX6_orders_78 : decode cX6_orders 78 = .ok (.aload_n 0, 1) := by decide +kernel
theorem dX6_orders_79 : decode cX6_orders 79 = .ok (.getfield 15, 3) := by decide +kernel
theorem dX6_orders_82 : decode cX6_orders 82 = .ok (.iload_n 3, 1) := by decide +kernel
theorem dX6_orders_83 : decode cX6_orders 83 = .ok (.iaload, 1) := by decide +kernel
theorem dX6_orders_84 : decode cX6_orders 84 = .ok (.iload_n 2, 1) := by decide +kernel
theorem dX6_orders_85 : decode cX6_orders 85 = .ok (.iand, 1) := by decide +kernel
theorem dX6_orders_86 : decode cX6_orders 86 = .ok (.ifCond .eq 19, 3) := by decide +kernel
theorem dX6_orders_89 : decode cX6_orders 89 = .ok (.aload_n 0, 1) := by decide +kernel
theorem dX6_orders_90 : decode cX6_orders 90 = .ok (.getfield 19, 3) := by decide +kernel
theorem dX6_orders_93 : decode cX6_orders 93 = .ok (.iload 4, 2) := by decide +kernel
theorem dX6_orders_95 : decode cX6_orders 95 = .ok (.dup2, 1) := by decide +kernel
theorem dX6_orders_96 : decode cX6_orders 96 = .ok (.iaload, 1) := by decide +kernel
theorem dX6_orders_97 : decode cX6_orders 97 = .ok (.aload_n 0, 1) := by decide +kernel
theorem dX6_orders_98 : decode cX6_orders 98 = .ok (.getfield 19, 3) := by decide +kernel
theorem dX6_orders_101 : decode cX6_orders 101 = .ok (.iload_n 2, 1) := by decide +kernel
theorem dX6_orders_102 : decode cX6_orders 102 = .ok (.iaload, 1) := by decide +kernel
theorem dX6_orders_103 : decode cX6_orders 103 = .ok (.iadd, 1) := by decide +kernel
theorem dX6_orders_104 : decode cX6_orders 104 = .ok (.iastore, 1) := by decide +kernel
theorem dX6_orders_105 : decode cX6_orders 105 = .ok (.iinc 3 1, 3) := by decide +kernel
theorem dX6_orders_108 : decode cX6_orders 108 = .ok (.goto (-60), 3) := by decide +kernel
theorem dX6_orders_111 : decode cX6_orders 111 = .ok (.iinc 2 1, 3) := by decide +kernel
theorem dX6_orders_114 : decode cX6_orders 114 = .ok (.goto (-73), 3) := by decide +kernel
theorem dX6_orders_117 : decode cX6_orders 117 = .ok (.aload_n 0, 1) := by decide +kernel
theorem dX6_orders_118 : decode cX6_orders 118 = .ok (.getfield 19, 3) := by decide +kernel
theorem dX6_orders_121 : decode cX6_orders 121 = .ok (.iload_n 1, 1) := by decide +kernel
theorem dX6_orders_122 : decode cX6_orders 122 = .ok (.iconst 1, 1) := by decide +kernel
theorem dX6_orders_123 : decode cX6_orders 123 = .ok (.isub, 1) := by decide +kernel
theorem dX6_orders_124 : decode cX6_orders 124 = .ok (.iaload, 1) := by decide +kernel
theorem dX6_orders_125 : decode cX6_orders 125 = .ok (.i2l, 1) := by decide +kernel
theorem dX6_orders_126 : decode cX6_orders 126 = .ok (.lreturn, 1) := by decide +kernel
theorem dX6_pairings_0 : decode cX6_pairings 0 = .ok (.iconst 1, 1) := by decide +kernel
theorem dX6_pairings_1 : decode cX6_pairings 1 = .ok (.aload_n 0, 1) := by decide +kernel
theorem dX6_pairings_2 : decode cX6_pairings 2 = .ok (.getfield 67, 3) := by decide +kernel
theorem dX6_pairings_5 : decode cX6_pairings 5 = .ok (.ishl, 1) := by decide +kernel
theorem dX6_pairings_6 : decode cX6_pairings 6 = .ok (.istore_n 1, 1) := by decide +kernel
theorem dX6_pairings_7 : decode cX6_pairings 7 = .ok (.aload_n 0, 1) := by decide +kernel
theorem dX6_pairings_8 : decode cX6_pairings 8 = .ok (.getfield 19, 3) := by decide +kernel
theorem dX6_pairings_11 : decode cX6_pairings 11 = .ok (.iconst 0, 1) := by decide +kernel
theorem dX6_pairings_12 : decode cX6_pairings 12 = .ok (.iconst 1, 1) := by decide +kernel
theorem dX6_pairings_13 : decode cX6_pairings 13 = .ok (.iastore, 1) := by decide +kernel
theorem dX6_pairings_14 : decode cX6_pairings 14 = .ok (.iconst 1, 1) := by decide +kernel
theorem dX6_pairings_15 : decode cX6_pairings 15 = .ok (.istore_n 2, 1) := by decide +kernel
theorem dX6_pairings_16 : decode cX6_pairings 16 = .ok (.iload_n 2, 1) := by decide +kernel
theorem dX6_pairings_17 : decode cX6_pairings 17 = .ok (.iload_n 1, 1) := by decide +kernel
theorem dX6_pairings_18 : decode cX6_pairings 18 = .ok (.if_icmp .ge 86, 3) := by decide +kernel
theorem dX6_pairings_21 : decode cX6_pairings 21 = .ok (.iload_n 2, 1) := by decide +kernel
theorem dX6_pairings_22 : decode cX6_pairings 22 = .ok (.iload_n 2, 1) := by decide +kernel
theorem dX6_pairings_23 : decode cX6_pairings 23 = .ok (.ineg, 1) := by decide +kernel
theorem dX6_pairings_24 : decode cX6_pairings 24 = .ok (.iand, 1) := by decide +kernel
theorem dX6_pairings_25 : decode cX6_pairings 25 = .ok (.istore_n 3, 1) := by decide +kernel
theorem dX6_pairings_26 : decode cX6_pairings 26 = .ok (.aload_n 0, 1) := by decide +kernel
theorem dX6_pairings_27 : decode cX6_pairings 27 = .ok (.getfield 15, 3) := by decide +kernel
theorem dX6_pairings_30 : decode cX6_pairings 30 = .ok (.iload_n 3, 1) := by decide +kernel
theorem dX6_pairings_31 : decode cX6_pairings 31 = .ok (.iconst 1, 1) := by decide +kernel
theorem dX6_pairings_32 : decode cX6_pairings 32 = .ok (.isub, 1) := by decide +kernel
theorem dX6_pairings_33 : decode cX6_pairings 33 = .ok (.invokestatic 76, 3) := by decide +kernel
theorem dX6_pairings_36 : decode cX6_pairings 36 = .ok (.iaload, 1) := by decide +kernel
theorem dX6_pairings_37 : decode cX6_pairings 37 = .ok (.iload_n 2, 1) := by decide +kernel
theorem dX6_pairings_38 : decode cX6_pairings 38 = .ok (.iand, 1) := by decide +kernel
theorem dX6_pairings_39 : decode cX6_pairings 39 = .ok (.istore 4, 2) := by decide +kernel
theorem dX6_pairings_41 : decode cX6_pairings 41 = .ok (.aload_n 0, 1) := by decide +kernel
theorem dX6_pairings_42 : decode cX6_pairings 42 = .ok (.getfield 19, 3) := by decide +kernel
theorem dX6_pairings_45 : decode cX6_pairings 45 = .ok (.iload_n 2, 1) := by decide +kernel
theorem dX6_pairings_46 : decode cX6_pairings 46 = .ok (.iconst 0, 1) := by decide +kernel
theorem dX6_pairings_47 : decode cX6_pairings 47 = .ok (.iastore, 1) := by decide +kernel
theorem dX6_pairings_48 : decode cX6_pairings 48 = .ok (.iconst 0, 1) := by decide +kernel
theorem dX6_pairings_49 : decode cX6_pairings 49 = .ok (.istore 5, 2) := by decide +kernel
theorem dX6_pairings_51 : decode cX6_pairings 51 = .ok (.iload 5, 2) := by decide +kernel
theorem dX6_pairings_53 : decode cX6_pairings 53 = .ok (.aload_n 0, 1) := by decide +kernel
theorem dX6_pairings_54 : decode cX6_pairings 54 = .ok (.getfield 67, 3) := by decide +kernel
theorem dX6_pairings_57 : decode cX6_pairings 57 = .ok (.if_icmp .ge 41, 3) := by decide +kernel
theorem dX6_pairings_60 : decode cX6_pairings 60 = .ok (.iload 4, 2) := by decide +kernel
theorem dX6_pairings_62 : decode cX6_pairings 62 = .ok (.iload 5, 2) := by decide +kernel
theorem dX6_pairings_64 : decode cX6_pairings 64 = .ok (.ishr, 1) := by decide +kernel
theorem dX6_pairings_65 : decode cX6_pairings 65 = .ok (.iconst 1, 1) := by decide +kernel
theorem dX6_pairings_66 : decode cX6_pairings 66 = .ok (.iand, 1) := by decide +kernel
theorem dX6_pairings_67 : decode cX6_pairings 67 = .ok (.ifCond .eq 25, 3) := by decide +kernel
theorem dX6_pairings_70 : decode cX6_pairings 70 = .ok (.aload_n 0, 1) := by decide +kernel
theorem dX6_pairings_71 : decode cX6_pairings 71 = .ok (.getfield 19, 3) := by decide +kernel
theorem dX6_pairings_74 : decode cX6_pairings 74 = .ok (.iload_n 2, 1) := by decide +kernel
theorem dX6_pairings_75 : decode cX6_pairings 75 = .ok (.dup2, 1) := by decide +kernel
theorem dX6_pairings_76 : decode cX6_pairings 76 = .ok (.iaload, 1) := by decide +kernel
theorem dX6_pairings_77 : decode cX6_pairings 77 = .ok (.aload_n 0, 1) := by decide +kernel
theorem dX6_pairings_78 : decode cX6_pairings 78 = .ok (.getfield 19, 3) := by decide +kernel
theorem dX6_pairings_81 : decode cX6_pairings 81 = .ok (.iload_n 2, 1) := by decide +kernel
theorem dX6_pairings_82 : decode cX6_pairings 82 = .ok (.iload_n 3, 1) := by decide +kernel
theorem dX6_pairings_83 : decode cX6_pairings 83 = .ok (.ixor, 1) := by decide +kernel
theorem dX6_pairings_84 : decode cX6_pairings 84 = .ok (.iconst 1, 1) := by decide +kernel
theorem dX6_pairings_85 : decode cX6_pairings 85 = .ok (.iload 5, 2) := by decide +kernel
theorem dX6_pairings_87 : decode cX6_pairings 87 = .ok (.ishl, 1) := by decide +kernel
theorem dX6_pairings_88 : decode cX6_pairings 88 = .ok (.ixor, 1) := by decide +kernel
theorem dX6_pairings_89 : decode cX6_pairings 89 = .ok (.iaload, 1) := by decide +kernel
theorem dX6_pairings_90 : decode cX6_pairings 90 = .ok (.iadd, 1) := by decide +kernel
theorem dX6_pairings_91 : decode cX6_pairings 91 = .ok (.iastore, 1) := by decide +kernel
theorem dX6_pairings_92 : decode cX6_pairings 92 = .ok (.iinc 5 1, 3) := by decide +kernel
theorem dX6_pairings_95 : decode cX6_pairings 95 = .ok (.goto (-44), 3) := by decide +kernel
theorem dX6_pairings_98 : decode cX6_pairings 98 = .ok (.iinc 2 1, 3) := by decide +kernel
theorem dX6_pairings_101 : decode cX6_pairings 101 = .ok (.goto (-85), 3) := by decide +kernel
theorem dX6_pairings_104 : decode cX6_pairings 104 = .ok (.aload_n 0, 1) := by decide +kernel
theorem dX6_pairings_105 : decode cX6_pairings 105 = .ok (.getfield 19, 3) := by decide +kernel
theorem dX6_pairings_108 : decode cX6_pairings 108 = .ok (.iload_n 1, 1) := by decide +kernel
theorem dX6_pairings_109 : decode cX6_pairings 109 = .ok (.iconst 1, 1) := by decide +kernel
theorem dX6_pairings_110 : decode cX6_pairings 110 = .ok (.isub, 1) := by decide +kernel
theorem dX6_pairings_111 : decode cX6_pairings 111 = .ok (.iaload, 1) := by decide +kernel
theorem dX6_pairings_112 : decode cX6_pairings 112 = .ok (.i2l, 1) := by decide +kernel
theorem dX6_pairings_113 : decode cX6_pairings 113 = .ok (.lreturn, 1) := by decide +kernel
theorem dX6_halvings_0 : decode cX6_halvings 0 = .ok (.iconst 0, 1) := by decide +kernel
theorem dX6_halvings_1 : decode cX6_halvings 1 = .ok (.istore 4, 2) := by decide +kernel
theorem dX6_halvings_3 : decode cX6_halvings 3 = .ok (.iconst 1, 1) := by decide +kernel
theorem dX6_halvings_4 : decode cX6_halvings 4 = .ok (.istore 5, 2) := by decide +kernel
theorem dX6_halvings_6 : decode cX6_halvings 6 = .ok (.iload 5, 2) := by decide +kernel
theorem dX6_halvings_8 : decode cX6_halvings 8 = .ok (.iconst 1, 1) := by decide +kernel
theorem dX6_halvings_9 : decode cX6_halvings 9 = .ok (.aload_n 0, 1) := by decide +kernel
theorem dX6_halvings_10 : decode cX6_halvings 10 = .ok (.getfield 67, 3) := by decide +kernel
theorem dX6_halvings_13 : decode cX6_halvings 13 = .ok (.ishl, 1) := by decide +kernel
theorem dX6_halvings_14 : decode cX6_halvings 14 = .ok (.if_icmp .ge 40, 3) := by decide +kernel
theorem dX6_halvings_17 : decode cX6_halvings 17 = .ok (.iconst 2, 1) := by decide +kernel
theorem dX6_halvings_18 : decode cX6_halvings 18 = .ok (.iload 5, 2) := by decide +kernel
theorem dX6_halvings_20 : decode cX6_halvings 20 = .ok (.invokestatic 76, 3) := by decide +kernel
theorem dX6_halvings_23 : decode cX6_halvings 23 = .ok (.imul, 1) := by decide +kernel
theorem dX6_halvings_24 : decode cX6_halvings 24 = .ok (.aload_n 0, 1) := by decide +kernel
theorem dX6_halvings_25 : decode cX6_halvings 25 = .ok (.getfield 67, 3) := by decide +kernel
theorem dX6_halvings_28 : decode cX6_halvings 28 = .ok (.if_icmp .ne 20, 3) := by decide +kernel
theorem dX6_halvings_31 : decode cX6_halvings 31 = .ok (.lload_n 1, 1) := by decide +kernel
theorem dX6_halvings_32 : decode cX6_halvings 32 = .ok (.aload_n 0, 1) := by decide +kernel
theorem dX6_halvings_33 : decode cX6_halvings 33 = .ok (.iload 5, 2) := by decide +kernel
theorem dX6_halvings_35 : decode cX6_halvings 35 = .ok (.invokevirtual 80, 3) := by decide +kernel
theorem dX6_halvings_38 : decode cX6_halvings 38 = .ok (.iload_n 3, 1) := by decide +kernel
theorem dX6_halvings_39 : decode cX6_halvings 39 = .ok (.invokestatic 84, 3) := by decide +kernel
theorem dX6_halvings_42 : decode cX6_halvings 42 = .ok (.ifCond .eq 6, 3) := by decide +kernel
theorem dX6_halvings_45 : decode cX6_halvings 45 = .ok (.iinc 4 1, 3) := by decide +kernel
theorem dX6_halvings_48 : decode cX6_halvings 48 = .ok (.iinc 5 2, 3) := by decide +kernel
theorem dX6_halvings_51 : decode cX6_halvings 51 = .ok (.goto (-45), 3) := by decide +kernel
theorem dX6_halvings_54 : decode cX6_halvings 54 = .ok (.iload 4, 2) := by decide +kernel
theorem dX6_halvings_56 : decode cX6_halvings 56 = .ok (.i2l, 1) := by decide +kernel
theorem dX6_halvings_57 : decode cX6_halvings 57 = .ok (.lreturn, 1) := by decide +kernel
theorem dX6_boardOf_0 : decode cX6_boardOf 0 = .ok (.lconst 0, 1) := by decide +kernel
theorem dX6_boardOf_1 : decode cX6_boardOf 1 = .ok (.lstore_n 2, 1) := by decide +kernel
theorem dX6_boardOf_2 : decode cX6_boardOf 2 = .ok (.iconst 0, 1) := by decide +kernel
theorem dX6_boardOf_3 : decode cX6_boardOf 3 = .ok (.istore 4, 2) := by decide +kernel
theorem dX6_boardOf_5 : decode cX6_boardOf 5 = .ok (.iload 4, 2) := by decide +kernel
theorem dX6_boardOf_7 : decode cX6_boardOf 7 = .ok (.aload_n 0, 1) := by decide +kernel
theorem dX6_boardOf_8 : decode cX6_boardOf 8 = .ok (.getfield 67, 3) := by decide +kernel
theorem dX6_boardOf_11 : decode cX6_boardOf 11 = .ok (.if_icmp .ge 28, 3) := by decide +kernel
theorem dX6_boardOf_14 : decode cX6_boardOf 14 = .ok (.iload_n 1, 1) := by decide +kernel
theorem dX6_boardOf_15 : decode cX6_boardOf 15 = .ok (.iload 4, 2) := by decide +kernel
theorem dX6_boardOf_17 : decode cX6_boardOf 17 = .ok (.ishr, 1) := by decide +kernel
theorem dX6_boardOf_18 : decode cX6_boardOf 18 = .ok (.iconst 1, 1) := by decide +kernel
theorem dX6_boardOf_19 : decode cX6_boardOf 19 = .ok (.iand, 1) := by decide +kernel
theorem dX6_boardOf_20 : decode cX6_boardOf 20 = .ok (.ifCond .eq 13, 3) := by decide +kernel
theorem dX6_boardOf_23 : decode cX6_boardOf 23 = .ok (.lload_n 2, 1) := by decide +kernel
theorem dX6_boardOf_24 : decode cX6_boardOf 24 = .ok (.aload_n 0, 1) := by decide +kernel
theorem dX6_boardOf_25 : decode cX6_boardOf 25 = .ok (.getfield 9, 3) := by decide +kernel
theorem dX6_boardOf_28 : decode cX6_boardOf 28 = .ok (.iload 4, 2) := by decide +kernel
theorem dX6_boardOf_30 : decode cX6_boardOf 30 = .ok (.laload, 1) := by decide +kernel
theorem dX6_boardOf_31 : decode cX6_boardOf 31 = .ok (.lor, 1) := by decide +kernel
theorem dX6_boardOf_32 : decode cX6_boardOf 32 = .ok (.lstore_n 2, 1) := by decide +kernel
theorem dX6_boardOf_33 : decode cX6_boardOf 33 = .ok (.iinc 4 1, 3) := by decide +kernel
theorem dX6_boardOf_36 : decode cX6_boardOf 36 = .ok (.goto (-31), 3) := by decide +kernel
theorem dX6_boardOf_39 : decode cX6_boardOf 39 = .ok (.lload_n 2, 1) := by decide +kernel
theorem dX6_boardOf_40 : decode cX6_boardOf 40 = .ok (.lreturn, 1) := by decide +kernel
theorem dX6_areAlike_0 : decode cX6_areAlike 0 = .ok (.lload_n 0, 1) := by decide +kernel
theorem dX6_areAlike_1 : decode cX6_areAlike 1 = .ok (.lload_n 2, 1) := by decide +kernel
theorem dX6_areAlike_2 : decode cX6_areAlike 2 = .ok (.lxor, 1) := by decide +kernel
theorem dX6_areAlike_3 : decode cX6_areAlike 3 = .ok (.lstore 5, 2) := by decide +kernel
theorem dX6_areAlike_5 : decode cX6_areAlike 5 = .ok (.lload_n 2, 1) := by decide +kernel
theorem dX6_areAlike_6 : decode cX6_areAlike 6 = .ok (.invokestatic 88, 3) := by decide +kernel
theorem dX6_areAlike_9 : decode cX6_areAlike 9 = .ok (.ifCond .eq 38, 3) := by decide +kernel
theorem dX6_areAlike_12 : decode cX6_areAlike 12 = .ok (.lload 5, 2) := by decide +kernel
theorem dX6_areAlike_14 : decode cX6_areAlike 14 = .ok (.invokestatic 88, 3) := by decide +kernel
theorem dX6_areAlike_17 : decode cX6_areAlike 17 = .ok (.ifCond .eq 30, 3) := by decide +kernel
theorem dX6_areAlike_20 : decode cX6_areAlike 20 = .ok (.lload_n 2, 1) := by decide +kernel
theorem dX6_areAlike_21 : decode cX6_areAlike 21 = .ok (.invokestatic 92, 3) := by decide +kernel
theorem dX6_areAlike_24 : decode cX6_areAlike 24 = .ok (.iload 4, 2) := by decide +kernel
theorem dX6_areAlike_26 : decode cX6_areAlike 26 = .ok (.invokestatic 95, 3) := by decide +kernel
theorem dX6_areAlike_29 : decode cX6_areAlike 29 = .ok (.lload 5, 2) := by decide +kernel
theorem dX6_areAlike_31 : decode cX6_areAlike 31 = .ok (.invokestatic 92, 3) := by decide +kernel
theorem dX6_areAlike_34 : decode cX6_areAlike 34 = .ok (.iload 4, 2) := by decide +kernel
theorem dX6_areAlike_36 : decode cX6_areAlike 36 = .ok (.invokestatic 95, 3) := by decide +kernel
theorem dX6_areAlike_39 : decode cX6_areAlike 39 = .ok (.lcmp, 1) := by decide +kernel
theorem dX6_areAlike_40 : decode cX6_areAlike 40 = .ok (.ifCond .ne 7, 3) := by decide +kernel
theorem dX6_areAlike_43 : decode cX6_areAlike 43 = .ok (.iconst 1, 1) := by decide +kernel
theorem dX6_areAlike_44 : decode cX6_areAlike 44 = .ok (.goto 4, 3) := by decide +kernel
theorem dX6_areAlike_47 : decode cX6_areAlike 47 = .ok (.iconst 0, 1) := by decide +kernel
theorem dX6_areAlike_48 : decode cX6_areAlike 48 = .ok (.ireturn, 1) := by decide +kernel
theorem dX6_longestWay_0 : decode cX6_longestWay 0 = .ok (.iconst 0, 1) := by decide +kernel
theorem dX6_longestWay_1 : decode cX6_longestWay 1 = .ok (.istore_n 3, 1) := by decide +kernel
theorem dX6_longestWay_2 : decode cX6_longestWay 2 = .ok (.iconst 0, 1) := by decide +kernel
theorem dX6_longestWay_3 : decode cX6_longestWay 3 = .ok (.istore 4, 2) := by decide +kernel
theorem dX6_longestWay_5 : decode cX6_longestWay 5 = .ok (.iload 4, 2) := by decide +kernel
theorem dX6_longestWay_7 : decode cX6_longestWay 7 = .ok (.aload_n 0, 1) := by decide +kernel
theorem dX6_longestWay_8 : decode cX6_longestWay 8 = .ok (.getfield 67, 3) := by decide +kernel
theorem dX6_longestWay_11 : decode cX6_longestWay 11 = .ok (.if_icmp .ge 64, 3) := by decide +kernel
theorem dX6_longestWay_14 : decode cX6_longestWay 14 = .ok (.aload_n 0, 1) := by decide +kernel
theorem dX6_longestWay_15 : decode cX6_longestWay 15 = .ok (.getfield 9, 3) := by decide +kernel
theorem dX6_longestWay_18 : decode cX6_longestWay 18 = .ok (.iload 4, 2) := by decide +kernel
theorem dX6_longestWay_20 : decode cX6_longestWay 20 = .ok (.laload, 1) := by decide +kernel
theorem dX6_longestWay_21 : decode cX6_longestWay 21 = .ok (.lstore 5, 2) := by decide +kernel
theorem dX6_longestWay_23 : decode cX6_longestWay 23 = .ok (.iconst 0, 1) := by decide +kernel
theorem dX6_longestWay_24 : decode cX6_longestWay 24 = .ok (.istore 7, 2) := by decide +kernel
theorem dX6_longestWay_26 : decode cX6_longestWay 26 = .ok (.iload 7, 2) := by decide +kernel
theorem dX6_longestWay_28 : decode cX6_longestWay 28 = .ok (.aload_n 0, 1) := by decide +kernel
theorem dX6_longestWay_29 : decode cX6_longestWay 29 = .ok (.getfield 67, 3) := by decide +kernel
theorem dX6_longestWay_32 : decode cX6_longestWay 32 = .ok (.if_icmp .ge 37, 3) := by decide +kernel
theorem dX6_longestWay_35 : decode cX6_longestWay 35 = .ok (.lload 5, 2) := by decide +kernel
theorem dX6_longestWay_37 : decode cX6_longestWay 37 = .ok (.lload_n 1, 1) := by decide +kernel
theorem dX6_longestWay_38 : decode cX6_longestWay 38 = .ok (.lcmp, 1) := by decide +kernel
theorem dX6_longestWay_39 : decode cX6_longestWay 39 = .ok (.ifCond .eq 30, 3) := by decide +kernel
theorem dX6_longestWay_42 : decode cX6_longestWay 42 = .ok (.lload 5, 2) := by decide +kernel
theorem dX6_longestWay_44 : decode cX6_longestWay 44 = .ok (.lload 5, 2) := by decide +kernel
theorem dX6_longestWay_46 : decode cX6_longestWay 46 = .ok (.invokestatic 71, 3) := by decide +kernel
theorem dX6_longestWay_49 : decode cX6_longestWay 49 = .ok (.lload_n 1, 1) := by decide +kernel
theorem dX6_longestWay_50 : decode cX6_longestWay 50 = .ok (.land, 1) := by decide +kernel
theorem dX6_longestWay_51 : decode cX6_longestWay 51 = .ok (.lor, 1) := by decide +kernel
theorem dX6_longestWay_52 : decode cX6_longestWay 52 = .ok (.lstore 5, 2) := by decide +kernel
theorem dX6_longestWay_54 : decode cX6_longestWay 54 = .ok (.iload_n 3, 1) := by decide +kernel
theorem dX6_longestWay_55 : decode cX6_longestWay 55 = .ok (.iload 7, 2) := by decide +kernel
theorem dX6_longestWay_57 : decode cX6_longestWay 57 = .ok (.iconst 1, 1) := by decide +kernel
theorem dX6_longestWay_58 : decode cX6_longestWay 58 = .ok (.iadd, 1) := by decide +kernel
theorem dX6_longestWay_59 : decode cX6_longestWay 59 = .ok (.invokestatic 98, 3) := by decide +kernel
theorem dX6_longestWay_62 : decode cX6_longestWay 62 = .ok (.istore_n 3, 1) := by decide +kernel
theorem dX6_longestWay_63 : decode cX6_longestWay 63 = .ok (.iinc 7 1, 3) := by decide +kernel
theorem dX6_longestWay_66 : decode cX6_longestWay 66 = .ok (.goto (-40), 3) := by decide +kernel
theorem dX6_longestWay_69 : decode cX6_longestWay 69 = .ok (.iinc 4 1, 3) := by decide +kernel
theorem dX6_longestWay_72 : decode cX6_longestWay 72 = .ok (.goto (-67), 3) := by decide +kernel
theorem dX6_longestWay_75 : decode cX6_longestWay 75 = .ok (.iload_n 3, 1) := by decide +kernel
theorem dX6_longestWay_76 : decode cX6_longestWay 76 = .ok (.i2l, 1) := by decide +kernel
theorem dX6_longestWay_77 : decode cX6_longestWay 77 = .ok (.lreturn, 1) := by decide +kernel
theorem dX6_trees_0 : decode cX6_trees 0 = .ok (.aload_n 0, 1) := by decide +kernel
theorem dX6_trees_1 : decode cX6_trees 1 = .ok (.getfield 67, 3) := by decide +kernel
theorem dX6_trees_4 : decode cX6_trees 4 = .ok (.iconst 1, 1) := by decide +kernel
theorem dX6_trees_5 : decode cX6_trees 5 = .ok (.isub, 1) := by decide +kernel
theorem dX6_trees_6 : decode cX6_trees 6 = .ok (.istore_n 1, 1) := by decide +kernel
theorem dX6_trees_7 : decode cX6_trees 7 = .ok (.aload_n 0, 1) := by decide +kernel
theorem dX6_trees_8 : decode cX6_trees 8 = .ok (.iload_n 1, 1) := by decide +kernel
theorem dX6_trees_9 : decode cX6_trees 9 = .ok (.invokevirtual 101, 3) := by decide +kernel
theorem dX6_trees_12 : decode cX6_trees 12 = .ok (.lconst 1, 1) := by decide +kernel
theorem dX6_trees_13 : decode cX6_trees 13 = .ok (.lstore_n 2, 1) := by decide +kernel
theorem dX6_trees_14 : decode cX6_trees 14 = .ok (.iconst 0, 1) := by decide +kernel
theorem dX6_trees_15 : decode cX6_trees 15 = .ok (.istore 4, 2) := by decide +kernel
theorem dX6_trees_17 : decode cX6_trees 17 = .ok (.iload 4, 2) := by decide +kernel
theorem dX6_trees_19 : decode cX6_trees 19 = .ok (.iconst 1, 1) := by decide +kernel
theorem dX6_trees_20 : decode cX6_trees 20 = .ok (.iadd, 1) := by decide +kernel
theorem dX6_trees_21 : decode cX6_trees 21 = .ok (.iload_n 1, 1) := by decide +kernel
theorem dX6_trees_22 : decode cX6_trees 22 = .ok (.if_icmp .ge 38, 3) := by decide +kernel
theorem dX6_trees_25 : decode cX6_trees 25 = .ok (.lload_n 2, 1) := by decide +kernel
theorem dX6_trees_26 : decode cX6_trees 26 = .ok (.lconst 0, 1) := by decide +kernel
theorem dX6_trees_27 : decode cX6_trees 27 = .ok (.lcmp, 1) := by decide +kernel
theorem dX6_trees_28 : decode cX6_trees 28 = .ok (.ifCond .ne 5, 3) := by decide +kernel
theorem dX6_trees_31 : decode cX6_trees 31 = .ok (.lconst 0, 1) := by decide +kernel
theorem dX6_trees_32 : decode cX6_trees 32 = .ok (.lreturn, 1) := by decide +kernel
theorem dX6_trees_33 : decode cX6_trees 33 = .ok (.aload_n 0, 1) := by decide +kernel
theorem dX6_trees_34 : decode cX6_trees 34 = .ok (.iload 4, 2) := by decide +kernel
theorem dX6_trees_36 : decode cX6_trees 36 = .ok (.iload_n 1, 1) := by decide +kernel
theorem dX6_trees_37 : decode cX6_trees 37 = .ok (.lload_n 2, 1) := by decide +kernel
theorem dX6_trees_38 : decode cX6_trees 38 = .ok (.invokevirtual 105, 3) := by decide +kernel
theorem dX6_trees_41 : decode cX6_trees 41 = .ok (.aload_n 0, 1) := by decide +kernel
theorem dX6_trees_42 : decode cX6_trees 42 = .ok (.getfield 22, 3) := by decide +kernel
theorem dX6_trees_45 : decode cX6_trees 45 = .ok (.iload 4, 2) := by decide +kernel
theorem dX6_trees_47 : decode cX6_trees 47 = .ok (.iload_n 1, 1) := by decide +kernel
theorem dX6_trees_48 : decode cX6_trees 48 = .ok (.imul, 1) := by decide +kernel
theorem dX6_trees_49 : decode cX6_trees 49 = .ok (.iload 4, 2) := by decide +kernel
theorem dX6_trees_51 : decode cX6_trees 51 = .ok (.iadd, 1) := by decide +kernel
theorem dX6_trees_52 : decode cX6_trees 52 = .ok (.laload, 1) := by decide +kernel
theorem dX6_trees_53 : decode cX6_trees 53 = .ok (.lstore_n 2, 1) := by decide +kernel
theorem dX6_trees_54 : decode cX6_trees 54 = .ok (.iinc 4 1, 3) := by decide +kernel
theorem dX6_trees_57 : decode cX6_trees 57 = .ok (.goto (-40), 3) := by decide +kernel
theorem dX6_trees_60 : decode cX6_trees 60 = .ok (.iload_n 1, 1) := by decide +kernel
theorem dX6_trees_61 : decode cX6_trees 61 = .ok (.ifCond .le 16, 3) := by decide +kernel
theorem dX6_trees_64 : decode cX6_trees 64 = .ok (.aload_n 0, 1) := by decide +kernel
theorem dX6_trees_65 : decode cX6_trees 65 = .ok (.getfield 22, 3) := by decide +kernel
theorem dX6_trees_68 : decode cX6_trees 68 = .ok (.iload_n 1, 1) := by decide +kernel
theorem dX6_trees_69 : decode cX6_trees 69 = .ok (.iload_n 1, 1) := by decide +kernel
theorem dX6_trees_70 : decode cX6_trees 70 = .ok (.imul, 1) := by decide +kernel
theorem dX6_trees_71 : decode cX6_trees 71 = .ok (.iconst 1, 1) := by decide +kernel
theorem dX6_trees_72 : decode cX6_trees 72 = .ok (.isub, 1) := by decide +kernel
theorem dX6_trees_73 : decode cX6_trees 73 = .ok (.laload, 1) := by decide +kernel
theorem dX6_trees_74 : decode cX6_trees 74 = .ok (.goto 4, 3) := by decide +kernel
theorem dX6_trees_77 : decode cX6_trees 77 = .ok (.lconst 1, 1) := by decide +kernel
theorem dX6_trees_78 : decode cX6_trees 78 = .ok (.lreturn, 1) := by decide +kernel
theorem dX6_fillMatrix_0 : decode cX6_fillMatrix 0 = .ok (.iconst 0, 1) := by decide +kernel
theorem dX6_fillMatrix_1 : decode cX6_fillMatrix 1 = .ok (.istore_n 2, 1) := by decide +kernel
theorem dX6_fillMatrix_2 : decode cX6_fillMatrix 2 = .ok (.iload_n 2, 1) := by decide +kernel
theorem dX6_fillMatrix_3 : decode cX6_fillMatrix 3 = .ok (.iload_n 1, 1) := by decide +kernel
theorem dX6_fillMatrix_4 : decode cX6_fillMatrix 4 = .ok (.if_icmp .ge 64, 3) := by decide +kernel
theorem dX6_fillMatrix_7 : decode cX6_fillMatrix 7 = .ok (.iconst 0, 1) := by decide +kernel
theorem dX6_fillMatrix_8 : decode cX6_fillMatrix 8 = .ok (.istore_n 3, 1) := by decide +kernel
theorem dX6_fillMatrix_9 : decode cX6_fillMatrix 9 = .ok (.iload_n 3, 1) := by decide +kernel
theorem dX6_fillMatrix_10 : decode cX6_fillMatrix 10 = .ok (.iload_n 1, 1) := by decide +kernel
theorem dX6_fillMatrix_11 : decode cX6_fillMatrix 11 = .ok (.if_icmp .ge 31, 3) := by decide +kernel
theorem dX6_fillMatrix_14 : decode cX6_fillMatrix 14 = .ok (.aload_n 0, 1) := by decide +kernel
theorem dX6_fillMatrix_15 : decode cX6_fillMatrix 15 = .ok (.getfield 22, 3) := by decide +kernel
theorem dX6_fillMatrix_18 : decode cX6_fillMatrix 18 = .ok (.iload_n 2, 1) := by decide +kernel
theorem dX6_fillMatrix_19 : decode cX6_fillMatrix 19 = .ok (.iload_n 1, 1) := by decide +kernel
theorem dX6_fillMatrix_20 : decode cX6_fillMatrix 20 = .ok (.imul, 1) := by decide +kernel
theorem dX6_fillMatrix_21 : decode cX6_fillMatrix 21 = .ok (.iload_n 3, 1) := by decide +kernel
theorem dX6_fillMatrix_22 : decode cX6_fillMatrix 22 = .ok (.iadd, 1) := by decide +kernel
theorem dX6_fillMatrix_23 : decode cX6_fillMatrix 23 = .ok (.aload_n 0, 1) := by decide +kernel
theorem dX6_fillMatrix_24 : decode cX6_fillMatrix 24 = .ok (.getfield 15, 3) := by decide +kernel
theorem dX6_fillMatrix_27 : decode cX6_fillMatrix 27 = .ok (.iload_n 2, 1) := by decide +kernel
theorem dX6_fillMatrix_28 : decode cX6_fillMatrix 28 = .ok (.iaload, 1) := by decide +kernel
theorem dX6_fillMatrix_29 : decode cX6_fillMatrix 29 = .ok (.iload_n 3, 1) := by decide +kernel
theorem dX6_fillMatrix_30 : decode cX6_fillMatrix 30 = .ok (.ishr, 1) := by decide +kernel
theorem dX6_fillMatrix_31 : decode cX6_fillMatrix 31 = .ok (.iconst 1, 1) := by decide +kernel
theorem dX6_fillMatrix_32 : decode cX6_fillMatrix 32 = .ok (.iand, 1) := by decide +kernel
theorem dX6_fillMatrix_33 : decode cX6_fillMatrix 33 = .ok (.ineg, 1) := by decide +kernel
theorem dX6_fillMatrix_34 : decode cX6_fillMatrix 34 = .ok (.i2l, 1) := by decide +kernel
theorem dX6_fillMatrix_35 : decode cX6_fillMatrix 35 = .ok (.lastore, 1) := by decide +kernel
theorem dX6_fillMatrix_36 : decode cX6_fillMatrix 36 = .ok (.iinc 3 1, 3) := by decide +kernel
theorem dX6_fillMatrix_39 : decode cX6_fillMatrix 39 = .ok (.goto (-30), 3) := by decide +kernel
theorem dX6_fillMatrix_42 : decode cX6_fillMatrix 42 = .ok (.aload_n 0, 1) := by decide +kernel
theorem dX6_fillMatrix_43 : decode cX6_fillMatrix 43 = .ok (.getfield 22, 3) := by decide +kernel
theorem dX6_fillMatrix_46 : decode cX6_fillMatrix 46 = .ok (.iload_n 2, 1) := by decide +kernel
theorem dX6_fillMatrix_47 : decode cX6_fillMatrix 47 = .ok (.iload_n 1, 1) := by decide +kernel
theorem dX6_fillMatrix_48 : decode cX6_fillMatrix 48 = .ok (.imul, 1) := by decide +kernel
theorem dX6_fillMatrix_49 : decode cX6_fillMatrix 49 = .ok (.iload_n 2, 1) := by decide +kernel
theorem dX6_fillMatrix_50 : decode cX6_fillMatrix 50 = .ok (.iadd, 1) := by decide +kernel
theorem dX6_fillMatrix_51 : decode cX6_fillMatrix 51 = .ok (.aload_n 0, 1) := by decide +kernel
theorem dX6_fillMatrix_52 : decode cX6_fillMatrix 52 = .ok (.getfield 15, 3) := by decide +kernel
theorem dX6_fillMatrix_55 : decode cX6_fillMatrix 55 = .ok (.iload_n 2, 1) := by decide +kernel
theorem dX6_fillMatrix_56 : decode cX6_fillMatrix 56 = .ok (.iaload, 1) := by decide +kernel
theorem dX6_fillMatrix_57 : decode cX6_fillMatrix 57 = .ok (.invokestatic 76, 3) := by decide +kernel
theorem dX6_fillMatrix_60 : decode cX6_fillMatrix 60 = .ok (.i2l, 1) := by decide +kernel
theorem dX6_fillMatrix_61 : decode cX6_fillMatrix 61 = .ok (.lastore, 1) := by decide +kernel
theorem dX6_fillMatrix_62 : decode cX6_fillMatrix 62 = .ok (.iinc 2 1, 3) := by decide +kernel
theorem dX6_fillMatrix_65 : decode cX6_fillMatrix 65 = .ok (.goto (-63), 3) := by decide +kernel
theorem dX6_fillMatrix_68 : decode cX6_fillMatrix 68 = .ok (.return_, 1) := by decide +kernel
theorem dX6_eliminate_0 : decode cX6_eliminate 0 = .ok (.lload_n 3, 1) := by decide +kernel
theorem dX6_eliminate_1 : decode cX6_eliminate 1 = .ok (.lconst 0, 1) := by decide +kernel
theorem dX6_eliminate_2 : decode cX6_eliminate 2 = .ok (.lcmp, 1) := by decide +kernel
theorem dX6_eliminate_3 : decode cX6_eliminate 3 = .ok (.ifCond .ne 4, 3) := by decide +kernel
theorem dX6_eliminate_6 : decode cX6_eliminate 6 = .ok (.return_, 1) := by decide +kernel
theorem dX6_eliminate_7 : decode cX6_eliminate 7 = .ok (.iload_n 1, 1) := by decide +kernel
theorem dX6_eliminate_8 : decode cX6_eliminate 8 = .ok (.iconst 1, 1) := by decide +kernel
theorem dX6_eliminate_9 : decode cX6_eliminate 9 = .ok (.iadd, 1) := by decide +kernel
theorem dX6_eliminate_10 : decode cX6_eliminate 10 = .ok (.istore 5, 2) := by decide +kernel
theorem dX6_eliminate_12 : decode cX6_eliminate 12 = .ok (.iload 5, 2) := by decide +kernel
theorem dX6_eliminate_14 : decode cX6_eliminate 14 = .ok (.iload_n 2, 1) := by decide +kernel
theorem dX6_eliminate_15 : decode cX6_eliminate 15 = .ok (.if_icmp .ge 91, 3) := by decide +kernel
theorem dX6_eliminate_18 : decode cX6_eliminate 18 = .ok (.iload_n 1, 1) := by decide +kernel
theorem dX6_eliminate_19 : decode cX6_eliminate 19 = .ok (.iconst 1, 1) := by decide +kernel
theorem dX6_eliminate_20 : decode cX6_eliminate 20 = .ok (.iadd, 1) := by decide +kernel
theorem dX6_eliminate_21 : decode cX6_eliminate 21 = .ok (.istore 6, 2) := by decide +kernel
theorem dX6_eliminate_23 : decode cX6_eliminate 23 = .ok (.iload 6, 2) := by decide +kernel
theorem dX6_eliminate_25 : decode cX6_eliminate 25 = .ok (.iload_n 2, 1) := by decide +kernel
theorem dX6_eliminate_26 : decode cX6_eliminate 26 = .ok (.if_icmp .ge 74, 3) := by decide +kernel
theorem dX6_eliminate_29 : decode cX6_eliminate 29 = .ok (.aload_n 0, 1) := by decide +kernel
theorem dX6_eliminate_30 : decode cX6_eliminate 30 = .ok (.getfield 22, 3) := by decide +kernel
theorem dX6_eliminate_33 : decode cX6_eliminate 33 = .ok (.iload 5, 2) := by decide +kernel
theorem dX6_eliminate_35 : decode cX6_eliminate 35 = .ok (.iload_n 2, 1) := by decide +kernel
theorem dX6_eliminate_36 : decode cX6_eliminate 36 = .ok (.imul, 1) := by decide +kernel
theorem dX6_eliminate_37 : decode cX6_eliminate 37 = .ok (.iload 6, 2) := by decide +kernel
theorem dX6_eliminate_39 : decode cX6_eliminate 39 = .ok (.iadd, 1) := by decide +kernel
theorem dX6_eliminate_40 : decode cX6_eliminate 40 = .ok (.laload, 1) := by decide +kernel
theorem dX6_eliminate_41 : decode cX6_eliminate 41 = .ok (.aload_n 0, 1) := by decide +kernel
theorem dX6_eliminate_42 : decode cX6_eliminate 42 = .ok (.getfield 22, 3) := by decide +kernel
theorem dX6_eliminate_45 : decode cX6_eliminate 45 = .ok (.iload_n 1, 1) := by decide +kernel
theorem dX6_eliminate_46 : decode cX6_eliminate 46 = .ok (.iload_n 2, 1) := by decide +kernel
theorem dX6_eliminate_47 : decode cX6_eliminate 47 = .ok (.imul, 1) := by decide +kernel
theorem dX6_eliminate_48 : decode cX6_eliminate 48 = .ok (.iload_n 1, 1) := by decide +kernel
theorem dX6_eliminate_49 : decode cX6_eliminate 49 = .ok (.iadd, 1) := by decide +kernel
theorem dX6_eliminate_50 : decode cX6_eliminate 50 = .ok (.laload, 1) := by decide +kernel
theorem dX6_eliminate_51 : decode cX6_eliminate 51 = .ok (.lmul, 1) := by decide +kernel
theorem dX6_eliminate_52 : decode cX6_eliminate 52 = .ok (.aload_n 0, 1) := by decide +kernel
theorem dX6_eliminate_53 : decode cX6_eliminate 53 = .ok (.getfield 22, 3) := by decide +kernel
theorem dX6_eliminate_56 : decode cX6_eliminate 56 = .ok (.iload 5, 2) := by decide +kernel
theorem dX6_eliminate_58 : decode cX6_eliminate 58 = .ok (.iload_n 2, 1) := by decide +kernel
theorem dX6_eliminate_59 : decode cX6_eliminate 59 = .ok (.imul, 1) := by decide +kernel
theorem dX6_eliminate_60 : decode cX6_eliminate 60 = .ok (.iload_n 1, 1) := by decide +kernel
theorem dX6_eliminate_61 : decode cX6_eliminate 61 = .ok (.iadd, 1) := by decide +kernel
theorem dX6_eliminate_62 : decode cX6_eliminate 62 = .ok (.laload, 1) := by decide +kernel
theorem dX6_eliminate_63 : decode cX6_eliminate 63 = .ok (.aload_n 0, 1) := by decide +kernel
theorem dX6_eliminate_64 : decode cX6_eliminate 64 = .ok (.getfield 22, 3) := by decide +kernel
theorem dX6_eliminate_67 : decode cX6_eliminate 67 = .ok (.iload_n 1, 1) := by decide +kernel
theorem dX6_eliminate_68 : decode cX6_eliminate 68 = .ok (.iload_n 2, 1) := by decide +kernel
theorem dX6_eliminate_69 : decode cX6_eliminate 69 = .ok (.imul, 1) := by decide +kernel
theorem dX6_eliminate_70 : decode cX6_eliminate 70 = .ok (.iload 6, 2) := by decide +kernel
theorem dX6_eliminate_72 : decode cX6_eliminate 72 = .ok (.iadd, 1) := by decide +kernel
theorem dX6_eliminate_73 : decode cX6_eliminate 73 = .ok (.laload, 1) := by decide +kernel
theorem dX6_eliminate_74 : decode cX6_eliminate 74 = .ok (.lmul, 1) := by decide +kernel
theorem dX6_eliminate_75 : decode cX6_eliminate 75 = .ok (.lsub, 1) := by decide +kernel
theorem dX6_eliminate_76 : decode cX6_eliminate 76 = .ok (.lstore 7, 2) := by decide +kernel
theorem dX6_eliminate_78 : decode cX6_eliminate 78 = .ok (.aload_n 0, 1) := by decide +kernel
theorem dX6_eliminate_79 : decode cX6_eliminate 79 = .ok (.getfield 22, 3) := by decide +kernel
theorem dX6_eliminate_82 : decode cX6_eliminate 82 = .ok (.iload 5, 2) := by decide +kernel
theorem dX6_eliminate_84 : decode cX6_eliminate 84 = .ok (.iload_n 2, 1) := by decide +kernel
theorem dX6_eliminate_85 : decode cX6_eliminate 85 = .ok (.imul, 1) := by decide +kernel
theorem dX6_eliminate_86 : decode cX6_eliminate 86 = .ok (.iload 6, 2) := by decide +kernel
theorem dX6_eliminate_88 : decode cX6_eliminate 88 = .ok (.iadd, 1) := by decide +kernel
theorem dX6_eliminate_89 : decode cX6_eliminate 89 = .ok (.lload 7, 2) := by decide +kernel
theorem dX6_eliminate_91 : decode cX6_eliminate 91 = .ok (.lload_n 3, 1) := by decide +kernel
theorem dX6_eliminate_92 : decode cX6_eliminate 92 = .ok (.ldiv, 1) := by decide +kernel
theorem dX6_eliminate_93 : decode cX6_eliminate 93 = .ok (.lastore, 1) := by decide +kernel
theorem dX6_eliminate_94 : decode cX6_eliminate 94 = .ok (.iinc 6 1, 3) := by decide +kernel
theorem dX6_eliminate_97 : decode cX6_eliminate 97 = .ok (.goto (-74), 3) := by decide +kernel
theorem dX6_eliminate_100 : decode cX6_eliminate 100 = .ok (.iinc 5 1, 3) := by decide +kernel
theorem dX6_eliminate_103 : decode cX6_eliminate 103 = .ok (.goto (-91), 3) := by decide +kernel
theorem dX6_eliminate_106 : decode cX6_eliminate 106 = .ok (.return_, 1) := by decide +kernel
theorem dX7_init_0 : decode cX7_init 0 = .ok (.aload_n 0, 1) := by decide +kernel
theorem dX7_init_1 : decode cX7_init 1 = .ok (.invokespecial 3, 3) := by decide +kernel
theorem dX7_init_4 : decode cX7_init 4 = .ok (.return_, 1) := by decide +kernel
theorem dX7_read_0 : decode cX7_read 0 = .ok (.aload_n 0, 1) := by decide +kernel
theorem dX7_read_1 : decode cX7_read 1 = .ok (.lconst 0, 1) := by decide +kernel
theorem dX7_read_2 : decode cX7_read 2 = .ok (.putfield 9, 3) := by decide +kernel
theorem dX7_read_5 : decode cX7_read 5 = .ok (.aload_n 0, 1) := by decide +kernel
theorem dX7_read_6 : decode cX7_read 6 = .ok (.iconst 0, 1) := by decide +kernel
theorem dX7_read_7 : decode cX7_read 7 = .ok (.putfield 15, 3) := by decide +kernel
theorem dX7_read_10 : decode cX7_read 10 = .ok (.aload_n 0, 1) := by decide +kernel
theorem dX7_read_11 : decode cX7_read 11 = .ok (.iconst 0, 1) := by decide +kernel
theorem dX7_read_12 : decode cX7_read 12 = .ok (.putfield 19, 3) := by decide +kernel
theorem dX7_read_15 : decode cX7_read 15 = .ok (.aload_n 0, 1) := by decide +kernel
theorem dX7_read_16 : decode cX7_read 16 = .ok (.iconst 0, 1) := by decide +kernel
theorem dX7_read_17 : decode cX7_read 17 = .ok (.putfield 22, 3) := by decide +kernel
theorem dX7_read_20 : decode cX7_read 20 = .ok (.iconst 0, 1) := by decide +kernel
theorem dX7_read_21 : decode cX7_read 21 = .ok (.istore_n 3, 1) := by decide +kernel
theorem dX7_read_22 : decode cX7_read 22 = .ok (.iload_n 3, 1) := by decide +kernel
theorem dX7_read_23 : decode cX7_read 23 = .ok (.iload_n 2, 1) := by decide +kernel
theorem dX7_read_24 : decode cX7_read 24 = .ok (.if_icmp .ge 38, 3) := by decide +kernel
theorem dX7_read_27 : decode cX7_read 27 = .ok (.iload_n 3, 1) := by decide +kernel
theorem dX7_read_28 : decode cX7_read 28 = .ok (.aload_n 1, 1) := by decide +kernel
theorem dX7_read_29 : decode cX7_read 29 = .ok (.arraylength, 1) := by decide +kernel
theorem dX7_read_30 : decode cX7_read 30 = .ok (.if_icmp .ge 32, 3) := by decide +kernel
theorem dX7_read_33 : decode cX7_read 33 = .ok (.aload_n 0, 1) := by decide +kernel
theorem dX7_read_34 : decode cX7_read 34 = .ok (.aload_n 1, 1) := by decide +kernel
theorem dX7_read_35 : decode cX7_read 35 = .ok (.iload_n 3, 1) := by decide +kernel
theorem dX7_read_36 : decode cX7_read 36 = .ok (.baload, 1) := by decide +kernel
theorem dX7_read_37 : decode cX7_read 37 = .ok (.invokevirtual 25, 3) := by decide +kernel
theorem dX7_read_40 : decode cX7_read 40 = .ok (.istore 4, 2) := by decide +kernel
theorem dX7_read_42 : decode cX7_read 42 = .ok (.iload 4, 2) := by decide +kernel
theorem dX7_read_44 : decode cX7_read 44 = .ok (.ifCond .eq 12, 3) := by decide +kernel
theorem dX7_read_47 : decode cX7_read 47 = .ok (.sipush (-1000), 3) := by decide +kernel
theorem dX7_read_50 : decode cX7_read 50 = .ok (.iload 4, 2) := by decide +kernel
theorem dX7_read_52 : decode cX7_read 52 = .ok (.imul, 1) := by decide +kernel
theorem dX7_read_53 : decode cX7_read 53 = .ok (.iload_n 3, 1) := by decide +kernel
theorem dX7_read_54 : decode cX7_read 54 = .ok (.isub, 1) := by decide +kernel
theorem dX7_read_55 : decode cX7_read 55 = .ok (.ireturn, 1) := by decide +kernel
theorem dX7_read_56 : decode cX7_read 56 = .ok (.iinc 3 1, 3) := by decide +kernel
theorem dX7_read_59 : decode cX7_read 59 = .ok (.goto (-37), 3) := by decide +kernel
theorem dX7_read_62 : decode cX7_read 62 = .ok (.aload_n 0, 1) := by decide +kernel
theorem dX7_read_63 : decode cX7_read 63 = .ok (.getfield 9, 3) := by decide +kernel
theorem dX7_read_66 : decode cX7_read 66 = .ok (.invokestatic 29, 3) := by decide +kernel
theorem dX7_read_69 : decode cX7_read 69 = .ok (.ifCond .eq 7, 3) := by decide +kernel
theorem dX7_read_72 : decode cX7_read 72 = .ok (.iconst 0, 1) := by decide +kernel
theorem dX7_read_73 : decode cX7_read 73 = .ok (.goto 8, 3) := by decide +kernel
theorem dX7_read_76 : decode cX7_read 76 = .ok (.sipush (-5000), 3) := by decide +kernel
theorem dX7_read_79 : decode cX7_read 79 = .ok (.iload_n 2, 1) := by decide +kernel
theorem dX7_read_80 : decode cX7_read 80 = .ok (.isub, 1) := by decide +kernel
theorem dX7_read_81 : decode cX7_read 81 = .ok (.ireturn, 1) := by decide +kernel
theorem dX7_board_0 : decode cX7_board 0 = .ok (.aload_n 0, 1) := by decide +kernel
theorem dX7_board_1 : decode cX7_board 1 = .ok (.getfield 9, 3) := by decide +kernel
theorem dX7_board_4 : decode cX7_board 4 = .ok (.lreturn, 1) := by decide +kernel
theorem dX7_accept_0 : decode cX7_accept 0 = .ok (.iload_n 1, 1) := by decide +kernel
theorem dX7_accept_1 : decode cX7_accept 1 = .ok (.bipush 32, 2) := by decide +kernel
theorem dX7_accept_3 : decode cX7_accept 3 = .ok (.if_icmp .ne 5, 3) := by decide +kernel
theorem dX7_accept_6 : decode cX7_accept 6 = .ok (.iconst 0, 1) := by decide +kernel
theorem dX7_accept_7 : decode cX7_accept 7 = .ok (.ireturn, 1) := by decide +kernel
theorem dX7_accept_8 : decode cX7_accept 8 = .ok (.iload_n 1, 1) := by decide +kernel
theorem dX7_accept_9 : decode cX7_accept 9 = .ok (.bipush 47, 2) := by decide +kernel
theorem dX7_accept_11 : decode cX7_accept 11 = .ok (.if_icmp .ne 8, 3) := by decide +kernel
theorem dX7_accept_14 : decode cX7_accept 14 = .ok (.aload_n 0, 1) := by decide +kernel
theorem dX7_accept_15 : decode cX7_accept 15 = .ok (.invokevirtual 35, 3) := by decide +kernel
theorem dX7_accept_18 : decode cX7_accept 18 = .ok (.ireturn, 1) := by decide +kernel
theorem dX7_accept_19 : decode cX7_accept 19 = .ok (.iload_n 1, 1) := by decide +kernel
theorem dX7_accept_20 : decode cX7_accept 20 = .ok (.bipush 35, 2) := by decide +kernel
theorem dX7_accept_22 : decode cX7_accept 22 = .ok (.if_icmp .eq 11, 3) := by decide +kernel
theorem dX7_accept_25 : decode cX7_accept 25 = .ok (.iload_n 1, 1) := by decide +kernel
theorem dX7_accept_26 : decode cX7_accept 26 = .ok (.bipush 46, 2) := by decide +kernel
theorem dX7_accept_28 : decode cX7_accept 28 = .ok (.if_icmp .eq 5, 3) := by decide +kernel
theorem dX7_accept_31 : decode cX7_accept 31 = .ok (.iconst 1, 1) := by decide +kernel
theorem dX7_accept_32 : decode cX7_accept 32 = .ok (.ireturn, 1) := by decide +kernel
theorem dX7_accept_33 : decode cX7_accept 33 = .ok (.aload_n 0, 1) := by decide +kernel
theorem dX7_accept_34 : decode cX7_accept 34 = .ok (.getfield 15, 3) := by decide +kernel
theorem dX7_accept_37 : decode cX7_accept 37 = .ok (.bipush 7, 2) := by decide +kernel
theorem dX7_accept_39 : decode cX7_accept 39 = .ok (.if_icmp .lt 5, 3) := by decide +kernel
theorem dX7_accept_42 : decode cX7_accept 42 = .ok (.iconst 2, 1) := by decide +kernel
theorem dX7_accept_43 : decode cX7_accept 43 = .ok (.ireturn, 1) := by decide +kernel
theorem dX7_accept_44 : decode cX7_accept 44 = .ok (.iload_n 1, 1) := by decide +kernel
theorem dX7_accept_45 : decode cX7_accept 45 = .ok (.bipush 35, 2) := by decide +kernel
theorem dX7_accept_47 : decode cX7_accept 47 = .ok (.if_icmp .ne 47, 3) := by decide +kernel
theorem dX7_accept_50 : decode cX7_accept 50 = .ok (.aload_n 0, 1) := by decide +kernel
theorem dX7_accept_51 : decode cX7_accept 51 = .ok (.getfield 22, 3) := by decide +kernel
theorem dX7_accept_54 : decode cX7_accept 54 = .ok (.bipush 12, 2) := by decide +kernel
theorem dX7_accept_56 : decode cX7_accept 56 = .ok (.if_icmp .lt 5, 3) := by decide +kernel
theorem dX7_accept_59 : decode cX7_accept 59 = .ok (.iconst 4, 1) := by decide +kernel
theorem dX7_accept_60 : decode cX7_accept 60 = .ok (.ireturn, 1) := by decide +kernel
theorem dX7_accept_61 : decode cX7_accept 61 = .ok (.aload_n 0, 1) := by decide +kernel
theorem dX7_accept_62 : decode cX7_accept 62 = .ok (.dup, 1) := by decide +kernel
theorem dX7_accept_63 : decode cX7_accept 63 = .ok (.getfield 9, 3) := by decide +kernel
theorem dX7_accept_66 : decode cX7_accept 66 = .ok (.lconst 1, 1) := by decide +kernel
theorem dX7_accept_67 : decode cX7_accept 67 = .ok (.bipush 8, 2) := by decide +kernel
theorem dX7_accept_69 : decode cX7_accept 69 = .ok (.aload_n 0, 1) := by decide +kernel
theorem dX7_accept_70 : decode cX7_accept 70 = .ok (.getfield 19, 3) := by decide +kernel
theorem dX7_accept_73 : decode cX7_accept 73 = .ok (.imul, 1) := by decide +kernel
theorem dX7_accept_74 : decode cX7_accept 74 = .ok (.aload_n 0, 1) := by decide +kernel
theorem dX7_accept_75 : decode cX7_accept 75 = .ok (.getfield 15, 3) := by decide +kernel
theorem dX7_accept_78 : decode cX7_accept 78 = .ok (.iadd, 1) := by decide +kernel
theorem dX7_accept_79 : decode cX7_accept 79 = .ok (.lshl, 1) := by decide +kernel
theorem dX7_accept_80 : decode cX7_accept 80 = .ok (.lor, 1) := by decide +kernel
theorem dX7_accept_81 : decode cX7_accept 81 = .ok (.putfield 9, 3) := by decide +kernel
theorem dX7_accept_84 : decode cX7_accept 84 = .ok (.aload_n 0, 1) := by decide +kernel
theorem dX7_accept_85 : decode cX7_accept 85 = .ok (.dup, 1) := by decide +kernel
theorem dX7_accept_86 : decode cX7_accept 86 = .ok (.getfield 22, 3) := by decide +kernel
theorem dX7_accept_89 : decode cX7_accept 89 = .ok (.iconst 1, 1) := by decide +kernel
theorem dX7_accept_90 : decode cX7_accept 90 = .ok (.iadd, 1) := by decide +kernel
theorem dX7_accept_91 : decode cX7_accept 91 = .ok (.putfield 22, 3) := by decide +kernel
theorem dX7_accept_94 : decode cX7_accept 94 = .ok (.aload_n 0, 1) := by decide +kernel
theorem dX7_accept_95 : decode cX7_accept 95 = .ok (.dup, 1) := by decide +kernel
theorem dX7_accept_96 : decode cX7_accept 96 = .ok (.getfield 15, 3) := by decide +kernel
theorem dX7_accept_99 : decode cX7_accept 99 = .ok (.iconst 1, 1) := by decide +kernel
theorem dX7_accept_100 : decode cX7_accept 100 = .ok (.iadd, 1) := by decide +kernel
theorem dX7_accept_101 : decode cX7_accept 101 = .ok (.putfield 15, 3) := by decide +kernel
theorem dX7_accept_104 : decode cX7_accept 104 = .ok (.iconst 0, 1) := by decide +kernel
theorem dX7_accept_105 : decode cX7_accept 105 = .ok (.ireturn, 1) := by decide +kernel
theorem dX7_endRow_0 : decode cX7_endRow 0 = .ok (.aload_n 0, 1) := by decide +kernel
theorem dX7_endRow_1 : decode cX7_endRow 1 = .ok (.getfield 19, 3) := by decide +kernel
theorem dX7_endRow_4 : decode cX7_endRow 4 = .ok (.bipush 6, 2) := by decide +kernel
theorem dX7_endRow_6 : decode cX7_endRow 6 = .ok (.if_icmp .lt 5, 3) := by decide +kernel
theorem dX7_endRow_9 : decode cX7_endRow 9 = .ok (.iconst 3, 1) := by decide +kernel
theorem dX7_endRow_10 : decode cX7_endRow 10 = .ok (.ireturn, 1) := by decide +kernel
theorem dX7_endRow_11 : decode cX7_endRow 11 = .ok (.aload_n 0, 1) := by decide +kernel
theorem dX7_endRow_12 : decode cX7_endRow 12 = .ok (.dup, 1) := by decide +kernel
theorem dX7_endRow_13 : decode cX7_endRow 13 = .ok (.getfield 19, 3) := by decide +kernel
theorem dX7_endRow_16 : decode cX7_endRow 16 = .ok (.iconst 1, 1) := by decide +kernel
theorem dX7_endRow_17 : decode cX7_endRow 17 = .ok (.iadd, 1) := by decide +kernel
theorem dX7_endRow_18 : decode cX7_endRow 18 = .ok (.putfield 19, 3) := by decide +kernel
theorem dX7_endRow_21 : decode cX7_endRow 21 = .ok (.aload_n 0, 1) := by decide +kernel
theorem dX7_endRow_22 : decode cX7_endRow 22 = .ok (.iconst 0, 1) := by decide +kernel
theorem dX7_endRow_23 : decode cX7_endRow 23 = .ok (.putfield 15, 3) := by decide +kernel
theorem dX7_endRow_26 : decode cX7_endRow 26 = .ok (.iconst 0, 1) := by decide +kernel
theorem dX7_endRow_27 : decode cX7_endRow 27 = .ok (.ireturn, 1) := by decide +kernel
theorem dX8_init_0 : decode cX8_init 0 = .ok (.aload_n 0, 1) := by decide +kernel
theorem dX8_init_1 : decode cX8_init 1 = .ok (.invokespecial 1, 3) := by decide +kernel
theorem dX8_init_4 : decode cX8_init 4 = .ok (.aload_n 0, 1) := by decide +kernel
theorem dX8_init_5 : decode cX8_init 5 = .ok (.bipush 64, 2) := by decide +kernel
theorem dX8_init_7 : decode cX8_init 7 = .ok (.newarray .long, 2) := by decide +kernel
theorem dX8_init_9 : decode cX8_init 9 = .ok (.putfield 9, 3) := by decide +kernel
theorem dX8_init_12 : decode cX8_init 12 = .ok (.return_, 1) := by decide +kernel
theorem dX8_clear_0 : decode cX8_clear 0 = .ok (.aload_n 0, 1) := by decide +kernel
theorem dX8_clear_1 : decode cX8_clear 1 = .ok (.iconst 0, 1) := by decide +kernel
theorem dX8_clear_2 : decode cX8_clear 2 = .ok (.putfield 13, 3) := by decide +kernel
theorem dX8_clear_5 : decode cX8_clear 5 = .ok (.return_, 1) := by decide +kernel
theorem dX8_size_0 : decode cX8_size 0 = .ok (.aload_n 0, 1) := by decide +kernel
theorem dX8_size_1 : decode cX8_size 1 = .ok (.getfield 13, 3) := by decide +kernel
theorem dX8_size_4 : decode cX8_size 4 = .ok (.ireturn, 1) := by decide +kernel
theorem dX8_at_0 : decode cX8_at 0 = .ok (.iload_n 1, 1) := by decide +kernel
theorem dX8_at_1 : decode cX8_at 1 = .ok (.iconst 0, 1) := by decide +kernel
theorem dX8_at_2 : decode cX8_at 2 = .ok (.aload_n 0, 1) := by decide +kernel
theorem dX8_at_3 : decode cX8_at 3 = .ok (.getfield 13, 3) := by decide +kernel
theorem dX8_at_6 : decode cX8_at 6 = .ok (.iconst 1, 1) := by decide +kernel
theorem dX8_at_7 : decode cX8_at 7 = .ok (.isub, 1) := by decide +kernel
theorem dX8_at_8 : decode cX8_at 8 = .ok (.invokestatic 17, 3) := by decide +kernel
theorem dX8_at_11 : decode cX8_at 11 = .ok (.ifCond .eq 12, 3) := by decide +kernel
theorem dX8_at_14 : decode cX8_at 14 = .ok (.aload_n 0, 1) := by decide +kernel
theorem dX8_at_15 : decode cX8_at 15 = .ok (.getfield 9, 3) := by decide +kernel
theorem dX8_at_18 : decode cX8_at 18 = .ok (.iload_n 1, 1) := by decide +kernel
theorem dX8_at_19 : decode cX8_at 19 = .ok (.laload, 1) := by decide +kernel
theorem dX8_at_20 : decode cX8_at 20 = .ok (.goto 4, 3) := by decide +kernel
theorem dX8_at_23 : decode cX8_at 23 = .ok (.lconst 0, 1) := by decide +kernel
theorem dX8_at_24 : decode cX8_at 24 = .ok (.lreturn, 1) := by decide +kernel
theorem dX8_add_0 : decode cX8_add 0 = .ok (.aload_n 0, 1) := by decide +kernel
theorem dX8_add_1 : decode cX8_add 1 = .ok (.getfield 13, 3) := by decide +kernel
theorem dX8_add_4 : decode cX8_add 4 = .ok (.istore_n 3, 1) := by decide +kernel
theorem dX8_add_5 : decode cX8_add 5 = .ok (.aload_n 0, 1) := by decide +kernel
theorem dX8_add_6 : decode cX8_add 6 = .ok (.getfield 13, 3) := by decide +kernel
theorem dX8_add_9 : decode cX8_add 9 = .ok (.iconst 1, 1) := by decide +kernel
theorem dX8_add_10 : decode cX8_add 10 = .ok (.isub, 1) := by decide +kernel
theorem dX8_add_11 : decode cX8_add 11 = .ok (.istore 4, 2) := by decide +kernel
theorem dX8_add_13 : decode cX8_add 13 = .ok (.iload 4, 2) := by decide +kernel
theorem dX8_add_15 : decode cX8_add 15 = .ok (.ifCond .lt 24, 3) := by decide +kernel
theorem dX8_add_18 : decode cX8_add 18 = .ok (.aload_n 0, 1) := by decide +kernel
theorem dX8_add_19 : decode cX8_add 19 = .ok (.getfield 9, 3) := by decide +kernel
theorem dX8_add_22 : decode cX8_add 22 = .ok (.iload 4, 2) := by decide +kernel
theorem dX8_add_24 : decode cX8_add 24 = .ok (.laload, 1) := by decide +kernel
theorem dX8_add_25 : decode cX8_add 25 = .ok (.lload_n 1, 1) := by decide +kernel
theorem dX8_add_26 : decode cX8_add 26 = .ok (.lcmp, 1) := by decide +kernel
theorem dX8_add_27 : decode cX8_add 27 = .ok (.ifCond .lt 12, 3) := by decide +kernel
theorem dX8_add_30 : decode cX8_add 30 = .ok (.iload 4, 2) := by decide +kernel
theorem dX8_add_32 : decode cX8_add 32 = .ok (.istore_n 3, 1) := by decide +kernel
theorem dX8_add_33 : decode cX8_add 33 = .ok (.iinc 4 (-1), 3) := by decide +kernel
theorem dX8_add_36 : decode cX8_add 36 = .ok (.goto (-23), 3) := by decide +kernel
theorem dX8_add_39 : decode cX8_add 39 = .ok (.iload_n 3, 1) := by decide +kernel
theorem dX8_add_40 : decode cX8_add 40 = .ok (.aload_n 0, 1) := by decide +kernel
theorem dX8_add_41 : decode cX8_add 41 = .ok (.getfield 13, 3) := by decide +kernel
theorem dX8_add_44 : decode cX8_add 44 = .ok (.if_icmp .ge 14, 3) := by decide +kernel
theorem dX8_add_47 : decode cX8_add 47 = .ok (.aload_n 0, 1) := by decide +kernel
theorem dX8_add_48 : decode cX8_add 48 = .ok (.getfield 9, 3) := by decide +kernel
theorem dX8_add_51 : decode cX8_add 51 = .ok (.iload_n 3, 1) := by decide +kernel
theorem dX8_add_52 : decode cX8_add 52 = .ok (.laload, 1) := by decide +kernel
theorem dX8_add_53 : decode cX8_add 53 = .ok (.lload_n 1, 1) := by decide +kernel
theorem dX8_add_54 : decode cX8_add 54 = .ok (.lcmp, 1) := by decide +kernel
theorem dX8_add_55 : decode cX8_add 55 = .ok (.ifCond .eq 12, 3) := by decide +kernel
theorem dX8_add_58 : decode cX8_add 58 = .ok (.aload_n 0, 1) := by decide +kernel
theorem dX8_add_59 : decode cX8_add 59 = .ok (.getfield 13, 3) := by decide +kernel
theorem dX8_add_62 : decode cX8_add 62 = .ok (.bipush 64, 2) := by decide +kernel
theorem dX8_add_64 : decode cX8_add 64 = .ok (.if_icmp .lt 4, 3) := by decide +kernel
theorem dX8_add_67 : decode cX8_add 67 = .ok (.return_, 1) := by decide +kernel
theorem dX8_add_68 : decode cX8_add 68 = .ok (.aload_n 0, 1) := by decide +kernel
theorem dX8_add_69 : decode cX8_add 69 = .ok (.getfield 9, 3) := by decide +kernel
theorem dX8_add_72 : decode cX8_add 72 = .ok (.iload_n 3, 1) := by decide +kernel
theorem dX8_add_73 : decode cX8_add 73 = .ok (.aload_n 0, 1) := by decide +kernel
theorem dX8_add_74 : decode cX8_add 74 = .ok (.getfield 9, 3) := by decide +kernel
theorem dX8_add_77 : decode cX8_add 77 = .ok (.iload_n 3, 1) := by decide +kernel
theorem dX8_add_78 : decode cX8_add 78 = .ok (.iconst 1, 1) := by decide +kernel
theorem dX8_add_79 : decode cX8_add 79 = .ok (.iadd, 1) := by decide +kernel
theorem dX8_add_80 : decode cX8_add 80 = .ok (.aload_n 0, 1) := by decide +kernel
theorem dX8_add_81 : decode cX8_add 81 = .ok (.getfield 13, 3) := by decide +kernel
theorem dX8_add_84 : decode cX8_add 84 = .ok (.iload_n 3, 1) := by decide +kernel
theorem dX8_add_85 : decode cX8_add 85 = .ok (.isub, 1) := by decide +kernel
theorem dX8_add_86 : decode cX8_add 86 = .ok (.invokestatic 23, 3) := by decide +kernel
theorem dX8_add_89 : decode cX8_add 89 = .ok (.aload_n 0, 1) := by decide +kernel
theorem dX8_add_90 : decode cX8_add 90 = .ok (.getfield 9, 3) := by decide +kernel
theorem dX8_add_93 : decode cX8_add 93 = .ok (.iload_n 3, 1) := by decide +kernel
theorem dX8_add_94 : decode cX8_add 94 = .ok (.lload_n 1, 1) := by decide +kernel
theorem dX8_add_95 : decode cX8_add 95 = .ok (.lastore, 1) := by decide +kernel
theorem dX8_add_96 : decode cX8_add 96 = .ok (.aload_n 0, 1) := by decide +kernel
theorem dX8_add_97 : decode cX8_add 97 = .ok (.dup, 1) := by decide +kernel
theorem dX8_add_98 : decode cX8_add 98 = .ok (.getfield 13, 3) := by decide +kernel
theorem dX8_add_101 : decode cX8_add 101 = .ok (.iconst 1, 1) := by decide +kernel
theorem dX8_add_102 : decode cX8_add 102 = .ok (.iadd, 1) := by decide +kernel
theorem dX8_add_103 : decode cX8_add 103 = .ok (.putfield 13, 3) := by decide +kernel
theorem dX8_add_106 : decode cX8_add 106 = .ok (.return_, 1) := by decide +kernel
theorem dX9_of_0 : decode cX9_of 0 = .ok (.iload_n 2, 1) := by decide +kernel
theorem dX9_of_1 : decode cX9_of 1 = .ok (.tableswitch 172 0 14 #[75, 80, 85, 90, 95, 100, 108, 113, 118, 123, 131, 136, 149, 162, 167], 75) := by decide +kernel
theorem dX9_of_76 : decode cX9_of 76 = .ok (.lload_n 0, 1) := by decide +kernel
theorem dX9_of_77 : decode cX9_of 77 = .ok (.invokestatic 9, 3) := by decide +kernel
theorem dX9_of_80 : decode cX9_of 80 = .ok (.ireturn, 1) := by decide +kernel
theorem dX9_of_81 : decode cX9_of 81 = .ok (.lload_n 0, 1) := by decide +kernel
theorem dX9_of_82 : decode cX9_of 82 = .ok (.invokestatic 15, 3) := by decide +kernel
theorem dX9_of_85 : decode cX9_of 85 = .ok (.ireturn, 1) := by decide +kernel
theorem dX9_of_86 : decode cX9_of 86 = .ok (.lload_n 0, 1) := by decide +kernel
theorem dX9_of_87 : decode cX9_of 87 = .ok (.invokestatic 20, 3) := by decide +kernel
theorem dX9_of_90 : decode cX9_of 90 = .ok (.ireturn, 1) := by decide +kernel
theorem dX9_of_91 : decode cX9_of 91 = .ok (.lload_n 0, 1) := by decide +kernel
theorem dX9_of_92 : decode cX9_of 92 = .ok (.invokestatic 23, 3) := by decide +kernel
theorem dX9_of_95 : decode cX9_of 95 = .ok (.ireturn, 1) := by decide +kernel
theorem dX9_of_96 : decode cX9_of 96 = .ok (.lload_n 0, 1) := by decide +kernel
theorem dX9_of_97 : decode cX9_of 97 = .ok (.invokestatic 28, 3) := by decide +kernel
theorem dX9_of_100 : decode cX9_of 100 = .ok (.ireturn, 1) := by decide +kernel
theorem dX9_of_101 : decode cX9_of 101 = .ok (.lload_n 0, 1) := by decide +kernel
theorem dX9_of_102 : decode cX9_of 102 = .ok (.invokestatic 31, 3) := by decide +kernel
theorem dX9_of_105 : decode cX9_of 105 = .ok (.invokestatic 9, 3) := by decide +kernel
theorem dX9_of_108 : decode cX9_of 108 = .ok (.ireturn, 1) := by decide +kernel
theorem dX9_of_109 : decode cX9_of 109 = .ok (.lload_n 0, 1) := by decide +kernel
theorem dX9_of_110 : decode cX9_of 110 = .ok (.invokestatic 35, 3) := by decide +kernel
theorem dX9_of_113 : decode cX9_of 113 = .ok (.ireturn, 1) := by decide +kernel
theorem dX9_of_114 : decode cX9_of 114 = .ok (.lload_n 0, 1) := by decide +kernel
theorem dX9_of_115 : decode cX9_of 115 = .ok (.invokestatic 38, 3) := by decide +kernel
theorem dX9_of_118 : decode cX9_of 118 = .ok (.ireturn, 1) := by decide +kernel
theorem dX9_of_119 : decode cX9_of 119 = .ok (.lload_n 0, 1) := by decide +kernel
theorem dX9_of_120 : decode cX9_of 120 = .ok (.invokestatic 41, 3) := by decide +kernel
theorem dX9_of_123 : decode cX9_of 123 = .ok (.ireturn, 1) := by decide +kernel
theorem dX9_of_124 : decode cX9_of 124 = .ok (.lload_n 0, 1) := by decide +kernel
theorem dX9_of_125 : decode cX9_of 125 = .ok (.invokestatic 44, 3) := by decide +kernel
theorem dX9_of_128 : decode cX9_of 128 = .ok (.invokestatic 9, 3) := by decide +kernel
theorem dX9_of_131 : decode cX9_of 131 = .ok (.ireturn, 1) := by decide +kernel
theorem dX9_of_132 : decode cX9_of 132 = .ok (.lload_n 0, 1) := by decide +kernel
theorem dX9_of_133 : decode cX9_of 133 = .ok (.invokestatic 47, 3) := by decide +kernel
theorem dX9_of_136 : decode cX9_of 136 = .ok (.ireturn, 1) := by decide +kernel
theorem dX9_of_137 : decode cX9_of 137 = .ok (.lload_n 0, 1) := by decide +kernel
theorem dX9_of_138 : decode cX9_of 138 = .ok (.invokestatic 50, 3) := by decide +kernel
theorem dX9_of_141 : decode cX9_of 141 = .ok (.ifCond .eq 7, 3) := by decide +kernel
theorem dX9_of_144 : decode cX9_of 144 = .ok (.iconst 1, 1) := by decide +kernel
theorem dX9_of_145 : decode cX9_of 145 = .ok (.goto 4, 3) := by decide +kernel
theorem dX9_of_148 : decode cX9_of 148 = .ok (.iconst 0, 1) := by decide +kernel
theorem dX9_of_149 : decode cX9_of 149 = .ok (.ireturn, 1) := by decide +kernel
theorem dX9_of_150 : decode cX9_of 150 = .ok (.lload_n 0, 1) := by decide +kernel
theorem dX9_of_151 : decode cX9_of 151 = .ok (.invokestatic 54, 3) := by decide +kernel
theorem dX9_of_154 : decode cX9_of 154 = .ok (.ifCond .eq 7, 3) := by decide +kernel
theorem dX9_of_157 : decode cX9_of 157 = .ok (.iconst 1, 1) := by decide +kernel
theorem dX9_of_158 : decode cX9_of 158 = .ok (.goto 4, 3) := by decide +kernel
theorem dX9_of_161 : decode cX9_of 161 = .ok (.iconst 0, 1) := by decide +kernel
theorem dX9_of_162 : decode cX9_of 162 = .ok (.ireturn, 1) := by decide +kernel
theorem dX9_of_163 : decode cX9_of 163 = .ok (.lload_n 0, 1) := by decide +kernel
theorem dX9_of_164 : decode cX9_of 164 = .ok (.invokestatic 57, 3) := by decide +kernel
theorem dX9_of_167 : decode cX9_of 167 = .ok (.ireturn, 1) := by decide +kernel
theorem dX9_of_168 : decode cX9_of 168 = .ok (.lload_n 0, 1) := by decide +kernel
theorem dX9_of_169 : decode cX9_of 169 = .ok (.invokestatic 60, 3) := by decide +kernel
theorem dX9_of_172 : decode cX9_of 172 = .ok (.ireturn, 1) := by decide +kernel
theorem dX9_of_173 : decode cX9_of 173 = .ok (.iconst (-1), 1) := by decide +kernel
theorem dX9_of_174 : decode cX9_of 174 = .ok (.ireturn, 1) := by decide +kernel
theorem dX9_twos_0 : decode cX9_twos 0 = .ok (.lload_n 0, 1) := by decide +kernel
theorem dX9_twos_1 : decode cX9_twos 1 = .ok (.lload_n 0, 1) := by decide +kernel
theorem dX9_twos_2 : decode cX9_twos 2 = .ok (.iconst 1, 1) := by decide +kernel
theorem dX9_twos_3 : decode cX9_twos 3 = .ok (.lushr, 1) := by decide +kernel
theorem dX9_twos_4 : decode cX9_twos 4 = .ok (.land, 1) := by decide +kernel
theorem dX9_twos_5 : decode cX9_twos 5 = .ok (.invokestatic 9, 3) := by decide +kernel
theorem dX9_twos_8 : decode cX9_twos 8 = .ok (.lload_n 0, 1) := by decide +kernel
theorem dX9_twos_9 : decode cX9_twos 9 = .ok (.lload_n 0, 1) := by decide +kernel
theorem dX9_twos_10 : decode cX9_twos 10 = .ok (.bipush 8, 2) := by decide +kernel
theorem dX9_twos_12 : decode cX9_twos 12 = .ok (.lushr, 1) := by decide +kernel
theorem dX9_twos_13 : decode cX9_twos 13 = .ok (.land, 1) := by decide +kernel
theorem dX9_twos_14 : decode cX9_twos 14 = .ok (.invokestatic 9, 3) := by decide +kernel
theorem dX9_twos_17 : decode cX9_twos 17 = .ok (.iadd, 1) := by decide +kernel
theorem dX9_twos_18 : decode cX9_twos 18 = .ok (.ireturn, 1) := by decide +kernel
theorem dX9_sides_0 : decode cX9_sides 0 = .ok (.iconst 4, 1) := by decide +kernel
theorem dX9_sides_1 : decode cX9_sides 1 = .ok (.lload_n 0, 1) := by decide +kernel
theorem dX9_sides_2 : decode cX9_sides 2 = .ok (.invokestatic 9, 3) := by decide +kernel
theorem dX9_sides_5 : decode cX9_sides 5 = .ok (.imul, 1) := by decide +kernel
theorem dX9_sides_6 : decode cX9_sides 6 = .ok (.iconst 2, 1) := by decide +kernel
theorem dX9_sides_7 : decode cX9_sides 7 = .ok (.lload_n 0, 1) := by decide +kernel
theorem dX9_sides_8 : decode cX9_sides 8 = .ok (.invokestatic 60, 3) := by decide +kernel
theorem dX9_sides_11 : decode cX9_sides 11 = .ok (.imul, 1) := by decide +kernel
theorem dX9_sides_12 : decode cX9_sides 12 = .ok (.isub, 1) := by decide +kernel
theorem dX9_sides_13 : decode cX9_sides 13 = .ok (.ireturn, 1) := by decide +kernel
theorem dX9_hollow_0 : decode cX9_hollow 0 = .ok (.ldc2_w 63, 3) := by decide +kernel
theorem dX9_hollow_3 : decode cX9_hollow 3 = .ok (.lload_n 0, 1) := by decide +kernel
theorem dX9_hollow_4 : decode cX9_hollow 4 = .ok (.ldc2_w 65, 3) := by decide +kernel
theorem dX9_hollow_7 : decode cX9_hollow 7 = .ok (.lxor, 1) := by decide +kernel
theorem dX9_hollow_8 : decode cX9_hollow 8 = .ok (.land, 1) := by decide +kernel
theorem dX9_hollow_9 : decode cX9_hollow 9 = .ok (.lstore_n 2, 1) := by decide +kernel
theorem dX9_hollow_10 : decode cX9_hollow 10 = .ok (.ldc2_w 67, 3) := by decide +kernel
theorem dX9_hollow_13 : decode cX9_hollow 13 = .ok (.lstore 4, 2) := by decide +kernel
theorem dX9_hollow_15 : decode cX9_hollow 15 = .ok (.lload_n 2, 1) := by decide +kernel
theorem dX9_hollow_16 : decode cX9_hollow 16 = .ok (.lload 4, 2) := by decide +kernel
theorem dX9_hollow_18 : decode cX9_hollow 18 = .ok (.lload_n 2, 1) := by decide +kernel
theorem dX9_hollow_19 : decode cX9_hollow 19 = .ok (.invokestatic 69, 3) := by decide +kernel
theorem dX9_hollow_22 : decode cX9_hollow 22 = .ok (.ldc2_w 65, 3) := by decide +kernel
theorem dX9_hollow_25 : decode cX9_hollow 25 = .ok (.lxor, 1) := by decide +kernel
theorem dX9_hollow_26 : decode cX9_hollow 26 = .ok (.land, 1) := by decide +kernel
theorem dX9_hollow_27 : decode cX9_hollow 27 = .ok (.lreturn, 1) := by decide +kernel
theorem dX9_holes_0 : decode cX9_holes 0 = .ok (.lload_n 0, 1) := by decide +kernel
theorem dX9_holes_1 : decode cX9_holes 1 = .ok (.invokestatic 31, 3) := by decide +kernel
theorem dX9_holes_4 : decode cX9_holes 4 = .ok (.lstore_n 2, 1) := by decide +kernel
theorem dX9_holes_5 : decode cX9_holes 5 = .ok (.iconst 0, 1) := by decide +kernel
theorem dX9_holes_6 : decode cX9_holes 6 = .ok (.istore 4, 2) := by decide +kernel
theorem dX9_holes_8 : decode cX9_holes 8 = .ok (.iconst 0, 1) := by decide +kernel
theorem dX9_holes_9 : decode cX9_holes 9 = .ok (.istore 5, 2) := by decide +kernel
theorem dX9_holes_11 : decode cX9_holes 11 = .ok (.iload 5, 2) := by decide +kernel
theorem dX9_holes_13 : decode cX9_holes 13 = .ok (.bipush 64, 2) := by decide +kernel
theorem dX9_holes_15 : decode cX9_holes 15 = .ok (.if_icmp .ge 33, 3) := by decide +kernel
theorem dX9_holes_18 : decode cX9_holes 18 = .ok (.lload_n 2, 1) := by decide +kernel
theorem dX9_holes_19 : decode cX9_holes 19 = .ok (.lconst 0, 1) := by decide +kernel
theorem dX9_holes_20 : decode cX9_holes 20 = .ok (.lcmp, 1) := by decide +kernel
theorem dX9_holes_21 : decode cX9_holes 21 = .ok (.ifCond .eq 27, 3) := by decide +kernel
theorem dX9_holes_24 : decode cX9_holes 24 = .ok (.lload_n 2, 1) := by decide +kernel
theorem dX9_holes_25 : decode cX9_holes 25 = .ok (.lload_n 2, 1) := by decide +kernel
theorem dX9_holes_26 : decode cX9_holes 26 = .ok (.lload_n 2, 1) := by decide +kernel
theorem dX9_holes_27 : decode cX9_holes 27 = .ok (.lneg, 1) := by decide +kernel
theorem dX9_holes_28 : decode cX9_holes 28 = .ok (.land, 1) := by decide +kernel
theorem dX9_holes_29 : decode cX9_holes 29 = .ok (.lload_n 2, 1) := by decide +kernel
theorem dX9_holes_30 : decode cX9_holes 30 = .ok (.invokestatic 69, 3) := by decide +kernel
theorem dX9_holes_33 : decode cX9_holes 33 = .ok (.ldc2_w 65, 3) := by decide +kernel
theorem dX9_holes_36 : decode cX9_holes 36 = .ok (.lxor, 1) := by decide +kernel
theorem dX9_holes_37 : decode cX9_holes 37 = .ok (.land, 1) := by decide +kernel
theorem dX9_holes_38 : decode cX9_holes 38 = .ok (.lstore_n 2, 1) := by decide +kernel
theorem dX9_holes_39 : decode cX9_holes 39 = .ok (.iinc 4 1, 3) := by decide +kernel
theorem dX9_holes_42 : decode cX9_holes 42 = .ok (.iinc 5 1, 3) := by decide +kernel
theorem dX9_holes_45 : decode cX9_holes 45 = .ok (.goto (-34), 3) := by decide +kernel
theorem dX9_holes_48 : decode cX9_holes 48 = .ok (.iload 4, 2) := by decide +kernel
theorem dX9_holes_50 : decode cX9_holes 50 = .ok (.ireturn, 1) := by decide +kernel
theorem dX9_cutCells_0 : decode cX9_cutCells 0 = .ok (.lload_n 0, 1) := by decide +kernel
theorem dX9_cutCells_1 : decode cX9_cutCells 1 = .ok (.invokestatic 9, 3) := by decide +kernel
theorem dX9_cutCells_4 : decode cX9_cutCells 4 = .ok (.istore_n 2, 1) := by decide +kernel
theorem dX9_cutCells_5 : decode cX9_cutCells 5 = .ok (.lload_n 0, 1) := by decide +kernel
theorem dX9_cutCells_6 : decode cX9_cutCells 6 = .ok (.lstore_n 3, 1) := by decide +kernel
theorem dX9_cutCells_7 : decode cX9_cutCells 7 = .ok (.iconst 0, 1) := by decide +kernel
theorem dX9_cutCells_8 : decode cX9_cutCells 8 = .ok (.istore 5, 2) := by decide +kernel
theorem dX9_cutCells_10 : decode cX9_cutCells 10 = .ok (.iconst 0, 1) := by decide +kernel
theorem dX9_cutCells_11 : decode cX9_cutCells 11 = .ok (.istore 6, 2) := by decide +kernel
theorem dX9_cutCells_13 : decode cX9_cutCells 13 = .ok (.iload 6, 2) := by decide +kernel
theorem dX9_cutCells_15 : decode cX9_cutCells 15 = .ok (.iload_n 2, 1) := by decide +kernel
theorem dX9_cutCells_16 : decode cX9_cutCells 16 = .ok (.if_icmp .ge 38, 3) := by decide +kernel
theorem dX9_cutCells_19 : decode cX9_cutCells 19 = .ok (.iload_n 2, 1) := by decide +kernel
theorem dX9_cutCells_20 : decode cX9_cutCells 20 = .ok (.iconst 1, 1) := by decide +kernel
theorem dX9_cutCells_21 : decode cX9_cutCells 21 = .ok (.if_icmp .le 33, 3) := by decide +kernel
theorem dX9_cutCells_24 : decode cX9_cutCells 24 = .ok (.lload_n 3, 1) := by decide +kernel
theorem dX9_cutCells_25 : decode cX9_cutCells 25 = .ok (.lload_n 3, 1) := by decide +kernel
theorem dX9_cutCells_26 : decode cX9_cutCells 26 = .ok (.lneg, 1) := by decide +kernel
theorem dX9_cutCells_27 : decode cX9_cutCells 27 = .ok (.land, 1) := by decide +kernel
theorem dX9_cutCells_28 : decode cX9_cutCells 28 = .ok (.lstore 7, 2) := by decide +kernel
theorem dX9_cutCells_30 : decode cX9_cutCells 30 = .ok (.lload_n 3, 1) := by decide +kernel
theorem dX9_cutCells_31 : decode cX9_cutCells 31 = .ok (.lload 7, 2) := by decide +kernel
theorem dX9_cutCells_33 : decode cX9_cutCells 33 = .ok (.lxor, 1) := by decide +kernel
theorem dX9_cutCells_34 : decode cX9_cutCells 34 = .ok (.lstore_n 3, 1) := by decide +kernel
theorem dX9_cutCells_35 : decode cX9_cutCells 35 = .ok (.lload_n 0, 1) := by decide +kernel
theorem dX9_cutCells_36 : decode cX9_cutCells 36 = .ok (.lload 7, 2) := by decide +kernel
theorem dX9_cutCells_38 : decode cX9_cutCells 38 = .ok (.lxor, 1) := by decide +kernel
theorem dX9_cutCells_39 : decode cX9_cutCells 39 = .ok (.invokestatic 73, 3) := by decide +kernel
theorem dX9_cutCells_42 : decode cX9_cutCells 42 = .ok (.ifCond .ne 6, 3) := by decide +kernel
theorem dX9_cutCells_45 : decode cX9_cutCells 45 = .ok (.iinc 5 1, 3) := by decide +kernel
theorem dX9_cutCells_48 : decode cX9_cutCells 48 = .ok (.iinc 6 1, 3) := by decide +kernel
theorem dX9_cutCells_51 : decode cX9_cutCells 51 = .ok (.goto (-38), 3) := by decide +kernel
theorem dX9_cutCells_54 : decode cX9_cutCells 54 = .ok (.iload 5, 2) := by decide +kernel
theorem dX9_cutCells_56 : decode cX9_cutCells 56 = .ok (.ireturn, 1) := by decide +kernel
theorem dX9_beside_0 : decode cX9_beside 0 = .ok (.lload_n 0, 1) := by decide +kernel
theorem dX9_beside_1 : decode cX9_beside 1 = .ok (.invokestatic 76, 3) := by decide +kernel
theorem dX9_beside_4 : decode cX9_beside 4 = .ok (.lload_n 0, 1) := by decide +kernel
theorem dX9_beside_5 : decode cX9_beside 5 = .ok (.ldc2_w 65, 3) := by decide +kernel
theorem dX9_beside_8 : decode cX9_beside 8 = .ok (.lxor, 1) := by decide +kernel
theorem dX9_beside_9 : decode cX9_beside 9 = .ok (.land, 1) := by decide +kernel
theorem dX9_beside_10 : decode cX9_beside 10 = .ok (.ldc2_w 63, 3) := by decide +kernel
theorem dX9_beside_13 : decode cX9_beside 13 = .ok (.land, 1) := by decide +kernel
theorem dX9_beside_14 : decode cX9_beside 14 = .ok (.invokestatic 9, 3) := by decide +kernel
theorem dX9_beside_17 : decode cX9_beside 17 = .ok (.lload_n 0, 1) := by decide +kernel
theorem dX9_beside_18 : decode cX9_beside 18 = .ok (.ldc2_w 79, 3) := by decide +kernel
theorem dX9_beside_21 : decode cX9_beside 21 = .ok (.land, 1) := by decide +kernel
theorem dX9_beside_22 : decode cX9_beside 22 = .ok (.invokestatic 9, 3) := by decide +kernel
theorem dX9_beside_25 : decode cX9_beside 25 = .ok (.iadd, 1) := by decide +kernel
theorem dX9_beside_26 : decode cX9_beside 26 = .ok (.lload_n 0, 1) := by decide +kernel
theorem dX9_beside_27 : decode cX9_beside 27 = .ok (.ldc2_w 81, 3) := by decide +kernel
theorem dX9_beside_30 : decode cX9_beside 30 = .ok (.land, 1) := by decide +kernel
theorem dX9_beside_31 : decode cX9_beside 31 = .ok (.invokestatic 9, 3) := by decide +kernel
theorem dX9_beside_34 : decode cX9_beside 34 = .ok (.iadd, 1) := by decide +kernel
theorem dX9_beside_35 : decode cX9_beside 35 = .ok (.lload_n 0, 1) := by decide +kernel
theorem dX9_beside_36 : decode cX9_beside 36 = .ok (.ldc2_w 83, 3) := by decide +kernel
theorem dX9_beside_39 : decode cX9_beside 39 = .ok (.land, 1) := by decide +kernel
theorem dX9_beside_40 : decode cX9_beside 40 = .ok (.invokestatic 9, 3) := by decide +kernel
theorem dX9_beside_43 : decode cX9_beside 43 = .ok (.iadd, 1) := by decide +kernel
theorem dX9_beside_44 : decode cX9_beside 44 = .ok (.lload_n 0, 1) := by decide +kernel
theorem dX9_beside_45 : decode cX9_beside 45 = .ok (.ldc2_w 85, 3) := by decide +kernel
theorem dX9_beside_48 : decode cX9_beside 48 = .ok (.land, 1) := by decide +kernel
theorem dX9_beside_49 : decode cX9_beside 49 = .ok (.invokestatic 9, 3) := by decide +kernel
theorem dX9_beside_52 : decode cX9_beside 52 = .ok (.iadd, 1) := by decide +kernel
theorem dX9_beside_53 : decode cX9_beside 53 = .ok (.ireturn, 1) := by decide +kernel
theorem dX9_threes_0 : decode cX9_threes 0 = .ok (.lload_n 0, 1) := by decide +kernel
theorem dX9_threes_1 : decode cX9_threes 1 = .ok (.lstore_n 2, 1) := by decide +kernel
theorem dX9_threes_2 : decode cX9_threes 2 = .ok (.lload_n 0, 1) := by decide +kernel
theorem dX9_threes_3 : decode cX9_threes 3 = .ok (.iconst 1, 1) := by decide +kernel
theorem dX9_threes_4 : decode cX9_threes 4 = .ok (.lshl, 1) := by decide +kernel
theorem dX9_threes_5 : decode cX9_threes 5 = .ok (.lstore 4, 2) := by decide +kernel
theorem dX9_threes_7 : decode cX9_threes 7 = .ok (.lload_n 0, 1) := by decide +kernel
theorem dX9_threes_8 : decode cX9_threes 8 = .ok (.bipush 8, 2) := by decide +kernel
theorem dX9_threes_10 : decode cX9_threes 10 = .ok (.lshl, 1) := by decide +kernel
theorem dX9_threes_11 : decode cX9_threes 11 = .ok (.lstore 6, 2) := by decide +kernel
theorem dX9_threes_13 : decode cX9_threes 13 = .ok (.lload_n 0, 1) := by decide +kernel
theorem dX9_threes_14 : decode cX9_threes 14 = .ok (.bipush 9, 2) := by decide +kernel
theorem dX9_threes_16 : decode cX9_threes 16 = .ok (.lshl, 1) := by decide +kernel
theorem dX9_threes_17 : decode cX9_threes 17 = .ok (.lstore 8, 2) := by decide +kernel
theorem dX9_threes_19 : decode cX9_threes 19 = .ok (.lload_n 2, 1) := by decide +kernel
theorem dX9_threes_20 : decode cX9_threes 20 = .ok (.lload 4, 2) := by decide +kernel
theorem dX9_threes_22 : decode cX9_threes 22 = .ok (.land, 1) := by decide +kernel
theorem dX9_threes_23 : decode cX9_threes 23 = .ok (.lload 6, 2) := by decide +kernel
theorem dX9_threes_25 : decode cX9_threes 25 = .ok (.lload 8, 2) := by decide +kernel
theorem dX9_threes_27 : decode cX9_threes 27 = .ok (.lxor, 1) := by decide +kernel
theorem dX9_threes_28 : decode cX9_threes 28 = .ok (.land, 1) := by decide +kernel
theorem dX9_threes_29 : decode cX9_threes 29 = .ok (.lload 6, 2) := by decide +kernel
theorem dX9_threes_31 : decode cX9_threes 31 = .ok (.lload 8, 2) := by decide +kernel
theorem dX9_threes_33 : decode cX9_threes 33 = .ok (.land, 1) := by decide +kernel
theorem dX9_threes_34 : decode cX9_threes 34 = .ok (.lload_n 2, 1) := by decide +kernel
theorem dX9_threes_35 : decode cX9_threes 35 = .ok (.lload 4, 2) := by decide +kernel
theorem dX9_threes_37 : decode cX9_threes 37 = .ok (.lxor, 1) := by decide +kernel
theorem dX9_threes_38 : decode cX9_threes 38 = .ok (.land, 1) := by decide +kernel
theorem dX9_threes_39 : decode cX9_threes 39 = .ok (.lor, 1) := by decide +kernel
theorem dX9_threes_40 : decode cX9_threes 40 = .ok (.lreturn, 1) := by decide +kernel
theorem dX9_aslant_0 : decode cX9_aslant 0 = .ok (.lload_n 0, 1) := by decide +kernel
theorem dX9_aslant_1 : decode cX9_aslant 1 = .ok (.lload_n 0, 1) := by decide +kernel
theorem dX9_aslant_2 : decode cX9_aslant 2 = .ok (.bipush 9, 2) := by decide +kernel
theorem dX9_aslant_4 : decode cX9_aslant 4 = .ok (.lshl, 1) := by decide +kernel
theorem dX9_aslant_5 : decode cX9_aslant 5 = .ok (.land, 1) := by decide +kernel
theorem dX9_aslant_6 : decode cX9_aslant 6 = .ok (.lstore_n 2, 1) := by decide +kernel
theorem dX9_aslant_7 : decode cX9_aslant 7 = .ok (.lload_n 0, 1) := by decide +kernel
theorem dX9_aslant_8 : decode cX9_aslant 8 = .ok (.iconst 1, 1) := by decide +kernel
theorem dX9_aslant_9 : decode cX9_aslant 9 = .ok (.lshl, 1) := by decide +kernel
theorem dX9_aslant_10 : decode cX9_aslant 10 = .ok (.lload_n 0, 1) := by decide +kernel
theorem dX9_aslant_11 : decode cX9_aslant 11 = .ok (.bipush 8, 2) := by decide +kernel
theorem dX9_aslant_13 : decode cX9_aslant 13 = .ok (.lshl, 1) := by decide +kernel
theorem dX9_aslant_14 : decode cX9_aslant 14 = .ok (.land, 1) := by decide +kernel
theorem dX9_aslant_15 : decode cX9_aslant 15 = .ok (.lstore 4, 2) := by decide +kernel
theorem dX9_aslant_17 : decode cX9_aslant 17 = .ok (.lload_n 2, 1) := by decide +kernel
theorem dX9_aslant_18 : decode cX9_aslant 18 = .ok (.lload_n 0, 1) := by decide +kernel
theorem dX9_aslant_19 : decode cX9_aslant 19 = .ok (.iconst 1, 1) := by decide +kernel
theorem dX9_aslant_20 : decode cX9_aslant 20 = .ok (.lshl, 1) := by decide +kernel
theorem dX9_aslant_21 : decode cX9_aslant 21 = .ok (.lload_n 0, 1) := by decide +kernel
theorem dX9_aslant_22 : decode cX9_aslant 22 = .ok (.bipush 8, 2) := by decide +kernel
theorem dX9_aslant_24 : decode cX9_aslant 24 = .ok (.lshl, 1) := by decide +kernel
theorem dX9_aslant_25 : decode cX9_aslant 25 = .ok (.lor, 1) := by decide +kernel
theorem dX9_aslant_26 : decode cX9_aslant 26 = .ok (.ldc2_w 65, 3) := by decide +kernel
theorem dX9_aslant_29 : decode cX9_aslant 29 = .ok (.lxor, 1) := by decide +kernel
theorem dX9_aslant_30 : decode cX9_aslant 30 = .ok (.land, 1) := by decide +kernel
theorem dX9_aslant_31 : decode cX9_aslant 31 = .ok (.lload 4, 2) := by decide +kernel
theorem dX9_aslant_33 : decode cX9_aslant 33 = .ok (.lload_n 0, 1) := by decide +kernel
theorem dX9_aslant_34 : decode cX9_aslant 34 = .ok (.lload_n 0, 1) := by decide +kernel
theorem dX9_aslant_35 : decode cX9_aslant 35 = .ok (.bipush 9, 2) := by decide +kernel
theorem dX9_aslant_37 : decode cX9_aslant 37 = .ok (.lshl, 1) := by decide +kernel
theorem dX9_aslant_38 : decode cX9_aslant 38 = .ok (.lor, 1) := by decide +kernel
theorem dX9_aslant_39 : decode cX9_aslant 39 = .ok (.ldc2_w 65, 3) := by decide +kernel
theorem dX9_aslant_42 : decode cX9_aslant 42 = .ok (.lxor, 1) := by decide +kernel
theorem dX9_aslant_43 : decode cX9_aslant 43 = .ok (.land, 1) := by decide +kernel
theorem dX9_aslant_44 : decode cX9_aslant 44 = .ok (.lor, 1) := by decide +kernel
theorem dX9_aslant_45 : decode cX9_aslant 45 = .ok (.lreturn, 1) := by decide +kernel
theorem dX9_outer_0 : decode cX9_outer 0 = .ok (.lload_n 0, 1) := by decide +kernel
theorem dX9_outer_1 : decode cX9_outer 1 = .ok (.lload_n 0, 1) := by decide +kernel
theorem dX9_outer_2 : decode cX9_outer 2 = .ok (.iconst 1, 1) := by decide +kernel
theorem dX9_outer_3 : decode cX9_outer 3 = .ok (.lshl, 1) := by decide +kernel
theorem dX9_outer_4 : decode cX9_outer 4 = .ok (.lxor, 1) := by decide +kernel
theorem dX9_outer_5 : decode cX9_outer 5 = .ok (.lload_n 0, 1) := by decide +kernel
theorem dX9_outer_6 : decode cX9_outer 6 = .ok (.bipush 8, 2) := by decide +kernel
theorem dX9_outer_8 : decode cX9_outer 8 = .ok (.lshl, 1) := by decide +kernel
theorem dX9_outer_9 : decode cX9_outer 9 = .ok (.lxor, 1) := by decide +kernel
theorem dX9_outer_10 : decode cX9_outer 10 = .ok (.lload_n 0, 1) := by decide +kernel
theorem dX9_outer_11 : decode cX9_outer 11 = .ok (.bipush 9, 2) := by decide +kernel
theorem dX9_outer_13 : decode cX9_outer 13 = .ok (.lshl, 1) := by decide +kernel
theorem dX9_outer_14 : decode cX9_outer 14 = .ok (.lxor, 1) := by decide +kernel
theorem dX9_outer_15 : decode cX9_outer 15 = .ok (.lstore_n 2, 1) := by decide +kernel
theorem dX9_outer_16 : decode cX9_outer 16 = .ok (.lload_n 2, 1) := by decide +kernel
theorem dX9_outer_17 : decode cX9_outer 17 = .ok (.lload_n 0, 1) := by decide +kernel
theorem dX9_outer_18 : decode cX9_outer 18 = .ok (.invokestatic 44, 3) := by decide +kernel
theorem dX9_outer_21 : decode cX9_outer 21 = .ok (.ldc2_w 65, 3) := by decide +kernel
theorem dX9_outer_24 : decode cX9_outer 24 = .ok (.lxor, 1) := by decide +kernel
theorem dX9_outer_25 : decode cX9_outer 25 = .ok (.land, 1) := by decide +kernel
theorem dX9_outer_26 : decode cX9_outer 26 = .ok (.invokestatic 9, 3) := by decide +kernel
theorem dX9_outer_29 : decode cX9_outer 29 = .ok (.iconst 2, 1) := by decide +kernel
theorem dX9_outer_30 : decode cX9_outer 30 = .ok (.lload_n 0, 1) := by decide +kernel
theorem dX9_outer_31 : decode cX9_outer 31 = .ok (.invokestatic 87, 3) := by decide +kernel
theorem dX9_outer_34 : decode cX9_outer 34 = .ok (.invokestatic 9, 3) := by decide +kernel
theorem dX9_outer_37 : decode cX9_outer 37 = .ok (.imul, 1) := by decide +kernel
theorem dX9_outer_38 : decode cX9_outer 38 = .ok (.iadd, 1) := by decide +kernel
theorem dX9_outer_39 : decode cX9_outer 39 = .ok (.ireturn, 1) := by decide +kernel
theorem dX9_squares_0 : decode cX9_squares 0 = .ok (.lload_n 0, 1) := by decide +kernel
theorem dX9_squares_1 : decode cX9_squares 1 = .ok (.lload_n 0, 1) := by decide +kernel
theorem dX9_squares_2 : decode cX9_squares 2 = .ok (.iconst 1, 1) := by decide +kernel
theorem dX9_squares_3 : decode cX9_squares 3 = .ok (.lshl, 1) := by decide +kernel
theorem dX9_squares_4 : decode cX9_squares 4 = .ok (.land, 1) := by decide +kernel
theorem dX9_squares_5 : decode cX9_squares 5 = .ok (.lload_n 0, 1) := by decide +kernel
theorem dX9_squares_6 : decode cX9_squares 6 = .ok (.bipush 8, 2) := by decide +kernel
theorem dX9_squares_8 : decode cX9_squares 8 = .ok (.lshl, 1) := by decide +kernel
theorem dX9_squares_9 : decode cX9_squares 9 = .ok (.land, 1) := by decide +kernel
theorem dX9_squares_10 : decode cX9_squares 10 = .ok (.lload_n 0, 1) := by decide +kernel
theorem dX9_squares_11 : decode cX9_squares 11 = .ok (.bipush 9, 2) := by decide +kernel
theorem dX9_squares_13 : decode cX9_squares 13 = .ok (.lshl, 1) := by decide +kernel
theorem dX9_squares_14 : decode cX9_squares 14 = .ok (.land, 1) := by decide +kernel
theorem dX9_squares_15 : decode cX9_squares 15 = .ok (.invokestatic 9, 3) := by decide +kernel
theorem dX9_squares_18 : decode cX9_squares 18 = .ok (.ireturn, 1) := by decide +kernel
theorem dX9_isRowWhole_0 : decode cX9_isRowWhole 0 = .ok (.lload_n 0, 1) := by decide +kernel
theorem dX9_isRowWhole_1 : decode cX9_isRowWhole 1 = .ok (.lload_n 0, 1) := by decide +kernel
theorem dX9_isRowWhole_2 : decode cX9_isRowWhole 2 = .ok (.iconst 1, 1) := by decide +kernel
theorem dX9_isRowWhole_3 : decode cX9_isRowWhole 3 = .ok (.lshl, 1) := by decide +kernel
theorem dX9_isRowWhole_4 : decode cX9_isRowWhole 4 = .ok (.ldc2_w 65, 3) := by decide +kernel
theorem dX9_isRowWhole_7 : decode cX9_isRowWhole 7 = .ok (.lxor, 1) := by decide +kernel
theorem dX9_isRowWhole_8 : decode cX9_isRowWhole 8 = .ok (.land, 1) := by decide +kernel
theorem dX9_isRowWhole_9 : decode cX9_isRowWhole 9 = .ok (.invokestatic 9, 3) := by decide +kernel
theorem dX9_isRowWhole_12 : decode cX9_isRowWhole 12 = .ok (.lload_n 0, 1) := by decide +kernel
theorem dX9_isRowWhole_13 : decode cX9_isRowWhole 13 = .ok (.invokestatic 20, 3) := by decide +kernel
theorem dX9_isRowWhole_16 : decode cX9_isRowWhole 16 = .ok (.if_icmp .ne 7, 3) := by decide +kernel
theorem dX9_isRowWhole_19 : decode cX9_isRowWhole 19 = .ok (.iconst 1, 1) := by decide +kernel
theorem dX9_isRowWhole_20 : decode cX9_isRowWhole 20 = .ok (.goto 4, 3) := by decide +kernel
theorem dX9_isRowWhole_23 : decode cX9_isRowWhole 23 = .ok (.iconst 0, 1) := by decide +kernel
theorem dX9_isRowWhole_24 : decode cX9_isRowWhole 24 = .ok (.ireturn, 1) := by decide +kernel
theorem dX9_isColumnWhole_0 : decode cX9_isColumnWhole 0 = .ok (.lload_n 0, 1) := by decide +kernel
theorem dX9_isColumnWhole_1 : decode cX9_isColumnWhole 1 = .ok (.lload_n 0, 1) := by decide +kernel
theorem dX9_isColumnWhole_2 : decode cX9_isColumnWhole 2 = .ok (.bipush 8, 2) := by decide +kernel
theorem dX9_isColumnWhole_4 : decode cX9_isColumnWhole 4 = .ok (.lshl, 1) := by decide +kernel
theorem dX9_isColumnWhole_5 : decode cX9_isColumnWhole 5 = .ok (.ldc2_w 65, 3) := by decide +kernel
theorem dX9_isColumnWhole_8 : decode cX9_isColumnWhole 8 = .ok (.lxor, 1) := by decide +kernel
theorem dX9_isColumnWhole_9 : decode cX9_isColumnWhole 9 = .ok (.land, 1) := by decide +kernel
theorem dX9_isColumnWhole_10 : decode cX9_isColumnWhole 10 = .ok (.invokestatic 9, 3) := by decide +kernel
theorem dX9_isColumnWhole_13 : decode cX9_isColumnWhole 13 = .ok (.lload_n 0, 1) := by decide +kernel
theorem dX9_isColumnWhole_14 : decode cX9_isColumnWhole 14 = .ok (.invokestatic 15, 3) := by decide +kernel
theorem dX9_isColumnWhole_17 : decode cX9_isColumnWhole 17 = .ok (.if_icmp .ne 7, 3) := by decide +kernel
theorem dX9_isColumnWhole_20 : decode cX9_isColumnWhole 20 = .ok (.iconst 1, 1) := by decide +kernel
theorem dX9_isColumnWhole_21 : decode cX9_isColumnWhole 21 = .ok (.goto 4, 3) := by decide +kernel
theorem dX9_isColumnWhole_24 : decode cX9_isColumnWhole 24 = .ok (.iconst 0, 1) := by decide +kernel
theorem dX9_isColumnWhole_25 : decode cX9_isColumnWhole 25 = .ok (.ireturn, 1) := by decide +kernel
theorem dX9_same_0 : decode cX9_same 0 = .ok (.iconst 1, 1) := by decide +kernel
theorem dX9_same_1 : decode cX9_same 1 = .ok (.istore_n 2, 1) := by decide +kernel
theorem dX9_same_2 : decode cX9_same 2 = .ok (.lload_n 0, 1) := by decide +kernel
theorem dX9_same_3 : decode cX9_same 3 = .ok (.lstore_n 3, 1) := by decide +kernel
theorem dX9_same_4 : decode cX9_same 4 = .ok (.iconst 1, 1) := by decide +kernel
theorem dX9_same_5 : decode cX9_same 5 = .ok (.istore 5, 2) := by decide +kernel
theorem dX9_same_7 : decode cX9_same 7 = .ok (.iload 5, 2) := by decide +kernel
theorem dX9_same_9 : decode cX9_same 9 = .ok (.bipush 8, 2) := by decide +kernel
theorem dX9_same_11 : decode cX9_same 11 = .ok (.if_icmp .ge 36, 3) := by decide +kernel
theorem dX9_same_14 : decode cX9_same 14 = .ok (.iload 5, 2) := by decide +kernel
theorem dX9_same_16 : decode cX9_same 16 = .ok (.iconst 4, 1) := by decide +kernel
theorem dX9_same_17 : decode cX9_same 17 = .ok (.if_icmp .ne 10, 3) := by decide +kernel
theorem dX9_same_20 : decode cX9_same 20 = .ok (.lload_n 0, 1) := by decide +kernel
theorem dX9_same_21 : decode cX9_same 21 = .ok (.invokestatic 90, 3) := by decide +kernel
theorem dX9_same_24 : decode cX9_same 24 = .ok (.goto 7, 3) := by decide +kernel
theorem dX9_same_27 : decode cX9_same 27 = .ok (.lload_n 3, 1) := by decide +kernel
theorem dX9_same_28 : decode cX9_same 28 = .ok (.invokestatic 93, 3) := by decide +kernel
theorem dX9_same_31 : decode cX9_same 31 = .ok (.lstore_n 3, 1) := by decide +kernel
theorem dX9_same_32 : decode cX9_same 32 = .ok (.lload_n 3, 1) := by decide +kernel
theorem dX9_same_33 : decode cX9_same 33 = .ok (.lload_n 0, 1) := by decide +kernel
theorem dX9_same_34 : decode cX9_same 34 = .ok (.lcmp, 1) := by decide +kernel
theorem dX9_same_35 : decode cX9_same 35 = .ok (.ifCond .ne 6, 3) := by decide +kernel
theorem dX9_same_38 : decode cX9_same 38 = .ok (.iinc 2 1, 3) := by decide +kernel
theorem dX9_same_41 : decode cX9_same 41 = .ok (.iinc 5 1, 3) := by decide +kernel
theorem dX9_same_44 : decode cX9_same 44 = .ok (.goto (-37), 3) := by decide +kernel
theorem dX9_same_47 : decode cX9_same 47 = .ok (.iload_n 2, 1) := by decide +kernel
theorem dX9_same_48 : decode cX9_same 48 = .ok (.ireturn, 1) := by decide +kernel
theorem dX10_init_0 : decode cX10_init 0 = .ok (.aload_n 0, 1) := by decide +kernel
theorem dX10_init_1 : decode cX10_init 1 = .ok (.invokespecial 3, 3) := by decide +kernel
theorem dX10_init_4 : decode cX10_init 4 = .ok (.aload_n 0, 1) := by decide +kernel
theorem dX10_init_5 : decode cX10_init 5 = .ok (.sipush 245, 3) := by decide +kernel
theorem dX10_init_8 : decode cX10_init 8 = .ok (.newarray .long, 2) := by decide +kernel
theorem dX10_init_10 : decode cX10_init 10 = .ok (.putfield 11, 3) := by decide +kernel
theorem dX10_init_13 : decode cX10_init 13 = .ok (.aload_n 0, 1) := by decide +kernel
theorem dX10_init_14 : decode cX10_init 14 = .ok (.bipush 7, 2) := by decide +kernel
theorem dX10_init_16 : decode cX10_init 16 = .ok (.newarray .boolean, 2) := by decide +kernel
theorem dX10_init_18 : decode cX10_init 18 = .ok (.putfield 15, 3) := by decide +kernel
theorem dX10_init_21 : decode cX10_init 21 = .ok (.aload_n 0, 1) := by decide +kernel
theorem dX10_init_22 : decode cX10_init 22 = .ok (.aload_n 1, 1) := by decide +kernel
theorem dX10_init_23 : decode cX10_init 23 = .ok (.putfield 19, 3) := by decide +kernel
theorem dX10_init_26 : decode cX10_init 26 = .ok (.return_, 1) := by decide +kernel
theorem dX10_steps_0 : decode cX10_steps 0 = .ok (.aload_n 0, 1) := by decide +kernel
theorem dX10_steps_1 : decode cX10_steps 1 = .ok (.iload_n 1, 1) := by decide +kernel
theorem dX10_steps_2 : decode cX10_steps 2 = .ok (.lload 4, 2) := by decide +kernel
theorem dX10_steps_4 : decode cX10_steps 4 = .ok (.invokevirtual 23, 3) := by decide +kernel
theorem dX10_steps_7 : decode cX10_steps 7 = .ok (.lstore 6, 2) := by decide +kernel
theorem dX10_steps_9 : decode cX10_steps 9 = .ok (.aload_n 0, 1) := by decide +kernel
theorem dX10_steps_10 : decode cX10_steps 10 = .ok (.iload_n 1, 1) := by decide +kernel
theorem dX10_steps_11 : decode cX10_steps 11 = .ok (.lload_n 2, 1) := by decide +kernel
theorem dX10_steps_12 : decode cX10_steps 12 = .ok (.invokevirtual 23, 3) := by decide +kernel
theorem dX10_steps_15 : decode cX10_steps 15 = .ok (.lstore 8, 2) := by decide +kernel
theorem dX10_steps_17 : decode cX10_steps 17 = .ok (.iconst 0, 1) := by decide +kernel
theorem dX10_steps_18 : decode cX10_steps 18 = .ok (.istore 10, 2) := by decide +kernel
theorem dX10_steps_20 : decode cX10_steps 20 = .ok (.iload 10, 2) := by decide +kernel
theorem dX10_steps_22 : decode cX10_steps 22 = .ok (.bipush 35, 2) := by decide +kernel
theorem dX10_steps_24 : decode cX10_steps 24 = .ok (.if_icmp .gt 34, 3) := by decide +kernel
theorem dX10_steps_27 : decode cX10_steps 27 = .ok (.lload 8, 2) := by decide +kernel
theorem dX10_steps_29 : decode cX10_steps 29 = .ok (.lload 6, 2) := by decide +kernel
theorem dX10_steps_31 : decode cX10_steps 31 = .ok (.land, 1) := by decide +kernel
theorem dX10_steps_32 : decode cX10_steps 32 = .ok (.lconst 0, 1) := by decide +kernel
theorem dX10_steps_33 : decode cX10_steps 33 = .ok (.lcmp, 1) := by decide +kernel
theorem dX10_steps_34 : decode cX10_steps 34 = .ok (.ifCond .eq 6, 3) := by decide +kernel
theorem dX10_steps_37 : decode cX10_steps 37 = .ok (.iload 10, 2) := by decide +kernel
theorem dX10_steps_39 : decode cX10_steps 39 = .ok (.ireturn, 1) := by decide +kernel
theorem dX10_steps_40 : decode cX10_steps 40 = .ok (.lload 8, 2) := by decide +kernel
theorem dX10_steps_42 : decode cX10_steps 42 = .ok (.aload_n 0, 1) := by decide +kernel
theorem dX10_steps_43 : decode cX10_steps 43 = .ok (.iload_n 1, 1) := by decide +kernel
theorem dX10_steps_44 : decode cX10_steps 44 = .ok (.lload 8, 2) := by decide +kernel
theorem dX10_steps_46 : decode cX10_steps 46 = .ok (.invokevirtual 27, 3) := by decide +kernel
theorem dX10_steps_49 : decode cX10_steps 49 = .ok (.lor, 1) := by decide +kernel
theorem dX10_steps_50 : decode cX10_steps 50 = .ok (.lstore 8, 2) := by decide +kernel
theorem dX10_steps_52 : decode cX10_steps 52 = .ok (.iinc 10 1, 3) := by decide +kernel
theorem dX10_steps_55 : decode cX10_steps 55 = .ok (.goto (-35), 3) := by decide +kernel
theorem dX10_steps_58 : decode cX10_steps 58 = .ok (.iconst (-1), 1) := by decide +kernel
theorem dX10_steps_59 : decode cX10_steps 59 = .ok (.ireturn, 1) := by decide +kernel
theorem dX10_edge_0 : decode cX10_edge 0 = .ok (.aload_n 0, 1) := by decide +kernel
theorem dX10_edge_1 : decode cX10_edge 1 = .ok (.iload_n 1, 1) := by decide +kernel
theorem dX10_edge_2 : decode cX10_edge 2 = .ok (.lload_n 2, 1) := by decide +kernel
theorem dX10_edge_3 : decode cX10_edge 3 = .ok (.invokevirtual 23, 3) := by decide +kernel
theorem dX10_edge_6 : decode cX10_edge 6 = .ok (.lstore 5, 2) := by decide +kernel
theorem dX10_edge_8 : decode cX10_edge 8 = .ok (.lload 5, 2) := by decide +kernel
theorem dX10_edge_10 : decode cX10_edge 10 = .ok (.lstore 7, 2) := by decide +kernel
theorem dX10_edge_12 : decode cX10_edge 12 = .ok (.iconst 0, 1) := by decide +kernel
theorem dX10_edge_13 : decode cX10_edge 13 = .ok (.istore 9, 2) := by decide +kernel
theorem dX10_edge_15 : decode cX10_edge 15 = .ok (.iload 9, 2) := by decide +kernel
theorem dX10_edge_17 : decode cX10_edge 17 = .ok (.bipush 35, 2) := by decide +kernel
theorem dX10_edge_19 : decode cX10_edge 19 = .ok (.if_icmp .gt 59, 3) := by decide +kernel
theorem dX10_edge_22 : decode cX10_edge 22 = .ok (.aload_n 0, 1) := by decide +kernel
theorem dX10_edge_23 : decode cX10_edge 23 = .ok (.iload_n 1, 1) := by decide +kernel
theorem dX10_edge_24 : decode cX10_edge 24 = .ok (.lload 7, 2) := by decide +kernel
theorem dX10_edge_26 : decode cX10_edge 26 = .ok (.invokevirtual 27, 3) := by decide +kernel
theorem dX10_edge_29 : decode cX10_edge 29 = .ok (.lload 5, 2) := by decide +kernel
theorem dX10_edge_31 : decode cX10_edge 31 = .ok (.ldc2_w 30, 3) := by decide +kernel
theorem dX10_edge_34 : decode cX10_edge 34 = .ok (.lxor, 1) := by decide +kernel
theorem dX10_edge_35 : decode cX10_edge 35 = .ok (.land, 1) := by decide +kernel
theorem dX10_edge_36 : decode cX10_edge 36 = .ok (.lstore 10, 2) := by decide +kernel
theorem dX10_edge_38 : decode cX10_edge 38 = .ok (.lload 10, 2) := by decide +kernel
theorem dX10_edge_40 : decode cX10_edge 40 = .ok (.lconst 0, 1) := by decide +kernel
theorem dX10_edge_41 : decode cX10_edge 41 = .ok (.lcmp, 1) := by decide +kernel
theorem dX10_edge_42 : decode cX10_edge 42 = .ok (.ifCond .ne 19, 3) := by decide +kernel
theorem dX10_edge_45 : decode cX10_edge 45 = .ok (.iload 4, 2) := by decide +kernel
theorem dX10_edge_47 : decode cX10_edge 47 = .ok (.ifCond .eq 8, 3) := by decide +kernel
theorem dX10_edge_50 : decode cX10_edge 50 = .ok (.iload 9, 2) := by decide +kernel
theorem dX10_edge_52 : decode cX10_edge 52 = .ok (.goto 8, 3) := by decide +kernel
theorem dX10_edge_55 : decode cX10_edge 55 = .ok (.lload 7, 2) := by decide +kernel
theorem dX10_edge_57 : decode cX10_edge 57 = .ok (.invokestatic 32, 3) := by decide +kernel
theorem dX10_edge_60 : decode cX10_edge 60 = .ok (.ireturn, 1) := by decide +kernel
theorem dX10_edge_61 : decode cX10_edge 61 = .ok (.lload 5, 2) := by decide +kernel
theorem dX10_edge_63 : decode cX10_edge 63 = .ok (.lload 10, 2) := by decide +kernel
theorem dX10_edge_65 : decode cX10_edge 65 = .ok (.lor, 1) := by decide +kernel
theorem dX10_edge_66 : decode cX10_edge 66 = .ok (.lstore 5, 2) := by decide +kernel
theorem dX10_edge_68 : decode cX10_edge 68 = .ok (.lload 10, 2) := by decide +kernel
theorem dX10_edge_70 : decode cX10_edge 70 = .ok (.lstore 7, 2) := by decide +kernel
theorem dX10_edge_72 : decode cX10_edge 72 = .ok (.iinc 9 1, 3) := by decide +kernel
theorem dX10_edge_75 : decode cX10_edge 75 = .ok (.goto (-60), 3) := by decide +kernel
theorem dX10_edge_78 : decode cX10_edge 78 = .ok (.iconst (-1), 1) := by decide +kernel
theorem dX10_edge_79 : decode cX10_edge 79 = .ok (.ireturn, 1) := by decide +kernel
theorem dX10_prepare_0 : decode cX10_prepare 0 = .ok (.iload_n 1, 1) := by decide +kernel
theorem dX10_prepare_1 : decode cX10_prepare 1 = .ok (.iconst 1, 1) := by decide +kernel
theorem dX10_prepare_2 : decode cX10_prepare 2 = .ok (.bipush 6, 2) := by decide +kernel
theorem dX10_prepare_4 : decode cX10_prepare 4 = .ok (.invokestatic 38, 3) := by decide +kernel
theorem dX10_prepare_7 : decode cX10_prepare 7 = .ok (.ifCond .eq 12, 3) := by decide +kernel
theorem dX10_prepare_10 : decode cX10_prepare 10 = .ok (.aload_n 0, 1) := by decide +kernel
theorem dX10_prepare_11 : decode cX10_prepare 11 = .ok (.getfield 15, 3) := by decide +kernel
theorem dX10_prepare_14 : decode cX10_prepare 14 = .ok (.iload_n 1, 1) := by decide +kernel
theorem dX10_prepare_15 : decode cX10_prepare 15 = .ok (.baload, 1) := by decide +kernel
theorem dX10_prepare_16 : decode cX10_prepare 16 = .ok (.ifCond .eq 4, 3) := by decide +kernel
theorem dX10_prepare_19 : decode cX10_prepare 19 = .ok (.return_, 1) := by decide +kernel
theorem dX10_prepare_20 : decode cX10_prepare 20 = .ok (.aload_n 0, 1) := by decide +kernel
theorem dX10_prepare_21 : decode cX10_prepare 21 = .ok (.getfield 19, 3) := by decide +kernel
theorem dX10_prepare_24 : decode cX10_prepare 24 = .ok (.iload_n 1, 1) := by decide +kernel
theorem dX10_prepare_25 : decode cX10_prepare 25 = .ok (.iconst 2, 1) := by decide +kernel
theorem dX10_prepare_26 : decode cX10_prepare 26 = .ok (.invokevirtual 42, 3) := by decide +kernel
theorem dX10_prepare_29 : decode cX10_prepare 29 = .ok (.bipush 35, 2) := by decide +kernel
theorem dX10_prepare_31 : decode cX10_prepare 31 = .ok (.invokestatic 48, 3) := by decide +kernel
theorem dX10_prepare_34 : decode cX10_prepare 34 = .ok (.istore_n 2, 1) := by decide +kernel
theorem dX10_prepare_35 : decode cX10_prepare 35 = .ok (.iconst 0, 1) := by decide +kernel
theorem dX10_prepare_36 : decode cX10_prepare 36 = .ok (.istore_n 3, 1) := by decide +kernel
theorem dX10_prepare_37 : decode cX10_prepare 37 = .ok (.iload_n 3, 1) := by decide +kernel
theorem dX10_prepare_38 : decode cX10_prepare 38 = .ok (.iload_n 2, 1) := by decide +kernel
theorem dX10_prepare_39 : decode cX10_prepare 39 = .ok (.if_icmp .ge 81, 3) := by decide +kernel
theorem dX10_prepare_42 : decode cX10_prepare 42 = .ok (.aload_n 0, 1) := by decide +kernel
theorem dX10_prepare_43 : decode cX10_prepare 43 = .ok (.getfield 19, 3) := by decide +kernel
theorem dX10_prepare_46 : decode cX10_prepare 46 = .ok (.iload_n 1, 1) := by decide +kernel
theorem dX10_prepare_47 : decode cX10_prepare 47 = .ok (.iconst 2, 1) := by decide +kernel
theorem dX10_prepare_48 : decode cX10_prepare 48 = .ok (.iload_n 3, 1) := by decide +kernel
theorem dX10_prepare_49 : decode cX10_prepare 49 = .ok (.invokevirtual 53, 3) := by decide +kernel
theorem dX10_prepare_52 : decode cX10_prepare 52 = .ok (.lstore 4, 2) := by decide +kernel
theorem dX10_prepare_54 : decode cX10_prepare 54 = .ok (.lload 4, 2) := by decide +kernel
theorem dX10_prepare_56 : decode cX10_prepare 56 = .ok (.lstore 6, 2) := by decide +kernel
theorem dX10_prepare_58 : decode cX10_prepare 58 = .ok (.iconst 0, 1) := by decide +kernel
theorem dX10_prepare_59 : decode cX10_prepare 59 = .ok (.istore 8, 2) := by decide +kernel
theorem dX10_prepare_61 : decode cX10_prepare 61 = .ok (.iload 8, 2) := by decide +kernel
theorem dX10_prepare_63 : decode cX10_prepare 63 = .ok (.iload_n 1, 1) := by decide +kernel
theorem dX10_prepare_64 : decode cX10_prepare 64 = .ok (.if_icmp .ge 50, 3) := by decide +kernel
theorem dX10_prepare_67 : decode cX10_prepare 67 = .ok (.aload_n 0, 1) := by decide +kernel
theorem dX10_prepare_68 : decode cX10_prepare 68 = .ok (.getfield 11, 3) := by decide +kernel
theorem dX10_prepare_71 : decode cX10_prepare 71 = .ok (.iload_n 1, 1) := by decide +kernel
theorem dX10_prepare_72 : decode cX10_prepare 72 = .ok (.bipush 35, 2) := by decide +kernel
theorem dX10_prepare_74 : decode cX10_prepare 74 = .ok (.imul, 1) := by decide +kernel
theorem dX10_prepare_75 : decode cX10_prepare 75 = .ok (.iload_n 3, 1) := by decide +kernel
theorem dX10_prepare_76 : decode cX10_prepare 76 = .ok (.iadd, 1) := by decide +kernel
theorem dX10_prepare_77 : decode cX10_prepare 77 = .ok (.dup2, 1) := by decide +kernel
theorem dX10_prepare_78 : decode cX10_prepare 78 = .ok (.laload, 1) := by decide +kernel
theorem dX10_prepare_79 : decode cX10_prepare 79 = .ok (.aload_n 0, 1) := by decide +kernel
theorem dX10_prepare_80 : decode cX10_prepare 80 = .ok (.iload_n 1, 1) := by decide +kernel
theorem dX10_prepare_81 : decode cX10_prepare 81 = .ok (.lload 4, 2) := by decide +kernel
theorem dX10_prepare_83 : decode cX10_prepare 83 = .ok (.lload 6, 2) := by decide +kernel
theorem dX10_prepare_85 : decode cX10_prepare 85 = .ok (.lload 6, 2) := by decide +kernel
theorem dX10_prepare_87 : decode cX10_prepare 87 = .ok (.lneg, 1) := by decide +kernel
theorem dX10_prepare_88 : decode cX10_prepare 88 = .ok (.land, 1) := by decide +kernel
theorem dX10_prepare_89 : decode cX10_prepare 89 = .ok (.ldc2_w 30, 3) := by decide +kernel
theorem dX10_prepare_92 : decode cX10_prepare 92 = .ok (.lxor, 1) := by decide +kernel
theorem dX10_prepare_93 : decode cX10_prepare 93 = .ok (.land, 1) := by decide +kernel
theorem dX10_prepare_94 : decode cX10_prepare 94 = .ok (.invokevirtual 57, 3) := by decide +kernel
theorem dX10_prepare_97 : decode cX10_prepare 97 = .ok (.lor, 1) := by decide +kernel
theorem dX10_prepare_98 : decode cX10_prepare 98 = .ok (.lastore, 1) := by decide +kernel
theorem dX10_prepare_99 : decode cX10_prepare 99 = .ok (.lload 6, 2) := by decide +kernel
theorem dX10_prepare_101 : decode cX10_prepare 101 = .ok (.lload 6, 2) := by decide +kernel
theorem dX10_prepare_103 : decode cX10_prepare 103 = .ok (.lconst 1, 1) := by decide +kernel
theorem dX10_prepare_104 : decode cX10_prepare 104 = .ok (.lsub, 1) := by decide +kernel
theorem dX10_prepare_105 : decode cX10_prepare 105 = .ok (.land, 1) := by decide +kernel
theorem dX10_prepare_106 : decode cX10_prepare 106 = .ok (.lstore 6, 2) := by decide +kernel
theorem dX10_prepare_108 : decode cX10_prepare 108 = .ok (.iinc 8 1, 3) := by decide +kernel
theorem dX10_prepare_111 : decode cX10_prepare 111 = .ok (.goto (-50), 3) := by decide +kernel
theorem dX10_prepare_114 : decode cX10_prepare 114 = .ok (.iinc 3 1, 3) := by decide +kernel
theorem dX10_prepare_117 : decode cX10_prepare 117 = .ok (.goto (-80), 3) := by decide +kernel
theorem dX10_prepare_120 : decode cX10_prepare 120 = .ok (.aload_n 0, 1) := by decide +kernel
theorem dX10_prepare_121 : decode cX10_prepare 121 = .ok (.getfield 15, 3) := by decide +kernel
theorem dX10_prepare_124 : decode cX10_prepare 124 = .ok (.iload_n 1, 1) := by decide +kernel
theorem dX10_prepare_125 : decode cX10_prepare 125 = .ok (.iconst 1, 1) := by decide +kernel
theorem dX10_prepare_126 : decode cX10_prepare 126 = .ok (.bastore, 1) := by decide +kernel
theorem dX10_prepare_127 : decode cX10_prepare 127 = .ok (.return_, 1) := by decide +kernel
theorem dX10_setOf_0 : decode cX10_setOf 0 = .ok (.aload_n 0, 1) := by decide +kernel
theorem dX10_setOf_1 : decode cX10_setOf 1 = .ok (.getfield 19, 3) := by decide +kernel
theorem dX10_setOf_4 : decode cX10_setOf 4 = .ok (.iload_n 1, 1) := by decide +kernel
theorem dX10_setOf_5 : decode cX10_setOf 5 = .ok (.iconst 2, 1) := by decide +kernel
theorem dX10_setOf_6 : decode cX10_setOf 6 = .ok (.lload_n 2, 1) := by decide +kernel
theorem dX10_setOf_7 : decode cX10_setOf 7 = .ok (.iconst 2, 1) := by decide +kernel
theorem dX10_setOf_8 : decode cX10_setOf 8 = .ok (.invokestatic 60, 3) := by decide +kernel
theorem dX10_setOf_11 : decode cX10_setOf 11 = .ok (.invokevirtual 66, 3) := by decide +kernel
theorem dX10_setOf_14 : decode cX10_setOf 14 = .ok (.istore 4, 2) := by decide +kernel
theorem dX10_setOf_16 : decode cX10_setOf 16 = .ok (.iload 4, 2) := by decide +kernel
theorem dX10_setOf_18 : decode cX10_setOf 18 = .ok (.ifCond .ge 7, 3) := by decide +kernel
theorem dX10_setOf_21 : decode cX10_setOf 21 = .ok (.lconst 0, 1) := by decide +kernel
theorem dX10_setOf_22 : decode cX10_setOf 22 = .ok (.goto 7, 3) := by decide +kernel
theorem dX10_setOf_25 : decode cX10_setOf 25 = .ok (.lconst 1, 1) := by decide +kernel
theorem dX10_setOf_26 : decode cX10_setOf 26 = .ok (.iload 4, 2) := by decide +kernel
theorem dX10_setOf_28 : decode cX10_setOf 28 = .ok (.lshl, 1) := by decide +kernel
theorem dX10_setOf_29 : decode cX10_setOf 29 = .ok (.lreturn, 1) := by decide +kernel
theorem dX10_beyond_0 : decode cX10_beyond 0 = .ok (.lconst 0, 1) := by decide +kernel
theorem dX10_beyond_1 : decode cX10_beyond 1 = .ok (.lstore 4, 2) := by decide +kernel
theorem dX10_beyond_3 : decode cX10_beyond 3 = .ok (.iconst 0, 1) := by decide +kernel
theorem dX10_beyond_4 : decode cX10_beyond 4 = .ok (.istore 6, 2) := by decide +kernel
theorem dX10_beyond_6 : decode cX10_beyond 6 = .ok (.iload 6, 2) := by decide +kernel
theorem dX10_beyond_8 : decode cX10_beyond 8 = .ok (.bipush 35, 2) := by decide +kernel
theorem dX10_beyond_10 : decode cX10_beyond 10 = .ok (.if_icmp .ge 51, 3) := by decide +kernel
theorem dX10_beyond_13 : decode cX10_beyond 13 = .ok (.iload_n 1, 1) := by decide +kernel
theorem dX10_beyond_14 : decode cX10_beyond 14 = .ok (.bipush 35, 2) := by decide +kernel
theorem dX10_beyond_16 : decode cX10_beyond 16 = .ok (.imul, 1) := by decide +kernel
theorem dX10_beyond_17 : decode cX10_beyond 17 = .ok (.iload 6, 2) := by decide +kernel
theorem dX10_beyond_19 : decode cX10_beyond 19 = .ok (.iadd, 1) := by decide +kernel
theorem dX10_beyond_20 : decode cX10_beyond 20 = .ok (.istore 7, 2) := by decide +kernel
theorem dX10_beyond_22 : decode cX10_beyond 22 = .ok (.lload_n 2, 1) := by decide +kernel
theorem dX10_beyond_23 : decode cX10_beyond 23 = .ok (.iload 6, 2) := by decide +kernel
theorem dX10_beyond_25 : decode cX10_beyond 25 = .ok (.lushr, 1) := by decide +kernel
theorem dX10_beyond_26 : decode cX10_beyond 26 = .ok (.lconst 1, 1) := by decide +kernel
theorem dX10_beyond_27 : decode cX10_beyond 27 = .ok (.land, 1) := by decide +kernel
theorem dX10_beyond_28 : decode cX10_beyond 28 = .ok (.lconst 0, 1) := by decide +kernel
theorem dX10_beyond_29 : decode cX10_beyond 29 = .ok (.lcmp, 1) := by decide +kernel
theorem dX10_beyond_30 : decode cX10_beyond 30 = .ok (.ifCond .eq 25, 3) := by decide +kernel
theorem dX10_beyond_33 : decode cX10_beyond 33 = .ok (.iload 7, 2) := by decide +kernel
theorem dX10_beyond_35 : decode cX10_beyond 35 = .ok (.aload_n 0, 1) := by decide +kernel
theorem dX10_beyond_36 : decode cX10_beyond 36 = .ok (.getfield 11, 3) := by decide +kernel
theorem dX10_beyond_39 : decode cX10_beyond 39 = .ok (.arraylength, 1) := by decide +kernel
theorem dX10_beyond_40 : decode cX10_beyond 40 = .ok (.if_icmp .ge 15, 3) := by decide +kernel
theorem dX10_beyond_43 : decode cX10_beyond 43 = .ok (.lload 4, 2) := by decide +kernel
theorem dX10_beyond_45 : decode cX10_beyond 45 = .ok (.aload_n 0, 1) := by decide +kernel
theorem dX10_beyond_46 : decode cX10_beyond 46 = .ok (.getfield 11, 3) := by decide +kernel
theorem dX10_beyond_49 : decode cX10_beyond 49 = .ok (.iload 7, 2) := by decide +kernel
theorem dX10_beyond_51 : decode cX10_beyond 51 = .ok (.laload, 1) := by decide +kernel
theorem dX10_beyond_52 : decode cX10_beyond 52 = .ok (.lor, 1) := by decide +kernel
theorem dX10_beyond_53 : decode cX10_beyond 53 = .ok (.lstore 4, 2) := by decide +kernel
theorem dX10_beyond_55 : decode cX10_beyond 55 = .ok (.iinc 6 1, 3) := by decide +kernel
theorem dX10_beyond_58 : decode cX10_beyond 58 = .ok (.goto (-52), 3) := by decide +kernel
theorem dX10_beyond_61 : decode cX10_beyond 61 = .ok (.lload 4, 2) := by decide +kernel
theorem dX10_beyond_63 : decode cX10_beyond 63 = .ok (.lreturn, 1) := by decide +kernel
theorem dX10_regrown_0 : decode cX10_regrown 0 = .ok (.lload_n 2, 1) := by decide +kernel
theorem dX10_regrown_1 : decode cX10_regrown 1 = .ok (.bipush 9, 2) := by decide +kernel
theorem dX10_regrown_3 : decode cX10_regrown 3 = .ok (.lshl, 1) := by decide +kernel
theorem dX10_regrown_4 : decode cX10_regrown 4 = .ok (.lstore 4, 2) := by decide +kernel
theorem dX10_regrown_6 : decode cX10_regrown 6 = .ok (.lload 4, 2) := by decide +kernel
theorem dX10_regrown_8 : decode cX10_regrown 8 = .ok (.invokestatic 70, 3) := by decide +kernel
theorem dX10_regrown_11 : decode cX10_regrown 11 = .ok (.lload 4, 2) := by decide +kernel
theorem dX10_regrown_13 : decode cX10_regrown 13 = .ok (.ldc2_w 30, 3) := by decide +kernel
theorem dX10_regrown_16 : decode cX10_regrown 16 = .ok (.lxor, 1) := by decide +kernel
theorem dX10_regrown_17 : decode cX10_regrown 17 = .ok (.land, 1) := by decide +kernel
theorem dX10_regrown_18 : decode cX10_regrown 18 = .ok (.lstore 6, 2) := by decide +kernel
theorem dX10_regrown_20 : decode cX10_regrown 20 = .ok (.lload 6, 2) := by decide +kernel
theorem dX10_regrown_22 : decode cX10_regrown 22 = .ok (.invokestatic 32, 3) := by decide +kernel
theorem dX10_regrown_25 : decode cX10_regrown 25 = .ok (.istore 8, 2) := by decide +kernel
theorem dX10_regrown_27 : decode cX10_regrown 27 = .ok (.lconst 0, 1) := by decide +kernel
theorem dX10_regrown_28 : decode cX10_regrown 28 = .ok (.lstore 9, 2) := by decide +kernel
theorem dX10_regrown_30 : decode cX10_regrown 30 = .ok (.iconst 0, 1) := by decide +kernel
theorem dX10_regrown_31 : decode cX10_regrown 31 = .ok (.istore 11, 2) := by decide +kernel
theorem dX10_regrown_33 : decode cX10_regrown 33 = .ok (.iload 11, 2) := by decide +kernel
theorem dX10_regrown_35 : decode cX10_regrown 35 = .ok (.iload 8, 2) := by decide +kernel
theorem dX10_regrown_37 : decode cX10_regrown 37 = .ok (.if_icmp .ge 77, 3) := by decide +kernel
theorem dX10_regrown_40 : decode cX10_regrown 40 = .ok (.lload 6, 2) := by decide +kernel
theorem dX10_regrown_42 : decode cX10_regrown 42 = .ok (.lload 6, 2) := by decide +kernel
theorem dX10_regrown_44 : decode cX10_regrown 44 = .ok (.lneg, 1) := by decide +kernel
theorem dX10_regrown_45 : decode cX10_regrown 45 = .ok (.land, 1) := by decide +kernel
theorem dX10_regrown_46 : decode cX10_regrown 46 = .ok (.lstore 12, 2) := by decide +kernel
theorem dX10_regrown_48 : decode cX10_regrown 48 = .ok (.lload 6, 2) := by decide +kernel
theorem dX10_regrown_50 : decode cX10_regrown 50 = .ok (.lload 12, 2) := by decide +kernel
theorem dX10_regrown_52 : decode cX10_regrown 52 = .ok (.lxor, 1) := by decide +kernel
theorem dX10_regrown_53 : decode cX10_regrown 53 = .ok (.lstore 6, 2) := by decide +kernel
theorem dX10_regrown_55 : decode cX10_regrown 55 = .ok (.lload 4, 2) := by decide +kernel
theorem dX10_regrown_57 : decode cX10_regrown 57 = .ok (.lload 12, 2) := by decide +kernel
theorem dX10_regrown_59 : decode cX10_regrown 59 = .ok (.lor, 1) := by decide +kernel
theorem dX10_regrown_60 : decode cX10_regrown 60 = .ok (.invokestatic 74, 3) := by decide +kernel
theorem dX10_regrown_63 : decode cX10_regrown 63 = .ok (.lstore 14, 2) := by decide +kernel
theorem dX10_regrown_65 : decode cX10_regrown 65 = .ok (.lload 14, 2) := by decide +kernel
theorem dX10_regrown_67 : decode cX10_regrown 67 = .ok (.invokestatic 77, 3) := by decide +kernel
theorem dX10_regrown_70 : decode cX10_regrown 70 = .ok (.ifCond .eq 38, 3) := by decide +kernel
theorem dX10_regrown_73 : decode cX10_regrown 73 = .ok (.aload_n 0, 1) := by decide +kernel
theorem dX10_regrown_74 : decode cX10_regrown 74 = .ok (.getfield 19, 3) := by decide +kernel
theorem dX10_regrown_77 : decode cX10_regrown 77 = .ok (.iload_n 1, 1) := by decide +kernel
theorem dX10_regrown_78 : decode cX10_regrown 78 = .ok (.iconst 2, 1) := by decide +kernel
theorem dX10_regrown_79 : decode cX10_regrown 79 = .ok (.lload 14, 2) := by decide +kernel
theorem dX10_regrown_81 : decode cX10_regrown 81 = .ok (.iconst 2, 1) := by decide +kernel
theorem dX10_regrown_82 : decode cX10_regrown 82 = .ok (.invokestatic 60, 3) := by decide +kernel
theorem dX10_regrown_85 : decode cX10_regrown 85 = .ok (.invokevirtual 66, 3) := by decide +kernel
theorem dX10_regrown_88 : decode cX10_regrown 88 = .ok (.istore 16, 2) := by decide +kernel
theorem dX10_regrown_90 : decode cX10_regrown 90 = .ok (.lload 9, 2) := by decide +kernel
theorem dX10_regrown_92 : decode cX10_regrown 92 = .ok (.iload 16, 2) := by decide +kernel
theorem dX10_regrown_94 : decode cX10_regrown 94 = .ok (.ifCond .ge 7, 3) := by decide +kernel
theorem dX10_regrown_97 : decode cX10_regrown 97 = .ok (.lconst 0, 1) := by decide +kernel
theorem dX10_regrown_98 : decode cX10_regrown 98 = .ok (.goto 7, 3) := by decide +kernel
theorem dX10_regrown_101 : decode cX10_regrown 101 = .ok (.lconst 1, 1) := by decide +kernel
theorem dX10_regrown_102 : decode cX10_regrown 102 = .ok (.iload 16, 2) := by decide +kernel
theorem dX10_regrown_104 : decode cX10_regrown 104 = .ok (.lshl, 1) := by decide +kernel
theorem dX10_regrown_105 : decode cX10_regrown 105 = .ok (.lor, 1) := by decide +kernel
theorem dX10_regrown_106 : decode cX10_regrown 106 = .ok (.lstore 9, 2) := by decide +kernel
theorem dX10_regrown_108 : decode cX10_regrown 108 = .ok (.iinc 11 1, 3) := by decide +kernel
theorem dX10_regrown_111 : decode cX10_regrown 111 = .ok (.goto (-78), 3) := by decide +kernel
theorem dX10_regrown_114 : decode cX10_regrown 114 = .ok (.lload 9, 2) := by decide +kernel
theorem dX10_regrown_116 : decode cX10_regrown 116 = .ok (.lreturn, 1) := by decide +kernel
theorem dX11_init_0 : decode cX11_init 0 = .ok (.aload_n 0, 1) := by decide +kernel
theorem dX11_init_1 : decode cX11_init 1 = .ok (.invokespecial 1, 3) := by decide +kernel
theorem dX11_init_4 : decode cX11_init 4 = .ok (.aload_n 0, 1) := by decide +kernel
theorem dX11_init_5 : decode cX11_init 5 = .ok (.bipush 120, 2) := by decide +kernel
theorem dX11_init_7 : decode cX11_init 7 = .ok (.newarray .byte, 2) := by decide +kernel
theorem dX11_init_9 : decode cX11_init 9 = .ok (.putfield 9, 3) := by decide +kernel
theorem dX11_init_12 : decode cX11_init 12 = .ok (.aload_n 0, 1) := by decide +kernel
theorem dX11_init_13 : decode cX11_init 13 = .ok (.bipush 8, 2) := by decide +kernel
theorem dX11_init_15 : decode cX11_init 15 = .ok (.newarray .long, 2) := by decide +kernel
theorem dX11_init_17 : decode cX11_init 17 = .ok (.putfield 13, 3) := by decide +kernel
theorem dX11_init_20 : decode cX11_init 20 = .ok (.aload_n 0, 1) := by decide +kernel
theorem dX11_init_21 : decode cX11_init 21 = .ok (.bipush 80, 2) := by decide +kernel
theorem dX11_init_23 : decode cX11_init 23 = .ok (.newarray .long, 2) := by decide +kernel
theorem dX11_init_25 : decode cX11_init 25 = .ok (.putfield 17, 3) := by decide +kernel
theorem dX11_init_28 : decode cX11_init 28 = .ok (.aload_n 0, 1) := by decide +kernel
theorem dX11_init_29 : decode cX11_init 29 = .ok (.new 20, 3) := by decide +kernel
theorem dX11_init_32 : decode cX11_init 32 = .ok (.dup, 1) := by decide +kernel
theorem dX11_init_33 : decode cX11_init 33 = .ok (.invokespecial 22, 3) := by decide +kernel
theorem dX11_init_36 : decode cX11_init 36 = .ok (.putfield 23, 3) := by decide +kernel
theorem dX11_init_39 : decode cX11_init 39 = .ok (.aload_n 0, 1) := by decide +kernel
theorem dX11_init_40 : decode cX11_init 40 = .ok (.new 27, 3) := by decide +kernel
theorem dX11_init_43 : decode cX11_init 43 = .ok (.dup, 1) := by decide +kernel
theorem dX11_init_44 : decode cX11_init 44 = .ok (.invokespecial 29, 3) := by decide +kernel
theorem dX11_init_47 : decode cX11_init 47 = .ok (.putfield 30, 3) := by decide +kernel
theorem dX11_init_50 : decode cX11_init 50 = .ok (.aload_n 0, 1) := by decide +kernel
theorem dX11_init_51 : decode cX11_init 51 = .ok (.new 34, 3) := by decide +kernel
theorem dX11_init_54 : decode cX11_init 54 = .ok (.dup, 1) := by decide +kernel
theorem dX11_init_55 : decode cX11_init 55 = .ok (.invokespecial 36, 3) := by decide +kernel
theorem dX11_init_58 : decode cX11_init 58 = .ok (.putfield 37, 3) := by decide +kernel
theorem dX11_init_61 : decode cX11_init 61 = .ok (.aload_n 0, 1) := by decide +kernel
theorem dX11_init_62 : decode cX11_init 62 = .ok (.new 41, 3) := by decide +kernel
theorem dX11_init_65 : decode cX11_init 65 = .ok (.dup, 1) := by decide +kernel
theorem dX11_init_66 : decode cX11_init 66 = .ok (.aload_n 0, 1) := by decide +kernel
theorem dX11_init_67 : decode cX11_init 67 = .ok (.getfield 37, 3) := by decide +kernel
theorem dX11_init_70 : decode cX11_init 70 = .ok (.invokespecial 43, 3) := by decide +kernel
theorem dX11_init_73 : decode cX11_init 73 = .ok (.putfield 46, 3) := by decide +kernel
theorem dX11_init_76 : decode cX11_init 76 = .ok (.aload_n 0, 1) := by decide +kernel
theorem dX11_init_77 : decode cX11_init 77 = .ok (.new 50, 3) := by decide +kernel
theorem dX11_init_80 : decode cX11_init 80 = .ok (.dup, 1) := by decide +kernel
theorem dX11_init_81 : decode cX11_init 81 = .ok (.aload_n 0, 1) := by decide +kernel
theorem dX11_init_82 : decode cX11_init 82 = .ok (.getfield 46, 3) := by decide +kernel
theorem dX11_init_85 : decode cX11_init 85 = .ok (.invokespecial 52, 3) := by decide +kernel
theorem dX11_init_88 : decode cX11_init 88 = .ok (.putfield 55, 3) := by decide +kernel
theorem dX11_init_91 : decode cX11_init 91 = .ok (.aload_n 0, 1) := by decide +kernel
theorem dX11_init_92 : decode cX11_init 92 = .ok (.new 59, 3) := by decide +kernel
theorem dX11_init_95 : decode cX11_init 95 = .ok (.dup, 1) := by decide +kernel
theorem dX11_init_96 : decode cX11_init 96 = .ok (.invokespecial 61, 3) := by decide +kernel
theorem dX11_init_99 : decode cX11_init 99 = .ok (.putfield 62, 3) := by decide +kernel
theorem dX11_init_102 : decode cX11_init 102 = .ok (.aload_n 0, 1) := by decide +kernel
theorem dX11_init_103 : decode cX11_init 103 = .ok (.new 66, 3) := by decide +kernel
theorem dX11_init_106 : decode cX11_init 106 = .ok (.dup, 1) := by decide +kernel
theorem dX11_init_107 : decode cX11_init 107 = .ok (.invokespecial 68, 3) := by decide +kernel
theorem dX11_init_110 : decode cX11_init 110 = .ok (.putfield 69, 3) := by decide +kernel
theorem dX11_init_113 : decode cX11_init 113 = .ok (.aload_n 0, 1) := by decide +kernel
theorem dX11_init_114 : decode cX11_init 114 = .ok (.new 73, 3) := by decide +kernel
theorem dX11_init_117 : decode cX11_init 117 = .ok (.dup, 1) := by decide +kernel
theorem dX11_init_118 : decode cX11_init 118 = .ok (.invokespecial 75, 3) := by decide +kernel
theorem dX11_init_121 : decode cX11_init 121 = .ok (.putfield 76, 3) := by decide +kernel
theorem dX11_init_124 : decode cX11_init 124 = .ok (.aload_n 0, 1) := by decide +kernel
theorem dX11_init_125 : decode cX11_init 125 = .ok (.iconst 0, 1) := by decide +kernel
theorem dX11_init_126 : decode cX11_init 126 = .ok (.putfield 80, 3) := by decide +kernel
theorem dX11_init_129 : decode cX11_init 129 = .ok (.aload_n 0, 1) := by decide +kernel
theorem dX11_init_130 : decode cX11_init 130 = .ok (.iconst 0, 1) := by decide +kernel
theorem dX11_init_131 : decode cX11_init 131 = .ok (.putfield 84, 3) := by decide +kernel
theorem dX11_init_134 : decode cX11_init 134 = .ok (.return_, 1) := by decide +kernel
theorem dX11_feed_0 : decode cX11_feed 0 = .ok (.aload_n 0, 1) := by decide +kernel
theorem dX11_feed_1 : decode cX11_feed 1 = .ok (.getfield 80, 3) := by decide +kernel
theorem dX11_feed_4 : decode cX11_feed 4 = .ok (.bipush 20, 2) := by decide +kernel
theorem dX11_feed_6 : decode cX11_feed 6 = .ok (.iadd, 1) := by decide +kernel
theorem dX11_feed_7 : decode cX11_feed 7 = .ok (.bipush 120, 2) := by decide +kernel
theorem dX11_feed_9 : decode cX11_feed 9 = .ok (.if_icmp .le 5, 3) := by decide +kernel
theorem dX11_feed_12 : decode cX11_feed 12 = .ok (.iconst (-1), 1) := by decide +kernel
theorem dX11_feed_13 : decode cX11_feed 13 = .ok (.ireturn, 1) := by decide +kernel
theorem dX11_feed_14 : decode cX11_feed 14 = .ok (.aload_n 0, 1) := by decide +kernel
theorem dX11_feed_15 : decode cX11_feed 15 = .ok (.iload_n 1, 1) := by decide +kernel
theorem dX11_feed_16 : decode cX11_feed 16 = .ok (.invokevirtual 87, 3) := by decide +kernel
theorem dX11_feed_19 : decode cX11_feed 19 = .ok (.aload_n 0, 1) := by decide +kernel
theorem dX11_feed_20 : decode cX11_feed 20 = .ok (.iload_n 2, 1) := by decide +kernel
theorem dX11_feed_21 : decode cX11_feed 21 = .ok (.invokevirtual 87, 3) := by decide +kernel
theorem dX11_feed_24 : decode cX11_feed 24 = .ok (.aload_n 0, 1) := by decide +kernel
theorem dX11_feed_25 : decode cX11_feed 25 = .ok (.iload_n 3, 1) := by decide +kernel
theorem dX11_feed_26 : decode cX11_feed 26 = .ok (.invokevirtual 87, 3) := by decide +kernel
theorem dX11_feed_29 : decode cX11_feed 29 = .ok (.aload_n 0, 1) := by decide +kernel
theorem dX11_feed_30 : decode cX11_feed 30 = .ok (.iload 4, 2) := by decide +kernel
theorem dX11_feed_32 : decode cX11_feed 32 = .ok (.invokevirtual 87, 3) := by decide +kernel
theorem dX11_feed_35 : decode cX11_feed 35 = .ok (.aload_n 0, 1) := by decide +kernel
theorem dX11_feed_36 : decode cX11_feed 36 = .ok (.iload 5, 2) := by decide +kernel
theorem dX11_feed_38 : decode cX11_feed 38 = .ok (.invokevirtual 87, 3) := by decide +kernel
theorem dX11_feed_41 : decode cX11_feed 41 = .ok (.aload_n 0, 1) := by decide +kernel
theorem dX11_feed_42 : decode cX11_feed 42 = .ok (.getfield 80, 3) := by decide +kernel
theorem dX11_feed_45 : decode cX11_feed 45 = .ok (.ireturn, 1) := by decide +kernel
theorem dX11_figure_0 : decode cX11_figure 0 = .ok (.iload_n 1, 1) := by decide +kernel
theorem dX11_figure_1 : decode cX11_figure 1 = .ok (.invokestatic 91, 3) := by decide +kernel
theorem dX11_figure_4 : decode cX11_figure 4 = .ok (.ifCond .eq 21, 3) := by decide +kernel
theorem dX11_figure_7 : decode cX11_figure 7 = .ok (.iload_n 2, 1) := by decide +kernel
theorem dX11_figure_8 : decode cX11_figure 8 = .ok (.iconst 1, 1) := by decide +kernel
theorem dX11_figure_9 : decode cX11_figure 9 = .ok (.bipush 60, 2) := by decide +kernel
theorem dX11_figure_11 : decode cX11_figure 11 = .ok (.invokestatic 95, 3) := by decide +kernel
theorem dX11_figure_14 : decode cX11_figure 14 = .ok (.ifCond .eq 11, 3) := by decide +kernel
theorem dX11_figure_17 : decode cX11_figure 17 = .ok (.iload_n 2, 1) := by decide +kernel
theorem dX11_figure_18 : decode cX11_figure 18 = .ok (.aload_n 0, 1) := by decide +kernel
theorem dX11_figure_19 : decode cX11_figure 19 = .ok (.getfield 80, 3) := by decide +kernel
theorem dX11_figure_22 : decode cX11_figure 22 = .ok (.if_icmp .le 5, 3) := by decide +kernel
theorem dX11_figure_25 : decode cX11_figure 25 = .ok (.iconst (-1), 1) := by decide +kernel
theorem dX11_figure_26 : decode cX11_figure 26 = .ok (.ireturn, 1) := by decide +kernel
theorem dX11_figure_27 : decode cX11_figure 27 = .ok (.aload_n 0, 1) := by decide +kernel
theorem dX11_figure_28 : decode cX11_figure 28 = .ok (.iconst 0, 1) := by decide +kernel
theorem dX11_figure_29 : decode cX11_figure 29 = .ok (.putfield 80, 3) := by decide +kernel
theorem dX11_figure_32 : decode cX11_figure 32 = .ok (.aload_n 0, 1) := by decide +kernel
theorem dX11_figure_33 : decode cX11_figure 33 = .ok (.getfield 23, 3) := by decide +kernel
theorem dX11_figure_36 : decode cX11_figure 36 = .ok (.aload_n 0, 1) := by decide +kernel
theorem dX11_figure_37 : decode cX11_figure 37 = .ok (.getfield 9, 3) := by decide +kernel
theorem dX11_figure_40 : decode cX11_figure 40 = .ok (.iload_n 2, 1) := by decide +kernel
theorem dX11_figure_41 : decode cX11_figure 41 = .ok (.invokevirtual 99, 3) := by decide +kernel
theorem dX11_figure_44 : decode cX11_figure 44 = .ok (.istore_n 3, 1) := by decide +kernel
theorem dX11_figure_45 : decode cX11_figure 45 = .ok (.iload_n 3, 1) := by decide +kernel
theorem dX11_figure_46 : decode cX11_figure 46 = .ok (.ifCond .eq 5, 3) := by decide +kernel
theorem dX11_figure_49 : decode cX11_figure 49 = .ok (.iload_n 3, 1) := by decide +kernel
theorem dX11_figure_50 : decode cX11_figure 50 = .ok (.ireturn, 1) := by decide +kernel
theorem dX11_figure_51 : decode cX11_figure 51 = .ok (.aload_n 0, 1) := by decide +kernel
theorem dX11_figure_52 : decode cX11_figure 52 = .ok (.iload_n 1, 1) := by decide +kernel
theorem dX11_figure_53 : decode cX11_figure 53 = .ok (.aload_n 0, 1) := by decide +kernel
theorem dX11_figure_54 : decode cX11_figure 54 = .ok (.getfield 23, 3) := by decide +kernel
theorem dX11_figure_57 : decode cX11_figure 57 = .ok (.invokevirtual 103, 3) := by decide +kernel
theorem dX11_figure_60 : decode cX11_figure 60 = .ok (.invokevirtual 107, 3) := by decide +kernel
theorem dX11_figure_63 : decode cX11_figure 63 = .ok (.ireturn, 1) := by decide +kernel
theorem dX11_put_0 : decode cX11_put 0 = .ok (.iload_n 1, 1) := by decide +kernel
theorem dX11_put_1 : decode cX11_put 1 = .ok (.invokestatic 91, 3) := by decide +kernel
theorem dX11_put_4 : decode cX11_put 4 = .ok (.ifCond .eq 10, 3) := by decide +kernel
theorem dX11_put_7 : decode cX11_put 7 = .ok (.lload_n 2, 1) := by decide +kernel
theorem dX11_put_8 : decode cX11_put 8 = .ok (.invokestatic 111, 3) := by decide +kernel
theorem dX11_put_11 : decode cX11_put 11 = .ok (.ifCond .ne 5, 3) := by decide +kernel
theorem dX11_put_14 : decode cX11_put 14 = .ok (.iconst 0, 1) := by decide +kernel
theorem dX11_put_15 : decode cX11_put 15 = .ok (.ireturn, 1) := by decide +kernel
theorem dX11_put_16 : decode cX11_put 16 = .ok (.aload_n 0, 1) := by decide +kernel
theorem dX11_put_17 : decode cX11_put 17 = .ok (.getfield 13, 3) := by decide +kernel
theorem dX11_put_20 : decode cX11_put 20 = .ok (.iload_n 1, 1) := by decide +kernel
theorem dX11_put_21 : decode cX11_put 21 = .ok (.lload_n 2, 1) := by decide +kernel
theorem dX11_put_22 : decode cX11_put 22 = .ok (.lastore, 1) := by decide +kernel
theorem dX11_put_23 : decode cX11_put 23 = .ok (.iconst 1, 1) := by decide +kernel
theorem dX11_put_24 : decode cX11_put 24 = .ok (.ireturn, 1) := by decide +kernel
theorem dX11_take_0 : decode cX11_take 0 = .ok (.iload_n 1, 1) := by decide +kernel
theorem dX11_take_1 : decode cX11_take 1 = .ok (.invokestatic 91, 3) := by decide +kernel
theorem dX11_take_4 : decode cX11_take 4 = .ok (.ifCond .ne 5, 3) := by decide +kernel
theorem dX11_take_7 : decode cX11_take 7 = .ok (.iconst (-1), 1) := by decide +kernel
theorem dX11_take_8 : decode cX11_take 8 = .ok (.ireturn, 1) := by decide +kernel
theorem dX11_take_9 : decode cX11_take 9 = .ok (.aload_n 0, 1) := by decide +kernel
theorem dX11_take_10 : decode cX11_take 10 = .ok (.getfield 13, 3) := by decide +kernel
theorem dX11_take_13 : decode cX11_take 13 = .ok (.iload_n 1, 1) := by decide +kernel
theorem dX11_take_14 : decode cX11_take 14 = .ok (.laload, 1) := by decide +kernel
theorem dX11_take_15 : decode cX11_take 15 = .ok (.lconst 0, 1) := by decide +kernel
theorem dX11_take_16 : decode cX11_take 16 = .ok (.lcmp, 1) := by decide +kernel
theorem dX11_take_17 : decode cX11_take 17 = .ok (.ifCond .ne 7, 3) := by decide +kernel
theorem dX11_take_20 : decode cX11_take 20 = .ok (.iconst 0, 1) := by decide +kernel
theorem dX11_take_21 : decode cX11_take 21 = .ok (.goto 4, 3) := by decide +kernel
theorem dX11_take_24 : decode cX11_take 24 = .ok (.iconst 1, 1) := by decide +kernel
theorem dX11_take_25 : decode cX11_take 25 = .ok (.istore_n 2, 1) := by decide +kernel
theorem dX11_take_26 : decode cX11_take 26 = .ok (.aload_n 0, 1) := by decide +kernel
theorem dX11_take_27 : decode cX11_take 27 = .ok (.getfield 13, 3) := by decide +kernel
theorem dX11_take_30 : decode cX11_take 30 = .ok (.iload_n 1, 1) := by decide +kernel
theorem dX11_take_31 : decode cX11_take 31 = .ok (.lconst 0, 1) := by decide +kernel
theorem dX11_take_32 : decode cX11_take 32 = .ok (.lastore, 1) := by decide +kernel
theorem dX11_take_33 : decode cX11_take 33 = .ok (.iload_n 2, 1) := by decide +kernel
theorem dX11_take_34 : decode cX11_take 34 = .ok (.ireturn, 1) := by decide +kernel
theorem dX11_told_0 : decode cX11_told 0 = .ok (.iload_n 1, 1) := by decide +kernel
theorem dX11_told_1 : decode cX11_told 1 = .ok (.invokestatic 91, 3) := by decide +kernel
theorem dX11_told_4 : decode cX11_told 4 = .ok (.ifCond .eq 13, 3) := by decide +kernel
theorem dX11_told_7 : decode cX11_told 7 = .ok (.iload_n 2, 1) := by decide +kernel
theorem dX11_told_8 : decode cX11_told 8 = .ok (.iconst 0, 1) := by decide +kernel
theorem dX11_told_9 : decode cX11_told 9 = .ok (.bipush 14, 2) := by decide +kernel
theorem dX11_told_11 : decode cX11_told 11 = .ok (.invokestatic 95, 3) := by decide +kernel
theorem dX11_told_14 : decode cX11_told 14 = .ok (.ifCond .ne 5, 3) := by decide +kernel
theorem dX11_told_17 : decode cX11_told 17 = .ok (.iconst (-1), 1) := by decide +kernel
theorem dX11_told_18 : decode cX11_told 18 = .ok (.ireturn, 1) := by decide +kernel
theorem dX11_told_19 : decode cX11_told 19 = .ok (.aload_n 0, 1) := by decide +kernel
theorem dX11_told_20 : decode cX11_told 20 = .ok (.getfield 13, 3) := by decide +kernel
theorem dX11_told_23 : decode cX11_told 23 = .ok (.iload_n 1, 1) := by decide +kernel
theorem dX11_told_24 : decode cX11_told 24 = .ok (.laload, 1) := by decide +kernel
theorem dX11_told_25 : decode cX11_told 25 = .ok (.lconst 0, 1) := by decide +kernel
theorem dX11_told_26 : decode cX11_told 26 = .ok (.lcmp, 1) := by decide +kernel
theorem dX11_told_27 : decode cX11_told 27 = .ok (.ifCond .ne 8, 3) := by decide +kernel
theorem dX11_told_30 : decode cX11_told 30 = .ok (.bipush (-2), 2) := by decide +kernel
theorem dX11_told_32 : decode cX11_told 32 = .ok (.goto 13, 3) := by decide +kernel
theorem dX11_told_35 : decode cX11_told 35 = .ok (.aload_n 0, 1) := by decide +kernel
theorem dX11_told_36 : decode cX11_told 36 = .ok (.getfield 13, 3) := by decide +kernel
theorem dX11_told_39 : decode cX11_told 39 = .ok (.iload_n 1, 1) := by decide +kernel
theorem dX11_told_40 : decode cX11_told 40 = .ok (.laload, 1) := by decide +kernel
theorem dX11_told_41 : decode cX11_told 41 = .ok (.iload_n 2, 1) := by decide +kernel
theorem dX11_told_42 : decode cX11_told 42 = .ok (.invokestatic 117, 3) := by decide +kernel
theorem dX11_told_45 : decode cX11_told 45 = .ok (.ireturn, 1) := by decide +kernel
theorem dX11_cell_0 : decode cX11_cell 0 = .ok (.iload_n 1, 1) := by decide +kernel
theorem dX11_cell_1 : decode cX11_cell 1 = .ok (.invokestatic 91, 3) := by decide +kernel
theorem dX11_cell_4 : decode cX11_cell 4 = .ok (.ifCond .eq 23, 3) := by decide +kernel
theorem dX11_cell_7 : decode cX11_cell 7 = .ok (.iload_n 2, 1) := by decide +kernel
theorem dX11_cell_8 : decode cX11_cell 8 = .ok (.iconst 0, 1) := by decide +kernel
theorem dX11_cell_9 : decode cX11_cell 9 = .ok (.bipush 6, 2) := by decide +kernel
theorem dX11_cell_11 : decode cX11_cell 11 = .ok (.invokestatic 95, 3) := by decide +kernel
theorem dX11_cell_14 : decode cX11_cell 14 = .ok (.ifCond .eq 13, 3) := by decide +kernel
theorem dX11_cell_17 : decode cX11_cell 17 = .ok (.iload_n 3, 1) := by decide +kernel
theorem dX11_cell_18 : decode cX11_cell 18 = .ok (.iconst 0, 1) := by decide +kernel
theorem dX11_cell_19 : decode cX11_cell 19 = .ok (.bipush 6, 2) := by decide +kernel
theorem dX11_cell_21 : decode cX11_cell 21 = .ok (.invokestatic 95, 3) := by decide +kernel
theorem dX11_cell_24 : decode cX11_cell 24 = .ok (.ifCond .ne 5, 3) := by decide +kernel
theorem dX11_cell_27 : decode cX11_cell 27 = .ok (.iconst (-1), 1) := by decide +kernel
theorem dX11_cell_28 : decode cX11_cell 28 = .ok (.ireturn, 1) := by decide +kernel
theorem dX11_cell_29 : decode cX11_cell 29 = .ok (.aload_n 0, 1) := by decide +kernel
theorem dX11_cell_30 : decode cX11_cell 30 = .ok (.getfield 13, 3) := by decide +kernel
theorem dX11_cell_33 : decode cX11_cell 33 = .ok (.iload_n 1, 1) := by decide +kernel
theorem dX11_cell_34 : decode cX11_cell 34 = .ok (.laload, 1) := by decide +kernel
theorem dX11_cell_35 : decode cX11_cell 35 = .ok (.lconst 0, 1) := by decide +kernel
theorem dX11_cell_36 : decode cX11_cell 36 = .ok (.lcmp, 1) := by decide +kernel
theorem dX11_cell_37 : decode cX11_cell 37 = .ok (.ifCond .ne 6, 3) := by decide +kernel
theorem dX11_cell_40 : decode cX11_cell 40 = .ok (.bipush (-2), 2) := by decide +kernel
theorem dX11_cell_42 : decode cX11_cell 42 = .ok (.ireturn, 1) := by decide +kernel
theorem dX11_cell_43 : decode cX11_cell 43 = .ok (.aload_n 0, 1) := by decide +kernel
theorem dX11_cell_44 : decode cX11_cell 44 = .ok (.getfield 13, 3) := by decide +kernel
theorem dX11_cell_47 : decode cX11_cell 47 = .ok (.iload_n 1, 1) := by decide +kernel
theorem dX11_cell_48 : decode cX11_cell 48 = .ok (.laload, 1) := by decide +kernel
theorem dX11_cell_49 : decode cX11_cell 49 = .ok (.iload_n 2, 1) := by decide +kernel
theorem dX11_cell_50 : decode cX11_cell 50 = .ok (.iload_n 3, 1) := by decide +kernel
theorem dX11_cell_51 : decode cX11_cell 51 = .ok (.invokestatic 123, 3) := by decide +kernel
theorem dX11_cell_54 : decode cX11_cell 54 = .ok (.ifCond .eq 7, 3) := by decide +kernel
theorem dX11_cell_57 : decode cX11_cell 57 = .ok (.iconst 1, 1) := by decide +kernel
theorem dX11_cell_58 : decode cX11_cell 58 = .ok (.goto 4, 3) := by decide +kernel
theorem dX11_cell_61 : decode cX11_cell 61 = .ok (.iconst 0, 1) := by decide +kernel
theorem dX11_cell_62 : decode cX11_cell 62 = .ok (.ireturn, 1) := by decide +kernel
theorem dX11_number_0 : decode cX11_number 0 = .ok (.iload_n 1, 1) := by decide +kernel
theorem dX11_number_1 : decode cX11_number 1 = .ok (.invokestatic 91, 3) := by decide +kernel
theorem dX11_number_4 : decode cX11_number 4 = .ok (.ifCond .eq 10, 3) := by decide +kernel
theorem dX11_number_7 : decode cX11_number 7 = .ok (.iload_n 2, 1) := by decide +kernel
theorem dX11_number_8 : decode cX11_number 8 = .ok (.invokestatic 127, 3) := by decide +kernel
theorem dX11_number_11 : decode cX11_number 11 = .ok (.ifCond .ne 7, 3) := by decide +kernel
theorem dX11_number_14 : decode cX11_number 14 = .ok (.ldc2_w 130, 3) := by decide +kernel
theorem dX11_number_17 : decode cX11_number 17 = .ok (.lreturn, 1) := by decide +kernel
theorem dX11_number_18 : decode cX11_number 18 = .ok (.aload_n 0, 1) := by decide +kernel
theorem dX11_number_19 : decode cX11_number 19 = .ok (.getfield 13, 3) := by decide +kernel
theorem dX11_number_22 : decode cX11_number 22 = .ok (.iload_n 1, 1) := by decide +kernel
theorem dX11_number_23 : decode cX11_number 23 = .ok (.laload, 1) := by decide +kernel
theorem dX11_number_24 : decode cX11_number 24 = .ok (.lconst 0, 1) := by decide +kernel
theorem dX11_number_25 : decode cX11_number 25 = .ok (.lcmp, 1) := by decide +kernel
theorem dX11_number_26 : decode cX11_number 26 = .ok (.ifCond .ne 9, 3) := by decide +kernel
theorem dX11_number_29 : decode cX11_number 29 = .ok (.ldc2_w 132, 3) := by decide +kernel
theorem dX11_number_32 : decode cX11_number 32 = .ok (.goto 13, 3) := by decide +kernel
theorem dX11_number_35 : decode cX11_number 35 = .ok (.aload_n 0, 1) := by decide +kernel
theorem dX11_number_36 : decode cX11_number 36 = .ok (.getfield 13, 3) := by decide +kernel
theorem dX11_number_39 : decode cX11_number 39 = .ok (.iload_n 1, 1) := by decide +kernel
theorem dX11_number_40 : decode cX11_number 40 = .ok (.laload, 1) := by decide +kernel
theorem dX11_number_41 : decode cX11_number 41 = .ok (.iload_n 2, 1) := by decide +kernel
theorem dX11_number_42 : decode cX11_number 42 = .ok (.invokestatic 134, 3) := by decide +kernel
theorem dX11_number_45 : decode cX11_number 45 = .ok (.lreturn, 1) := by decide +kernel
theorem dX11_turn_0 : decode cX11_turn 0 = .ok (.iload_n 1, 1) := by decide +kernel
theorem dX11_turn_1 : decode cX11_turn 1 = .ok (.invokestatic 91, 3) := by decide +kernel
theorem dX11_turn_4 : decode cX11_turn 4 = .ok (.ifCond .eq 13, 3) := by decide +kernel
theorem dX11_turn_7 : decode cX11_turn 7 = .ok (.iload_n 2, 1) := by decide +kernel
theorem dX11_turn_8 : decode cX11_turn 8 = .ok (.iconst 0, 1) := by decide +kernel
theorem dX11_turn_9 : decode cX11_turn 9 = .ok (.bipush 7, 2) := by decide +kernel
theorem dX11_turn_11 : decode cX11_turn 11 = .ok (.invokestatic 95, 3) := by decide +kernel
theorem dX11_turn_14 : decode cX11_turn 14 = .ok (.ifCond .ne 7, 3) := by decide +kernel
theorem dX11_turn_17 : decode cX11_turn 17 = .ok (.ldc2_w 130, 3) := by decide +kernel
theorem dX11_turn_20 : decode cX11_turn 20 = .ok (.lreturn, 1) := by decide +kernel
theorem dX11_turn_21 : decode cX11_turn 21 = .ok (.aload_n 0, 1) := by decide +kernel
theorem dX11_turn_22 : decode cX11_turn 22 = .ok (.getfield 13, 3) := by decide +kernel
theorem dX11_turn_25 : decode cX11_turn 25 = .ok (.iload_n 1, 1) := by decide +kernel
theorem dX11_turn_26 : decode cX11_turn 26 = .ok (.laload, 1) := by decide +kernel
theorem dX11_turn_27 : decode cX11_turn 27 = .ok (.lconst 0, 1) := by decide +kernel
theorem dX11_turn_28 : decode cX11_turn 28 = .ok (.lcmp, 1) := by decide +kernel
theorem dX11_turn_29 : decode cX11_turn 29 = .ok (.ifCond .ne 7, 3) := by decide +kernel
theorem dX11_turn_32 : decode cX11_turn 32 = .ok (.ldc2_w 132, 3) := by decide +kernel
theorem dX11_turn_35 : decode cX11_turn 35 = .ok (.lreturn, 1) := by decide +kernel
theorem dX11_turn_36 : decode cX11_turn 36 = .ok (.aload_n 0, 1) := by decide +kernel
theorem dX11_turn_37 : decode cX11_turn 37 = .ok (.getfield 13, 3) := by decide +kernel
theorem dX11_turn_40 : decode cX11_turn 40 = .ok (.iload_n 1, 1) := by decide +kernel
theorem dX11_turn_41 : decode cX11_turn 41 = .ok (.aload_n 0, 1) := by decide +kernel
theorem dX11_turn_42 : decode cX11_turn 42 = .ok (.getfield 13, 3) := by decide +kernel
theorem dX11_turn_45 : decode cX11_turn 45 = .ok (.iload_n 1, 1) := by decide +kernel
theorem dX11_turn_46 : decode cX11_turn 46 = .ok (.laload, 1) := by decide +kernel
theorem dX11_turn_47 : decode cX11_turn 47 = .ok (.iload_n 2, 1) := by decide +kernel
theorem dX11_turn_48 : decode cX11_turn 48 = .ok (.invokestatic 138, 3) := by decide +kernel
theorem dX11_turn_51 : decode cX11_turn 51 = .ok (.lastore, 1) := by decide +kernel
theorem dX11_turn_52 : decode cX11_turn 52 = .ok (.aload_n 0, 1) := by decide +kernel
theorem dX11_turn_53 : decode cX11_turn 53 = .ok (.getfield 13, 3) := by decide +kernel
theorem dX11_turn_56 : decode cX11_turn 56 = .ok (.iload_n 1, 1) := by decide +kernel
theorem dX11_turn_57 : decode cX11_turn 57 = .ok (.laload, 1) := by decide +kernel
theorem dX11_turn_58 : decode cX11_turn 58 = .ok (.lreturn, 1) := by decide +kernel
theorem dX11_alike_0 : decode cX11_alike 0 = .ok (.iload_n 1, 1) := by decide +kernel
theorem dX11_alike_1 : decode cX11_alike 1 = .ok (.invokestatic 91, 3) := by decide +kernel
theorem dX11_alike_4 : decode cX11_alike 4 = .ok (.ifCond .eq 17, 3) := by decide +kernel
theorem dX11_alike_7 : decode cX11_alike 7 = .ok (.iload_n 2, 1) := by decide +kernel
theorem dX11_alike_8 : decode cX11_alike 8 = .ok (.invokestatic 91, 3) := by decide +kernel
theorem dX11_alike_11 : decode cX11_alike 11 = .ok (.ifCond .eq 10, 3) := by decide +kernel
theorem dX11_alike_14 : decode cX11_alike 14 = .ok (.iload_n 3, 1) := by decide +kernel
theorem dX11_alike_15 : decode cX11_alike 15 = .ok (.invokestatic 127, 3) := by decide +kernel
theorem dX11_alike_18 : decode cX11_alike 18 = .ok (.ifCond .ne 5, 3) := by decide +kernel
theorem dX11_alike_21 : decode cX11_alike 21 = .ok (.iconst (-1), 1) := by decide +kernel
theorem dX11_alike_22 : decode cX11_alike 22 = .ok (.ireturn, 1) := by decide +kernel
theorem dX11_alike_23 : decode cX11_alike 23 = .ok (.aload_n 0, 1) := by decide +kernel
theorem dX11_alike_24 : decode cX11_alike 24 = .ok (.getfield 13, 3) := by decide +kernel
theorem dX11_alike_27 : decode cX11_alike 27 = .ok (.iload_n 1, 1) := by decide +kernel
theorem dX11_alike_28 : decode cX11_alike 28 = .ok (.laload, 1) := by decide +kernel
theorem dX11_alike_29 : decode cX11_alike 29 = .ok (.lconst 0, 1) := by decide +kernel
theorem dX11_alike_30 : decode cX11_alike 30 = .ok (.lcmp, 1) := by decide +kernel
theorem dX11_alike_31 : decode cX11_alike 31 = .ok (.ifCond .eq 14, 3) := by decide +kernel
theorem dX11_alike_34 : decode cX11_alike 34 = .ok (.aload_n 0, 1) := by decide +kernel
theorem dX11_alike_35 : decode cX11_alike 35 = .ok (.getfield 13, 3) := by decide +kernel
theorem dX11_alike_38 : decode cX11_alike 38 = .ok (.iload_n 2, 1) := by decide +kernel
theorem dX11_alike_39 : decode cX11_alike 39 = .ok (.laload, 1) := by decide +kernel
theorem dX11_alike_40 : decode cX11_alike 40 = .ok (.lconst 0, 1) := by decide +kernel
theorem dX11_alike_41 : decode cX11_alike 41 = .ok (.lcmp, 1) := by decide +kernel
theorem dX11_alike_42 : decode cX11_alike 42 = .ok (.ifCond .ne 6, 3) := by decide +kernel
theorem dX11_alike_45 : decode cX11_alike 45 = .ok (.bipush (-2), 2) := by decide +kernel
theorem dX11_alike_47 : decode cX11_alike 47 = .ok (.ireturn, 1) := by decide +kernel
theorem dX11_alike_48 : decode cX11_alike 48 = .ok (.aload_n 0, 1) := by decide +kernel
theorem dX11_alike_49 : decode cX11_alike 49 = .ok (.getfield 13, 3) := by decide +kernel
theorem dX11_alike_52 : decode cX11_alike 52 = .ok (.iload_n 1, 1) := by decide +kernel
theorem dX11_alike_53 : decode cX11_alike 53 = .ok (.laload, 1) := by decide +kernel
theorem dX11_alike_54 : decode cX11_alike 54 = .ok (.iload_n 3, 1) := by decide +kernel
theorem dX11_alike_55 : decode cX11_alike 55 = .ok (.invokestatic 134, 3) := by decide +kernel
theorem dX11_alike_58 : decode cX11_alike 58 = .ok (.aload_n 0, 1) := by decide +kernel
theorem dX11_alike_59 : decode cX11_alike 59 = .ok (.getfield 13, 3) := by decide +kernel
theorem dX11_alike_62 : decode cX11_alike 62 = .ok (.iload_n 2, 1) := by decide +kernel
theorem dX11_alike_63 : decode cX11_alike 63 = .ok (.laload, 1) := by decide +kernel
theorem dX11_alike_64 : decode cX11_alike 64 = .ok (.iload_n 3, 1) := by decide +kernel
theorem dX11_alike_65 : decode cX11_alike 65 = .ok (.invokestatic 134, 3) := by decide +kernel
theorem dX11_alike_68 : decode cX11_alike 68 = .ok (.lcmp, 1) := by decide +kernel
theorem dX11_alike_69 : decode cX11_alike 69 = .ok (.ifCond .ne 7, 3) := by decide +kernel
theorem dX11_alike_72 : decode cX11_alike 72 = .ok (.iconst 1, 1) := by decide +kernel
theorem dX11_alike_73 : decode cX11_alike 73 = .ok (.goto 4, 3) := by decide +kernel
theorem dX11_alike_76 : decode cX11_alike 76 = .ok (.iconst 0, 1) := by decide +kernel
theorem dX11_alike_77 : decode cX11_alike 77 = .ok (.ireturn, 1) := by decide +kernel
theorem dX11_change_0 : decode cX11_change 0 = .ok (.iload_n 1, 1) := by decide +kernel
theorem dX11_change_1 : decode cX11_change 1 = .ok (.invokestatic 91, 3) := by decide +kernel
theorem dX11_change_4 : decode cX11_change 4 = .ok (.ifCond .eq 23, 3) := by decide +kernel
theorem dX11_change_7 : decode cX11_change 7 = .ok (.iload_n 2, 1) := by decide +kernel
theorem dX11_change_8 : decode cX11_change 8 = .ok (.iconst (-1), 1) := by decide +kernel
theorem dX11_change_9 : decode cX11_change 9 = .ok (.bipush 7, 2) := by decide +kernel
theorem dX11_change_11 : decode cX11_change 11 = .ok (.invokestatic 95, 3) := by decide +kernel
theorem dX11_change_14 : decode cX11_change 14 = .ok (.ifCond .eq 13, 3) := by decide +kernel
theorem dX11_change_17 : decode cX11_change 17 = .ok (.iload_n 3, 1) := by decide +kernel
theorem dX11_change_18 : decode cX11_change 18 = .ok (.iconst (-1), 1) := by decide +kernel
theorem dX11_change_19 : decode cX11_change 19 = .ok (.bipush 7, 2) := by decide +kernel
theorem dX11_change_21 : decode cX11_change 21 = .ok (.invokestatic 95, 3) := by decide +kernel
theorem dX11_change_24 : decode cX11_change 24 = .ok (.ifCond .ne 5, 3) := by decide +kernel
theorem dX11_change_27 : decode cX11_change 27 = .ok (.iconst (-1), 1) := by decide +kernel
theorem dX11_change_28 : decode cX11_change 28 = .ok (.ireturn, 1) := by decide +kernel
theorem dX11_change_29 : decode cX11_change 29 = .ok (.aload_n 0, 1) := by decide +kernel
theorem dX11_change_30 : decode cX11_change 30 = .ok (.getfield 13, 3) := by decide +kernel
theorem dX11_change_33 : decode cX11_change 33 = .ok (.iload_n 1, 1) := by decide +kernel
theorem dX11_change_34 : decode cX11_change 34 = .ok (.laload, 1) := by decide +kernel
theorem dX11_change_35 : decode cX11_change 35 = .ok (.lconst 0, 1) := by decide +kernel
theorem dX11_change_36 : decode cX11_change 36 = .ok (.lcmp, 1) := by decide +kernel
theorem dX11_change_37 : decode cX11_change 37 = .ok (.ifCond .ne 6, 3) := by decide +kernel
theorem dX11_change_40 : decode cX11_change 40 = .ok (.bipush (-2), 2) := by decide +kernel
theorem dX11_change_42 : decode cX11_change 42 = .ok (.ireturn, 1) := by decide +kernel
theorem dX11_change_43 : decode cX11_change 43 = .ok (.aload_n 0, 1) := by decide +kernel
theorem dX11_change_44 : decode cX11_change 44 = .ok (.getfield 13, 3) := by decide +kernel
theorem dX11_change_47 : decode cX11_change 47 = .ok (.iload_n 1, 1) := by decide +kernel
theorem dX11_change_48 : decode cX11_change 48 = .ok (.laload, 1) := by decide +kernel
theorem dX11_change_49 : decode cX11_change 49 = .ok (.iload_n 2, 1) := by decide +kernel
theorem dX11_change_50 : decode cX11_change 50 = .ok (.iload_n 3, 1) := by decide +kernel
theorem dX11_change_51 : decode cX11_change 51 = .ok (.invokestatic 123, 3) := by decide +kernel
theorem dX11_change_54 : decode cX11_change 54 = .ok (.iload 4, 2) := by decide +kernel
theorem dX11_change_56 : decode cX11_change 56 = .ok (.if_icmp .ne 6, 3) := by decide +kernel
theorem dX11_change_59 : decode cX11_change 59 = .ok (.bipush (-3), 2) := by decide +kernel
theorem dX11_change_61 : decode cX11_change 61 = .ok (.ireturn, 1) := by decide +kernel
theorem dX11_change_62 : decode cX11_change 62 = .ok (.iload 4, 2) := by decide +kernel
theorem dX11_change_64 : decode cX11_change 64 = .ok (.ifCond .eq 23, 3) := by decide +kernel
theorem dX11_change_67 : decode cX11_change 67 = .ok (.aload_n 0, 1) := by decide +kernel
theorem dX11_change_68 : decode cX11_change 68 = .ok (.iload_n 1, 1) := by decide +kernel
theorem dX11_change_69 : decode cX11_change 69 = .ok (.aload_n 0, 1) := by decide +kernel
theorem dX11_change_70 : decode cX11_change 70 = .ok (.getfield 13, 3) := by decide +kernel
theorem dX11_change_73 : decode cX11_change 73 = .ok (.iload_n 1, 1) := by decide +kernel
theorem dX11_change_74 : decode cX11_change 74 = .ok (.laload, 1) := by decide +kernel
theorem dX11_change_75 : decode cX11_change 75 = .ok (.lconst 1, 1) := by decide +kernel
theorem dX11_change_76 : decode cX11_change 76 = .ok (.iload_n 2, 1) := by decide +kernel
theorem dX11_change_77 : decode cX11_change 77 = .ok (.iload_n 3, 1) := by decide +kernel
theorem dX11_change_78 : decode cX11_change 78 = .ok (.invokestatic 141, 3) := by decide +kernel
theorem dX11_change_81 : decode cX11_change 81 = .ok (.invokevirtual 107, 3) := by decide +kernel
theorem dX11_change_84 : decode cX11_change 84 = .ok (.goto 25, 3) := by decide +kernel
theorem dX11_change_87 : decode cX11_change 87 = .ok (.aload_n 0, 1) := by decide +kernel
theorem dX11_change_88 : decode cX11_change 88 = .ok (.iload_n 1, 1) := by decide +kernel
theorem dX11_change_89 : decode cX11_change 89 = .ok (.aload_n 0, 1) := by decide +kernel
theorem dX11_change_90 : decode cX11_change 90 = .ok (.getfield 13, 3) := by decide +kernel
theorem dX11_change_93 : decode cX11_change 93 = .ok (.iload_n 1, 1) := by decide +kernel
theorem dX11_change_94 : decode cX11_change 94 = .ok (.laload, 1) := by decide +kernel
theorem dX11_change_95 : decode cX11_change 95 = .ok (.lconst 1, 1) := by decide +kernel
theorem dX11_change_96 : decode cX11_change 96 = .ok (.iload_n 2, 1) := by decide +kernel
theorem dX11_change_97 : decode cX11_change 97 = .ok (.iload_n 3, 1) := by decide +kernel
theorem dX11_change_98 : decode cX11_change 98 = .ok (.invokestatic 145, 3) := by decide +kernel
theorem dX11_change_101 : decode cX11_change 101 = .ok (.ldc2_w 130, 3) := by decide +kernel
theorem dX11_change_104 : decode cX11_change 104 = .ok (.lxor, 1) := by decide +kernel
theorem dX11_change_105 : decode cX11_change 105 = .ok (.land, 1) := by decide +kernel
theorem dX11_change_106 : decode cX11_change 106 = .ok (.invokevirtual 107, 3) := by decide +kernel
theorem dX11_change_109 : decode cX11_change 109 = .ok (.ireturn, 1) := by decide +kernel
theorem dX11_list_0 : decode cX11_list 0 = .ok (.iload_n 1, 1) := by decide +kernel
theorem dX11_list_1 : decode cX11_list 1 = .ok (.iload_n 2, 1) := by decide +kernel
theorem dX11_list_2 : decode cX11_list 2 = .ok (.invokestatic 149, 3) := by decide +kernel
theorem dX11_list_5 : decode cX11_list 5 = .ok (.ifCond .ne 5, 3) := by decide +kernel
theorem dX11_list_8 : decode cX11_list 8 = .ok (.iconst (-1), 1) := by decide +kernel
theorem dX11_list_9 : decode cX11_list 9 = .ok (.ireturn, 1) := by decide +kernel
theorem dX11_list_10 : decode cX11_list 10 = .ok (.aload_n 0, 1) := by decide +kernel
theorem dX11_list_11 : decode cX11_list 11 = .ok (.getfield 46, 3) := by decide +kernel
theorem dX11_list_14 : decode cX11_list 14 = .ok (.iload_n 1, 1) := by decide +kernel
theorem dX11_list_15 : decode cX11_list 15 = .ok (.invokevirtual 153, 3) := by decide +kernel
theorem dX11_list_18 : decode cX11_list 18 = .ok (.aload_n 0, 1) := by decide +kernel
theorem dX11_list_19 : decode cX11_list 19 = .ok (.getfield 46, 3) := by decide +kernel
theorem dX11_list_22 : decode cX11_list 22 = .ok (.iload_n 1, 1) := by decide +kernel
theorem dX11_list_23 : decode cX11_list 23 = .ok (.iload_n 2, 1) := by decide +kernel
theorem dX11_list_24 : decode cX11_list 24 = .ok (.invokevirtual 156, 3) := by decide +kernel
theorem dX11_list_27 : decode cX11_list 27 = .ok (.ireturn, 1) := by decide +kernel
theorem dX11_listed_0 : decode cX11_listed 0 = .ok (.iload_n 1, 1) := by decide +kernel
theorem dX11_listed_1 : decode cX11_listed 1 = .ok (.iload_n 2, 1) := by decide +kernel
theorem dX11_listed_2 : decode cX11_listed 2 = .ok (.invokestatic 149, 3) := by decide +kernel
theorem dX11_listed_5 : decode cX11_listed 5 = .ok (.ifCond .eq 7, 3) := by decide +kernel
theorem dX11_listed_8 : decode cX11_listed 8 = .ok (.iload_n 3, 1) := by decide +kernel
theorem dX11_listed_9 : decode cX11_listed 9 = .ok (.ifCond .ge 7, 3) := by decide +kernel
theorem dX11_listed_12 : decode cX11_listed 12 = .ok (.ldc2_w 130, 3) := by decide +kernel
theorem dX11_listed_15 : decode cX11_listed 15 = .ok (.lreturn, 1) := by decide +kernel
theorem dX11_listed_16 : decode cX11_listed 16 = .ok (.aload_n 0, 1) := by decide +kernel
theorem dX11_listed_17 : decode cX11_listed 17 = .ok (.getfield 46, 3) := by decide +kernel
theorem dX11_listed_20 : decode cX11_listed 20 = .ok (.iload_n 1, 1) := by decide +kernel
theorem dX11_listed_21 : decode cX11_listed 21 = .ok (.invokevirtual 153, 3) := by decide +kernel
theorem dX11_listed_24 : decode cX11_listed 24 = .ok (.iload_n 3, 1) := by decide +kernel
theorem dX11_listed_25 : decode cX11_listed 25 = .ok (.aload_n 0, 1) := by decide +kernel
theorem dX11_listed_26 : decode cX11_listed 26 = .ok (.getfield 46, 3) := by decide +kernel
theorem dX11_listed_29 : decode cX11_listed 29 = .ok (.iload_n 1, 1) := by decide +kernel
theorem dX11_listed_30 : decode cX11_listed 30 = .ok (.iload_n 2, 1) := by decide +kernel
theorem dX11_listed_31 : decode cX11_listed 31 = .ok (.invokevirtual 156, 3) := by decide +kernel
theorem dX11_listed_34 : decode cX11_listed 34 = .ok (.if_icmp .ge 16, 3) := by decide +kernel
theorem dX11_listed_37 : decode cX11_listed 37 = .ok (.aload_n 0, 1) := by decide +kernel
theorem dX11_listed_38 : decode cX11_listed 38 = .ok (.getfield 46, 3) := by decide +kernel
theorem dX11_listed_41 : decode cX11_listed 41 = .ok (.iload_n 1, 1) := by decide +kernel
theorem dX11_listed_42 : decode cX11_listed 42 = .ok (.iload_n 2, 1) := by decide +kernel
theorem dX11_listed_43 : decode cX11_listed 43 = .ok (.iload_n 3, 1) := by decide +kernel
theorem dX11_listed_44 : decode cX11_listed 44 = .ok (.invokevirtual 160, 3) := by decide +kernel
theorem dX11_listed_47 : decode cX11_listed 47 = .ok (.goto 6, 3) := by decide +kernel
theorem dX11_listed_50 : decode cX11_listed 50 = .ok (.ldc2_w 132, 3) := by decide +kernel
theorem dX11_listed_53 : decode cX11_listed 53 = .ok (.lreturn, 1) := by decide +kernel
theorem dX11_place_0 : decode cX11_place 0 = .ok (.iload_n 1, 1) := by decide +kernel
theorem dX11_place_1 : decode cX11_place 1 = .ok (.invokestatic 91, 3) := by decide +kernel
theorem dX11_place_4 : decode cX11_place 4 = .ok (.ifCond .eq 10, 3) := by decide +kernel
theorem dX11_place_7 : decode cX11_place 7 = .ok (.iload_n 2, 1) := by decide +kernel
theorem dX11_place_8 : decode cX11_place 8 = .ok (.invokestatic 127, 3) := by decide +kernel
theorem dX11_place_11 : decode cX11_place 11 = .ok (.ifCond .ne 5, 3) := by decide +kernel
theorem dX11_place_14 : decode cX11_place 14 = .ok (.iconst (-1), 1) := by decide +kernel
theorem dX11_place_15 : decode cX11_place 15 = .ok (.ireturn, 1) := by decide +kernel
theorem dX11_place_16 : decode cX11_place 16 = .ok (.aload_n 0, 1) := by decide +kernel
theorem dX11_place_17 : decode cX11_place 17 = .ok (.getfield 13, 3) := by decide +kernel
theorem dX11_place_20 : decode cX11_place 20 = .ok (.iload_n 1, 1) := by decide +kernel
theorem dX11_place_21 : decode cX11_place 21 = .ok (.laload, 1) := by decide +kernel
theorem dX11_place_22 : decode cX11_place 22 = .ok (.lconst 0, 1) := by decide +kernel
theorem dX11_place_23 : decode cX11_place 23 = .ok (.lcmp, 1) := by decide +kernel
theorem dX11_place_24 : decode cX11_place 24 = .ok (.ifCond .ne 6, 3) := by decide +kernel
theorem dX11_place_27 : decode cX11_place 27 = .ok (.bipush (-2), 2) := by decide +kernel
theorem dX11_place_29 : decode cX11_place 29 = .ok (.ireturn, 1) := by decide +kernel
theorem dX11_place_30 : decode cX11_place 30 = .ok (.aload_n 0, 1) := by decide +kernel
theorem dX11_place_31 : decode cX11_place 31 = .ok (.getfield 13, 3) := by decide +kernel
theorem dX11_place_34 : decode cX11_place 34 = .ok (.iload_n 1, 1) := by decide +kernel
theorem dX11_place_35 : decode cX11_place 35 = .ok (.laload, 1) := by decide +kernel
theorem dX11_place_36 : decode cX11_place 36 = .ok (.invokestatic 164, 3) := by decide +kernel
theorem dX11_place_39 : decode cX11_place 39 = .ok (.istore_n 3, 1) := by decide +kernel
theorem dX11_place_40 : decode cX11_place 40 = .ok (.iload_n 3, 1) := by decide +kernel
theorem dX11_place_41 : decode cX11_place 41 = .ok (.bipush 7, 2) := by decide +kernel
theorem dX11_place_43 : decode cX11_place 43 = .ok (.if_icmp .le 6, 3) := by decide +kernel
theorem dX11_place_46 : decode cX11_place 46 = .ok (.bipush (-3), 2) := by decide +kernel
theorem dX11_place_48 : decode cX11_place 48 = .ok (.ireturn, 1) := by decide +kernel
theorem dX11_place_49 : decode cX11_place 49 = .ok (.aload_n 0, 1) := by decide +kernel
theorem dX11_place_50 : decode cX11_place 50 = .ok (.getfield 46, 3) := by decide +kernel
theorem dX11_place_53 : decode cX11_place 53 = .ok (.iload_n 3, 1) := by decide +kernel
theorem dX11_place_54 : decode cX11_place 54 = .ok (.invokevirtual 153, 3) := by decide +kernel
theorem dX11_place_57 : decode cX11_place 57 = .ok (.aload_n 0, 1) := by decide +kernel
theorem dX11_place_58 : decode cX11_place 58 = .ok (.getfield 46, 3) := by decide +kernel
theorem dX11_place_61 : decode cX11_place 61 = .ok (.iload_n 3, 1) := by decide +kernel
theorem dX11_place_62 : decode cX11_place 62 = .ok (.iload_n 2, 1) := by decide +kernel
theorem dX11_place_63 : decode cX11_place 63 = .ok (.aload_n 0, 1) := by decide +kernel
theorem dX11_place_64 : decode cX11_place 64 = .ok (.getfield 13, 3) := by decide +kernel
theorem dX11_place_67 : decode cX11_place 67 = .ok (.iload_n 1, 1) := by decide +kernel
theorem dX11_place_68 : decode cX11_place 68 = .ok (.laload, 1) := by decide +kernel
theorem dX11_place_69 : decode cX11_place 69 = .ok (.iload_n 2, 1) := by decide +kernel
theorem dX11_place_70 : decode cX11_place 70 = .ok (.invokestatic 134, 3) := by decide +kernel
theorem dX11_place_73 : decode cX11_place 73 = .ok (.invokevirtual 170, 3) := by decide +kernel
theorem dX11_place_76 : decode cX11_place 76 = .ok (.ireturn, 1) := by decide +kernel
theorem dX11_many_0 : decode cX11_many 0 = .ok (.iload_n 1, 1) := by decide +kernel
theorem dX11_many_1 : decode cX11_many 1 = .ok (.iload_n 2, 1) := by decide +kernel
theorem dX11_many_2 : decode cX11_many 2 = .ok (.invokestatic 149, 3) := by decide +kernel
theorem dX11_many_5 : decode cX11_many 5 = .ok (.ifCond .eq 20, 3) := by decide +kernel
theorem dX11_many_8 : decode cX11_many 8 = .ok (.iload_n 3, 1) := by decide +kernel
theorem dX11_many_9 : decode cX11_many 9 = .ok (.iconst 0, 1) := by decide +kernel
theorem dX11_many_10 : decode cX11_many 10 = .ok (.bipush 14, 2) := by decide +kernel
theorem dX11_many_12 : decode cX11_many 12 = .ok (.invokestatic 95, 3) := by decide +kernel
theorem dX11_many_15 : decode cX11_many 15 = .ok (.ifCond .eq 10, 3) := by decide +kernel
theorem dX11_many_18 : decode cX11_many 18 = .ok (.iload 5, 2) := by decide +kernel
theorem dX11_many_20 : decode cX11_many 20 = .ok (.iload 4, 2) := by decide +kernel
theorem dX11_many_22 : decode cX11_many 22 = .ok (.if_icmp .ge 5, 3) := by decide +kernel
theorem dX11_many_25 : decode cX11_many 25 = .ok (.iconst (-1), 1) := by decide +kernel
theorem dX11_many_26 : decode cX11_many 26 = .ok (.ireturn, 1) := by decide +kernel
theorem dX11_many_27 : decode cX11_many 27 = .ok (.aload_n 0, 1) := by decide +kernel
theorem dX11_many_28 : decode cX11_many 28 = .ok (.getfield 46, 3) := by decide +kernel
theorem dX11_many_31 : decode cX11_many 31 = .ok (.iload_n 1, 1) := by decide +kernel
theorem dX11_many_32 : decode cX11_many 32 = .ok (.invokevirtual 153, 3) := by decide +kernel
theorem dX11_many_35 : decode cX11_many 35 = .ok (.aload_n 0, 1) := by decide +kernel
theorem dX11_many_36 : decode cX11_many 36 = .ok (.getfield 46, 3) := by decide +kernel
theorem dX11_many_39 : decode cX11_many 39 = .ok (.iload_n 1, 1) := by decide +kernel
theorem dX11_many_40 : decode cX11_many 40 = .ok (.iload_n 2, 1) := by decide +kernel
theorem dX11_many_41 : decode cX11_many 41 = .ok (.invokevirtual 156, 3) := by decide +kernel
theorem dX11_many_44 : decode cX11_many 44 = .ok (.istore 6, 2) := by decide +kernel
theorem dX11_many_46 : decode cX11_many 46 = .ok (.iconst 0, 1) := by decide +kernel
theorem dX11_many_47 : decode cX11_many 47 = .ok (.istore 7, 2) := by decide +kernel
theorem dX11_many_49 : decode cX11_many 49 = .ok (.iconst 0, 1) := by decide +kernel
theorem dX11_many_50 : decode cX11_many 50 = .ok (.istore 8, 2) := by decide +kernel
theorem dX11_many_52 : decode cX11_many 52 = .ok (.iload 8, 2) := by decide +kernel
theorem dX11_many_54 : decode cX11_many 54 = .ok (.iload 6, 2) := by decide +kernel
theorem dX11_many_56 : decode cX11_many 56 = .ok (.if_icmp .ge 34, 3) := by decide +kernel
theorem dX11_many_59 : decode cX11_many 59 = .ok (.aload_n 0, 1) := by decide +kernel
theorem dX11_many_60 : decode cX11_many 60 = .ok (.getfield 46, 3) := by decide +kernel
theorem dX11_many_63 : decode cX11_many 63 = .ok (.iload_n 1, 1) := by decide +kernel
theorem dX11_many_64 : decode cX11_many 64 = .ok (.iload_n 2, 1) := by decide +kernel
theorem dX11_many_65 : decode cX11_many 65 = .ok (.iload 8, 2) := by decide +kernel
theorem dX11_many_67 : decode cX11_many 67 = .ok (.iload_n 3, 1) := by decide +kernel
theorem dX11_many_68 : decode cX11_many 68 = .ok (.invokevirtual 174, 3) := by decide +kernel
theorem dX11_many_71 : decode cX11_many 71 = .ok (.iload 4, 2) := by decide +kernel
theorem dX11_many_73 : decode cX11_many 73 = .ok (.iload 5, 2) := by decide +kernel
theorem dX11_many_75 : decode cX11_many 75 = .ok (.invokestatic 95, 3) := by decide +kernel
theorem dX11_many_78 : decode cX11_many 78 = .ok (.ifCond .eq 6, 3) := by decide +kernel
theorem dX11_many_81 : decode cX11_many 81 = .ok (.iinc 7 1, 3) := by decide +kernel
theorem dX11_many_84 : decode cX11_many 84 = .ok (.iinc 8 1, 3) := by decide +kernel
theorem dX11_many_87 : decode cX11_many 87 = .ok (.goto (-35), 3) := by decide +kernel
theorem dX11_many_90 : decode cX11_many 90 = .ok (.iload 7, 2) := by decide +kernel
theorem dX11_many_92 : decode cX11_many 92 = .ok (.ireturn, 1) := by decide +kernel
theorem dX11_found_0 : decode cX11_found 0 = .ok (.iload_n 1, 1) := by decide +kernel
theorem dX11_found_1 : decode cX11_found 1 = .ok (.iload_n 2, 1) := by decide +kernel
theorem dX11_found_2 : decode cX11_found 2 = .ok (.invokestatic 149, 3) := by decide +kernel
theorem dX11_found_5 : decode cX11_found 5 = .ok (.ifCond .eq 25, 3) := by decide +kernel
theorem dX11_found_8 : decode cX11_found 8 = .ok (.iload_n 3, 1) := by decide +kernel
theorem dX11_found_9 : decode cX11_found 9 = .ok (.iconst 0, 1) := by decide +kernel
theorem dX11_found_10 : decode cX11_found 10 = .ok (.bipush 14, 2) := by decide +kernel
theorem dX11_found_12 : decode cX11_found 12 = .ok (.invokestatic 95, 3) := by decide +kernel
theorem dX11_found_15 : decode cX11_found 15 = .ok (.ifCond .eq 15, 3) := by decide +kernel
theorem dX11_found_18 : decode cX11_found 18 = .ok (.iload 5, 2) := by decide +kernel
theorem dX11_found_20 : decode cX11_found 20 = .ok (.iload 4, 2) := by decide +kernel
theorem dX11_found_22 : decode cX11_found 22 = .ok (.if_icmp .lt 8, 3) := by decide +kernel
theorem dX11_found_25 : decode cX11_found 25 = .ok (.iload 6, 2) := by decide +kernel
theorem dX11_found_27 : decode cX11_found 27 = .ok (.ifCond .ge 7, 3) := by decide +kernel
theorem dX11_found_30 : decode cX11_found 30 = .ok (.ldc2_w 130, 3) := by decide +kernel
theorem dX11_found_33 : decode cX11_found 33 = .ok (.lreturn, 1) := by decide +kernel
theorem dX11_found_34 : decode cX11_found 34 = .ok (.aload_n 0, 1) := by decide +kernel
theorem dX11_found_35 : decode cX11_found 35 = .ok (.getfield 46, 3) := by decide +kernel
theorem dX11_found_38 : decode cX11_found 38 = .ok (.iload_n 1, 1) := by decide +kernel
theorem dX11_found_39 : decode cX11_found 39 = .ok (.invokevirtual 153, 3) := by decide +kernel
theorem dX11_found_42 : decode cX11_found 42 = .ok (.aload_n 0, 1) := by decide +kernel
theorem dX11_found_43 : decode cX11_found 43 = .ok (.getfield 46, 3) := by decide +kernel
theorem dX11_found_46 : decode cX11_found 46 = .ok (.iload_n 1, 1) := by decide +kernel
theorem dX11_found_47 : decode cX11_found 47 = .ok (.iload_n 2, 1) := by decide +kernel
theorem dX11_found_48 : decode cX11_found 48 = .ok (.invokevirtual 156, 3) := by decide +kernel
theorem dX11_found_51 : decode cX11_found 51 = .ok (.istore 7, 2) := by decide +kernel
theorem dX11_found_53 : decode cX11_found 53 = .ok (.iload 6, 2) := by decide +kernel
theorem dX11_found_55 : decode cX11_found 55 = .ok (.istore 8, 2) := by decide +kernel
theorem dX11_found_57 : decode cX11_found 57 = .ok (.iconst 0, 1) := by decide +kernel
theorem dX11_found_58 : decode cX11_found 58 = .ok (.istore 9, 2) := by decide +kernel
theorem dX11_found_60 : decode cX11_found 60 = .ok (.iload 9, 2) := by decide +kernel
theorem dX11_found_62 : decode cX11_found 62 = .ok (.iload 7, 2) := by decide +kernel
theorem dX11_found_64 : decode cX11_found 64 = .ok (.if_icmp .ge 51, 3) := by decide +kernel
theorem dX11_found_67 : decode cX11_found 67 = .ok (.aload_n 0, 1) := by decide +kernel
theorem dX11_found_68 : decode cX11_found 68 = .ok (.getfield 46, 3) := by decide +kernel
theorem dX11_found_71 : decode cX11_found 71 = .ok (.iload_n 1, 1) := by decide +kernel
theorem dX11_found_72 : decode cX11_found 72 = .ok (.iload_n 2, 1) := by decide +kernel
theorem dX11_found_73 : decode cX11_found 73 = .ok (.iload 9, 2) := by decide +kernel
theorem dX11_found_75 : decode cX11_found 75 = .ok (.iload_n 3, 1) := by decide +kernel
theorem dX11_found_76 : decode cX11_found 76 = .ok (.invokevirtual 174, 3) := by decide +kernel
theorem dX11_found_79 : decode cX11_found 79 = .ok (.iload 4, 2) := by decide +kernel
theorem dX11_found_81 : decode cX11_found 81 = .ok (.iload 5, 2) := by decide +kernel
theorem dX11_found_83 : decode cX11_found 83 = .ok (.invokestatic 95, 3) := by decide +kernel
theorem dX11_found_86 : decode cX11_found 86 = .ok (.ifCond .eq 23, 3) := by decide +kernel
theorem dX11_found_89 : decode cX11_found 89 = .ok (.iload 8, 2) := by decide +kernel
theorem dX11_found_91 : decode cX11_found 91 = .ok (.ifCond .ne 15, 3) := by decide +kernel
theorem dX11_found_94 : decode cX11_found 94 = .ok (.aload_n 0, 1) := by decide +kernel
theorem dX11_found_95 : decode cX11_found 95 = .ok (.getfield 46, 3) := by decide +kernel
theorem dX11_found_98 : decode cX11_found 98 = .ok (.iload_n 1, 1) := by decide +kernel
theorem dX11_found_99 : decode cX11_found 99 = .ok (.iload_n 2, 1) := by decide +kernel
theorem dX11_found_100 : decode cX11_found 100 = .ok (.iload 9, 2) := by decide +kernel
theorem dX11_found_102 : decode cX11_found 102 = .ok (.invokevirtual 160, 3) := by decide +kernel
theorem dX11_found_105 : decode cX11_found 105 = .ok (.lreturn, 1) := by decide +kernel
theorem dX11_found_106 : decode cX11_found 106 = .ok (.iinc 8 (-1), 3) := by decide +kernel
theorem dX11_found_109 : decode cX11_found 109 = .ok (.iinc 9 1, 3) := by decide +kernel
theorem dX11_found_112 : decode cX11_found 112 = .ok (.goto (-52), 3) := by decide +kernel
theorem dX11_found_115 : decode cX11_found 115 = .ok (.ldc2_w 132, 3) := by decide +kernel
theorem dX11_found_118 : decode cX11_found 118 = .ok (.lreturn, 1) := by decide +kernel
theorem dX11_crowd_0 : decode cX11_crowd 0 = .ok (.iload_n 1, 1) := by decide +kernel
theorem dX11_crowd_1 : decode cX11_crowd 1 = .ok (.iload_n 2, 1) := by decide +kernel
theorem dX11_crowd_2 : decode cX11_crowd 2 = .ok (.invokestatic 149, 3) := by decide +kernel
theorem dX11_crowd_5 : decode cX11_crowd 5 = .ok (.ifCond .eq 13, 3) := by decide +kernel
theorem dX11_crowd_8 : decode cX11_crowd 8 = .ok (.iload_n 3, 1) := by decide +kernel
theorem dX11_crowd_9 : decode cX11_crowd 9 = .ok (.iconst 0, 1) := by decide +kernel
theorem dX11_crowd_10 : decode cX11_crowd 10 = .ok (.bipush 14, 2) := by decide +kernel
theorem dX11_crowd_12 : decode cX11_crowd 12 = .ok (.invokestatic 95, 3) := by decide +kernel
theorem dX11_crowd_15 : decode cX11_crowd 15 = .ok (.ifCond .ne 5, 3) := by decide +kernel
theorem dX11_crowd_18 : decode cX11_crowd 18 = .ok (.iconst (-1), 1) := by decide +kernel
theorem dX11_crowd_19 : decode cX11_crowd 19 = .ok (.ireturn, 1) := by decide +kernel
theorem dX11_crowd_20 : decode cX11_crowd 20 = .ok (.aload_n 0, 1) := by decide +kernel
theorem dX11_crowd_21 : decode cX11_crowd 21 = .ok (.getfield 46, 3) := by decide +kernel
theorem dX11_crowd_24 : decode cX11_crowd 24 = .ok (.iload_n 1, 1) := by decide +kernel
theorem dX11_crowd_25 : decode cX11_crowd 25 = .ok (.invokevirtual 153, 3) := by decide +kernel
theorem dX11_crowd_28 : decode cX11_crowd 28 = .ok (.aload_n 0, 1) := by decide +kernel
theorem dX11_crowd_29 : decode cX11_crowd 29 = .ok (.getfield 46, 3) := by decide +kernel
theorem dX11_crowd_32 : decode cX11_crowd 32 = .ok (.iload_n 1, 1) := by decide +kernel
theorem dX11_crowd_33 : decode cX11_crowd 33 = .ok (.iload_n 2, 1) := by decide +kernel
theorem dX11_crowd_34 : decode cX11_crowd 34 = .ok (.iload_n 3, 1) := by decide +kernel
theorem dX11_crowd_35 : decode cX11_crowd 35 = .ok (.iload 4, 2) := by decide +kernel
theorem dX11_crowd_37 : decode cX11_crowd 37 = .ok (.invokevirtual 178, 3) := by decide +kernel
theorem dX11_crowd_40 : decode cX11_crowd 40 = .ok (.ireturn, 1) := by decide +kernel
theorem dX11_kin_0 : decode cX11_kin 0 = .ok (.iload_n 1, 1) := by decide +kernel
theorem dX11_kin_1 : decode cX11_kin 1 = .ok (.invokestatic 91, 3) := by decide +kernel
theorem dX11_kin_4 : decode cX11_kin 4 = .ok (.ifCond .eq 10, 3) := by decide +kernel
theorem dX11_kin_7 : decode cX11_kin 7 = .ok (.iload_n 2, 1) := by decide +kernel
theorem dX11_kin_8 : decode cX11_kin 8 = .ok (.invokestatic 127, 3) := by decide +kernel
theorem dX11_kin_11 : decode cX11_kin 11 = .ok (.ifCond .ne 5, 3) := by decide +kernel
theorem dX11_kin_14 : decode cX11_kin 14 = .ok (.iconst (-1), 1) := by decide +kernel
theorem dX11_kin_15 : decode cX11_kin 15 = .ok (.ireturn, 1) := by decide +kernel
theorem dX11_kin_16 : decode cX11_kin 16 = .ok (.aload_n 0, 1) := by decide +kernel
theorem dX11_kin_17 : decode cX11_kin 17 = .ok (.getfield 13, 3) := by decide +kernel
theorem dX11_kin_20 : decode cX11_kin 20 = .ok (.iload_n 1, 1) := by decide +kernel
theorem dX11_kin_21 : decode cX11_kin 21 = .ok (.laload, 1) := by decide +kernel
theorem dX11_kin_22 : decode cX11_kin 22 = .ok (.lconst 0, 1) := by decide +kernel
theorem dX11_kin_23 : decode cX11_kin 23 = .ok (.lcmp, 1) := by decide +kernel
theorem dX11_kin_24 : decode cX11_kin 24 = .ok (.ifCond .ne 6, 3) := by decide +kernel
theorem dX11_kin_27 : decode cX11_kin 27 = .ok (.bipush (-2), 2) := by decide +kernel
theorem dX11_kin_29 : decode cX11_kin 29 = .ok (.ireturn, 1) := by decide +kernel
theorem dX11_kin_30 : decode cX11_kin 30 = .ok (.aload_n 0, 1) := by decide +kernel
theorem dX11_kin_31 : decode cX11_kin 31 = .ok (.getfield 13, 3) := by decide +kernel
theorem dX11_kin_34 : decode cX11_kin 34 = .ok (.iload_n 1, 1) := by decide +kernel
theorem dX11_kin_35 : decode cX11_kin 35 = .ok (.laload, 1) := by decide +kernel
theorem dX11_kin_36 : decode cX11_kin 36 = .ok (.iload_n 2, 1) := by decide +kernel
theorem dX11_kin_37 : decode cX11_kin 37 = .ok (.iload_n 3, 1) := by decide +kernel
theorem dX11_kin_38 : decode cX11_kin 38 = .ok (.aload_n 0, 1) := by decide +kernel
theorem dX11_kin_39 : decode cX11_kin 39 = .ok (.getfield 30, 3) := by decide +kernel
theorem dX11_kin_42 : decode cX11_kin 42 = .ok (.invokestatic 182, 3) := by decide +kernel
theorem dX11_kin_45 : decode cX11_kin 45 = .ok (.aload_n 0, 1) := by decide +kernel
theorem dX11_kin_46 : decode cX11_kin 46 = .ok (.getfield 30, 3) := by decide +kernel
theorem dX11_kin_49 : decode cX11_kin 49 = .ok (.invokevirtual 188, 3) := by decide +kernel
theorem dX11_kin_52 : decode cX11_kin 52 = .ok (.ireturn, 1) := by decide +kernel
theorem dX11_kinAt_0 : decode cX11_kinAt 0 = .ok (.iload_n 1, 1) := by decide +kernel
theorem dX11_kinAt_1 : decode cX11_kinAt 1 = .ok (.invokestatic 91, 3) := by decide +kernel
theorem dX11_kinAt_4 : decode cX11_kinAt 4 = .ok (.ifCond .eq 15, 3) := by decide +kernel
theorem dX11_kinAt_7 : decode cX11_kinAt 7 = .ok (.iload_n 2, 1) := by decide +kernel
theorem dX11_kinAt_8 : decode cX11_kinAt 8 = .ok (.invokestatic 127, 3) := by decide +kernel
theorem dX11_kinAt_11 : decode cX11_kinAt 11 = .ok (.ifCond .eq 8, 3) := by decide +kernel
theorem dX11_kinAt_14 : decode cX11_kinAt 14 = .ok (.iload 4, 2) := by decide +kernel
theorem dX11_kinAt_16 : decode cX11_kinAt 16 = .ok (.ifCond .ge 7, 3) := by decide +kernel
theorem dX11_kinAt_19 : decode cX11_kinAt 19 = .ok (.ldc2_w 130, 3) := by decide +kernel
theorem dX11_kinAt_22 : decode cX11_kinAt 22 = .ok (.lreturn, 1) := by decide +kernel
theorem dX11_kinAt_23 : decode cX11_kinAt 23 = .ok (.aload_n 0, 1) := by decide +kernel
theorem dX11_kinAt_24 : decode cX11_kinAt 24 = .ok (.getfield 13, 3) := by decide +kernel
theorem dX11_kinAt_27 : decode cX11_kinAt 27 = .ok (.iload_n 1, 1) := by decide +kernel
theorem dX11_kinAt_28 : decode cX11_kinAt 28 = .ok (.laload, 1) := by decide +kernel
theorem dX11_kinAt_29 : decode cX11_kinAt 29 = .ok (.lconst 0, 1) := by decide +kernel
theorem dX11_kinAt_30 : decode cX11_kinAt 30 = .ok (.lcmp, 1) := by decide +kernel
theorem dX11_kinAt_31 : decode cX11_kinAt 31 = .ok (.ifCond .ne 7, 3) := by decide +kernel
theorem dX11_kinAt_34 : decode cX11_kinAt 34 = .ok (.ldc2_w 132, 3) := by decide +kernel
theorem dX11_kinAt_37 : decode cX11_kinAt 37 = .ok (.lreturn, 1) := by decide +kernel
theorem dX11_kinAt_38 : decode cX11_kinAt 38 = .ok (.aload_n 0, 1) := by decide +kernel
theorem dX11_kinAt_39 : decode cX11_kinAt 39 = .ok (.getfield 13, 3) := by decide +kernel
theorem dX11_kinAt_42 : decode cX11_kinAt 42 = .ok (.iload_n 1, 1) := by decide +kernel
theorem dX11_kinAt_43 : decode cX11_kinAt 43 = .ok (.laload, 1) := by decide +kernel
theorem dX11_kinAt_44 : decode cX11_kinAt 44 = .ok (.iload_n 2, 1) := by decide +kernel
theorem dX11_kinAt_45 : decode cX11_kinAt 45 = .ok (.iload_n 3, 1) := by decide +kernel
theorem dX11_kinAt_46 : decode cX11_kinAt 46 = .ok (.aload_n 0, 1) := by decide +kernel
theorem dX11_kinAt_47 : decode cX11_kinAt 47 = .ok (.getfield 30, 3) := by decide +kernel
theorem dX11_kinAt_50 : decode cX11_kinAt 50 = .ok (.invokestatic 182, 3) := by decide +kernel
theorem dX11_kinAt_53 : decode cX11_kinAt 53 = .ok (.iload 4, 2) := by decide +kernel
theorem dX11_kinAt_55 : decode cX11_kinAt 55 = .ok (.aload_n 0, 1) := by decide +kernel
theorem dX11_kinAt_56 : decode cX11_kinAt 56 = .ok (.getfield 30, 3) := by decide +kernel
theorem dX11_kinAt_59 : decode cX11_kinAt 59 = .ok (.invokevirtual 188, 3) := by decide +kernel
theorem dX11_kinAt_62 : decode cX11_kinAt 62 = .ok (.if_icmp .ge 15, 3) := by decide +kernel
theorem dX11_kinAt_65 : decode cX11_kinAt 65 = .ok (.aload_n 0, 1) := by decide +kernel
theorem dX11_kinAt_66 : decode cX11_kinAt 66 = .ok (.getfield 30, 3) := by decide +kernel
theorem dX11_kinAt_69 : decode cX11_kinAt 69 = .ok (.iload 4, 2) := by decide +kernel
theorem dX11_kinAt_71 : decode cX11_kinAt 71 = .ok (.invokevirtual 191, 3) := by decide +kernel
theorem dX11_kinAt_74 : decode cX11_kinAt 74 = .ok (.goto 6, 3) := by decide +kernel
theorem dX11_kinAt_77 : decode cX11_kinAt 77 = .ok (.ldc2_w 194, 3) := by decide +kernel
theorem dX11_kinAt_80 : decode cX11_kinAt 80 = .ok (.lreturn, 1) := by decide +kernel
theorem dX11_way_0 : decode cX11_way 0 = .ok (.iload_n 1, 1) := by decide +kernel
theorem dX11_way_1 : decode cX11_way 1 = .ok (.invokestatic 91, 3) := by decide +kernel
theorem dX11_way_4 : decode cX11_way 4 = .ok (.ifCond .eq 10, 3) := by decide +kernel
theorem dX11_way_7 : decode cX11_way 7 = .ok (.iload_n 2, 1) := by decide +kernel
theorem dX11_way_8 : decode cX11_way 8 = .ok (.invokestatic 91, 3) := by decide +kernel
theorem dX11_way_11 : decode cX11_way 11 = .ok (.ifCond .ne 5, 3) := by decide +kernel
theorem dX11_way_14 : decode cX11_way 14 = .ok (.iconst (-1), 1) := by decide +kernel
theorem dX11_way_15 : decode cX11_way 15 = .ok (.ireturn, 1) := by decide +kernel
theorem dX11_way_16 : decode cX11_way 16 = .ok (.aload_n 0, 1) := by decide +kernel
theorem dX11_way_17 : decode cX11_way 17 = .ok (.getfield 13, 3) := by decide +kernel
theorem dX11_way_20 : decode cX11_way 20 = .ok (.iload_n 1, 1) := by decide +kernel
theorem dX11_way_21 : decode cX11_way 21 = .ok (.laload, 1) := by decide +kernel
theorem dX11_way_22 : decode cX11_way 22 = .ok (.lconst 0, 1) := by decide +kernel
theorem dX11_way_23 : decode cX11_way 23 = .ok (.lcmp, 1) := by decide +kernel
theorem dX11_way_24 : decode cX11_way 24 = .ok (.ifCond .eq 14, 3) := by decide +kernel
theorem dX11_way_27 : decode cX11_way 27 = .ok (.aload_n 0, 1) := by decide +kernel
theorem dX11_way_28 : decode cX11_way 28 = .ok (.getfield 13, 3) := by decide +kernel
theorem dX11_way_31 : decode cX11_way 31 = .ok (.iload_n 2, 1) := by decide +kernel
theorem dX11_way_32 : decode cX11_way 32 = .ok (.laload, 1) := by decide +kernel
theorem dX11_way_33 : decode cX11_way 33 = .ok (.lconst 0, 1) := by decide +kernel
theorem dX11_way_34 : decode cX11_way 34 = .ok (.lcmp, 1) := by decide +kernel
theorem dX11_way_35 : decode cX11_way 35 = .ok (.ifCond .ne 6, 3) := by decide +kernel
theorem dX11_way_38 : decode cX11_way 38 = .ok (.bipush (-2), 2) := by decide +kernel
theorem dX11_way_40 : decode cX11_way 40 = .ok (.ireturn, 1) := by decide +kernel
theorem dX11_way_41 : decode cX11_way 41 = .ok (.aload_n 0, 1) := by decide +kernel
theorem dX11_way_42 : decode cX11_way 42 = .ok (.getfield 13, 3) := by decide +kernel
theorem dX11_way_45 : decode cX11_way 45 = .ok (.iload_n 1, 1) := by decide +kernel
theorem dX11_way_46 : decode cX11_way 46 = .ok (.laload, 1) := by decide +kernel
theorem dX11_way_47 : decode cX11_way 47 = .ok (.invokestatic 164, 3) := by decide +kernel
theorem dX11_way_50 : decode cX11_way 50 = .ok (.istore_n 3, 1) := by decide +kernel
theorem dX11_way_51 : decode cX11_way 51 = .ok (.iload_n 3, 1) := by decide +kernel
theorem dX11_way_52 : decode cX11_way 52 = .ok (.aload_n 0, 1) := by decide +kernel
theorem dX11_way_53 : decode cX11_way 53 = .ok (.getfield 13, 3) := by decide +kernel
theorem dX11_way_56 : decode cX11_way 56 = .ok (.iload_n 2, 1) := by decide +kernel
theorem dX11_way_57 : decode cX11_way 57 = .ok (.laload, 1) := by decide +kernel
theorem dX11_way_58 : decode cX11_way 58 = .ok (.invokestatic 164, 3) := by decide +kernel
theorem dX11_way_61 : decode cX11_way 61 = .ok (.if_icmp .ne 9, 3) := by decide +kernel
theorem dX11_way_64 : decode cX11_way 64 = .ok (.iload_n 3, 1) := by decide +kernel
theorem dX11_way_65 : decode cX11_way 65 = .ok (.bipush 6, 2) := by decide +kernel
theorem dX11_way_67 : decode cX11_way 67 = .ok (.if_icmp .le 6, 3) := by decide +kernel
theorem dX11_way_70 : decode cX11_way 70 = .ok (.bipush (-3), 2) := by decide +kernel
theorem dX11_way_72 : decode cX11_way 72 = .ok (.ireturn, 1) := by decide +kernel
theorem dX11_way_73 : decode cX11_way 73 = .ok (.aload_n 0, 1) := by decide +kernel
theorem dX11_way_74 : decode cX11_way 74 = .ok (.getfield 46, 3) := by decide +kernel
theorem dX11_way_77 : decode cX11_way 77 = .ok (.iload_n 3, 1) := by decide +kernel
theorem dX11_way_78 : decode cX11_way 78 = .ok (.invokevirtual 153, 3) := by decide +kernel
theorem dX11_way_81 : decode cX11_way 81 = .ok (.aload_n 0, 1) := by decide +kernel
theorem dX11_way_82 : decode cX11_way 82 = .ok (.getfield 55, 3) := by decide +kernel
theorem dX11_way_85 : decode cX11_way 85 = .ok (.iload_n 3, 1) := by decide +kernel
theorem dX11_way_86 : decode cX11_way 86 = .ok (.invokevirtual 196, 3) := by decide +kernel
theorem dX11_way_89 : decode cX11_way 89 = .ok (.aload_n 0, 1) := by decide +kernel
theorem dX11_way_90 : decode cX11_way 90 = .ok (.getfield 55, 3) := by decide +kernel
theorem dX11_way_93 : decode cX11_way 93 = .ok (.iload_n 3, 1) := by decide +kernel
theorem dX11_way_94 : decode cX11_way 94 = .ok (.aload_n 0, 1) := by decide +kernel
theorem dX11_way_95 : decode cX11_way 95 = .ok (.getfield 13, 3) := by decide +kernel
theorem dX11_way_98 : decode cX11_way 98 = .ok (.iload_n 1, 1) := by decide +kernel
theorem dX11_way_99 : decode cX11_way 99 = .ok (.laload, 1) := by decide +kernel
theorem dX11_way_100 : decode cX11_way 100 = .ok (.aload_n 0, 1) := by decide +kernel
theorem dX11_way_101 : decode cX11_way 101 = .ok (.getfield 13, 3) := by decide +kernel
theorem dX11_way_104 : decode cX11_way 104 = .ok (.iload_n 2, 1) := by decide +kernel
theorem dX11_way_105 : decode cX11_way 105 = .ok (.laload, 1) := by decide +kernel
theorem dX11_way_106 : decode cX11_way 106 = .ok (.invokevirtual 197, 3) := by decide +kernel
theorem dX11_way_109 : decode cX11_way 109 = .ok (.ireturn, 1) := by decide +kernel
theorem dX11_farthest_0 : decode cX11_farthest 0 = .ok (.iload_n 1, 1) := by decide +kernel
theorem dX11_farthest_1 : decode cX11_farthest 1 = .ok (.invokestatic 91, 3) := by decide +kernel
theorem dX11_farthest_4 : decode cX11_farthest 4 = .ok (.ifCond .ne 5, 3) := by decide +kernel
theorem dX11_farthest_7 : decode cX11_farthest 7 = .ok (.iconst (-1), 1) := by decide +kernel
theorem dX11_farthest_8 : decode cX11_farthest 8 = .ok (.ireturn, 1) := by decide +kernel
theorem dX11_farthest_9 : decode cX11_farthest 9 = .ok (.aload_n 0, 1) := by decide +kernel
theorem dX11_farthest_10 : decode cX11_farthest 10 = .ok (.getfield 13, 3) := by decide +kernel
theorem dX11_farthest_13 : decode cX11_farthest 13 = .ok (.iload_n 1, 1) := by decide +kernel
theorem dX11_farthest_14 : decode cX11_farthest 14 = .ok (.laload, 1) := by decide +kernel
theorem dX11_farthest_15 : decode cX11_farthest 15 = .ok (.lconst 0, 1) := by decide +kernel
theorem dX11_farthest_16 : decode cX11_farthest 16 = .ok (.lcmp, 1) := by decide +kernel
theorem dX11_farthest_17 : decode cX11_farthest 17 = .ok (.ifCond .ne 6, 3) := by decide +kernel
theorem dX11_farthest_20 : decode cX11_farthest 20 = .ok (.bipush (-2), 2) := by decide +kernel
theorem dX11_farthest_22 : decode cX11_farthest 22 = .ok (.ireturn, 1) := by decide +kernel
theorem dX11_farthest_23 : decode cX11_farthest 23 = .ok (.aload_n 0, 1) := by decide +kernel
theorem dX11_farthest_24 : decode cX11_farthest 24 = .ok (.getfield 13, 3) := by decide +kernel
theorem dX11_farthest_27 : decode cX11_farthest 27 = .ok (.iload_n 1, 1) := by decide +kernel
theorem dX11_farthest_28 : decode cX11_farthest 28 = .ok (.laload, 1) := by decide +kernel
theorem dX11_farthest_29 : decode cX11_farthest 29 = .ok (.invokestatic 164, 3) := by decide +kernel
theorem dX11_farthest_32 : decode cX11_farthest 32 = .ok (.istore_n 3, 1) := by decide +kernel
theorem dX11_farthest_33 : decode cX11_farthest 33 = .ok (.iload_n 3, 1) := by decide +kernel
theorem dX11_farthest_34 : decode cX11_farthest 34 = .ok (.bipush 6, 2) := by decide +kernel
theorem dX11_farthest_36 : decode cX11_farthest 36 = .ok (.if_icmp .le 6, 3) := by decide +kernel
theorem dX11_farthest_39 : decode cX11_farthest 39 = .ok (.bipush (-3), 2) := by decide +kernel
theorem dX11_farthest_41 : decode cX11_farthest 41 = .ok (.ireturn, 1) := by decide +kernel
theorem dX11_farthest_42 : decode cX11_farthest 42 = .ok (.aload_n 0, 1) := by decide +kernel
theorem dX11_farthest_43 : decode cX11_farthest 43 = .ok (.getfield 46, 3) := by decide +kernel
theorem dX11_farthest_46 : decode cX11_farthest 46 = .ok (.iload_n 3, 1) := by decide +kernel
theorem dX11_farthest_47 : decode cX11_farthest 47 = .ok (.invokevirtual 153, 3) := by decide +kernel
theorem dX11_farthest_50 : decode cX11_farthest 50 = .ok (.aload_n 0, 1) := by decide +kernel
theorem dX11_farthest_51 : decode cX11_farthest 51 = .ok (.getfield 55, 3) := by decide +kernel
theorem dX11_farthest_54 : decode cX11_farthest 54 = .ok (.iload_n 3, 1) := by decide +kernel
theorem dX11_farthest_55 : decode cX11_farthest 55 = .ok (.invokevirtual 196, 3) := by decide +kernel
theorem dX11_farthest_58 : decode cX11_farthest 58 = .ok (.aload_n 0, 1) := by decide +kernel
theorem dX11_farthest_59 : decode cX11_farthest 59 = .ok (.getfield 55, 3) := by decide +kernel
theorem dX11_farthest_62 : decode cX11_farthest 62 = .ok (.iload_n 3, 1) := by decide +kernel
theorem dX11_farthest_63 : decode cX11_farthest 63 = .ok (.aload_n 0, 1) := by decide +kernel
theorem dX11_farthest_64 : decode cX11_farthest 64 = .ok (.getfield 13, 3) := by decide +kernel
theorem dX11_farthest_67 : decode cX11_farthest 67 = .ok (.iload_n 1, 1) := by decide +kernel
theorem dX11_farthest_68 : decode cX11_farthest 68 = .ok (.laload, 1) := by decide +kernel
theorem dX11_farthest_69 : decode cX11_farthest 69 = .ok (.iload_n 2, 1) := by decide +kernel
theorem dX11_farthest_70 : decode cX11_farthest 70 = .ok (.invokevirtual 201, 3) := by decide +kernel
theorem dX11_farthest_73 : decode cX11_farthest 73 = .ok (.ireturn, 1) := by decide +kernel
theorem dX11_drawn_0 : decode cX11_drawn 0 = .ok (.iload_n 1, 1) := by decide +kernel
theorem dX11_drawn_1 : decode cX11_drawn 1 = .ok (.invokestatic 91, 3) := by decide +kernel
theorem dX11_drawn_4 : decode cX11_drawn 4 = .ok (.ifCond .eq 13, 3) := by decide +kernel
theorem dX11_drawn_7 : decode cX11_drawn 7 = .ok (.iload_n 3, 1) := by decide +kernel
theorem dX11_drawn_8 : decode cX11_drawn 8 = .ok (.iconst 1, 1) := by decide +kernel
theorem dX11_drawn_9 : decode cX11_drawn 9 = .ok (.bipush 12, 2) := by decide +kernel
theorem dX11_drawn_11 : decode cX11_drawn 11 = .ok (.invokestatic 95, 3) := by decide +kernel
theorem dX11_drawn_14 : decode cX11_drawn 14 = .ok (.ifCond .ne 7, 3) := by decide +kernel
theorem dX11_drawn_17 : decode cX11_drawn 17 = .ok (.ldc2_w 130, 3) := by decide +kernel
theorem dX11_drawn_20 : decode cX11_drawn 20 = .ok (.lreturn, 1) := by decide +kernel
theorem dX11_drawn_21 : decode cX11_drawn 21 = .ok (.aload_n 0, 1) := by decide +kernel
theorem dX11_drawn_22 : decode cX11_drawn 22 = .ok (.getfield 13, 3) := by decide +kernel
theorem dX11_drawn_25 : decode cX11_drawn 25 = .ok (.iload_n 1, 1) := by decide +kernel
theorem dX11_drawn_26 : decode cX11_drawn 26 = .ok (.iload_n 2, 1) := by decide +kernel
theorem dX11_drawn_27 : decode cX11_drawn 27 = .ok (.iload_n 3, 1) := by decide +kernel
theorem dX11_drawn_28 : decode cX11_drawn 28 = .ok (.invokestatic 205, 3) := by decide +kernel
theorem dX11_drawn_31 : decode cX11_drawn 31 = .ok (.lastore, 1) := by decide +kernel
theorem dX11_drawn_32 : decode cX11_drawn 32 = .ok (.aload_n 0, 1) := by decide +kernel
theorem dX11_drawn_33 : decode cX11_drawn 33 = .ok (.getfield 13, 3) := by decide +kernel
theorem dX11_drawn_36 : decode cX11_drawn 36 = .ok (.iload_n 1, 1) := by decide +kernel
theorem dX11_drawn_37 : decode cX11_drawn 37 = .ok (.laload, 1) := by decide +kernel
theorem dX11_drawn_38 : decode cX11_drawn 38 = .ok (.lreturn, 1) := by decide +kernel
theorem dX11_line_0 : decode cX11_line 0 = .ok (.iload_n 1, 1) := by decide +kernel
theorem dX11_line_1 : decode cX11_line 1 = .ok (.invokestatic 91, 3) := by decide +kernel
theorem dX11_line_4 : decode cX11_line 4 = .ok (.ifCond .eq 7, 3) := by decide +kernel
theorem dX11_line_7 : decode cX11_line 7 = .ok (.iload_n 2, 1) := by decide +kernel
theorem dX11_line_8 : decode cX11_line 8 = .ok (.ifCond .ge 5, 3) := by decide +kernel
theorem dX11_line_11 : decode cX11_line 11 = .ok (.iconst (-1), 1) := by decide +kernel
theorem dX11_line_12 : decode cX11_line 12 = .ok (.ireturn, 1) := by decide +kernel
theorem dX11_line_13 : decode cX11_line 13 = .ok (.aload_n 0, 1) := by decide +kernel
theorem dX11_line_14 : decode cX11_line 14 = .ok (.getfield 13, 3) := by decide +kernel
theorem dX11_line_17 : decode cX11_line 17 = .ok (.iload_n 1, 1) := by decide +kernel
theorem dX11_line_18 : decode cX11_line 18 = .ok (.laload, 1) := by decide +kernel
theorem dX11_line_19 : decode cX11_line 19 = .ok (.lconst 0, 1) := by decide +kernel
theorem dX11_line_20 : decode cX11_line 20 = .ok (.lcmp, 1) := by decide +kernel
theorem dX11_line_21 : decode cX11_line 21 = .ok (.ifCond .ne 6, 3) := by decide +kernel
theorem dX11_line_24 : decode cX11_line 24 = .ok (.bipush (-2), 2) := by decide +kernel
theorem dX11_line_26 : decode cX11_line 26 = .ok (.ireturn, 1) := by decide +kernel
theorem dX11_line_27 : decode cX11_line 27 = .ok (.aload_n 0, 1) := by decide +kernel
theorem dX11_line_28 : decode cX11_line 28 = .ok (.getfield 37, 3) := by decide +kernel
theorem dX11_line_31 : decode cX11_line 31 = .ok (.aload_n 0, 1) := by decide +kernel
theorem dX11_line_32 : decode cX11_line 32 = .ok (.getfield 13, 3) := by decide +kernel
theorem dX11_line_35 : decode cX11_line 35 = .ok (.iload_n 1, 1) := by decide +kernel
theorem dX11_line_36 : decode cX11_line 36 = .ok (.laload, 1) := by decide +kernel
theorem dX11_line_37 : decode cX11_line 37 = .ok (.invokevirtual 209, 3) := by decide +kernel
theorem dX11_line_40 : decode cX11_line 40 = .ok (.ifCond .ne 6, 3) := by decide +kernel
theorem dX11_line_43 : decode cX11_line 43 = .ok (.bipush (-3), 2) := by decide +kernel
theorem dX11_line_45 : decode cX11_line 45 = .ok (.ireturn, 1) := by decide +kernel
theorem dX11_line_46 : decode cX11_line 46 = .ok (.iload_n 2, 1) := by decide +kernel
theorem dX11_line_47 : decode cX11_line 47 = .ok (.aload_n 0, 1) := by decide +kernel
theorem dX11_line_48 : decode cX11_line 48 = .ok (.getfield 37, 3) := by decide +kernel
theorem dX11_line_51 : decode cX11_line 51 = .ok (.invokevirtual 212, 3) := by decide +kernel
theorem dX11_line_54 : decode cX11_line 54 = .ok (.if_icmp .ge 14, 3) := by decide +kernel
theorem dX11_line_57 : decode cX11_line 57 = .ok (.aload_n 0, 1) := by decide +kernel
theorem dX11_line_58 : decode cX11_line 58 = .ok (.getfield 37, 3) := by decide +kernel
theorem dX11_line_61 : decode cX11_line 61 = .ok (.iload_n 2, 1) := by decide +kernel
theorem dX11_line_62 : decode cX11_line 62 = .ok (.invokevirtual 215, 3) := by decide +kernel
theorem dX11_line_65 : decode cX11_line 65 = .ok (.goto 5, 3) := by decide +kernel
theorem dX11_line_68 : decode cX11_line 68 = .ok (.bipush (-4), 2) := by decide +kernel
theorem dX11_line_70 : decode cX11_line 70 = .ok (.ireturn, 1) := by decide +kernel
theorem dX11_tiles_0 : decode cX11_tiles 0 = .ok (.iload_n 1, 1) := by decide +kernel
theorem dX11_tiles_1 : decode cX11_tiles 1 = .ok (.invokestatic 91, 3) := by decide +kernel
theorem dX11_tiles_4 : decode cX11_tiles 4 = .ok (.ifCond .eq 12, 3) := by decide +kernel
theorem dX11_tiles_7 : decode cX11_tiles 7 = .ok (.iload_n 2, 1) := by decide +kernel
theorem dX11_tiles_8 : decode cX11_tiles 8 = .ok (.iconst 0, 1) := by decide +kernel
theorem dX11_tiles_9 : decode cX11_tiles 9 = .ok (.iconst 5, 1) := by decide +kernel
theorem dX11_tiles_10 : decode cX11_tiles 10 = .ok (.invokestatic 95, 3) := by decide +kernel
theorem dX11_tiles_13 : decode cX11_tiles 13 = .ok (.ifCond .ne 5, 3) := by decide +kernel
theorem dX11_tiles_16 : decode cX11_tiles 16 = .ok (.iconst (-1), 1) := by decide +kernel
theorem dX11_tiles_17 : decode cX11_tiles 17 = .ok (.ireturn, 1) := by decide +kernel
theorem dX11_tiles_18 : decode cX11_tiles 18 = .ok (.aload_n 0, 1) := by decide +kernel
theorem dX11_tiles_19 : decode cX11_tiles 19 = .ok (.getfield 13, 3) := by decide +kernel
theorem dX11_tiles_22 : decode cX11_tiles 22 = .ok (.iload_n 1, 1) := by decide +kernel
theorem dX11_tiles_23 : decode cX11_tiles 23 = .ok (.laload, 1) := by decide +kernel
theorem dX11_tiles_24 : decode cX11_tiles 24 = .ok (.lconst 0, 1) := by decide +kernel
theorem dX11_tiles_25 : decode cX11_tiles 25 = .ok (.lcmp, 1) := by decide +kernel
theorem dX11_tiles_26 : decode cX11_tiles 26 = .ok (.ifCond .ne 6, 3) := by decide +kernel
theorem dX11_tiles_29 : decode cX11_tiles 29 = .ok (.bipush (-2), 2) := by decide +kernel
theorem dX11_tiles_31 : decode cX11_tiles 31 = .ok (.ireturn, 1) := by decide +kernel
theorem dX11_tiles_32 : decode cX11_tiles 32 = .ok (.aload_n 0, 1) := by decide +kernel
theorem dX11_tiles_33 : decode cX11_tiles 33 = .ok (.getfield 37, 3) := by decide +kernel
theorem dX11_tiles_36 : decode cX11_tiles 36 = .ok (.aload_n 0, 1) := by decide +kernel
theorem dX11_tiles_37 : decode cX11_tiles 37 = .ok (.getfield 13, 3) := by decide +kernel
theorem dX11_tiles_40 : decode cX11_tiles 40 = .ok (.iload_n 1, 1) := by decide +kernel
theorem dX11_tiles_41 : decode cX11_tiles 41 = .ok (.laload, 1) := by decide +kernel
theorem dX11_tiles_42 : decode cX11_tiles 42 = .ok (.invokevirtual 209, 3) := by decide +kernel
theorem dX11_tiles_45 : decode cX11_tiles 45 = .ok (.ifCond .ne 6, 3) := by decide +kernel
theorem dX11_tiles_48 : decode cX11_tiles 48 = .ok (.bipush (-3), 2) := by decide +kernel
theorem dX11_tiles_50 : decode cX11_tiles 50 = .ok (.ireturn, 1) := by decide +kernel
theorem dX11_tiles_51 : decode cX11_tiles 51 = .ok (.aload_n 0, 1) := by decide +kernel
theorem dX11_tiles_52 : decode cX11_tiles 52 = .ok (.getfield 37, 3) := by decide +kernel
theorem dX11_tiles_55 : decode cX11_tiles 55 = .ok (.invokevirtual 219, 3) := by decide +kernel
theorem dX11_tiles_58 : decode cX11_tiles 58 = .ok (.iload_n 2, 1) := by decide +kernel
theorem dX11_tiles_59 : decode cX11_tiles 59 = .ok (.iconst 1, 1) := by decide +kernel
theorem dX11_tiles_60 : decode cX11_tiles 60 = .ok (.if_icmp .le 18, 3) := by decide +kernel
theorem dX11_tiles_63 : decode cX11_tiles 63 = .ok (.aload_n 0, 1) := by decide +kernel
theorem dX11_tiles_64 : decode cX11_tiles 64 = .ok (.getfield 37, 3) := by decide +kernel
theorem dX11_tiles_67 : decode cX11_tiles 67 = .ok (.invokevirtual 222, 3) := by decide +kernel
theorem dX11_tiles_70 : decode cX11_tiles 70 = .ok (.ifCond .ne 8, 3) := by decide +kernel
theorem dX11_tiles_73 : decode cX11_tiles 73 = .ok (.bipush (-4), 2) := by decide +kernel
theorem dX11_tiles_75 : decode cX11_tiles 75 = .ok (.goto 11, 3) := by decide +kernel
theorem dX11_tiles_78 : decode cX11_tiles 78 = .ok (.aload_n 0, 1) := by decide +kernel
theorem dX11_tiles_79 : decode cX11_tiles 79 = .ok (.getfield 37, 3) := by decide +kernel
theorem dX11_tiles_82 : decode cX11_tiles 82 = .ok (.iload_n 2, 1) := by decide +kernel
theorem dX11_tiles_83 : decode cX11_tiles 83 = .ok (.invokevirtual 225, 3) := by decide +kernel
theorem dX11_tiles_86 : decode cX11_tiles 86 = .ok (.ireturn, 1) := by decide +kernel
theorem dX11_tilers_0 : decode cX11_tilers 0 = .ok (.iload_n 1, 1) := by decide +kernel
theorem dX11_tilers_1 : decode cX11_tilers 1 = .ok (.iload_n 2, 1) := by decide +kernel
theorem dX11_tilers_2 : decode cX11_tilers 2 = .ok (.invokestatic 149, 3) := by decide +kernel
theorem dX11_tilers_5 : decode cX11_tilers 5 = .ok (.ifCond .ne 5, 3) := by decide +kernel
theorem dX11_tilers_8 : decode cX11_tilers 8 = .ok (.iconst (-1), 1) := by decide +kernel
theorem dX11_tilers_9 : decode cX11_tilers 9 = .ok (.ireturn, 1) := by decide +kernel
theorem dX11_tilers_10 : decode cX11_tilers 10 = .ok (.aload_n 0, 1) := by decide +kernel
theorem dX11_tilers_11 : decode cX11_tilers 11 = .ok (.getfield 46, 3) := by decide +kernel
theorem dX11_tilers_14 : decode cX11_tilers 14 = .ok (.iload_n 1, 1) := by decide +kernel
theorem dX11_tilers_15 : decode cX11_tilers 15 = .ok (.invokevirtual 153, 3) := by decide +kernel
theorem dX11_tilers_18 : decode cX11_tilers 18 = .ok (.aload_n 0, 1) := by decide +kernel
theorem dX11_tilers_19 : decode cX11_tilers 19 = .ok (.getfield 46, 3) := by decide +kernel
theorem dX11_tilers_22 : decode cX11_tilers 22 = .ok (.iload_n 1, 1) := by decide +kernel
theorem dX11_tilers_23 : decode cX11_tilers 23 = .ok (.iload_n 2, 1) := by decide +kernel
theorem dX11_tilers_24 : decode cX11_tilers 24 = .ok (.invokevirtual 156, 3) := by decide +kernel
theorem dX11_tilers_27 : decode cX11_tilers 27 = .ok (.istore_n 3, 1) := by decide +kernel
theorem dX11_tilers_28 : decode cX11_tilers 28 = .ok (.iconst 0, 1) := by decide +kernel
theorem dX11_tilers_29 : decode cX11_tilers 29 = .ok (.istore 4, 2) := by decide +kernel
theorem dX11_tilers_31 : decode cX11_tilers 31 = .ok (.iconst 0, 1) := by decide +kernel
theorem dX11_tilers_32 : decode cX11_tilers 32 = .ok (.istore 5, 2) := by decide +kernel
theorem dX11_tilers_34 : decode cX11_tilers 34 = .ok (.iload 5, 2) := by decide +kernel
theorem dX11_tilers_36 : decode cX11_tilers 36 = .ok (.iload_n 3, 1) := by decide +kernel
theorem dX11_tilers_37 : decode cX11_tilers 37 = .ok (.if_icmp .ge 27, 3) := by decide +kernel
theorem dX11_tilers_40 : decode cX11_tilers 40 = .ok (.iload 4, 2) := by decide +kernel
theorem dX11_tilers_42 : decode cX11_tilers 42 = .ok (.aload_n 0, 1) := by decide +kernel
theorem dX11_tilers_43 : decode cX11_tilers 43 = .ok (.getfield 46, 3) := by decide +kernel
theorem dX11_tilers_46 : decode cX11_tilers 46 = .ok (.iload_n 1, 1) := by decide +kernel
theorem dX11_tilers_47 : decode cX11_tilers 47 = .ok (.iload_n 2, 1) := by decide +kernel
theorem dX11_tilers_48 : decode cX11_tilers 48 = .ok (.iload 5, 2) := by decide +kernel
theorem dX11_tilers_50 : decode cX11_tilers 50 = .ok (.bipush 15, 2) := by decide +kernel
theorem dX11_tilers_52 : decode cX11_tilers 52 = .ok (.invokevirtual 174, 3) := by decide +kernel
theorem dX11_tilers_55 : decode cX11_tilers 55 = .ok (.iadd, 1) := by decide +kernel
theorem dX11_tilers_56 : decode cX11_tilers 56 = .ok (.istore 4, 2) := by decide +kernel
theorem dX11_tilers_58 : decode cX11_tilers 58 = .ok (.iinc 5 1, 3) := by decide +kernel
theorem dX11_tilers_61 : decode cX11_tilers 61 = .ok (.goto (-27), 3) := by decide +kernel
theorem dX11_tilers_64 : decode cX11_tilers 64 = .ok (.iload 4, 2) := by decide +kernel
theorem dX11_tilers_66 : decode cX11_tilers 66 = .ok (.ireturn, 1) := by decide +kernel
theorem dX11_fill_0 : decode cX11_fill 0 = .ok (.iload_n 1, 1) := by decide +kernel
theorem dX11_fill_1 : decode cX11_fill 1 = .ok (.iconst 1, 1) := by decide +kernel
theorem dX11_fill_2 : decode cX11_fill 2 = .ok (.bipush 6, 2) := by decide +kernel
theorem dX11_fill_4 : decode cX11_fill 4 = .ok (.invokestatic 95, 3) := by decide +kernel
theorem dX11_fill_7 : decode cX11_fill 7 = .ok (.ifCond .eq 24, 3) := by decide +kernel
theorem dX11_fill_10 : decode cX11_fill 10 = .ok (.iload_n 2, 1) := by decide +kernel
theorem dX11_fill_11 : decode cX11_fill 11 = .ok (.iconst 1, 1) := by decide +kernel
theorem dX11_fill_12 : decode cX11_fill 12 = .ok (.bipush 6, 2) := by decide +kernel
theorem dX11_fill_14 : decode cX11_fill 14 = .ok (.invokestatic 95, 3) := by decide +kernel
theorem dX11_fill_17 : decode cX11_fill 17 = .ok (.ifCond .eq 14, 3) := by decide +kernel
theorem dX11_fill_20 : decode cX11_fill 20 = .ok (.iload_n 3, 1) := by decide +kernel
theorem dX11_fill_21 : decode cX11_fill 21 = .ok (.iconst 1, 1) := by decide +kernel
theorem dX11_fill_22 : decode cX11_fill 22 = .ok (.sipush 255, 3) := by decide +kernel
theorem dX11_fill_25 : decode cX11_fill 25 = .ok (.invokestatic 95, 3) := by decide +kernel
theorem dX11_fill_28 : decode cX11_fill 28 = .ok (.ifCond .ne 5, 3) := by decide +kernel
theorem dX11_fill_31 : decode cX11_fill 31 = .ok (.iconst (-1), 1) := by decide +kernel
theorem dX11_fill_32 : decode cX11_fill 32 = .ok (.ireturn, 1) := by decide +kernel
theorem dX11_fill_33 : decode cX11_fill 33 = .ok (.aload_n 0, 1) := by decide +kernel
theorem dX11_fill_34 : decode cX11_fill 34 = .ok (.getfield 30, 3) := by decide +kernel
theorem dX11_fill_37 : decode cX11_fill 37 = .ok (.invokevirtual 228, 3) := by decide +kernel
theorem dX11_fill_40 : decode cX11_fill 40 = .ok (.iconst 0, 1) := by decide +kernel
theorem dX11_fill_41 : decode cX11_fill 41 = .ok (.istore 5, 2) := by decide +kernel
theorem dX11_fill_43 : decode cX11_fill 43 = .ok (.iload 5, 2) := by decide +kernel
theorem dX11_fill_45 : decode cX11_fill 45 = .ok (.bipush 8, 2) := by decide +kernel
theorem dX11_fill_47 : decode cX11_fill 47 = .ok (.if_icmp .ge 49, 3) := by decide +kernel
theorem dX11_fill_50 : decode cX11_fill 50 = .ok (.iload_n 3, 1) := by decide +kernel
theorem dX11_fill_51 : decode cX11_fill 51 = .ok (.iload 5, 2) := by decide +kernel
theorem dX11_fill_53 : decode cX11_fill 53 = .ok (.ishr, 1) := by decide +kernel
theorem dX11_fill_54 : decode cX11_fill 54 = .ok (.iconst 1, 1) := by decide +kernel
theorem dX11_fill_55 : decode cX11_fill 55 = .ok (.iand, 1) := by decide +kernel
theorem dX11_fill_56 : decode cX11_fill 56 = .ok (.ifCond .eq 34, 3) := by decide +kernel
theorem dX11_fill_59 : decode cX11_fill 59 = .ok (.aload_n 0, 1) := by decide +kernel
theorem dX11_fill_60 : decode cX11_fill 60 = .ok (.getfield 13, 3) := by decide +kernel
theorem dX11_fill_63 : decode cX11_fill 63 = .ok (.iload 5, 2) := by decide +kernel
theorem dX11_fill_65 : decode cX11_fill 65 = .ok (.laload, 1) := by decide +kernel
theorem dX11_fill_66 : decode cX11_fill 66 = .ok (.lconst 0, 1) := by decide +kernel
theorem dX11_fill_67 : decode cX11_fill 67 = .ok (.lcmp, 1) := by decide +kernel
theorem dX11_fill_68 : decode cX11_fill 68 = .ok (.ifCond .ne 6, 3) := by decide +kernel
theorem dX11_fill_71 : decode cX11_fill 71 = .ok (.bipush (-2), 2) := by decide +kernel
theorem dX11_fill_73 : decode cX11_fill 73 = .ok (.ireturn, 1) := by decide +kernel
theorem dX11_fill_74 : decode cX11_fill 74 = .ok (.aload_n 0, 1) := by decide +kernel
theorem dX11_fill_75 : decode cX11_fill 75 = .ok (.getfield 13, 3) := by decide +kernel
theorem dX11_fill_78 : decode cX11_fill 78 = .ok (.iload 5, 2) := by decide +kernel
theorem dX11_fill_80 : decode cX11_fill 80 = .ok (.laload, 1) := by decide +kernel
theorem dX11_fill_81 : decode cX11_fill 81 = .ok (.iload 4, 2) := by decide +kernel
theorem dX11_fill_83 : decode cX11_fill 83 = .ok (.aload_n 0, 1) := by decide +kernel
theorem dX11_fill_84 : decode cX11_fill 84 = .ok (.getfield 30, 3) := by decide +kernel
theorem dX11_fill_87 : decode cX11_fill 87 = .ok (.invokestatic 231, 3) := by decide +kernel
theorem dX11_fill_90 : decode cX11_fill 90 = .ok (.iinc 5 1, 3) := by decide +kernel
theorem dX11_fill_93 : decode cX11_fill 93 = .ok (.goto (-50), 3) := by decide +kernel
theorem dX11_fill_96 : decode cX11_fill 96 = .ok (.aload_n 0, 1) := by decide +kernel
theorem dX11_fill_97 : decode cX11_fill 97 = .ok (.getfield 62, 3) := by decide +kernel
theorem dX11_fill_100 : decode cX11_fill 100 = .ok (.iload_n 1, 1) := by decide +kernel
theorem dX11_fill_101 : decode cX11_fill 101 = .ok (.iload_n 2, 1) := by decide +kernel
theorem dX11_fill_102 : decode cX11_fill 102 = .ok (.aload_n 0, 1) := by decide +kernel
theorem dX11_fill_103 : decode cX11_fill 103 = .ok (.getfield 30, 3) := by decide +kernel
theorem dX11_fill_106 : decode cX11_fill 106 = .ok (.invokevirtual 235, 3) := by decide +kernel
theorem dX11_fill_109 : decode cX11_fill 109 = .ok (.istore 5, 2) := by decide +kernel
theorem dX11_fill_111 : decode cX11_fill 111 = .ok (.iload 5, 2) := by decide +kernel
theorem dX11_fill_113 : decode cX11_fill 113 = .ok (.ifCond .ge 8, 3) := by decide +kernel
theorem dX11_fill_116 : decode cX11_fill 116 = .ok (.bipush (-3), 2) := by decide +kernel
theorem dX11_fill_118 : decode cX11_fill 118 = .ok (.goto 5, 3) := by decide +kernel
theorem dX11_fill_121 : decode cX11_fill 121 = .ok (.iload 5, 2) := by decide +kernel
theorem dX11_fill_123 : decode cX11_fill 123 = .ok (.ireturn, 1) := by decide +kernel
theorem dX11_vector_0 : decode cX11_vector 0 = .ok (.iload_n 1, 1) := by decide +kernel
theorem dX11_vector_1 : decode cX11_vector 1 = .ok (.invokestatic 91, 3) := by decide +kernel
theorem dX11_vector_4 : decode cX11_vector 4 = .ok (.ifCond .eq 12, 3) := by decide +kernel
theorem dX11_vector_7 : decode cX11_vector 7 = .ok (.iload_n 2, 1) := by decide +kernel
theorem dX11_vector_8 : decode cX11_vector 8 = .ok (.iconst 0, 1) := by decide +kernel
theorem dX11_vector_9 : decode cX11_vector 9 = .ok (.iconst 4, 1) := by decide +kernel
theorem dX11_vector_10 : decode cX11_vector 10 = .ok (.invokestatic 95, 3) := by decide +kernel
theorem dX11_vector_13 : decode cX11_vector 13 = .ok (.ifCond .ne 5, 3) := by decide +kernel
theorem dX11_vector_16 : decode cX11_vector 16 = .ok (.iconst (-1), 1) := by decide +kernel
theorem dX11_vector_17 : decode cX11_vector 17 = .ok (.ireturn, 1) := by decide +kernel
theorem dX11_vector_18 : decode cX11_vector 18 = .ok (.aload_n 0, 1) := by decide +kernel
theorem dX11_vector_19 : decode cX11_vector 19 = .ok (.iload_n 1, 1) := by decide +kernel
theorem dX11_vector_20 : decode cX11_vector 20 = .ok (.invokevirtual 239, 3) := by decide +kernel
theorem dX11_vector_23 : decode cX11_vector 23 = .ok (.istore_n 3, 1) := by decide +kernel
theorem dX11_vector_24 : decode cX11_vector 24 = .ok (.iload_n 3, 1) := by decide +kernel
theorem dX11_vector_25 : decode cX11_vector 25 = .ok (.ifCond .eq 7, 3) := by decide +kernel
theorem dX11_vector_28 : decode cX11_vector 28 = .ok (.iload_n 3, 1) := by decide +kernel
theorem dX11_vector_29 : decode cX11_vector 29 = .ok (.goto 11, 3) := by decide +kernel
theorem dX11_vector_32 : decode cX11_vector 32 = .ok (.aload_n 0, 1) := by decide +kernel
theorem dX11_vector_33 : decode cX11_vector 33 = .ok (.getfield 37, 3) := by decide +kernel
theorem dX11_vector_36 : decode cX11_vector 36 = .ok (.iload_n 2, 1) := by decide +kernel
theorem dX11_vector_37 : decode cX11_vector 37 = .ok (.invokevirtual 242, 3) := by decide +kernel
theorem dX11_vector_40 : decode cX11_vector 40 = .ok (.ireturn, 1) := by decide +kernel
theorem dX11_owner_0 : decode cX11_owner 0 = .ok (.iload_n 1, 1) := by decide +kernel
theorem dX11_owner_1 : decode cX11_owner 1 = .ok (.invokestatic 91, 3) := by decide +kernel
theorem dX11_owner_4 : decode cX11_owner 4 = .ok (.ifCond .eq 35, 3) := by decide +kernel
theorem dX11_owner_7 : decode cX11_owner 7 = .ok (.iload_n 2, 1) := by decide +kernel
theorem dX11_owner_8 : decode cX11_owner 8 = .ok (.bipush (-20), 2) := by decide +kernel
theorem dX11_owner_10 : decode cX11_owner 10 = .ok (.bipush 20, 2) := by decide +kernel
theorem dX11_owner_12 : decode cX11_owner 12 = .ok (.invokestatic 95, 3) := by decide +kernel
theorem dX11_owner_15 : decode cX11_owner 15 = .ok (.ifCond .eq 24, 3) := by decide +kernel
theorem dX11_owner_18 : decode cX11_owner 18 = .ok (.iload_n 3, 1) := by decide +kernel
theorem dX11_owner_19 : decode cX11_owner 19 = .ok (.bipush (-20), 2) := by decide +kernel
theorem dX11_owner_21 : decode cX11_owner 21 = .ok (.bipush 20, 2) := by decide +kernel
theorem dX11_owner_23 : decode cX11_owner 23 = .ok (.invokestatic 95, 3) := by decide +kernel
theorem dX11_owner_26 : decode cX11_owner 26 = .ok (.ifCond .eq 13, 3) := by decide +kernel
theorem dX11_owner_29 : decode cX11_owner 29 = .ok (.iload 4, 2) := by decide +kernel
theorem dX11_owner_31 : decode cX11_owner 31 = .ok (.iconst 0, 1) := by decide +kernel
theorem dX11_owner_32 : decode cX11_owner 32 = .ok (.iconst 2, 1) := by decide +kernel
theorem dX11_owner_33 : decode cX11_owner 33 = .ok (.invokestatic 95, 3) := by decide +kernel
theorem dX11_owner_36 : decode cX11_owner 36 = .ok (.ifCond .ne 5, 3) := by decide +kernel
theorem dX11_owner_39 : decode cX11_owner 39 = .ok (.iconst (-1), 1) := by decide +kernel
theorem dX11_owner_40 : decode cX11_owner 40 = .ok (.ireturn, 1) := by decide +kernel
theorem dX11_owner_41 : decode cX11_owner 41 = .ok (.aload_n 0, 1) := by decide +kernel
theorem dX11_owner_42 : decode cX11_owner 42 = .ok (.iload_n 1, 1) := by decide +kernel
theorem dX11_owner_43 : decode cX11_owner 43 = .ok (.invokevirtual 239, 3) := by decide +kernel
theorem dX11_owner_46 : decode cX11_owner 46 = .ok (.istore 5, 2) := by decide +kernel
theorem dX11_owner_48 : decode cX11_owner 48 = .ok (.iload 5, 2) := by decide +kernel
theorem dX11_owner_50 : decode cX11_owner 50 = .ok (.ifCond .eq 8, 3) := by decide +kernel
theorem dX11_owner_53 : decode cX11_owner 53 = .ok (.iload 5, 2) := by decide +kernel
theorem dX11_owner_55 : decode cX11_owner 55 = .ok (.goto 20, 3) := by decide +kernel
theorem dX11_owner_58 : decode cX11_owner 58 = .ok (.aload_n 0, 1) := by decide +kernel
theorem dX11_owner_59 : decode cX11_owner 59 = .ok (.getfield 37, 3) := by decide +kernel
theorem dX11_owner_62 : decode cX11_owner 62 = .ok (.aload_n 0, 1) := by decide +kernel
theorem dX11_owner_63 : decode cX11_owner 63 = .ok (.getfield 13, 3) := by decide +kernel
theorem dX11_owner_66 : decode cX11_owner 66 = .ok (.iload_n 1, 1) := by decide +kernel
theorem dX11_owner_67 : decode cX11_owner 67 = .ok (.laload, 1) := by decide +kernel
theorem dX11_owner_68 : decode cX11_owner 68 = .ok (.iload_n 2, 1) := by decide +kernel
theorem dX11_owner_69 : decode cX11_owner 69 = .ok (.iload_n 3, 1) := by decide +kernel
theorem dX11_owner_70 : decode cX11_owner 70 = .ok (.iload 4, 2) := by decide +kernel
theorem dX11_owner_72 : decode cX11_owner 72 = .ok (.invokevirtual 245, 3) := by decide +kernel
theorem dX11_owner_75 : decode cX11_owner 75 = .ok (.ireturn, 1) := by decide +kernel
theorem dX11_part_0 : decode cX11_part 0 = .ok (.iload_n 1, 1) := by decide +kernel
theorem dX11_part_1 : decode cX11_part 1 = .ok (.invokestatic 91, 3) := by decide +kernel
theorem dX11_part_4 : decode cX11_part 4 = .ok (.ifCond .eq 13, 3) := by decide +kernel
theorem dX11_part_7 : decode cX11_part 7 = .ok (.iload_n 2, 1) := by decide +kernel
theorem dX11_part_8 : decode cX11_part 8 = .ok (.iconst 0, 1) := by decide +kernel
theorem dX11_part_9 : decode cX11_part 9 = .ok (.bipush 7, 2) := by decide +kernel
theorem dX11_part_11 : decode cX11_part 11 = .ok (.invokestatic 95, 3) := by decide +kernel
theorem dX11_part_14 : decode cX11_part 14 = .ok (.ifCond .ne 7, 3) := by decide +kernel
theorem dX11_part_17 : decode cX11_part 17 = .ok (.ldc2_w 130, 3) := by decide +kernel
theorem dX11_part_20 : decode cX11_part 20 = .ok (.lreturn, 1) := by decide +kernel
theorem dX11_part_21 : decode cX11_part 21 = .ok (.aload_n 0, 1) := by decide +kernel
theorem dX11_part_22 : decode cX11_part 22 = .ok (.getfield 13, 3) := by decide +kernel
theorem dX11_part_25 : decode cX11_part 25 = .ok (.iload_n 1, 1) := by decide +kernel
theorem dX11_part_26 : decode cX11_part 26 = .ok (.laload, 1) := by decide +kernel
theorem dX11_part_27 : decode cX11_part 27 = .ok (.lconst 0, 1) := by decide +kernel
theorem dX11_part_28 : decode cX11_part 28 = .ok (.lcmp, 1) := by decide +kernel
theorem dX11_part_29 : decode cX11_part 29 = .ok (.ifCond .ne 9, 3) := by decide +kernel
theorem dX11_part_32 : decode cX11_part 32 = .ok (.ldc2_w 132, 3) := by decide +kernel
theorem dX11_part_35 : decode cX11_part 35 = .ok (.goto 17, 3) := by decide +kernel
theorem dX11_part_38 : decode cX11_part 38 = .ok (.aload_n 0, 1) := by decide +kernel
theorem dX11_part_39 : decode cX11_part 39 = .ok (.getfield 69, 3) := by decide +kernel
theorem dX11_part_42 : decode cX11_part 42 = .ok (.aload_n 0, 1) := by decide +kernel
theorem dX11_part_43 : decode cX11_part 43 = .ok (.getfield 13, 3) := by decide +kernel
theorem dX11_part_46 : decode cX11_part 46 = .ok (.iload_n 1, 1) := by decide +kernel
theorem dX11_part_47 : decode cX11_part 47 = .ok (.laload, 1) := by decide +kernel
theorem dX11_part_48 : decode cX11_part 48 = .ok (.iload_n 2, 1) := by decide +kernel
theorem dX11_part_49 : decode cX11_part 49 = .ok (.invokevirtual 249, 3) := by decide +kernel
theorem dX11_part_52 : decode cX11_part 52 = .ok (.lreturn, 1) := by decide +kernel
theorem dX11_inside_0 : decode cX11_inside 0 = .ok (.iload_n 1, 1) := by decide +kernel
theorem dX11_inside_1 : decode cX11_inside 1 = .ok (.invokestatic 91, 3) := by decide +kernel
theorem dX11_inside_4 : decode cX11_inside 4 = .ok (.ifCond .eq 10, 3) := by decide +kernel
theorem dX11_inside_7 : decode cX11_inside 7 = .ok (.iload_n 2, 1) := by decide +kernel
theorem dX11_inside_8 : decode cX11_inside 8 = .ok (.invokestatic 91, 3) := by decide +kernel
theorem dX11_inside_11 : decode cX11_inside 11 = .ok (.ifCond .ne 5, 3) := by decide +kernel
theorem dX11_inside_14 : decode cX11_inside 14 = .ok (.iconst (-1), 1) := by decide +kernel
theorem dX11_inside_15 : decode cX11_inside 15 = .ok (.ireturn, 1) := by decide +kernel
theorem dX11_inside_16 : decode cX11_inside 16 = .ok (.aload_n 0, 1) := by decide +kernel
theorem dX11_inside_17 : decode cX11_inside 17 = .ok (.getfield 13, 3) := by decide +kernel
theorem dX11_inside_20 : decode cX11_inside 20 = .ok (.iload_n 1, 1) := by decide +kernel
theorem dX11_inside_21 : decode cX11_inside 21 = .ok (.laload, 1) := by decide +kernel
theorem dX11_inside_22 : decode cX11_inside 22 = .ok (.lconst 0, 1) := by decide +kernel
theorem dX11_inside_23 : decode cX11_inside 23 = .ok (.lcmp, 1) := by decide +kernel
theorem dX11_inside_24 : decode cX11_inside 24 = .ok (.ifCond .eq 14, 3) := by decide +kernel
theorem dX11_inside_27 : decode cX11_inside 27 = .ok (.aload_n 0, 1) := by decide +kernel
theorem dX11_inside_28 : decode cX11_inside 28 = .ok (.getfield 13, 3) := by decide +kernel
theorem dX11_inside_31 : decode cX11_inside 31 = .ok (.iload_n 2, 1) := by decide +kernel
theorem dX11_inside_32 : decode cX11_inside 32 = .ok (.laload, 1) := by decide +kernel
theorem dX11_inside_33 : decode cX11_inside 33 = .ok (.lconst 0, 1) := by decide +kernel
theorem dX11_inside_34 : decode cX11_inside 34 = .ok (.lcmp, 1) := by decide +kernel
theorem dX11_inside_35 : decode cX11_inside 35 = .ok (.ifCond .ne 6, 3) := by decide +kernel
theorem dX11_inside_38 : decode cX11_inside 38 = .ok (.bipush (-2), 2) := by decide +kernel
theorem dX11_inside_40 : decode cX11_inside 40 = .ok (.ireturn, 1) := by decide +kernel
theorem dX11_inside_41 : decode cX11_inside 41 = .ok (.aload_n 0, 1) := by decide +kernel
theorem dX11_inside_42 : decode cX11_inside 42 = .ok (.getfield 30, 3) := by decide +kernel
theorem dX11_inside_45 : decode cX11_inside 45 = .ok (.invokevirtual 228, 3) := by decide +kernel
theorem dX11_inside_48 : decode cX11_inside 48 = .ok (.aload_n 0, 1) := by decide +kernel
theorem dX11_inside_49 : decode cX11_inside 49 = .ok (.getfield 13, 3) := by decide +kernel
theorem dX11_inside_52 : decode cX11_inside 52 = .ok (.iload_n 1, 1) := by decide +kernel
theorem dX11_inside_53 : decode cX11_inside 53 = .ok (.laload, 1) := by decide +kernel
theorem dX11_inside_54 : decode cX11_inside 54 = .ok (.iload_n 3, 1) := by decide +kernel
theorem dX11_inside_55 : decode cX11_inside 55 = .ok (.aload_n 0, 1) := by decide +kernel
theorem dX11_inside_56 : decode cX11_inside 56 = .ok (.getfield 30, 3) := by decide +kernel
theorem dX11_inside_59 : decode cX11_inside 59 = .ok (.invokestatic 231, 3) := by decide +kernel
theorem dX11_inside_62 : decode cX11_inside 62 = .ok (.aload_n 0, 1) := by decide +kernel
theorem dX11_inside_63 : decode cX11_inside 63 = .ok (.getfield 30, 3) := by decide +kernel
theorem dX11_inside_66 : decode cX11_inside 66 = .ok (.aload_n 0, 1) := by decide +kernel
theorem dX11_inside_67 : decode cX11_inside 67 = .ok (.getfield 13, 3) := by decide +kernel
theorem dX11_inside_70 : decode cX11_inside 70 = .ok (.iload_n 2, 1) := by decide +kernel
theorem dX11_inside_71 : decode cX11_inside 71 = .ok (.laload, 1) := by decide +kernel
theorem dX11_inside_72 : decode cX11_inside 72 = .ok (.invokestatic 251, 3) := by decide +kernel
theorem dX11_inside_75 : decode cX11_inside 75 = .ok (.ireturn, 1) := by decide +kernel
theorem dX11_common_0 : decode cX11_common 0 = .ok (.iload_n 1, 1) := by decide +kernel
theorem dX11_common_1 : decode cX11_common 1 = .ok (.invokestatic 91, 3) := by decide +kernel
theorem dX11_common_4 : decode cX11_common 4 = .ok (.ifCond .eq 10, 3) := by decide +kernel
theorem dX11_common_7 : decode cX11_common 7 = .ok (.iload_n 2, 1) := by decide +kernel
theorem dX11_common_8 : decode cX11_common 8 = .ok (.invokestatic 91, 3) := by decide +kernel
theorem dX11_common_11 : decode cX11_common 11 = .ok (.ifCond .ne 5, 3) := by decide +kernel
theorem dX11_common_14 : decode cX11_common 14 = .ok (.iconst (-1), 1) := by decide +kernel
theorem dX11_common_15 : decode cX11_common 15 = .ok (.ireturn, 1) := by decide +kernel
theorem dX11_common_16 : decode cX11_common 16 = .ok (.aload_n 0, 1) := by decide +kernel
theorem dX11_common_17 : decode cX11_common 17 = .ok (.getfield 13, 3) := by decide +kernel
theorem dX11_common_20 : decode cX11_common 20 = .ok (.iload_n 1, 1) := by decide +kernel
theorem dX11_common_21 : decode cX11_common 21 = .ok (.laload, 1) := by decide +kernel
theorem dX11_common_22 : decode cX11_common 22 = .ok (.lconst 0, 1) := by decide +kernel
theorem dX11_common_23 : decode cX11_common 23 = .ok (.lcmp, 1) := by decide +kernel
theorem dX11_common_24 : decode cX11_common 24 = .ok (.ifCond .eq 14, 3) := by decide +kernel
theorem dX11_common_27 : decode cX11_common 27 = .ok (.aload_n 0, 1) := by decide +kernel
theorem dX11_common_28 : decode cX11_common 28 = .ok (.getfield 13, 3) := by decide +kernel
theorem dX11_common_31 : decode cX11_common 31 = .ok (.iload_n 2, 1) := by decide +kernel
theorem dX11_common_32 : decode cX11_common 32 = .ok (.laload, 1) := by decide +kernel
theorem dX11_common_33 : decode cX11_common 33 = .ok (.lconst 0, 1) := by decide +kernel
theorem dX11_common_34 : decode cX11_common 34 = .ok (.lcmp, 1) := by decide +kernel
theorem dX11_common_35 : decode cX11_common 35 = .ok (.ifCond .ne 6, 3) := by decide +kernel
theorem dX11_common_38 : decode cX11_common 38 = .ok (.bipush (-2), 2) := by decide +kernel
theorem dX11_common_40 : decode cX11_common 40 = .ok (.ireturn, 1) := by decide +kernel
theorem dX11_common_41 : decode cX11_common 41 = .ok (.aload_n 0, 1) := by decide +kernel
theorem dX11_common_42 : decode cX11_common 42 = .ok (.getfield 30, 3) := by decide +kernel
theorem dX11_common_45 : decode cX11_common 45 = .ok (.invokevirtual 228, 3) := by decide +kernel
theorem dX11_common_48 : decode cX11_common 48 = .ok (.aload_n 0, 1) := by decide +kernel
theorem dX11_common_49 : decode cX11_common 49 = .ok (.getfield 13, 3) := by decide +kernel
theorem dX11_common_52 : decode cX11_common 52 = .ok (.iload_n 1, 1) := by decide +kernel
theorem dX11_common_53 : decode cX11_common 53 = .ok (.laload, 1) := by decide +kernel
theorem dX11_common_54 : decode cX11_common 54 = .ok (.iconst 1, 1) := by decide +kernel
theorem dX11_common_55 : decode cX11_common 55 = .ok (.aload_n 0, 1) := by decide +kernel
theorem dX11_common_56 : decode cX11_common 56 = .ok (.getfield 30, 3) := by decide +kernel
theorem dX11_common_59 : decode cX11_common 59 = .ok (.invokestatic 231, 3) := by decide +kernel
theorem dX11_common_62 : decode cX11_common 62 = .ok (.aload_n 0, 1) := by decide +kernel
theorem dX11_common_63 : decode cX11_common 63 = .ok (.getfield 30, 3) := by decide +kernel
theorem dX11_common_66 : decode cX11_common 66 = .ok (.aload_n 0, 1) := by decide +kernel
theorem dX11_common_67 : decode cX11_common 67 = .ok (.getfield 13, 3) := by decide +kernel
theorem dX11_common_70 : decode cX11_common 70 = .ok (.iload_n 2, 1) := by decide +kernel
theorem dX11_common_71 : decode cX11_common 71 = .ok (.laload, 1) := by decide +kernel
theorem dX11_common_72 : decode cX11_common 72 = .ok (.invokestatic 255, 3) := by decide +kernel
theorem dX11_common_75 : decode cX11_common 75 = .ok (.ireturn, 1) := by decide +kernel
theorem dX11_keep_0 : decode cX11_keep 0 = .ok (.aload_n 0, 1) := by decide +kernel
theorem dX11_keep_1 : decode cX11_keep 1 = .ok (.getfield 84, 3) := by decide +kernel
theorem dX11_keep_4 : decode cX11_keep 4 = .ok (.bipush 10, 2) := by decide +kernel
theorem dX11_keep_6 : decode cX11_keep 6 = .ok (.if_icmp .lt 5, 3) := by decide +kernel
theorem dX11_keep_9 : decode cX11_keep 9 = .ok (.iconst (-1), 1) := by decide +kernel
theorem dX11_keep_10 : decode cX11_keep 10 = .ok (.ireturn, 1) := by decide +kernel
theorem dX11_keep_11 : decode cX11_keep 11 = .ok (.aload_n 0, 1) := by decide +kernel
theorem dX11_keep_12 : decode cX11_keep 12 = .ok (.getfield 13, 3) := by decide +kernel
theorem dX11_keep_15 : decode cX11_keep 15 = .ok (.iconst 0, 1) := by decide +kernel
theorem dX11_keep_16 : decode cX11_keep 16 = .ok (.aload_n 0, 1) := by decide +kernel
theorem dX11_keep_17 : decode cX11_keep 17 = .ok (.getfield 17, 3) := by decide +kernel
theorem dX11_keep_20 : decode cX11_keep 20 = .ok (.aload_n 0, 1) := by decide +kernel
theorem dX11_keep_21 : decode cX11_keep 21 = .ok (.getfield 84, 3) := by decide +kernel
theorem dX11_keep_24 : decode cX11_keep 24 = .ok (.bipush 8, 2) := by decide +kernel
theorem dX11_keep_26 : decode cX11_keep 26 = .ok (.imul, 1) := by decide +kernel
theorem dX11_keep_27 : decode cX11_keep 27 = .ok (.bipush 8, 2) := by decide +kernel
theorem dX11_keep_29 : decode cX11_keep 29 = .ok (.invokestatic 258, 3) := by decide +kernel
theorem dX11_keep_32 : decode cX11_keep 32 = .ok (.aload_n 0, 1) := by decide +kernel
theorem dX11_keep_33 : decode cX11_keep 33 = .ok (.dup, 1) := by decide +kernel
theorem dX11_keep_34 : decode cX11_keep 34 = .ok (.getfield 84, 3) := by decide +kernel
theorem dX11_keep_37 : decode cX11_keep 37 = .ok (.iconst 1, 1) := by decide +kernel
theorem dX11_keep_38 : decode cX11_keep 38 = .ok (.iadd, 1) := by decide +kernel
theorem dX11_keep_39 : decode cX11_keep 39 = .ok (.putfield 84, 3) := by decide +kernel
theorem dX11_keep_42 : decode cX11_keep 42 = .ok (.aload_n 0, 1) := by decide +kernel
theorem dX11_keep_43 : decode cX11_keep 43 = .ok (.getfield 84, 3) := by decide +kernel
theorem dX11_keep_46 : decode cX11_keep 46 = .ok (.ireturn, 1) := by decide +kernel
theorem dX11_back_0 : decode cX11_back 0 = .ok (.aload_n 0, 1) := by decide +kernel
theorem dX11_back_1 : decode cX11_back 1 = .ok (.getfield 84, 3) := by decide +kernel
theorem dX11_back_4 : decode cX11_back 4 = .ok (.ifCond .gt 5, 3) := by decide +kernel
theorem dX11_back_7 : decode cX11_back 7 = .ok (.iconst (-1), 1) := by decide +kernel
theorem dX11_back_8 : decode cX11_back 8 = .ok (.ireturn, 1) := by decide +kernel
theorem dX11_back_9 : decode cX11_back 9 = .ok (.aload_n 0, 1) := by decide +kernel
theorem dX11_back_10 : decode cX11_back 10 = .ok (.dup, 1) := by decide +kernel
theorem dX11_back_11 : decode cX11_back 11 = .ok (.getfield 84, 3) := by decide +kernel
theorem dX11_back_14 : decode cX11_back 14 = .ok (.iconst 1, 1) := by decide +kernel
theorem dX11_back_15 : decode cX11_back 15 = .ok (.isub, 1) := by decide +kernel
theorem dX11_back_16 : decode cX11_back 16 = .ok (.putfield 84, 3) := by decide +kernel
theorem dX11_back_19 : decode cX11_back 19 = .ok (.aload_n 0, 1) := by decide +kernel
theorem dX11_back_20 : decode cX11_back 20 = .ok (.getfield 17, 3) := by decide +kernel
theorem dX11_back_23 : decode cX11_back 23 = .ok (.aload_n 0, 1) := by decide +kernel
theorem dX11_back_24 : decode cX11_back 24 = .ok (.getfield 84, 3) := by decide +kernel
theorem dX11_back_27 : decode cX11_back 27 = .ok (.bipush 8, 2) := by decide +kernel
theorem dX11_back_29 : decode cX11_back 29 = .ok (.imul, 1) := by decide +kernel
theorem dX11_back_30 : decode cX11_back 30 = .ok (.aload_n 0, 1) := by decide +kernel
theorem dX11_back_31 : decode cX11_back 31 = .ok (.getfield 13, 3) := by decide +kernel
theorem dX11_back_34 : decode cX11_back 34 = .ok (.iconst 0, 1) := by decide +kernel
theorem dX11_back_35 : decode cX11_back 35 = .ok (.bipush 8, 2) := by decide +kernel
theorem dX11_back_37 : decode cX11_back 37 = .ok (.invokestatic 258, 3) := by decide +kernel
theorem dX11_back_40 : decode cX11_back 40 = .ok (.aload_n 0, 1) := by decide +kernel
theorem dX11_back_41 : decode cX11_back 41 = .ok (.getfield 84, 3) := by decide +kernel
theorem dX11_back_44 : decode cX11_back 44 = .ok (.ireturn, 1) := by decide +kernel
theorem dX11_join_0 : decode cX11_join 0 = .ok (.iload_n 1, 1) := by decide +kernel
theorem dX11_join_1 : decode cX11_join 1 = .ok (.invokestatic 91, 3) := by decide +kernel
theorem dX11_join_4 : decode cX11_join 4 = .ok (.ifCond .eq 19, 3) := by decide +kernel
theorem dX11_join_7 : decode cX11_join 7 = .ok (.iload_n 2, 1) := by decide +kernel
theorem dX11_join_8 : decode cX11_join 8 = .ok (.invokestatic 91, 3) := by decide +kernel
theorem dX11_join_11 : decode cX11_join 11 = .ok (.ifCond .eq 12, 3) := by decide +kernel
theorem dX11_join_14 : decode cX11_join 14 = .ok (.iload_n 3, 1) := by decide +kernel
theorem dX11_join_15 : decode cX11_join 15 = .ok (.iload 4, 2) := by decide +kernel
theorem dX11_join_17 : decode cX11_join 17 = .ok (.invokestatic 264, 3) := by decide +kernel
theorem dX11_join_20 : decode cX11_join 20 = .ok (.ifCond .ne 5, 3) := by decide +kernel
theorem dX11_join_23 : decode cX11_join 23 = .ok (.iconst (-1), 1) := by decide +kernel
theorem dX11_join_24 : decode cX11_join 24 = .ok (.ireturn, 1) := by decide +kernel
theorem dX11_join_25 : decode cX11_join 25 = .ok (.aload_n 0, 1) := by decide +kernel
theorem dX11_join_26 : decode cX11_join 26 = .ok (.getfield 13, 3) := by decide +kernel
theorem dX11_join_29 : decode cX11_join 29 = .ok (.iload_n 1, 1) := by decide +kernel
theorem dX11_join_30 : decode cX11_join 30 = .ok (.laload, 1) := by decide +kernel
theorem dX11_join_31 : decode cX11_join 31 = .ok (.lconst 0, 1) := by decide +kernel
theorem dX11_join_32 : decode cX11_join 32 = .ok (.lcmp, 1) := by decide +kernel
theorem dX11_join_33 : decode cX11_join 33 = .ok (.ifCond .eq 14, 3) := by decide +kernel
theorem dX11_join_36 : decode cX11_join 36 = .ok (.aload_n 0, 1) := by decide +kernel
theorem dX11_join_37 : decode cX11_join 37 = .ok (.getfield 13, 3) := by decide +kernel
theorem dX11_join_40 : decode cX11_join 40 = .ok (.iload_n 2, 1) := by decide +kernel
theorem dX11_join_41 : decode cX11_join 41 = .ok (.laload, 1) := by decide +kernel
theorem dX11_join_42 : decode cX11_join 42 = .ok (.lconst 0, 1) := by decide +kernel
theorem dX11_join_43 : decode cX11_join 43 = .ok (.lcmp, 1) := by decide +kernel
theorem dX11_join_44 : decode cX11_join 44 = .ok (.ifCond .ne 6, 3) := by decide +kernel
theorem dX11_join_47 : decode cX11_join 47 = .ok (.bipush (-2), 2) := by decide +kernel
theorem dX11_join_49 : decode cX11_join 49 = .ok (.ireturn, 1) := by decide +kernel
theorem dX11_join_50 : decode cX11_join 50 = .ok (.iload 5, 2) := by decide +kernel
theorem dX11_join_52 : decode cX11_join 52 = .ok (.ifCond .eq 29, 3) := by decide +kernel
theorem dX11_join_55 : decode cX11_join 55 = .ok (.aload_n 0, 1) := by decide +kernel
theorem dX11_join_56 : decode cX11_join 56 = .ok (.iload_n 1, 1) := by decide +kernel
theorem dX11_join_57 : decode cX11_join 57 = .ok (.aload_n 0, 1) := by decide +kernel
theorem dX11_join_58 : decode cX11_join 58 = .ok (.getfield 13, 3) := by decide +kernel
theorem dX11_join_61 : decode cX11_join 61 = .ok (.iload_n 1, 1) := by decide +kernel
theorem dX11_join_62 : decode cX11_join 62 = .ok (.laload, 1) := by decide +kernel
theorem dX11_join_63 : decode cX11_join 63 = .ok (.aload_n 0, 1) := by decide +kernel
theorem dX11_join_64 : decode cX11_join 64 = .ok (.getfield 13, 3) := by decide +kernel
theorem dX11_join_67 : decode cX11_join 67 = .ok (.iload_n 2, 1) := by decide +kernel
theorem dX11_join_68 : decode cX11_join 68 = .ok (.laload, 1) := by decide +kernel
theorem dX11_join_69 : decode cX11_join 69 = .ok (.iload_n 3, 1) := by decide +kernel
theorem dX11_join_70 : decode cX11_join 70 = .ok (.iload 4, 2) := by decide +kernel
theorem dX11_join_72 : decode cX11_join 72 = .ok (.invokestatic 141, 3) := by decide +kernel
theorem dX11_join_75 : decode cX11_join 75 = .ok (.invokevirtual 107, 3) := by decide +kernel
theorem dX11_join_78 : decode cX11_join 78 = .ok (.goto 31, 3) := by decide +kernel
theorem dX11_join_81 : decode cX11_join 81 = .ok (.aload_n 0, 1) := by decide +kernel
theorem dX11_join_82 : decode cX11_join 82 = .ok (.iload_n 1, 1) := by decide +kernel
theorem dX11_join_83 : decode cX11_join 83 = .ok (.aload_n 0, 1) := by decide +kernel
theorem dX11_join_84 : decode cX11_join 84 = .ok (.getfield 13, 3) := by decide +kernel
theorem dX11_join_87 : decode cX11_join 87 = .ok (.iload_n 1, 1) := by decide +kernel
theorem dX11_join_88 : decode cX11_join 88 = .ok (.laload, 1) := by decide +kernel
theorem dX11_join_89 : decode cX11_join 89 = .ok (.aload_n 0, 1) := by decide +kernel
theorem dX11_join_90 : decode cX11_join 90 = .ok (.getfield 13, 3) := by decide +kernel
theorem dX11_join_93 : decode cX11_join 93 = .ok (.iload_n 2, 1) := by decide +kernel
theorem dX11_join_94 : decode cX11_join 94 = .ok (.laload, 1) := by decide +kernel
theorem dX11_join_95 : decode cX11_join 95 = .ok (.iload_n 3, 1) := by decide +kernel
theorem dX11_join_96 : decode cX11_join 96 = .ok (.iload 4, 2) := by decide +kernel
theorem dX11_join_98 : decode cX11_join 98 = .ok (.invokestatic 145, 3) := by decide +kernel
theorem dX11_join_101 : decode cX11_join 101 = .ok (.ldc2_w 130, 3) := by decide +kernel
theorem dX11_join_104 : decode cX11_join 104 = .ok (.lxor, 1) := by decide +kernel
theorem dX11_join_105 : decode cX11_join 105 = .ok (.land, 1) := by decide +kernel
theorem dX11_join_106 : decode cX11_join 106 = .ok (.invokevirtual 107, 3) := by decide +kernel
theorem dX11_join_109 : decode cX11_join 109 = .ok (.ireturn, 1) := by decide +kernel
theorem dX11_swap_0 : decode cX11_swap 0 = .ok (.iload_n 1, 1) := by decide +kernel
theorem dX11_swap_1 : decode cX11_swap 1 = .ok (.invokestatic 91, 3) := by decide +kernel
theorem dX11_swap_4 : decode cX11_swap 4 = .ok (.ifCond .eq 10, 3) := by decide +kernel
theorem dX11_swap_7 : decode cX11_swap 7 = .ok (.iload_n 2, 1) := by decide +kernel
theorem dX11_swap_8 : decode cX11_swap 8 = .ok (.invokestatic 91, 3) := by decide +kernel
theorem dX11_swap_11 : decode cX11_swap 11 = .ok (.ifCond .ne 5, 3) := by decide +kernel
theorem dX11_swap_14 : decode cX11_swap 14 = .ok (.iconst (-1), 1) := by decide +kernel
theorem dX11_swap_15 : decode cX11_swap 15 = .ok (.ireturn, 1) := by decide +kernel
theorem dX11_swap_16 : decode cX11_swap 16 = .ok (.aload_n 0, 1) := by decide +kernel
theorem dX11_swap_17 : decode cX11_swap 17 = .ok (.getfield 13, 3) := by decide +kernel
theorem dX11_swap_20 : decode cX11_swap 20 = .ok (.iload_n 1, 1) := by decide +kernel
theorem dX11_swap_21 : decode cX11_swap 21 = .ok (.laload, 1) := by decide +kernel
theorem dX11_swap_22 : decode cX11_swap 22 = .ok (.aload_n 0, 1) := by decide +kernel
theorem dX11_swap_23 : decode cX11_swap 23 = .ok (.getfield 13, 3) := by decide +kernel
theorem dX11_swap_26 : decode cX11_swap 26 = .ok (.iload_n 2, 1) := by decide +kernel
theorem dX11_swap_27 : decode cX11_swap 27 = .ok (.laload, 1) := by decide +kernel
theorem dX11_swap_28 : decode cX11_swap 28 = .ok (.lcmp, 1) := by decide +kernel
theorem dX11_swap_29 : decode cX11_swap 29 = .ok (.ifCond .ne 5, 3) := by decide +kernel
theorem dX11_swap_32 : decode cX11_swap 32 = .ok (.iconst 0, 1) := by decide +kernel
theorem dX11_swap_33 : decode cX11_swap 33 = .ok (.ireturn, 1) := by decide +kernel
theorem dX11_swap_34 : decode cX11_swap 34 = .ok (.aload_n 0, 1) := by decide +kernel
theorem dX11_swap_35 : decode cX11_swap 35 = .ok (.getfield 13, 3) := by decide +kernel
theorem dX11_swap_38 : decode cX11_swap 38 = .ok (.iload_n 1, 1) := by decide +kernel
theorem dX11_swap_39 : decode cX11_swap 39 = .ok (.laload, 1) := by decide +kernel
theorem dX11_swap_40 : decode cX11_swap 40 = .ok (.lstore_n 3, 1) := by decide +kernel
theorem dX11_swap_41 : decode cX11_swap 41 = .ok (.aload_n 0, 1) := by decide +kernel
theorem dX11_swap_42 : decode cX11_swap 42 = .ok (.getfield 13, 3) := by decide +kernel
theorem dX11_swap_45 : decode cX11_swap 45 = .ok (.iload_n 1, 1) := by decide +kernel
theorem dX11_swap_46 : decode cX11_swap 46 = .ok (.aload_n 0, 1) := by decide +kernel
theorem dX11_swap_47 : decode cX11_swap 47 = .ok (.getfield 13, 3) := by decide +kernel
theorem dX11_swap_50 : decode cX11_swap 50 = .ok (.iload_n 2, 1) := by decide +kernel
theorem dX11_swap_51 : decode cX11_swap 51 = .ok (.laload, 1) := by decide +kernel
theorem dX11_swap_52 : decode cX11_swap 52 = .ok (.lastore, 1) := by decide +kernel
theorem dX11_swap_53 : decode cX11_swap 53 = .ok (.aload_n 0, 1) := by decide +kernel
theorem dX11_swap_54 : decode cX11_swap 54 = .ok (.getfield 13, 3) := by decide +kernel
theorem dX11_swap_57 : decode cX11_swap 57 = .ok (.iload_n 2, 1) := by decide +kernel
theorem dX11_swap_58 : decode cX11_swap 58 = .ok (.lload_n 3, 1) := by decide +kernel
theorem dX11_swap_59 : decode cX11_swap 59 = .ok (.lastore, 1) := by decide +kernel
theorem dX11_swap_60 : decode cX11_swap 60 = .ok (.iconst 1, 1) := by decide +kernel
theorem dX11_swap_61 : decode cX11_swap 61 = .ok (.ireturn, 1) := by decide +kernel
theorem dX11_share_0 : decode cX11_share 0 = .ok (.iload_n 1, 1) := by decide +kernel
theorem dX11_share_1 : decode cX11_share 1 = .ok (.invokestatic 91, 3) := by decide +kernel
theorem dX11_share_4 : decode cX11_share 4 = .ok (.ifCond .eq 19, 3) := by decide +kernel
theorem dX11_share_7 : decode cX11_share 7 = .ok (.iload_n 2, 1) := by decide +kernel
theorem dX11_share_8 : decode cX11_share 8 = .ok (.invokestatic 91, 3) := by decide +kernel
theorem dX11_share_11 : decode cX11_share 11 = .ok (.ifCond .eq 12, 3) := by decide +kernel
theorem dX11_share_14 : decode cX11_share 14 = .ok (.iload_n 3, 1) := by decide +kernel
theorem dX11_share_15 : decode cX11_share 15 = .ok (.iload 4, 2) := by decide +kernel
theorem dX11_share_17 : decode cX11_share 17 = .ok (.invokestatic 264, 3) := by decide +kernel
theorem dX11_share_20 : decode cX11_share 20 = .ok (.ifCond .ne 5, 3) := by decide +kernel
theorem dX11_share_23 : decode cX11_share 23 = .ok (.iconst (-1), 1) := by decide +kernel
theorem dX11_share_24 : decode cX11_share 24 = .ok (.ireturn, 1) := by decide +kernel
theorem dX11_share_25 : decode cX11_share 25 = .ok (.aload_n 0, 1) := by decide +kernel
theorem dX11_share_26 : decode cX11_share 26 = .ok (.getfield 13, 3) := by decide +kernel
theorem dX11_share_29 : decode cX11_share 29 = .ok (.iload_n 1, 1) := by decide +kernel
theorem dX11_share_30 : decode cX11_share 30 = .ok (.laload, 1) := by decide +kernel
theorem dX11_share_31 : decode cX11_share 31 = .ok (.lconst 0, 1) := by decide +kernel
theorem dX11_share_32 : decode cX11_share 32 = .ok (.lcmp, 1) := by decide +kernel
theorem dX11_share_33 : decode cX11_share 33 = .ok (.ifCond .eq 14, 3) := by decide +kernel
theorem dX11_share_36 : decode cX11_share 36 = .ok (.aload_n 0, 1) := by decide +kernel
theorem dX11_share_37 : decode cX11_share 37 = .ok (.getfield 13, 3) := by decide +kernel
theorem dX11_share_40 : decode cX11_share 40 = .ok (.iload_n 2, 1) := by decide +kernel
theorem dX11_share_41 : decode cX11_share 41 = .ok (.laload, 1) := by decide +kernel
theorem dX11_share_42 : decode cX11_share 42 = .ok (.lconst 0, 1) := by decide +kernel
theorem dX11_share_43 : decode cX11_share 43 = .ok (.lcmp, 1) := by decide +kernel
theorem dX11_share_44 : decode cX11_share 44 = .ok (.ifCond .ne 6, 3) := by decide +kernel
theorem dX11_share_47 : decode cX11_share 47 = .ok (.bipush (-2), 2) := by decide +kernel
theorem dX11_share_49 : decode cX11_share 49 = .ok (.ireturn, 1) := by decide +kernel
theorem dX11_share_50 : decode cX11_share 50 = .ok (.aload_n 0, 1) := by decide +kernel
theorem dX11_share_51 : decode cX11_share 51 = .ok (.getfield 13, 3) := by decide +kernel
theorem dX11_share_54 : decode cX11_share 54 = .ok (.iload_n 1, 1) := by decide +kernel
theorem dX11_share_55 : decode cX11_share 55 = .ok (.laload, 1) := by decide +kernel
theorem dX11_share_56 : decode cX11_share 56 = .ok (.aload_n 0, 1) := by decide +kernel
theorem dX11_share_57 : decode cX11_share 57 = .ok (.getfield 13, 3) := by decide +kernel
theorem dX11_share_60 : decode cX11_share 60 = .ok (.iload_n 2, 1) := by decide +kernel
theorem dX11_share_61 : decode cX11_share 61 = .ok (.laload, 1) := by decide +kernel
theorem dX11_share_62 : decode cX11_share 62 = .ok (.iload_n 3, 1) := by decide +kernel
theorem dX11_share_63 : decode cX11_share 63 = .ok (.iload 4, 2) := by decide +kernel
theorem dX11_share_65 : decode cX11_share 65 = .ok (.invokestatic 267, 3) := by decide +kernel
theorem dX11_share_68 : decode cX11_share 68 = .ok (.ifCond .le 6, 3) := by decide +kernel
theorem dX11_share_71 : decode cX11_share 71 = .ok (.bipush (-3), 2) := by decide +kernel
theorem dX11_share_73 : decode cX11_share 73 = .ok (.ireturn, 1) := by decide +kernel
theorem dX11_share_74 : decode cX11_share 74 = .ok (.aload_n 0, 1) := by decide +kernel
theorem dX11_share_75 : decode cX11_share 75 = .ok (.getfield 13, 3) := by decide +kernel
theorem dX11_share_78 : decode cX11_share 78 = .ok (.iload_n 1, 1) := by decide +kernel
theorem dX11_share_79 : decode cX11_share 79 = .ok (.laload, 1) := by decide +kernel
theorem dX11_share_80 : decode cX11_share 80 = .ok (.aload_n 0, 1) := by decide +kernel
theorem dX11_share_81 : decode cX11_share 81 = .ok (.getfield 13, 3) := by decide +kernel
theorem dX11_share_84 : decode cX11_share 84 = .ok (.iload_n 2, 1) := by decide +kernel
theorem dX11_share_85 : decode cX11_share 85 = .ok (.laload, 1) := by decide +kernel
theorem dX11_share_86 : decode cX11_share 86 = .ok (.iload_n 3, 1) := by decide +kernel
theorem dX11_share_87 : decode cX11_share 87 = .ok (.iload 4, 2) := by decide +kernel
theorem dX11_share_89 : decode cX11_share 89 = .ok (.invokestatic 271, 3) := by decide +kernel
theorem dX11_share_92 : decode cX11_share 92 = .ok (.ireturn, 1) := by decide +kernel
theorem dX11_touch_0 : decode cX11_touch 0 = .ok (.iload_n 1, 1) := by decide +kernel
theorem dX11_touch_1 : decode cX11_touch 1 = .ok (.invokestatic 91, 3) := by decide +kernel
theorem dX11_touch_4 : decode cX11_touch 4 = .ok (.ifCond .eq 19, 3) := by decide +kernel
theorem dX11_touch_7 : decode cX11_touch 7 = .ok (.iload_n 2, 1) := by decide +kernel
theorem dX11_touch_8 : decode cX11_touch 8 = .ok (.invokestatic 91, 3) := by decide +kernel
theorem dX11_touch_11 : decode cX11_touch 11 = .ok (.ifCond .eq 12, 3) := by decide +kernel
theorem dX11_touch_14 : decode cX11_touch 14 = .ok (.iload_n 3, 1) := by decide +kernel
theorem dX11_touch_15 : decode cX11_touch 15 = .ok (.iconst 0, 1) := by decide +kernel
theorem dX11_touch_16 : decode cX11_touch 16 = .ok (.iconst 5, 1) := by decide +kernel
theorem dX11_touch_17 : decode cX11_touch 17 = .ok (.invokestatic 95, 3) := by decide +kernel
theorem dX11_touch_20 : decode cX11_touch 20 = .ok (.ifCond .ne 5, 3) := by decide +kernel
theorem dX11_touch_23 : decode cX11_touch 23 = .ok (.iconst (-1), 1) := by decide +kernel
theorem dX11_touch_24 : decode cX11_touch 24 = .ok (.ireturn, 1) := by decide +kernel
theorem dX11_touch_25 : decode cX11_touch 25 = .ok (.aload_n 0, 1) := by decide +kernel
theorem dX11_touch_26 : decode cX11_touch 26 = .ok (.getfield 13, 3) := by decide +kernel
theorem dX11_touch_29 : decode cX11_touch 29 = .ok (.iload_n 1, 1) := by decide +kernel
theorem dX11_touch_30 : decode cX11_touch 30 = .ok (.laload, 1) := by decide +kernel
theorem dX11_touch_31 : decode cX11_touch 31 = .ok (.lconst 0, 1) := by decide +kernel
theorem dX11_touch_32 : decode cX11_touch 32 = .ok (.lcmp, 1) := by decide +kernel
theorem dX11_touch_33 : decode cX11_touch 33 = .ok (.ifCond .eq 14, 3) := by decide +kernel
theorem dX11_touch_36 : decode cX11_touch 36 = .ok (.aload_n 0, 1) := by decide +kernel
theorem dX11_touch_37 : decode cX11_touch 37 = .ok (.getfield 13, 3) := by decide +kernel
theorem dX11_touch_40 : decode cX11_touch 40 = .ok (.iload_n 2, 1) := by decide +kernel
theorem dX11_touch_41 : decode cX11_touch 41 = .ok (.laload, 1) := by decide +kernel
theorem dX11_touch_42 : decode cX11_touch 42 = .ok (.lconst 0, 1) := by decide +kernel
theorem dX11_touch_43 : decode cX11_touch 43 = .ok (.lcmp, 1) := by decide +kernel
theorem dX11_touch_44 : decode cX11_touch 44 = .ok (.ifCond .ne 6, 3) := by decide +kernel
theorem dX11_touch_47 : decode cX11_touch 47 = .ok (.bipush (-2), 2) := by decide +kernel
theorem dX11_touch_49 : decode cX11_touch 49 = .ok (.ireturn, 1) := by decide +kernel
theorem dX11_touch_50 : decode cX11_touch 50 = .ok (.aload_n 0, 1) := by decide +kernel
theorem dX11_touch_51 : decode cX11_touch 51 = .ok (.getfield 76, 3) := by decide +kernel
theorem dX11_touch_54 : decode cX11_touch 54 = .ok (.aload_n 0, 1) := by decide +kernel
theorem dX11_touch_55 : decode cX11_touch 55 = .ok (.getfield 13, 3) := by decide +kernel
theorem dX11_touch_58 : decode cX11_touch 58 = .ok (.iload_n 1, 1) := by decide +kernel
theorem dX11_touch_59 : decode cX11_touch 59 = .ok (.laload, 1) := by decide +kernel
theorem dX11_touch_60 : decode cX11_touch 60 = .ok (.aload_n 0, 1) := by decide +kernel
theorem dX11_touch_61 : decode cX11_touch 61 = .ok (.getfield 13, 3) := by decide +kernel
theorem dX11_touch_64 : decode cX11_touch 64 = .ok (.iload_n 2, 1) := by decide +kernel
theorem dX11_touch_65 : decode cX11_touch 65 = .ok (.laload, 1) := by decide +kernel
theorem dX11_touch_66 : decode cX11_touch 66 = .ok (.invokevirtual 274, 3) := by decide +kernel
theorem dX11_touch_69 : decode cX11_touch 69 = .ok (.aload_n 0, 1) := by decide +kernel
theorem dX11_touch_70 : decode cX11_touch 70 = .ok (.getfield 76, 3) := by decide +kernel
theorem dX11_touch_73 : decode cX11_touch 73 = .ok (.iload_n 3, 1) := by decide +kernel
theorem dX11_touch_74 : decode cX11_touch 74 = .ok (.invokevirtual 278, 3) := by decide +kernel
theorem dX11_touch_77 : decode cX11_touch 77 = .ok (.ireturn, 1) := by decide +kernel
theorem dX11_count_0 : decode cX11_count 0 = .ok (.iload_n 1, 1) := by decide +kernel
theorem dX11_count_1 : decode cX11_count 1 = .ok (.iconst 0, 1) := by decide +kernel
theorem dX11_count_2 : decode cX11_count 2 = .ok (.iconst 2, 1) := by decide +kernel
theorem dX11_count_3 : decode cX11_count 3 = .ok (.invokestatic 95, 3) := by decide +kernel
theorem dX11_count_6 : decode cX11_count 6 = .ok (.ifCond .ne 5, 3) := by decide +kernel
theorem dX11_count_9 : decode cX11_count 9 = .ok (.iconst (-1), 1) := by decide +kernel
theorem dX11_count_10 : decode cX11_count 10 = .ok (.ireturn, 1) := by decide +kernel
theorem dX11_count_11 : decode cX11_count 11 = .ok (.iload_n 1, 1) := by decide +kernel
theorem dX11_count_12 : decode cX11_count 12 = .ok (.iconst 1, 1) := by decide +kernel
theorem dX11_count_13 : decode cX11_count 13 = .ok (.if_icmp .ne 8, 3) := by decide +kernel
theorem dX11_count_16 : decode cX11_count 16 = .ok (.aload_n 0, 1) := by decide +kernel
theorem dX11_count_17 : decode cX11_count 17 = .ok (.getfield 80, 3) := by decide +kernel
theorem dX11_count_20 : decode cX11_count 20 = .ok (.ireturn, 1) := by decide +kernel
theorem dX11_count_21 : decode cX11_count 21 = .ok (.iconst 0, 1) := by decide +kernel
theorem dX11_count_22 : decode cX11_count 22 = .ok (.istore_n 2, 1) := by decide +kernel
theorem dX11_count_23 : decode cX11_count 23 = .ok (.iconst 0, 1) := by decide +kernel
theorem dX11_count_24 : decode cX11_count 24 = .ok (.istore_n 3, 1) := by decide +kernel
theorem dX11_count_25 : decode cX11_count 25 = .ok (.iconst 0, 1) := by decide +kernel
theorem dX11_count_26 : decode cX11_count 26 = .ok (.istore 4, 2) := by decide +kernel
theorem dX11_count_28 : decode cX11_count 28 = .ok (.iload 4, 2) := by decide +kernel
theorem dX11_count_30 : decode cX11_count 30 = .ok (.bipush 8, 2) := by decide +kernel
theorem dX11_count_32 : decode cX11_count 32 = .ok (.if_icmp .ge 45, 3) := by decide +kernel
theorem dX11_count_35 : decode cX11_count 35 = .ok (.iload_n 2, 1) := by decide +kernel
theorem dX11_count_36 : decode cX11_count 36 = .ok (.aload_n 0, 1) := by decide +kernel
theorem dX11_count_37 : decode cX11_count 37 = .ok (.getfield 13, 3) := by decide +kernel
theorem dX11_count_40 : decode cX11_count 40 = .ok (.iload 4, 2) := by decide +kernel
theorem dX11_count_42 : decode cX11_count 42 = .ok (.laload, 1) := by decide +kernel
theorem dX11_count_43 : decode cX11_count 43 = .ok (.lconst 0, 1) := by decide +kernel
theorem dX11_count_44 : decode cX11_count 44 = .ok (.lcmp, 1) := by decide +kernel
theorem dX11_count_45 : decode cX11_count 45 = .ok (.ifCond .ne 7, 3) := by decide +kernel
theorem dX11_count_48 : decode cX11_count 48 = .ok (.iconst 0, 1) := by decide +kernel
theorem dX11_count_49 : decode cX11_count 49 = .ok (.goto 7, 3) := by decide +kernel
theorem dX11_count_52 : decode cX11_count 52 = .ok (.iconst 1, 1) := by decide +kernel
theorem dX11_count_53 : decode cX11_count 53 = .ok (.iload 4, 2) := by decide +kernel
theorem dX11_count_55 : decode cX11_count 55 = .ok (.ishl, 1) := by decide +kernel
theorem dX11_count_56 : decode cX11_count 56 = .ok (.ior, 1) := by decide +kernel
theorem dX11_count_57 : decode cX11_count 57 = .ok (.istore_n 2, 1) := by decide +kernel
theorem dX11_count_58 : decode cX11_count 58 = .ok (.iload_n 3, 1) := by decide +kernel
theorem dX11_count_59 : decode cX11_count 59 = .ok (.aload_n 0, 1) := by decide +kernel
theorem dX11_count_60 : decode cX11_count 60 = .ok (.getfield 13, 3) := by decide +kernel
theorem dX11_count_63 : decode cX11_count 63 = .ok (.iload 4, 2) := by decide +kernel
theorem dX11_count_65 : decode cX11_count 65 = .ok (.laload, 1) := by decide +kernel
theorem dX11_count_66 : decode cX11_count 66 = .ok (.invokestatic 164, 3) := by decide +kernel
theorem dX11_count_69 : decode cX11_count 69 = .ok (.iadd, 1) := by decide +kernel
theorem dX11_count_70 : decode cX11_count 70 = .ok (.istore_n 3, 1) := by decide +kernel
theorem dX11_count_71 : decode cX11_count 71 = .ok (.iinc 4 1, 3) := by decide +kernel
theorem dX11_count_74 : decode cX11_count 74 = .ok (.goto (-46), 3) := by decide +kernel
theorem dX11_count_77 : decode cX11_count 77 = .ok (.iload_n 1, 1) := by decide +kernel
theorem dX11_count_78 : decode cX11_count 78 = .ok (.ifCond .ne 7, 3) := by decide +kernel
theorem dX11_count_81 : decode cX11_count 81 = .ok (.iload_n 2, 1) := by decide +kernel
theorem dX11_count_82 : decode cX11_count 82 = .ok (.goto 4, 3) := by decide +kernel
theorem dX11_count_85 : decode cX11_count 85 = .ok (.iload_n 3, 1) := by decide +kernel
theorem dX11_count_86 : decode cX11_count 86 = .ok (.ireturn, 1) := by decide +kernel
theorem dX11_within_0 : decode cX11_within 0 = .ok (.iload_n 1, 1) := by decide +kernel
theorem dX11_within_1 : decode cX11_within 1 = .ok (.iload_n 0, 1) := by decide +kernel
theorem dX11_within_2 : decode cX11_within 2 = .ok (.if_icmp .gt 12, 3) := by decide +kernel
theorem dX11_within_5 : decode cX11_within 5 = .ok (.iload_n 0, 1) := by decide +kernel
theorem dX11_within_6 : decode cX11_within 6 = .ok (.iload_n 2, 1) := by decide +kernel
theorem dX11_within_7 : decode cX11_within 7 = .ok (.if_icmp .gt 7, 3) := by decide +kernel
theorem dX11_within_10 : decode cX11_within 10 = .ok (.iconst 1, 1) := by decide +kernel
theorem dX11_within_11 : decode cX11_within 11 = .ok (.goto 4, 3) := by decide +kernel
theorem dX11_within_14 : decode cX11_within 14 = .ok (.iconst 0, 1) := by decide +kernel
theorem dX11_within_15 : decode cX11_within 15 = .ok (.ireturn, 1) := by decide +kernel
theorem dX11_isDrawer_0 : decode cX11_isDrawer 0 = .ok (.iload_n 0, 1) := by decide +kernel
theorem dX11_isDrawer_1 : decode cX11_isDrawer 1 = .ok (.iconst 0, 1) := by decide +kernel
theorem dX11_isDrawer_2 : decode cX11_isDrawer 2 = .ok (.bipush 7, 2) := by decide +kernel
theorem dX11_isDrawer_4 : decode cX11_isDrawer 4 = .ok (.invokestatic 95, 3) := by decide +kernel
theorem dX11_isDrawer_7 : decode cX11_isDrawer 7 = .ok (.ireturn, 1) := by decide +kernel
theorem dX11_isKind_0 : decode cX11_isKind 0 = .ok (.iload_n 0, 1) := by decide +kernel
theorem dX11_isKind_1 : decode cX11_isKind 1 = .ok (.iconst 0, 1) := by decide +kernel
theorem dX11_isKind_2 : decode cX11_isKind 2 = .ok (.iconst 2, 1) := by decide +kernel
theorem dX11_isKind_3 : decode cX11_isKind 3 = .ok (.invokestatic 95, 3) := by decide +kernel
theorem dX11_isKind_6 : decode cX11_isKind 6 = .ok (.ireturn, 1) := by decide +kernel
theorem dX11_isList_0 : decode cX11_isList 0 = .ok (.iload_n 0, 1) := by decide +kernel
theorem dX11_isList_1 : decode cX11_isList 1 = .ok (.iconst 1, 1) := by decide +kernel
theorem dX11_isList_2 : decode cX11_isList 2 = .ok (.bipush 7, 2) := by decide +kernel
theorem dX11_isList_4 : decode cX11_isList 4 = .ok (.invokestatic 95, 3) := by decide +kernel
theorem dX11_isList_7 : decode cX11_isList 7 = .ok (.ifCond .eq 14, 3) := by decide +kernel
theorem dX11_isList_10 : decode cX11_isList 10 = .ok (.iload_n 1, 1) := by decide +kernel
theorem dX11_isList_11 : decode cX11_isList 11 = .ok (.invokestatic 127, 3) := by decide +kernel
theorem dX11_isList_14 : decode cX11_isList 14 = .ok (.ifCond .eq 7, 3) := by decide +kernel
theorem dX11_isList_17 : decode cX11_isList 17 = .ok (.iconst 1, 1) := by decide +kernel
theorem dX11_isList_18 : decode cX11_isList 18 = .ok (.goto 4, 3) := by decide +kernel
theorem dX11_isList_21 : decode cX11_isList 21 = .ok (.iconst 0, 1) := by decide +kernel
theorem dX11_isList_22 : decode cX11_isList 22 = .ok (.ireturn, 1) := by decide +kernel
theorem dX11_isMove_0 : decode cX11_isMove 0 = .ok (.iload_n 0, 1) := by decide +kernel
theorem dX11_isMove_1 : decode cX11_isMove 1 = .ok (.bipush (-7), 2) := by decide +kernel
theorem dX11_isMove_3 : decode cX11_isMove 3 = .ok (.bipush 7, 2) := by decide +kernel
theorem dX11_isMove_5 : decode cX11_isMove 5 = .ok (.invokestatic 95, 3) := by decide +kernel
theorem dX11_isMove_8 : decode cX11_isMove 8 = .ok (.ifCond .eq 18, 3) := by decide +kernel
theorem dX11_isMove_11 : decode cX11_isMove 11 = .ok (.iload_n 1, 1) := by decide +kernel
theorem dX11_isMove_12 : decode cX11_isMove 12 = .ok (.bipush (-7), 2) := by decide +kernel
theorem dX11_isMove_14 : decode cX11_isMove 14 = .ok (.bipush 7, 2) := by decide +kernel
theorem dX11_isMove_16 : decode cX11_isMove 16 = .ok (.invokestatic 95, 3) := by decide +kernel
theorem dX11_isMove_19 : decode cX11_isMove 19 = .ok (.ifCond .eq 7, 3) := by decide +kernel
theorem dX11_isMove_22 : decode cX11_isMove 22 = .ok (.iconst 1, 1) := by decide +kernel
theorem dX11_isMove_23 : decode cX11_isMove 23 = .ok (.goto 4, 3) := by decide +kernel
theorem dX11_isMove_26 : decode cX11_isMove 26 = .ok (.iconst 0, 1) := by decide +kernel
theorem dX11_isMove_27 : decode cX11_isMove 27 = .ok (.ireturn, 1) := by decide +kernel
theorem dX11_append_0 : decode cX11_append 0 = .ok (.bipush 24, 2) := by decide +kernel
theorem dX11_append_2 : decode cX11_append 2 = .ok (.istore_n 2, 1) := by decide +kernel
theorem dX11_append_3 : decode cX11_append 3 = .ok (.iload_n 2, 1) := by decide +kernel
theorem dX11_append_4 : decode cX11_append 4 = .ok (.ifCond .lt 44, 3) := by decide +kernel
theorem dX11_append_7 : decode cX11_append 7 = .ok (.aload_n 0, 1) := by decide +kernel
theorem dX11_append_8 : decode cX11_append 8 = .ok (.getfield 80, 3) := by decide +kernel
theorem dX11_append_11 : decode cX11_append 11 = .ok (.aload_n 0, 1) := by decide +kernel
theorem dX11_append_12 : decode cX11_append 12 = .ok (.getfield 9, 3) := by decide +kernel
theorem dX11_append_15 : decode cX11_append 15 = .ok (.arraylength, 1) := by decide +kernel
theorem dX11_append_16 : decode cX11_append 16 = .ok (.if_icmp .ge 26, 3) := by decide +kernel
theorem dX11_append_19 : decode cX11_append 19 = .ok (.aload_n 0, 1) := by decide +kernel
theorem dX11_append_20 : decode cX11_append 20 = .ok (.getfield 9, 3) := by decide +kernel
theorem dX11_append_23 : decode cX11_append 23 = .ok (.aload_n 0, 1) := by decide +kernel
theorem dX11_append_24 : decode cX11_append 24 = .ok (.getfield 80, 3) := by decide +kernel
theorem dX11_append_27 : decode cX11_append 27 = .ok (.iload_n 1, 1) := by decide +kernel
theorem dX11_append_28 : decode cX11_append 28 = .ok (.iload_n 2, 1) := by decide +kernel
theorem dX11_append_29 : decode cX11_append 29 = .ok (.iushr, 1) := by decide +kernel
theorem dX11_append_30 : decode cX11_append 30 = .ok (.i2b, 1) := by decide +kernel
theorem dX11_append_31 : decode cX11_append 31 = .ok (.bastore, 1) := by decide +kernel
theorem dX11_append_32 : decode cX11_append 32 = .ok (.aload_n 0, 1) := by decide +kernel
theorem dX11_append_33 : decode cX11_append 33 = .ok (.dup, 1) := by decide +kernel
theorem dX11_append_34 : decode cX11_append 34 = .ok (.getfield 80, 3) := by decide +kernel
theorem dX11_append_37 : decode cX11_append 37 = .ok (.iconst 1, 1) := by decide +kernel
theorem dX11_append_38 : decode cX11_append 38 = .ok (.iadd, 1) := by decide +kernel
theorem dX11_append_39 : decode cX11_append 39 = .ok (.putfield 80, 3) := by decide +kernel
theorem dX11_append_42 : decode cX11_append 42 = .ok (.iinc 2 (-8), 3) := by decide +kernel
theorem dX11_append_45 : decode cX11_append 45 = .ok (.goto (-42), 3) := by decide +kernel
theorem dX11_append_48 : decode cX11_append 48 = .ok (.return_, 1) := by decide +kernel
theorem dX11_store_0 : decode cX11_store 0 = .ok (.lload_n 2, 1) := by decide +kernel
theorem dX11_store_1 : decode cX11_store 1 = .ok (.invokestatic 281, 3) := by decide +kernel
theorem dX11_store_4 : decode cX11_store 4 = .ok (.lstore 4, 2) := by decide +kernel
theorem dX11_store_6 : decode cX11_store 6 = .ok (.lload 4, 2) := by decide +kernel
theorem dX11_store_8 : decode cX11_store 8 = .ok (.invokestatic 111, 3) := by decide +kernel
theorem dX11_store_11 : decode cX11_store 11 = .ok (.ifCond .ne 6, 3) := by decide +kernel
theorem dX11_store_14 : decode cX11_store 14 = .ok (.bipush (-3), 2) := by decide +kernel
theorem dX11_store_16 : decode cX11_store 16 = .ok (.ireturn, 1) := by decide +kernel
theorem dX11_store_17 : decode cX11_store 17 = .ok (.aload_n 0, 1) := by decide +kernel
theorem dX11_store_18 : decode cX11_store 18 = .ok (.getfield 13, 3) := by decide +kernel
theorem dX11_store_21 : decode cX11_store 21 = .ok (.iload_n 1, 1) := by decide +kernel
theorem dX11_store_22 : decode cX11_store 22 = .ok (.lload 4, 2) := by decide +kernel
theorem dX11_store_24 : decode cX11_store 24 = .ok (.lastore, 1) := by decide +kernel
theorem dX11_store_25 : decode cX11_store 25 = .ok (.lload 4, 2) := by decide +kernel
theorem dX11_store_27 : decode cX11_store 27 = .ok (.invokestatic 164, 3) := by decide +kernel
theorem dX11_store_30 : decode cX11_store 30 = .ok (.ireturn, 1) := by decide +kernel
theorem dX11_prepareMoves_0 : decode cX11_prepareMoves 0 = .ok (.aload_n 0, 1) := by decide +kernel
theorem dX11_prepareMoves_1 : decode cX11_prepareMoves 1 = .ok (.getfield 13, 3) := by decide +kernel
theorem dX11_prepareMoves_4 : decode cX11_prepareMoves 4 = .ok (.iload_n 1, 1) := by decide +kernel
theorem dX11_prepareMoves_5 : decode cX11_prepareMoves 5 = .ok (.laload, 1) := by decide +kernel
theorem dX11_prepareMoves_6 : decode cX11_prepareMoves 6 = .ok (.lconst 0, 1) := by decide +kernel
theorem dX11_prepareMoves_7 : decode cX11_prepareMoves 7 = .ok (.lcmp, 1) := by decide +kernel
theorem dX11_prepareMoves_8 : decode cX11_prepareMoves 8 = .ok (.ifCond .ne 6, 3) := by decide +kernel
theorem dX11_prepareMoves_11 : decode cX11_prepareMoves 11 = .ok (.bipush (-2), 2) := by decide +kernel
theorem dX11_prepareMoves_13 : decode cX11_prepareMoves 13 = .ok (.ireturn, 1) := by decide +kernel
theorem dX11_prepareMoves_14 : decode cX11_prepareMoves 14 = .ok (.aload_n 0, 1) := by decide +kernel
theorem dX11_prepareMoves_15 : decode cX11_prepareMoves 15 = .ok (.getfield 37, 3) := by decide +kernel
theorem dX11_prepareMoves_18 : decode cX11_prepareMoves 18 = .ok (.aload_n 0, 1) := by decide +kernel
theorem dX11_prepareMoves_19 : decode cX11_prepareMoves 19 = .ok (.getfield 13, 3) := by decide +kernel
theorem dX11_prepareMoves_22 : decode cX11_prepareMoves 22 = .ok (.iload_n 1, 1) := by decide +kernel
theorem dX11_prepareMoves_23 : decode cX11_prepareMoves 23 = .ok (.laload, 1) := by decide +kernel
theorem dX11_prepareMoves_24 : decode cX11_prepareMoves 24 = .ok (.invokevirtual 209, 3) := by decide +kernel
theorem dX11_prepareMoves_27 : decode cX11_prepareMoves 27 = .ok (.ifCond .ne 6, 3) := by decide +kernel
theorem dX11_prepareMoves_30 : decode cX11_prepareMoves 30 = .ok (.bipush (-3), 2) := by decide +kernel
theorem dX11_prepareMoves_32 : decode cX11_prepareMoves 32 = .ok (.ireturn, 1) := by decide +kernel
theorem dX11_prepareMoves_33 : decode cX11_prepareMoves 33 = .ok (.aload_n 0, 1) := by decide +kernel
theorem dX11_prepareMoves_34 : decode cX11_prepareMoves 34 = .ok (.getfield 37, 3) := by decide +kernel
theorem dX11_prepareMoves_37 : decode cX11_prepareMoves 37 = .ok (.invokevirtual 219, 3) := by decide +kernel
theorem dX11_prepareMoves_40 : decode cX11_prepareMoves 40 = .ok (.aload_n 0, 1) := by decide +kernel
theorem dX11_prepareMoves_41 : decode cX11_prepareMoves 41 = .ok (.getfield 37, 3) := by decide +kernel
theorem dX11_prepareMoves_44 : decode cX11_prepareMoves 44 = .ok (.invokevirtual 222, 3) := by decide +kernel
theorem dX11_prepareMoves_47 : decode cX11_prepareMoves 47 = .ok (.ifCond .ne 6, 3) := by decide +kernel
theorem dX11_prepareMoves_50 : decode cX11_prepareMoves 50 = .ok (.bipush (-4), 2) := by decide +kernel
theorem dX11_prepareMoves_52 : decode cX11_prepareMoves 52 = .ok (.ireturn, 1) := by decide +kernel
theorem dX11_prepareMoves_53 : decode cX11_prepareMoves 53 = .ok (.aload_n 0, 1) := by decide +kernel
theorem dX11_prepareMoves_54 : decode cX11_prepareMoves 54 = .ok (.getfield 37, 3) := by decide +kernel
theorem dX11_prepareMoves_57 : decode cX11_prepareMoves 57 = .ok (.invokevirtual 285, 3) := by decide +kernel
theorem dX11_prepareMoves_60 : decode cX11_prepareMoves 60 = .ok (.iconst 0, 1) := by decide +kernel
theorem dX11_prepareMoves_61 : decode cX11_prepareMoves 61 = .ok (.ireturn, 1) := by decide +kernel
theorem dJ6_bitCount_0f7a4_0 : decode cJ6_bitCount_0f7a4 0 = .ok (.iload_n 0, 1) := by decide +kernel
theorem dJ6_bitCount_0f7a4_1 : decode cJ6_bitCount_0f7a4 1 = .ok (.iload_n 0, 1) := by decide +kernel
theorem dJ6_bitCount_0f7a4_2 : decode cJ6_bitCount_0f7a4 2 = .ok (.iconst 1, 1) := by decide +kernel
theorem dJ6_bitCount_0f7a4_3 : decode cJ6_bitCount_0f7a4 3 = .ok (.iushr, 1) := by decide +kernel
theorem dJ6_bitCount_0f7a4_4 : decode cJ6_bitCount_0f7a4 4 = .ok (.ldc_w 265, 3) := by decide +kernel
theorem dJ6_bitCount_0f7a4_7 : decode cJ6_bitCount_0f7a4 7 = .ok (.iand, 1) := by decide +kernel
theorem dJ6_bitCount_0f7a4_8 : decode cJ6_bitCount_0f7a4 8 = .ok (.isub, 1) := by decide +kernel
theorem dJ6_bitCount_0f7a4_9 : decode cJ6_bitCount_0f7a4 9 = .ok (.istore_n 0, 1) := by decide +kernel
theorem dJ6_bitCount_0f7a4_10 : decode cJ6_bitCount_0f7a4 10 = .ok (.iload_n 0, 1) := by decide +kernel
theorem dJ6_bitCount_0f7a4_11 : decode cJ6_bitCount_0f7a4 11 = .ok (.ldc_w 266, 3) := by decide +kernel
theorem dJ6_bitCount_0f7a4_14 : decode cJ6_bitCount_0f7a4 14 = .ok (.iand, 1) := by decide +kernel
theorem dJ6_bitCount_0f7a4_15 : decode cJ6_bitCount_0f7a4 15 = .ok (.iload_n 0, 1) := by decide +kernel
theorem dJ6_bitCount_0f7a4_16 : decode cJ6_bitCount_0f7a4 16 = .ok (.iconst 2, 1) := by decide +kernel
theorem dJ6_bitCount_0f7a4_17 : decode cJ6_bitCount_0f7a4 17 = .ok (.iushr, 1) := by decide +kernel
theorem dJ6_bitCount_0f7a4_18 : decode cJ6_bitCount_0f7a4 18 = .ok (.ldc_w 266, 3) := by decide +kernel
theorem dJ6_bitCount_0f7a4_21 : decode cJ6_bitCount_0f7a4 21 = .ok (.iand, 1) := by decide +kernel
theorem dJ6_bitCount_0f7a4_22 : decode cJ6_bitCount_0f7a4 22 = .ok (.iadd, 1) := by decide +kernel
theorem dJ6_bitCount_0f7a4_23 : decode cJ6_bitCount_0f7a4 23 = .ok (.istore_n 0, 1) := by decide +kernel
theorem dJ6_bitCount_0f7a4_24 : decode cJ6_bitCount_0f7a4 24 = .ok (.iload_n 0, 1) := by decide +kernel
theorem dJ6_bitCount_0f7a4_25 : decode cJ6_bitCount_0f7a4 25 = .ok (.iload_n 0, 1) := by decide +kernel
theorem dJ6_bitCount_0f7a4_26 : decode cJ6_bitCount_0f7a4 26 = .ok (.iconst 4, 1) := by decide +kernel
theorem dJ6_bitCount_0f7a4_27 : decode cJ6_bitCount_0f7a4 27 = .ok (.iushr, 1) := by decide +kernel
theorem dJ6_bitCount_0f7a4_28 : decode cJ6_bitCount_0f7a4 28 = .ok (.iadd, 1) := by decide +kernel
theorem dJ6_bitCount_0f7a4_29 : decode cJ6_bitCount_0f7a4 29 = .ok (.ldc_w 267, 3) := by decide +kernel
theorem dJ6_bitCount_0f7a4_32 : decode cJ6_bitCount_0f7a4 32 = .ok (.iand, 1) := by decide +kernel
theorem dJ6_bitCount_0f7a4_33 : decode cJ6_bitCount_0f7a4 33 = .ok (.istore_n 0, 1) := by decide +kernel
theorem dJ6_bitCount_0f7a4_34 : decode cJ6_bitCount_0f7a4 34 = .ok (.iload_n 0, 1) := by decide +kernel
theorem dJ6_bitCount_0f7a4_35 : decode cJ6_bitCount_0f7a4 35 = .ok (.iload_n 0, 1) := by decide +kernel
theorem dJ6_bitCount_0f7a4_36 : decode cJ6_bitCount_0f7a4 36 = .ok (.bipush 8, 2) := by decide +kernel
theorem dJ6_bitCount_0f7a4_38 : decode cJ6_bitCount_0f7a4 38 = .ok (.iushr, 1) := by decide +kernel
theorem dJ6_bitCount_0f7a4_39 : decode cJ6_bitCount_0f7a4 39 = .ok (.iadd, 1) := by decide +kernel
theorem dJ6_bitCount_0f7a4_40 : decode cJ6_bitCount_0f7a4 40 = .ok (.istore_n 0, 1) := by decide +kernel
theorem dJ6_bitCount_0f7a4_41 : decode cJ6_bitCount_0f7a4 41 = .ok (.iload_n 0, 1) := by decide +kernel
theorem dJ6_bitCount_0f7a4_42 : decode cJ6_bitCount_0f7a4 42 = .ok (.iload_n 0, 1) := by decide +kernel
theorem dJ6_bitCount_0f7a4_43 : decode cJ6_bitCount_0f7a4 43 = .ok (.bipush 16, 2) := by decide +kernel
theorem dJ6_bitCount_0f7a4_45 : decode cJ6_bitCount_0f7a4 45 = .ok (.iushr, 1) := by decide +kernel
theorem dJ6_bitCount_0f7a4_46 : decode cJ6_bitCount_0f7a4 46 = .ok (.iadd, 1) := by decide +kernel
theorem dJ6_bitCount_0f7a4_47 : decode cJ6_bitCount_0f7a4 47 = .ok (.istore_n 0, 1) := by decide +kernel
theorem dJ6_bitCount_0f7a4_48 : decode cJ6_bitCount_0f7a4 48 = .ok (.iload_n 0, 1) := by decide +kernel
theorem dJ6_bitCount_0f7a4_49 : decode cJ6_bitCount_0f7a4 49 = .ok (.bipush 63, 2) := by decide +kernel
theorem dJ6_bitCount_0f7a4_51 : decode cJ6_bitCount_0f7a4 51 = .ok (.iand, 1) := by decide +kernel
theorem dJ6_bitCount_0f7a4_52 : decode cJ6_bitCount_0f7a4 52 = .ok (.ireturn, 1) := by decide +kernel
theorem dJ13_bitCount_95d88_0 : decode cJ13_bitCount_95d88 0 = .ok (.lload_n 0, 1) := by decide +kernel
theorem dJ13_bitCount_95d88_1 : decode cJ13_bitCount_95d88 1 = .ok (.lload_n 0, 1) := by decide +kernel
theorem dJ13_bitCount_95d88_2 : decode cJ13_bitCount_95d88 2 = .ok (.iconst 1, 1) := by decide +kernel
theorem dJ13_bitCount_95d88_3 : decode cJ13_bitCount_95d88 3 = .ok (.lushr, 1) := by decide +kernel
theorem dJ13_bitCount_95d88_4 : decode cJ13_bitCount_95d88 4 = .ok (.ldc2_w 314, 3) := by decide +kernel
theorem dJ13_bitCount_95d88_7 : decode cJ13_bitCount_95d88 7 = .ok (.land, 1) := by decide +kernel
theorem dJ13_bitCount_95d88_8 : decode cJ13_bitCount_95d88 8 = .ok (.lsub, 1) := by decide +kernel
theorem dJ13_bitCount_95d88_9 : decode cJ13_bitCount_95d88 9 = .ok (.lstore_n 0, 1) := by decide +kernel
theorem dJ13_bitCount_95d88_10 : decode cJ13_bitCount_95d88 10 = .ok (.lload_n 0, 1) := by decide +kernel
theorem dJ13_bitCount_95d88_11 : decode cJ13_bitCount_95d88 11 = .ok (.ldc2_w 316, 3) := by decide +kernel
theorem dJ13_bitCount_95d88_14 : decode cJ13_bitCount_95d88 14 = .ok (.land, 1) := by decide +kernel
theorem dJ13_bitCount_95d88_15 : decode cJ13_bitCount_95d88 15 = .ok (.lload_n 0, 1) := by decide +kernel
theorem dJ13_bitCount_95d88_16 : decode cJ13_bitCount_95d88 16 = .ok (.iconst 2, 1) := by decide +kernel
theorem dJ13_bitCount_95d88_17 : decode cJ13_bitCount_95d88 17 = .ok (.lushr, 1) := by decide +kernel
theorem dJ13_bitCount_95d88_18 : decode cJ13_bitCount_95d88 18 = .ok (.ldc2_w 316, 3) := by decide +kernel
theorem dJ13_bitCount_95d88_21 : decode cJ13_bitCount_95d88 21 = .ok (.land, 1) := by decide +kernel
theorem dJ13_bitCount_95d88_22 : decode cJ13_bitCount_95d88 22 = .ok (.ladd, 1) := by decide +kernel
theorem dJ13_bitCount_95d88_23 : decode cJ13_bitCount_95d88 23 = .ok (.lstore_n 0, 1) := by decide +kernel
theorem dJ13_bitCount_95d88_24 : decode cJ13_bitCount_95d88 24 = .ok (.lload_n 0, 1) := by decide +kernel
theorem dJ13_bitCount_95d88_25 : decode cJ13_bitCount_95d88 25 = .ok (.lload_n 0, 1) := by decide +kernel
theorem dJ13_bitCount_95d88_26 : decode cJ13_bitCount_95d88 26 = .ok (.iconst 4, 1) := by decide +kernel
theorem dJ13_bitCount_95d88_27 : decode cJ13_bitCount_95d88 27 = .ok (.lushr, 1) := by decide +kernel
theorem dJ13_bitCount_95d88_28 : decode cJ13_bitCount_95d88 28 = .ok (.ladd, 1) := by decide +kernel
theorem dJ13_bitCount_95d88_29 : decode cJ13_bitCount_95d88 29 = .ok (.ldc2_w 318, 3) := by decide +kernel
theorem dJ13_bitCount_95d88_32 : decode cJ13_bitCount_95d88 32 = .ok (.land, 1) := by decide +kernel
theorem dJ13_bitCount_95d88_33 : decode cJ13_bitCount_95d88 33 = .ok (.lstore_n 0, 1) := by decide +kernel
theorem dJ13_bitCount_95d88_34 : decode cJ13_bitCount_95d88 34 = .ok (.lload_n 0, 1) := by decide +kernel
theorem dJ13_bitCount_95d88_35 : decode cJ13_bitCount_95d88 35 = .ok (.lload_n 0, 1) := by decide +kernel
theorem dJ13_bitCount_95d88_36 : decode cJ13_bitCount_95d88 36 = .ok (.bipush 8, 2) := by decide +kernel
theorem dJ13_bitCount_95d88_38 : decode cJ13_bitCount_95d88 38 = .ok (.lushr, 1) := by decide +kernel
theorem dJ13_bitCount_95d88_39 : decode cJ13_bitCount_95d88 39 = .ok (.ladd, 1) := by decide +kernel
theorem dJ13_bitCount_95d88_40 : decode cJ13_bitCount_95d88 40 = .ok (.lstore_n 0, 1) := by decide +kernel
theorem dJ13_bitCount_95d88_41 : decode cJ13_bitCount_95d88 41 = .ok (.lload_n 0, 1) := by decide +kernel
theorem dJ13_bitCount_95d88_42 : decode cJ13_bitCount_95d88 42 = .ok (.lload_n 0, 1) := by decide +kernel
theorem dJ13_bitCount_95d88_43 : decode cJ13_bitCount_95d88 43 = .ok (.bipush 16, 2) := by decide +kernel
theorem dJ13_bitCount_95d88_45 : decode cJ13_bitCount_95d88 45 = .ok (.lushr, 1) := by decide +kernel
theorem dJ13_bitCount_95d88_46 : decode cJ13_bitCount_95d88 46 = .ok (.ladd, 1) := by decide +kernel
theorem dJ13_bitCount_95d88_47 : decode cJ13_bitCount_95d88 47 = .ok (.lstore_n 0, 1) := by decide +kernel
theorem dJ13_bitCount_95d88_48 : decode cJ13_bitCount_95d88 48 = .ok (.lload_n 0, 1) := by decide +kernel
theorem dJ13_bitCount_95d88_49 : decode cJ13_bitCount_95d88 49 = .ok (.lload_n 0, 1) := by decide +kernel
theorem dJ13_bitCount_95d88_50 : decode cJ13_bitCount_95d88 50 = .ok (.bipush 32, 2) := by decide +kernel
theorem dJ13_bitCount_95d88_52 : decode cJ13_bitCount_95d88 52 = .ok (.lushr, 1) := by decide +kernel
theorem dJ13_bitCount_95d88_53 : decode cJ13_bitCount_95d88 53 = .ok (.ladd, 1) := by decide +kernel
theorem dJ13_bitCount_95d88_54 : decode cJ13_bitCount_95d88 54 = .ok (.lstore_n 0, 1) := by decide +kernel
theorem dJ13_bitCount_95d88_55 : decode cJ13_bitCount_95d88 55 = .ok (.lload_n 0, 1) := by decide +kernel
theorem dJ13_bitCount_95d88_56 : decode cJ13_bitCount_95d88 56 = .ok (.l2i, 1) := by decide +kernel
theorem dJ13_bitCount_95d88_57 : decode cJ13_bitCount_95d88 57 = .ok (.bipush 127, 2) := by decide +kernel
theorem dJ13_bitCount_95d88_59 : decode cJ13_bitCount_95d88 59 = .ok (.iand, 1) := by decide +kernel
theorem dJ13_bitCount_95d88_60 : decode cJ13_bitCount_95d88 60 = .ok (.ireturn, 1) := by decide +kernel

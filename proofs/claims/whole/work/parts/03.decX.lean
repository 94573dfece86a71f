theorem dX3_init_0 : decode cX3_init 0 = .ok (.aload_n 0, 1) := by decide +kernel
theorem dX3_init_1 : decode cX3_init 1 = .ok (.invokespecial 3, 3) := by decide +kernel
theorem dX3_init_4 : decode cX3_init 4 = .ok (.aload_n 0, 1) := by decide +kernel
theorem dX3_init_5 : decode cX3_init 5 = .ok (.iconst 4, 1) := by decide +kernel
theorem dX3_init_6 : decode cX3_init 6 = .ok (.anewarray 11, 3) := by decide +kernel
theorem dX3_init_9 : decode cX3_init 9 = .ok (.putfield 13, 3) := by decide +kernel
theorem dX3_init_12 : decode cX3_init 12 = .ok (.aload_n 0, 1) := by decide +kernel
theorem dX3_init_13 : decode cX3_init 13 = .ok (.new 17, 3) := by decide +kernel
theorem dX3_init_16 : decode cX3_init 16 = .ok (.dup, 1) := by decide +kernel
theorem dX3_init_17 : decode cX3_init 17 = .ok (.invokespecial 19, 3) := by decide +kernel
theorem dX3_init_20 : decode cX3_init 20 = .ok (.putfield 20, 3) := by decide +kernel
theorem dX3_init_23 : decode cX3_init 23 = .ok (.aload_n 0, 1) := by decide +kernel
theorem dX3_init_24 : decode cX3_init 24 = .ok (.new 17, 3) := by decide +kernel
theorem dX3_init_27 : decode cX3_init 27 = .ok (.dup, 1) := by decide +kernel
theorem dX3_init_28 : decode cX3_init 28 = .ok (.invokespecial 19, 3) := by decide +kernel
theorem dX3_init_31 : decode cX3_init 31 = .ok (.putfield 24, 3) := by decide +kernel
theorem dX3_init_34 : decode cX3_init 34 = .ok (.aload_n 0, 1) := by decide +kernel
theorem dX3_init_35 : decode cX3_init 35 = .ok (.new 27, 3) := by decide +kernel
theorem dX3_init_38 : decode cX3_init 38 = .ok (.dup, 1) := by decide +kernel
theorem dX3_init_39 : decode cX3_init 39 = .ok (.invokespecial 29, 3) := by decide +kernel
theorem dX3_init_42 : decode cX3_init 42 = .ok (.putfield 30, 3) := by decide +kernel
theorem dX3_init_45 : decode cX3_init 45 = .ok (.aload_n 0, 1) := by decide +kernel
theorem dX3_init_46 : decode cX3_init 46 = .ok (.bipush 17, 2) := by decide +kernel
theorem dX3_init_48 : decode cX3_init 48 = .ok (.newarray .long, 2) := by decide +kernel
theorem dX3_init_50 : decode cX3_init 50 = .ok (.putfield 34, 3) := by decide +kernel
theorem dX3_init_53 : decode cX3_init 53 = .ok (.aload_n 0, 1) := by decide +kernel
theorem dX3_init_54 : decode cX3_init 54 = .ok (.iconst 0, 1) := by decide +kernel
theorem dX3_init_55 : decode cX3_init 55 = .ok (.putfield 38, 3) := by decide +kernel
theorem dX3_init_58 : decode cX3_init 58 = .ok (.aload_n 0, 1) := by decide +kernel
theorem dX3_init_59 : decode cX3_init 59 = .ok (.iconst 0, 1) := by decide +kernel
theorem dX3_init_60 : decode cX3_init 60 = .ok (.putfield 42, 3) := by decide +kernel
theorem dX3_init_63 : decode cX3_init 63 = .ok (.iconst 0, 1) := by decide +kernel
theorem dX3_init_64 : decode cX3_init 64 = .ok (.istore_n 1, 1) := by decide +kernel
theorem dX3_init_65 : decode cX3_init 65 = .ok (.iload_n 1, 1) := by decide +kernel
theorem dX3_init_66 : decode cX3_init 66 = .ok (.iconst 4, 1) := by decide +kernel
theorem dX3_init_67 : decode cX3_init 67 = .ok (.if_icmp .ge 22, 3) := by decide +kernel
theorem dX3_init_70 : decode cX3_init 70 = .ok (.aload_n 0, 1) := by decide +kernel
theorem dX3_init_71 : decode cX3_init 71 = .ok (.getfield 13, 3) := by decide +kernel
theorem dX3_init_74 : decode cX3_init 74 = .ok (.iload_n 1, 1) := by decide +kernel
theorem dX3_init_75 : decode cX3_init 75 = .ok (.new 11, 3) := by decide +kernel
theorem dX3_init_78 : decode cX3_init 78 = .ok (.dup, 1) := by decide +kernel
theorem dX3_init_79 : decode cX3_init 79 = .ok (.invokespecial 45, 3) := by decide +kernel
theorem dX3_init_82 : decode cX3_init 82 = .ok (.aastore, 1) := by decide +kernel
theorem dX3_init_83 : decode cX3_init 83 = .ok (.iinc 1 1, 3) := by decide +kernel
theorem dX3_init_86 : decode cX3_init 86 = .ok (.goto (-21), 3) := by decide +kernel
theorem dX3_init_89 : decode cX3_init 89 = .ok (.return_, 1) := by decide +kernel
theorem dX3_wall_0 : decode cX3_wall 0 = .ok (.aload_n 0, 1) := by decide +kernel
theorem dX3_wall_1 : decode cX3_wall 1 = .ok (.iconst 0, 1) := by decide +kernel
theorem dX3_wall_2 : decode cX3_wall 2 = .ok (.putfield 42, 3) := by decide +kernel
theorem dX3_wall_5 : decode cX3_wall 5 = .ok (.iload_n 1, 1) := by decide +kernel
theorem dX3_wall_6 : decode cX3_wall 6 = .ok (.invokestatic 46, 3) := by decide +kernel
theorem dX3_wall_9 : decode cX3_wall 9 = .ok (.ifCond .ne 5, 3) := by decide +kernel
theorem dX3_wall_12 : decode cX3_wall 12 = .ok (.iconst (-1), 1) := by decide +kernel
theorem dX3_wall_13 : decode cX3_wall 13 = .ok (.ireturn, 1) := by decide +kernel
theorem dX3_wall_14 : decode cX3_wall 14 = .ok (.iload_n 2, 1) := by decide +kernel
theorem dX3_wall_15 : decode cX3_wall 15 = .ok (.invokestatic 50, 3) := by decide +kernel
theorem dX3_wall_18 : decode cX3_wall 18 = .ok (.ifCond .ne 6, 3) := by decide +kernel
theorem dX3_wall_21 : decode cX3_wall 21 = .ok (.bipush (-2), 2) := by decide +kernel
theorem dX3_wall_23 : decode cX3_wall 23 = .ok (.ireturn, 1) := by decide +kernel
theorem dX3_wall_24 : decode cX3_wall 24 = .ok (.aload_n 0, 1) := by decide +kernel
theorem dX3_wall_25 : decode cX3_wall 25 = .ok (.getfield 13, 3) := by decide +kernel
theorem dX3_wall_28 : decode cX3_wall 28 = .ok (.iload_n 1, 1) := by decide +kernel
theorem dX3_wall_29 : decode cX3_wall 29 = .ok (.aaload, 1) := by decide +kernel
theorem dX3_wall_30 : decode cX3_wall 30 = .ok (.astore 5, 2) := by decide +kernel
theorem dX3_wall_32 : decode cX3_wall 32 = .ok (.aload 5, 2) := by decide +kernel
theorem dX3_wall_34 : decode cX3_wall 34 = .ok (.iload_n 2, 1) := by decide +kernel
theorem dX3_wall_35 : decode cX3_wall 35 = .ok (.iload_n 3, 1) := by decide +kernel
theorem dX3_wall_36 : decode cX3_wall 36 = .ok (.iload 4, 2) := by decide +kernel
theorem dX3_wall_38 : decode cX3_wall 38 = .ok (.invokevirtual 53, 3) := by decide +kernel
theorem dX3_wall_41 : decode cX3_wall 41 = .ok (.istore 6, 2) := by decide +kernel
theorem dX3_wall_43 : decode cX3_wall 43 = .ok (.iload 6, 2) := by decide +kernel
theorem dX3_wall_45 : decode cX3_wall 45 = .ok (.ifCond .eq 10, 3) := by decide +kernel
theorem dX3_wall_48 : decode cX3_wall 48 = .ok (.aload_n 0, 1) := by decide +kernel
theorem dX3_wall_49 : decode cX3_wall 49 = .ok (.iload 6, 2) := by decide +kernel
theorem dX3_wall_51 : decode cX3_wall 51 = .ok (.invokevirtual 57, 3) := by decide +kernel
theorem dX3_wall_54 : decode cX3_wall 54 = .ok (.ireturn, 1) := by decide +kernel
theorem dX3_wall_55 : decode cX3_wall 55 = .ok (.aload_n 0, 1) := by decide +kernel
theorem dX3_wall_56 : decode cX3_wall 56 = .ok (.getfield 24, 3) := by decide +kernel
theorem dX3_wall_59 : decode cX3_wall 59 = .ok (.aload 5, 2) := by decide +kernel
theorem dX3_wall_61 : decode cX3_wall 61 = .ok (.iload_n 3, 1) := by decide +kernel
theorem dX3_wall_62 : decode cX3_wall 62 = .ok (.iload 4, 2) := by decide +kernel
theorem dX3_wall_64 : decode cX3_wall 64 = .ok (.invokevirtual 61, 3) := by decide +kernel
theorem dX3_wall_67 : decode cX3_wall 67 = .ok (.istore 7, 2) := by decide +kernel
theorem dX3_wall_69 : decode cX3_wall 69 = .ok (.iload 7, 2) := by decide +kernel
theorem dX3_wall_71 : decode cX3_wall 71 = .ok (.bipush (-9), 2) := by decide +kernel
theorem dX3_wall_73 : decode cX3_wall 73 = .ok (.if_icmp .eq 9, 3) := by decide +kernel
theorem dX3_wall_76 : decode cX3_wall 76 = .ok (.bipush (-100), 2) := by decide +kernel
theorem dX3_wall_78 : decode cX3_wall 78 = .ok (.iload 7, 2) := by decide +kernel
theorem dX3_wall_80 : decode cX3_wall 80 = .ok (.isub, 1) := by decide +kernel
theorem dX3_wall_81 : decode cX3_wall 81 = .ok (.ireturn, 1) := by decide +kernel
theorem dX3_wall_82 : decode cX3_wall 82 = .ok (.aload_n 0, 1) := by decide +kernel
theorem dX3_wall_83 : decode cX3_wall 83 = .ok (.getfield 20, 3) := by decide +kernel
theorem dX3_wall_86 : decode cX3_wall 86 = .ok (.aload_n 0, 1) := by decide +kernel
theorem dX3_wall_87 : decode cX3_wall 87 = .ok (.getfield 24, 3) := by decide +kernel
theorem dX3_wall_90 : decode cX3_wall 90 = .ok (.invokevirtual 65, 3) := by decide +kernel
theorem dX3_wall_93 : decode cX3_wall 93 = .ok (.aload_n 0, 1) := by decide +kernel
theorem dX3_wall_94 : decode cX3_wall 94 = .ok (.getfield 30, 3) := by decide +kernel
theorem dX3_wall_97 : decode cX3_wall 97 = .ok (.iconst 0, 1) := by decide +kernel
theorem dX3_wall_98 : decode cX3_wall 98 = .ok (.putfield 69, 3) := by decide +kernel
theorem dX3_wall_101 : decode cX3_wall 101 = .ok (.aload_n 0, 1) := by decide +kernel
theorem dX3_wall_102 : decode cX3_wall 102 = .ok (.getfield 20, 3) := by decide +kernel
theorem dX3_wall_105 : decode cX3_wall 105 = .ok (.getfield 72, 3) := by decide +kernel
theorem dX3_wall_108 : decode cX3_wall 108 = .ok (.ireturn, 1) := by decide +kernel
theorem dX3_ofModule_0 : decode cX3_ofModule 0 = .ok (.aload_n 0, 1) := by decide +kernel
theorem dX3_ofModule_1 : decode cX3_ofModule 1 = .ok (.getfield 20, 3) := by decide +kernel
theorem dX3_ofModule_4 : decode cX3_ofModule 4 = .ok (.iload_n 1, 1) := by decide +kernel
theorem dX3_ofModule_5 : decode cX3_ofModule 5 = .ok (.invokevirtual 75, 3) := by decide +kernel
theorem dX3_ofModule_8 : decode cX3_ofModule 8 = .ok (.ifCond .ne 5, 3) := by decide +kernel
theorem dX3_ofModule_11 : decode cX3_ofModule 11 = .ok (.iconst (-1), 1) := by decide +kernel
theorem dX3_ofModule_12 : decode cX3_ofModule 12 = .ok (.ireturn, 1) := by decide +kernel
theorem dX3_ofModule_13 : decode cX3_ofModule 13 = .ok (.iload_n 2, 1) := by decide +kernel
theorem dX3_ofModule_14 : decode cX3_ofModule 14 = .ok (.tableswitch 91 0 4 #[34, 44, 54, 64, 82], 34) := by decide +kernel
theorem dX3_ofModule_48 : decode cX3_ofModule 48 = .ok (.aload_n 0, 1) := by decide +kernel
theorem dX3_ofModule_49 : decode cX3_ofModule 49 = .ok (.getfield 20, 3) := by decide +kernel
theorem dX3_ofModule_52 : decode cX3_ofModule 52 = .ok (.getfield 78, 3) := by decide +kernel
theorem dX3_ofModule_55 : decode cX3_ofModule 55 = .ok (.iload_n 1, 1) := by decide +kernel
theorem dX3_ofModule_56 : decode cX3_ofModule 56 = .ok (.iaload, 1) := by decide +kernel
theorem dX3_ofModule_57 : decode cX3_ofModule 57 = .ok (.ireturn, 1) := by decide +kernel
theorem dX3_ofModule_58 : decode cX3_ofModule 58 = .ok (.aload_n 0, 1) := by decide +kernel
theorem dX3_ofModule_59 : decode cX3_ofModule 59 = .ok (.getfield 20, 3) := by decide +kernel
theorem dX3_ofModule_62 : decode cX3_ofModule 62 = .ok (.getfield 82, 3) := by decide +kernel
theorem dX3_ofModule_65 : decode cX3_ofModule 65 = .ok (.iload_n 1, 1) := by decide +kernel
theorem dX3_ofModule_66 : decode cX3_ofModule 66 = .ok (.iaload, 1) := by decide +kernel
theorem dX3_ofModule_67 : decode cX3_ofModule 67 = .ok (.ireturn, 1) := by decide +kernel
theorem dX3_ofModule_68 : decode cX3_ofModule 68 = .ok (.aload_n 0, 1) := by decide +kernel
theorem dX3_ofModule_69 : decode cX3_ofModule 69 = .ok (.getfield 20, 3) := by decide +kernel
theorem dX3_ofModule_72 : decode cX3_ofModule 72 = .ok (.getfield 85, 3) := by decide +kernel
theorem dX3_ofModule_75 : decode cX3_ofModule 75 = .ok (.iload_n 1, 1) := by decide +kernel
theorem dX3_ofModule_76 : decode cX3_ofModule 76 = .ok (.iaload, 1) := by decide +kernel
theorem dX3_ofModule_77 : decode cX3_ofModule 77 = .ok (.ireturn, 1) := by decide +kernel
theorem dX3_ofModule_78 : decode cX3_ofModule 78 = .ok (.aload_n 0, 1) := by decide +kernel
theorem dX3_ofModule_79 : decode cX3_ofModule 79 = .ok (.getfield 20, 3) := by decide +kernel
theorem dX3_ofModule_82 : decode cX3_ofModule 82 = .ok (.getfield 88, 3) := by decide +kernel
theorem dX3_ofModule_85 : decode cX3_ofModule 85 = .ok (.iload_n 1, 1) := by decide +kernel
theorem dX3_ofModule_86 : decode cX3_ofModule 86 = .ok (.baload, 1) := by decide +kernel
theorem dX3_ofModule_87 : decode cX3_ofModule 87 = .ok (.ifCond .eq 7, 3) := by decide +kernel
theorem dX3_ofModule_90 : decode cX3_ofModule 90 = .ok (.iconst 1, 1) := by decide +kernel
theorem dX3_ofModule_91 : decode cX3_ofModule 91 = .ok (.goto 4, 3) := by decide +kernel
theorem dX3_ofModule_94 : decode cX3_ofModule 94 = .ok (.iconst 0, 1) := by decide +kernel
theorem dX3_ofModule_95 : decode cX3_ofModule 95 = .ok (.ireturn, 1) := by decide +kernel
theorem dX3_ofModule_96 : decode cX3_ofModule 96 = .ok (.aload_n 0, 1) := by decide +kernel
theorem dX3_ofModule_97 : decode cX3_ofModule 97 = .ok (.getfield 20, 3) := by decide +kernel
theorem dX3_ofModule_100 : decode cX3_ofModule 100 = .ok (.iload_n 1, 1) := by decide +kernel
theorem dX3_ofModule_101 : decode cX3_ofModule 101 = .ok (.invokevirtual 92, 3) := by decide +kernel
theorem dX3_ofModule_104 : decode cX3_ofModule 104 = .ok (.ireturn, 1) := by decide +kernel
theorem dX3_ofModule_105 : decode cX3_ofModule 105 = .ok (.bipush (-2), 2) := by decide +kernel
theorem dX3_ofModule_107 : decode cX3_ofModule 107 = .ok (.ireturn, 1) := by decide +kernel
theorem dX3_ofLamp_0 : decode cX3_ofLamp 0 = .ok (.aload_n 0, 1) := by decide +kernel
theorem dX3_ofLamp_1 : decode cX3_ofLamp 1 = .ok (.getfield 20, 3) := by decide +kernel
theorem dX3_ofLamp_4 : decode cX3_ofLamp 4 = .ok (.iload_n 1, 1) := by decide +kernel
theorem dX3_ofLamp_5 : decode cX3_ofLamp 5 = .ok (.invokevirtual 95, 3) := by decide +kernel
theorem dX3_ofLamp_8 : decode cX3_ofLamp 8 = .ok (.ifCond .ne 5, 3) := by decide +kernel
theorem dX3_ofLamp_11 : decode cX3_ofLamp 11 = .ok (.iconst (-1), 1) := by decide +kernel
theorem dX3_ofLamp_12 : decode cX3_ofLamp 12 = .ok (.ireturn, 1) := by decide +kernel
theorem dX3_ofLamp_13 : decode cX3_ofLamp 13 = .ok (.iload_n 2, 1) := by decide +kernel
theorem dX3_ofLamp_14 : decode cX3_ofLamp 14 = .ok (.tableswitch 113 0 6 #[42, 52, 62, 71, 83, 95, 104], 42) := by decide +kernel
theorem dX3_ofLamp_56 : decode cX3_ofLamp 56 = .ok (.aload_n 0, 1) := by decide +kernel
theorem dX3_ofLamp_57 : decode cX3_ofLamp 57 = .ok (.getfield 20, 3) := by decide +kernel
theorem dX3_ofLamp_60 : decode cX3_ofLamp 60 = .ok (.getfield 98, 3) := by decide +kernel
theorem dX3_ofLamp_63 : decode cX3_ofLamp 63 = .ok (.iload_n 1, 1) := by decide +kernel
theorem dX3_ofLamp_64 : decode cX3_ofLamp 64 = .ok (.iaload, 1) := by decide +kernel
theorem dX3_ofLamp_65 : decode cX3_ofLamp 65 = .ok (.ireturn, 1) := by decide +kernel
theorem dX3_ofLamp_66 : decode cX3_ofLamp 66 = .ok (.aload_n 0, 1) := by decide +kernel
theorem dX3_ofLamp_67 : decode cX3_ofLamp 67 = .ok (.getfield 20, 3) := by decide +kernel
theorem dX3_ofLamp_70 : decode cX3_ofLamp 70 = .ok (.getfield 101, 3) := by decide +kernel
theorem dX3_ofLamp_73 : decode cX3_ofLamp 73 = .ok (.iload_n 1, 1) := by decide +kernel
theorem dX3_ofLamp_74 : decode cX3_ofLamp 74 = .ok (.iaload, 1) := by decide +kernel
theorem dX3_ofLamp_75 : decode cX3_ofLamp 75 = .ok (.ireturn, 1) := by decide +kernel
theorem dX3_ofLamp_76 : decode cX3_ofLamp 76 = .ok (.aload_n 0, 1) := by decide +kernel
theorem dX3_ofLamp_77 : decode cX3_ofLamp 77 = .ok (.getfield 20, 3) := by decide +kernel
theorem dX3_ofLamp_80 : decode cX3_ofLamp 80 = .ok (.iload_n 1, 1) := by decide +kernel
theorem dX3_ofLamp_81 : decode cX3_ofLamp 81 = .ok (.invokevirtual 104, 3) := by decide +kernel
theorem dX3_ofLamp_84 : decode cX3_ofLamp 84 = .ok (.ireturn, 1) := by decide +kernel
theorem dX3_ofLamp_85 : decode cX3_ofLamp 85 = .ok (.aload_n 0, 1) := by decide +kernel
theorem dX3_ofLamp_86 : decode cX3_ofLamp 86 = .ok (.getfield 20, 3) := by decide +kernel
theorem dX3_ofLamp_89 : decode cX3_ofLamp 89 = .ok (.iload_n 1, 1) := by decide +kernel
theorem dX3_ofLamp_90 : decode cX3_ofLamp 90 = .ok (.invokevirtual 107, 3) := by decide +kernel
theorem dX3_ofLamp_93 : decode cX3_ofLamp 93 = .ok (.invokestatic 110, 3) := by decide +kernel
theorem dX3_ofLamp_96 : decode cX3_ofLamp 96 = .ok (.ireturn, 1) := by decide +kernel
theorem dX3_ofLamp_97 : decode cX3_ofLamp 97 = .ok (.aload_n 0, 1) := by decide +kernel
theorem dX3_ofLamp_98 : decode cX3_ofLamp 98 = .ok (.getfield 20, 3) := by decide +kernel
theorem dX3_ofLamp_101 : decode cX3_ofLamp 101 = .ok (.iload_n 1, 1) := by decide +kernel
theorem dX3_ofLamp_102 : decode cX3_ofLamp 102 = .ok (.invokevirtual 107, 3) := by decide +kernel
theorem dX3_ofLamp_105 : decode cX3_ofLamp 105 = .ok (.invokestatic 113, 3) := by decide +kernel
theorem dX3_ofLamp_108 : decode cX3_ofLamp 108 = .ok (.ireturn, 1) := by decide +kernel
theorem dX3_ofLamp_109 : decode cX3_ofLamp 109 = .ok (.aload_n 0, 1) := by decide +kernel
theorem dX3_ofLamp_110 : decode cX3_ofLamp 110 = .ok (.getfield 20, 3) := by decide +kernel
theorem dX3_ofLamp_113 : decode cX3_ofLamp 113 = .ok (.iload_n 1, 1) := by decide +kernel
theorem dX3_ofLamp_114 : decode cX3_ofLamp 114 = .ok (.invokevirtual 107, 3) := by decide +kernel
theorem dX3_ofLamp_117 : decode cX3_ofLamp 117 = .ok (.ireturn, 1) := by decide +kernel
theorem dX3_ofLamp_118 : decode cX3_ofLamp 118 = .ok (.aload_n 0, 1) := by decide +kernel
theorem dX3_ofLamp_119 : decode cX3_ofLamp 119 = .ok (.getfield 20, 3) := by decide +kernel
theorem dX3_ofLamp_122 : decode cX3_ofLamp 122 = .ok (.iload_n 1, 1) := by decide +kernel
theorem dX3_ofLamp_123 : decode cX3_ofLamp 123 = .ok (.invokevirtual 116, 3) := by decide +kernel
theorem dX3_ofLamp_126 : decode cX3_ofLamp 126 = .ok (.ireturn, 1) := by decide +kernel
theorem dX3_ofLamp_127 : decode cX3_ofLamp 127 = .ok (.bipush (-2), 2) := by decide +kernel
theorem dX3_ofLamp_129 : decode cX3_ofLamp 129 = .ok (.ireturn, 1) := by decide +kernel
theorem dX3_level_0 : decode cX3_level 0 = .ok (.aload_n 0, 1) := by decide +kernel
theorem dX3_level_1 : decode cX3_level 1 = .ok (.getfield 20, 3) := by decide +kernel
theorem dX3_level_4 : decode cX3_level 4 = .ok (.iload_n 1, 1) := by decide +kernel
theorem dX3_level_5 : decode cX3_level 5 = .ok (.invokevirtual 95, 3) := by decide +kernel
theorem dX3_level_8 : decode cX3_level 8 = .ok (.ifCond .ne 5, 3) := by decide +kernel
theorem dX3_level_11 : decode cX3_level 11 = .ok (.iconst (-1), 1) := by decide +kernel
theorem dX3_level_12 : decode cX3_level 12 = .ok (.ireturn, 1) := by decide +kernel
theorem dX3_level_13 : decode cX3_level 13 = .ok (.iload_n 2, 1) := by decide +kernel
theorem dX3_level_14 : decode cX3_level 14 = .ok (.invokestatic 119, 3) := by decide +kernel
theorem dX3_level_17 : decode cX3_level 17 = .ok (.ifCond .ne 6, 3) := by decide +kernel
theorem dX3_level_20 : decode cX3_level 20 = .ok (.bipush (-2), 2) := by decide +kernel
theorem dX3_level_22 : decode cX3_level 22 = .ok (.ireturn, 1) := by decide +kernel
theorem dX3_level_23 : decode cX3_level 23 = .ok (.aload_n 0, 1) := by decide +kernel
theorem dX3_level_24 : decode cX3_level 24 = .ok (.getfield 20, 3) := by decide +kernel
theorem dX3_level_27 : decode cX3_level 27 = .ok (.getfield 101, 3) := by decide +kernel
theorem dX3_level_30 : decode cX3_level 30 = .ok (.iload_n 1, 1) := by decide +kernel
theorem dX3_level_31 : decode cX3_level 31 = .ok (.iaload, 1) := by decide +kernel
theorem dX3_level_32 : decode cX3_level 32 = .ok (.istore_n 3, 1) := by decide +kernel
theorem dX3_level_33 : decode cX3_level 33 = .ok (.aload_n 0, 1) := by decide +kernel
theorem dX3_level_34 : decode cX3_level 34 = .ok (.getfield 20, 3) := by decide +kernel
theorem dX3_level_37 : decode cX3_level 37 = .ok (.getfield 101, 3) := by decide +kernel
theorem dX3_level_40 : decode cX3_level 40 = .ok (.iload_n 1, 1) := by decide +kernel
theorem dX3_level_41 : decode cX3_level 41 = .ok (.iload_n 2, 1) := by decide +kernel
theorem dX3_level_42 : decode cX3_level 42 = .ok (.iastore, 1) := by decide +kernel
theorem dX3_level_43 : decode cX3_level 43 = .ok (.iload_n 3, 1) := by decide +kernel
theorem dX3_level_44 : decode cX3_level 44 = .ok (.ireturn, 1) := by decide +kernel
theorem dX3_die_0 : decode cX3_die 0 = .ok (.aload_n 0, 1) := by decide +kernel
theorem dX3_die_1 : decode cX3_die 1 = .ok (.getfield 20, 3) := by decide +kernel
theorem dX3_die_4 : decode cX3_die 4 = .ok (.iload_n 1, 1) := by decide +kernel
theorem dX3_die_5 : decode cX3_die 5 = .ok (.invokevirtual 75, 3) := by decide +kernel
theorem dX3_die_8 : decode cX3_die 8 = .ok (.ifCond .ne 5, 3) := by decide +kernel
theorem dX3_die_11 : decode cX3_die 11 = .ok (.iconst (-1), 1) := by decide +kernel
theorem dX3_die_12 : decode cX3_die 12 = .ok (.ireturn, 1) := by decide +kernel
theorem dX3_die_13 : decode cX3_die 13 = .ok (.aload_n 0, 1) := by decide +kernel
theorem dX3_die_14 : decode cX3_die 14 = .ok (.getfield 20, 3) := by decide +kernel
theorem dX3_die_17 : decode cX3_die 17 = .ok (.getfield 88, 3) := by decide +kernel
theorem dX3_die_20 : decode cX3_die 20 = .ok (.iload_n 1, 1) := by decide +kernel
theorem dX3_die_21 : decode cX3_die 21 = .ok (.aload_n 0, 1) := by decide +kernel
theorem dX3_die_22 : decode cX3_die 22 = .ok (.getfield 20, 3) := by decide +kernel
theorem dX3_die_25 : decode cX3_die 25 = .ok (.getfield 88, 3) := by decide +kernel
theorem dX3_die_28 : decode cX3_die 28 = .ok (.iload_n 1, 1) := by decide +kernel
theorem dX3_die_29 : decode cX3_die 29 = .ok (.baload, 1) := by decide +kernel
theorem dX3_die_30 : decode cX3_die 30 = .ok (.ifCond .ne 7, 3) := by decide +kernel
theorem dX3_die_33 : decode cX3_die 33 = .ok (.iconst 1, 1) := by decide +kernel
theorem dX3_die_34 : decode cX3_die 34 = .ok (.goto 4, 3) := by decide +kernel
theorem dX3_die_37 : decode cX3_die 37 = .ok (.iconst 0, 1) := by decide +kernel
theorem dX3_die_38 : decode cX3_die 38 = .ok (.bastore, 1) := by decide +kernel
theorem dX3_die_39 : decode cX3_die 39 = .ok (.aload_n 0, 1) := by decide +kernel
theorem dX3_die_40 : decode cX3_die 40 = .ok (.getfield 20, 3) := by decide +kernel
theorem dX3_die_43 : decode cX3_die 43 = .ok (.getfield 88, 3) := by decide +kernel
theorem dX3_die_46 : decode cX3_die 46 = .ok (.iload_n 1, 1) := by decide +kernel
theorem dX3_die_47 : decode cX3_die 47 = .ok (.baload, 1) := by decide +kernel
theorem dX3_die_48 : decode cX3_die 48 = .ok (.ifCond .eq 7, 3) := by decide +kernel
theorem dX3_die_51 : decode cX3_die 51 = .ok (.iconst 1, 1) := by decide +kernel
theorem dX3_die_52 : decode cX3_die 52 = .ok (.goto 4, 3) := by decide +kernel
theorem dX3_die_55 : decode cX3_die 55 = .ok (.iconst 0, 1) := by decide +kernel
theorem dX3_die_56 : decode cX3_die 56 = .ok (.ireturn, 1) := by decide +kernel
theorem dX3_cut_0 : decode cX3_cut 0 = .ok (.iload_n 1, 1) := by decide +kernel
theorem dX3_cut_1 : decode cX3_cut 1 = .ok (.invokestatic 122, 3) := by decide +kernel
theorem dX3_cut_4 : decode cX3_cut 4 = .ok (.ifCond .ne 6, 3) := by decide +kernel
theorem dX3_cut_7 : decode cX3_cut 7 = .ok (.bipush (-2), 2) := by decide +kernel
theorem dX3_cut_9 : decode cX3_cut 9 = .ok (.ireturn, 1) := by decide +kernel
theorem dX3_cut_10 : decode cX3_cut 10 = .ok (.aload_n 0, 1) := by decide +kernel
theorem dX3_cut_11 : decode cX3_cut 11 = .ok (.getfield 20, 3) := by decide +kernel
theorem dX3_cut_14 : decode cX3_cut 14 = .ok (.invokevirtual 125, 3) := by decide +kernel
theorem dX3_cut_17 : decode cX3_cut 17 = .ok (.ifCond .ne 6, 3) := by decide +kernel
theorem dX3_cut_20 : decode cX3_cut 20 = .ok (.bipush (-3), 2) := by decide +kernel
theorem dX3_cut_22 : decode cX3_cut 22 = .ok (.ireturn, 1) := by decide +kernel
theorem dX3_cut_23 : decode cX3_cut 23 = .ok (.aload_n 0, 1) := by decide +kernel
theorem dX3_cut_24 : decode cX3_cut 24 = .ok (.getfield 20, 3) := by decide +kernel
theorem dX3_cut_27 : decode cX3_cut 27 = .ok (.getfield 129, 3) := by decide +kernel
theorem dX3_cut_30 : decode cX3_cut 30 = .ok (.istore_n 2, 1) := by decide +kernel
theorem dX3_cut_31 : decode cX3_cut 31 = .ok (.aload_n 0, 1) := by decide +kernel
theorem dX3_cut_32 : decode cX3_cut 32 = .ok (.getfield 20, 3) := by decide +kernel
theorem dX3_cut_35 : decode cX3_cut 35 = .ok (.iload_n 1, 1) := by decide +kernel
theorem dX3_cut_36 : decode cX3_cut 36 = .ok (.invokevirtual 132, 3) := by decide +kernel
theorem dX3_cut_39 : decode cX3_cut 39 = .ok (.iload_n 2, 1) := by decide +kernel
theorem dX3_cut_40 : decode cX3_cut 40 = .ok (.ireturn, 1) := by decide +kernel
theorem dX3_ofUnit_0 : decode cX3_ofUnit 0 = .ok (.iload_n 1, 1) := by decide +kernel
theorem dX3_ofUnit_1 : decode cX3_ofUnit 1 = .ok (.invokestatic 136, 3) := by decide +kernel
theorem dX3_ofUnit_4 : decode cX3_ofUnit 4 = .ok (.ifCond .eq 12, 3) := by decide +kernel
theorem dX3_ofUnit_7 : decode cX3_ofUnit 7 = .ok (.iload_n 2, 1) := by decide +kernel
theorem dX3_ofUnit_8 : decode cX3_ofUnit 8 = .ok (.ifCond .lt 8, 3) := by decide +kernel
theorem dX3_ofUnit_11 : decode cX3_ofUnit 11 = .ok (.iload_n 2, 1) := by decide +kernel
theorem dX3_ofUnit_12 : decode cX3_ofUnit 12 = .ok (.iconst 4, 1) := by decide +kernel
theorem dX3_ofUnit_13 : decode cX3_ofUnit 13 = .ok (.if_icmp .le 6, 3) := by decide +kernel
theorem dX3_ofUnit_16 : decode cX3_ofUnit 16 = .ok (.bipush (-2), 2) := by decide +kernel
theorem dX3_ofUnit_18 : decode cX3_ofUnit 18 = .ok (.ireturn, 1) := by decide +kernel
theorem dX3_ofUnit_19 : decode cX3_ofUnit 19 = .ok (.aload_n 0, 1) := by decide +kernel
theorem dX3_ofUnit_20 : decode cX3_ofUnit 20 = .ok (.getfield 20, 3) := by decide +kernel
theorem dX3_ofUnit_23 : decode cX3_ofUnit 23 = .ok (.invokevirtual 125, 3) := by decide +kernel
theorem dX3_ofUnit_26 : decode cX3_ofUnit 26 = .ok (.ifCond .ne 6, 3) := by decide +kernel
theorem dX3_ofUnit_29 : decode cX3_ofUnit 29 = .ok (.bipush (-3), 2) := by decide +kernel
theorem dX3_ofUnit_31 : decode cX3_ofUnit 31 = .ok (.ireturn, 1) := by decide +kernel
theorem dX3_ofUnit_32 : decode cX3_ofUnit 32 = .ok (.iload_n 2, 1) := by decide +kernel
theorem dX3_ofUnit_33 : decode cX3_ofUnit 33 = .ok (.tableswitch 69 0 3 #[31, 41, 50, 59], 31) := by decide +kernel
theorem dX3_ofUnit_64 : decode cX3_ofUnit 64 = .ok (.aload_n 0, 1) := by decide +kernel
theorem dX3_ofUnit_65 : decode cX3_ofUnit 65 = .ok (.getfield 20, 3) := by decide +kernel
theorem dX3_ofUnit_68 : decode cX3_ofUnit 68 = .ok (.getfield 139, 3) := by decide +kernel
theorem dX3_ofUnit_71 : decode cX3_ofUnit 71 = .ok (.iload_n 1, 1) := by decide +kernel
theorem dX3_ofUnit_72 : decode cX3_ofUnit 72 = .ok (.iaload, 1) := by decide +kernel
theorem dX3_ofUnit_73 : decode cX3_ofUnit 73 = .ok (.ireturn, 1) := by decide +kernel
theorem dX3_ofUnit_74 : decode cX3_ofUnit 74 = .ok (.aload_n 0, 1) := by decide +kernel
theorem dX3_ofUnit_75 : decode cX3_ofUnit 75 = .ok (.getfield 20, 3) := by decide +kernel
theorem dX3_ofUnit_78 : decode cX3_ofUnit 78 = .ok (.iload_n 1, 1) := by decide +kernel
theorem dX3_ofUnit_79 : decode cX3_ofUnit 79 = .ok (.invokevirtual 142, 3) := by decide +kernel
theorem dX3_ofUnit_82 : decode cX3_ofUnit 82 = .ok (.ireturn, 1) := by decide +kernel
theorem dX3_ofUnit_83 : decode cX3_ofUnit 83 = .ok (.aload_n 0, 1) := by decide +kernel
theorem dX3_ofUnit_84 : decode cX3_ofUnit 84 = .ok (.getfield 20, 3) := by decide +kernel
theorem dX3_ofUnit_87 : decode cX3_ofUnit 87 = .ok (.iload_n 1, 1) := by decide +kernel
theorem dX3_ofUnit_88 : decode cX3_ofUnit 88 = .ok (.invokevirtual 145, 3) := by decide +kernel
theorem dX3_ofUnit_91 : decode cX3_ofUnit 91 = .ok (.ireturn, 1) := by decide +kernel
theorem dX3_ofUnit_92 : decode cX3_ofUnit 92 = .ok (.aload_n 0, 1) := by decide +kernel
theorem dX3_ofUnit_93 : decode cX3_ofUnit 93 = .ok (.getfield 20, 3) := by decide +kernel
theorem dX3_ofUnit_96 : decode cX3_ofUnit 96 = .ok (.getfield 148, 3) := by decide +kernel
theorem dX3_ofUnit_99 : decode cX3_ofUnit 99 = .ok (.iload_n 1, 1) := by decide +kernel
theorem dX3_ofUnit_100 : decode cX3_ofUnit 100 = .ok (.iaload, 1) := by decide +kernel
theorem dX3_ofUnit_101 : decode cX3_ofUnit 101 = .ok (.ireturn, 1) := by decide +kernel
theorem dX3_ofUnit_102 : decode cX3_ofUnit 102 = .ok (.aload_n 0, 1) := by decide +kernel
theorem dX3_ofUnit_103 : decode cX3_ofUnit 103 = .ok (.getfield 20, 3) := by decide +kernel
theorem dX3_ofUnit_106 : decode cX3_ofUnit 106 = .ok (.iload_n 1, 1) := by decide +kernel
theorem dX3_ofUnit_107 : decode cX3_ofUnit 107 = .ok (.invokevirtual 151, 3) := by decide +kernel
theorem dX3_ofUnit_110 : decode cX3_ofUnit 110 = .ok (.ireturn, 1) := by decide +kernel
theorem dX3_slices_0 : decode cX3_slices 0 = .ok (.iload_n 1, 1) := by decide +kernel
theorem dX3_slices_1 : decode cX3_slices 1 = .ok (.iconst (-1), 1) := by decide +kernel
theorem dX3_slices_2 : decode cX3_slices 2 = .ok (.if_icmp .lt 8, 3) := by decide +kernel
theorem dX3_slices_5 : decode cX3_slices 5 = .ok (.iload_n 1, 1) := by decide +kernel
theorem dX3_slices_6 : decode cX3_slices 6 = .ok (.iconst 4, 1) := by decide +kernel
theorem dX3_slices_7 : decode cX3_slices 7 = .ok (.if_icmp .lt 6, 3) := by decide +kernel
theorem dX3_slices_10 : decode cX3_slices 10 = .ok (.bipush (-2), 2) := by decide +kernel
theorem dX3_slices_12 : decode cX3_slices 12 = .ok (.ireturn, 1) := by decide +kernel
theorem dX3_slices_13 : decode cX3_slices 13 = .ok (.aload_n 0, 1) := by decide +kernel
theorem dX3_slices_14 : decode cX3_slices 14 = .ok (.getfield 20, 3) := by decide +kernel
theorem dX3_slices_17 : decode cX3_slices 17 = .ok (.invokevirtual 125, 3) := by decide +kernel
theorem dX3_slices_20 : decode cX3_slices 20 = .ok (.ifCond .ne 6, 3) := by decide +kernel
theorem dX3_slices_23 : decode cX3_slices 23 = .ok (.bipush (-3), 2) := by decide +kernel
theorem dX3_slices_25 : decode cX3_slices 25 = .ok (.ireturn, 1) := by decide +kernel
theorem dX3_slices_26 : decode cX3_slices 26 = .ok (.iload_n 1, 1) := by decide +kernel
theorem dX3_slices_27 : decode cX3_slices 27 = .ok (.ifCond .lt 12, 3) := by decide +kernel
theorem dX3_slices_30 : decode cX3_slices 30 = .ok (.aload_n 0, 1) := by decide +kernel
theorem dX3_slices_31 : decode cX3_slices 31 = .ok (.getfield 20, 3) := by decide +kernel
theorem dX3_slices_34 : decode cX3_slices 34 = .ok (.iload_n 1, 1) := by decide +kernel
theorem dX3_slices_35 : decode cX3_slices 35 = .ok (.invokevirtual 154, 3) := by decide +kernel
theorem dX3_slices_38 : decode cX3_slices 38 = .ok (.ireturn, 1) := by decide +kernel
theorem dX3_slices_39 : decode cX3_slices 39 = .ok (.iconst 0, 1) := by decide +kernel
theorem dX3_slices_40 : decode cX3_slices 40 = .ok (.istore_n 2, 1) := by decide +kernel
theorem dX3_slices_41 : decode cX3_slices 41 = .ok (.iconst 0, 1) := by decide +kernel
theorem dX3_slices_42 : decode cX3_slices 42 = .ok (.istore_n 3, 1) := by decide +kernel
theorem dX3_slices_43 : decode cX3_slices 43 = .ok (.iload_n 3, 1) := by decide +kernel
theorem dX3_slices_44 : decode cX3_slices 44 = .ok (.iconst 4, 1) := by decide +kernel
theorem dX3_slices_45 : decode cX3_slices 45 = .ok (.if_icmp .ge 20, 3) := by decide +kernel
theorem dX3_slices_48 : decode cX3_slices 48 = .ok (.iload_n 2, 1) := by decide +kernel
theorem dX3_slices_49 : decode cX3_slices 49 = .ok (.aload_n 0, 1) := by decide +kernel
theorem dX3_slices_50 : decode cX3_slices 50 = .ok (.getfield 20, 3) := by decide +kernel
theorem dX3_slices_53 : decode cX3_slices 53 = .ok (.iload_n 3, 1) := by decide +kernel
theorem dX3_slices_54 : decode cX3_slices 54 = .ok (.invokevirtual 154, 3) := by decide +kernel
theorem dX3_slices_57 : decode cX3_slices 57 = .ok (.iadd, 1) := by decide +kernel
theorem dX3_slices_58 : decode cX3_slices 58 = .ok (.istore_n 2, 1) := by decide +kernel
theorem dX3_slices_59 : decode cX3_slices 59 = .ok (.iinc 3 1, 3) := by decide +kernel
theorem dX3_slices_62 : decode cX3_slices 62 = .ok (.goto (-19), 3) := by decide +kernel
theorem dX3_slices_65 : decode cX3_slices 65 = .ok (.iload_n 2, 1) := by decide +kernel
theorem dX3_slices_66 : decode cX3_slices 66 = .ok (.ireturn, 1) := by decide +kernel
theorem dX3_bears_0 : decode cX3_bears 0 = .ok (.iload_n 1, 1) := by decide +kernel
theorem dX3_bears_1 : decode cX3_bears 1 = .ok (.ifCond .lt 9, 3) := by decide +kernel
theorem dX3_bears_4 : decode cX3_bears 4 = .ok (.iload_n 1, 1) := by decide +kernel
theorem dX3_bears_5 : decode cX3_bears 5 = .ok (.bipush 16, 2) := by decide +kernel
theorem dX3_bears_7 : decode cX3_bears 7 = .ok (.if_icmp .le 6, 3) := by decide +kernel
theorem dX3_bears_10 : decode cX3_bears 10 = .ok (.bipush (-2), 2) := by decide +kernel
theorem dX3_bears_12 : decode cX3_bears 12 = .ok (.ireturn, 1) := by decide +kernel
theorem dX3_bears_13 : decode cX3_bears 13 = .ok (.aload_n 0, 1) := by decide +kernel
theorem dX3_bears_14 : decode cX3_bears 14 = .ok (.getfield 20, 3) := by decide +kernel
theorem dX3_bears_17 : decode cX3_bears 17 = .ok (.invokevirtual 125, 3) := by decide +kernel
theorem dX3_bears_20 : decode cX3_bears 20 = .ok (.ifCond .ne 6, 3) := by decide +kernel
theorem dX3_bears_23 : decode cX3_bears 23 = .ok (.bipush (-3), 2) := by decide +kernel
theorem dX3_bears_25 : decode cX3_bears 25 = .ok (.ireturn, 1) := by decide +kernel
theorem dX3_bears_26 : decode cX3_bears 26 = .ok (.bipush 15, 2) := by decide +kernel
theorem dX3_bears_28 : decode cX3_bears 28 = .ok (.istore_n 2, 1) := by decide +kernel
theorem dX3_bears_29 : decode cX3_bears 29 = .ok (.iload_n 2, 1) := by decide +kernel
theorem dX3_bears_30 : decode cX3_bears 30 = .ok (.ifCond .le 23, 3) := by decide +kernel
theorem dX3_bears_33 : decode cX3_bears 33 = .ok (.aload_n 0, 1) := by decide +kernel
theorem dX3_bears_34 : decode cX3_bears 34 = .ok (.getfield 20, 3) := by decide +kernel
theorem dX3_bears_37 : decode cX3_bears 37 = .ok (.iload_n 2, 1) := by decide +kernel
theorem dX3_bears_38 : decode cX3_bears 38 = .ok (.invokevirtual 157, 3) := by decide +kernel
theorem dX3_bears_41 : decode cX3_bears 41 = .ok (.iload_n 1, 1) := by decide +kernel
theorem dX3_bears_42 : decode cX3_bears 42 = .ok (.if_icmp .gt 5, 3) := by decide +kernel
theorem dX3_bears_45 : decode cX3_bears 45 = .ok (.iload_n 2, 1) := by decide +kernel
theorem dX3_bears_46 : decode cX3_bears 46 = .ok (.ireturn, 1) := by decide +kernel
theorem dX3_bears_47 : decode cX3_bears 47 = .ok (.iinc 2 (-1), 3) := by decide +kernel
theorem dX3_bears_50 : decode cX3_bears 50 = .ok (.goto (-21), 3) := by decide +kernel
theorem dX3_bears_53 : decode cX3_bears 53 = .ok (.iconst 0, 1) := by decide +kernel
theorem dX3_bears_54 : decode cX3_bears 54 = .ok (.ireturn, 1) := by decide +kernel
theorem dX3_steadiest_0 : decode cX3_steadiest 0 = .ok (.iload_n 1, 1) := by decide +kernel
theorem dX3_steadiest_1 : decode cX3_steadiest 1 = .ok (.ifCond .lt 8, 3) := by decide +kernel
theorem dX3_steadiest_4 : decode cX3_steadiest 4 = .ok (.iload_n 1, 1) := by decide +kernel
theorem dX3_steadiest_5 : decode cX3_steadiest 5 = .ok (.iconst 2, 1) := by decide +kernel
theorem dX3_steadiest_6 : decode cX3_steadiest 6 = .ok (.if_icmp .le 6, 3) := by decide +kernel
theorem dX3_steadiest_9 : decode cX3_steadiest 9 = .ok (.bipush (-2), 2) := by decide +kernel
theorem dX3_steadiest_11 : decode cX3_steadiest 11 = .ok (.ireturn, 1) := by decide +kernel
theorem dX3_steadiest_12 : decode cX3_steadiest 12 = .ok (.aload_n 0, 1) := by decide +kernel
theorem dX3_steadiest_13 : decode cX3_steadiest 13 = .ok (.getfield 20, 3) := by decide +kernel
theorem dX3_steadiest_16 : decode cX3_steadiest 16 = .ok (.invokevirtual 125, 3) := by decide +kernel
theorem dX3_steadiest_19 : decode cX3_steadiest 19 = .ok (.ifCond .ne 6, 3) := by decide +kernel
theorem dX3_steadiest_22 : decode cX3_steadiest 22 = .ok (.bipush (-3), 2) := by decide +kernel
theorem dX3_steadiest_24 : decode cX3_steadiest 24 = .ok (.ireturn, 1) := by decide +kernel
theorem dX3_steadiest_25 : decode cX3_steadiest 25 = .ok (.iload_n 1, 1) := by decide +kernel
theorem dX3_steadiest_26 : decode cX3_steadiest 26 = .ok (.iconst 2, 1) := by decide +kernel
theorem dX3_steadiest_27 : decode cX3_steadiest 27 = .ok (.if_icmp .ne 11, 3) := by decide +kernel
theorem dX3_steadiest_30 : decode cX3_steadiest 30 = .ok (.aload_n 0, 1) := by decide +kernel
theorem dX3_steadiest_31 : decode cX3_steadiest 31 = .ok (.getfield 20, 3) := by decide +kernel
theorem dX3_steadiest_34 : decode cX3_steadiest 34 = .ok (.invokevirtual 160, 3) := by decide +kernel
theorem dX3_steadiest_37 : decode cX3_steadiest 37 = .ok (.ireturn, 1) := by decide +kernel
theorem dX3_steadiest_38 : decode cX3_steadiest 38 = .ok (.aload_n 0, 1) := by decide +kernel
theorem dX3_steadiest_39 : decode cX3_steadiest 39 = .ok (.getfield 24, 3) := by decide +kernel
theorem dX3_steadiest_42 : decode cX3_steadiest 42 = .ok (.aload_n 0, 1) := by decide +kernel
theorem dX3_steadiest_43 : decode cX3_steadiest 43 = .ok (.getfield 20, 3) := by decide +kernel
theorem dX3_steadiest_46 : decode cX3_steadiest 46 = .ok (.invokevirtual 65, 3) := by decide +kernel
theorem dX3_steadiest_49 : decode cX3_steadiest 49 = .ok (.iconst 1, 1) := by decide +kernel
theorem dX3_steadiest_50 : decode cX3_steadiest 50 = .ok (.istore_n 2, 1) := by decide +kernel
theorem dX3_steadiest_51 : decode cX3_steadiest 51 = .ok (.ldc 166, 2) := by decide +kernel
theorem dX3_steadiest_53 : decode cX3_steadiest 53 = .ok (.istore_n 3, 1) := by decide +kernel
theorem dX3_steadiest_54 : decode cX3_steadiest 54 = .ok (.iconst 1, 1) := by decide +kernel
theorem dX3_steadiest_55 : decode cX3_steadiest 55 = .ok (.istore 4, 2) := by decide +kernel
theorem dX3_steadiest_57 : decode cX3_steadiest 57 = .ok (.iload 4, 2) := by decide +kernel
theorem dX3_steadiest_59 : decode cX3_steadiest 59 = .ok (.bipush 8, 2) := by decide +kernel
theorem dX3_steadiest_61 : decode cX3_steadiest 61 = .ok (.if_icmp .gt 39, 3) := by decide +kernel
theorem dX3_steadiest_64 : decode cX3_steadiest 64 = .ok (.aload_n 0, 1) := by decide +kernel
theorem dX3_steadiest_65 : decode cX3_steadiest 65 = .ok (.getfield 24, 3) := by decide +kernel
theorem dX3_steadiest_68 : decode cX3_steadiest 68 = .ok (.iload 4, 2) := by decide +kernel
theorem dX3_steadiest_70 : decode cX3_steadiest 70 = .ok (.invokevirtual 132, 3) := by decide +kernel
theorem dX3_steadiest_73 : decode cX3_steadiest 73 = .ok (.aload_n 0, 1) := by decide +kernel
theorem dX3_steadiest_74 : decode cX3_steadiest 74 = .ok (.getfield 24, 3) := by decide +kernel
theorem dX3_steadiest_77 : decode cX3_steadiest 77 = .ok (.invokevirtual 160, 3) := by decide +kernel
theorem dX3_steadiest_80 : decode cX3_steadiest 80 = .ok (.istore 5, 2) := by decide +kernel
theorem dX3_steadiest_82 : decode cX3_steadiest 82 = .ok (.iload 5, 2) := by decide +kernel
theorem dX3_steadiest_84 : decode cX3_steadiest 84 = .ok (.iload_n 3, 1) := by decide +kernel
theorem dX3_steadiest_85 : decode cX3_steadiest 85 = .ok (.if_icmp .ge 9, 3) := by decide +kernel
theorem dX3_steadiest_88 : decode cX3_steadiest 88 = .ok (.iload 4, 2) := by decide +kernel
theorem dX3_steadiest_90 : decode cX3_steadiest 90 = .ok (.istore_n 2, 1) := by decide +kernel
theorem dX3_steadiest_91 : decode cX3_steadiest 91 = .ok (.iload 5, 2) := by decide +kernel
theorem dX3_steadiest_93 : decode cX3_steadiest 93 = .ok (.istore_n 3, 1) := by decide +kernel
theorem dX3_steadiest_94 : decode cX3_steadiest 94 = .ok (.iinc 4 1, 3) := by decide +kernel
theorem dX3_steadiest_97 : decode cX3_steadiest 97 = .ok (.goto (-40), 3) := by decide +kernel
theorem dX3_steadiest_100 : decode cX3_steadiest 100 = .ok (.iload_n 1, 1) := by decide +kernel
theorem dX3_steadiest_101 : decode cX3_steadiest 101 = .ok (.ifCond .ne 7, 3) := by decide +kernel
theorem dX3_steadiest_104 : decode cX3_steadiest 104 = .ok (.iload_n 2, 1) := by decide +kernel
theorem dX3_steadiest_105 : decode cX3_steadiest 105 = .ok (.goto 4, 3) := by decide +kernel
theorem dX3_steadiest_108 : decode cX3_steadiest 108 = .ok (.iload_n 3, 1) := by decide +kernel
theorem dX3_steadiest_109 : decode cX3_steadiest 109 = .ok (.ireturn, 1) := by decide +kernel
theorem dX3_send_0 : decode cX3_send 0 = .ok (.aload_n 0, 1) := by decide +kernel
theorem dX3_send_1 : decode cX3_send 1 = .ok (.iconst 0, 1) := by decide +kernel
theorem dX3_send_2 : decode cX3_send 2 = .ok (.putfield 42, 3) := by decide +kernel
theorem dX3_send_5 : decode cX3_send 5 = .ok (.iload_n 1, 1) := by decide +kernel
theorem dX3_send_6 : decode cX3_send 6 = .ok (.invokestatic 46, 3) := by decide +kernel
theorem dX3_send_9 : decode cX3_send 9 = .ok (.ifCond .ne 5, 3) := by decide +kernel
theorem dX3_send_12 : decode cX3_send 12 = .ok (.iconst (-1), 1) := by decide +kernel
theorem dX3_send_13 : decode cX3_send 13 = .ok (.ireturn, 1) := by decide +kernel
theorem dX3_send_14 : decode cX3_send 14 = .ok (.iload_n 2, 1) := by decide +kernel
theorem dX3_send_15 : decode cX3_send 15 = .ok (.invokestatic 50, 3) := by decide +kernel
theorem dX3_send_18 : decode cX3_send 18 = .ok (.ifCond .eq 15, 3) := by decide +kernel
theorem dX3_send_21 : decode cX3_send 21 = .ok (.iload 4, 2) := by decide +kernel
theorem dX3_send_23 : decode cX3_send 23 = .ok (.ifCond .lt 10, 3) := by decide +kernel
theorem dX3_send_26 : decode cX3_send 26 = .ok (.iload 4, 2) := by decide +kernel
theorem dX3_send_28 : decode cX3_send 28 = .ok (.bipush 20, 2) := by decide +kernel
theorem dX3_send_30 : decode cX3_send 30 = .ok (.if_icmp .le 6, 3) := by decide +kernel
theorem dX3_send_33 : decode cX3_send 33 = .ok (.bipush (-2), 2) := by decide +kernel
theorem dX3_send_35 : decode cX3_send 35 = .ok (.ireturn, 1) := by decide +kernel
theorem dX3_send_36 : decode cX3_send 36 = .ok (.aload_n 0, 1) := by decide +kernel
theorem dX3_send_37 : decode cX3_send 37 = .ok (.getfield 20, 3) := by decide +kernel
theorem dX3_send_40 : decode cX3_send 40 = .ok (.invokevirtual 125, 3) := by decide +kernel
theorem dX3_send_43 : decode cX3_send 43 = .ok (.ifCond .ne 6, 3) := by decide +kernel
theorem dX3_send_46 : decode cX3_send 46 = .ok (.bipush (-3), 2) := by decide +kernel
theorem dX3_send_48 : decode cX3_send 48 = .ok (.ireturn, 1) := by decide +kernel
theorem dX3_send_49 : decode cX3_send 49 = .ok (.aload_n 0, 1) := by decide +kernel
theorem dX3_send_50 : decode cX3_send 50 = .ok (.getfield 13, 3) := by decide +kernel
theorem dX3_send_53 : decode cX3_send 53 = .ok (.iload_n 1, 1) := by decide +kernel
theorem dX3_send_54 : decode cX3_send 54 = .ok (.aaload, 1) := by decide +kernel
theorem dX3_send_55 : decode cX3_send 55 = .ok (.astore 5, 2) := by decide +kernel
theorem dX3_send_57 : decode cX3_send 57 = .ok (.aload 5, 2) := by decide +kernel
theorem dX3_send_59 : decode cX3_send 59 = .ok (.iload_n 2, 1) := by decide +kernel
theorem dX3_send_60 : decode cX3_send 60 = .ok (.iload_n 3, 1) := by decide +kernel
theorem dX3_send_61 : decode cX3_send 61 = .ok (.iload 4, 2) := by decide +kernel
theorem dX3_send_63 : decode cX3_send 63 = .ok (.invokevirtual 53, 3) := by decide +kernel
theorem dX3_send_66 : decode cX3_send 66 = .ok (.istore 6, 2) := by decide +kernel
theorem dX3_send_68 : decode cX3_send 68 = .ok (.iload 6, 2) := by decide +kernel
theorem dX3_send_70 : decode cX3_send 70 = .ok (.ifCond .eq 10, 3) := by decide +kernel
theorem dX3_send_73 : decode cX3_send 73 = .ok (.aload_n 0, 1) := by decide +kernel
theorem dX3_send_74 : decode cX3_send 74 = .ok (.iload 6, 2) := by decide +kernel
theorem dX3_send_76 : decode cX3_send 76 = .ok (.invokevirtual 57, 3) := by decide +kernel
theorem dX3_send_79 : decode cX3_send 79 = .ok (.ireturn, 1) := by decide +kernel
theorem dX3_send_80 : decode cX3_send 80 = .ok (.iload_n 3, 1) := by decide +kernel
theorem dX3_send_81 : decode cX3_send 81 = .ok (.istore 7, 2) := by decide +kernel
theorem dX3_send_83 : decode cX3_send 83 = .ok (.iload 7, 2) := by decide +kernel
theorem dX3_send_85 : decode cX3_send 85 = .ok (.iload_n 3, 1) := by decide +kernel
theorem dX3_send_86 : decode cX3_send 86 = .ok (.iload 4, 2) := by decide +kernel
theorem dX3_send_88 : decode cX3_send 88 = .ok (.iadd, 1) := by decide +kernel
theorem dX3_send_89 : decode cX3_send 89 = .ok (.if_icmp .ge 26, 3) := by decide +kernel
theorem dX3_send_92 : decode cX3_send 92 = .ok (.aload 5, 2) := by decide +kernel
theorem dX3_send_94 : decode cX3_send 94 = .ok (.getfield 167, 3) := by decide +kernel
theorem dX3_send_97 : decode cX3_send 97 = .ok (.iload 7, 2) := by decide +kernel
theorem dX3_send_99 : decode cX3_send 99 = .ok (.iaload, 1) := by decide +kernel
theorem dX3_send_100 : decode cX3_send 100 = .ok (.invokestatic 119, 3) := by decide +kernel
theorem dX3_send_103 : decode cX3_send 103 = .ok (.ifCond .ne 6, 3) := by decide +kernel
theorem dX3_send_106 : decode cX3_send 106 = .ok (.bipush (-2), 2) := by decide +kernel
theorem dX3_send_108 : decode cX3_send 108 = .ok (.ireturn, 1) := by decide +kernel
theorem dX3_send_109 : decode cX3_send 109 = .ok (.iinc 7 1, 3) := by decide +kernel
theorem dX3_send_112 : decode cX3_send 112 = .ok (.goto (-29), 3) := by decide +kernel
theorem dX3_send_115 : decode cX3_send 115 = .ok (.iload 4, 2) := by decide +kernel
theorem dX3_send_117 : decode cX3_send 117 = .ok (.aload_n 0, 1) := by decide +kernel
theorem dX3_send_118 : decode cX3_send 118 = .ok (.getfield 20, 3) := by decide +kernel
theorem dX3_send_121 : decode cX3_send 121 = .ok (.aload 5, 2) := by decide +kernel
theorem dX3_send_123 : decode cX3_send 123 = .ok (.iload_n 3, 1) := by decide +kernel
theorem dX3_send_124 : decode cX3_send 124 = .ok (.iload 4, 2) := by decide +kernel
theorem dX3_send_126 : decode cX3_send 126 = .ok (.invokevirtual 170, 3) := by decide +kernel
theorem dX3_send_129 : decode cX3_send 129 = .ok (.isub, 1) := by decide +kernel
theorem dX3_send_130 : decode cX3_send 130 = .ok (.ireturn, 1) := by decide +kernel
theorem dX3_day_0 : decode cX3_day 0 = .ok (.aload_n 0, 1) := by decide +kernel
theorem dX3_day_1 : decode cX3_day 1 = .ok (.iconst 0, 1) := by decide +kernel
theorem dX3_day_2 : decode cX3_day 2 = .ok (.putfield 42, 3) := by decide +kernel
theorem dX3_day_5 : decode cX3_day 5 = .ok (.iload_n 1, 1) := by decide +kernel
theorem dX3_day_6 : decode cX3_day 6 = .ok (.invokestatic 46, 3) := by decide +kernel
theorem dX3_day_9 : decode cX3_day 9 = .ok (.ifCond .ne 5, 3) := by decide +kernel
theorem dX3_day_12 : decode cX3_day 12 = .ok (.iconst (-1), 1) := by decide +kernel
theorem dX3_day_13 : decode cX3_day 13 = .ok (.ireturn, 1) := by decide +kernel
theorem dX3_day_14 : decode cX3_day 14 = .ok (.iload_n 2, 1) := by decide +kernel
theorem dX3_day_15 : decode cX3_day 15 = .ok (.invokestatic 50, 3) := by decide +kernel
theorem dX3_day_18 : decode cX3_day 18 = .ok (.ifCond .eq 23, 3) := by decide +kernel
theorem dX3_day_21 : decode cX3_day 21 = .ok (.iload 4, 2) := by decide +kernel
theorem dX3_day_23 : decode cX3_day 23 = .ok (.ifCond .lt 18, 3) := by decide +kernel
theorem dX3_day_26 : decode cX3_day 26 = .ok (.iload 4, 2) := by decide +kernel
theorem dX3_day_28 : decode cX3_day 28 = .ok (.bipush 20, 2) := by decide +kernel
theorem dX3_day_30 : decode cX3_day 30 = .ok (.if_icmp .gt 11, 3) := by decide +kernel
theorem dX3_day_33 : decode cX3_day 33 = .ok (.iload 5, 2) := by decide +kernel
theorem dX3_day_35 : decode cX3_day 35 = .ok (.invokestatic 173, 3) := by decide +kernel
theorem dX3_day_38 : decode cX3_day 38 = .ok (.ifCond .ne 6, 3) := by decide +kernel
theorem dX3_day_41 : decode cX3_day 41 = .ok (.bipush (-2), 2) := by decide +kernel
theorem dX3_day_43 : decode cX3_day 43 = .ok (.ireturn, 1) := by decide +kernel
theorem dX3_day_44 : decode cX3_day 44 = .ok (.aload_n 0, 1) := by decide +kernel
theorem dX3_day_45 : decode cX3_day 45 = .ok (.getfield 20, 3) := by decide +kernel
theorem dX3_day_48 : decode cX3_day 48 = .ok (.invokevirtual 125, 3) := by decide +kernel
theorem dX3_day_51 : decode cX3_day 51 = .ok (.ifCond .ne 6, 3) := by decide +kernel
theorem dX3_day_54 : decode cX3_day 54 = .ok (.bipush (-3), 2) := by decide +kernel
theorem dX3_day_56 : decode cX3_day 56 = .ok (.ireturn, 1) := by decide +kernel
theorem dX3_day_57 : decode cX3_day 57 = .ok (.aload_n 0, 1) := by decide +kernel
theorem dX3_day_58 : decode cX3_day 58 = .ok (.getfield 13, 3) := by decide +kernel
theorem dX3_day_61 : decode cX3_day 61 = .ok (.iload_n 1, 1) := by decide +kernel
theorem dX3_day_62 : decode cX3_day 62 = .ok (.aaload, 1) := by decide +kernel
theorem dX3_day_63 : decode cX3_day 63 = .ok (.astore 6, 2) := by decide +kernel
theorem dX3_day_65 : decode cX3_day 65 = .ok (.aload 6, 2) := by decide +kernel
theorem dX3_day_67 : decode cX3_day 67 = .ok (.iload_n 2, 1) := by decide +kernel
theorem dX3_day_68 : decode cX3_day 68 = .ok (.iload_n 3, 1) := by decide +kernel
theorem dX3_day_69 : decode cX3_day 69 = .ok (.iconst 2, 1) := by decide +kernel
theorem dX3_day_70 : decode cX3_day 70 = .ok (.iload 4, 2) := by decide +kernel
theorem dX3_day_72 : decode cX3_day 72 = .ok (.imul, 1) := by decide +kernel
theorem dX3_day_73 : decode cX3_day 73 = .ok (.invokevirtual 53, 3) := by decide +kernel
theorem dX3_day_76 : decode cX3_day 76 = .ok (.istore 7, 2) := by decide +kernel
theorem dX3_day_78 : decode cX3_day 78 = .ok (.iload 7, 2) := by decide +kernel
theorem dX3_day_80 : decode cX3_day 80 = .ok (.ifCond .eq 10, 3) := by decide +kernel
theorem dX3_day_83 : decode cX3_day 83 = .ok (.aload_n 0, 1) := by decide +kernel
theorem dX3_day_84 : decode cX3_day 84 = .ok (.iload 7, 2) := by decide +kernel
theorem dX3_day_86 : decode cX3_day 86 = .ok (.invokevirtual 57, 3) := by decide +kernel
theorem dX3_day_89 : decode cX3_day 89 = .ok (.ireturn, 1) := by decide +kernel
theorem dX3_day_90 : decode cX3_day 90 = .ok (.iload_n 3, 1) := by decide +kernel
theorem dX3_day_91 : decode cX3_day 91 = .ok (.istore 8, 2) := by decide +kernel
theorem dX3_day_93 : decode cX3_day 93 = .ok (.iload 8, 2) := by decide +kernel
theorem dX3_day_95 : decode cX3_day 95 = .ok (.iload_n 3, 1) := by decide +kernel
theorem dX3_day_96 : decode cX3_day 96 = .ok (.iconst 2, 1) := by decide +kernel
theorem dX3_day_97 : decode cX3_day 97 = .ok (.iload 4, 2) := by decide +kernel
theorem dX3_day_99 : decode cX3_day 99 = .ok (.imul, 1) := by decide +kernel
theorem dX3_day_100 : decode cX3_day 100 = .ok (.iadd, 1) := by decide +kernel
theorem dX3_day_101 : decode cX3_day 101 = .ok (.if_icmp .ge 36, 3) := by decide +kernel
theorem dX3_day_104 : decode cX3_day 104 = .ok (.aload 6, 2) := by decide +kernel
theorem dX3_day_106 : decode cX3_day 106 = .ok (.getfield 167, 3) := by decide +kernel
theorem dX3_day_109 : decode cX3_day 109 = .ok (.iload 8, 2) := by decide +kernel
theorem dX3_day_111 : decode cX3_day 111 = .ok (.iaload, 1) := by decide +kernel
theorem dX3_day_112 : decode cX3_day 112 = .ok (.aload 6, 2) := by decide +kernel
theorem dX3_day_114 : decode cX3_day 114 = .ok (.getfield 167, 3) := by decide +kernel
theorem dX3_day_117 : decode cX3_day 117 = .ok (.iload 8, 2) := by decide +kernel
theorem dX3_day_119 : decode cX3_day 119 = .ok (.iconst 1, 1) := by decide +kernel
theorem dX3_day_120 : decode cX3_day 120 = .ok (.iadd, 1) := by decide +kernel
theorem dX3_day_121 : decode cX3_day 121 = .ok (.iaload, 1) := by decide +kernel
theorem dX3_day_122 : decode cX3_day 122 = .ok (.invokestatic 176, 3) := by decide +kernel
theorem dX3_day_125 : decode cX3_day 125 = .ok (.ifCond .ne 6, 3) := by decide +kernel
theorem dX3_day_128 : decode cX3_day 128 = .ok (.bipush (-2), 2) := by decide +kernel
theorem dX3_day_130 : decode cX3_day 130 = .ok (.ireturn, 1) := by decide +kernel
theorem dX3_day_131 : decode cX3_day 131 = .ok (.iinc 8 2, 3) := by decide +kernel
theorem dX3_day_134 : decode cX3_day 134 = .ok (.goto (-41), 3) := by decide +kernel
theorem dX3_day_137 : decode cX3_day 137 = .ok (.aload_n 0, 1) := by decide +kernel
theorem dX3_day_138 : decode cX3_day 138 = .ok (.getfield 24, 3) := by decide +kernel
theorem dX3_day_141 : decode cX3_day 141 = .ok (.aload_n 0, 1) := by decide +kernel
theorem dX3_day_142 : decode cX3_day 142 = .ok (.getfield 20, 3) := by decide +kernel
theorem dX3_day_145 : decode cX3_day 145 = .ok (.invokevirtual 65, 3) := by decide +kernel
theorem dX3_day_148 : decode cX3_day 148 = .ok (.aload_n 0, 1) := by decide +kernel
theorem dX3_day_149 : decode cX3_day 149 = .ok (.getfield 24, 3) := by decide +kernel
theorem dX3_day_152 : decode cX3_day 152 = .ok (.aload 6, 2) := by decide +kernel
theorem dX3_day_154 : decode cX3_day 154 = .ok (.iload_n 3, 1) := by decide +kernel
theorem dX3_day_155 : decode cX3_day 155 = .ok (.iload 4, 2) := by decide +kernel
theorem dX3_day_157 : decode cX3_day 157 = .ok (.invokevirtual 180, 3) := by decide +kernel
theorem dX3_day_160 : decode cX3_day 160 = .ok (.istore 8, 2) := by decide +kernel
theorem dX3_day_162 : decode cX3_day 162 = .ok (.iload 5, 2) := by decide +kernel
theorem dX3_day_164 : decode cX3_day 164 = .ok (.iconst 1, 1) := by decide +kernel
theorem dX3_day_165 : decode cX3_day 165 = .ok (.if_icmp .ne 6, 3) := by decide +kernel
theorem dX3_day_168 : decode cX3_day 168 = .ok (.iload 8, 2) := by decide +kernel
theorem dX3_day_170 : decode cX3_day 170 = .ok (.ireturn, 1) := by decide +kernel
theorem dX3_day_171 : decode cX3_day 171 = .ok (.iload 8, 2) := by decide +kernel
theorem dX3_day_173 : decode cX3_day 173 = .ok (.bipush (-9), 2) := by decide +kernel
theorem dX3_day_175 : decode cX3_day 175 = .ok (.if_icmp .eq 11, 3) := by decide +kernel
theorem dX3_day_178 : decode cX3_day 178 = .ok (.bipush (-100), 2) := by decide +kernel
theorem dX3_day_180 : decode cX3_day 180 = .ok (.iload 8, 2) := by decide +kernel
theorem dX3_day_182 : decode cX3_day 182 = .ok (.isub, 1) := by decide +kernel
theorem dX3_day_183 : decode cX3_day 183 = .ok (.goto 9, 3) := by decide +kernel
theorem dX3_day_186 : decode cX3_day 186 = .ok (.aload_n 0, 1) := by decide +kernel
theorem dX3_day_187 : decode cX3_day 187 = .ok (.iload 5, 2) := by decide +kernel
theorem dX3_day_189 : decode cX3_day 189 = .ok (.invokevirtual 183, 3) := by decide +kernel
theorem dX3_day_192 : decode cX3_day 192 = .ok (.ireturn, 1) := by decide +kernel
theorem dX3_reading_0 : decode cX3_reading 0 = .ok (.aload_n 0, 1) := by decide +kernel
theorem dX3_reading_1 : decode cX3_reading 1 = .ok (.getfield 20, 3) := by decide +kernel
theorem dX3_reading_4 : decode cX3_reading 4 = .ok (.iload_n 2, 1) := by decide +kernel
theorem dX3_reading_5 : decode cX3_reading 5 = .ok (.invokevirtual 95, 3) := by decide +kernel
theorem dX3_reading_8 : decode cX3_reading 8 = .ok (.ifCond .ne 5, 3) := by decide +kernel
theorem dX3_reading_11 : decode cX3_reading 11 = .ok (.iconst (-1), 1) := by decide +kernel
theorem dX3_reading_12 : decode cX3_reading 12 = .ok (.ireturn, 1) := by decide +kernel
theorem dX3_reading_13 : decode cX3_reading 13 = .ok (.iload_n 1, 1) := by decide +kernel
theorem dX3_reading_14 : decode cX3_reading 14 = .ok (.invokestatic 136, 3) := by decide +kernel
theorem dX3_reading_17 : decode cX3_reading 17 = .ok (.ifCond .eq 12, 3) := by decide +kernel
theorem dX3_reading_20 : decode cX3_reading 20 = .ok (.iload_n 3, 1) := by decide +kernel
theorem dX3_reading_21 : decode cX3_reading 21 = .ok (.ifCond .lt 8, 3) := by decide +kernel
theorem dX3_reading_24 : decode cX3_reading 24 = .ok (.iload_n 3, 1) := by decide +kernel
theorem dX3_reading_25 : decode cX3_reading 25 = .ok (.iconst 1, 1) := by decide +kernel
theorem dX3_reading_26 : decode cX3_reading 26 = .ok (.if_icmp .le 6, 3) := by decide +kernel
theorem dX3_reading_29 : decode cX3_reading 29 = .ok (.bipush (-2), 2) := by decide +kernel
theorem dX3_reading_31 : decode cX3_reading 31 = .ok (.ireturn, 1) := by decide +kernel
theorem dX3_reading_32 : decode cX3_reading 32 = .ok (.aload_n 0, 1) := by decide +kernel
theorem dX3_reading_33 : decode cX3_reading 33 = .ok (.getfield 30, 3) := by decide +kernel
theorem dX3_reading_36 : decode cX3_reading 36 = .ok (.getfield 69, 3) := by decide +kernel
theorem dX3_reading_39 : decode cX3_reading 39 = .ok (.bipush 8, 2) := by decide +kernel
theorem dX3_reading_41 : decode cX3_reading 41 = .ok (.if_icmp .lt 6, 3) := by decide +kernel
theorem dX3_reading_44 : decode cX3_reading 44 = .ok (.bipush (-4), 2) := by decide +kernel
theorem dX3_reading_46 : decode cX3_reading 46 = .ok (.ireturn, 1) := by decide +kernel
theorem dX3_reading_47 : decode cX3_reading 47 = .ok (.aload_n 0, 1) := by decide +kernel
theorem dX3_reading_48 : decode cX3_reading 48 = .ok (.getfield 30, 3) := by decide +kernel
theorem dX3_reading_51 : decode cX3_reading 51 = .ok (.iload_n 1, 1) := by decide +kernel
theorem dX3_reading_52 : decode cX3_reading 52 = .ok (.iload_n 2, 1) := by decide +kernel
theorem dX3_reading_53 : decode cX3_reading 53 = .ok (.iload_n 3, 1) := by decide +kernel
theorem dX3_reading_54 : decode cX3_reading 54 = .ok (.iconst 1, 1) := by decide +kernel
theorem dX3_reading_55 : decode cX3_reading 55 = .ok (.if_icmp .ne 7, 3) := by decide +kernel
theorem dX3_reading_58 : decode cX3_reading 58 = .ok (.iconst 1, 1) := by decide +kernel
theorem dX3_reading_59 : decode cX3_reading 59 = .ok (.goto 4, 3) := by decide +kernel
theorem dX3_reading_62 : decode cX3_reading 62 = .ok (.iconst 0, 1) := by decide +kernel
theorem dX3_reading_63 : decode cX3_reading 63 = .ok (.invokevirtual 186, 3) := by decide +kernel
theorem dX3_reading_66 : decode cX3_reading 66 = .ok (.ireturn, 1) := by decide +kernel
theorem dX3_back_0 : decode cX3_back 0 = .ok (.iload_n 1, 1) := by decide +kernel
theorem dX3_back_1 : decode cX3_back 1 = .ok (.ifCond .lt 14, 3) := by decide +kernel
theorem dX3_back_4 : decode cX3_back 4 = .ok (.iload_n 1, 1) := by decide +kernel
theorem dX3_back_5 : decode cX3_back 5 = .ok (.aload_n 0, 1) := by decide +kernel
theorem dX3_back_6 : decode cX3_back 6 = .ok (.getfield 30, 3) := by decide +kernel
theorem dX3_back_9 : decode cX3_back 9 = .ok (.getfield 69, 3) := by decide +kernel
theorem dX3_back_12 : decode cX3_back 12 = .ok (.if_icmp .le 6, 3) := by decide +kernel
theorem dX3_back_15 : decode cX3_back 15 = .ok (.bipush (-2), 2) := by decide +kernel
theorem dX3_back_17 : decode cX3_back 17 = .ok (.ireturn, 1) := by decide +kernel
theorem dX3_back_18 : decode cX3_back 18 = .ok (.aload_n 0, 1) := by decide +kernel
theorem dX3_back_19 : decode cX3_back 19 = .ok (.getfield 30, 3) := by decide +kernel
theorem dX3_back_22 : decode cX3_back 22 = .ok (.dup, 1) := by decide +kernel
theorem dX3_back_23 : decode cX3_back 23 = .ok (.getfield 69, 3) := by decide +kernel
theorem dX3_back_26 : decode cX3_back 26 = .ok (.iload_n 1, 1) := by decide +kernel
theorem dX3_back_27 : decode cX3_back 27 = .ok (.isub, 1) := by decide +kernel
theorem dX3_back_28 : decode cX3_back 28 = .ok (.putfield 69, 3) := by decide +kernel
theorem dX3_back_31 : decode cX3_back 31 = .ok (.aload_n 0, 1) := by decide +kernel
theorem dX3_back_32 : decode cX3_back 32 = .ok (.getfield 30, 3) := by decide +kernel
theorem dX3_back_35 : decode cX3_back 35 = .ok (.getfield 69, 3) := by decide +kernel
theorem dX3_back_38 : decode cX3_back 38 = .ok (.ireturn, 1) := by decide +kernel
theorem dX3_kinds_0 : decode cX3_kinds 0 = .ok (.aload_n 0, 1) := by decide +kernel
theorem dX3_kinds_1 : decode cX3_kinds 1 = .ok (.getfield 20, 3) := by decide +kernel
theorem dX3_kinds_4 : decode cX3_kinds 4 = .ok (.iload_n 1, 1) := by decide +kernel
theorem dX3_kinds_5 : decode cX3_kinds 5 = .ok (.invokevirtual 75, 3) := by decide +kernel
theorem dX3_kinds_8 : decode cX3_kinds 8 = .ok (.ifCond .ne 5, 3) := by decide +kernel
theorem dX3_kinds_11 : decode cX3_kinds 11 = .ok (.iconst (-1), 1) := by decide +kernel
theorem dX3_kinds_12 : decode cX3_kinds 12 = .ok (.ireturn, 1) := by decide +kernel
theorem dX3_kinds_13 : decode cX3_kinds 13 = .ok (.aload_n 0, 1) := by decide +kernel
theorem dX3_kinds_14 : decode cX3_kinds 14 = .ok (.getfield 24, 3) := by decide +kernel
theorem dX3_kinds_17 : decode cX3_kinds 17 = .ok (.aload_n 0, 1) := by decide +kernel
theorem dX3_kinds_18 : decode cX3_kinds 18 = .ok (.getfield 20, 3) := by decide +kernel
theorem dX3_kinds_21 : decode cX3_kinds 21 = .ok (.invokevirtual 65, 3) := by decide +kernel
theorem dX3_kinds_24 : decode cX3_kinds 24 = .ok (.iconst 0, 1) := by decide +kernel
theorem dX3_kinds_25 : decode cX3_kinds 25 = .ok (.istore_n 2, 1) := by decide +kernel
theorem dX3_kinds_26 : decode cX3_kinds 26 = .ok (.iconst 0, 1) := by decide +kernel
theorem dX3_kinds_27 : decode cX3_kinds 27 = .ok (.istore_n 3, 1) := by decide +kernel
theorem dX3_kinds_28 : decode cX3_kinds 28 = .ok (.iload_n 3, 1) := by decide +kernel
theorem dX3_kinds_29 : decode cX3_kinds 29 = .ok (.iconst 3, 1) := by decide +kernel
theorem dX3_kinds_30 : decode cX3_kinds 30 = .ok (.if_icmp .ge 39, 3) := by decide +kernel
theorem dX3_kinds_33 : decode cX3_kinds 33 = .ok (.aload_n 0, 1) := by decide +kernel
theorem dX3_kinds_34 : decode cX3_kinds 34 = .ok (.getfield 24, 3) := by decide +kernel
theorem dX3_kinds_37 : decode cX3_kinds 37 = .ok (.getfield 78, 3) := by decide +kernel
theorem dX3_kinds_40 : decode cX3_kinds 40 = .ok (.iload_n 1, 1) := by decide +kernel
theorem dX3_kinds_41 : decode cX3_kinds 41 = .ok (.iload_n 3, 1) := by decide +kernel
theorem dX3_kinds_42 : decode cX3_kinds 42 = .ok (.iastore, 1) := by decide +kernel
theorem dX3_kinds_43 : decode cX3_kinds 43 = .ok (.aload_n 0, 1) := by decide +kernel
theorem dX3_kinds_44 : decode cX3_kinds 44 = .ok (.getfield 30, 3) := by decide +kernel
theorem dX3_kinds_47 : decode cX3_kinds 47 = .ok (.aload_n 0, 1) := by decide +kernel
theorem dX3_kinds_48 : decode cX3_kinds 48 = .ok (.getfield 24, 3) := by decide +kernel
theorem dX3_kinds_51 : decode cX3_kinds 51 = .ok (.invokevirtual 190, 3) := by decide +kernel
theorem dX3_kinds_54 : decode cX3_kinds 54 = .ok (.ifCond .eq 9, 3) := by decide +kernel
theorem dX3_kinds_57 : decode cX3_kinds 57 = .ok (.iload_n 2, 1) := by decide +kernel
theorem dX3_kinds_58 : decode cX3_kinds 58 = .ok (.iconst 1, 1) := by decide +kernel
theorem dX3_kinds_59 : decode cX3_kinds 59 = .ok (.iload_n 3, 1) := by decide +kernel
theorem dX3_kinds_60 : decode cX3_kinds 60 = .ok (.ishl, 1) := by decide +kernel
theorem dX3_kinds_61 : decode cX3_kinds 61 = .ok (.ior, 1) := by decide +kernel
theorem dX3_kinds_62 : decode cX3_kinds 62 = .ok (.istore_n 2, 1) := by decide +kernel
theorem dX3_kinds_63 : decode cX3_kinds 63 = .ok (.iinc 3 1, 3) := by decide +kernel
theorem dX3_kinds_66 : decode cX3_kinds 66 = .ok (.goto (-38), 3) := by decide +kernel
theorem dX3_kinds_69 : decode cX3_kinds 69 = .ok (.iload_n 2, 1) := by decide +kernel
theorem dX3_kinds_70 : decode cX3_kinds 70 = .ok (.ireturn, 1) := by decide +kernel
theorem dX3_levels_0 : decode cX3_levels 0 = .ok (.aload_n 0, 1) := by decide +kernel
theorem dX3_levels_1 : decode cX3_levels 1 = .ok (.getfield 20, 3) := by decide +kernel
theorem dX3_levels_4 : decode cX3_levels 4 = .ok (.iload_n 1, 1) := by decide +kernel
theorem dX3_levels_5 : decode cX3_levels 5 = .ok (.invokevirtual 95, 3) := by decide +kernel
theorem dX3_levels_8 : decode cX3_levels 8 = .ok (.ifCond .ne 5, 3) := by decide +kernel
theorem dX3_levels_11 : decode cX3_levels 11 = .ok (.iconst (-1), 1) := by decide +kernel
theorem dX3_levels_12 : decode cX3_levels 12 = .ok (.ireturn, 1) := by decide +kernel
theorem dX3_levels_13 : decode cX3_levels 13 = .ok (.aload_n 0, 1) := by decide +kernel
theorem dX3_levels_14 : decode cX3_levels 14 = .ok (.getfield 24, 3) := by decide +kernel
theorem dX3_levels_17 : decode cX3_levels 17 = .ok (.aload_n 0, 1) := by decide +kernel
theorem dX3_levels_18 : decode cX3_levels 18 = .ok (.getfield 20, 3) := by decide +kernel
theorem dX3_levels_21 : decode cX3_levels 21 = .ok (.invokevirtual 65, 3) := by decide +kernel
theorem dX3_levels_24 : decode cX3_levels 24 = .ok (.iconst 0, 1) := by decide +kernel
theorem dX3_levels_25 : decode cX3_levels 25 = .ok (.istore_n 2, 1) := by decide +kernel
theorem dX3_levels_26 : decode cX3_levels 26 = .ok (.iconst 0, 1) := by decide +kernel
theorem dX3_levels_27 : decode cX3_levels 27 = .ok (.istore_n 3, 1) := by decide +kernel
theorem dX3_levels_28 : decode cX3_levels 28 = .ok (.iload_n 3, 1) := by decide +kernel
theorem dX3_levels_29 : decode cX3_levels 29 = .ok (.bipush 9, 2) := by decide +kernel
theorem dX3_levels_31 : decode cX3_levels 31 = .ok (.if_icmp .gt 39, 3) := by decide +kernel
theorem dX3_levels_34 : decode cX3_levels 34 = .ok (.aload_n 0, 1) := by decide +kernel
theorem dX3_levels_35 : decode cX3_levels 35 = .ok (.getfield 24, 3) := by decide +kernel
theorem dX3_levels_38 : decode cX3_levels 38 = .ok (.getfield 101, 3) := by decide +kernel
theorem dX3_levels_41 : decode cX3_levels 41 = .ok (.iload_n 1, 1) := by decide +kernel
theorem dX3_levels_42 : decode cX3_levels 42 = .ok (.iload_n 3, 1) := by decide +kernel
theorem dX3_levels_43 : decode cX3_levels 43 = .ok (.iastore, 1) := by decide +kernel
theorem dX3_levels_44 : decode cX3_levels 44 = .ok (.aload_n 0, 1) := by decide +kernel
theorem dX3_levels_45 : decode cX3_levels 45 = .ok (.getfield 30, 3) := by decide +kernel
theorem dX3_levels_48 : decode cX3_levels 48 = .ok (.aload_n 0, 1) := by decide +kernel
theorem dX3_levels_49 : decode cX3_levels 49 = .ok (.getfield 24, 3) := by decide +kernel
theorem dX3_levels_52 : decode cX3_levels 52 = .ok (.invokevirtual 190, 3) := by decide +kernel
theorem dX3_levels_55 : decode cX3_levels 55 = .ok (.ifCond .eq 9, 3) := by decide +kernel
theorem dX3_levels_58 : decode cX3_levels 58 = .ok (.iload_n 2, 1) := by decide +kernel
theorem dX3_levels_59 : decode cX3_levels 59 = .ok (.iconst 1, 1) := by decide +kernel
theorem dX3_levels_60 : decode cX3_levels 60 = .ok (.iload_n 3, 1) := by decide +kernel
theorem dX3_levels_61 : decode cX3_levels 61 = .ok (.ishl, 1) := by decide +kernel
theorem dX3_levels_62 : decode cX3_levels 62 = .ok (.ior, 1) := by decide +kernel
theorem dX3_levels_63 : decode cX3_levels 63 = .ok (.istore_n 2, 1) := by decide +kernel
theorem dX3_levels_64 : decode cX3_levels 64 = .ok (.iinc 3 1, 3) := by decide +kernel
theorem dX3_levels_67 : decode cX3_levels 67 = .ok (.goto (-39), 3) := by decide +kernel
theorem dX3_levels_70 : decode cX3_levels 70 = .ok (.iload_n 2, 1) := by decide +kernel
theorem dX3_levels_71 : decode cX3_levels 71 = .ok (.ireturn, 1) := by decide +kernel
theorem dX3_cuts_0 : decode cX3_cuts 0 = .ok (.aload_n 0, 1) := by decide +kernel
theorem dX3_cuts_1 : decode cX3_cuts 1 = .ok (.getfield 20, 3) := by decide +kernel
theorem dX3_cuts_4 : decode cX3_cuts 4 = .ok (.invokevirtual 125, 3) := by decide +kernel
theorem dX3_cuts_7 : decode cX3_cuts 7 = .ok (.ifCond .ne 6, 3) := by decide +kernel
theorem dX3_cuts_10 : decode cX3_cuts 10 = .ok (.bipush (-3), 2) := by decide +kernel
theorem dX3_cuts_12 : decode cX3_cuts 12 = .ok (.ireturn, 1) := by decide +kernel
theorem dX3_cuts_13 : decode cX3_cuts 13 = .ok (.aload_n 0, 1) := by decide +kernel
theorem dX3_cuts_14 : decode cX3_cuts 14 = .ok (.getfield 24, 3) := by decide +kernel
theorem dX3_cuts_17 : decode cX3_cuts 17 = .ok (.aload_n 0, 1) := by decide +kernel
theorem dX3_cuts_18 : decode cX3_cuts 18 = .ok (.getfield 20, 3) := by decide +kernel
theorem dX3_cuts_21 : decode cX3_cuts 21 = .ok (.invokevirtual 65, 3) := by decide +kernel
theorem dX3_cuts_24 : decode cX3_cuts 24 = .ok (.iconst 0, 1) := by decide +kernel
theorem dX3_cuts_25 : decode cX3_cuts 25 = .ok (.istore_n 1, 1) := by decide +kernel
theorem dX3_cuts_26 : decode cX3_cuts 26 = .ok (.iconst 1, 1) := by decide +kernel
theorem dX3_cuts_27 : decode cX3_cuts 27 = .ok (.istore_n 2, 1) := by decide +kernel
theorem dX3_cuts_28 : decode cX3_cuts 28 = .ok (.iload_n 2, 1) := by decide +kernel
theorem dX3_cuts_29 : decode cX3_cuts 29 = .ok (.bipush 8, 2) := by decide +kernel
theorem dX3_cuts_31 : decode cX3_cuts 31 = .ok (.if_icmp .gt 37, 3) := by decide +kernel
theorem dX3_cuts_34 : decode cX3_cuts 34 = .ok (.aload_n 0, 1) := by decide +kernel
theorem dX3_cuts_35 : decode cX3_cuts 35 = .ok (.getfield 24, 3) := by decide +kernel
theorem dX3_cuts_38 : decode cX3_cuts 38 = .ok (.iload_n 2, 1) := by decide +kernel
theorem dX3_cuts_39 : decode cX3_cuts 39 = .ok (.invokevirtual 132, 3) := by decide +kernel
theorem dX3_cuts_42 : decode cX3_cuts 42 = .ok (.aload_n 0, 1) := by decide +kernel
theorem dX3_cuts_43 : decode cX3_cuts 43 = .ok (.getfield 30, 3) := by decide +kernel
theorem dX3_cuts_46 : decode cX3_cuts 46 = .ok (.aload_n 0, 1) := by decide +kernel
theorem dX3_cuts_47 : decode cX3_cuts 47 = .ok (.getfield 24, 3) := by decide +kernel
theorem dX3_cuts_50 : decode cX3_cuts 50 = .ok (.invokevirtual 190, 3) := by decide +kernel
theorem dX3_cuts_53 : decode cX3_cuts 53 = .ok (.ifCond .eq 9, 3) := by decide +kernel
theorem dX3_cuts_56 : decode cX3_cuts 56 = .ok (.iload_n 1, 1) := by decide +kernel
theorem dX3_cuts_57 : decode cX3_cuts 57 = .ok (.iconst 1, 1) := by decide +kernel
theorem dX3_cuts_58 : decode cX3_cuts 58 = .ok (.iload_n 2, 1) := by decide +kernel
theorem dX3_cuts_59 : decode cX3_cuts 59 = .ok (.ishl, 1) := by decide +kernel
theorem dX3_cuts_60 : decode cX3_cuts 60 = .ok (.ior, 1) := by decide +kernel
theorem dX3_cuts_61 : decode cX3_cuts 61 = .ok (.istore_n 1, 1) := by decide +kernel
theorem dX3_cuts_62 : decode cX3_cuts 62 = .ok (.iinc 2 1, 3) := by decide +kernel
theorem dX3_cuts_65 : decode cX3_cuts 65 = .ok (.goto (-37), 3) := by decide +kernel
theorem dX3_cuts_68 : decode cX3_cuts 68 = .ok (.iload_n 1, 1) := by decide +kernel
theorem dX3_cuts_69 : decode cX3_cuts 69 = .ok (.ireturn, 1) := by decide +kernel
theorem dX3_odds_0 : decode cX3_odds 0 = .ok (.iload_n 1, 1) := by decide +kernel
theorem dX3_odds_1 : decode cX3_odds 1 = .ok (.invokestatic 136, 3) := by decide +kernel
theorem dX3_odds_4 : decode cX3_odds 4 = .ok (.ifCond .eq 22, 3) := by decide +kernel
theorem dX3_odds_7 : decode cX3_odds 7 = .ok (.iload_n 2, 1) := by decide +kernel
theorem dX3_odds_8 : decode cX3_odds 8 = .ok (.ifCond .lt 18, 3) := by decide +kernel
theorem dX3_odds_11 : decode cX3_odds 11 = .ok (.iload_n 2, 1) := by decide +kernel
theorem dX3_odds_12 : decode cX3_odds 12 = .ok (.bipush 16, 2) := by decide +kernel
theorem dX3_odds_14 : decode cX3_odds 14 = .ok (.if_icmp .gt 12, 3) := by decide +kernel
theorem dX3_odds_17 : decode cX3_odds 17 = .ok (.iload_n 3, 1) := by decide +kernel
theorem dX3_odds_18 : decode cX3_odds 18 = .ok (.ifCond .lt 8, 3) := by decide +kernel
theorem dX3_odds_21 : decode cX3_odds 21 = .ok (.iload_n 3, 1) := by decide +kernel
theorem dX3_odds_22 : decode cX3_odds 22 = .ok (.iconst 1, 1) := by decide +kernel
theorem dX3_odds_23 : decode cX3_odds 23 = .ok (.if_icmp .le 7, 3) := by decide +kernel
theorem dX3_odds_26 : decode cX3_odds 26 = .ok (.ldc2_w 194, 3) := by decide +kernel
theorem dX3_odds_29 : decode cX3_odds 29 = .ok (.lreturn, 1) := by decide +kernel
theorem dX3_odds_30 : decode cX3_odds 30 = .ok (.aload_n 0, 1) := by decide +kernel
theorem dX3_odds_31 : decode cX3_odds 31 = .ok (.getfield 20, 3) := by decide +kernel
theorem dX3_odds_34 : decode cX3_odds 34 = .ok (.invokevirtual 125, 3) := by decide +kernel
theorem dX3_odds_37 : decode cX3_odds 37 = .ok (.ifCond .ne 7, 3) := by decide +kernel
theorem dX3_odds_40 : decode cX3_odds 40 = .ok (.ldc2_w 194, 3) := by decide +kernel
theorem dX3_odds_43 : decode cX3_odds 43 = .ok (.lreturn, 1) := by decide +kernel
theorem dX3_odds_44 : decode cX3_odds 44 = .ok (.aload_n 0, 1) := by decide +kernel
theorem dX3_odds_45 : decode cX3_odds 45 = .ok (.aload_n 0, 1) := by decide +kernel
theorem dX3_odds_46 : decode cX3_odds 46 = .ok (.getfield 20, 3) := by decide +kernel
theorem dX3_odds_49 : decode cX3_odds 49 = .ok (.getfield 139, 3) := by decide +kernel
theorem dX3_odds_52 : decode cX3_odds 52 = .ok (.iload_n 1, 1) := by decide +kernel
theorem dX3_odds_53 : decode cX3_odds 53 = .ok (.iaload, 1) := by decide +kernel
theorem dX3_odds_54 : decode cX3_odds 54 = .ok (.invokevirtual 196, 3) := by decide +kernel
theorem dX3_odds_57 : decode cX3_odds 57 = .ok (.lconst 0, 1) := by decide +kernel
theorem dX3_odds_58 : decode cX3_odds 58 = .ok (.lstore 4, 2) := by decide +kernel
theorem dX3_odds_60 : decode cX3_odds 60 = .ok (.lconst 0, 1) := by decide +kernel
theorem dX3_odds_61 : decode cX3_odds 61 = .ok (.lstore 6, 2) := by decide +kernel
theorem dX3_odds_63 : decode cX3_odds 63 = .ok (.iconst 0, 1) := by decide +kernel
theorem dX3_odds_64 : decode cX3_odds 64 = .ok (.istore 8, 2) := by decide +kernel
theorem dX3_odds_66 : decode cX3_odds 66 = .ok (.iload 8, 2) := by decide +kernel
theorem dX3_odds_68 : decode cX3_odds 68 = .ok (.bipush 16, 2) := by decide +kernel
theorem dX3_odds_70 : decode cX3_odds 70 = .ok (.if_icmp .gt 39, 3) := by decide +kernel
theorem dX3_odds_73 : decode cX3_odds 73 = .ok (.lload 6, 2) := by decide +kernel
theorem dX3_odds_75 : decode cX3_odds 75 = .ok (.aload_n 0, 1) := by decide +kernel
theorem dX3_odds_76 : decode cX3_odds 76 = .ok (.getfield 34, 3) := by decide +kernel
theorem dX3_odds_79 : decode cX3_odds 79 = .ok (.iload 8, 2) := by decide +kernel
theorem dX3_odds_81 : decode cX3_odds 81 = .ok (.laload, 1) := by decide +kernel
theorem dX3_odds_82 : decode cX3_odds 82 = .ok (.ladd, 1) := by decide +kernel
theorem dX3_odds_83 : decode cX3_odds 83 = .ok (.lstore 6, 2) := by decide +kernel
theorem dX3_odds_85 : decode cX3_odds 85 = .ok (.iload 8, 2) := by decide +kernel
theorem dX3_odds_87 : decode cX3_odds 87 = .ok (.iload_n 2, 1) := by decide +kernel
theorem dX3_odds_88 : decode cX3_odds 88 = .ok (.if_icmp .lt 15, 3) := by decide +kernel
theorem dX3_odds_91 : decode cX3_odds 91 = .ok (.lload 4, 2) := by decide +kernel
theorem dX3_odds_93 : decode cX3_odds 93 = .ok (.aload_n 0, 1) := by decide +kernel
theorem dX3_odds_94 : decode cX3_odds 94 = .ok (.getfield 34, 3) := by decide +kernel
theorem dX3_odds_97 : decode cX3_odds 97 = .ok (.iload 8, 2) := by decide +kernel
theorem dX3_odds_99 : decode cX3_odds 99 = .ok (.laload, 1) := by decide +kernel
theorem dX3_odds_100 : decode cX3_odds 100 = .ok (.ladd, 1) := by decide +kernel
theorem dX3_odds_101 : decode cX3_odds 101 = .ok (.lstore 4, 2) := by decide +kernel
theorem dX3_odds_103 : decode cX3_odds 103 = .ok (.iinc 8 1, 3) := by decide +kernel
theorem dX3_odds_106 : decode cX3_odds 106 = .ok (.goto (-40), 3) := by decide +kernel
theorem dX3_odds_109 : decode cX3_odds 109 = .ok (.lload 4, 2) := by decide +kernel
theorem dX3_odds_111 : decode cX3_odds 111 = .ok (.lload 6, 2) := by decide +kernel
theorem dX3_odds_113 : decode cX3_odds 113 = .ok (.invokestatic 199, 3) := by decide +kernel
theorem dX3_odds_116 : decode cX3_odds 116 = .ok (.lstore 8, 2) := by decide +kernel
theorem dX3_odds_118 : decode cX3_odds 118 = .ok (.lload 8, 2) := by decide +kernel
theorem dX3_odds_120 : decode cX3_odds 120 = .ok (.lconst 0, 1) := by decide +kernel
theorem dX3_odds_121 : decode cX3_odds 121 = .ok (.lcmp, 1) := by decide +kernel
theorem dX3_odds_122 : decode cX3_odds 122 = .ok (.ifCond .ne 7, 3) := by decide +kernel
theorem dX3_odds_125 : decode cX3_odds 125 = .ok (.ldc2_w 194, 3) := by decide +kernel
theorem dX3_odds_128 : decode cX3_odds 128 = .ok (.lreturn, 1) := by decide +kernel
theorem dX3_odds_129 : decode cX3_odds 129 = .ok (.iload_n 3, 1) := by decide +kernel
theorem dX3_odds_130 : decode cX3_odds 130 = .ok (.ifCond .ne 8, 3) := by decide +kernel
theorem dX3_odds_133 : decode cX3_odds 133 = .ok (.lload 4, 2) := by decide +kernel
theorem dX3_odds_135 : decode cX3_odds 135 = .ok (.goto 5, 3) := by decide +kernel
theorem dX3_odds_138 : decode cX3_odds 138 = .ok (.lload 6, 2) := by decide +kernel
theorem dX3_odds_140 : decode cX3_odds 140 = .ok (.lload 8, 2) := by decide +kernel
theorem dX3_odds_142 : decode cX3_odds 142 = .ok (.ldiv, 1) := by decide +kernel
theorem dX3_odds_143 : decode cX3_odds 143 = .ok (.lreturn, 1) := by decide +kernel
theorem dX3_sheet_0 : decode cX3_sheet 0 = .ok (.aload_n 0, 1) := by decide +kernel
theorem dX3_sheet_1 : decode cX3_sheet 1 = .ok (.iconst 0, 1) := by decide +kernel
theorem dX3_sheet_2 : decode cX3_sheet 2 = .ok (.putfield 42, 3) := by decide +kernel
theorem dX3_sheet_5 : decode cX3_sheet 5 = .ok (.iload_n 1, 1) := by decide +kernel
theorem dX3_sheet_6 : decode cX3_sheet 6 = .ok (.invokestatic 46, 3) := by decide +kernel
theorem dX3_sheet_9 : decode cX3_sheet 9 = .ok (.ifCond .ne 5, 3) := by decide +kernel
theorem dX3_sheet_12 : decode cX3_sheet 12 = .ok (.iconst (-1), 1) := by decide +kernel
theorem dX3_sheet_13 : decode cX3_sheet 13 = .ok (.ireturn, 1) := by decide +kernel
theorem dX3_sheet_14 : decode cX3_sheet 14 = .ok (.iload_n 2, 1) := by decide +kernel
theorem dX3_sheet_15 : decode cX3_sheet 15 = .ok (.invokestatic 50, 3) := by decide +kernel
theorem dX3_sheet_18 : decode cX3_sheet 18 = .ok (.ifCond .eq 9, 3) := by decide +kernel
theorem dX3_sheet_21 : decode cX3_sheet 21 = .ok (.iload_n 3, 1) := by decide +kernel
theorem dX3_sheet_22 : decode cX3_sheet 22 = .ok (.bipush 60, 2) := by decide +kernel
theorem dX3_sheet_24 : decode cX3_sheet 24 = .ok (.if_icmp .le 6, 3) := by decide +kernel
theorem dX3_sheet_27 : decode cX3_sheet 27 = .ok (.bipush (-2), 2) := by decide +kernel
theorem dX3_sheet_29 : decode cX3_sheet 29 = .ok (.ireturn, 1) := by decide +kernel
theorem dX3_sheet_30 : decode cX3_sheet 30 = .ok (.iload_n 3, 1) := by decide +kernel
theorem dX3_sheet_31 : decode cX3_sheet 31 = .ok (.ifCond .ge 9, 3) := by decide +kernel
theorem dX3_sheet_34 : decode cX3_sheet 34 = .ok (.aload_n 0, 1) := by decide +kernel
theorem dX3_sheet_35 : decode cX3_sheet 35 = .ok (.iconst 4, 1) := by decide +kernel
theorem dX3_sheet_36 : decode cX3_sheet 36 = .ok (.invokevirtual 57, 3) := by decide +kernel
theorem dX3_sheet_39 : decode cX3_sheet 39 = .ok (.ireturn, 1) := by decide +kernel
theorem dX3_sheet_40 : decode cX3_sheet 40 = .ok (.aload_n 0, 1) := by decide +kernel
theorem dX3_sheet_41 : decode cX3_sheet 41 = .ok (.getfield 13, 3) := by decide +kernel
theorem dX3_sheet_44 : decode cX3_sheet 44 = .ok (.iload_n 1, 1) := by decide +kernel
theorem dX3_sheet_45 : decode cX3_sheet 45 = .ok (.aaload, 1) := by decide +kernel
theorem dX3_sheet_46 : decode cX3_sheet 46 = .ok (.iload_n 2, 1) := by decide +kernel
theorem dX3_sheet_47 : decode cX3_sheet 47 = .ok (.iload_n 3, 1) := by decide +kernel
theorem dX3_sheet_48 : decode cX3_sheet 48 = .ok (.invokevirtual 203, 3) := by decide +kernel
theorem dX3_sheet_51 : decode cX3_sheet 51 = .ok (.iconst 1, 1) := by decide +kernel
theorem dX3_sheet_52 : decode cX3_sheet 52 = .ok (.ireturn, 1) := by decide +kernel
theorem dX3_lose_0 : decode cX3_lose 0 = .ok (.iload_n 1, 1) := by decide +kernel
theorem dX3_lose_1 : decode cX3_lose 1 = .ok (.invokestatic 46, 3) := by decide +kernel
theorem dX3_lose_4 : decode cX3_lose 4 = .ok (.ifCond .ne 5, 3) := by decide +kernel
theorem dX3_lose_7 : decode cX3_lose 7 = .ok (.iconst (-1), 1) := by decide +kernel
theorem dX3_lose_8 : decode cX3_lose 8 = .ok (.ireturn, 1) := by decide +kernel
theorem dX3_lose_9 : decode cX3_lose 9 = .ok (.aload_n 0, 1) := by decide +kernel
theorem dX3_lose_10 : decode cX3_lose 10 = .ok (.getfield 13, 3) := by decide +kernel
theorem dX3_lose_13 : decode cX3_lose 13 = .ok (.iload_n 1, 1) := by decide +kernel
theorem dX3_lose_14 : decode cX3_lose 14 = .ok (.aaload, 1) := by decide +kernel
theorem dX3_lose_15 : decode cX3_lose 15 = .ok (.getfield 207, 3) := by decide +kernel
theorem dX3_lose_18 : decode cX3_lose 18 = .ok (.istore_n 2, 1) := by decide +kernel
theorem dX3_lose_19 : decode cX3_lose 19 = .ok (.aload_n 0, 1) := by decide +kernel
theorem dX3_lose_20 : decode cX3_lose 20 = .ok (.getfield 13, 3) := by decide +kernel
theorem dX3_lose_23 : decode cX3_lose 23 = .ok (.iload_n 1, 1) := by decide +kernel
theorem dX3_lose_24 : decode cX3_lose 24 = .ok (.aaload, 1) := by decide +kernel
theorem dX3_lose_25 : decode cX3_lose 25 = .ok (.iconst 0, 1) := by decide +kernel
theorem dX3_lose_26 : decode cX3_lose 26 = .ok (.putfield 207, 3) := by decide +kernel
theorem dX3_lose_29 : decode cX3_lose 29 = .ok (.iload_n 2, 1) := by decide +kernel
theorem dX3_lose_30 : decode cX3_lose 30 = .ok (.ifCond .eq 7, 3) := by decide +kernel
theorem dX3_lose_33 : decode cX3_lose 33 = .ok (.iconst 1, 1) := by decide +kernel
theorem dX3_lose_34 : decode cX3_lose 34 = .ok (.goto 4, 3) := by decide +kernel
theorem dX3_lose_37 : decode cX3_lose 37 = .ok (.iconst 0, 1) := by decide +kernel
theorem dX3_lose_38 : decode cX3_lose 38 = .ok (.ireturn, 1) := by decide +kernel
theorem dX3_put_0 : decode cX3_put 0 = .ok (.aload_n 0, 1) := by decide +kernel
theorem dX3_put_1 : decode cX3_put 1 = .ok (.iconst 0, 1) := by decide +kernel
theorem dX3_put_2 : decode cX3_put 2 = .ok (.putfield 42, 3) := by decide +kernel
theorem dX3_put_5 : decode cX3_put 5 = .ok (.iload_n 1, 1) := by decide +kernel
theorem dX3_put_6 : decode cX3_put 6 = .ok (.invokestatic 46, 3) := by decide +kernel
theorem dX3_put_9 : decode cX3_put 9 = .ok (.ifCond .ne 5, 3) := by decide +kernel
theorem dX3_put_12 : decode cX3_put 12 = .ok (.iconst (-1), 1) := by decide +kernel
theorem dX3_put_13 : decode cX3_put 13 = .ok (.ireturn, 1) := by decide +kernel
theorem dX3_put_14 : decode cX3_put 14 = .ok (.aload_n 0, 1) := by decide +kernel
theorem dX3_put_15 : decode cX3_put 15 = .ok (.getfield 13, 3) := by decide +kernel
theorem dX3_put_18 : decode cX3_put 18 = .ok (.iload_n 1, 1) := by decide +kernel
theorem dX3_put_19 : decode cX3_put 19 = .ok (.aaload, 1) := by decide +kernel
theorem dX3_put_20 : decode cX3_put 20 = .ok (.astore 4, 2) := by decide +kernel
theorem dX3_put_22 : decode cX3_put 22 = .ok (.aload 4, 2) := by decide +kernel
theorem dX3_put_24 : decode cX3_put 24 = .ok (.aload 4, 2) := by decide +kernel
theorem dX3_put_26 : decode cX3_put 26 = .ok (.getfield 211, 3) := by decide +kernel
theorem dX3_put_29 : decode cX3_put 29 = .ok (.iload_n 2, 1) := by decide +kernel
theorem dX3_put_30 : decode cX3_put 30 = .ok (.iconst 1, 1) := by decide +kernel
theorem dX3_put_31 : decode cX3_put 31 = .ok (.invokevirtual 53, 3) := by decide +kernel
theorem dX3_put_34 : decode cX3_put 34 = .ok (.istore 5, 2) := by decide +kernel
theorem dX3_put_36 : decode cX3_put 36 = .ok (.iload 5, 2) := by decide +kernel
theorem dX3_put_38 : decode cX3_put 38 = .ok (.ifCond .eq 10, 3) := by decide +kernel
theorem dX3_put_41 : decode cX3_put 41 = .ok (.aload_n 0, 1) := by decide +kernel
theorem dX3_put_42 : decode cX3_put 42 = .ok (.iload 5, 2) := by decide +kernel
theorem dX3_put_44 : decode cX3_put 44 = .ok (.invokevirtual 57, 3) := by decide +kernel
theorem dX3_put_47 : decode cX3_put 47 = .ok (.ireturn, 1) := by decide +kernel
theorem dX3_put_48 : decode cX3_put 48 = .ok (.aload 4, 2) := by decide +kernel
theorem dX3_put_50 : decode cX3_put 50 = .ok (.getfield 167, 3) := by decide +kernel
theorem dX3_put_53 : decode cX3_put 53 = .ok (.iload_n 2, 1) := by decide +kernel
theorem dX3_put_54 : decode cX3_put 54 = .ok (.aload 4, 2) := by decide +kernel
theorem dX3_put_56 : decode cX3_put 56 = .ok (.iload_n 3, 1) := by decide +kernel
theorem dX3_put_57 : decode cX3_put 57 = .ok (.invokevirtual 214, 3) := by decide +kernel
theorem dX3_put_60 : decode cX3_put 60 = .ok (.iastore, 1) := by decide +kernel
theorem dX3_put_61 : decode cX3_put 61 = .ok (.iconst 1, 1) := by decide +kernel
theorem dX3_put_62 : decode cX3_put 62 = .ok (.ireturn, 1) := by decide +kernel
theorem dX3_cell_0 : decode cX3_cell 0 = .ok (.aload_n 0, 1) := by decide +kernel
theorem dX3_cell_1 : decode cX3_cell 1 = .ok (.iconst 0, 1) := by decide +kernel
theorem dX3_cell_2 : decode cX3_cell 2 = .ok (.putfield 42, 3) := by decide +kernel
theorem dX3_cell_5 : decode cX3_cell 5 = .ok (.iload_n 1, 1) := by decide +kernel
theorem dX3_cell_6 : decode cX3_cell 6 = .ok (.invokestatic 46, 3) := by decide +kernel
theorem dX3_cell_9 : decode cX3_cell 9 = .ok (.ifCond .eq 10, 3) := by decide +kernel
theorem dX3_cell_12 : decode cX3_cell 12 = .ok (.iload_n 3, 1) := by decide +kernel
theorem dX3_cell_13 : decode cX3_cell 13 = .ok (.invokestatic 50, 3) := by decide +kernel
theorem dX3_cell_16 : decode cX3_cell 16 = .ok (.ifCond .ne 7, 3) := by decide +kernel
theorem dX3_cell_19 : decode cX3_cell 19 = .ok (.ldc2_w 194, 3) := by decide +kernel
theorem dX3_cell_22 : decode cX3_cell 22 = .ok (.lreturn, 1) := by decide +kernel
theorem dX3_cell_23 : decode cX3_cell 23 = .ok (.aload_n 0, 1) := by decide +kernel
theorem dX3_cell_24 : decode cX3_cell 24 = .ok (.getfield 13, 3) := by decide +kernel
theorem dX3_cell_27 : decode cX3_cell 27 = .ok (.iload_n 1, 1) := by decide +kernel
theorem dX3_cell_28 : decode cX3_cell 28 = .ok (.aaload, 1) := by decide +kernel
theorem dX3_cell_29 : decode cX3_cell 29 = .ok (.astore 4, 2) := by decide +kernel
theorem dX3_cell_31 : decode cX3_cell 31 = .ok (.aload_n 0, 1) := by decide +kernel
theorem dX3_cell_32 : decode cX3_cell 32 = .ok (.aload 4, 2) := by decide +kernel
theorem dX3_cell_34 : decode cX3_cell 34 = .ok (.iload_n 3, 1) := by decide +kernel
theorem dX3_cell_35 : decode cX3_cell 35 = .ok (.iload_n 2, 1) := by decide +kernel
theorem dX3_cell_36 : decode cX3_cell 36 = .ok (.iconst 1, 1) := by decide +kernel
theorem dX3_cell_37 : decode cX3_cell 37 = .ok (.invokevirtual 53, 3) := by decide +kernel
theorem dX3_cell_40 : decode cX3_cell 40 = .ok (.putfield 42, 3) := by decide +kernel
theorem dX3_cell_43 : decode cX3_cell 43 = .ok (.aload_n 0, 1) := by decide +kernel
theorem dX3_cell_44 : decode cX3_cell 44 = .ok (.getfield 42, 3) := by decide +kernel
theorem dX3_cell_47 : decode cX3_cell 47 = .ok (.ifCond .eq 9, 3) := by decide +kernel
theorem dX3_cell_50 : decode cX3_cell 50 = .ok (.ldc2_w 194, 3) := by decide +kernel
theorem dX3_cell_53 : decode cX3_cell 53 = .ok (.goto 11, 3) := by decide +kernel
theorem dX3_cell_56 : decode cX3_cell 56 = .ok (.aload 4, 2) := by decide +kernel
theorem dX3_cell_58 : decode cX3_cell 58 = .ok (.getfield 167, 3) := by decide +kernel
theorem dX3_cell_61 : decode cX3_cell 61 = .ok (.iload_n 2, 1) := by decide +kernel
theorem dX3_cell_62 : decode cX3_cell 62 = .ok (.iaload, 1) := by decide +kernel
theorem dX3_cell_63 : decode cX3_cell 63 = .ok (.i2l, 1) := by decide +kernel
theorem dX3_cell_64 : decode cX3_cell 64 = .ok (.lreturn, 1) := by decide +kernel
theorem dX3_copy_0 : decode cX3_copy 0 = .ok (.aload_n 0, 1) := by decide +kernel
theorem dX3_copy_1 : decode cX3_copy 1 = .ok (.iconst 0, 1) := by decide +kernel
theorem dX3_copy_2 : decode cX3_copy 2 = .ok (.putfield 42, 3) := by decide +kernel
theorem dX3_copy_5 : decode cX3_copy 5 = .ok (.iload_n 1, 1) := by decide +kernel
theorem dX3_copy_6 : decode cX3_copy 6 = .ok (.invokestatic 46, 3) := by decide +kernel
theorem dX3_copy_9 : decode cX3_copy 9 = .ok (.ifCond .eq 10, 3) := by decide +kernel
theorem dX3_copy_12 : decode cX3_copy 12 = .ok (.iload_n 3, 1) := by decide +kernel
theorem dX3_copy_13 : decode cX3_copy 13 = .ok (.invokestatic 46, 3) := by decide +kernel
theorem dX3_copy_16 : decode cX3_copy 16 = .ok (.ifCond .ne 5, 3) := by decide +kernel
theorem dX3_copy_19 : decode cX3_copy 19 = .ok (.iconst (-1), 1) := by decide +kernel
theorem dX3_copy_20 : decode cX3_copy 20 = .ok (.ireturn, 1) := by decide +kernel
theorem dX3_copy_21 : decode cX3_copy 21 = .ok (.aload_n 0, 1) := by decide +kernel
theorem dX3_copy_22 : decode cX3_copy 22 = .ok (.getfield 13, 3) := by decide +kernel
theorem dX3_copy_25 : decode cX3_copy 25 = .ok (.iload_n 1, 1) := by decide +kernel
theorem dX3_copy_26 : decode cX3_copy 26 = .ok (.aaload, 1) := by decide +kernel
theorem dX3_copy_27 : decode cX3_copy 27 = .ok (.astore 6, 2) := by decide +kernel
theorem dX3_copy_29 : decode cX3_copy 29 = .ok (.aload_n 0, 1) := by decide +kernel
theorem dX3_copy_30 : decode cX3_copy 30 = .ok (.getfield 13, 3) := by decide +kernel
theorem dX3_copy_33 : decode cX3_copy 33 = .ok (.iload_n 3, 1) := by decide +kernel
theorem dX3_copy_34 : decode cX3_copy 34 = .ok (.aaload, 1) := by decide +kernel
theorem dX3_copy_35 : decode cX3_copy 35 = .ok (.astore 7, 2) := by decide +kernel
theorem dX3_copy_37 : decode cX3_copy 37 = .ok (.aload 6, 2) := by decide +kernel
theorem dX3_copy_39 : decode cX3_copy 39 = .ok (.getfield 207, 3) := by decide +kernel
theorem dX3_copy_42 : decode cX3_copy 42 = .ok (.ifCond .eq 11, 3) := by decide +kernel
theorem dX3_copy_45 : decode cX3_copy 45 = .ok (.aload 7, 2) := by decide +kernel
theorem dX3_copy_47 : decode cX3_copy 47 = .ok (.getfield 207, 3) := by decide +kernel
theorem dX3_copy_50 : decode cX3_copy 50 = .ok (.ifCond .ne 9, 3) := by decide +kernel
theorem dX3_copy_53 : decode cX3_copy 53 = .ok (.aload_n 0, 1) := by decide +kernel
theorem dX3_copy_54 : decode cX3_copy 54 = .ok (.iconst 1, 1) := by decide +kernel
theorem dX3_copy_55 : decode cX3_copy 55 = .ok (.invokevirtual 57, 3) := by decide +kernel
theorem dX3_copy_58 : decode cX3_copy 58 = .ok (.ireturn, 1) := by decide +kernel
theorem dX3_copy_59 : decode cX3_copy 59 = .ok (.aload 6, 2) := by decide +kernel
theorem dX3_copy_61 : decode cX3_copy 61 = .ok (.getfield 211, 3) := by decide +kernel
theorem dX3_copy_64 : decode cX3_copy 64 = .ok (.aload 7, 2) := by decide +kernel
theorem dX3_copy_66 : decode cX3_copy 66 = .ok (.getfield 211, 3) := by decide +kernel
theorem dX3_copy_69 : decode cX3_copy 69 = .ok (.if_icmp .eq 9, 3) := by decide +kernel
theorem dX3_copy_72 : decode cX3_copy 72 = .ok (.aload_n 0, 1) := by decide +kernel
theorem dX3_copy_73 : decode cX3_copy 73 = .ok (.iconst 2, 1) := by decide +kernel
theorem dX3_copy_74 : decode cX3_copy 74 = .ok (.invokevirtual 57, 3) := by decide +kernel
theorem dX3_copy_77 : decode cX3_copy 77 = .ok (.ireturn, 1) := by decide +kernel
theorem dX3_copy_78 : decode cX3_copy 78 = .ok (.iload 5, 2) := by decide +kernel
theorem dX3_copy_80 : decode cX3_copy 80 = .ok (.ifCond .lt 26, 3) := by decide +kernel
theorem dX3_copy_83 : decode cX3_copy 83 = .ok (.aload 6, 2) := by decide +kernel
theorem dX3_copy_85 : decode cX3_copy 85 = .ok (.iload_n 2, 1) := by decide +kernel
theorem dX3_copy_86 : decode cX3_copy 86 = .ok (.iload 5, 2) := by decide +kernel
theorem dX3_copy_88 : decode cX3_copy 88 = .ok (.invokevirtual 217, 3) := by decide +kernel
theorem dX3_copy_91 : decode cX3_copy 91 = .ok (.ifCond .eq 15, 3) := by decide +kernel
theorem dX3_copy_94 : decode cX3_copy 94 = .ok (.aload 7, 2) := by decide +kernel
theorem dX3_copy_96 : decode cX3_copy 96 = .ok (.iload 4, 2) := by decide +kernel
theorem dX3_copy_98 : decode cX3_copy 98 = .ok (.iload 5, 2) := by decide +kernel
theorem dX3_copy_100 : decode cX3_copy 100 = .ok (.invokevirtual 217, 3) := by decide +kernel
theorem dX3_copy_103 : decode cX3_copy 103 = .ok (.ifCond .ne 9, 3) := by decide +kernel
theorem dX3_copy_106 : decode cX3_copy 106 = .ok (.aload_n 0, 1) := by decide +kernel
theorem dX3_copy_107 : decode cX3_copy 107 = .ok (.iconst 3, 1) := by decide +kernel
theorem dX3_copy_108 : decode cX3_copy 108 = .ok (.invokevirtual 57, 3) := by decide +kernel
theorem dX3_copy_111 : decode cX3_copy 111 = .ok (.ireturn, 1) := by decide +kernel
theorem dX3_copy_112 : decode cX3_copy 112 = .ok (.aload 6, 2) := by decide +kernel
theorem dX3_copy_114 : decode cX3_copy 114 = .ok (.getfield 167, 3) := by decide +kernel
theorem dX3_copy_117 : decode cX3_copy 117 = .ok (.iload_n 2, 1) := by decide +kernel
theorem dX3_copy_118 : decode cX3_copy 118 = .ok (.aload 7, 2) := by decide +kernel
theorem dX3_copy_120 : decode cX3_copy 120 = .ok (.getfield 167, 3) := by decide +kernel
theorem dX3_copy_123 : decode cX3_copy 123 = .ok (.iload 4, 2) := by decide +kernel
theorem dX3_copy_125 : decode cX3_copy 125 = .ok (.iload 5, 2) := by decide +kernel
theorem dX3_copy_127 : decode cX3_copy 127 = .ok (.invokestatic 220, 3) := by decide +kernel
theorem dX3_copy_130 : decode cX3_copy 130 = .ok (.iload 5, 2) := by decide +kernel
theorem dX3_copy_132 : decode cX3_copy 132 = .ok (.ireturn, 1) := by decide +kernel
theorem dX3_tell_0 : decode cX3_tell 0 = .ok (.aload_n 0, 1) := by decide +kernel
theorem dX3_tell_1 : decode cX3_tell 1 = .ok (.getfield 20, 3) := by decide +kernel
theorem dX3_tell_4 : decode cX3_tell 4 = .ok (.iload_n 1, 1) := by decide +kernel
theorem dX3_tell_5 : decode cX3_tell 5 = .ok (.invokevirtual 75, 3) := by decide +kernel
theorem dX3_tell_8 : decode cX3_tell 8 = .ok (.ifCond .ne 5, 3) := by decide +kernel
theorem dX3_tell_11 : decode cX3_tell 11 = .ok (.iconst (-1), 1) := by decide +kernel
theorem dX3_tell_12 : decode cX3_tell 12 = .ok (.ireturn, 1) := by decide +kernel
theorem dX3_tell_13 : decode cX3_tell 13 = .ok (.aload_n 0, 1) := by decide +kernel
theorem dX3_tell_14 : decode cX3_tell 14 = .ok (.getfield 20, 3) := by decide +kernel
theorem dX3_tell_17 : decode cX3_tell 17 = .ok (.getfield 78, 3) := by decide +kernel
theorem dX3_tell_20 : decode cX3_tell 20 = .ok (.iload_n 1, 1) := by decide +kernel
theorem dX3_tell_21 : decode cX3_tell 21 = .ok (.iaload, 1) := by decide +kernel
theorem dX3_tell_22 : decode cX3_tell 22 = .ok (.lookupswitch 38 #[(1, 32), (2, 26)], 26) := by decide +kernel
theorem dX3_tell_48 : decode cX3_tell 48 = .ok (.aload_n 0, 1) := by decide +kernel
theorem dX3_tell_49 : decode cX3_tell 49 = .ok (.iload_n 1, 1) := by decide +kernel
theorem dX3_tell_50 : decode cX3_tell 50 = .ok (.invokevirtual 226, 3) := by decide +kernel
theorem dX3_tell_53 : decode cX3_tell 53 = .ok (.ireturn, 1) := by decide +kernel
theorem dX3_tell_54 : decode cX3_tell 54 = .ok (.aload_n 0, 1) := by decide +kernel
theorem dX3_tell_55 : decode cX3_tell 55 = .ok (.iload_n 1, 1) := by decide +kernel
theorem dX3_tell_56 : decode cX3_tell 56 = .ok (.invokevirtual 229, 3) := by decide +kernel
theorem dX3_tell_59 : decode cX3_tell 59 = .ok (.ireturn, 1) := by decide +kernel
theorem dX3_tell_60 : decode cX3_tell 60 = .ok (.aload_n 0, 1) := by decide +kernel
theorem dX3_tell_61 : decode cX3_tell 61 = .ok (.iload_n 1, 1) := by decide +kernel
theorem dX3_tell_62 : decode cX3_tell 62 = .ok (.invokevirtual 232, 3) := by decide +kernel
theorem dX3_tell_65 : decode cX3_tell 65 = .ok (.ireturn, 1) := by decide +kernel
theorem dX3_switchOn_0 : decode cX3_switchOn 0 = .ok (.aload_n 0, 1) := by decide +kernel
theorem dX3_switchOn_1 : decode cX3_switchOn 1 = .ok (.getfield 20, 3) := by decide +kernel
theorem dX3_switchOn_4 : decode cX3_switchOn 4 = .ok (.iload_n 1, 1) := by decide +kernel
theorem dX3_switchOn_5 : decode cX3_switchOn 5 = .ok (.invokevirtual 75, 3) := by decide +kernel
theorem dX3_switchOn_8 : decode cX3_switchOn 8 = .ok (.ifCond .ne 5, 3) := by decide +kernel
theorem dX3_switchOn_11 : decode cX3_switchOn 11 = .ok (.iconst (-1), 1) := by decide +kernel
theorem dX3_switchOn_12 : decode cX3_switchOn 12 = .ok (.ireturn, 1) := by decide +kernel
theorem dX3_switchOn_13 : decode cX3_switchOn 13 = .ok (.aload_n 0, 1) := by decide +kernel
theorem dX3_switchOn_14 : decode cX3_switchOn 14 = .ok (.getfield 20, 3) := by decide +kernel
theorem dX3_switchOn_17 : decode cX3_switchOn 17 = .ok (.getfield 78, 3) := by decide +kernel
theorem dX3_switchOn_20 : decode cX3_switchOn 20 = .ok (.iload_n 1, 1) := by decide +kernel
theorem dX3_switchOn_21 : decode cX3_switchOn 21 = .ok (.iaload, 1) := by decide +kernel
theorem dX3_switchOn_22 : decode cX3_switchOn 22 = .ok (.iconst 2, 1) := by decide +kernel
theorem dX3_switchOn_23 : decode cX3_switchOn 23 = .ok (.if_icmp .ne 10, 3) := by decide +kernel
theorem dX3_switchOn_26 : decode cX3_switchOn 26 = .ok (.aload_n 0, 1) := by decide +kernel
theorem dX3_switchOn_27 : decode cX3_switchOn 27 = .ok (.invokevirtual 235, 3) := by decide +kernel
theorem dX3_switchOn_30 : decode cX3_switchOn 30 = .ok (.goto 8, 3) := by decide +kernel
theorem dX3_switchOn_33 : decode cX3_switchOn 33 = .ok (.aload_n 0, 1) := by decide +kernel
theorem dX3_switchOn_34 : decode cX3_switchOn 34 = .ok (.iload_n 1, 1) := by decide +kernel
theorem dX3_switchOn_35 : decode cX3_switchOn 35 = .ok (.invokevirtual 238, 3) := by decide +kernel
theorem dX3_switchOn_38 : decode cX3_switchOn 38 = .ok (.ireturn, 1) := by decide +kernel
theorem dX3_as_0 : decode cX3_as 0 = .ok (.aload_n 0, 1) := by decide +kernel
theorem dX3_as_1 : decode cX3_as 1 = .ok (.iconst 0, 1) := by decide +kernel
theorem dX3_as_2 : decode cX3_as 2 = .ok (.putfield 42, 3) := by decide +kernel
theorem dX3_as_5 : decode cX3_as 5 = .ok (.aload_n 0, 1) := by decide +kernel
theorem dX3_as_6 : decode cX3_as 6 = .ok (.getfield 20, 3) := by decide +kernel
theorem dX3_as_9 : decode cX3_as 9 = .ok (.iload_n 1, 1) := by decide +kernel
theorem dX3_as_10 : decode cX3_as 10 = .ok (.invokevirtual 75, 3) := by decide +kernel
theorem dX3_as_13 : decode cX3_as 13 = .ok (.ifCond .ne 5, 3) := by decide +kernel
theorem dX3_as_16 : decode cX3_as 16 = .ok (.iconst (-1), 1) := by decide +kernel
theorem dX3_as_17 : decode cX3_as 17 = .ok (.ireturn, 1) := by decide +kernel
theorem dX3_as_18 : decode cX3_as 18 = .ok (.iload_n 2, 1) := by decide +kernel
theorem dX3_as_19 : decode cX3_as 19 = .ok (.ifCond .lt 8, 3) := by decide +kernel
theorem dX3_as_22 : decode cX3_as 22 = .ok (.iload_n 2, 1) := by decide +kernel
theorem dX3_as_23 : decode cX3_as 23 = .ok (.iconst 2, 1) := by decide +kernel
theorem dX3_as_24 : decode cX3_as 24 = .ok (.if_icmp .le 6, 3) := by decide +kernel
theorem dX3_as_27 : decode cX3_as 27 = .ok (.bipush (-2), 2) := by decide +kernel
theorem dX3_as_29 : decode cX3_as 29 = .ok (.ireturn, 1) := by decide +kernel
theorem dX3_as_30 : decode cX3_as 30 = .ok (.aload_n 0, 1) := by decide +kernel
theorem dX3_as_31 : decode cX3_as 31 = .ok (.getfield 20, 3) := by decide +kernel
theorem dX3_as_34 : decode cX3_as 34 = .ok (.getfield 78, 3) := by decide +kernel
theorem dX3_as_37 : decode cX3_as 37 = .ok (.iload_n 1, 1) := by decide +kernel
theorem dX3_as_38 : decode cX3_as 38 = .ok (.iaload, 1) := by decide +kernel
theorem dX3_as_39 : decode cX3_as 39 = .ok (.iload_n 2, 1) := by decide +kernel
theorem dX3_as_40 : decode cX3_as 40 = .ok (.if_icmp .lt 7, 3) := by decide +kernel
theorem dX3_as_43 : decode cX3_as 43 = .ok (.iconst 1, 1) := by decide +kernel
theorem dX3_as_44 : decode cX3_as 44 = .ok (.goto 8, 3) := by decide +kernel
theorem dX3_as_47 : decode cX3_as 47 = .ok (.aload_n 0, 1) := by decide +kernel
theorem dX3_as_48 : decode cX3_as 48 = .ok (.iconst 2, 1) := by decide +kernel
theorem dX3_as_49 : decode cX3_as 49 = .ok (.invokevirtual 57, 3) := by decide +kernel
theorem dX3_as_52 : decode cX3_as 52 = .ok (.ireturn, 1) := by decide +kernel
theorem dX3_trace_0 : decode cX3_trace 0 = .ok (.aload_n 0, 1) := by decide +kernel
theorem dX3_trace_1 : decode cX3_trace 1 = .ok (.getfield 38, 3) := by decide +kernel
theorem dX3_trace_4 : decode cX3_trace 4 = .ok (.ireturn, 1) := by decide +kernel
theorem dX3_fault_0 : decode cX3_fault 0 = .ok (.aload_n 0, 1) := by decide +kernel
theorem dX3_fault_1 : decode cX3_fault 1 = .ok (.getfield 42, 3) := by decide +kernel
theorem dX3_fault_4 : decode cX3_fault 4 = .ok (.ireturn, 1) := by decide +kernel
theorem dX3_many_0 : decode cX3_many 0 = .ok (.iload_n 1, 1) := by decide +kernel
theorem dX3_many_1 : decode cX3_many 1 = .ok (.tableswitch 87 0 5 #[39, 47, 55, 63, 71, 79], 39) := by decide +kernel
theorem dX3_many_40 : decode cX3_many 40 = .ok (.aload_n 0, 1) := by decide +kernel
theorem dX3_many_41 : decode cX3_many 41 = .ok (.getfield 20, 3) := by decide +kernel
theorem dX3_many_44 : decode cX3_many 44 = .ok (.getfield 72, 3) := by decide +kernel
theorem dX3_many_47 : decode cX3_many 47 = .ok (.ireturn, 1) := by decide +kernel
theorem dX3_many_48 : decode cX3_many 48 = .ok (.aload_n 0, 1) := by decide +kernel
theorem dX3_many_49 : decode cX3_many 49 = .ok (.getfield 20, 3) := by decide +kernel
theorem dX3_many_52 : decode cX3_many 52 = .ok (.getfield 241, 3) := by decide +kernel
theorem dX3_many_55 : decode cX3_many 55 = .ok (.ireturn, 1) := by decide +kernel
theorem dX3_many_56 : decode cX3_many 56 = .ok (.aload_n 0, 1) := by decide +kernel
theorem dX3_many_57 : decode cX3_many 57 = .ok (.getfield 20, 3) := by decide +kernel
theorem dX3_many_60 : decode cX3_many 60 = .ok (.invokevirtual 244, 3) := by decide +kernel
theorem dX3_many_63 : decode cX3_many 63 = .ok (.ireturn, 1) := by decide +kernel
theorem dX3_many_64 : decode cX3_many 64 = .ok (.aload_n 0, 1) := by decide +kernel
theorem dX3_many_65 : decode cX3_many 65 = .ok (.getfield 20, 3) := by decide +kernel
theorem dX3_many_68 : decode cX3_many 68 = .ok (.invokevirtual 247, 3) := by decide +kernel
theorem dX3_many_71 : decode cX3_many 71 = .ok (.ireturn, 1) := by decide +kernel
theorem dX3_many_72 : decode cX3_many 72 = .ok (.aload_n 0, 1) := by decide +kernel
theorem dX3_many_73 : decode cX3_many 73 = .ok (.getfield 30, 3) := by decide +kernel
theorem dX3_many_76 : decode cX3_many 76 = .ok (.getfield 69, 3) := by decide +kernel
theorem dX3_many_79 : decode cX3_many 79 = .ok (.ireturn, 1) := by decide +kernel
theorem dX3_many_80 : decode cX3_many 80 = .ok (.aload_n 0, 1) := by decide +kernel
theorem dX3_many_81 : decode cX3_many 81 = .ok (.getfield 20, 3) := by decide +kernel
theorem dX3_many_84 : decode cX3_many 84 = .ok (.getfield 129, 3) := by decide +kernel
theorem dX3_many_87 : decode cX3_many 87 = .ok (.ireturn, 1) := by decide +kernel
theorem dX3_many_88 : decode cX3_many 88 = .ok (.bipush (-2), 2) := by decide +kernel
theorem dX3_many_90 : decode cX3_many 90 = .ok (.ireturn, 1) := by decide +kernel
theorem dX3_faulted_0 : decode cX3_faulted 0 = .ok (.aload_n 0, 1) := by decide +kernel
theorem dX3_faulted_1 : decode cX3_faulted 1 = .ok (.iload_n 1, 1) := by decide +kernel
theorem dX3_faulted_2 : decode cX3_faulted 2 = .ok (.putfield 42, 3) := by decide +kernel
theorem dX3_faulted_5 : decode cX3_faulted 5 = .ok (.bipush (-10), 2) := by decide +kernel
theorem dX3_faulted_7 : decode cX3_faulted 7 = .ok (.iload_n 1, 1) := by decide +kernel
theorem dX3_faulted_8 : decode cX3_faulted 8 = .ok (.isub, 1) := by decide +kernel
theorem dX3_faulted_9 : decode cX3_faulted 9 = .ok (.ireturn, 1) := by decide +kernel
theorem dX3_isSheet_0 : decode cX3_isSheet 0 = .ok (.iload_n 0, 1) := by decide +kernel
theorem dX3_isSheet_1 : decode cX3_isSheet 1 = .ok (.ifCond .lt 12, 3) := by decide +kernel
theorem dX3_isSheet_4 : decode cX3_isSheet 4 = .ok (.iload_n 0, 1) := by decide +kernel
theorem dX3_isSheet_5 : decode cX3_isSheet 5 = .ok (.iconst 4, 1) := by decide +kernel
theorem dX3_isSheet_6 : decode cX3_isSheet 6 = .ok (.if_icmp .ge 7, 3) := by decide +kernel
theorem dX3_isSheet_9 : decode cX3_isSheet 9 = .ok (.iconst 1, 1) := by decide +kernel
theorem dX3_isSheet_10 : decode cX3_isSheet 10 = .ok (.goto 4, 3) := by decide +kernel
theorem dX3_isSheet_13 : decode cX3_isSheet 13 = .ok (.iconst 0, 1) := by decide +kernel
theorem dX3_isSheet_14 : decode cX3_isSheet 14 = .ok (.ireturn, 1) := by decide +kernel
theorem dX3_isLane_0 : decode cX3_isLane 0 = .ok (.iload_n 0, 1) := by decide +kernel
theorem dX3_isLane_1 : decode cX3_isLane 1 = .ok (.ifCond .lt 12, 3) := by decide +kernel
theorem dX3_isLane_4 : decode cX3_isLane 4 = .ok (.iload_n 0, 1) := by decide +kernel
theorem dX3_isLane_5 : decode cX3_isLane 5 = .ok (.iconst 3, 1) := by decide +kernel
theorem dX3_isLane_6 : decode cX3_isLane 6 = .ok (.if_icmp .ge 7, 3) := by decide +kernel
theorem dX3_isLane_9 : decode cX3_isLane 9 = .ok (.iconst 1, 1) := by decide +kernel
theorem dX3_isLane_10 : decode cX3_isLane 10 = .ok (.goto 4, 3) := by decide +kernel
theorem dX3_isLane_13 : decode cX3_isLane 13 = .ok (.iconst 0, 1) := by decide +kernel
theorem dX3_isLane_14 : decode cX3_isLane 14 = .ok (.ireturn, 1) := by decide +kernel
theorem dX3_isUnit_0 : decode cX3_isUnit 0 = .ok (.iload_n 0, 1) := by decide +kernel
theorem dX3_isUnit_1 : decode cX3_isUnit 1 = .ok (.ifCond .lt 13, 3) := by decide +kernel
theorem dX3_isUnit_4 : decode cX3_isUnit 4 = .ok (.iload_n 0, 1) := by decide +kernel
theorem dX3_isUnit_5 : decode cX3_isUnit 5 = .ok (.bipush 15, 2) := by decide +kernel
theorem dX3_isUnit_7 : decode cX3_isUnit 7 = .ok (.if_icmp .ge 7, 3) := by decide +kernel
theorem dX3_isUnit_10 : decode cX3_isUnit 10 = .ok (.iconst 1, 1) := by decide +kernel
theorem dX3_isUnit_11 : decode cX3_isUnit 11 = .ok (.goto 4, 3) := by decide +kernel
theorem dX3_isUnit_14 : decode cX3_isUnit 14 = .ok (.iconst 0, 1) := by decide +kernel
theorem dX3_isUnit_15 : decode cX3_isUnit 15 = .ok (.ireturn, 1) := by decide +kernel
theorem dX3_isLevel_0 : decode cX3_isLevel 0 = .ok (.iload_n 0, 1) := by decide +kernel
theorem dX3_isLevel_1 : decode cX3_isLevel 1 = .ok (.ifCond .lt 13, 3) := by decide +kernel
theorem dX3_isLevel_4 : decode cX3_isLevel 4 = .ok (.iload_n 0, 1) := by decide +kernel
theorem dX3_isLevel_5 : decode cX3_isLevel 5 = .ok (.bipush 9, 2) := by decide +kernel
theorem dX3_isLevel_7 : decode cX3_isLevel 7 = .ok (.if_icmp .gt 7, 3) := by decide +kernel
theorem dX3_isLevel_10 : decode cX3_isLevel 10 = .ok (.iconst 1, 1) := by decide +kernel
theorem dX3_isLevel_11 : decode cX3_isLevel 11 = .ok (.goto 4, 3) := by decide +kernel
theorem dX3_isLevel_14 : decode cX3_isLevel 14 = .ok (.iconst 0, 1) := by decide +kernel
theorem dX3_isLevel_15 : decode cX3_isLevel 15 = .ok (.ireturn, 1) := by decide +kernel
theorem dX3_isCut_0 : decode cX3_isCut 0 = .ok (.iload_n 0, 1) := by decide +kernel
theorem dX3_isCut_1 : decode cX3_isCut 1 = .ok (.iconst 1, 1) := by decide +kernel
theorem dX3_isCut_2 : decode cX3_isCut 2 = .ok (.if_icmp .lt 13, 3) := by decide +kernel
theorem dX3_isCut_5 : decode cX3_isCut 5 = .ok (.iload_n 0, 1) := by decide +kernel
theorem dX3_isCut_6 : decode cX3_isCut 6 = .ok (.bipush 8, 2) := by decide +kernel
theorem dX3_isCut_8 : decode cX3_isCut 8 = .ok (.if_icmp .gt 7, 3) := by decide +kernel
theorem dX3_isCut_11 : decode cX3_isCut 11 = .ok (.iconst 1, 1) := by decide +kernel
theorem dX3_isCut_12 : decode cX3_isCut 12 = .ok (.goto 4, 3) := by decide +kernel
theorem dX3_isCut_15 : decode cX3_isCut 15 = .ok (.iconst 0, 1) := by decide +kernel
theorem dX3_isCut_16 : decode cX3_isCut 16 = .ok (.ireturn, 1) := by decide +kernel
theorem dX3_isOfDay_0 : decode cX3_isOfDay 0 = .ok (.iload_n 0, 1) := by decide +kernel
theorem dX3_isOfDay_1 : decode cX3_isOfDay 1 = .ok (.ifCond .lt 8, 3) := by decide +kernel
theorem dX3_isOfDay_4 : decode cX3_isOfDay 4 = .ok (.iload_n 0, 1) := by decide +kernel
theorem dX3_isOfDay_5 : decode cX3_isOfDay 5 = .ok (.iconst 4, 1) := by decide +kernel
theorem dX3_isOfDay_6 : decode cX3_isOfDay 6 = .ok (.if_icmp .le 15, 3) := by decide +kernel
theorem dX3_isOfDay_9 : decode cX3_isOfDay 9 = .ok (.iload_n 0, 1) := by decide +kernel
theorem dX3_isOfDay_10 : decode cX3_isOfDay 10 = .ok (.bipush 10, 2) := by decide +kernel
theorem dX3_isOfDay_12 : decode cX3_isOfDay 12 = .ok (.if_icmp .lt 13, 3) := by decide +kernel
theorem dX3_isOfDay_15 : decode cX3_isOfDay 15 = .ok (.iload_n 0, 1) := by decide +kernel
theorem dX3_isOfDay_16 : decode cX3_isOfDay 16 = .ok (.bipush 26, 2) := by decide +kernel
theorem dX3_isOfDay_18 : decode cX3_isOfDay 18 = .ok (.if_icmp .ge 7, 3) := by decide +kernel
theorem dX3_isOfDay_21 : decode cX3_isOfDay 21 = .ok (.iconst 1, 1) := by decide +kernel
theorem dX3_isOfDay_22 : decode cX3_isOfDay 22 = .ok (.goto 4, 3) := by decide +kernel
theorem dX3_isOfDay_25 : decode cX3_isOfDay 25 = .ok (.iconst 0, 1) := by decide +kernel
theorem dX3_isOfDay_26 : decode cX3_isOfDay 26 = .ok (.ireturn, 1) := by decide +kernel
theorem dX3_isAct_0 : decode cX3_isAct 0 = .ok (.iload_n 1, 1) := by decide +kernel
theorem dX3_isAct_1 : decode cX3_isAct 1 = .ok (.ifCond .lt 14, 3) := by decide +kernel
theorem dX3_isAct_4 : decode cX3_isAct 4 = .ok (.iload_n 1, 1) := by decide +kernel
theorem dX3_isAct_5 : decode cX3_isAct 5 = .ok (.bipush 16, 2) := by decide +kernel
theorem dX3_isAct_7 : decode cX3_isAct 7 = .ok (.if_icmp .ge 8, 3) := by decide +kernel
theorem dX3_isAct_10 : decode cX3_isAct 10 = .ok (.iload_n 0, 1) := by decide +kernel
theorem dX3_isAct_11 : decode cX3_isAct 11 = .ok (.invokestatic 119, 3) := by decide +kernel
theorem dX3_isAct_14 : decode cX3_isAct 14 = .ok (.ireturn, 1) := by decide +kernel
theorem dX3_isAct_15 : decode cX3_isAct 15 = .ok (.iload_n 1, 1) := by decide +kernel
theorem dX3_isAct_16 : decode cX3_isAct 16 = .ok (.bipush 20, 2) := by decide +kernel
theorem dX3_isAct_18 : decode cX3_isAct 18 = .ok (.if_icmp .ne 8, 3) := by decide +kernel
theorem dX3_isAct_21 : decode cX3_isAct 21 = .ok (.iload_n 0, 1) := by decide +kernel
theorem dX3_isAct_22 : decode cX3_isAct 22 = .ok (.invokestatic 122, 3) := by decide +kernel
theorem dX3_isAct_25 : decode cX3_isAct 25 = .ok (.ireturn, 1) := by decide +kernel
theorem dX3_isAct_26 : decode cX3_isAct 26 = .ok (.iload_n 1, 1) := by decide +kernel
theorem dX3_isAct_27 : decode cX3_isAct 27 = .ok (.bipush 30, 2) := by decide +kernel
theorem dX3_isAct_29 : decode cX3_isAct 29 = .ok (.if_icmp .lt 17, 3) := by decide +kernel
theorem dX3_isAct_32 : decode cX3_isAct 32 = .ok (.iload_n 1, 1) := by decide +kernel
theorem dX3_isAct_33 : decode cX3_isAct 33 = .ok (.bipush 34, 2) := by decide +kernel
theorem dX3_isAct_35 : decode cX3_isAct 35 = .ok (.if_icmp .ge 11, 3) := by decide +kernel
theorem dX3_isAct_38 : decode cX3_isAct 38 = .ok (.iload_n 0, 1) := by decide +kernel
theorem dX3_isAct_39 : decode cX3_isAct 39 = .ok (.ifCond .ne 7, 3) := by decide +kernel
theorem dX3_isAct_42 : decode cX3_isAct 42 = .ok (.iconst 1, 1) := by decide +kernel
theorem dX3_isAct_43 : decode cX3_isAct 43 = .ok (.goto 4, 3) := by decide +kernel
theorem dX3_isAct_46 : decode cX3_isAct 46 = .ok (.iconst 0, 1) := by decide +kernel
theorem dX3_isAct_47 : decode cX3_isAct 47 = .ok (.ireturn, 1) := by decide +kernel
theorem dX3_endOfDay_0 : decode cX3_endOfDay 0 = .ok (.iload_n 1, 1) := by decide +kernel
theorem dX3_endOfDay_1 : decode cX3_endOfDay 1 = .ok (.tableswitch 69 0 4 #[35, 69, 43, 53, 61], 35) := by decide +kernel
theorem dX3_endOfDay_36 : decode cX3_endOfDay 36 = .ok (.aload_n 0, 1) := by decide +kernel
theorem dX3_endOfDay_37 : decode cX3_endOfDay 37 = .ok (.getfield 24, 3) := by decide +kernel
theorem dX3_endOfDay_40 : decode cX3_endOfDay 40 = .ok (.invokevirtual 247, 3) := by decide +kernel
theorem dX3_endOfDay_43 : decode cX3_endOfDay 43 = .ok (.ireturn, 1) := by decide +kernel
theorem dX3_endOfDay_44 : decode cX3_endOfDay 44 = .ok (.aload_n 0, 1) := by decide +kernel
theorem dX3_endOfDay_45 : decode cX3_endOfDay 45 = .ok (.getfield 24, 3) := by decide +kernel
theorem dX3_endOfDay_48 : decode cX3_endOfDay 48 = .ok (.bipush 15, 2) := by decide +kernel
theorem dX3_endOfDay_50 : decode cX3_endOfDay 50 = .ok (.invokevirtual 157, 3) := by decide +kernel
theorem dX3_endOfDay_53 : decode cX3_endOfDay 53 = .ok (.ireturn, 1) := by decide +kernel
theorem dX3_endOfDay_54 : decode cX3_endOfDay 54 = .ok (.aload_n 0, 1) := by decide +kernel
theorem dX3_endOfDay_55 : decode cX3_endOfDay 55 = .ok (.getfield 24, 3) := by decide +kernel
theorem dX3_endOfDay_58 : decode cX3_endOfDay 58 = .ok (.invokevirtual 160, 3) := by decide +kernel
theorem dX3_endOfDay_61 : decode cX3_endOfDay 61 = .ok (.ireturn, 1) := by decide +kernel
theorem dX3_endOfDay_62 : decode cX3_endOfDay 62 = .ok (.aload_n 0, 1) := by decide +kernel
theorem dX3_endOfDay_63 : decode cX3_endOfDay 63 = .ok (.getfield 24, 3) := by decide +kernel
theorem dX3_endOfDay_66 : decode cX3_endOfDay 66 = .ok (.invokevirtual 250, 3) := by decide +kernel
theorem dX3_endOfDay_69 : decode cX3_endOfDay 69 = .ok (.ireturn, 1) := by decide +kernel
theorem dX3_endOfDay_70 : decode cX3_endOfDay 70 = .ok (.iload_n 1, 1) := by decide +kernel
theorem dX3_endOfDay_71 : decode cX3_endOfDay 71 = .ok (.bipush 10, 2) := by decide +kernel
theorem dX3_endOfDay_73 : decode cX3_endOfDay 73 = .ok (.isub, 1) := by decide +kernel
theorem dX3_endOfDay_74 : decode cX3_endOfDay 74 = .ok (.istore_n 2, 1) := by decide +kernel
theorem dX3_endOfDay_75 : decode cX3_endOfDay 75 = .ok (.aload_n 0, 1) := by decide +kernel
theorem dX3_endOfDay_76 : decode cX3_endOfDay 76 = .ok (.getfield 24, 3) := by decide +kernel
theorem dX3_endOfDay_79 : decode cX3_endOfDay 79 = .ok (.iload_n 2, 1) := by decide +kernel
theorem dX3_endOfDay_80 : decode cX3_endOfDay 80 = .ok (.invokevirtual 95, 3) := by decide +kernel
theorem dX3_endOfDay_83 : decode cX3_endOfDay 83 = .ok (.ifCond .eq 15, 3) := by decide +kernel
theorem dX3_endOfDay_86 : decode cX3_endOfDay 86 = .ok (.aload_n 0, 1) := by decide +kernel
theorem dX3_endOfDay_87 : decode cX3_endOfDay 87 = .ok (.getfield 24, 3) := by decide +kernel
theorem dX3_endOfDay_90 : decode cX3_endOfDay 90 = .ok (.getfield 101, 3) := by decide +kernel
theorem dX3_endOfDay_93 : decode cX3_endOfDay 93 = .ok (.iload_n 2, 1) := by decide +kernel
theorem dX3_endOfDay_94 : decode cX3_endOfDay 94 = .ok (.iaload, 1) := by decide +kernel
theorem dX3_endOfDay_95 : decode cX3_endOfDay 95 = .ok (.goto 5, 3) := by decide +kernel
theorem dX3_endOfDay_98 : decode cX3_endOfDay 98 = .ok (.bipush (-9), 2) := by decide +kernel
theorem dX3_endOfDay_100 : decode cX3_endOfDay 100 = .ok (.ireturn, 1) := by decide +kernel
theorem dX3_countWays_0 : decode cX3_countWays 0 = .ok (.aload_n 0, 1) := by decide +kernel
theorem dX3_countWays_1 : decode cX3_countWays 1 = .ok (.getfield 34, 3) := by decide +kernel
theorem dX3_countWays_4 : decode cX3_countWays 4 = .ok (.lconst 0, 1) := by decide +kernel
theorem dX3_countWays_5 : decode cX3_countWays 5 = .ok (.invokestatic 253, 3) := by decide +kernel
theorem dX3_countWays_8 : decode cX3_countWays 8 = .ok (.aload_n 0, 1) := by decide +kernel
theorem dX3_countWays_9 : decode cX3_countWays 9 = .ok (.getfield 34, 3) := by decide +kernel
theorem dX3_countWays_12 : decode cX3_countWays 12 = .ok (.iconst 0, 1) := by decide +kernel
theorem dX3_countWays_13 : decode cX3_countWays 13 = .ok (.lconst 1, 1) := by decide +kernel
theorem dX3_countWays_14 : decode cX3_countWays 14 = .ok (.lastore, 1) := by decide +kernel
theorem dX3_countWays_15 : decode cX3_countWays 15 = .ok (.iconst 0, 1) := by decide +kernel
theorem dX3_countWays_16 : decode cX3_countWays 16 = .ok (.istore_n 2, 1) := by decide +kernel
theorem dX3_countWays_17 : decode cX3_countWays 17 = .ok (.iload_n 2, 1) := by decide +kernel
theorem dX3_countWays_18 : decode cX3_countWays 18 = .ok (.aload_n 0, 1) := by decide +kernel
theorem dX3_countWays_19 : decode cX3_countWays 19 = .ok (.getfield 20, 3) := by decide +kernel
theorem dX3_countWays_22 : decode cX3_countWays 22 = .ok (.getfield 72, 3) := by decide +kernel
theorem dX3_countWays_25 : decode cX3_countWays 25 = .ok (.if_icmp .ge 79, 3) := by decide +kernel
theorem dX3_countWays_28 : decode cX3_countWays 28 = .ok (.aload_n 0, 1) := by decide +kernel
theorem dX3_countWays_29 : decode cX3_countWays 29 = .ok (.getfield 20, 3) := by decide +kernel
theorem dX3_countWays_32 : decode cX3_countWays 32 = .ok (.getfield 88, 3) := by decide +kernel
theorem dX3_countWays_35 : decode cX3_countWays 35 = .ok (.iload_n 2, 1) := by decide +kernel
theorem dX3_countWays_36 : decode cX3_countWays 36 = .ok (.baload, 1) := by decide +kernel
theorem dX3_countWays_37 : decode cX3_countWays 37 = .ok (.ifCond .eq 7, 3) := by decide +kernel
theorem dX3_countWays_40 : decode cX3_countWays 40 = .ok (.iconst 0, 1) := by decide +kernel
theorem dX3_countWays_41 : decode cX3_countWays 41 = .ok (.goto 16, 3) := by decide +kernel
theorem dX3_countWays_44 : decode cX3_countWays 44 = .ok (.aload_n 0, 1) := by decide +kernel
theorem dX3_countWays_45 : decode cX3_countWays 45 = .ok (.getfield 20, 3) := by decide +kernel
theorem dX3_countWays_48 : decode cX3_countWays 48 = .ok (.getfield 78, 3) := by decide +kernel
theorem dX3_countWays_51 : decode cX3_countWays 51 = .ok (.iload_n 2, 1) := by decide +kernel
theorem dX3_countWays_52 : decode cX3_countWays 52 = .ok (.iaload, 1) := by decide +kernel
theorem dX3_countWays_53 : decode cX3_countWays 53 = .ok (.iload_n 1, 1) := by decide +kernel
theorem dX3_countWays_54 : decode cX3_countWays 54 = .ok (.invokestatic 259, 3) := by decide +kernel
theorem dX3_countWays_57 : decode cX3_countWays 57 = .ok (.istore_n 3, 1) := by decide +kernel
theorem dX3_countWays_58 : decode cX3_countWays 58 = .ok (.iconst 0, 1) := by decide +kernel
theorem dX3_countWays_59 : decode cX3_countWays 59 = .ok (.istore 4, 2) := by decide +kernel
theorem dX3_countWays_61 : decode cX3_countWays 61 = .ok (.iload 4, 2) := by decide +kernel
theorem dX3_countWays_63 : decode cX3_countWays 63 = .ok (.aload_n 0, 1) := by decide +kernel
theorem dX3_countWays_64 : decode cX3_countWays 64 = .ok (.getfield 20, 3) := by decide +kernel
theorem dX3_countWays_67 : decode cX3_countWays 67 = .ok (.getfield 82, 3) := by decide +kernel
theorem dX3_countWays_70 : decode cX3_countWays 70 = .ok (.iload_n 2, 1) := by decide +kernel
theorem dX3_countWays_71 : decode cX3_countWays 71 = .ok (.iaload, 1) := by decide +kernel
theorem dX3_countWays_72 : decode cX3_countWays 72 = .ok (.if_icmp .ge 26, 3) := by decide +kernel
theorem dX3_countWays_75 : decode cX3_countWays 75 = .ok (.aload_n 0, 1) := by decide +kernel
theorem dX3_countWays_76 : decode cX3_countWays 76 = .ok (.getfield 20, 3) := by decide +kernel
theorem dX3_countWays_79 : decode cX3_countWays 79 = .ok (.getfield 88, 3) := by decide +kernel
theorem dX3_countWays_82 : decode cX3_countWays 82 = .ok (.iload_n 2, 1) := by decide +kernel
theorem dX3_countWays_83 : decode cX3_countWays 83 = .ok (.baload, 1) := by decide +kernel
theorem dX3_countWays_84 : decode cX3_countWays 84 = .ok (.ifCond .ne 14, 3) := by decide +kernel
theorem dX3_countWays_87 : decode cX3_countWays 87 = .ok (.aload_n 0, 1) := by decide +kernel
theorem dX3_countWays_88 : decode cX3_countWays 88 = .ok (.iload_n 3, 1) := by decide +kernel
theorem dX3_countWays_89 : decode cX3_countWays 89 = .ok (.invokevirtual 263, 3) := by decide +kernel
theorem dX3_countWays_92 : decode cX3_countWays 92 = .ok (.iinc 4 1, 3) := by decide +kernel
theorem dX3_countWays_95 : decode cX3_countWays 95 = .ok (.goto (-34), 3) := by decide +kernel
theorem dX3_countWays_98 : decode cX3_countWays 98 = .ok (.iinc 2 1, 3) := by decide +kernel
theorem dX3_countWays_101 : decode cX3_countWays 101 = .ok (.goto (-84), 3) := by decide +kernel
theorem dX3_countWays_104 : decode cX3_countWays 104 = .ok (.return_, 1) := by decide +kernel
theorem dX3_addLampToWays_0 : decode cX3_addLampToWays 0 = .ok (.bipush 10, 2) := by decide +kernel
theorem dX3_addLampToWays_2 : decode cX3_addLampToWays 2 = .ok (.iload_n 1, 1) := by decide +kernel
theorem dX3_addLampToWays_3 : decode cX3_addLampToWays 3 = .ok (.isub, 1) := by decide +kernel
theorem dX3_addLampToWays_4 : decode cX3_addLampToWays 4 = .ok (.istore_n 2, 1) := by decide +kernel
theorem dX3_addLampToWays_5 : decode cX3_addLampToWays 5 = .ok (.bipush 16, 2) := by decide +kernel
theorem dX3_addLampToWays_7 : decode cX3_addLampToWays 7 = .ok (.istore_n 3, 1) := by decide +kernel
theorem dX3_addLampToWays_8 : decode cX3_addLampToWays 8 = .ok (.iload_n 3, 1) := by decide +kernel
theorem dX3_addLampToWays_9 : decode cX3_addLampToWays 9 = .ok (.ifCond .le 36, 3) := by decide +kernel
theorem dX3_addLampToWays_12 : decode cX3_addLampToWays 12 = .ok (.aload_n 0, 1) := by decide +kernel
theorem dX3_addLampToWays_13 : decode cX3_addLampToWays 13 = .ok (.getfield 34, 3) := by decide +kernel
theorem dX3_addLampToWays_16 : decode cX3_addLampToWays 16 = .ok (.iload_n 3, 1) := by decide +kernel
theorem dX3_addLampToWays_17 : decode cX3_addLampToWays 17 = .ok (.aload_n 0, 1) := by decide +kernel
theorem dX3_addLampToWays_18 : decode cX3_addLampToWays 18 = .ok (.getfield 34, 3) := by decide +kernel
theorem dX3_addLampToWays_21 : decode cX3_addLampToWays 21 = .ok (.iload_n 3, 1) := by decide +kernel
theorem dX3_addLampToWays_22 : decode cX3_addLampToWays 22 = .ok (.laload, 1) := by decide +kernel
theorem dX3_addLampToWays_23 : decode cX3_addLampToWays 23 = .ok (.iload_n 2, 1) := by decide +kernel
theorem dX3_addLampToWays_24 : decode cX3_addLampToWays 24 = .ok (.i2l, 1) := by decide +kernel
theorem dX3_addLampToWays_25 : decode cX3_addLampToWays 25 = .ok (.lmul, 1) := by decide +kernel
theorem dX3_addLampToWays_26 : decode cX3_addLampToWays 26 = .ok (.aload_n 0, 1) := by decide +kernel
theorem dX3_addLampToWays_27 : decode cX3_addLampToWays 27 = .ok (.getfield 34, 3) := by decide +kernel
theorem dX3_addLampToWays_30 : decode cX3_addLampToWays 30 = .ok (.iload_n 3, 1) := by decide +kernel
theorem dX3_addLampToWays_31 : decode cX3_addLampToWays 31 = .ok (.iconst 1, 1) := by decide +kernel
theorem dX3_addLampToWays_32 : decode cX3_addLampToWays 32 = .ok (.isub, 1) := by decide +kernel
theorem dX3_addLampToWays_33 : decode cX3_addLampToWays 33 = .ok (.laload, 1) := by decide +kernel
theorem dX3_addLampToWays_34 : decode cX3_addLampToWays 34 = .ok (.iload_n 1, 1) := by decide +kernel
theorem dX3_addLampToWays_35 : decode cX3_addLampToWays 35 = .ok (.i2l, 1) := by decide +kernel
theorem dX3_addLampToWays_36 : decode cX3_addLampToWays 36 = .ok (.lmul, 1) := by decide +kernel
theorem dX3_addLampToWays_37 : decode cX3_addLampToWays 37 = .ok (.ladd, 1) := by decide +kernel
theorem dX3_addLampToWays_38 : decode cX3_addLampToWays 38 = .ok (.lastore, 1) := by decide +kernel
theorem dX3_addLampToWays_39 : decode cX3_addLampToWays 39 = .ok (.iinc 3 (-1), 3) := by decide +kernel
theorem dX3_addLampToWays_42 : decode cX3_addLampToWays 42 = .ok (.goto (-34), 3) := by decide +kernel
theorem dX3_addLampToWays_45 : decode cX3_addLampToWays 45 = .ok (.aload_n 0, 1) := by decide +kernel
theorem dX3_addLampToWays_46 : decode cX3_addLampToWays 46 = .ok (.getfield 34, 3) := by decide +kernel
theorem dX3_addLampToWays_49 : decode cX3_addLampToWays 49 = .ok (.iconst 0, 1) := by decide +kernel
theorem dX3_addLampToWays_50 : decode cX3_addLampToWays 50 = .ok (.dup2, 1) := by decide +kernel
theorem dX3_addLampToWays_51 : decode cX3_addLampToWays 51 = .ok (.laload, 1) := by decide +kernel
theorem dX3_addLampToWays_52 : decode cX3_addLampToWays 52 = .ok (.iload_n 2, 1) := by decide +kernel
theorem dX3_addLampToWays_53 : decode cX3_addLampToWays 53 = .ok (.i2l, 1) := by decide +kernel
theorem dX3_addLampToWays_54 : decode cX3_addLampToWays 54 = .ok (.lmul, 1) := by decide +kernel
theorem dX3_addLampToWays_55 : decode cX3_addLampToWays 55 = .ok (.lastore, 1) := by decide +kernel
theorem dX3_addLampToWays_56 : decode cX3_addLampToWays 56 = .ok (.return_, 1) := by decide +kernel
theorem dX3_levelsThatLight_0 : decode cX3_levelsThatLight 0 = .ok (.iconst 0, 1) := by decide +kernel
theorem dX3_levelsThatLight_1 : decode cX3_levelsThatLight 1 = .ok (.istore_n 2, 1) := by decide +kernel
theorem dX3_levelsThatLight_2 : decode cX3_levelsThatLight 2 = .ok (.iconst 0, 1) := by decide +kernel
theorem dX3_levelsThatLight_3 : decode cX3_levelsThatLight 3 = .ok (.istore_n 3, 1) := by decide +kernel
theorem dX3_levelsThatLight_4 : decode cX3_levelsThatLight 4 = .ok (.iload_n 3, 1) := by decide +kernel
theorem dX3_levelsThatLight_5 : decode cX3_levelsThatLight 5 = .ok (.bipush 9, 2) := by decide +kernel
theorem dX3_levelsThatLight_7 : decode cX3_levelsThatLight 7 = .ok (.if_icmp .gt 29, 3) := by decide +kernel
theorem dX3_levelsThatLight_10 : decode cX3_levelsThatLight 10 = .ok (.iload_n 2, 1) := by decide +kernel
theorem dX3_levelsThatLight_11 : decode cX3_levelsThatLight 11 = .ok (.iload_n 0, 1) := by decide +kernel
theorem dX3_levelsThatLight_12 : decode cX3_levelsThatLight 12 = .ok (.iload_n 3, 1) := by decide +kernel
theorem dX3_levelsThatLight_13 : decode cX3_levelsThatLight 13 = .ok (.invokestatic 266, 3) := by decide +kernel
theorem dX3_levelsThatLight_16 : decode cX3_levelsThatLight 16 = .ok (.iload_n 1, 1) := by decide +kernel
theorem dX3_levelsThatLight_17 : decode cX3_levelsThatLight 17 = .ok (.invokestatic 269, 3) := by decide +kernel
theorem dX3_levelsThatLight_20 : decode cX3_levelsThatLight 20 = .ok (.ifCond .eq 7, 3) := by decide +kernel
theorem dX3_levelsThatLight_23 : decode cX3_levelsThatLight 23 = .ok (.iconst 1, 1) := by decide +kernel
theorem dX3_levelsThatLight_24 : decode cX3_levelsThatLight 24 = .ok (.goto 4, 3) := by decide +kernel
theorem dX3_levelsThatLight_27 : decode cX3_levelsThatLight 27 = .ok (.iconst 0, 1) := by decide +kernel
theorem dX3_levelsThatLight_28 : decode cX3_levelsThatLight 28 = .ok (.iadd, 1) := by decide +kernel
theorem dX3_levelsThatLight_29 : decode cX3_levelsThatLight 29 = .ok (.istore_n 2, 1) := by decide +kernel
theorem dX3_levelsThatLight_30 : decode cX3_levelsThatLight 30 = .ok (.iinc 3 1, 3) := by decide +kernel
theorem dX3_levelsThatLight_33 : decode cX3_levelsThatLight 33 = .ok (.goto (-29), 3) := by decide +kernel
theorem dX3_levelsThatLight_36 : decode cX3_levelsThatLight 36 = .ok (.iload_n 2, 1) := by decide +kernel
theorem dX3_levelsThatLight_37 : decode cX3_levelsThatLight 37 = .ok (.ireturn, 1) := by decide +kernel
theorem dX3_greatestDivisor_0 : decode cX3_greatestDivisor 0 = .ok (.iconst 0, 1) := by decide +kernel
theorem dX3_greatestDivisor_1 : decode cX3_greatestDivisor 1 = .ok (.istore 4, 2) := by decide +kernel
theorem dX3_greatestDivisor_3 : decode cX3_greatestDivisor 3 = .ok (.iload 4, 2) := by decide +kernel
theorem dX3_greatestDivisor_5 : decode cX3_greatestDivisor 5 = .ok (.sipush 1000, 3) := by decide +kernel
theorem dX3_greatestDivisor_8 : decode cX3_greatestDivisor 8 = .ok (.if_icmp .ge 25, 3) := by decide +kernel
theorem dX3_greatestDivisor_11 : decode cX3_greatestDivisor 11 = .ok (.lload_n 2, 1) := by decide +kernel
theorem dX3_greatestDivisor_12 : decode cX3_greatestDivisor 12 = .ok (.lconst 0, 1) := by decide +kernel
theorem dX3_greatestDivisor_13 : decode cX3_greatestDivisor 13 = .ok (.lcmp, 1) := by decide +kernel
theorem dX3_greatestDivisor_14 : decode cX3_greatestDivisor 14 = .ok (.ifCond .eq 19, 3) := by decide +kernel
theorem dX3_greatestDivisor_17 : decode cX3_greatestDivisor 17 = .ok (.lload_n 0, 1) := by decide +kernel
theorem dX3_greatestDivisor_18 : decode cX3_greatestDivisor 18 = .ok (.lload_n 2, 1) := by decide +kernel
theorem dX3_greatestDivisor_19 : decode cX3_greatestDivisor 19 = .ok (.lrem, 1) := by decide +kernel
theorem dX3_greatestDivisor_20 : decode cX3_greatestDivisor 20 = .ok (.lstore 5, 2) := by decide +kernel
theorem dX3_greatestDivisor_22 : decode cX3_greatestDivisor 22 = .ok (.lload_n 2, 1) := by decide +kernel
theorem dX3_greatestDivisor_23 : decode cX3_greatestDivisor 23 = .ok (.lstore_n 0, 1) := by decide +kernel
theorem dX3_greatestDivisor_24 : decode cX3_greatestDivisor 24 = .ok (.lload 5, 2) := by decide +kernel
theorem dX3_greatestDivisor_26 : decode cX3_greatestDivisor 26 = .ok (.lstore_n 2, 1) := by decide +kernel
theorem dX3_greatestDivisor_27 : decode cX3_greatestDivisor 27 = .ok (.iinc 4 1, 3) := by decide +kernel
theorem dX3_greatestDivisor_30 : decode cX3_greatestDivisor 30 = .ok (.goto (-27), 3) := by decide +kernel
theorem dX3_greatestDivisor_33 : decode cX3_greatestDivisor 33 = .ok (.lload_n 0, 1) := by decide +kernel
theorem dX3_greatestDivisor_34 : decode cX3_greatestDivisor 34 = .ok (.lreturn, 1) := by decide +kernel
theorem dX3_hasBit_0 : decode cX3_hasBit 0 = .ok (.iload_n 0, 1) := by decide +kernel
theorem dX3_hasBit_1 : decode cX3_hasBit 1 = .ok (.iload_n 1, 1) := by decide +kernel
theorem dX3_hasBit_2 : decode cX3_hasBit 2 = .ok (.ishr, 1) := by decide +kernel
theorem dX3_hasBit_3 : decode cX3_hasBit 3 = .ok (.iconst 1, 1) := by decide +kernel
theorem dX3_hasBit_4 : decode cX3_hasBit 4 = .ok (.iand, 1) := by decide +kernel
theorem dX3_hasBit_5 : decode cX3_hasBit 5 = .ok (.iconst 1, 1) := by decide +kernel
theorem dX3_hasBit_6 : decode cX3_hasBit 6 = .ok (.if_icmp .ne 7, 3) := by decide +kernel
theorem dX3_hasBit_9 : decode cX3_hasBit 9 = .ok (.iconst 1, 1) := by decide +kernel
theorem dX3_hasBit_10 : decode cX3_hasBit 10 = .ok (.goto 4, 3) := by decide +kernel
theorem dX3_hasBit_13 : decode cX3_hasBit 13 = .ok (.iconst 0, 1) := by decide +kernel
theorem dX3_hasBit_14 : decode cX3_hasBit 14 = .ok (.ireturn, 1) := by decide +kernel
theorem dX3_lightBy_0 : decode cX3_lightBy 0 = .ok (.iload_n 1, 1) := by decide +kernel
theorem dX3_lightBy_1 : decode cX3_lightBy 1 = .ok (.iconst 2, 1) := by decide +kernel
theorem dX3_lightBy_2 : decode cX3_lightBy 2 = .ok (.idiv, 1) := by decide +kernel
theorem dX3_lightBy_3 : decode cX3_lightBy 3 = .ok (.istore_n 2, 1) := by decide +kernel
theorem dX3_lightBy_4 : decode cX3_lightBy 4 = .ok (.iload_n 0, 1) := by decide +kernel
theorem dX3_lightBy_5 : decode cX3_lightBy 5 = .ok (.lookupswitch 33 #[(1, 31), (2, 27)], 27) := by decide +kernel
theorem dX3_lightBy_32 : decode cX3_lightBy 32 = .ok (.iload_n 2, 1) := by decide +kernel
theorem dX3_lightBy_33 : decode cX3_lightBy 33 = .ok (.iload_n 1, 1) := by decide +kernel
theorem dX3_lightBy_34 : decode cX3_lightBy 34 = .ok (.iadd, 1) := by decide +kernel
theorem dX3_lightBy_35 : decode cX3_lightBy 35 = .ok (.ireturn, 1) := by decide +kernel
theorem dX3_lightBy_36 : decode cX3_lightBy 36 = .ok (.iload_n 2, 1) := by decide +kernel
theorem dX3_lightBy_37 : decode cX3_lightBy 37 = .ok (.ireturn, 1) := by decide +kernel
theorem dX3_lightBy_38 : decode cX3_lightBy 38 = .ok (.iload_n 1, 1) := by decide +kernel
theorem dX3_lightBy_39 : decode cX3_lightBy 39 = .ok (.ireturn, 1) := by decide +kernel
theorem dX3_darkestStretch_0 : decode cX3_darkestStretch 0 = .ok (.iconst 0, 1) := by decide +kernel
theorem dX3_darkestStretch_1 : decode cX3_darkestStretch 1 = .ok (.istore_n 1, 1) := by decide +kernel
theorem dX3_darkestStretch_2 : decode cX3_darkestStretch 2 = .ok (.iconst 0, 1) := by decide +kernel
theorem dX3_darkestStretch_3 : decode cX3_darkestStretch 3 = .ok (.istore_n 2, 1) := by decide +kernel
theorem dX3_darkestStretch_4 : decode cX3_darkestStretch 4 = .ok (.iconst 0, 1) := by decide +kernel
theorem dX3_darkestStretch_5 : decode cX3_darkestStretch 5 = .ok (.istore_n 3, 1) := by decide +kernel
theorem dX3_darkestStretch_6 : decode cX3_darkestStretch 6 = .ok (.iload_n 3, 1) := by decide +kernel
theorem dX3_darkestStretch_7 : decode cX3_darkestStretch 7 = .ok (.bipush 30, 2) := by decide +kernel
theorem dX3_darkestStretch_9 : decode cX3_darkestStretch 9 = .ok (.if_icmp .ge 34, 3) := by decide +kernel
theorem dX3_darkestStretch_12 : decode cX3_darkestStretch 12 = .ok (.iload_n 0, 1) := by decide +kernel
theorem dX3_darkestStretch_13 : decode cX3_darkestStretch 13 = .ok (.iload_n 3, 1) := by decide +kernel
theorem dX3_darkestStretch_14 : decode cX3_darkestStretch 14 = .ok (.bipush 15, 2) := by decide +kernel
theorem dX3_darkestStretch_16 : decode cX3_darkestStretch 16 = .ok (.irem, 1) := by decide +kernel
theorem dX3_darkestStretch_17 : decode cX3_darkestStretch 17 = .ok (.invokestatic 269, 3) := by decide +kernel
theorem dX3_darkestStretch_20 : decode cX3_darkestStretch 20 = .ok (.ifCond .eq 7, 3) := by decide +kernel
theorem dX3_darkestStretch_23 : decode cX3_darkestStretch 23 = .ok (.iconst 0, 1) := by decide +kernel
theorem dX3_darkestStretch_24 : decode cX3_darkestStretch 24 = .ok (.goto 6, 3) := by decide +kernel
theorem dX3_darkestStretch_27 : decode cX3_darkestStretch 27 = .ok (.iload_n 2, 1) := by decide +kernel
theorem dX3_darkestStretch_28 : decode cX3_darkestStretch 28 = .ok (.iconst 1, 1) := by decide +kernel
theorem dX3_darkestStretch_29 : decode cX3_darkestStretch 29 = .ok (.iadd, 1) := by decide +kernel
theorem dX3_darkestStretch_30 : decode cX3_darkestStretch 30 = .ok (.istore_n 2, 1) := by decide +kernel
theorem dX3_darkestStretch_31 : decode cX3_darkestStretch 31 = .ok (.iload_n 1, 1) := by decide +kernel
theorem dX3_darkestStretch_32 : decode cX3_darkestStretch 32 = .ok (.iload_n 2, 1) := by decide +kernel
theorem dX3_darkestStretch_33 : decode cX3_darkestStretch 33 = .ok (.invokestatic 272, 3) := by decide +kernel
theorem dX3_darkestStretch_36 : decode cX3_darkestStretch 36 = .ok (.istore_n 1, 1) := by decide +kernel
theorem dX3_darkestStretch_37 : decode cX3_darkestStretch 37 = .ok (.iinc 3 1, 3) := by decide +kernel
theorem dX3_darkestStretch_40 : decode cX3_darkestStretch 40 = .ok (.goto (-34), 3) := by decide +kernel
theorem dX3_darkestStretch_43 : decode cX3_darkestStretch 43 = .ok (.iload_n 1, 1) := by decide +kernel
theorem dX3_darkestStretch_44 : decode cX3_darkestStretch 44 = .ok (.bipush 15, 2) := by decide +kernel
theorem dX3_darkestStretch_46 : decode cX3_darkestStretch 46 = .ok (.invokestatic 277, 3) := by decide +kernel
theorem dX3_darkestStretch_49 : decode cX3_darkestStretch 49 = .ok (.ireturn, 1) := by decide +kernel
theorem dX3_turnsOf_0 : decode cX3_turnsOf 0 = .ok (.iload_n 0, 1) := by decide +kernel
theorem dX3_turnsOf_1 : decode cX3_turnsOf 1 = .ok (.iconst 1, 1) := by decide +kernel
theorem dX3_turnsOf_2 : decode cX3_turnsOf 2 = .ok (.ishr, 1) := by decide +kernel
theorem dX3_turnsOf_3 : decode cX3_turnsOf 3 = .ok (.iload_n 0, 1) := by decide +kernel
theorem dX3_turnsOf_4 : decode cX3_turnsOf 4 = .ok (.iconst 1, 1) := by decide +kernel
theorem dX3_turnsOf_5 : decode cX3_turnsOf 5 = .ok (.iand, 1) := by decide +kernel
theorem dX3_turnsOf_6 : decode cX3_turnsOf 6 = .ok (.bipush 14, 2) := by decide +kernel
theorem dX3_turnsOf_8 : decode cX3_turnsOf 8 = .ok (.ishl, 1) := by decide +kernel
theorem dX3_turnsOf_9 : decode cX3_turnsOf 9 = .ok (.ior, 1) := by decide +kernel
theorem dX3_turnsOf_10 : decode cX3_turnsOf 10 = .ok (.istore_n 1, 1) := by decide +kernel
theorem dX3_turnsOf_11 : decode cX3_turnsOf 11 = .ok (.iload_n 0, 1) := by decide +kernel
theorem dX3_turnsOf_12 : decode cX3_turnsOf 12 = .ok (.iload_n 1, 1) := by decide +kernel
theorem dX3_turnsOf_13 : decode cX3_turnsOf 13 = .ok (.ixor, 1) := by decide +kernel
theorem dX3_turnsOf_14 : decode cX3_turnsOf 14 = .ok (.invokestatic 280, 3) := by decide +kernel
theorem dX3_turnsOf_17 : decode cX3_turnsOf 17 = .ok (.ireturn, 1) := by decide +kernel
theorem dX3_leaveTrace_0 : decode cX3_leaveTrace 0 = .ok (.aload_n 0, 1) := by decide +kernel
theorem dX3_leaveTrace_1 : decode cX3_leaveTrace 1 = .ok (.bipush 31, 2) := by decide +kernel
theorem dX3_leaveTrace_3 : decode cX3_leaveTrace 3 = .ok (.aload_n 0, 1) := by decide +kernel
theorem dX3_leaveTrace_4 : decode cX3_leaveTrace 4 = .ok (.getfield 38, 3) := by decide +kernel
theorem dX3_leaveTrace_7 : decode cX3_leaveTrace 7 = .ok (.imul, 1) := by decide +kernel
theorem dX3_leaveTrace_8 : decode cX3_leaveTrace 8 = .ok (.iload_n 1, 1) := by decide +kernel
theorem dX3_leaveTrace_9 : decode cX3_leaveTrace 9 = .ok (.iadd, 1) := by decide +kernel
theorem dX3_leaveTrace_10 : decode cX3_leaveTrace 10 = .ok (.putfield 38, 3) := by decide +kernel
theorem dX3_leaveTrace_13 : decode cX3_leaveTrace 13 = .ok (.return_, 1) := by decide +kernel
theorem dX3_tellPlain_0 : decode cX3_tellPlain 0 = .ok (.aload_n 0, 1) := by decide +kernel
theorem dX3_tellPlain_1 : decode cX3_tellPlain 1 = .ok (.iconst 1, 1) := by decide +kernel
theorem dX3_tellPlain_2 : decode cX3_tellPlain 2 = .ok (.invokevirtual 283, 3) := by decide +kernel
theorem dX3_tellPlain_5 : decode cX3_tellPlain 5 = .ok (.aload_n 0, 1) := by decide +kernel
theorem dX3_tellPlain_6 : decode cX3_tellPlain 6 = .ok (.getfield 20, 3) := by decide +kernel
theorem dX3_tellPlain_9 : decode cX3_tellPlain 9 = .ok (.getfield 82, 3) := by decide +kernel
theorem dX3_tellPlain_12 : decode cX3_tellPlain 12 = .ok (.iload_n 1, 1) := by decide +kernel
theorem dX3_tellPlain_13 : decode cX3_tellPlain 13 = .ok (.iaload, 1) := by decide +kernel
theorem dX3_tellPlain_14 : decode cX3_tellPlain 14 = .ok (.ireturn, 1) := by decide +kernel
theorem dX3_tellHalved_0 : decode cX3_tellHalved 0 = .ok (.aload_n 0, 1) := by decide +kernel
theorem dX3_tellHalved_1 : decode cX3_tellHalved 1 = .ok (.iconst 2, 1) := by decide +kernel
theorem dX3_tellHalved_2 : decode cX3_tellHalved 2 = .ok (.invokevirtual 283, 3) := by decide +kernel
theorem dX3_tellHalved_5 : decode cX3_tellHalved 5 = .ok (.aload_n 0, 1) := by decide +kernel
theorem dX3_tellHalved_6 : decode cX3_tellHalved 6 = .ok (.iload_n 1, 1) := by decide +kernel
theorem dX3_tellHalved_7 : decode cX3_tellHalved 7 = .ok (.invokevirtual 232, 3) := by decide +kernel
theorem dX3_tellHalved_10 : decode cX3_tellHalved 10 = .ok (.bipush 100, 2) := by decide +kernel
theorem dX3_tellHalved_12 : decode cX3_tellHalved 12 = .ok (.iadd, 1) := by decide +kernel
theorem dX3_tellHalved_13 : decode cX3_tellHalved 13 = .ok (.ireturn, 1) := by decide +kernel
theorem dX3_tellBright_0 : decode cX3_tellBright 0 = .ok (.aload_n 0, 1) := by decide +kernel
theorem dX3_tellBright_1 : decode cX3_tellBright 1 = .ok (.iconst 3, 1) := by decide +kernel
theorem dX3_tellBright_2 : decode cX3_tellBright 2 = .ok (.invokevirtual 283, 3) := by decide +kernel
theorem dX3_tellBright_5 : decode cX3_tellBright 5 = .ok (.aload_n 0, 1) := by decide +kernel
theorem dX3_tellBright_6 : decode cX3_tellBright 6 = .ok (.iload_n 1, 1) := by decide +kernel
theorem dX3_tellBright_7 : decode cX3_tellBright 7 = .ok (.invokevirtual 229, 3) := by decide +kernel
theorem dX3_tellBright_10 : decode cX3_tellBright 10 = .ok (.istore_n 2, 1) := by decide +kernel
theorem dX3_tellBright_11 : decode cX3_tellBright 11 = .ok (.iload_n 2, 1) := by decide +kernel
theorem dX3_tellBright_12 : decode cX3_tellBright 12 = .ok (.aload_n 0, 1) := by decide +kernel
theorem dX3_tellBright_13 : decode cX3_tellBright 13 = .ok (.iload_n 1, 1) := by decide +kernel
theorem dX3_tellBright_14 : decode cX3_tellBright 14 = .ok (.invokevirtual 232, 3) := by decide +kernel
theorem dX3_tellBright_17 : decode cX3_tellBright 17 = .ok (.iadd, 1) := by decide +kernel
theorem dX3_tellBright_18 : decode cX3_tellBright 18 = .ok (.ireturn, 1) := by decide +kernel
theorem dX3_switchLent_0 : decode cX3_switchLent 0 = .ok (.aload_n 0, 1) := by decide +kernel
theorem dX3_switchLent_1 : decode cX3_switchLent 1 = .ok (.iconst 4, 1) := by decide +kernel
theorem dX3_switchLent_2 : decode cX3_switchLent 2 = .ok (.invokevirtual 283, 3) := by decide +kernel
theorem dX3_switchLent_5 : decode cX3_switchLent 5 = .ok (.aload_n 0, 1) := by decide +kernel
theorem dX3_switchLent_6 : decode cX3_switchLent 6 = .ok (.getfield 20, 3) := by decide +kernel
theorem dX3_switchLent_9 : decode cX3_switchLent 9 = .ok (.iload_n 1, 1) := by decide +kernel
theorem dX3_switchLent_10 : decode cX3_switchLent 10 = .ok (.invokevirtual 286, 3) := by decide +kernel
theorem dX3_switchLent_13 : decode cX3_switchLent 13 = .ok (.ireturn, 1) := by decide +kernel
theorem dX3_switchBright_0 : decode cX3_switchBright 0 = .ok (.aload_n 0, 1) := by decide +kernel
theorem dX3_switchBright_1 : decode cX3_switchBright 1 = .ok (.iconst 5, 1) := by decide +kernel
theorem dX3_switchBright_2 : decode cX3_switchBright 2 = .ok (.invokevirtual 283, 3) := by decide +kernel
theorem dX3_switchBright_5 : decode cX3_switchBright 5 = .ok (.bipush 60, 2) := by decide +kernel
theorem dX3_switchBright_7 : decode cX3_switchBright 7 = .ok (.ireturn, 1) := by decide +kernel

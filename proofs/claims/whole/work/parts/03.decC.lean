theorem dX0_init_0 : decode cX0_init 0 = .ok (.aload_n 0, 1) := by decide +kernel
theorem dX0_init_1 : decode cX0_init 1 = .ok (.invokespecial 3, 3) := by decide +kernel
theorem dX0_init_4 : decode cX0_init 4 = .ok (.aload_n 0, 1) := by decide +kernel
theorem dX0_init_5 : decode cX0_init 5 = .ok (.bipush 6, 2) := by decide +kernel
theorem dX0_init_7 : decode cX0_init 7 = .ok (.newarray .int, 2) := by decide +kernel
theorem dX0_init_9 : decode cX0_init 9 = .ok (.putfield 9, 3) := by decide +kernel
theorem dX0_init_12 : decode cX0_init 12 = .ok (.aload_n 0, 1) := by decide +kernel
theorem dX0_init_13 : decode cX0_init 13 = .ok (.bipush 6, 2) := by decide +kernel
theorem dX0_init_15 : decode cX0_init 15 = .ok (.newarray .int, 2) := by decide +kernel
theorem dX0_init_17 : decode cX0_init 17 = .ok (.putfield 15, 3) := by decide +kernel
theorem dX0_init_20 : decode cX0_init 20 = .ok (.aload_n 0, 1) := by decide +kernel
theorem dX0_init_21 : decode cX0_init 21 = .ok (.bipush 6, 2) := by decide +kernel
theorem dX0_init_23 : decode cX0_init 23 = .ok (.newarray .int, 2) := by decide +kernel
theorem dX0_init_25 : decode cX0_init 25 = .ok (.putfield 18, 3) := by decide +kernel
theorem dX0_init_28 : decode cX0_init 28 = .ok (.aload_n 0, 1) := by decide +kernel
theorem dX0_init_29 : decode cX0_init 29 = .ok (.bipush 6, 2) := by decide +kernel
theorem dX0_init_31 : decode cX0_init 31 = .ok (.newarray .int, 2) := by decide +kernel
theorem dX0_init_33 : decode cX0_init 33 = .ok (.putfield 21, 3) := by decide +kernel
theorem dX0_init_36 : decode cX0_init 36 = .ok (.aload_n 0, 1) := by decide +kernel
theorem dX0_init_37 : decode cX0_init 37 = .ok (.bipush 6, 2) := by decide +kernel
theorem dX0_init_39 : decode cX0_init 39 = .ok (.newarray .int, 2) := by decide +kernel
theorem dX0_init_41 : decode cX0_init 41 = .ok (.putfield 24, 3) := by decide +kernel
theorem dX0_init_44 : decode cX0_init 44 = .ok (.aload_n 0, 1) := by decide +kernel
theorem dX0_init_45 : decode cX0_init 45 = .ok (.bipush 6, 2) := by decide +kernel
theorem dX0_init_47 : decode cX0_init 47 = .ok (.newarray .int, 2) := by decide +kernel
theorem dX0_init_49 : decode cX0_init 49 = .ok (.putfield 27, 3) := by decide +kernel
theorem dX0_init_52 : decode cX0_init 52 = .ok (.aload_n 0, 1) := by decide +kernel
theorem dX0_init_53 : decode cX0_init 53 = .ok (.bipush 48, 2) := by decide +kernel
theorem dX0_init_55 : decode cX0_init 55 = .ok (.newarray .int, 2) := by decide +kernel
theorem dX0_init_57 : decode cX0_init 57 = .ok (.putfield 30, 3) := by decide +kernel
theorem dX0_init_60 : decode cX0_init 60 = .ok (.aload_n 0, 1) := by decide +kernel
theorem dX0_init_61 : decode cX0_init 61 = .ok (.aload_n 1, 1) := by decide +kernel
theorem dX0_init_62 : decode cX0_init 62 = .ok (.putfield 33, 3) := by decide +kernel
theorem dX0_init_65 : decode cX0_init 65 = .ok (.aload_n 0, 1) := by decide +kernel
theorem dX0_init_66 : decode cX0_init 66 = .ok (.aload_n 2, 1) := by decide +kernel
theorem dX0_init_67 : decode cX0_init 67 = .ok (.putfield 37, 3) := by decide +kernel
theorem dX0_init_70 : decode cX0_init 70 = .ok (.return_, 1) := by decide +kernel
theorem dX0_becomes_0 : decode cX0_becomes 0 = .ok (.aload_n 1, 1) := by decide +kernel
theorem dX0_becomes_1 : decode cX0_becomes 1 = .ok (.getfield 9, 3) := by decide +kernel
theorem dX0_becomes_4 : decode cX0_becomes 4 = .ok (.iconst 0, 1) := by decide +kernel
theorem dX0_becomes_5 : decode cX0_becomes 5 = .ok (.aload_n 0, 1) := by decide +kernel
theorem dX0_becomes_6 : decode cX0_becomes 6 = .ok (.getfield 9, 3) := by decide +kernel
theorem dX0_becomes_9 : decode cX0_becomes 9 = .ok (.iconst 0, 1) := by decide +kernel
theorem dX0_becomes_10 : decode cX0_becomes 10 = .ok (.bipush 6, 2) := by decide +kernel
theorem dX0_becomes_12 : decode cX0_becomes 12 = .ok (.invokestatic 40, 3) := by decide +kernel
theorem dX0_becomes_15 : decode cX0_becomes 15 = .ok (.aload_n 1, 1) := by decide +kernel
theorem dX0_becomes_16 : decode cX0_becomes 16 = .ok (.getfield 15, 3) := by decide +kernel
theorem dX0_becomes_19 : decode cX0_becomes 19 = .ok (.iconst 0, 1) := by decide +kernel
theorem dX0_becomes_20 : decode cX0_becomes 20 = .ok (.aload_n 0, 1) := by decide +kernel
theorem dX0_becomes_21 : decode cX0_becomes 21 = .ok (.getfield 15, 3) := by decide +kernel
theorem dX0_becomes_24 : decode cX0_becomes 24 = .ok (.iconst 0, 1) := by decide +kernel
theorem dX0_becomes_25 : decode cX0_becomes 25 = .ok (.bipush 6, 2) := by decide +kernel
theorem dX0_becomes_27 : decode cX0_becomes 27 = .ok (.invokestatic 40, 3) := by decide +kernel
theorem dX0_becomes_30 : decode cX0_becomes 30 = .ok (.aload_n 1, 1) := by decide +kernel
theorem dX0_becomes_31 : decode cX0_becomes 31 = .ok (.getfield 18, 3) := by decide +kernel
theorem dX0_becomes_34 : decode cX0_becomes 34 = .ok (.iconst 0, 1) := by decide +kernel
theorem dX0_becomes_35 : decode cX0_becomes 35 = .ok (.aload_n 0, 1) := by decide +kernel
theorem dX0_becomes_36 : decode cX0_becomes 36 = .ok (.getfield 18, 3) := by decide +kernel
theorem dX0_becomes_39 : decode cX0_becomes 39 = .ok (.iconst 0, 1) := by decide +kernel
theorem dX0_becomes_40 : decode cX0_becomes 40 = .ok (.bipush 6, 2) := by decide +kernel
theorem dX0_becomes_42 : decode cX0_becomes 42 = .ok (.invokestatic 40, 3) := by decide +kernel
theorem dX0_becomes_45 : decode cX0_becomes 45 = .ok (.aload_n 1, 1) := by decide +kernel
theorem dX0_becomes_46 : decode cX0_becomes 46 = .ok (.getfield 21, 3) := by decide +kernel
theorem dX0_becomes_49 : decode cX0_becomes 49 = .ok (.iconst 0, 1) := by decide +kernel
theorem dX0_becomes_50 : decode cX0_becomes 50 = .ok (.aload_n 0, 1) := by decide +kernel
theorem dX0_becomes_51 : decode cX0_becomes 51 = .ok (.getfield 21, 3) := by decide +kernel
theorem dX0_becomes_54 : decode cX0_becomes 54 = .ok (.iconst 0, 1) := by decide +kernel
theorem dX0_becomes_55 : decode cX0_becomes 55 = .ok (.bipush 6, 2) := by decide +kernel
theorem dX0_becomes_57 : decode cX0_becomes 57 = .ok (.invokestatic 40, 3) := by decide +kernel
theorem dX0_becomes_60 : decode cX0_becomes 60 = .ok (.aload_n 1, 1) := by decide +kernel
theorem dX0_becomes_61 : decode cX0_becomes 61 = .ok (.getfield 24, 3) := by decide +kernel
theorem dX0_becomes_64 : decode cX0_becomes 64 = .ok (.iconst 0, 1) := by decide +kernel
theorem dX0_becomes_65 : decode cX0_becomes 65 = .ok (.aload_n 0, 1) := by decide +kernel
theorem dX0_becomes_66 : decode cX0_becomes 66 = .ok (.getfield 24, 3) := by decide +kernel
theorem dX0_becomes_69 : decode cX0_becomes 69 = .ok (.iconst 0, 1) := by decide +kernel
theorem dX0_becomes_70 : decode cX0_becomes 70 = .ok (.bipush 6, 2) := by decide +kernel
theorem dX0_becomes_72 : decode cX0_becomes 72 = .ok (.invokestatic 40, 3) := by decide +kernel
theorem dX0_becomes_75 : decode cX0_becomes 75 = .ok (.aload_n 1, 1) := by decide +kernel
theorem dX0_becomes_76 : decode cX0_becomes 76 = .ok (.getfield 27, 3) := by decide +kernel
theorem dX0_becomes_79 : decode cX0_becomes 79 = .ok (.iconst 0, 1) := by decide +kernel
theorem dX0_becomes_80 : decode cX0_becomes 80 = .ok (.aload_n 0, 1) := by decide +kernel
theorem dX0_becomes_81 : decode cX0_becomes 81 = .ok (.getfield 27, 3) := by decide +kernel
theorem dX0_becomes_84 : decode cX0_becomes 84 = .ok (.iconst 0, 1) := by decide +kernel
theorem dX0_becomes_85 : decode cX0_becomes 85 = .ok (.bipush 6, 2) := by decide +kernel
theorem dX0_becomes_87 : decode cX0_becomes 87 = .ok (.invokestatic 40, 3) := by decide +kernel
theorem dX0_becomes_90 : decode cX0_becomes 90 = .ok (.aload_n 1, 1) := by decide +kernel
theorem dX0_becomes_91 : decode cX0_becomes 91 = .ok (.getfield 30, 3) := by decide +kernel
theorem dX0_becomes_94 : decode cX0_becomes 94 = .ok (.iconst 0, 1) := by decide +kernel
theorem dX0_becomes_95 : decode cX0_becomes 95 = .ok (.aload_n 0, 1) := by decide +kernel
theorem dX0_becomes_96 : decode cX0_becomes 96 = .ok (.getfield 30, 3) := by decide +kernel
theorem dX0_becomes_99 : decode cX0_becomes 99 = .ok (.iconst 0, 1) := by decide +kernel
theorem dX0_becomes_100 : decode cX0_becomes 100 = .ok (.bipush 48, 2) := by decide +kernel
theorem dX0_becomes_102 : decode cX0_becomes 102 = .ok (.invokestatic 40, 3) := by decide +kernel
theorem dX0_becomes_105 : decode cX0_becomes 105 = .ok (.aload_n 0, 1) := by decide +kernel
theorem dX0_becomes_106 : decode cX0_becomes 106 = .ok (.aload_n 1, 1) := by decide +kernel
theorem dX0_becomes_107 : decode cX0_becomes 107 = .ok (.getfield 46, 3) := by decide +kernel
theorem dX0_becomes_110 : decode cX0_becomes 110 = .ok (.putfield 46, 3) := by decide +kernel
theorem dX0_becomes_113 : decode cX0_becomes 113 = .ok (.aload_n 0, 1) := by decide +kernel
theorem dX0_becomes_114 : decode cX0_becomes 114 = .ok (.aload_n 1, 1) := by decide +kernel
theorem dX0_becomes_115 : decode cX0_becomes 115 = .ok (.getfield 50, 3) := by decide +kernel
theorem dX0_becomes_118 : decode cX0_becomes 118 = .ok (.putfield 50, 3) := by decide +kernel
theorem dX0_becomes_121 : decode cX0_becomes 121 = .ok (.aload_n 0, 1) := by decide +kernel
theorem dX0_becomes_122 : decode cX0_becomes 122 = .ok (.aload_n 1, 1) := by decide +kernel
theorem dX0_becomes_123 : decode cX0_becomes 123 = .ok (.getfield 53, 3) := by decide +kernel
theorem dX0_becomes_126 : decode cX0_becomes 126 = .ok (.putfield 53, 3) := by decide +kernel
theorem dX0_becomes_129 : decode cX0_becomes 129 = .ok (.return_, 1) := by decide +kernel
theorem dX0_has_0 : decode cX0_has 0 = .ok (.iload_n 1, 1) := by decide +kernel
theorem dX0_has_1 : decode cX0_has 1 = .ok (.ifCond .lt 15, 3) := by decide +kernel
theorem dX0_has_4 : decode cX0_has 4 = .ok (.iload_n 1, 1) := by decide +kernel
theorem dX0_has_5 : decode cX0_has 5 = .ok (.aload_n 0, 1) := by decide +kernel
theorem dX0_has_6 : decode cX0_has 6 = .ok (.getfield 46, 3) := by decide +kernel
theorem dX0_has_9 : decode cX0_has 9 = .ok (.if_icmp .ge 7, 3) := by decide +kernel
theorem dX0_has_12 : decode cX0_has 12 = .ok (.iconst 1, 1) := by decide +kernel
theorem dX0_has_13 : decode cX0_has 13 = .ok (.goto 4, 3) := by decide +kernel
theorem dX0_has_16 : decode cX0_has 16 = .ok (.iconst 0, 1) := by decide +kernel
theorem dX0_has_17 : decode cX0_has 17 = .ok (.ireturn, 1) := by decide +kernel
theorem dX0_admit_0 : decode cX0_admit 0 = .ok (.aload_n 0, 1) := by decide +kernel
theorem dX0_admit_1 : decode cX0_admit 1 = .ok (.getfield 46, 3) := by decide +kernel
theorem dX0_admit_4 : decode cX0_admit 4 = .ok (.bipush 6, 2) := by decide +kernel
theorem dX0_admit_6 : decode cX0_admit 6 = .ok (.if_icmp .lt 6, 3) := by decide +kernel
theorem dX0_admit_9 : decode cX0_admit 9 = .ok (.bipush (-4), 2) := by decide +kernel
theorem dX0_admit_11 : decode cX0_admit 11 = .ok (.ireturn, 1) := by decide +kernel
theorem dX0_admit_12 : decode cX0_admit 12 = .ok (.aload_n 0, 1) := by decide +kernel
theorem dX0_admit_13 : decode cX0_admit 13 = .ok (.getfield 46, 3) := by decide +kernel
theorem dX0_admit_16 : decode cX0_admit 16 = .ok (.istore 4, 2) := by decide +kernel
theorem dX0_admit_18 : decode cX0_admit 18 = .ok (.aload_n 0, 1) := by decide +kernel
theorem dX0_admit_19 : decode cX0_admit 19 = .ok (.dup, 1) := by decide +kernel
theorem dX0_admit_20 : decode cX0_admit 20 = .ok (.getfield 46, 3) := by decide +kernel
theorem dX0_admit_23 : decode cX0_admit 23 = .ok (.iconst 1, 1) := by decide +kernel
theorem dX0_admit_24 : decode cX0_admit 24 = .ok (.iadd, 1) := by decide +kernel
theorem dX0_admit_25 : decode cX0_admit 25 = .ok (.putfield 46, 3) := by decide +kernel
theorem dX0_admit_28 : decode cX0_admit 28 = .ok (.aload_n 0, 1) := by decide +kernel
theorem dX0_admit_29 : decode cX0_admit 29 = .ok (.getfield 9, 3) := by decide +kernel
theorem dX0_admit_32 : decode cX0_admit 32 = .ok (.iload 4, 2) := by decide +kernel
theorem dX0_admit_34 : decode cX0_admit 34 = .ok (.iload_n 1, 1) := by decide +kernel
theorem dX0_admit_35 : decode cX0_admit 35 = .ok (.iastore, 1) := by decide +kernel
theorem dX0_admit_36 : decode cX0_admit 36 = .ok (.aload_n 0, 1) := by decide +kernel
theorem dX0_admit_37 : decode cX0_admit 37 = .ok (.getfield 15, 3) := by decide +kernel
theorem dX0_admit_40 : decode cX0_admit 40 = .ok (.iload 4, 2) := by decide +kernel
theorem dX0_admit_42 : decode cX0_admit 42 = .ok (.iload_n 2, 1) := by decide +kernel
theorem dX0_admit_43 : decode cX0_admit 43 = .ok (.iastore, 1) := by decide +kernel
theorem dX0_admit_44 : decode cX0_admit 44 = .ok (.aload_n 0, 1) := by decide +kernel
theorem dX0_admit_45 : decode cX0_admit 45 = .ok (.getfield 18, 3) := by decide +kernel
theorem dX0_admit_48 : decode cX0_admit 48 = .ok (.iload 4, 2) := by decide +kernel
theorem dX0_admit_50 : decode cX0_admit 50 = .ok (.iconst 0, 1) := by decide +kernel
theorem dX0_admit_51 : decode cX0_admit 51 = .ok (.iastore, 1) := by decide +kernel
theorem dX0_admit_52 : decode cX0_admit 52 = .ok (.aload_n 0, 1) := by decide +kernel
theorem dX0_admit_53 : decode cX0_admit 53 = .ok (.getfield 21, 3) := by decide +kernel
theorem dX0_admit_56 : decode cX0_admit 56 = .ok (.iload 4, 2) := by decide +kernel
theorem dX0_admit_58 : decode cX0_admit 58 = .ok (.iconst 0, 1) := by decide +kernel
theorem dX0_admit_59 : decode cX0_admit 59 = .ok (.iastore, 1) := by decide +kernel
theorem dX0_admit_60 : decode cX0_admit 60 = .ok (.aload_n 0, 1) := by decide +kernel
theorem dX0_admit_61 : decode cX0_admit 61 = .ok (.getfield 24, 3) := by decide +kernel
theorem dX0_admit_64 : decode cX0_admit 64 = .ok (.iload 4, 2) := by decide +kernel
theorem dX0_admit_66 : decode cX0_admit 66 = .ok (.iconst (-1), 1) := by decide +kernel
theorem dX0_admit_67 : decode cX0_admit 67 = .ok (.iastore, 1) := by decide +kernel
theorem dX0_admit_68 : decode cX0_admit 68 = .ok (.aload_n 0, 1) := by decide +kernel
theorem dX0_admit_69 : decode cX0_admit 69 = .ok (.getfield 27, 3) := by decide +kernel
theorem dX0_admit_72 : decode cX0_admit 72 = .ok (.iload 4, 2) := by decide +kernel
theorem dX0_admit_74 : decode cX0_admit 74 = .ok (.iconst 0, 1) := by decide +kernel
theorem dX0_admit_75 : decode cX0_admit 75 = .ok (.iastore, 1) := by decide +kernel
theorem dX0_admit_76 : decode cX0_admit 76 = .ok (.iconst 0, 1) := by decide +kernel
theorem dX0_admit_77 : decode cX0_admit 77 = .ok (.istore 5, 2) := by decide +kernel
theorem dX0_admit_79 : decode cX0_admit 79 = .ok (.iload 5, 2) := by decide +kernel
theorem dX0_admit_81 : decode cX0_admit 81 = .ok (.bipush 8, 2) := by decide +kernel
theorem dX0_admit_83 : decode cX0_admit 83 = .ok (.if_icmp .ge 23, 3) := by decide +kernel
theorem dX0_admit_86 : decode cX0_admit 86 = .ok (.aload_n 0, 1) := by decide +kernel
theorem dX0_admit_87 : decode cX0_admit 87 = .ok (.getfield 30, 3) := by decide +kernel
theorem dX0_admit_90 : decode cX0_admit 90 = .ok (.iload 4, 2) := by decide +kernel
theorem dX0_admit_92 : decode cX0_admit 92 = .ok (.bipush 8, 2) := by decide +kernel
theorem dX0_admit_94 : decode cX0_admit 94 = .ok (.imul, 1) := by decide +kernel
theorem dX0_admit_95 : decode cX0_admit 95 = .ok (.iload 5, 2) := by decide +kernel
theorem dX0_admit_97 : decode cX0_admit 97 = .ok (.iadd, 1) := by decide +kernel
theorem dX0_admit_98 : decode cX0_admit 98 = .ok (.iload_n 3, 1) := by decide +kernel
theorem dX0_admit_99 : decode cX0_admit 99 = .ok (.iastore, 1) := by decide +kernel
theorem dX0_admit_100 : decode cX0_admit 100 = .ok (.iinc 5 1, 3) := by decide +kernel
theorem dX0_admit_103 : decode cX0_admit 103 = .ok (.goto (-24), 3) := by decide +kernel
theorem dX0_admit_106 : decode cX0_admit 106 = .ok (.iload 4, 2) := by decide +kernel
theorem dX0_admit_108 : decode cX0_admit 108 = .ok (.ireturn, 1) := by decide +kernel
theorem dX0_setState_0 : decode cX0_setState 0 = .ok (.iload_n 2, 1) := by decide +kernel
theorem dX0_setState_1 : decode cX0_setState 1 = .ok (.bipush 8, 2) := by decide +kernel
theorem dX0_setState_3 : decode cX0_setState 3 = .ok (.if_icmp .ne 21, 3) := by decide +kernel
theorem dX0_setState_6 : decode cX0_setState 6 = .ok (.aload_n 0, 1) := by decide +kernel
theorem dX0_setState_7 : decode cX0_setState 7 = .ok (.getfield 18, 3) := by decide +kernel
theorem dX0_setState_10 : decode cX0_setState 10 = .ok (.iload_n 1, 1) := by decide +kernel
theorem dX0_setState_11 : decode cX0_setState 11 = .ok (.iaload, 1) := by decide +kernel
theorem dX0_setState_12 : decode cX0_setState 12 = .ok (.istore 4, 2) := by decide +kernel
theorem dX0_setState_14 : decode cX0_setState 14 = .ok (.aload_n 0, 1) := by decide +kernel
theorem dX0_setState_15 : decode cX0_setState 15 = .ok (.getfield 18, 3) := by decide +kernel
theorem dX0_setState_18 : decode cX0_setState 18 = .ok (.iload_n 1, 1) := by decide +kernel
theorem dX0_setState_19 : decode cX0_setState 19 = .ok (.iload_n 3, 1) := by decide +kernel
theorem dX0_setState_20 : decode cX0_setState 20 = .ok (.iastore, 1) := by decide +kernel
theorem dX0_setState_21 : decode cX0_setState 21 = .ok (.goto 28, 3) := by decide +kernel
theorem dX0_setState_24 : decode cX0_setState 24 = .ok (.aload_n 0, 1) := by decide +kernel
theorem dX0_setState_25 : decode cX0_setState 25 = .ok (.getfield 30, 3) := by decide +kernel
theorem dX0_setState_28 : decode cX0_setState 28 = .ok (.iload_n 1, 1) := by decide +kernel
theorem dX0_setState_29 : decode cX0_setState 29 = .ok (.bipush 8, 2) := by decide +kernel
theorem dX0_setState_31 : decode cX0_setState 31 = .ok (.imul, 1) := by decide +kernel
theorem dX0_setState_32 : decode cX0_setState 32 = .ok (.iload_n 2, 1) := by decide +kernel
theorem dX0_setState_33 : decode cX0_setState 33 = .ok (.iadd, 1) := by decide +kernel
theorem dX0_setState_34 : decode cX0_setState 34 = .ok (.iaload, 1) := by decide +kernel
theorem dX0_setState_35 : decode cX0_setState 35 = .ok (.istore 4, 2) := by decide +kernel
theorem dX0_setState_37 : decode cX0_setState 37 = .ok (.aload_n 0, 1) := by decide +kernel
theorem dX0_setState_38 : decode cX0_setState 38 = .ok (.getfield 30, 3) := by decide +kernel
theorem dX0_setState_41 : decode cX0_setState 41 = .ok (.iload_n 1, 1) := by decide +kernel
theorem dX0_setState_42 : decode cX0_setState 42 = .ok (.bipush 8, 2) := by decide +kernel
theorem dX0_setState_44 : decode cX0_setState 44 = .ok (.imul, 1) := by decide +kernel
theorem dX0_setState_45 : decode cX0_setState 45 = .ok (.iload_n 2, 1) := by decide +kernel
theorem dX0_setState_46 : decode cX0_setState 46 = .ok (.iadd, 1) := by decide +kernel
theorem dX0_setState_47 : decode cX0_setState 47 = .ok (.iload_n 3, 1) := by decide +kernel
theorem dX0_setState_48 : decode cX0_setState 48 = .ok (.iastore, 1) := by decide +kernel
theorem dX0_setState_49 : decode cX0_setState 49 = .ok (.iload 4, 2) := by decide +kernel
theorem dX0_setState_51 : decode cX0_setState 51 = .ok (.ireturn, 1) := by decide +kernel
theorem dX0_hasSand_0 : decode cX0_hasSand 0 = .ok (.aload_n 0, 1) := by decide +kernel
theorem dX0_hasSand_1 : decode cX0_hasSand 1 = .ok (.getfield 21, 3) := by decide +kernel
theorem dX0_hasSand_4 : decode cX0_hasSand 4 = .ok (.iload_n 1, 1) := by decide +kernel
theorem dX0_hasSand_5 : decode cX0_hasSand 5 = .ok (.iaload, 1) := by decide +kernel
theorem dX0_hasSand_6 : decode cX0_hasSand 6 = .ok (.iload_n 2, 1) := by decide +kernel
theorem dX0_hasSand_7 : decode cX0_hasSand 7 = .ok (.ishr, 1) := by decide +kernel
theorem dX0_hasSand_8 : decode cX0_hasSand 8 = .ok (.iconst 1, 1) := by decide +kernel
theorem dX0_hasSand_9 : decode cX0_hasSand 9 = .ok (.iand, 1) := by decide +kernel
theorem dX0_hasSand_10 : decode cX0_hasSand 10 = .ok (.ifCond .eq 7, 3) := by decide +kernel
theorem dX0_hasSand_13 : decode cX0_hasSand 13 = .ok (.iconst 1, 1) := by decide +kernel
theorem dX0_hasSand_14 : decode cX0_hasSand 14 = .ok (.goto 4, 3) := by decide +kernel
theorem dX0_hasSand_17 : decode cX0_hasSand 17 = .ok (.iconst 0, 1) := by decide +kernel
theorem dX0_hasSand_18 : decode cX0_hasSand 18 = .ok (.ireturn, 1) := by decide +kernel
theorem dX0_firstUnseen_0 : decode cX0_firstUnseen 0 = .ok (.iconst 0, 1) := by decide +kernel
theorem dX0_firstUnseen_1 : decode cX0_firstUnseen 1 = .ok (.istore_n 2, 1) := by decide +kernel
theorem dX0_firstUnseen_2 : decode cX0_firstUnseen 2 = .ok (.iload_n 2, 1) := by decide +kernel
theorem dX0_firstUnseen_3 : decode cX0_firstUnseen 3 = .ok (.bipush 8, 2) := by decide +kernel
theorem dX0_firstUnseen_5 : decode cX0_firstUnseen 5 = .ok (.if_icmp .ge 18, 3) := by decide +kernel
theorem dX0_firstUnseen_8 : decode cX0_firstUnseen 8 = .ok (.aload_n 0, 1) := by decide +kernel
theorem dX0_firstUnseen_9 : decode cX0_firstUnseen 9 = .ok (.iload_n 1, 1) := by decide +kernel
theorem dX0_firstUnseen_10 : decode cX0_firstUnseen 10 = .ok (.iload_n 2, 1) := by decide +kernel
theorem dX0_firstUnseen_11 : decode cX0_firstUnseen 11 = .ok (.invokevirtual 56, 3) := by decide +kernel
theorem dX0_firstUnseen_14 : decode cX0_firstUnseen 14 = .ok (.ifCond .eq 9, 3) := by decide +kernel
theorem dX0_firstUnseen_17 : decode cX0_firstUnseen 17 = .ok (.iinc 2 1, 3) := by decide +kernel
theorem dX0_firstUnseen_20 : decode cX0_firstUnseen 20 = .ok (.goto (-18), 3) := by decide +kernel
theorem dX0_firstUnseen_23 : decode cX0_firstUnseen 23 = .ok (.iload_n 2, 1) := by decide +kernel
theorem dX0_firstUnseen_24 : decode cX0_firstUnseen 24 = .ok (.ireturn, 1) := by decide +kernel
theorem dX0_whoIsIn_0 : decode cX0_whoIsIn 0 = .ok (.iconst 0, 1) := by decide +kernel
theorem dX0_whoIsIn_1 : decode cX0_whoIsIn 1 = .ok (.istore_n 2, 1) := by decide +kernel
theorem dX0_whoIsIn_2 : decode cX0_whoIsIn 2 = .ok (.iconst 0, 1) := by decide +kernel
theorem dX0_whoIsIn_3 : decode cX0_whoIsIn 3 = .ok (.istore_n 3, 1) := by decide +kernel
theorem dX0_whoIsIn_4 : decode cX0_whoIsIn 4 = .ok (.iload_n 3, 1) := by decide +kernel
theorem dX0_whoIsIn_5 : decode cX0_whoIsIn 5 = .ok (.aload_n 0, 1) := by decide +kernel
theorem dX0_whoIsIn_6 : decode cX0_whoIsIn 6 = .ok (.getfield 46, 3) := by decide +kernel
theorem dX0_whoIsIn_9 : decode cX0_whoIsIn 9 = .ok (.if_icmp .ge 25, 3) := by decide +kernel
theorem dX0_whoIsIn_12 : decode cX0_whoIsIn 12 = .ok (.aload_n 0, 1) := by decide +kernel
theorem dX0_whoIsIn_13 : decode cX0_whoIsIn 13 = .ok (.getfield 24, 3) := by decide +kernel
theorem dX0_whoIsIn_16 : decode cX0_whoIsIn 16 = .ok (.iload_n 3, 1) := by decide +kernel
theorem dX0_whoIsIn_17 : decode cX0_whoIsIn 17 = .ok (.iaload, 1) := by decide +kernel
theorem dX0_whoIsIn_18 : decode cX0_whoIsIn 18 = .ok (.iload_n 1, 1) := by decide +kernel
theorem dX0_whoIsIn_19 : decode cX0_whoIsIn 19 = .ok (.if_icmp .ne 9, 3) := by decide +kernel
theorem dX0_whoIsIn_22 : decode cX0_whoIsIn 22 = .ok (.iload_n 2, 1) := by decide +kernel
theorem dX0_whoIsIn_23 : decode cX0_whoIsIn 23 = .ok (.iconst 1, 1) := by decide +kernel
theorem dX0_whoIsIn_24 : decode cX0_whoIsIn 24 = .ok (.iload_n 3, 1) := by decide +kernel
theorem dX0_whoIsIn_25 : decode cX0_whoIsIn 25 = .ok (.ishl, 1) := by decide +kernel
theorem dX0_whoIsIn_26 : decode cX0_whoIsIn 26 = .ok (.ior, 1) := by decide +kernel
theorem dX0_whoIsIn_27 : decode cX0_whoIsIn 27 = .ok (.istore_n 2, 1) := by decide +kernel
theorem dX0_whoIsIn_28 : decode cX0_whoIsIn 28 = .ok (.iinc 3 1, 3) := by decide +kernel
theorem dX0_whoIsIn_31 : decode cX0_whoIsIn 31 = .ok (.goto (-27), 3) := by decide +kernel
theorem dX0_whoIsIn_34 : decode cX0_whoIsIn 34 = .ok (.iload_n 2, 1) := by decide +kernel
theorem dX0_whoIsIn_35 : decode cX0_whoIsIn 35 = .ok (.ireturn, 1) := by decide +kernel
theorem dX0_howManyHere_0 : decode cX0_howManyHere 0 = .ok (.aload_n 0, 1) := by decide +kernel
theorem dX0_howManyHere_1 : decode cX0_howManyHere 1 = .ok (.iconst (-1), 1) := by decide +kernel
theorem dX0_howManyHere_2 : decode cX0_howManyHere 2 = .ok (.invokevirtual 60, 3) := by decide +kernel
theorem dX0_howManyHere_5 : decode cX0_howManyHere 5 = .ok (.invokestatic 64, 3) := by decide +kernel
theorem dX0_howManyHere_8 : decode cX0_howManyHere 8 = .ok (.ireturn, 1) := by decide +kernel
theorem dX0_mostLeft_0 : decode cX0_mostLeft 0 = .ok (.iconst 0, 1) := by decide +kernel
theorem dX0_mostLeft_1 : decode cX0_mostLeft 1 = .ok (.istore_n 1, 1) := by decide +kernel
theorem dX0_mostLeft_2 : decode cX0_mostLeft 2 = .ok (.iconst 0, 1) := by decide +kernel
theorem dX0_mostLeft_3 : decode cX0_mostLeft 3 = .ok (.istore_n 2, 1) := by decide +kernel
theorem dX0_mostLeft_4 : decode cX0_mostLeft 4 = .ok (.iload_n 2, 1) := by decide +kernel
theorem dX0_mostLeft_5 : decode cX0_mostLeft 5 = .ok (.aload_n 0, 1) := by decide +kernel
theorem dX0_mostLeft_6 : decode cX0_mostLeft 6 = .ok (.getfield 46, 3) := by decide +kernel
theorem dX0_mostLeft_9 : decode cX0_mostLeft 9 = .ok (.if_icmp .ge 20, 3) := by decide +kernel
theorem dX0_mostLeft_12 : decode cX0_mostLeft 12 = .ok (.iload_n 1, 1) := by decide +kernel
theorem dX0_mostLeft_13 : decode cX0_mostLeft 13 = .ok (.aload_n 0, 1) := by decide +kernel
theorem dX0_mostLeft_14 : decode cX0_mostLeft 14 = .ok (.getfield 27, 3) := by decide +kernel
theorem dX0_mostLeft_17 : decode cX0_mostLeft 17 = .ok (.iload_n 2, 1) := by decide +kernel
theorem dX0_mostLeft_18 : decode cX0_mostLeft 18 = .ok (.iaload, 1) := by decide +kernel
theorem dX0_mostLeft_19 : decode cX0_mostLeft 19 = .ok (.invokestatic 69, 3) := by decide +kernel
theorem dX0_mostLeft_22 : decode cX0_mostLeft 22 = .ok (.istore_n 1, 1) := by decide +kernel
theorem dX0_mostLeft_23 : decode cX0_mostLeft 23 = .ok (.iinc 2 1, 3) := by decide +kernel
theorem dX0_mostLeft_26 : decode cX0_mostLeft 26 = .ok (.goto (-22), 3) := by decide +kernel
theorem dX0_mostLeft_29 : decode cX0_mostLeft 29 = .ok (.iload_n 1, 1) := by decide +kernel
theorem dX0_mostLeft_30 : decode cX0_mostLeft 30 = .ok (.ireturn, 1) := by decide +kernel
theorem dX0_allWit_0 : decode cX0_allWit 0 = .ok (.iconst 0, 1) := by decide +kernel
theorem dX0_allWit_1 : decode cX0_allWit 1 = .ok (.istore_n 1, 1) := by decide +kernel
theorem dX0_allWit_2 : decode cX0_allWit 2 = .ok (.iconst 0, 1) := by decide +kernel
theorem dX0_allWit_3 : decode cX0_allWit 3 = .ok (.istore_n 2, 1) := by decide +kernel
theorem dX0_allWit_4 : decode cX0_allWit 4 = .ok (.iload_n 2, 1) := by decide +kernel
theorem dX0_allWit_5 : decode cX0_allWit 5 = .ok (.aload_n 0, 1) := by decide +kernel
theorem dX0_allWit_6 : decode cX0_allWit 6 = .ok (.getfield 46, 3) := by decide +kernel
theorem dX0_allWit_9 : decode cX0_allWit 9 = .ok (.if_icmp .ge 18, 3) := by decide +kernel
theorem dX0_allWit_12 : decode cX0_allWit 12 = .ok (.iload_n 1, 1) := by decide +kernel
theorem dX0_allWit_13 : decode cX0_allWit 13 = .ok (.aload_n 0, 1) := by decide +kernel
theorem dX0_allWit_14 : decode cX0_allWit 14 = .ok (.getfield 18, 3) := by decide +kernel
theorem dX0_allWit_17 : decode cX0_allWit 17 = .ok (.iload_n 2, 1) := by decide +kernel
theorem dX0_allWit_18 : decode cX0_allWit 18 = .ok (.iaload, 1) := by decide +kernel
theorem dX0_allWit_19 : decode cX0_allWit 19 = .ok (.iadd, 1) := by decide +kernel
theorem dX0_allWit_20 : decode cX0_allWit 20 = .ok (.istore_n 1, 1) := by decide +kernel
theorem dX0_allWit_21 : decode cX0_allWit 21 = .ok (.iinc 2 1, 3) := by decide +kernel
theorem dX0_allWit_24 : decode cX0_allWit 24 = .ok (.goto (-20), 3) := by decide +kernel
theorem dX0_allWit_27 : decode cX0_allWit 27 = .ok (.iload_n 1, 1) := by decide +kernel
theorem dX0_allWit_28 : decode cX0_allWit 28 = .ok (.ireturn, 1) := by decide +kernel
theorem dX0_grainsOf_0 : decode cX0_grainsOf 0 = .ok (.iconst 0, 1) := by decide +kernel
theorem dX0_grainsOf_1 : decode cX0_grainsOf 1 = .ok (.istore_n 2, 1) := by decide +kernel
theorem dX0_grainsOf_2 : decode cX0_grainsOf 2 = .ok (.iconst 0, 1) := by decide +kernel
theorem dX0_grainsOf_3 : decode cX0_grainsOf 3 = .ok (.istore_n 3, 1) := by decide +kernel
theorem dX0_grainsOf_4 : decode cX0_grainsOf 4 = .ok (.iload_n 3, 1) := by decide +kernel
theorem dX0_grainsOf_5 : decode cX0_grainsOf 5 = .ok (.bipush 8, 2) := by decide +kernel
theorem dX0_grainsOf_7 : decode cX0_grainsOf 7 = .ok (.if_icmp .ge 23, 3) := by decide +kernel
theorem dX0_grainsOf_10 : decode cX0_grainsOf 10 = .ok (.iload_n 2, 1) := by decide +kernel
theorem dX0_grainsOf_11 : decode cX0_grainsOf 11 = .ok (.aload_n 0, 1) := by decide +kernel
theorem dX0_grainsOf_12 : decode cX0_grainsOf 12 = .ok (.getfield 30, 3) := by decide +kernel
theorem dX0_grainsOf_15 : decode cX0_grainsOf 15 = .ok (.iload_n 1, 1) := by decide +kernel
theorem dX0_grainsOf_16 : decode cX0_grainsOf 16 = .ok (.bipush 8, 2) := by decide +kernel
theorem dX0_grainsOf_18 : decode cX0_grainsOf 18 = .ok (.imul, 1) := by decide +kernel
theorem dX0_grainsOf_19 : decode cX0_grainsOf 19 = .ok (.iload_n 3, 1) := by decide +kernel
theorem dX0_grainsOf_20 : decode cX0_grainsOf 20 = .ok (.iadd, 1) := by decide +kernel
theorem dX0_grainsOf_21 : decode cX0_grainsOf 21 = .ok (.iaload, 1) := by decide +kernel
theorem dX0_grainsOf_22 : decode cX0_grainsOf 22 = .ok (.iadd, 1) := by decide +kernel
theorem dX0_grainsOf_23 : decode cX0_grainsOf 23 = .ok (.istore_n 2, 1) := by decide +kernel
theorem dX0_grainsOf_24 : decode cX0_grainsOf 24 = .ok (.iinc 3 1, 3) := by decide +kernel
theorem dX0_grainsOf_27 : decode cX0_grainsOf 27 = .ok (.goto (-23), 3) := by decide +kernel
theorem dX0_grainsOf_30 : decode cX0_grainsOf 30 = .ok (.iload_n 2, 1) := by decide +kernel
theorem dX0_grainsOf_31 : decode cX0_grainsOf 31 = .ok (.ireturn, 1) := by decide +kernel
theorem dX0_lawSays_0 : decode cX0_lawSays 0 = .ok (.aload_n 0, 1) := by decide +kernel
theorem dX0_lawSays_1 : decode cX0_lawSays 1 = .ok (.getfield 33, 3) := by decide +kernel
theorem dX0_lawSays_4 : decode cX0_lawSays 4 = .ok (.aload_n 0, 1) := by decide +kernel
theorem dX0_lawSays_5 : decode cX0_lawSays 5 = .ok (.getfield 53, 3) := by decide +kernel
theorem dX0_lawSays_8 : decode cX0_lawSays 8 = .ok (.aaload, 1) := by decide +kernel
theorem dX0_lawSays_9 : decode cX0_lawSays 9 = .ok (.astore 4, 2) := by decide +kernel
theorem dX0_lawSays_11 : decode cX0_lawSays 11 = .ok (.aload 4, 2) := by decide +kernel
theorem dX0_lawSays_13 : decode cX0_lawSays 13 = .ok (.ifnonnull 5, 3) := by decide +kernel
theorem dX0_lawSays_16 : decode cX0_lawSays 16 = .ok (.iconst 0, 1) := by decide +kernel
theorem dX0_lawSays_17 : decode cX0_lawSays 17 = .ok (.ireturn, 1) := by decide +kernel
theorem dX0_lawSays_18 : decode cX0_lawSays 18 = .ok (.iconst 0, 1) := by decide +kernel
theorem dX0_lawSays_19 : decode cX0_lawSays 19 = .ok (.istore 5, 2) := by decide +kernel
theorem dX0_lawSays_21 : decode cX0_lawSays 21 = .ok (.aload 4, 2) := by decide +kernel
theorem dX0_lawSays_23 : decode cX0_lawSays 23 = .ok (.iload_n 1, 1) := by decide +kernel
theorem dX0_lawSays_24 : decode cX0_lawSays 24 = .ok (.invokevirtual 75, 3) := by decide +kernel
theorem dX0_lawSays_27 : decode cX0_lawSays 27 = .ok (.istore 6, 2) := by decide +kernel
theorem dX0_lawSays_29 : decode cX0_lawSays 29 = .ok (.iload 6, 2) := by decide +kernel
theorem dX0_lawSays_31 : decode cX0_lawSays 31 = .ok (.aload 4, 2) := by decide +kernel
theorem dX0_lawSays_33 : decode cX0_lawSays 33 = .ok (.getfield 80, 3) := by decide +kernel
theorem dX0_lawSays_36 : decode cX0_lawSays 36 = .ok (.iload_n 1, 1) := by decide +kernel
theorem dX0_lawSays_37 : decode cX0_lawSays 37 = .ok (.iaload, 1) := by decide +kernel
theorem dX0_lawSays_38 : decode cX0_lawSays 38 = .ok (.if_icmp .ge 167, 3) := by decide +kernel
theorem dX0_lawSays_41 : decode cX0_lawSays 41 = .ok (.aload 4, 2) := by decide +kernel
theorem dX0_lawSays_43 : decode cX0_lawSays 43 = .ok (.getfield 83, 3) := by decide +kernel
theorem dX0_lawSays_46 : decode cX0_lawSays 46 = .ok (.iload 6, 2) := by decide +kernel
theorem dX0_lawSays_48 : decode cX0_lawSays 48 = .ok (.iaload, 1) := by decide +kernel
theorem dX0_lawSays_49 : decode cX0_lawSays 49 = .ok (.istore 7, 2) := by decide +kernel
theorem dX0_lawSays_51 : decode cX0_lawSays 51 = .ok (.iload 7, 2) := by decide +kernel
theorem dX0_lawSays_53 : decode cX0_lawSays 53 = .ok (.bipush (-6), 2) := by decide +kernel
theorem dX0_lawSays_55 : decode cX0_lawSays 55 = .ok (.if_icmp .lt 44, 3) := by decide +kernel
theorem dX0_lawSays_58 : decode cX0_lawSays 58 = .ok (.iload 5, 2) := by decide +kernel
theorem dX0_lawSays_60 : decode cX0_lawSays 60 = .ok (.aload_n 0, 1) := by decide +kernel
theorem dX0_lawSays_61 : decode cX0_lawSays 61 = .ok (.getfield 37, 3) := by decide +kernel
theorem dX0_lawSays_64 : decode cX0_lawSays 64 = .ok (.arraylength, 1) := by decide +kernel
theorem dX0_lawSays_65 : decode cX0_lawSays 65 = .ok (.if_icmp .ge 134, 3) := by decide +kernel
theorem dX0_lawSays_68 : decode cX0_lawSays 68 = .ok (.aload_n 0, 1) := by decide +kernel
theorem dX0_lawSays_69 : decode cX0_lawSays 69 = .ok (.getfield 37, 3) := by decide +kernel
theorem dX0_lawSays_72 : decode cX0_lawSays 72 = .ok (.iload 5, 2) := by decide +kernel
theorem dX0_lawSays_74 : decode cX0_lawSays 74 = .ok (.iload 7, 2) := by decide +kernel
theorem dX0_lawSays_76 : decode cX0_lawSays 76 = .ok (.ifCond .lt 8, 3) := by decide +kernel
theorem dX0_lawSays_79 : decode cX0_lawSays 79 = .ok (.iload 7, 2) := by decide +kernel
theorem dX0_lawSays_81 : decode cX0_lawSays 81 = .ok (.goto 11, 3) := by decide +kernel
theorem dX0_lawSays_84 : decode cX0_lawSays 84 = .ok (.aload_n 0, 1) := by decide +kernel
theorem dX0_lawSays_85 : decode cX0_lawSays 85 = .ok (.iload 7, 2) := by decide +kernel
theorem dX0_lawSays_87 : decode cX0_lawSays 87 = .ok (.iload_n 2, 1) := by decide +kernel
theorem dX0_lawSays_88 : decode cX0_lawSays 88 = .ok (.iload_n 3, 1) := by decide +kernel
theorem dX0_lawSays_89 : decode cX0_lawSays 89 = .ok (.invokevirtual 86, 3) := by decide +kernel
theorem dX0_lawSays_92 : decode cX0_lawSays 92 = .ok (.iastore, 1) := by decide +kernel
theorem dX0_lawSays_93 : decode cX0_lawSays 93 = .ok (.iinc 5 1, 3) := by decide +kernel
theorem dX0_lawSays_96 : decode cX0_lawSays 96 = .ok (.goto 103, 3) := by decide +kernel
theorem dX0_lawSays_99 : decode cX0_lawSays 99 = .ok (.iload 7, 2) := by decide +kernel
theorem dX0_lawSays_101 : decode cX0_lawSays 101 = .ok (.bipush (-8), 2) := by decide +kernel
theorem dX0_lawSays_103 : decode cX0_lawSays 103 = .ok (.if_icmp .lt 57, 3) := by decide +kernel
theorem dX0_lawSays_106 : decode cX0_lawSays 106 = .ok (.iload 5, 2) := by decide +kernel
theorem dX0_lawSays_108 : decode cX0_lawSays 108 = .ok (.ifCond .le 91, 3) := by decide +kernel
theorem dX0_lawSays_111 : decode cX0_lawSays 111 = .ok (.aload_n 0, 1) := by decide +kernel
theorem dX0_lawSays_112 : decode cX0_lawSays 112 = .ok (.getfield 37, 3) := by decide +kernel
theorem dX0_lawSays_115 : decode cX0_lawSays 115 = .ok (.iload 5, 2) := by decide +kernel
theorem dX0_lawSays_117 : decode cX0_lawSays 117 = .ok (.iconst 1, 1) := by decide +kernel
theorem dX0_lawSays_118 : decode cX0_lawSays 118 = .ok (.isub, 1) := by decide +kernel
theorem dX0_lawSays_119 : decode cX0_lawSays 119 = .ok (.iload 7, 2) := by decide +kernel
theorem dX0_lawSays_121 : decode cX0_lawSays 121 = .ok (.bipush (-7), 2) := by decide +kernel
theorem dX0_lawSays_123 : decode cX0_lawSays 123 = .ok (.if_icmp .ne 16, 3) := by decide +kernel
theorem dX0_lawSays_126 : decode cX0_lawSays 126 = .ok (.aload_n 0, 1) := by decide +kernel
theorem dX0_lawSays_127 : decode cX0_lawSays 127 = .ok (.getfield 37, 3) := by decide +kernel
theorem dX0_lawSays_130 : decode cX0_lawSays 130 = .ok (.iload 5, 2) := by decide +kernel
theorem dX0_lawSays_132 : decode cX0_lawSays 132 = .ok (.iconst 1, 1) := by decide +kernel
theorem dX0_lawSays_133 : decode cX0_lawSays 133 = .ok (.isub, 1) := by decide +kernel
theorem dX0_lawSays_134 : decode cX0_lawSays 134 = .ok (.iaload, 1) := by decide +kernel
theorem dX0_lawSays_135 : decode cX0_lawSays 135 = .ok (.ineg, 1) := by decide +kernel
theorem dX0_lawSays_136 : decode cX0_lawSays 136 = .ok (.goto 20, 3) := by decide +kernel
theorem dX0_lawSays_139 : decode cX0_lawSays 139 = .ok (.aload_n 0, 1) := by decide +kernel
theorem dX0_lawSays_140 : decode cX0_lawSays 140 = .ok (.getfield 37, 3) := by decide +kernel
theorem dX0_lawSays_143 : decode cX0_lawSays 143 = .ok (.iload 5, 2) := by decide +kernel
theorem dX0_lawSays_145 : decode cX0_lawSays 145 = .ok (.iconst 1, 1) := by decide +kernel
theorem dX0_lawSays_146 : decode cX0_lawSays 146 = .ok (.isub, 1) := by decide +kernel
theorem dX0_lawSays_147 : decode cX0_lawSays 147 = .ok (.iaload, 1) := by decide +kernel
theorem dX0_lawSays_148 : decode cX0_lawSays 148 = .ok (.ifCond .ne 7, 3) := by decide +kernel
theorem dX0_lawSays_151 : decode cX0_lawSays 151 = .ok (.iconst 1, 1) := by decide +kernel
theorem dX0_lawSays_152 : decode cX0_lawSays 152 = .ok (.goto 4, 3) := by decide +kernel
theorem dX0_lawSays_155 : decode cX0_lawSays 155 = .ok (.iconst 0, 1) := by decide +kernel
theorem dX0_lawSays_156 : decode cX0_lawSays 156 = .ok (.iastore, 1) := by decide +kernel
theorem dX0_lawSays_157 : decode cX0_lawSays 157 = .ok (.goto 42, 3) := by decide +kernel
theorem dX0_lawSays_160 : decode cX0_lawSays 160 = .ok (.iload 5, 2) := by decide +kernel
theorem dX0_lawSays_162 : decode cX0_lawSays 162 = .ok (.iconst 1, 1) := by decide +kernel
theorem dX0_lawSays_163 : decode cX0_lawSays 163 = .ok (.if_icmp .le 36, 3) := by decide +kernel
theorem dX0_lawSays_166 : decode cX0_lawSays 166 = .ok (.iinc 5 (-1), 3) := by decide +kernel
theorem dX0_lawSays_169 : decode cX0_lawSays 169 = .ok (.aload_n 0, 1) := by decide +kernel
theorem dX0_lawSays_170 : decode cX0_lawSays 170 = .ok (.getfield 37, 3) := by decide +kernel
theorem dX0_lawSays_173 : decode cX0_lawSays 173 = .ok (.iload 5, 2) := by decide +kernel
theorem dX0_lawSays_175 : decode cX0_lawSays 175 = .ok (.iconst 1, 1) := by decide +kernel
theorem dX0_lawSays_176 : decode cX0_lawSays 176 = .ok (.isub, 1) := by decide +kernel
theorem dX0_lawSays_177 : decode cX0_lawSays 177 = .ok (.iload 7, 2) := by decide +kernel
theorem dX0_lawSays_179 : decode cX0_lawSays 179 = .ok (.aload_n 0, 1) := by decide +kernel
theorem dX0_lawSays_180 : decode cX0_lawSays 180 = .ok (.getfield 37, 3) := by decide +kernel
theorem dX0_lawSays_183 : decode cX0_lawSays 183 = .ok (.iload 5, 2) := by decide +kernel
theorem dX0_lawSays_185 : decode cX0_lawSays 185 = .ok (.iconst 1, 1) := by decide +kernel
theorem dX0_lawSays_186 : decode cX0_lawSays 186 = .ok (.isub, 1) := by decide +kernel
theorem dX0_lawSays_187 : decode cX0_lawSays 187 = .ok (.iaload, 1) := by decide +kernel
theorem dX0_lawSays_188 : decode cX0_lawSays 188 = .ok (.aload_n 0, 1) := by decide +kernel
theorem dX0_lawSays_189 : decode cX0_lawSays 189 = .ok (.getfield 37, 3) := by decide +kernel
theorem dX0_lawSays_192 : decode cX0_lawSays 192 = .ok (.iload 5, 2) := by decide +kernel
theorem dX0_lawSays_194 : decode cX0_lawSays 194 = .ok (.iaload, 1) := by decide +kernel
theorem dX0_lawSays_195 : decode cX0_lawSays 195 = .ok (.invokestatic 90, 3) := by decide +kernel
theorem dX0_lawSays_198 : decode cX0_lawSays 198 = .ok (.iastore, 1) := by decide +kernel
theorem dX0_lawSays_199 : decode cX0_lawSays 199 = .ok (.iinc 6 1, 3) := by decide +kernel
theorem dX0_lawSays_202 : decode cX0_lawSays 202 = .ok (.goto (-173), 3) := by decide +kernel
theorem dX0_lawSays_205 : decode cX0_lawSays 205 = .ok (.iload_n 1, 1) := by decide +kernel
theorem dX0_lawSays_206 : decode cX0_lawSays 206 = .ok (.lookupswitch 53 #[(0, 26), (1, 39)], 26) := by decide +kernel
theorem dX0_lawSays_232 : decode cX0_lawSays 232 = .ok (.aload_n 0, 1) := by decide +kernel
theorem dX0_lawSays_233 : decode cX0_lawSays 233 = .ok (.getfield 37, 3) := by decide +kernel
theorem dX0_lawSays_236 : decode cX0_lawSays 236 = .ok (.iconst 0, 1) := by decide +kernel
theorem dX0_lawSays_237 : decode cX0_lawSays 237 = .ok (.iaload, 1) := by decide +kernel
theorem dX0_lawSays_238 : decode cX0_lawSays 238 = .ok (.iconst 0, 1) := by decide +kernel
theorem dX0_lawSays_239 : decode cX0_lawSays 239 = .ok (.bipush 99, 2) := by decide +kernel
theorem dX0_lawSays_241 : decode cX0_lawSays 241 = .ok (.invokestatic 93, 3) := by decide +kernel
theorem dX0_lawSays_244 : decode cX0_lawSays 244 = .ok (.ireturn, 1) := by decide +kernel
theorem dX0_lawSays_245 : decode cX0_lawSays 245 = .ok (.aload_n 0, 1) := by decide +kernel
theorem dX0_lawSays_246 : decode cX0_lawSays 246 = .ok (.getfield 37, 3) := by decide +kernel
theorem dX0_lawSays_249 : decode cX0_lawSays 249 = .ok (.iconst 0, 1) := by decide +kernel
theorem dX0_lawSays_250 : decode cX0_lawSays 250 = .ok (.iaload, 1) := by decide +kernel
theorem dX0_lawSays_251 : decode cX0_lawSays 251 = .ok (.bipush (-99), 2) := by decide +kernel
theorem dX0_lawSays_253 : decode cX0_lawSays 253 = .ok (.bipush 99, 2) := by decide +kernel
theorem dX0_lawSays_255 : decode cX0_lawSays 255 = .ok (.invokestatic 93, 3) := by decide +kernel
theorem dX0_lawSays_258 : decode cX0_lawSays 258 = .ok (.ireturn, 1) := by decide +kernel
theorem dX0_lawSays_259 : decode cX0_lawSays 259 = .ok (.aload_n 0, 1) := by decide +kernel
theorem dX0_lawSays_260 : decode cX0_lawSays 260 = .ok (.getfield 37, 3) := by decide +kernel
theorem dX0_lawSays_263 : decode cX0_lawSays 263 = .ok (.iconst 0, 1) := by decide +kernel
theorem dX0_lawSays_264 : decode cX0_lawSays 264 = .ok (.iaload, 1) := by decide +kernel
theorem dX0_lawSays_265 : decode cX0_lawSays 265 = .ok (.iconst 0, 1) := by decide +kernel
theorem dX0_lawSays_266 : decode cX0_lawSays 266 = .ok (.bipush 9, 2) := by decide +kernel
theorem dX0_lawSays_268 : decode cX0_lawSays 268 = .ok (.invokestatic 93, 3) := by decide +kernel
theorem dX0_lawSays_271 : decode cX0_lawSays 271 = .ok (.ireturn, 1) := by decide +kernel
theorem dX0_named_0 : decode cX0_named 0 = .ok (.iconst (-1), 1) := by decide +kernel
theorem dX0_named_1 : decode cX0_named 1 = .ok (.iload_n 1, 1) := by decide +kernel
theorem dX0_named_2 : decode cX0_named 2 = .ok (.isub, 1) := by decide +kernel
theorem dX0_named_3 : decode cX0_named 3 = .ok (.tableswitch 69 0 4 #[33, 35, 47, 54, 64], 33) := by decide +kernel
theorem dX0_named_36 : decode cX0_named 36 = .ok (.iload_n 3, 1) := by decide +kernel
theorem dX0_named_37 : decode cX0_named 37 = .ok (.ireturn, 1) := by decide +kernel
theorem dX0_named_38 : decode cX0_named 38 = .ok (.aload_n 0, 1) := by decide +kernel
theorem dX0_named_39 : decode cX0_named 39 = .ok (.getfield 30, 3) := by decide +kernel
theorem dX0_named_42 : decode cX0_named 42 = .ok (.iload_n 2, 1) := by decide +kernel
theorem dX0_named_43 : decode cX0_named 43 = .ok (.bipush 8, 2) := by decide +kernel
theorem dX0_named_45 : decode cX0_named 45 = .ok (.imul, 1) := by decide +kernel
theorem dX0_named_46 : decode cX0_named 46 = .ok (.iload_n 3, 1) := by decide +kernel
theorem dX0_named_47 : decode cX0_named 47 = .ok (.iadd, 1) := by decide +kernel
theorem dX0_named_48 : decode cX0_named 48 = .ok (.iaload, 1) := by decide +kernel
theorem dX0_named_49 : decode cX0_named 49 = .ok (.ireturn, 1) := by decide +kernel
theorem dX0_named_50 : decode cX0_named 50 = .ok (.aload_n 0, 1) := by decide +kernel
theorem dX0_named_51 : decode cX0_named 51 = .ok (.getfield 18, 3) := by decide +kernel
theorem dX0_named_54 : decode cX0_named 54 = .ok (.iload_n 2, 1) := by decide +kernel
theorem dX0_named_55 : decode cX0_named 55 = .ok (.iaload, 1) := by decide +kernel
theorem dX0_named_56 : decode cX0_named 56 = .ok (.ireturn, 1) := by decide +kernel
theorem dX0_named_57 : decode cX0_named 57 = .ok (.aload_n 0, 1) := by decide +kernel
theorem dX0_named_58 : decode cX0_named 58 = .ok (.getfield 21, 3) := by decide +kernel
theorem dX0_named_61 : decode cX0_named 61 = .ok (.iload_n 2, 1) := by decide +kernel
theorem dX0_named_62 : decode cX0_named 62 = .ok (.iaload, 1) := by decide +kernel
theorem dX0_named_63 : decode cX0_named 63 = .ok (.invokestatic 64, 3) := by decide +kernel
theorem dX0_named_66 : decode cX0_named 66 = .ok (.ireturn, 1) := by decide +kernel
theorem dX0_named_67 : decode cX0_named 67 = .ok (.aload_n 0, 1) := by decide +kernel
theorem dX0_named_68 : decode cX0_named 68 = .ok (.getfield 50, 3) := by decide +kernel
theorem dX0_named_71 : decode cX0_named 71 = .ok (.ireturn, 1) := by decide +kernel
theorem dX0_named_72 : decode cX0_named 72 = .ok (.aload_n 0, 1) := by decide +kernel
theorem dX0_named_73 : decode cX0_named 73 = .ok (.getfield 15, 3) := by decide +kernel
theorem dX0_named_76 : decode cX0_named 76 = .ok (.iload_n 2, 1) := by decide +kernel
theorem dX0_named_77 : decode cX0_named 77 = .ok (.iaload, 1) := by decide +kernel
theorem dX0_named_78 : decode cX0_named 78 = .ok (.ireturn, 1) := by decide +kernel
theorem dX0_gone_0 : decode cX0_gone 0 = .ok (.aload_n 0, 1) := by decide +kernel
theorem dX0_gone_1 : decode cX0_gone 1 = .ok (.iconst 0, 1) := by decide +kernel
theorem dX0_gone_2 : decode cX0_gone 2 = .ok (.iload_n 1, 1) := by decide +kernel
theorem dX0_gone_3 : decode cX0_gone 3 = .ok (.iload_n 2, 1) := by decide +kernel
theorem dX0_gone_4 : decode cX0_gone 4 = .ok (.invokevirtual 96, 3) := by decide +kernel
theorem dX0_gone_7 : decode cX0_gone 7 = .ok (.istore_n 3, 1) := by decide +kernel
theorem dX0_gone_8 : decode cX0_gone 8 = .ok (.aload_n 0, 1) := by decide +kernel
theorem dX0_gone_9 : decode cX0_gone 9 = .ok (.getfield 9, 3) := by decide +kernel
theorem dX0_gone_12 : decode cX0_gone 12 = .ok (.iload_n 1, 1) := by decide +kernel
theorem dX0_gone_13 : decode cX0_gone 13 = .ok (.iaload, 1) := by decide +kernel
theorem dX0_gone_14 : decode cX0_gone 14 = .ok (.tableswitch 101 1 5 #[34, 42, 47, 72, 90], 34) := by decide +kernel
theorem dX0_gone_48 : decode cX0_gone 48 = .ok (.iconst 1, 1) := by decide +kernel
theorem dX0_gone_49 : decode cX0_gone 49 = .ok (.iload_n 3, 1) := by decide +kernel
theorem dX0_gone_50 : decode cX0_gone 50 = .ok (.iconst 2, 1) := by decide +kernel
theorem dX0_gone_51 : decode cX0_gone 51 = .ok (.idiv, 1) := by decide +kernel
theorem dX0_gone_52 : decode cX0_gone 52 = .ok (.invokestatic 69, 3) := by decide +kernel
theorem dX0_gone_55 : decode cX0_gone 55 = .ok (.ireturn, 1) := by decide +kernel
theorem dX0_gone_56 : decode cX0_gone 56 = .ok (.iload_n 3, 1) := by decide +kernel
theorem dX0_gone_57 : decode cX0_gone 57 = .ok (.bipush 10, 2) := by decide +kernel
theorem dX0_gone_59 : decode cX0_gone 59 = .ok (.iadd, 1) := by decide +kernel
theorem dX0_gone_60 : decode cX0_gone 60 = .ok (.ireturn, 1) := by decide +kernel
theorem dX0_gone_61 : decode cX0_gone 61 = .ok (.iload_n 2, 1) := by decide +kernel
theorem dX0_gone_62 : decode cX0_gone 62 = .ok (.aload_n 0, 1) := by decide +kernel
theorem dX0_gone_63 : decode cX0_gone 63 = .ok (.getfield 15, 3) := by decide +kernel
theorem dX0_gone_66 : decode cX0_gone 66 = .ok (.iload_n 1, 1) := by decide +kernel
theorem dX0_gone_67 : decode cX0_gone 67 = .ok (.iaload, 1) := by decide +kernel
theorem dX0_gone_68 : decode cX0_gone 68 = .ok (.bipush 8, 2) := by decide +kernel
theorem dX0_gone_70 : decode cX0_gone 70 = .ok (.irem, 1) := by decide +kernel
theorem dX0_gone_71 : decode cX0_gone 71 = .ok (.if_icmp .ne 7, 3) := by decide +kernel
theorem dX0_gone_74 : decode cX0_gone 74 = .ok (.iconst 1, 1) := by decide +kernel
theorem dX0_gone_75 : decode cX0_gone 75 = .ok (.goto 10, 3) := by decide +kernel
theorem dX0_gone_78 : decode cX0_gone 78 = .ok (.iconst 1, 1) := by decide +kernel
theorem dX0_gone_79 : decode cX0_gone 79 = .ok (.iload_n 3, 1) := by decide +kernel
theorem dX0_gone_80 : decode cX0_gone 80 = .ok (.iconst 2, 1) := by decide +kernel
theorem dX0_gone_81 : decode cX0_gone 81 = .ok (.idiv, 1) := by decide +kernel
theorem dX0_gone_82 : decode cX0_gone 82 = .ok (.invokestatic 69, 3) := by decide +kernel
theorem dX0_gone_85 : decode cX0_gone 85 = .ok (.ireturn, 1) := by decide +kernel
theorem dX0_gone_86 : decode cX0_gone 86 = .ok (.iload_n 2, 1) := by decide +kernel
theorem dX0_gone_87 : decode cX0_gone 87 = .ok (.bipush 7, 2) := by decide +kernel
theorem dX0_gone_89 : decode cX0_gone 89 = .ok (.if_icmp .ne 8, 3) := by decide +kernel
theorem dX0_gone_92 : decode cX0_gone 92 = .ok (.bipush 99, 2) := by decide +kernel
theorem dX0_gone_94 : decode cX0_gone 94 = .ok (.goto 9, 3) := by decide +kernel
theorem dX0_gone_97 : decode cX0_gone 97 = .ok (.iload_n 3, 1) := by decide +kernel
theorem dX0_gone_98 : decode cX0_gone 98 = .ok (.bipush 10, 2) := by decide +kernel
theorem dX0_gone_100 : decode cX0_gone 100 = .ok (.iadd, 1) := by decide +kernel
theorem dX0_gone_101 : decode cX0_gone 101 = .ok (.iconst 3, 1) := by decide +kernel
theorem dX0_gone_102 : decode cX0_gone 102 = .ok (.idiv, 1) := by decide +kernel
theorem dX0_gone_103 : decode cX0_gone 103 = .ok (.ireturn, 1) := by decide +kernel
theorem dX0_gone_104 : decode cX0_gone 104 = .ok (.iconst 1, 1) := by decide +kernel
theorem dX0_gone_105 : decode cX0_gone 105 = .ok (.aload_n 0, 1) := by decide +kernel
theorem dX0_gone_106 : decode cX0_gone 106 = .ok (.getfield 15, 3) := by decide +kernel
theorem dX0_gone_109 : decode cX0_gone 109 = .ok (.iload_n 1, 1) := by decide +kernel
theorem dX0_gone_110 : decode cX0_gone 110 = .ok (.iaload, 1) := by decide +kernel
theorem dX0_gone_111 : decode cX0_gone 111 = .ok (.invokestatic 69, 3) := by decide +kernel
theorem dX0_gone_114 : decode cX0_gone 114 = .ok (.ireturn, 1) := by decide +kernel
theorem dX0_gone_115 : decode cX0_gone 115 = .ok (.iconst 1, 1) := by decide +kernel
theorem dX0_gone_116 : decode cX0_gone 116 = .ok (.iload_n 3, 1) := by decide +kernel
theorem dX0_gone_117 : decode cX0_gone 117 = .ok (.invokestatic 69, 3) := by decide +kernel
theorem dX0_gone_120 : decode cX0_gone 120 = .ok (.ireturn, 1) := by decide +kernel
theorem dX0_gains_0 : decode cX0_gains 0 = .ok (.aload_n 0, 1) := by decide +kernel
theorem dX0_gains_1 : decode cX0_gains 1 = .ok (.iconst 1, 1) := by decide +kernel
theorem dX0_gains_2 : decode cX0_gains 2 = .ok (.iload_n 1, 1) := by decide +kernel
theorem dX0_gains_3 : decode cX0_gains 3 = .ok (.iload_n 2, 1) := by decide +kernel
theorem dX0_gains_4 : decode cX0_gains 4 = .ok (.invokevirtual 96, 3) := by decide +kernel
theorem dX0_gains_7 : decode cX0_gains 7 = .ok (.istore_n 3, 1) := by decide +kernel
theorem dX0_gains_8 : decode cX0_gains 8 = .ok (.aload_n 0, 1) := by decide +kernel
theorem dX0_gains_9 : decode cX0_gains 9 = .ok (.iload_n 1, 1) := by decide +kernel
theorem dX0_gains_10 : decode cX0_gains 10 = .ok (.iload_n 2, 1) := by decide +kernel
theorem dX0_gains_11 : decode cX0_gains 11 = .ok (.invokevirtual 56, 3) := by decide +kernel
theorem dX0_gains_14 : decode cX0_gains 14 = .ok (.istore 4, 2) := by decide +kernel
theorem dX0_gains_16 : decode cX0_gains 16 = .ok (.aload_n 0, 1) := by decide +kernel
theorem dX0_gains_17 : decode cX0_gains 17 = .ok (.getfield 9, 3) := by decide +kernel
theorem dX0_gains_20 : decode cX0_gains 20 = .ok (.iload_n 1, 1) := by decide +kernel
theorem dX0_gains_21 : decode cX0_gains 21 = .ok (.iaload, 1) := by decide +kernel
theorem dX0_gains_22 : decode cX0_gains 22 = .ok (.tableswitch 71 1 4 #[30, 71, 48, 68], 30) := by decide +kernel
theorem dX0_gains_52 : decode cX0_gains 52 = .ok (.iload 4, 2) := by decide +kernel
theorem dX0_gains_54 : decode cX0_gains 54 = .ok (.ifCond .eq 7, 3) := by decide +kernel
theorem dX0_gains_57 : decode cX0_gains 57 = .ok (.iload_n 3, 1) := by decide +kernel
theorem dX0_gains_58 : decode cX0_gains 58 = .ok (.goto 11, 3) := by decide +kernel
theorem dX0_gains_61 : decode cX0_gains 61 = .ok (.iload_n 3, 1) := by decide +kernel
theorem dX0_gains_62 : decode cX0_gains 62 = .ok (.aload_n 0, 1) := by decide +kernel
theorem dX0_gains_63 : decode cX0_gains 63 = .ok (.getfield 15, 3) := by decide +kernel
theorem dX0_gains_66 : decode cX0_gains 66 = .ok (.iload_n 1, 1) := by decide +kernel
theorem dX0_gains_67 : decode cX0_gains 67 = .ok (.iaload, 1) := by decide +kernel
theorem dX0_gains_68 : decode cX0_gains 68 = .ok (.iadd, 1) := by decide +kernel
theorem dX0_gains_69 : decode cX0_gains 69 = .ok (.ireturn, 1) := by decide +kernel
theorem dX0_gains_70 : decode cX0_gains 70 = .ok (.iload 4, 2) := by decide +kernel
theorem dX0_gains_72 : decode cX0_gains 72 = .ok (.ifCond .eq 7, 3) := by decide +kernel
theorem dX0_gains_75 : decode cX0_gains 75 = .ok (.iconst 0, 1) := by decide +kernel
theorem dX0_gains_76 : decode cX0_gains 76 = .ok (.goto 13, 3) := by decide +kernel
theorem dX0_gains_79 : decode cX0_gains 79 = .ok (.iconst 2, 1) := by decide +kernel
theorem dX0_gains_80 : decode cX0_gains 80 = .ok (.iload_n 3, 1) := by decide +kernel
theorem dX0_gains_81 : decode cX0_gains 81 = .ok (.aload_n 0, 1) := by decide +kernel
theorem dX0_gains_82 : decode cX0_gains 82 = .ok (.getfield 15, 3) := by decide +kernel
theorem dX0_gains_85 : decode cX0_gains 85 = .ok (.iload_n 1, 1) := by decide +kernel
theorem dX0_gains_86 : decode cX0_gains 86 = .ok (.iaload, 1) := by decide +kernel
theorem dX0_gains_87 : decode cX0_gains 87 = .ok (.iadd, 1) := by decide +kernel
theorem dX0_gains_88 : decode cX0_gains 88 = .ok (.imul, 1) := by decide +kernel
theorem dX0_gains_89 : decode cX0_gains 89 = .ok (.ireturn, 1) := by decide +kernel
theorem dX0_gains_90 : decode cX0_gains 90 = .ok (.iload_n 3, 1) := by decide +kernel
theorem dX0_gains_91 : decode cX0_gains 91 = .ok (.ineg, 1) := by decide +kernel
theorem dX0_gains_92 : decode cX0_gains 92 = .ok (.ireturn, 1) := by decide +kernel
theorem dX0_gains_93 : decode cX0_gains 93 = .ok (.iload_n 3, 1) := by decide +kernel
theorem dX0_gains_94 : decode cX0_gains 94 = .ok (.ireturn, 1) := by decide +kernel
theorem dX0_spills_0 : decode cX0_spills 0 = .ok (.aload_n 0, 1) := by decide +kernel
theorem dX0_spills_1 : decode cX0_spills 1 = .ok (.iconst 2, 1) := by decide +kernel
theorem dX0_spills_2 : decode cX0_spills 2 = .ok (.iload_n 1, 1) := by decide +kernel
theorem dX0_spills_3 : decode cX0_spills 3 = .ok (.iload_n 2, 1) := by decide +kernel
theorem dX0_spills_4 : decode cX0_spills 4 = .ok (.invokevirtual 96, 3) := by decide +kernel
theorem dX0_spills_7 : decode cX0_spills 7 = .ok (.istore_n 3, 1) := by decide +kernel
theorem dX0_spills_8 : decode cX0_spills 8 = .ok (.aload_n 0, 1) := by decide +kernel
theorem dX0_spills_9 : decode cX0_spills 9 = .ok (.getfield 9, 3) := by decide +kernel
theorem dX0_spills_12 : decode cX0_spills 12 = .ok (.iload_n 1, 1) := by decide +kernel
theorem dX0_spills_13 : decode cX0_spills 13 = .ok (.iaload, 1) := by decide +kernel
theorem dX0_spills_14 : decode cX0_spills 14 = .ok (.tableswitch 49 2 5 #[30, 49, 30, 47], 30) := by decide +kernel
theorem dX0_spills_44 : decode cX0_spills 44 = .ok (.aload_n 0, 1) := by decide +kernel
theorem dX0_spills_45 : decode cX0_spills 45 = .ok (.getfield 50, 3) := by decide +kernel
theorem dX0_spills_48 : decode cX0_spills 48 = .ok (.iconst 2, 1) := by decide +kernel
theorem dX0_spills_49 : decode cX0_spills 49 = .ok (.irem, 1) := by decide +kernel
theorem dX0_spills_50 : decode cX0_spills 50 = .ok (.ifCond .ne 9, 3) := by decide +kernel
theorem dX0_spills_53 : decode cX0_spills 53 = .ok (.iload_n 3, 1) := by decide +kernel
theorem dX0_spills_54 : decode cX0_spills 54 = .ok (.iconst 1, 1) := by decide +kernel
theorem dX0_spills_55 : decode cX0_spills 55 = .ok (.iadd, 1) := by decide +kernel
theorem dX0_spills_56 : decode cX0_spills 56 = .ok (.goto 4, 3) := by decide +kernel
theorem dX0_spills_59 : decode cX0_spills 59 = .ok (.iconst 0, 1) := by decide +kernel
theorem dX0_spills_60 : decode cX0_spills 60 = .ok (.ireturn, 1) := by decide +kernel
theorem dX0_spills_61 : decode cX0_spills 61 = .ok (.iconst 0, 1) := by decide +kernel
theorem dX0_spills_62 : decode cX0_spills 62 = .ok (.ireturn, 1) := by decide +kernel
theorem dX0_spills_63 : decode cX0_spills 63 = .ok (.iload_n 3, 1) := by decide +kernel
theorem dX0_spills_64 : decode cX0_spills 64 = .ok (.ireturn, 1) := by decide +kernel
theorem dX0_can_0 : decode cX0_can 0 = .ok (.aload_n 0, 1) := by decide +kernel
theorem dX0_can_1 : decode cX0_can 1 = .ok (.iload_n 1, 1) := by decide +kernel
theorem dX0_can_2 : decode cX0_can 2 = .ok (.invokevirtual 99, 3) := by decide +kernel
theorem dX0_can_5 : decode cX0_can 5 = .ok (.ifCond .eq 38, 3) := by decide +kernel
theorem dX0_can_8 : decode cX0_can 8 = .ok (.iload_n 2, 1) := by decide +kernel
theorem dX0_can_9 : decode cX0_can 9 = .ok (.invokestatic 103, 3) := by decide +kernel
theorem dX0_can_12 : decode cX0_can 12 = .ok (.ifCond .eq 31, 3) := by decide +kernel
theorem dX0_can_15 : decode cX0_can 15 = .ok (.aload_n 0, 1) := by decide +kernel
theorem dX0_can_16 : decode cX0_can 16 = .ok (.getfield 24, 3) := by decide +kernel
theorem dX0_can_19 : decode cX0_can 19 = .ok (.iload_n 1, 1) := by decide +kernel
theorem dX0_can_20 : decode cX0_can 20 = .ok (.iaload, 1) := by decide +kernel
theorem dX0_can_21 : decode cX0_can 21 = .ok (.iconst (-1), 1) := by decide +kernel
theorem dX0_can_22 : decode cX0_can 22 = .ok (.if_icmp .ne 21, 3) := by decide +kernel
theorem dX0_can_25 : decode cX0_can 25 = .ok (.aload_n 0, 1) := by decide +kernel
theorem dX0_can_26 : decode cX0_can 26 = .ok (.getfield 30, 3) := by decide +kernel
theorem dX0_can_29 : decode cX0_can 29 = .ok (.iload_n 1, 1) := by decide +kernel
theorem dX0_can_30 : decode cX0_can 30 = .ok (.bipush 8, 2) := by decide +kernel
theorem dX0_can_32 : decode cX0_can 32 = .ok (.imul, 1) := by decide +kernel
theorem dX0_can_33 : decode cX0_can 33 = .ok (.iload_n 2, 1) := by decide +kernel
theorem dX0_can_34 : decode cX0_can 34 = .ok (.iadd, 1) := by decide +kernel
theorem dX0_can_35 : decode cX0_can 35 = .ok (.iaload, 1) := by decide +kernel
theorem dX0_can_36 : decode cX0_can 36 = .ok (.ifCond .le 7, 3) := by decide +kernel
theorem dX0_can_39 : decode cX0_can 39 = .ok (.iconst 1, 1) := by decide +kernel
theorem dX0_can_40 : decode cX0_can 40 = .ok (.goto 4, 3) := by decide +kernel
theorem dX0_can_43 : decode cX0_can 43 = .ok (.iconst 0, 1) := by decide +kernel
theorem dX0_can_44 : decode cX0_can 44 = .ok (.ireturn, 1) := by decide +kernel
theorem dX0_take_0 : decode cX0_take 0 = .ok (.aload_n 0, 1) := by decide +kernel
theorem dX0_take_1 : decode cX0_take 1 = .ok (.iload_n 1, 1) := by decide +kernel
theorem dX0_take_2 : decode cX0_take 2 = .ok (.iload_n 2, 1) := by decide +kernel
theorem dX0_take_3 : decode cX0_take 3 = .ok (.invokevirtual 106, 3) := by decide +kernel
theorem dX0_take_6 : decode cX0_take 6 = .ok (.istore_n 3, 1) := by decide +kernel
theorem dX0_take_7 : decode cX0_take 7 = .ok (.aload_n 0, 1) := by decide +kernel
theorem dX0_take_8 : decode cX0_take 8 = .ok (.getfield 18, 3) := by decide +kernel
theorem dX0_take_11 : decode cX0_take 11 = .ok (.iload_n 1, 1) := by decide +kernel
theorem dX0_take_12 : decode cX0_take 12 = .ok (.iaload, 1) := by decide +kernel
theorem dX0_take_13 : decode cX0_take 13 = .ok (.aload_n 0, 1) := by decide +kernel
theorem dX0_take_14 : decode cX0_take 14 = .ok (.iload_n 1, 1) := by decide +kernel
theorem dX0_take_15 : decode cX0_take 15 = .ok (.iload_n 2, 1) := by decide +kernel
theorem dX0_take_16 : decode cX0_take 16 = .ok (.invokevirtual 109, 3) := by decide +kernel
theorem dX0_take_19 : decode cX0_take 19 = .ok (.iadd, 1) := by decide +kernel
theorem dX0_take_20 : decode cX0_take 20 = .ok (.iconst 0, 1) := by decide +kernel
theorem dX0_take_21 : decode cX0_take 21 = .ok (.bipush 99, 2) := by decide +kernel
theorem dX0_take_23 : decode cX0_take 23 = .ok (.invokestatic 93, 3) := by decide +kernel
theorem dX0_take_26 : decode cX0_take 26 = .ok (.istore 4, 2) := by decide +kernel
theorem dX0_take_28 : decode cX0_take 28 = .ok (.aload_n 0, 1) := by decide +kernel
theorem dX0_take_29 : decode cX0_take 29 = .ok (.iload_n 1, 1) := by decide +kernel
theorem dX0_take_30 : decode cX0_take 30 = .ok (.iload_n 2, 1) := by decide +kernel
theorem dX0_take_31 : decode cX0_take 31 = .ok (.invokevirtual 112, 3) := by decide +kernel
theorem dX0_take_34 : decode cX0_take 34 = .ok (.istore 5, 2) := by decide +kernel
theorem dX0_take_36 : decode cX0_take 36 = .ok (.iload_n 1, 1) := by decide +kernel
theorem dX0_take_37 : decode cX0_take 37 = .ok (.bipush 8, 2) := by decide +kernel
theorem dX0_take_39 : decode cX0_take 39 = .ok (.imul, 1) := by decide +kernel
theorem dX0_take_40 : decode cX0_take 40 = .ok (.iload_n 2, 1) := by decide +kernel
theorem dX0_take_41 : decode cX0_take 41 = .ok (.iadd, 1) := by decide +kernel
theorem dX0_take_42 : decode cX0_take 42 = .ok (.istore 6, 2) := by decide +kernel
theorem dX0_take_44 : decode cX0_take 44 = .ok (.iload_n 1, 1) := by decide +kernel
theorem dX0_take_45 : decode cX0_take 45 = .ok (.iconst 1, 1) := by decide +kernel
theorem dX0_take_46 : decode cX0_take 46 = .ok (.iadd, 1) := by decide +kernel
theorem dX0_take_47 : decode cX0_take 47 = .ok (.aload_n 0, 1) := by decide +kernel
theorem dX0_take_48 : decode cX0_take 48 = .ok (.getfield 46, 3) := by decide +kernel
theorem dX0_take_51 : decode cX0_take 51 = .ok (.if_icmp .ge 9, 3) := by decide +kernel
theorem dX0_take_54 : decode cX0_take 54 = .ok (.iload_n 1, 1) := by decide +kernel
theorem dX0_take_55 : decode cX0_take 55 = .ok (.iconst 1, 1) := by decide +kernel
theorem dX0_take_56 : decode cX0_take 56 = .ok (.iadd, 1) := by decide +kernel
theorem dX0_take_57 : decode cX0_take 57 = .ok (.goto 4, 3) := by decide +kernel
theorem dX0_take_60 : decode cX0_take 60 = .ok (.iconst 0, 1) := by decide +kernel
theorem dX0_take_61 : decode cX0_take 61 = .ok (.istore 7, 2) := by decide +kernel
theorem dX0_take_63 : decode cX0_take 63 = .ok (.aload_n 0, 1) := by decide +kernel
theorem dX0_take_64 : decode cX0_take 64 = .ok (.getfield 30, 3) := by decide +kernel
theorem dX0_take_67 : decode cX0_take 67 = .ok (.iload 6, 2) := by decide +kernel
theorem dX0_take_69 : decode cX0_take 69 = .ok (.dup2, 1) := by decide +kernel
theorem dX0_take_70 : decode cX0_take 70 = .ok (.iaload, 1) := by decide +kernel
theorem dX0_take_71 : decode cX0_take 71 = .ok (.iconst 1, 1) := by decide +kernel
theorem dX0_take_72 : decode cX0_take 72 = .ok (.isub, 1) := by decide +kernel
theorem dX0_take_73 : decode cX0_take 73 = .ok (.iastore, 1) := by decide +kernel
theorem dX0_take_74 : decode cX0_take 74 = .ok (.iload 7, 2) := by decide +kernel
theorem dX0_take_76 : decode cX0_take 76 = .ok (.iload_n 1, 1) := by decide +kernel
theorem dX0_take_77 : decode cX0_take 77 = .ok (.if_icmp .eq 63, 3) := by decide +kernel
theorem dX0_take_80 : decode cX0_take 80 = .ok (.iload 7, 2) := by decide +kernel
theorem dX0_take_82 : decode cX0_take 82 = .ok (.bipush 8, 2) := by decide +kernel
theorem dX0_take_84 : decode cX0_take 84 = .ok (.imul, 1) := by decide +kernel
theorem dX0_take_85 : decode cX0_take 85 = .ok (.iload_n 2, 1) := by decide +kernel
theorem dX0_take_86 : decode cX0_take 86 = .ok (.iadd, 1) := by decide +kernel
theorem dX0_take_87 : decode cX0_take 87 = .ok (.istore 8, 2) := by decide +kernel
theorem dX0_take_89 : decode cX0_take 89 = .ok (.iload 5, 2) := by decide +kernel
theorem dX0_take_91 : decode cX0_take 91 = .ok (.aload_n 0, 1) := by decide +kernel
theorem dX0_take_92 : decode cX0_take 92 = .ok (.getfield 30, 3) := by decide +kernel
theorem dX0_take_95 : decode cX0_take 95 = .ok (.iload 6, 2) := by decide +kernel
theorem dX0_take_97 : decode cX0_take 97 = .ok (.iaload, 1) := by decide +kernel
theorem dX0_take_98 : decode cX0_take 98 = .ok (.bipush 9, 2) := by decide +kernel
theorem dX0_take_100 : decode cX0_take 100 = .ok (.aload_n 0, 1) := by decide +kernel
theorem dX0_take_101 : decode cX0_take 101 = .ok (.getfield 30, 3) := by decide +kernel
theorem dX0_take_104 : decode cX0_take 104 = .ok (.iload 8, 2) := by decide +kernel
theorem dX0_take_106 : decode cX0_take 106 = .ok (.iaload, 1) := by decide +kernel
theorem dX0_take_107 : decode cX0_take 107 = .ok (.isub, 1) := by decide +kernel
theorem dX0_take_108 : decode cX0_take 108 = .ok (.invokestatic 115, 3) := by decide +kernel
theorem dX0_take_111 : decode cX0_take 111 = .ok (.invokestatic 115, 3) := by decide +kernel
theorem dX0_take_114 : decode cX0_take 114 = .ok (.istore 5, 2) := by decide +kernel
theorem dX0_take_116 : decode cX0_take 116 = .ok (.aload_n 0, 1) := by decide +kernel
theorem dX0_take_117 : decode cX0_take 117 = .ok (.getfield 30, 3) := by decide +kernel
theorem dX0_take_120 : decode cX0_take 120 = .ok (.iload 6, 2) := by decide +kernel
theorem dX0_take_122 : decode cX0_take 122 = .ok (.dup2, 1) := by decide +kernel
theorem dX0_take_123 : decode cX0_take 123 = .ok (.iaload, 1) := by decide +kernel
theorem dX0_take_124 : decode cX0_take 124 = .ok (.iload 5, 2) := by decide +kernel
theorem dX0_take_126 : decode cX0_take 126 = .ok (.isub, 1) := by decide +kernel
theorem dX0_take_127 : decode cX0_take 127 = .ok (.iastore, 1) := by decide +kernel
theorem dX0_take_128 : decode cX0_take 128 = .ok (.aload_n 0, 1) := by decide +kernel
theorem dX0_take_129 : decode cX0_take 129 = .ok (.getfield 30, 3) := by decide +kernel
theorem dX0_take_132 : decode cX0_take 132 = .ok (.iload 8, 2) := by decide +kernel
theorem dX0_take_134 : decode cX0_take 134 = .ok (.dup2, 1) := by decide +kernel
theorem dX0_take_135 : decode cX0_take 135 = .ok (.iaload, 1) := by decide +kernel
theorem dX0_take_136 : decode cX0_take 136 = .ok (.iload 5, 2) := by decide +kernel
theorem dX0_take_138 : decode cX0_take 138 = .ok (.iadd, 1) := by decide +kernel
theorem dX0_take_139 : decode cX0_take 139 = .ok (.iastore, 1) := by decide +kernel
theorem dX0_take_140 : decode cX0_take 140 = .ok (.aload_n 0, 1) := by decide +kernel
theorem dX0_take_141 : decode cX0_take 141 = .ok (.getfield 18, 3) := by decide +kernel
theorem dX0_take_144 : decode cX0_take 144 = .ok (.iload_n 1, 1) := by decide +kernel
theorem dX0_take_145 : decode cX0_take 145 = .ok (.iload 4, 2) := by decide +kernel
theorem dX0_take_147 : decode cX0_take 147 = .ok (.iastore, 1) := by decide +kernel
theorem dX0_take_148 : decode cX0_take 148 = .ok (.aload_n 0, 1) := by decide +kernel
theorem dX0_take_149 : decode cX0_take 149 = .ok (.getfield 21, 3) := by decide +kernel
theorem dX0_take_152 : decode cX0_take 152 = .ok (.iload_n 1, 1) := by decide +kernel
theorem dX0_take_153 : decode cX0_take 153 = .ok (.dup2, 1) := by decide +kernel
theorem dX0_take_154 : decode cX0_take 154 = .ok (.iaload, 1) := by decide +kernel
theorem dX0_take_155 : decode cX0_take 155 = .ok (.iconst 1, 1) := by decide +kernel
theorem dX0_take_156 : decode cX0_take 156 = .ok (.iload_n 2, 1) := by decide +kernel
theorem dX0_take_157 : decode cX0_take 157 = .ok (.ishl, 1) := by decide +kernel
theorem dX0_take_158 : decode cX0_take 158 = .ok (.ior, 1) := by decide +kernel
theorem dX0_take_159 : decode cX0_take 159 = .ok (.iastore, 1) := by decide +kernel
theorem dX0_take_160 : decode cX0_take 160 = .ok (.aload_n 0, 1) := by decide +kernel
theorem dX0_take_161 : decode cX0_take 161 = .ok (.getfield 24, 3) := by decide +kernel
theorem dX0_take_164 : decode cX0_take 164 = .ok (.iload_n 1, 1) := by decide +kernel
theorem dX0_take_165 : decode cX0_take 165 = .ok (.iload_n 2, 1) := by decide +kernel
theorem dX0_take_166 : decode cX0_take 166 = .ok (.iastore, 1) := by decide +kernel
theorem dX0_take_167 : decode cX0_take 167 = .ok (.aload_n 0, 1) := by decide +kernel
theorem dX0_take_168 : decode cX0_take 168 = .ok (.getfield 27, 3) := by decide +kernel
theorem dX0_take_171 : decode cX0_take 171 = .ok (.iload_n 1, 1) := by decide +kernel
theorem dX0_take_172 : decode cX0_take 172 = .ok (.iload_n 3, 1) := by decide +kernel
theorem dX0_take_173 : decode cX0_take 173 = .ok (.iastore, 1) := by decide +kernel
theorem dX0_take_174 : decode cX0_take 174 = .ok (.return_, 1) := by decide +kernel
theorem dX0_tries_0 : decode cX0_tries 0 = .ok (.iload_n 1, 1) := by decide +kernel
theorem dX0_tries_1 : decode cX0_tries 1 = .ok (.ifCond .lt 18, 3) := by decide +kernel
theorem dX0_tries_4 : decode cX0_tries 4 = .ok (.aload_n 0, 1) := by decide +kernel
theorem dX0_tries_5 : decode cX0_tries 5 = .ok (.iload_n 1, 1) := by decide +kernel
theorem dX0_tries_6 : decode cX0_tries 6 = .ok (.bipush 10, 2) := by decide +kernel
theorem dX0_tries_8 : decode cX0_tries 8 = .ok (.idiv, 1) := by decide +kernel
theorem dX0_tries_9 : decode cX0_tries 9 = .ok (.iload_n 1, 1) := by decide +kernel
theorem dX0_tries_10 : decode cX0_tries 10 = .ok (.bipush 10, 2) := by decide +kernel
theorem dX0_tries_12 : decode cX0_tries 12 = .ok (.irem, 1) := by decide +kernel
theorem dX0_tries_13 : decode cX0_tries 13 = .ok (.invokevirtual 118, 3) := by decide +kernel
theorem dX0_tries_16 : decode cX0_tries 16 = .ok (.ifCond .ne 5, 3) := by decide +kernel
theorem dX0_tries_19 : decode cX0_tries 19 = .ok (.iconst 0, 1) := by decide +kernel
theorem dX0_tries_20 : decode cX0_tries 20 = .ok (.ireturn, 1) := by decide +kernel
theorem dX0_tries_21 : decode cX0_tries 21 = .ok (.aload_n 0, 1) := by decide +kernel
theorem dX0_tries_22 : decode cX0_tries 22 = .ok (.iload_n 1, 1) := by decide +kernel
theorem dX0_tries_23 : decode cX0_tries 23 = .ok (.bipush 10, 2) := by decide +kernel
theorem dX0_tries_25 : decode cX0_tries 25 = .ok (.idiv, 1) := by decide +kernel
theorem dX0_tries_26 : decode cX0_tries 26 = .ok (.iload_n 1, 1) := by decide +kernel
theorem dX0_tries_27 : decode cX0_tries 27 = .ok (.bipush 10, 2) := by decide +kernel
theorem dX0_tries_29 : decode cX0_tries 29 = .ok (.irem, 1) := by decide +kernel
theorem dX0_tries_30 : decode cX0_tries 30 = .ok (.invokevirtual 121, 3) := by decide +kernel
theorem dX0_tries_33 : decode cX0_tries 33 = .ok (.iconst 1, 1) := by decide +kernel
theorem dX0_tries_34 : decode cX0_tries 34 = .ok (.ireturn, 1) := by decide +kernel
theorem dX0_pass_0 : decode cX0_pass 0 = .ok (.iconst 0, 1) := by decide +kernel
theorem dX0_pass_1 : decode cX0_pass 1 = .ok (.istore_n 1, 1) := by decide +kernel
theorem dX0_pass_2 : decode cX0_pass 2 = .ok (.iconst 0, 1) := by decide +kernel
theorem dX0_pass_3 : decode cX0_pass 3 = .ok (.istore_n 2, 1) := by decide +kernel
theorem dX0_pass_4 : decode cX0_pass 4 = .ok (.iload_n 2, 1) := by decide +kernel
theorem dX0_pass_5 : decode cX0_pass 5 = .ok (.aload_n 0, 1) := by decide +kernel
theorem dX0_pass_6 : decode cX0_pass 6 = .ok (.getfield 46, 3) := by decide +kernel
theorem dX0_pass_9 : decode cX0_pass 9 = .ok (.if_icmp .ge 58, 3) := by decide +kernel
theorem dX0_pass_12 : decode cX0_pass 12 = .ok (.aload_n 0, 1) := by decide +kernel
theorem dX0_pass_13 : decode cX0_pass 13 = .ok (.getfield 24, 3) := by decide +kernel
theorem dX0_pass_16 : decode cX0_pass 16 = .ok (.iload_n 2, 1) := by decide +kernel
theorem dX0_pass_17 : decode cX0_pass 17 = .ok (.iaload, 1) := by decide +kernel
theorem dX0_pass_18 : decode cX0_pass 18 = .ok (.iconst (-1), 1) := by decide +kernel
theorem dX0_pass_19 : decode cX0_pass 19 = .ok (.if_icmp .eq 42, 3) := by decide +kernel
theorem dX0_pass_22 : decode cX0_pass 22 = .ok (.aload_n 0, 1) := by decide +kernel
theorem dX0_pass_23 : decode cX0_pass 23 = .ok (.getfield 27, 3) := by decide +kernel
theorem dX0_pass_26 : decode cX0_pass 26 = .ok (.iload_n 2, 1) := by decide +kernel
theorem dX0_pass_27 : decode cX0_pass 27 = .ok (.dup2, 1) := by decide +kernel
theorem dX0_pass_28 : decode cX0_pass 28 = .ok (.iaload, 1) := by decide +kernel
theorem dX0_pass_29 : decode cX0_pass 29 = .ok (.iconst 1, 1) := by decide +kernel
theorem dX0_pass_30 : decode cX0_pass 30 = .ok (.isub, 1) := by decide +kernel
theorem dX0_pass_31 : decode cX0_pass 31 = .ok (.iastore, 1) := by decide +kernel
theorem dX0_pass_32 : decode cX0_pass 32 = .ok (.aload_n 0, 1) := by decide +kernel
theorem dX0_pass_33 : decode cX0_pass 33 = .ok (.getfield 27, 3) := by decide +kernel
theorem dX0_pass_36 : decode cX0_pass 36 = .ok (.iload_n 2, 1) := by decide +kernel
theorem dX0_pass_37 : decode cX0_pass 37 = .ok (.iaload, 1) := by decide +kernel
theorem dX0_pass_38 : decode cX0_pass 38 = .ok (.ifCond .gt 23, 3) := by decide +kernel
theorem dX0_pass_41 : decode cX0_pass 41 = .ok (.aload_n 0, 1) := by decide +kernel
theorem dX0_pass_42 : decode cX0_pass 42 = .ok (.getfield 27, 3) := by decide +kernel
theorem dX0_pass_45 : decode cX0_pass 45 = .ok (.iload_n 2, 1) := by decide +kernel
theorem dX0_pass_46 : decode cX0_pass 46 = .ok (.iconst 0, 1) := by decide +kernel
theorem dX0_pass_47 : decode cX0_pass 47 = .ok (.iastore, 1) := by decide +kernel
theorem dX0_pass_48 : decode cX0_pass 48 = .ok (.aload_n 0, 1) := by decide +kernel
theorem dX0_pass_49 : decode cX0_pass 49 = .ok (.getfield 24, 3) := by decide +kernel
theorem dX0_pass_52 : decode cX0_pass 52 = .ok (.iload_n 2, 1) := by decide +kernel
theorem dX0_pass_53 : decode cX0_pass 53 = .ok (.iconst (-1), 1) := by decide +kernel
theorem dX0_pass_54 : decode cX0_pass 54 = .ok (.iastore, 1) := by decide +kernel
theorem dX0_pass_55 : decode cX0_pass 55 = .ok (.iload_n 1, 1) := by decide +kernel
theorem dX0_pass_56 : decode cX0_pass 56 = .ok (.iconst 1, 1) := by decide +kernel
theorem dX0_pass_57 : decode cX0_pass 57 = .ok (.iload_n 2, 1) := by decide +kernel
theorem dX0_pass_58 : decode cX0_pass 58 = .ok (.ishl, 1) := by decide +kernel
theorem dX0_pass_59 : decode cX0_pass 59 = .ok (.ior, 1) := by decide +kernel
theorem dX0_pass_60 : decode cX0_pass 60 = .ok (.istore_n 1, 1) := by decide +kernel
theorem dX0_pass_61 : decode cX0_pass 61 = .ok (.iinc 2 1, 3) := by decide +kernel
theorem dX0_pass_64 : decode cX0_pass 64 = .ok (.goto (-60), 3) := by decide +kernel
theorem dX0_pass_67 : decode cX0_pass 67 = .ok (.aload_n 0, 1) := by decide +kernel
theorem dX0_pass_68 : decode cX0_pass 68 = .ok (.dup, 1) := by decide +kernel
theorem dX0_pass_69 : decode cX0_pass 69 = .ok (.getfield 50, 3) := by decide +kernel
theorem dX0_pass_72 : decode cX0_pass 72 = .ok (.iconst 1, 1) := by decide +kernel
theorem dX0_pass_73 : decode cX0_pass 73 = .ok (.iadd, 1) := by decide +kernel
theorem dX0_pass_74 : decode cX0_pass 74 = .ok (.putfield 50, 3) := by decide +kernel
theorem dX0_pass_77 : decode cX0_pass 77 = .ok (.iload_n 1, 1) := by decide +kernel
theorem dX0_pass_78 : decode cX0_pass 78 = .ok (.ireturn, 1) := by decide +kernel
theorem dX1_init_0 : decode cX1_init 0 = .ok (.aload_n 0, 1) := by decide +kernel
theorem dX1_init_1 : decode cX1_init 1 = .ok (.invokespecial 3, 3) := by decide +kernel
theorem dX1_init_4 : decode cX1_init 4 = .ok (.aload_n 0, 1) := by decide +kernel
theorem dX1_init_5 : decode cX1_init 5 = .ok (.bipush 40, 2) := by decide +kernel
theorem dX1_init_7 : decode cX1_init 7 = .ok (.newarray .int, 2) := by decide +kernel
theorem dX1_init_9 : decode cX1_init 9 = .ok (.putfield 9, 3) := by decide +kernel
theorem dX1_init_12 : decode cX1_init 12 = .ok (.aload_n 0, 1) := by decide +kernel
theorem dX1_init_13 : decode cX1_init 13 = .ok (.iconst (-1), 1) := by decide +kernel
theorem dX1_init_14 : decode cX1_init 14 = .ok (.putfield 15, 3) := by decide +kernel
theorem dX1_init_17 : decode cX1_init 17 = .ok (.return_, 1) := by decide +kernel
theorem dX1_isMissing_0 : decode cX1_isMissing 0 = .ok (.aload_n 0, 1) := by decide +kernel
theorem dX1_isMissing_1 : decode cX1_isMissing 1 = .ok (.getfield 15, 3) := by decide +kernel
theorem dX1_isMissing_4 : decode cX1_isMissing 4 = .ok (.ifCond .ge 7, 3) := by decide +kernel
theorem dX1_isMissing_7 : decode cX1_isMissing 7 = .ok (.iconst 1, 1) := by decide +kernel
theorem dX1_isMissing_8 : decode cX1_isMissing 8 = .ok (.goto 4, 3) := by decide +kernel
theorem dX1_isMissing_11 : decode cX1_isMissing 11 = .ok (.iconst 0, 1) := by decide +kernel
theorem dX1_isMissing_12 : decode cX1_isMissing 12 = .ok (.ireturn, 1) := by decide +kernel
theorem dX1_has_0 : decode cX1_has 0 = .ok (.iload_n 1, 1) := by decide +kernel
theorem dX1_has_1 : decode cX1_has 1 = .ok (.ifCond .lt 15, 3) := by decide +kernel
theorem dX1_has_4 : decode cX1_has 4 = .ok (.iload_n 1, 1) := by decide +kernel
theorem dX1_has_5 : decode cX1_has 5 = .ok (.aload_n 0, 1) := by decide +kernel
theorem dX1_has_6 : decode cX1_has 6 = .ok (.getfield 19, 3) := by decide +kernel
theorem dX1_has_9 : decode cX1_has 9 = .ok (.if_icmp .ge 7, 3) := by decide +kernel
theorem dX1_has_12 : decode cX1_has 12 = .ok (.iconst 1, 1) := by decide +kernel
theorem dX1_has_13 : decode cX1_has 13 = .ok (.goto 4, 3) := by decide +kernel
theorem dX1_has_16 : decode cX1_has 16 = .ok (.iconst 0, 1) := by decide +kernel
theorem dX1_has_17 : decode cX1_has 17 = .ok (.ireturn, 1) := by decide +kernel
theorem dX1_holds_0 : decode cX1_holds 0 = .ok (.iload_n 1, 1) := by decide +kernel
theorem dX1_holds_1 : decode cX1_holds 1 = .ok (.ifCond .lt 29, 3) := by decide +kernel
theorem dX1_holds_4 : decode cX1_holds 4 = .ok (.iload_n 2, 1) := by decide +kernel
theorem dX1_holds_5 : decode cX1_holds 5 = .ok (.ifCond .lt 25, 3) := by decide +kernel
theorem dX1_holds_8 : decode cX1_holds 8 = .ok (.iload_n 2, 1) := by decide +kernel
theorem dX1_holds_9 : decode cX1_holds 9 = .ok (.aload_n 0, 1) := by decide +kernel
theorem dX1_holds_10 : decode cX1_holds 10 = .ok (.getfield 19, 3) := by decide +kernel
theorem dX1_holds_13 : decode cX1_holds 13 = .ok (.if_icmp .gt 17, 3) := by decide +kernel
theorem dX1_holds_16 : decode cX1_holds 16 = .ok (.iload_n 1, 1) := by decide +kernel
theorem dX1_holds_17 : decode cX1_holds 17 = .ok (.aload_n 0, 1) := by decide +kernel
theorem dX1_holds_18 : decode cX1_holds 18 = .ok (.getfield 19, 3) := by decide +kernel
theorem dX1_holds_21 : decode cX1_holds 21 = .ok (.iload_n 2, 1) := by decide +kernel
theorem dX1_holds_22 : decode cX1_holds 22 = .ok (.isub, 1) := by decide +kernel
theorem dX1_holds_23 : decode cX1_holds 23 = .ok (.if_icmp .gt 7, 3) := by decide +kernel
theorem dX1_holds_26 : decode cX1_holds 26 = .ok (.iconst 1, 1) := by decide +kernel
theorem dX1_holds_27 : decode cX1_holds 27 = .ok (.goto 4, 3) := by decide +kernel
theorem dX1_holds_30 : decode cX1_holds 30 = .ok (.iconst 0, 1) := by decide +kernel
theorem dX1_holds_31 : decode cX1_holds 31 = .ok (.ireturn, 1) := by decide +kernel
theorem dX1_becomes_0 : decode cX1_becomes 0 = .ok (.aload_n 0, 1) := by decide +kernel
theorem dX1_becomes_1 : decode cX1_becomes 1 = .ok (.iload_n 1, 1) := by decide +kernel
theorem dX1_becomes_2 : decode cX1_becomes 2 = .ok (.putfield 15, 3) := by decide +kernel
theorem dX1_becomes_5 : decode cX1_becomes 5 = .ok (.aload_n 0, 1) := by decide +kernel
theorem dX1_becomes_6 : decode cX1_becomes 6 = .ok (.iconst 0, 1) := by decide +kernel
theorem dX1_becomes_7 : decode cX1_becomes 7 = .ok (.iload_n 2, 1) := by decide +kernel
theorem dX1_becomes_8 : decode cX1_becomes 8 = .ok (.bipush 40, 2) := by decide +kernel
theorem dX1_becomes_10 : decode cX1_becomes 10 = .ok (.invokestatic 22, 3) := by decide +kernel
theorem dX1_becomes_13 : decode cX1_becomes 13 = .ok (.invokestatic 28, 3) := by decide +kernel
theorem dX1_becomes_16 : decode cX1_becomes 16 = .ok (.putfield 19, 3) := by decide +kernel
theorem dX1_becomes_19 : decode cX1_becomes 19 = .ok (.iconst 0, 1) := by decide +kernel
theorem dX1_becomes_20 : decode cX1_becomes 20 = .ok (.istore_n 3, 1) := by decide +kernel
theorem dX1_becomes_21 : decode cX1_becomes 21 = .ok (.iload_n 3, 1) := by decide +kernel
theorem dX1_becomes_22 : decode cX1_becomes 22 = .ok (.aload_n 0, 1) := by decide +kernel
theorem dX1_becomes_23 : decode cX1_becomes 23 = .ok (.getfield 19, 3) := by decide +kernel
theorem dX1_becomes_26 : decode cX1_becomes 26 = .ok (.if_icmp .ge 16, 3) := by decide +kernel
theorem dX1_becomes_29 : decode cX1_becomes 29 = .ok (.aload_n 0, 1) := by decide +kernel
theorem dX1_becomes_30 : decode cX1_becomes 30 = .ok (.getfield 9, 3) := by decide +kernel
theorem dX1_becomes_33 : decode cX1_becomes 33 = .ok (.iload_n 3, 1) := by decide +kernel
theorem dX1_becomes_34 : decode cX1_becomes 34 = .ok (.iconst 0, 1) := by decide +kernel
theorem dX1_becomes_35 : decode cX1_becomes 35 = .ok (.iastore, 1) := by decide +kernel
theorem dX1_becomes_36 : decode cX1_becomes 36 = .ok (.iinc 3 1, 3) := by decide +kernel
theorem dX1_becomes_39 : decode cX1_becomes 39 = .ok (.goto (-18), 3) := by decide +kernel
theorem dX1_becomes_42 : decode cX1_becomes 42 = .ok (.return_, 1) := by decide +kernel
theorem dX1_write_0 : decode cX1_write 0 = .ok (.aload_n 0, 1) := by decide +kernel
theorem dX1_write_1 : decode cX1_write 1 = .ok (.iload_n 1, 1) := by decide +kernel
theorem dX1_write_2 : decode cX1_write 2 = .ok (.invokevirtual 31, 3) := by decide +kernel
theorem dX1_write_5 : decode cX1_write 5 = .ok (.ifCond .eq 35, 3) := by decide +kernel
theorem dX1_write_8 : decode cX1_write 8 = .ok (.aload_n 0, 1) := by decide +kernel
theorem dX1_write_9 : decode cX1_write 9 = .ok (.getfield 9, 3) := by decide +kernel
theorem dX1_write_12 : decode cX1_write 12 = .ok (.iload_n 1, 1) := by decide +kernel
theorem dX1_write_13 : decode cX1_write 13 = .ok (.aload_n 0, 1) := by decide +kernel
theorem dX1_write_14 : decode cX1_write 14 = .ok (.getfield 15, 3) := by decide +kernel
theorem dX1_write_17 : decode cX1_write 17 = .ok (.ifCond .ne 8, 3) := by decide +kernel
theorem dX1_write_20 : decode cX1_write 20 = .ok (.iload_n 2, 1) := by decide +kernel
theorem dX1_write_21 : decode cX1_write 21 = .ok (.i2b, 1) := by decide +kernel
theorem dX1_write_22 : decode cX1_write 22 = .ok (.goto 17, 3) := by decide +kernel
theorem dX1_write_25 : decode cX1_write 25 = .ok (.aload_n 0, 1) := by decide +kernel
theorem dX1_write_26 : decode cX1_write 26 = .ok (.getfield 15, 3) := by decide +kernel
theorem dX1_write_29 : decode cX1_write 29 = .ok (.iconst 1, 1) := by decide +kernel
theorem dX1_write_30 : decode cX1_write 30 = .ok (.if_icmp .ne 8, 3) := by decide +kernel
theorem dX1_write_33 : decode cX1_write 33 = .ok (.iload_n 2, 1) := by decide +kernel
theorem dX1_write_34 : decode cX1_write 34 = .ok (.i2s, 1) := by decide +kernel
theorem dX1_write_35 : decode cX1_write 35 = .ok (.goto 4, 3) := by decide +kernel
theorem dX1_write_38 : decode cX1_write 38 = .ok (.iload_n 2, 1) := by decide +kernel
theorem dX1_write_39 : decode cX1_write 39 = .ok (.iastore, 1) := by decide +kernel
theorem dX1_write_40 : decode cX1_write 40 = .ok (.return_, 1) := by decide +kernel
theorem dX2_init_0 : decode cX2_init 0 = .ok (.aload_n 0, 1) := by decide +kernel
theorem dX2_init_1 : decode cX2_init 1 = .ok (.invokespecial 3, 3) := by decide +kernel
theorem dX2_init_4 : decode cX2_init 4 = .ok (.aload_n 0, 1) := by decide +kernel
theorem dX2_init_5 : decode cX2_init 5 = .ok (.sipush 160, 3) := by decide +kernel
theorem dX2_init_8 : decode cX2_init 8 = .ok (.newarray .int, 2) := by decide +kernel
theorem dX2_init_10 : decode cX2_init 10 = .ok (.putfield 9, 3) := by decide +kernel
theorem dX2_init_13 : decode cX2_init 13 = .ok (.aload_n 0, 1) := by decide +kernel
theorem dX2_init_14 : decode cX2_init 14 = .ok (.sipush 160, 3) := by decide +kernel
theorem dX2_init_17 : decode cX2_init 17 = .ok (.newarray .int, 2) := by decide +kernel
theorem dX2_init_19 : decode cX2_init 19 = .ok (.putfield 15, 3) := by decide +kernel
theorem dX2_init_22 : decode cX2_init 22 = .ok (.aload_n 0, 1) := by decide +kernel
theorem dX2_init_23 : decode cX2_init 23 = .ok (.iconst 3, 1) := by decide +kernel
theorem dX2_init_24 : decode cX2_init 24 = .ok (.newarray .int, 2) := by decide +kernel
theorem dX2_init_26 : decode cX2_init 26 = .ok (.putfield 18, 3) := by decide +kernel
theorem dX2_init_29 : decode cX2_init 29 = .ok (.return_, 1) := by decide +kernel
theorem dX2_add_0 : decode cX2_add 0 = .ok (.aload_n 0, 1) := by decide +kernel
theorem dX2_add_1 : decode cX2_add 1 = .ok (.getfield 21, 3) := by decide +kernel
theorem dX2_add_4 : decode cX2_add 4 = .ok (.sipush 160, 3) := by decide +kernel
theorem dX2_add_7 : decode cX2_add 7 = .ok (.if_icmp .ge 23, 3) := by decide +kernel
theorem dX2_add_10 : decode cX2_add 10 = .ok (.aload_n 0, 1) := by decide +kernel
theorem dX2_add_11 : decode cX2_add 11 = .ok (.getfield 9, 3) := by decide +kernel
theorem dX2_add_14 : decode cX2_add 14 = .ok (.aload_n 0, 1) := by decide +kernel
theorem dX2_add_15 : decode cX2_add 15 = .ok (.getfield 21, 3) := by decide +kernel
theorem dX2_add_18 : decode cX2_add 18 = .ok (.iload_n 1, 1) := by decide +kernel
theorem dX2_add_19 : decode cX2_add 19 = .ok (.iastore, 1) := by decide +kernel
theorem dX2_add_20 : decode cX2_add 20 = .ok (.aload_n 0, 1) := by decide +kernel
theorem dX2_add_21 : decode cX2_add 21 = .ok (.dup, 1) := by decide +kernel
theorem dX2_add_22 : decode cX2_add 22 = .ok (.getfield 21, 3) := by decide +kernel
theorem dX2_add_25 : decode cX2_add 25 = .ok (.iconst 1, 1) := by decide +kernel
theorem dX2_add_26 : decode cX2_add 26 = .ok (.iadd, 1) := by decide +kernel
theorem dX2_add_27 : decode cX2_add 27 = .ok (.putfield 21, 3) := by decide +kernel
theorem dX2_add_30 : decode cX2_add 30 = .ok (.return_, 1) := by decide +kernel
theorem dX2_asText_0 : decode cX2_asText 0 = .ok (.new 25, 3) := by decide +kernel
theorem dX2_asText_3 : decode cX2_asText 3 = .ok (.dup, 1) := by decide +kernel
theorem dX2_asText_4 : decode cX2_asText 4 = .ok (.aload_n 0, 1) := by decide +kernel
theorem dX2_asText_5 : decode cX2_asText 5 = .ok (.getfield 15, 3) := by decide +kernel
theorem dX2_asText_8 : decode cX2_asText 8 = .ok (.aload_n 0, 1) := by decide +kernel
theorem dX2_asText_9 : decode cX2_asText 9 = .ok (.getfield 27, 3) := by decide +kernel
theorem dX2_asText_12 : decode cX2_asText 12 = .ok (.aload_n 0, 1) := by decide +kernel
theorem dX2_asText_13 : decode cX2_asText 13 = .ok (.getfield 18, 3) := by decide +kernel
theorem dX2_asText_16 : decode cX2_asText 16 = .ok (.invokespecial 30, 3) := by decide +kernel
theorem dX2_asText_19 : decode cX2_asText 19 = .ok (.areturn, 1) := by decide +kernel
theorem dX2_isText_0 : decode cX2_isText 0 = .ok (.aload_n 0, 1) := by decide +kernel
theorem dX2_isText_1 : decode cX2_isText 1 = .ok (.iconst 0, 1) := by decide +kernel
theorem dX2_isText_2 : decode cX2_isText 2 = .ok (.putfield 33, 3) := by decide +kernel
theorem dX2_isText_5 : decode cX2_isText 5 = .ok (.aload_n 0, 1) := by decide +kernel
theorem dX2_isText_6 : decode cX2_isText 6 = .ok (.iconst 0, 1) := by decide +kernel
theorem dX2_isText_7 : decode cX2_isText 7 = .ok (.putfield 27, 3) := by decide +kernel
theorem dX2_isText_10 : decode cX2_isText 10 = .ok (.aload_n 0, 1) := by decide +kernel
theorem dX2_isText_11 : decode cX2_isText 11 = .ok (.invokevirtual 36, 3) := by decide +kernel
theorem dX2_isText_14 : decode cX2_isText 14 = .ok (.iconst 0, 1) := by decide +kernel
theorem dX2_isText_15 : decode cX2_isText 15 = .ok (.istore_n 1, 1) := by decide +kernel
theorem dX2_isText_16 : decode cX2_isText 16 = .ok (.iload_n 1, 1) := by decide +kernel
theorem dX2_isText_17 : decode cX2_isText 17 = .ok (.iconst 3, 1) := by decide +kernel
theorem dX2_isText_18 : decode cX2_isText 18 = .ok (.if_icmp .ge 50, 3) := by decide +kernel
theorem dX2_isText_21 : decode cX2_isText 21 = .ok (.aload_n 0, 1) := by decide +kernel
theorem dX2_isText_22 : decode cX2_isText 22 = .ok (.sipush 1000, 3) := by decide +kernel
theorem dX2_isText_25 : decode cX2_isText 25 = .ok (.iload_n 1, 1) := by decide +kernel
theorem dX2_isText_26 : decode cX2_isText 26 = .ok (.iadd, 1) := by decide +kernel
theorem dX2_isText_27 : decode cX2_isText 27 = .ok (.invokevirtual 39, 3) := by decide +kernel
theorem dX2_isText_30 : decode cX2_isText 30 = .ok (.ifCond .eq 20, 3) := by decide +kernel
theorem dX2_isText_33 : decode cX2_isText 33 = .ok (.aload_n 0, 1) := by decide +kernel
theorem dX2_isText_34 : decode cX2_isText 34 = .ok (.iconst 0, 1) := by decide +kernel
theorem dX2_isText_35 : decode cX2_isText 35 = .ok (.invokevirtual 43, 3) := by decide +kernel
theorem dX2_isText_38 : decode cX2_isText 38 = .ok (.ifCond .eq 12, 3) := by decide +kernel
theorem dX2_isText_41 : decode cX2_isText 41 = .ok (.aload_n 0, 1) := by decide +kernel
theorem dX2_isText_42 : decode cX2_isText 42 = .ok (.bipush 59, 2) := by decide +kernel
theorem dX2_isText_44 : decode cX2_isText 44 = .ok (.invokevirtual 39, 3) := by decide +kernel
theorem dX2_isText_47 : decode cX2_isText 47 = .ok (.ifCond .ne 5, 3) := by decide +kernel
theorem dX2_isText_50 : decode cX2_isText 50 = .ok (.iconst 0, 1) := by decide +kernel
theorem dX2_isText_51 : decode cX2_isText 51 = .ok (.ireturn, 1) := by decide +kernel
theorem dX2_isText_52 : decode cX2_isText 52 = .ok (.aload_n 0, 1) := by decide +kernel
theorem dX2_isText_53 : decode cX2_isText 53 = .ok (.getfield 18, 3) := by decide +kernel
theorem dX2_isText_56 : decode cX2_isText 56 = .ok (.iload_n 1, 1) := by decide +kernel
theorem dX2_isText_57 : decode cX2_isText 57 = .ok (.aload_n 0, 1) := by decide +kernel
theorem dX2_isText_58 : decode cX2_isText 58 = .ok (.getfield 27, 3) := by decide +kernel
theorem dX2_isText_61 : decode cX2_isText 61 = .ok (.iastore, 1) := by decide +kernel
theorem dX2_isText_62 : decode cX2_isText 62 = .ok (.iinc 1 1, 3) := by decide +kernel
theorem dX2_isText_65 : decode cX2_isText 65 = .ok (.goto (-49), 3) := by decide +kernel
theorem dX2_isText_68 : decode cX2_isText 68 = .ok (.aload_n 0, 1) := by decide +kernel
theorem dX2_isText_69 : decode cX2_isText 69 = .ok (.getfield 46, 3) := by decide +kernel
theorem dX2_isText_72 : decode cX2_isText 72 = .ok (.ifCond .ne 7, 3) := by decide +kernel
theorem dX2_isText_75 : decode cX2_isText 75 = .ok (.iconst 1, 1) := by decide +kernel
theorem dX2_isText_76 : decode cX2_isText 76 = .ok (.goto 4, 3) := by decide +kernel
theorem dX2_isText_79 : decode cX2_isText 79 = .ok (.iconst 0, 1) := by decide +kernel
theorem dX2_isText_80 : decode cX2_isText 80 = .ok (.ireturn, 1) := by decide +kernel
theorem dX2_passes_0 : decode cX2_passes 0 = .ok (.aload_n 0, 1) := by decide +kernel
theorem dX2_passes_1 : decode cX2_passes 1 = .ok (.getfield 46, 3) := by decide +kernel
theorem dX2_passes_4 : decode cX2_passes 4 = .ok (.iload_n 1, 1) := by decide +kernel
theorem dX2_passes_5 : decode cX2_passes 5 = .ok (.if_icmp .eq 5, 3) := by decide +kernel
theorem dX2_passes_8 : decode cX2_passes 8 = .ok (.iconst 0, 1) := by decide +kernel
theorem dX2_passes_9 : decode cX2_passes 9 = .ok (.ireturn, 1) := by decide +kernel
theorem dX2_passes_10 : decode cX2_passes 10 = .ok (.aload_n 0, 1) := by decide +kernel
theorem dX2_passes_11 : decode cX2_passes 11 = .ok (.invokevirtual 36, 3) := by decide +kernel
theorem dX2_passes_14 : decode cX2_passes 14 = .ok (.iconst 1, 1) := by decide +kernel
theorem dX2_passes_15 : decode cX2_passes 15 = .ok (.ireturn, 1) := by decide +kernel
theorem dX2_emit_0 : decode cX2_emit 0 = .ok (.aload_n 0, 1) := by decide +kernel
theorem dX2_emit_1 : decode cX2_emit 1 = .ok (.getfield 27, 3) := by decide +kernel
theorem dX2_emit_4 : decode cX2_emit 4 = .ok (.sipush 160, 3) := by decide +kernel
theorem dX2_emit_7 : decode cX2_emit 7 = .ok (.if_icmp .ge 23, 3) := by decide +kernel
theorem dX2_emit_10 : decode cX2_emit 10 = .ok (.aload_n 0, 1) := by decide +kernel
theorem dX2_emit_11 : decode cX2_emit 11 = .ok (.getfield 15, 3) := by decide +kernel
theorem dX2_emit_14 : decode cX2_emit 14 = .ok (.aload_n 0, 1) := by decide +kernel
theorem dX2_emit_15 : decode cX2_emit 15 = .ok (.getfield 27, 3) := by decide +kernel
theorem dX2_emit_18 : decode cX2_emit 18 = .ok (.iload_n 1, 1) := by decide +kernel
theorem dX2_emit_19 : decode cX2_emit 19 = .ok (.iastore, 1) := by decide +kernel
theorem dX2_emit_20 : decode cX2_emit 20 = .ok (.aload_n 0, 1) := by decide +kernel
theorem dX2_emit_21 : decode cX2_emit 21 = .ok (.dup, 1) := by decide +kernel
theorem dX2_emit_22 : decode cX2_emit 22 = .ok (.getfield 27, 3) := by decide +kernel
theorem dX2_emit_25 : decode cX2_emit 25 = .ok (.iconst 1, 1) := by decide +kernel
theorem dX2_emit_26 : decode cX2_emit 26 = .ok (.iadd, 1) := by decide +kernel
theorem dX2_emit_27 : decode cX2_emit 27 = .ok (.putfield 27, 3) := by decide +kernel
theorem dX2_emit_30 : decode cX2_emit 30 = .ok (.return_, 1) := by decide +kernel
theorem dX2_readAny_0 : decode cX2_readAny 0 = .ok (.aload_n 0, 1) := by decide +kernel
theorem dX2_readAny_1 : decode cX2_readAny 1 = .ok (.iload_n 1, 1) := by decide +kernel
theorem dX2_readAny_2 : decode cX2_readAny 2 = .ok (.invokevirtual 49, 3) := by decide +kernel
theorem dX2_readAny_5 : decode cX2_readAny 5 = .ok (.istore_n 2, 1) := by decide +kernel
theorem dX2_readAny_6 : decode cX2_readAny 6 = .ok (.iconst 0, 1) := by decide +kernel
theorem dX2_readAny_7 : decode cX2_readAny 7 = .ok (.istore_n 3, 1) := by decide +kernel
theorem dX2_readAny_8 : decode cX2_readAny 8 = .ok (.iload_n 3, 1) := by decide +kernel
theorem dX2_readAny_9 : decode cX2_readAny 9 = .ok (.sipush 160, 3) := by decide +kernel
theorem dX2_readAny_12 : decode cX2_readAny 12 = .ok (.if_icmp .ge 39, 3) := by decide +kernel
theorem dX2_readAny_15 : decode cX2_readAny 15 = .ok (.iload_n 2, 1) := by decide +kernel
theorem dX2_readAny_16 : decode cX2_readAny 16 = .ok (.ifCond .eq 35, 3) := by decide +kernel
theorem dX2_readAny_19 : decode cX2_readAny 19 = .ok (.aload_n 0, 1) := by decide +kernel
theorem dX2_readAny_20 : decode cX2_readAny 20 = .ok (.getfield 46, 3) := by decide +kernel
theorem dX2_readAny_23 : decode cX2_readAny 23 = .ok (.sipush 1003, 3) := by decide +kernel
theorem dX2_readAny_26 : decode cX2_readAny 26 = .ok (.if_icmp .ne 25, 3) := by decide +kernel
theorem dX2_readAny_29 : decode cX2_readAny 29 = .ok (.aload_n 0, 1) := by decide +kernel
theorem dX2_readAny_30 : decode cX2_readAny 30 = .ok (.invokevirtual 36, 3) := by decide +kernel
theorem dX2_readAny_33 : decode cX2_readAny 33 = .ok (.aload_n 0, 1) := by decide +kernel
theorem dX2_readAny_34 : decode cX2_readAny 34 = .ok (.iload_n 1, 1) := by decide +kernel
theorem dX2_readAny_35 : decode cX2_readAny 35 = .ok (.invokevirtual 49, 3) := by decide +kernel
theorem dX2_readAny_38 : decode cX2_readAny 38 = .ok (.istore_n 2, 1) := by decide +kernel
theorem dX2_readAny_39 : decode cX2_readAny 39 = .ok (.aload_n 0, 1) := by decide +kernel
theorem dX2_readAny_40 : decode cX2_readAny 40 = .ok (.bipush (-9), 2) := by decide +kernel
theorem dX2_readAny_42 : decode cX2_readAny 42 = .ok (.invokevirtual 52, 3) := by decide +kernel
theorem dX2_readAny_45 : decode cX2_readAny 45 = .ok (.iinc 3 1, 3) := by decide +kernel
theorem dX2_readAny_48 : decode cX2_readAny 48 = .ok (.goto (-40), 3) := by decide +kernel
theorem dX2_readAny_51 : decode cX2_readAny 51 = .ok (.iload_n 2, 1) := by decide +kernel
theorem dX2_readAny_52 : decode cX2_readAny 52 = .ok (.ireturn, 1) := by decide +kernel
theorem dX2_readBoth_0 : decode cX2_readBoth 0 = .ok (.aload_n 0, 1) := by decide +kernel
theorem dX2_readBoth_1 : decode cX2_readBoth 1 = .ok (.iload_n 1, 1) := by decide +kernel
theorem dX2_readBoth_2 : decode cX2_readBoth 2 = .ok (.invokevirtual 56, 3) := by decide +kernel
theorem dX2_readBoth_5 : decode cX2_readBoth 5 = .ok (.istore_n 2, 1) := by decide +kernel
theorem dX2_readBoth_6 : decode cX2_readBoth 6 = .ok (.iconst 0, 1) := by decide +kernel
theorem dX2_readBoth_7 : decode cX2_readBoth 7 = .ok (.istore_n 3, 1) := by decide +kernel
theorem dX2_readBoth_8 : decode cX2_readBoth 8 = .ok (.iload_n 3, 1) := by decide +kernel
theorem dX2_readBoth_9 : decode cX2_readBoth 9 = .ok (.sipush 160, 3) := by decide +kernel
theorem dX2_readBoth_12 : decode cX2_readBoth 12 = .ok (.if_icmp .ge 39, 3) := by decide +kernel
theorem dX2_readBoth_15 : decode cX2_readBoth 15 = .ok (.iload_n 2, 1) := by decide +kernel
theorem dX2_readBoth_16 : decode cX2_readBoth 16 = .ok (.ifCond .eq 35, 3) := by decide +kernel
theorem dX2_readBoth_19 : decode cX2_readBoth 19 = .ok (.aload_n 0, 1) := by decide +kernel
theorem dX2_readBoth_20 : decode cX2_readBoth 20 = .ok (.getfield 46, 3) := by decide +kernel
theorem dX2_readBoth_23 : decode cX2_readBoth 23 = .ok (.sipush 1004, 3) := by decide +kernel
theorem dX2_readBoth_26 : decode cX2_readBoth 26 = .ok (.if_icmp .ne 25, 3) := by decide +kernel
theorem dX2_readBoth_29 : decode cX2_readBoth 29 = .ok (.aload_n 0, 1) := by decide +kernel
theorem dX2_readBoth_30 : decode cX2_readBoth 30 = .ok (.invokevirtual 36, 3) := by decide +kernel
theorem dX2_readBoth_33 : decode cX2_readBoth 33 = .ok (.aload_n 0, 1) := by decide +kernel
theorem dX2_readBoth_34 : decode cX2_readBoth 34 = .ok (.iload_n 1, 1) := by decide +kernel
theorem dX2_readBoth_35 : decode cX2_readBoth 35 = .ok (.invokevirtual 56, 3) := by decide +kernel
theorem dX2_readBoth_38 : decode cX2_readBoth 38 = .ok (.istore_n 2, 1) := by decide +kernel
theorem dX2_readBoth_39 : decode cX2_readBoth 39 = .ok (.aload_n 0, 1) := by decide +kernel
theorem dX2_readBoth_40 : decode cX2_readBoth 40 = .ok (.bipush (-10), 2) := by decide +kernel
theorem dX2_readBoth_42 : decode cX2_readBoth 42 = .ok (.invokevirtual 52, 3) := by decide +kernel
theorem dX2_readBoth_45 : decode cX2_readBoth 45 = .ok (.iinc 3 1, 3) := by decide +kernel
theorem dX2_readBoth_48 : decode cX2_readBoth 48 = .ok (.goto (-40), 3) := by decide +kernel
theorem dX2_readBoth_51 : decode cX2_readBoth 51 = .ok (.iload_n 2, 1) := by decide +kernel
theorem dX2_readBoth_52 : decode cX2_readBoth 52 = .ok (.ireturn, 1) := by decide +kernel
theorem dX2_readNot_0 : decode cX2_readNot 0 = .ok (.aload_n 0, 1) := by decide +kernel
theorem dX2_readNot_1 : decode cX2_readNot 1 = .ok (.getfield 46, 3) := by decide +kernel
theorem dX2_readNot_4 : decode cX2_readNot 4 = .ok (.sipush 1005, 3) := by decide +kernel
theorem dX2_readNot_7 : decode cX2_readNot 7 = .ok (.if_icmp .ne 30, 3) := by decide +kernel
theorem dX2_readNot_10 : decode cX2_readNot 10 = .ok (.iload_n 1, 1) := by decide +kernel
theorem dX2_readNot_11 : decode cX2_readNot 11 = .ok (.iconst 5, 1) := by decide +kernel
theorem dX2_readNot_12 : decode cX2_readNot 12 = .ok (.if_icmp .lt 5, 3) := by decide +kernel
theorem dX2_readNot_15 : decode cX2_readNot 15 = .ok (.iconst 0, 1) := by decide +kernel
theorem dX2_readNot_16 : decode cX2_readNot 16 = .ok (.ireturn, 1) := by decide +kernel
theorem dX2_readNot_17 : decode cX2_readNot 17 = .ok (.aload_n 0, 1) := by decide +kernel
theorem dX2_readNot_18 : decode cX2_readNot 18 = .ok (.invokevirtual 36, 3) := by decide +kernel
theorem dX2_readNot_21 : decode cX2_readNot 21 = .ok (.aload_n 0, 1) := by decide +kernel
theorem dX2_readNot_22 : decode cX2_readNot 22 = .ok (.iload_n 1, 1) := by decide +kernel
theorem dX2_readNot_23 : decode cX2_readNot 23 = .ok (.iconst 1, 1) := by decide +kernel
theorem dX2_readNot_24 : decode cX2_readNot 24 = .ok (.iadd, 1) := by decide +kernel
theorem dX2_readNot_25 : decode cX2_readNot 25 = .ok (.invokevirtual 56, 3) := by decide +kernel
theorem dX2_readNot_28 : decode cX2_readNot 28 = .ok (.istore_n 2, 1) := by decide +kernel
theorem dX2_readNot_29 : decode cX2_readNot 29 = .ok (.aload_n 0, 1) := by decide +kernel
theorem dX2_readNot_30 : decode cX2_readNot 30 = .ok (.bipush (-8), 2) := by decide +kernel
theorem dX2_readNot_32 : decode cX2_readNot 32 = .ok (.invokevirtual 52, 3) := by decide +kernel
theorem dX2_readNot_35 : decode cX2_readNot 35 = .ok (.iload_n 2, 1) := by decide +kernel
theorem dX2_readNot_36 : decode cX2_readNot 36 = .ok (.ireturn, 1) := by decide +kernel
theorem dX2_readNot_37 : decode cX2_readNot 37 = .ok (.aload_n 0, 1) := by decide +kernel
theorem dX2_readNot_38 : decode cX2_readNot 38 = .ok (.iload_n 1, 1) := by decide +kernel
theorem dX2_readNot_39 : decode cX2_readNot 39 = .ok (.invokevirtual 59, 3) := by decide +kernel
theorem dX2_readNot_42 : decode cX2_readNot 42 = .ok (.istore_n 2, 1) := by decide +kernel
theorem dX2_readNot_43 : decode cX2_readNot 43 = .ok (.iload_n 2, 1) := by decide +kernel
theorem dX2_readNot_44 : decode cX2_readNot 44 = .ok (.ifCond .eq 53, 3) := by decide +kernel
theorem dX2_readNot_47 : decode cX2_readNot 47 = .ok (.aload_n 0, 1) := by decide +kernel
theorem dX2_readNot_48 : decode cX2_readNot 48 = .ok (.getfield 46, 3) := by decide +kernel
theorem dX2_readNot_51 : decode cX2_readNot 51 = .ok (.bipush 60, 2) := by decide +kernel
theorem dX2_readNot_53 : decode cX2_readNot 53 = .ok (.if_icmp .eq 12, 3) := by decide +kernel
theorem dX2_readNot_56 : decode cX2_readNot 56 = .ok (.aload_n 0, 1) := by decide +kernel
theorem dX2_readNot_57 : decode cX2_readNot 57 = .ok (.getfield 46, 3) := by decide +kernel
theorem dX2_readNot_60 : decode cX2_readNot 60 = .ok (.bipush 61, 2) := by decide +kernel
theorem dX2_readNot_62 : decode cX2_readNot 62 = .ok (.if_icmp .ne 35, 3) := by decide +kernel
theorem dX2_readNot_65 : decode cX2_readNot 65 = .ok (.aload_n 0, 1) := by decide +kernel
theorem dX2_readNot_66 : decode cX2_readNot 66 = .ok (.getfield 46, 3) := by decide +kernel
theorem dX2_readNot_69 : decode cX2_readNot 69 = .ok (.bipush 60, 2) := by decide +kernel
theorem dX2_readNot_71 : decode cX2_readNot 71 = .ok (.if_icmp .ne 8, 3) := by decide +kernel
theorem dX2_readNot_74 : decode cX2_readNot 74 = .ok (.bipush (-11), 2) := by decide +kernel
theorem dX2_readNot_76 : decode cX2_readNot 76 = .ok (.goto 5, 3) := by decide +kernel
theorem dX2_readNot_79 : decode cX2_readNot 79 = .ok (.bipush (-12), 2) := by decide +kernel
theorem dX2_readNot_81 : decode cX2_readNot 81 = .ok (.istore_n 3, 1) := by decide +kernel
theorem dX2_readNot_82 : decode cX2_readNot 82 = .ok (.aload_n 0, 1) := by decide +kernel
theorem dX2_readNot_83 : decode cX2_readNot 83 = .ok (.invokevirtual 36, 3) := by decide +kernel
theorem dX2_readNot_86 : decode cX2_readNot 86 = .ok (.aload_n 0, 1) := by decide +kernel
theorem dX2_readNot_87 : decode cX2_readNot 87 = .ok (.iload_n 1, 1) := by decide +kernel
theorem dX2_readNot_88 : decode cX2_readNot 88 = .ok (.invokevirtual 59, 3) := by decide +kernel
theorem dX2_readNot_91 : decode cX2_readNot 91 = .ok (.istore_n 2, 1) := by decide +kernel
theorem dX2_readNot_92 : decode cX2_readNot 92 = .ok (.aload_n 0, 1) := by decide +kernel
theorem dX2_readNot_93 : decode cX2_readNot 93 = .ok (.iload_n 3, 1) := by decide +kernel
theorem dX2_readNot_94 : decode cX2_readNot 94 = .ok (.invokevirtual 52, 3) := by decide +kernel
theorem dX2_readNot_97 : decode cX2_readNot 97 = .ok (.iload_n 2, 1) := by decide +kernel
theorem dX2_readNot_98 : decode cX2_readNot 98 = .ok (.ireturn, 1) := by decide +kernel
theorem dX2_readSum_0 : decode cX2_readSum 0 = .ok (.aload_n 0, 1) := by decide +kernel
theorem dX2_readSum_1 : decode cX2_readSum 1 = .ok (.iload_n 1, 1) := by decide +kernel
theorem dX2_readSum_2 : decode cX2_readSum 2 = .ok (.invokevirtual 62, 3) := by decide +kernel
theorem dX2_readSum_5 : decode cX2_readSum 5 = .ok (.istore_n 2, 1) := by decide +kernel
theorem dX2_readSum_6 : decode cX2_readSum 6 = .ok (.iconst 0, 1) := by decide +kernel
theorem dX2_readSum_7 : decode cX2_readSum 7 = .ok (.istore_n 3, 1) := by decide +kernel
theorem dX2_readSum_8 : decode cX2_readSum 8 = .ok (.iload_n 3, 1) := by decide +kernel
theorem dX2_readSum_9 : decode cX2_readSum 9 = .ok (.sipush 160, 3) := by decide +kernel
theorem dX2_readSum_12 : decode cX2_readSum 12 = .ok (.if_icmp .ge 65, 3) := by decide +kernel
theorem dX2_readSum_15 : decode cX2_readSum 15 = .ok (.iload_n 2, 1) := by decide +kernel
theorem dX2_readSum_16 : decode cX2_readSum 16 = .ok (.ifCond .eq 61, 3) := by decide +kernel
theorem dX2_readSum_19 : decode cX2_readSum 19 = .ok (.aload_n 0, 1) := by decide +kernel
theorem dX2_readSum_20 : decode cX2_readSum 20 = .ok (.getfield 46, 3) := by decide +kernel
theorem dX2_readSum_23 : decode cX2_readSum 23 = .ok (.bipush 43, 2) := by decide +kernel
theorem dX2_readSum_25 : decode cX2_readSum 25 = .ok (.if_icmp .eq 12, 3) := by decide +kernel
theorem dX2_readSum_28 : decode cX2_readSum 28 = .ok (.aload_n 0, 1) := by decide +kernel
theorem dX2_readSum_29 : decode cX2_readSum 29 = .ok (.getfield 46, 3) := by decide +kernel
theorem dX2_readSum_32 : decode cX2_readSum 32 = .ok (.bipush 45, 2) := by decide +kernel
theorem dX2_readSum_34 : decode cX2_readSum 34 = .ok (.if_icmp .ne 43, 3) := by decide +kernel
theorem dX2_readSum_37 : decode cX2_readSum 37 = .ok (.aload_n 0, 1) := by decide +kernel
theorem dX2_readSum_38 : decode cX2_readSum 38 = .ok (.getfield 46, 3) := by decide +kernel
theorem dX2_readSum_41 : decode cX2_readSum 41 = .ok (.bipush 43, 2) := by decide +kernel
theorem dX2_readSum_43 : decode cX2_readSum 43 = .ok (.if_icmp .ne 8, 3) := by decide +kernel
theorem dX2_readSum_46 : decode cX2_readSum 46 = .ok (.bipush (-13), 2) := by decide +kernel
theorem dX2_readSum_48 : decode cX2_readSum 48 = .ok (.goto 5, 3) := by decide +kernel
theorem dX2_readSum_51 : decode cX2_readSum 51 = .ok (.bipush (-14), 2) := by decide +kernel
theorem dX2_readSum_53 : decode cX2_readSum 53 = .ok (.istore 4, 2) := by decide +kernel
theorem dX2_readSum_55 : decode cX2_readSum 55 = .ok (.aload_n 0, 1) := by decide +kernel
theorem dX2_readSum_56 : decode cX2_readSum 56 = .ok (.invokevirtual 36, 3) := by decide +kernel
theorem dX2_readSum_59 : decode cX2_readSum 59 = .ok (.aload_n 0, 1) := by decide +kernel
theorem dX2_readSum_60 : decode cX2_readSum 60 = .ok (.iload_n 1, 1) := by decide +kernel
theorem dX2_readSum_61 : decode cX2_readSum 61 = .ok (.invokevirtual 62, 3) := by decide +kernel
theorem dX2_readSum_64 : decode cX2_readSum 64 = .ok (.istore_n 2, 1) := by decide +kernel
theorem dX2_readSum_65 : decode cX2_readSum 65 = .ok (.aload_n 0, 1) := by decide +kernel
theorem dX2_readSum_66 : decode cX2_readSum 66 = .ok (.iload 4, 2) := by decide +kernel
theorem dX2_readSum_68 : decode cX2_readSum 68 = .ok (.invokevirtual 52, 3) := by decide +kernel
theorem dX2_readSum_71 : decode cX2_readSum 71 = .ok (.iinc 3 1, 3) := by decide +kernel
theorem dX2_readSum_74 : decode cX2_readSum 74 = .ok (.goto (-66), 3) := by decide +kernel
theorem dX2_readSum_77 : decode cX2_readSum 77 = .ok (.iload_n 2, 1) := by decide +kernel
theorem dX2_readSum_78 : decode cX2_readSum 78 = .ok (.ireturn, 1) := by decide +kernel
theorem dX2_readTerm_0 : decode cX2_readTerm 0 = .ok (.aload_n 0, 1) := by decide +kernel
theorem dX2_readTerm_1 : decode cX2_readTerm 1 = .ok (.iload_n 1, 1) := by decide +kernel
theorem dX2_readTerm_2 : decode cX2_readTerm 2 = .ok (.invokevirtual 65, 3) := by decide +kernel
theorem dX2_readTerm_5 : decode cX2_readTerm 5 = .ok (.istore_n 2, 1) := by decide +kernel
theorem dX2_readTerm_6 : decode cX2_readTerm 6 = .ok (.iconst 0, 1) := by decide +kernel
theorem dX2_readTerm_7 : decode cX2_readTerm 7 = .ok (.istore_n 3, 1) := by decide +kernel
theorem dX2_readTerm_8 : decode cX2_readTerm 8 = .ok (.iload_n 3, 1) := by decide +kernel
theorem dX2_readTerm_9 : decode cX2_readTerm 9 = .ok (.sipush 160, 3) := by decide +kernel
theorem dX2_readTerm_12 : decode cX2_readTerm 12 = .ok (.if_icmp .ge 38, 3) := by decide +kernel
theorem dX2_readTerm_15 : decode cX2_readTerm 15 = .ok (.iload_n 2, 1) := by decide +kernel
theorem dX2_readTerm_16 : decode cX2_readTerm 16 = .ok (.ifCond .eq 34, 3) := by decide +kernel
theorem dX2_readTerm_19 : decode cX2_readTerm 19 = .ok (.aload_n 0, 1) := by decide +kernel
theorem dX2_readTerm_20 : decode cX2_readTerm 20 = .ok (.getfield 46, 3) := by decide +kernel
theorem dX2_readTerm_23 : decode cX2_readTerm 23 = .ok (.bipush 42, 2) := by decide +kernel
theorem dX2_readTerm_25 : decode cX2_readTerm 25 = .ok (.if_icmp .ne 25, 3) := by decide +kernel
theorem dX2_readTerm_28 : decode cX2_readTerm 28 = .ok (.aload_n 0, 1) := by decide +kernel
theorem dX2_readTerm_29 : decode cX2_readTerm 29 = .ok (.invokevirtual 36, 3) := by decide +kernel
theorem dX2_readTerm_32 : decode cX2_readTerm 32 = .ok (.aload_n 0, 1) := by decide +kernel
theorem dX2_readTerm_33 : decode cX2_readTerm 33 = .ok (.iload_n 1, 1) := by decide +kernel
theorem dX2_readTerm_34 : decode cX2_readTerm 34 = .ok (.invokevirtual 65, 3) := by decide +kernel
theorem dX2_readTerm_37 : decode cX2_readTerm 37 = .ok (.istore_n 2, 1) := by decide +kernel
theorem dX2_readTerm_38 : decode cX2_readTerm 38 = .ok (.aload_n 0, 1) := by decide +kernel
theorem dX2_readTerm_39 : decode cX2_readTerm 39 = .ok (.bipush (-15), 2) := by decide +kernel
theorem dX2_readTerm_41 : decode cX2_readTerm 41 = .ok (.invokevirtual 52, 3) := by decide +kernel
theorem dX2_readTerm_44 : decode cX2_readTerm 44 = .ok (.iinc 3 1, 3) := by decide +kernel
theorem dX2_readTerm_47 : decode cX2_readTerm 47 = .ok (.goto (-39), 3) := by decide +kernel
theorem dX2_readTerm_50 : decode cX2_readTerm 50 = .ok (.iload_n 2, 1) := by decide +kernel
theorem dX2_readTerm_51 : decode cX2_readTerm 51 = .ok (.ireturn, 1) := by decide +kernel
theorem dX2_readOne_0 : decode cX2_readOne 0 = .ok (.aload_n 0, 1) := by decide +kernel
theorem dX2_readOne_1 : decode cX2_readOne 1 = .ok (.getfield 46, 3) := by decide +kernel
theorem dX2_readOne_4 : decode cX2_readOne 4 = .ok (.iconst 1, 1) := by decide +kernel
theorem dX2_readOne_5 : decode cX2_readOne 5 = .ok (.if_icmp .ne 17, 3) := by decide +kernel
theorem dX2_readOne_8 : decode cX2_readOne 8 = .ok (.aload_n 0, 1) := by decide +kernel
theorem dX2_readOne_9 : decode cX2_readOne 9 = .ok (.aload_n 0, 1) := by decide +kernel
theorem dX2_readOne_10 : decode cX2_readOne 10 = .ok (.getfield 68, 3) := by decide +kernel
theorem dX2_readOne_13 : decode cX2_readOne 13 = .ok (.invokevirtual 52, 3) := by decide +kernel
theorem dX2_readOne_16 : decode cX2_readOne 16 = .ok (.aload_n 0, 1) := by decide +kernel
theorem dX2_readOne_17 : decode cX2_readOne 17 = .ok (.invokevirtual 36, 3) := by decide +kernel
theorem dX2_readOne_20 : decode cX2_readOne 20 = .ok (.iconst 1, 1) := by decide +kernel
theorem dX2_readOne_21 : decode cX2_readOne 21 = .ok (.ireturn, 1) := by decide +kernel
theorem dX2_readOne_22 : decode cX2_readOne 22 = .ok (.aload_n 0, 1) := by decide +kernel
theorem dX2_readOne_23 : decode cX2_readOne 23 = .ok (.getfield 46, 3) := by decide +kernel
theorem dX2_readOne_26 : decode cX2_readOne 26 = .ok (.sipush 1006, 3) := by decide +kernel
theorem dX2_readOne_29 : decode cX2_readOne 29 = .ok (.if_icmp .lt 23, 3) := by decide +kernel
theorem dX2_readOne_32 : decode cX2_readOne 32 = .ok (.aload_n 0, 1) := by decide +kernel
theorem dX2_readOne_33 : decode cX2_readOne 33 = .ok (.iconst (-1), 1) := by decide +kernel
theorem dX2_readOne_34 : decode cX2_readOne 34 = .ok (.aload_n 0, 1) := by decide +kernel
theorem dX2_readOne_35 : decode cX2_readOne 35 = .ok (.getfield 46, 3) := by decide +kernel
theorem dX2_readOne_38 : decode cX2_readOne 38 = .ok (.sipush 1006, 3) := by decide +kernel
theorem dX2_readOne_41 : decode cX2_readOne 41 = .ok (.isub, 1) := by decide +kernel
theorem dX2_readOne_42 : decode cX2_readOne 42 = .ok (.isub, 1) := by decide +kernel
theorem dX2_readOne_43 : decode cX2_readOne 43 = .ok (.invokevirtual 52, 3) := by decide +kernel
theorem dX2_readOne_46 : decode cX2_readOne 46 = .ok (.aload_n 0, 1) := by decide +kernel
theorem dX2_readOne_47 : decode cX2_readOne 47 = .ok (.invokevirtual 36, 3) := by decide +kernel
theorem dX2_readOne_50 : decode cX2_readOne 50 = .ok (.iconst 1, 1) := by decide +kernel
theorem dX2_readOne_51 : decode cX2_readOne 51 = .ok (.ireturn, 1) := by decide +kernel
theorem dX2_readOne_52 : decode cX2_readOne 52 = .ok (.aload_n 0, 1) := by decide +kernel
theorem dX2_readOne_53 : decode cX2_readOne 53 = .ok (.getfield 46, 3) := by decide +kernel
theorem dX2_readOne_56 : decode cX2_readOne 56 = .ok (.bipush 45, 2) := by decide +kernel
theorem dX2_readOne_58 : decode cX2_readOne 58 = .ok (.if_icmp .eq 12, 3) := by decide +kernel
theorem dX2_readOne_61 : decode cX2_readOne 61 = .ok (.aload_n 0, 1) := by decide +kernel
theorem dX2_readOne_62 : decode cX2_readOne 62 = .ok (.getfield 46, 3) := by decide +kernel
theorem dX2_readOne_65 : decode cX2_readOne 65 = .ok (.bipush 40, 2) := by decide +kernel
theorem dX2_readOne_67 : decode cX2_readOne 67 = .ok (.if_icmp .ne 8, 3) := by decide +kernel
theorem dX2_readOne_70 : decode cX2_readOne 70 = .ok (.iload_n 1, 1) := by decide +kernel
theorem dX2_readOne_71 : decode cX2_readOne 71 = .ok (.iconst 5, 1) := by decide +kernel
theorem dX2_readOne_72 : decode cX2_readOne 72 = .ok (.if_icmp .lt 5, 3) := by decide +kernel
theorem dX2_readOne_75 : decode cX2_readOne 75 = .ok (.iconst 0, 1) := by decide +kernel
theorem dX2_readOne_76 : decode cX2_readOne 76 = .ok (.ireturn, 1) := by decide +kernel
theorem dX2_readOne_77 : decode cX2_readOne 77 = .ok (.aload_n 0, 1) := by decide +kernel
theorem dX2_readOne_78 : decode cX2_readOne 78 = .ok (.getfield 46, 3) := by decide +kernel
theorem dX2_readOne_81 : decode cX2_readOne 81 = .ok (.bipush 40, 2) := by decide +kernel
theorem dX2_readOne_83 : decode cX2_readOne 83 = .ok (.if_icmp .ne 32, 3) := by decide +kernel
theorem dX2_readOne_86 : decode cX2_readOne 86 = .ok (.aload_n 0, 1) := by decide +kernel
theorem dX2_readOne_87 : decode cX2_readOne 87 = .ok (.invokevirtual 36, 3) := by decide +kernel
theorem dX2_readOne_90 : decode cX2_readOne 90 = .ok (.aload_n 0, 1) := by decide +kernel
theorem dX2_readOne_91 : decode cX2_readOne 91 = .ok (.iload_n 1, 1) := by decide +kernel
theorem dX2_readOne_92 : decode cX2_readOne 92 = .ok (.iconst 1, 1) := by decide +kernel
theorem dX2_readOne_93 : decode cX2_readOne 93 = .ok (.iadd, 1) := by decide +kernel
theorem dX2_readOne_94 : decode cX2_readOne 94 = .ok (.invokevirtual 43, 3) := by decide +kernel
theorem dX2_readOne_97 : decode cX2_readOne 97 = .ok (.ifCond .eq 16, 3) := by decide +kernel
theorem dX2_readOne_100 : decode cX2_readOne 100 = .ok (.aload_n 0, 1) := by decide +kernel
theorem dX2_readOne_101 : decode cX2_readOne 101 = .ok (.bipush 41, 2) := by decide +kernel
theorem dX2_readOne_103 : decode cX2_readOne 103 = .ok (.invokevirtual 39, 3) := by decide +kernel
theorem dX2_readOne_106 : decode cX2_readOne 106 = .ok (.ifCond .eq 7, 3) := by decide +kernel
theorem dX2_readOne_109 : decode cX2_readOne 109 = .ok (.iconst 1, 1) := by decide +kernel
theorem dX2_readOne_110 : decode cX2_readOne 110 = .ok (.goto 4, 3) := by decide +kernel
theorem dX2_readOne_113 : decode cX2_readOne 113 = .ok (.iconst 0, 1) := by decide +kernel
theorem dX2_readOne_114 : decode cX2_readOne 114 = .ok (.ireturn, 1) := by decide +kernel
theorem dX2_readOne_115 : decode cX2_readOne 115 = .ok (.aload_n 0, 1) := by decide +kernel
theorem dX2_readOne_116 : decode cX2_readOne 116 = .ok (.invokevirtual 36, 3) := by decide +kernel
theorem dX2_readOne_119 : decode cX2_readOne 119 = .ok (.aload_n 0, 1) := by decide +kernel
theorem dX2_readOne_120 : decode cX2_readOne 120 = .ok (.iload_n 1, 1) := by decide +kernel
theorem dX2_readOne_121 : decode cX2_readOne 121 = .ok (.iconst 1, 1) := by decide +kernel
theorem dX2_readOne_122 : decode cX2_readOne 122 = .ok (.iadd, 1) := by decide +kernel
theorem dX2_readOne_123 : decode cX2_readOne 123 = .ok (.invokevirtual 65, 3) := by decide +kernel
theorem dX2_readOne_126 : decode cX2_readOne 126 = .ok (.istore_n 2, 1) := by decide +kernel
theorem dX2_readOne_127 : decode cX2_readOne 127 = .ok (.aload_n 0, 1) := by decide +kernel
theorem dX2_readOne_128 : decode cX2_readOne 128 = .ok (.bipush (-7), 2) := by decide +kernel
theorem dX2_readOne_130 : decode cX2_readOne 130 = .ok (.invokevirtual 52, 3) := by decide +kernel
theorem dX2_readOne_133 : decode cX2_readOne 133 = .ok (.iload_n 2, 1) := by decide +kernel
theorem dX2_readOne_134 : decode cX2_readOne 134 = .ok (.ireturn, 1) := by decide +kernel
theorem dX2_readToken_0 : decode cX2_readToken 0 = .ok (.aload_n 0, 1) := by decide +kernel
theorem dX2_readToken_1 : decode cX2_readToken 1 = .ok (.getfield 33, 3) := by decide +kernel
theorem dX2_readToken_4 : decode cX2_readToken 4 = .ok (.aload_n 0, 1) := by decide +kernel
theorem dX2_readToken_5 : decode cX2_readToken 5 = .ok (.getfield 21, 3) := by decide +kernel
theorem dX2_readToken_8 : decode cX2_readToken 8 = .ok (.if_icmp .ge 44, 3) := by decide +kernel
theorem dX2_readToken_11 : decode cX2_readToken 11 = .ok (.aload_n 0, 1) := by decide +kernel
theorem dX2_readToken_12 : decode cX2_readToken 12 = .ok (.getfield 9, 3) := by decide +kernel
theorem dX2_readToken_15 : decode cX2_readToken 15 = .ok (.aload_n 0, 1) := by decide +kernel
theorem dX2_readToken_16 : decode cX2_readToken 16 = .ok (.getfield 33, 3) := by decide +kernel
theorem dX2_readToken_19 : decode cX2_readToken 19 = .ok (.iaload, 1) := by decide +kernel
theorem dX2_readToken_20 : decode cX2_readToken 20 = .ok (.bipush 32, 2) := by decide +kernel
theorem dX2_readToken_22 : decode cX2_readToken 22 = .ok (.if_icmp .eq 17, 3) := by decide +kernel
theorem dX2_readToken_25 : decode cX2_readToken 25 = .ok (.aload_n 0, 1) := by decide +kernel
theorem dX2_readToken_26 : decode cX2_readToken 26 = .ok (.getfield 9, 3) := by decide +kernel
theorem dX2_readToken_29 : decode cX2_readToken 29 = .ok (.aload_n 0, 1) := by decide +kernel
theorem dX2_readToken_30 : decode cX2_readToken 30 = .ok (.getfield 33, 3) := by decide +kernel
theorem dX2_readToken_33 : decode cX2_readToken 33 = .ok (.iaload, 1) := by decide +kernel
theorem dX2_readToken_34 : decode cX2_readToken 34 = .ok (.bipush 10, 2) := by decide +kernel
theorem dX2_readToken_36 : decode cX2_readToken 36 = .ok (.if_icmp .ne 16, 3) := by decide +kernel
theorem dX2_readToken_39 : decode cX2_readToken 39 = .ok (.aload_n 0, 1) := by decide +kernel
theorem dX2_readToken_40 : decode cX2_readToken 40 = .ok (.dup, 1) := by decide +kernel
theorem dX2_readToken_41 : decode cX2_readToken 41 = .ok (.getfield 33, 3) := by decide +kernel
theorem dX2_readToken_44 : decode cX2_readToken 44 = .ok (.iconst 1, 1) := by decide +kernel
theorem dX2_readToken_45 : decode cX2_readToken 45 = .ok (.iadd, 1) := by decide +kernel
theorem dX2_readToken_46 : decode cX2_readToken 46 = .ok (.putfield 33, 3) := by decide +kernel
theorem dX2_readToken_49 : decode cX2_readToken 49 = .ok (.goto (-49), 3) := by decide +kernel
theorem dX2_readToken_52 : decode cX2_readToken 52 = .ok (.aload_n 0, 1) := by decide +kernel
theorem dX2_readToken_53 : decode cX2_readToken 53 = .ok (.aload_n 0, 1) := by decide +kernel
theorem dX2_readToken_54 : decode cX2_readToken 54 = .ok (.getfield 33, 3) := by decide +kernel
theorem dX2_readToken_57 : decode cX2_readToken 57 = .ok (.putfield 71, 3) := by decide +kernel
theorem dX2_readToken_60 : decode cX2_readToken 60 = .ok (.aload_n 0, 1) := by decide +kernel
theorem dX2_readToken_61 : decode cX2_readToken 61 = .ok (.getfield 33, 3) := by decide +kernel
theorem dX2_readToken_64 : decode cX2_readToken 64 = .ok (.aload_n 0, 1) := by decide +kernel
theorem dX2_readToken_65 : decode cX2_readToken 65 = .ok (.getfield 21, 3) := by decide +kernel
theorem dX2_readToken_68 : decode cX2_readToken 68 = .ok (.if_icmp .lt 11, 3) := by decide +kernel
theorem dX2_readToken_71 : decode cX2_readToken 71 = .ok (.aload_n 0, 1) := by decide +kernel
theorem dX2_readToken_72 : decode cX2_readToken 72 = .ok (.iconst 0, 1) := by decide +kernel
theorem dX2_readToken_73 : decode cX2_readToken 73 = .ok (.putfield 46, 3) := by decide +kernel
theorem dX2_readToken_76 : decode cX2_readToken 76 = .ok (.goto 89, 3) := by decide +kernel
theorem dX2_readToken_79 : decode cX2_readToken 79 = .ok (.aload_n 0, 1) := by decide +kernel
theorem dX2_readToken_80 : decode cX2_readToken 80 = .ok (.getfield 9, 3) := by decide +kernel
theorem dX2_readToken_83 : decode cX2_readToken 83 = .ok (.aload_n 0, 1) := by decide +kernel
theorem dX2_readToken_84 : decode cX2_readToken 84 = .ok (.getfield 33, 3) := by decide +kernel
theorem dX2_readToken_87 : decode cX2_readToken 87 = .ok (.iaload, 1) := by decide +kernel
theorem dX2_readToken_88 : decode cX2_readToken 88 = .ok (.invokestatic 74, 3) := by decide +kernel
theorem dX2_readToken_91 : decode cX2_readToken 91 = .ok (.ifCond .eq 10, 3) := by decide +kernel
theorem dX2_readToken_94 : decode cX2_readToken 94 = .ok (.aload_n 0, 1) := by decide +kernel
theorem dX2_readToken_95 : decode cX2_readToken 95 = .ok (.invokevirtual 77, 3) := by decide +kernel
theorem dX2_readToken_98 : decode cX2_readToken 98 = .ok (.goto 67, 3) := by decide +kernel
theorem dX2_readToken_101 : decode cX2_readToken 101 = .ok (.aload_n 0, 1) := by decide +kernel
theorem dX2_readToken_102 : decode cX2_readToken 102 = .ok (.getfield 9, 3) := by decide +kernel
theorem dX2_readToken_105 : decode cX2_readToken 105 = .ok (.aload_n 0, 1) := by decide +kernel
theorem dX2_readToken_106 : decode cX2_readToken 106 = .ok (.getfield 33, 3) := by decide +kernel
theorem dX2_readToken_109 : decode cX2_readToken 109 = .ok (.iaload, 1) := by decide +kernel
theorem dX2_readToken_110 : decode cX2_readToken 110 = .ok (.invokestatic 80, 3) := by decide +kernel
theorem dX2_readToken_113 : decode cX2_readToken 113 = .ok (.ifCond .eq 10, 3) := by decide +kernel
theorem dX2_readToken_116 : decode cX2_readToken 116 = .ok (.aload_n 0, 1) := by decide +kernel
theorem dX2_readToken_117 : decode cX2_readToken 117 = .ok (.invokevirtual 83, 3) := by decide +kernel
theorem dX2_readToken_120 : decode cX2_readToken 120 = .ok (.goto 45, 3) := by decide +kernel
theorem dX2_readToken_123 : decode cX2_readToken 123 = .ok (.aload_n 0, 1) := by decide +kernel
theorem dX2_readToken_124 : decode cX2_readToken 124 = .ok (.aload_n 0, 1) := by decide +kernel
theorem dX2_readToken_125 : decode cX2_readToken 125 = .ok (.getfield 9, 3) := by decide +kernel
theorem dX2_readToken_128 : decode cX2_readToken 128 = .ok (.aload_n 0, 1) := by decide +kernel
theorem dX2_readToken_129 : decode cX2_readToken 129 = .ok (.getfield 33, 3) := by decide +kernel
theorem dX2_readToken_132 : decode cX2_readToken 132 = .ok (.iaload, 1) := by decide +kernel
theorem dX2_readToken_133 : decode cX2_readToken 133 = .ok (.invokestatic 86, 3) := by decide +kernel
theorem dX2_readToken_136 : decode cX2_readToken 136 = .ok (.ifCond .eq 15, 3) := by decide +kernel
theorem dX2_readToken_139 : decode cX2_readToken 139 = .ok (.aload_n 0, 1) := by decide +kernel
theorem dX2_readToken_140 : decode cX2_readToken 140 = .ok (.getfield 9, 3) := by decide +kernel
theorem dX2_readToken_143 : decode cX2_readToken 143 = .ok (.aload_n 0, 1) := by decide +kernel
theorem dX2_readToken_144 : decode cX2_readToken 144 = .ok (.getfield 33, 3) := by decide +kernel
theorem dX2_readToken_147 : decode cX2_readToken 147 = .ok (.iaload, 1) := by decide +kernel
theorem dX2_readToken_148 : decode cX2_readToken 148 = .ok (.goto 4, 3) := by decide +kernel
theorem dX2_readToken_151 : decode cX2_readToken 151 = .ok (.iconst 2, 1) := by decide +kernel
theorem dX2_readToken_152 : decode cX2_readToken 152 = .ok (.putfield 46, 3) := by decide +kernel
theorem dX2_readToken_155 : decode cX2_readToken 155 = .ok (.aload_n 0, 1) := by decide +kernel
theorem dX2_readToken_156 : decode cX2_readToken 156 = .ok (.dup, 1) := by decide +kernel
theorem dX2_readToken_157 : decode cX2_readToken 157 = .ok (.getfield 33, 3) := by decide +kernel
theorem dX2_readToken_160 : decode cX2_readToken 160 = .ok (.iconst 1, 1) := by decide +kernel
theorem dX2_readToken_161 : decode cX2_readToken 161 = .ok (.iadd, 1) := by decide +kernel
theorem dX2_readToken_162 : decode cX2_readToken 162 = .ok (.putfield 33, 3) := by decide +kernel
theorem dX2_readToken_165 : decode cX2_readToken 165 = .ok (.return_, 1) := by decide +kernel
theorem dX2_readWord_0 : decode cX2_readWord 0 = .ok (.aload_n 0, 1) := by decide +kernel
theorem dX2_readWord_1 : decode cX2_readWord 1 = .ok (.getfield 33, 3) := by decide +kernel
theorem dX2_readWord_4 : decode cX2_readWord 4 = .ok (.aload_n 0, 1) := by decide +kernel
theorem dX2_readWord_5 : decode cX2_readWord 5 = .ok (.getfield 21, 3) := by decide +kernel
theorem dX2_readWord_8 : decode cX2_readWord 8 = .ok (.if_icmp .ge 31, 3) := by decide +kernel
theorem dX2_readWord_11 : decode cX2_readWord 11 = .ok (.aload_n 0, 1) := by decide +kernel
theorem dX2_readWord_12 : decode cX2_readWord 12 = .ok (.getfield 9, 3) := by decide +kernel
theorem dX2_readWord_15 : decode cX2_readWord 15 = .ok (.aload_n 0, 1) := by decide +kernel
theorem dX2_readWord_16 : decode cX2_readWord 16 = .ok (.getfield 33, 3) := by decide +kernel
theorem dX2_readWord_19 : decode cX2_readWord 19 = .ok (.iaload, 1) := by decide +kernel
theorem dX2_readWord_20 : decode cX2_readWord 20 = .ok (.invokestatic 74, 3) := by decide +kernel
theorem dX2_readWord_23 : decode cX2_readWord 23 = .ok (.ifCond .eq 16, 3) := by decide +kernel
theorem dX2_readWord_26 : decode cX2_readWord 26 = .ok (.aload_n 0, 1) := by decide +kernel
theorem dX2_readWord_27 : decode cX2_readWord 27 = .ok (.dup, 1) := by decide +kernel
theorem dX2_readWord_28 : decode cX2_readWord 28 = .ok (.getfield 33, 3) := by decide +kernel
theorem dX2_readWord_31 : decode cX2_readWord 31 = .ok (.iconst 1, 1) := by decide +kernel
theorem dX2_readWord_32 : decode cX2_readWord 32 = .ok (.iadd, 1) := by decide +kernel
theorem dX2_readWord_33 : decode cX2_readWord 33 = .ok (.putfield 33, 3) := by decide +kernel
theorem dX2_readWord_36 : decode cX2_readWord 36 = .ok (.goto (-36), 3) := by decide +kernel
theorem dX2_readWord_39 : decode cX2_readWord 39 = .ok (.aload_n 0, 1) := by decide +kernel
theorem dX2_readWord_40 : decode cX2_readWord 40 = .ok (.iconst 2, 1) := by decide +kernel
theorem dX2_readWord_41 : decode cX2_readWord 41 = .ok (.putfield 46, 3) := by decide +kernel
theorem dX2_readWord_44 : decode cX2_readWord 44 = .ok (.iconst 0, 1) := by decide +kernel
theorem dX2_readWord_45 : decode cX2_readWord 45 = .ok (.istore_n 1, 1) := by decide +kernel
theorem dX2_readWord_46 : decode cX2_readWord 46 = .ok (.iload_n 1, 1) := by decide +kernel
theorem dX2_readWord_47 : decode cX2_readWord 47 = .ok (.bipush 12, 2) := by decide +kernel
theorem dX2_readWord_49 : decode cX2_readWord 49 = .ok (.if_icmp .ge 29, 3) := by decide +kernel
theorem dX2_readWord_52 : decode cX2_readWord 52 = .ok (.aload_n 0, 1) := by decide +kernel
theorem dX2_readWord_53 : decode cX2_readWord 53 = .ok (.iload_n 1, 1) := by decide +kernel
theorem dX2_readWord_54 : decode cX2_readWord 54 = .ok (.invokestatic 89, 3) := by decide +kernel
theorem dX2_readWord_57 : decode cX2_readWord 57 = .ok (.invokevirtual 93, 3) := by decide +kernel
theorem dX2_readWord_60 : decode cX2_readWord 60 = .ok (.ifCond .eq 12, 3) := by decide +kernel
theorem dX2_readWord_63 : decode cX2_readWord 63 = .ok (.aload_n 0, 1) := by decide +kernel
theorem dX2_readWord_64 : decode cX2_readWord 64 = .ok (.sipush 1000, 3) := by decide +kernel
theorem dX2_readWord_67 : decode cX2_readWord 67 = .ok (.iload_n 1, 1) := by decide +kernel
theorem dX2_readWord_68 : decode cX2_readWord 68 = .ok (.iadd, 1) := by decide +kernel
theorem dX2_readWord_69 : decode cX2_readWord 69 = .ok (.putfield 46, 3) := by decide +kernel
theorem dX2_readWord_72 : decode cX2_readWord 72 = .ok (.iinc 1 1, 3) := by decide +kernel
theorem dX2_readWord_75 : decode cX2_readWord 75 = .ok (.goto (-29), 3) := by decide +kernel
theorem dX2_readWord_78 : decode cX2_readWord 78 = .ok (.return_, 1) := by decide +kernel
theorem dX2_readNumber_0 : decode cX2_readNumber 0 = .ok (.aload_n 0, 1) := by decide +kernel
theorem dX2_readNumber_1 : decode cX2_readNumber 1 = .ok (.iconst 0, 1) := by decide +kernel
theorem dX2_readNumber_2 : decode cX2_readNumber 2 = .ok (.putfield 68, 3) := by decide +kernel
theorem dX2_readNumber_5 : decode cX2_readNumber 5 = .ok (.aload_n 0, 1) := by decide +kernel
theorem dX2_readNumber_6 : decode cX2_readNumber 6 = .ok (.getfield 33, 3) := by decide +kernel
theorem dX2_readNumber_9 : decode cX2_readNumber 9 = .ok (.aload_n 0, 1) := by decide +kernel
theorem dX2_readNumber_10 : decode cX2_readNumber 10 = .ok (.getfield 21, 3) := by decide +kernel
theorem dX2_readNumber_13 : decode cX2_readNumber 13 = .ok (.if_icmp .ge 55, 3) := by decide +kernel
theorem dX2_readNumber_16 : decode cX2_readNumber 16 = .ok (.aload_n 0, 1) := by decide +kernel
theorem dX2_readNumber_17 : decode cX2_readNumber 17 = .ok (.getfield 9, 3) := by decide +kernel
theorem dX2_readNumber_20 : decode cX2_readNumber 20 = .ok (.aload_n 0, 1) := by decide +kernel
theorem dX2_readNumber_21 : decode cX2_readNumber 21 = .ok (.getfield 33, 3) := by decide +kernel
theorem dX2_readNumber_24 : decode cX2_readNumber 24 = .ok (.iaload, 1) := by decide +kernel
theorem dX2_readNumber_25 : decode cX2_readNumber 25 = .ok (.invokestatic 80, 3) := by decide +kernel
theorem dX2_readNumber_28 : decode cX2_readNumber 28 = .ok (.ifCond .eq 40, 3) := by decide +kernel
theorem dX2_readNumber_31 : decode cX2_readNumber 31 = .ok (.aload_n 0, 1) := by decide +kernel
theorem dX2_readNumber_32 : decode cX2_readNumber 32 = .ok (.aload_n 0, 1) := by decide +kernel
theorem dX2_readNumber_33 : decode cX2_readNumber 33 = .ok (.getfield 68, 3) := by decide +kernel
theorem dX2_readNumber_36 : decode cX2_readNumber 36 = .ok (.bipush 10, 2) := by decide +kernel
theorem dX2_readNumber_38 : decode cX2_readNumber 38 = .ok (.imul, 1) := by decide +kernel
theorem dX2_readNumber_39 : decode cX2_readNumber 39 = .ok (.aload_n 0, 1) := by decide +kernel
theorem dX2_readNumber_40 : decode cX2_readNumber 40 = .ok (.getfield 9, 3) := by decide +kernel
theorem dX2_readNumber_43 : decode cX2_readNumber 43 = .ok (.aload_n 0, 1) := by decide +kernel
theorem dX2_readNumber_44 : decode cX2_readNumber 44 = .ok (.getfield 33, 3) := by decide +kernel
theorem dX2_readNumber_47 : decode cX2_readNumber 47 = .ok (.iaload, 1) := by decide +kernel
theorem dX2_readNumber_48 : decode cX2_readNumber 48 = .ok (.iadd, 1) := by decide +kernel
theorem dX2_readNumber_49 : decode cX2_readNumber 49 = .ok (.bipush 48, 2) := by decide +kernel
theorem dX2_readNumber_51 : decode cX2_readNumber 51 = .ok (.isub, 1) := by decide +kernel
theorem dX2_readNumber_52 : decode cX2_readNumber 52 = .ok (.putfield 68, 3) := by decide +kernel
theorem dX2_readNumber_55 : decode cX2_readNumber 55 = .ok (.aload_n 0, 1) := by decide +kernel
theorem dX2_readNumber_56 : decode cX2_readNumber 56 = .ok (.dup, 1) := by decide +kernel
theorem dX2_readNumber_57 : decode cX2_readNumber 57 = .ok (.getfield 33, 3) := by decide +kernel
theorem dX2_readNumber_60 : decode cX2_readNumber 60 = .ok (.iconst 1, 1) := by decide +kernel
theorem dX2_readNumber_61 : decode cX2_readNumber 61 = .ok (.iadd, 1) := by decide +kernel
theorem dX2_readNumber_62 : decode cX2_readNumber 62 = .ok (.putfield 33, 3) := by decide +kernel
theorem dX2_readNumber_65 : decode cX2_readNumber 65 = .ok (.goto (-60), 3) := by decide +kernel
theorem dX2_readNumber_68 : decode cX2_readNumber 68 = .ok (.aload_n 0, 1) := by decide +kernel
theorem dX2_readNumber_69 : decode cX2_readNumber 69 = .ok (.aload_n 0, 1) := by decide +kernel
theorem dX2_readNumber_70 : decode cX2_readNumber 70 = .ok (.getfield 33, 3) := by decide +kernel
theorem dX2_readNumber_73 : decode cX2_readNumber 73 = .ok (.aload_n 0, 1) := by decide +kernel
theorem dX2_readNumber_74 : decode cX2_readNumber 74 = .ok (.getfield 71, 3) := by decide +kernel
theorem dX2_readNumber_77 : decode cX2_readNumber 77 = .ok (.isub, 1) := by decide +kernel
theorem dX2_readNumber_78 : decode cX2_readNumber 78 = .ok (.iconst 4, 1) := by decide +kernel
theorem dX2_readNumber_79 : decode cX2_readNumber 79 = .ok (.if_icmp .le 7, 3) := by decide +kernel
theorem dX2_readNumber_82 : decode cX2_readNumber 82 = .ok (.iconst 2, 1) := by decide +kernel
theorem dX2_readNumber_83 : decode cX2_readNumber 83 = .ok (.goto 4, 3) := by decide +kernel
theorem dX2_readNumber_86 : decode cX2_readNumber 86 = .ok (.iconst 1, 1) := by decide +kernel
theorem dX2_readNumber_87 : decode cX2_readNumber 87 = .ok (.putfield 46, 3) := by decide +kernel
theorem dX2_readNumber_90 : decode cX2_readNumber 90 = .ok (.return_, 1) := by decide +kernel
theorem dX2_spells_0 : decode cX2_spells 0 = .ok (.aload_n 1, 1) := by decide +kernel
theorem dX2_spells_1 : decode cX2_spells 1 = .ok (.invokevirtual 97, 3) := by decide +kernel
theorem dX2_spells_4 : decode cX2_spells 4 = .ok (.aload_n 0, 1) := by decide +kernel
theorem dX2_spells_5 : decode cX2_spells 5 = .ok (.getfield 33, 3) := by decide +kernel
theorem dX2_spells_8 : decode cX2_spells 8 = .ok (.aload_n 0, 1) := by decide +kernel
theorem dX2_spells_9 : decode cX2_spells 9 = .ok (.getfield 71, 3) := by decide +kernel
theorem dX2_spells_12 : decode cX2_spells 12 = .ok (.isub, 1) := by decide +kernel
theorem dX2_spells_13 : decode cX2_spells 13 = .ok (.if_icmp .eq 5, 3) := by decide +kernel
theorem dX2_spells_16 : decode cX2_spells 16 = .ok (.iconst 0, 1) := by decide +kernel
theorem dX2_spells_17 : decode cX2_spells 17 = .ok (.ireturn, 1) := by decide +kernel
theorem dX2_spells_18 : decode cX2_spells 18 = .ok (.iconst 0, 1) := by decide +kernel
theorem dX2_spells_19 : decode cX2_spells 19 = .ok (.istore_n 2, 1) := by decide +kernel
theorem dX2_spells_20 : decode cX2_spells 20 = .ok (.iload_n 2, 1) := by decide +kernel
theorem dX2_spells_21 : decode cX2_spells 21 = .ok (.aload_n 1, 1) := by decide +kernel
theorem dX2_spells_22 : decode cX2_spells 22 = .ok (.invokevirtual 97, 3) := by decide +kernel
theorem dX2_spells_25 : decode cX2_spells 25 = .ok (.if_icmp .ge 30, 3) := by decide +kernel
theorem dX2_spells_28 : decode cX2_spells 28 = .ok (.aload_n 0, 1) := by decide +kernel
theorem dX2_spells_29 : decode cX2_spells 29 = .ok (.getfield 9, 3) := by decide +kernel
theorem dX2_spells_32 : decode cX2_spells 32 = .ok (.aload_n 0, 1) := by decide +kernel
theorem dX2_spells_33 : decode cX2_spells 33 = .ok (.getfield 71, 3) := by decide +kernel
theorem dX2_spells_36 : decode cX2_spells 36 = .ok (.iload_n 2, 1) := by decide +kernel
theorem dX2_spells_37 : decode cX2_spells 37 = .ok (.iadd, 1) := by decide +kernel
theorem dX2_spells_38 : decode cX2_spells 38 = .ok (.iaload, 1) := by decide +kernel
theorem dX2_spells_39 : decode cX2_spells 39 = .ok (.aload_n 1, 1) := by decide +kernel
theorem dX2_spells_40 : decode cX2_spells 40 = .ok (.iload_n 2, 1) := by decide +kernel
theorem dX2_spells_41 : decode cX2_spells 41 = .ok (.invokevirtual 102, 3) := by decide +kernel
theorem dX2_spells_44 : decode cX2_spells 44 = .ok (.if_icmp .eq 5, 3) := by decide +kernel
theorem dX2_spells_47 : decode cX2_spells 47 = .ok (.iconst 0, 1) := by decide +kernel
theorem dX2_spells_48 : decode cX2_spells 48 = .ok (.ireturn, 1) := by decide +kernel
theorem dX2_spells_49 : decode cX2_spells 49 = .ok (.iinc 2 1, 3) := by decide +kernel
theorem dX2_spells_52 : decode cX2_spells 52 = .ok (.goto (-32), 3) := by decide +kernel
theorem dX2_spells_55 : decode cX2_spells 55 = .ok (.iconst 1, 1) := by decide +kernel
theorem dX2_spells_56 : decode cX2_spells 56 = .ok (.ireturn, 1) := by decide +kernel
theorem dX2_wordOf_0 : decode cX2_wordOf 0 = .ok (.iload_n 0, 1) := by decide +kernel
theorem dX2_wordOf_1 : decode cX2_wordOf 1 = .ok (.tableswitch 92 0 10 #[59, 62, 65, 68, 71, 74, 77, 80, 83, 86, 89], 59) := by decide +kernel
theorem dX2_wordOf_60 : decode cX2_wordOf 60 = .ok (.ldc 106, 2) := by decide +kernel
theorem dX2_wordOf_62 : decode cX2_wordOf 62 = .ok (.areturn, 1) := by decide +kernel
theorem dX2_wordOf_63 : decode cX2_wordOf 63 = .ok (.ldc 108, 2) := by decide +kernel
theorem dX2_wordOf_65 : decode cX2_wordOf 65 = .ok (.areturn, 1) := by decide +kernel
theorem dX2_wordOf_66 : decode cX2_wordOf 66 = .ok (.ldc 110, 2) := by decide +kernel
theorem dX2_wordOf_68 : decode cX2_wordOf 68 = .ok (.areturn, 1) := by decide +kernel
theorem dX2_wordOf_69 : decode cX2_wordOf 69 = .ok (.ldc 112, 2) := by decide +kernel
theorem dX2_wordOf_71 : decode cX2_wordOf 71 = .ok (.areturn, 1) := by decide +kernel
theorem dX2_wordOf_72 : decode cX2_wordOf 72 = .ok (.ldc 114, 2) := by decide +kernel
theorem dX2_wordOf_74 : decode cX2_wordOf 74 = .ok (.areturn, 1) := by decide +kernel
theorem dX2_wordOf_75 : decode cX2_wordOf 75 = .ok (.ldc 116, 2) := by decide +kernel
theorem dX2_wordOf_77 : decode cX2_wordOf 77 = .ok (.areturn, 1) := by decide +kernel
theorem dX2_wordOf_78 : decode cX2_wordOf 78 = .ok (.ldc 118, 2) := by decide +kernel
theorem dX2_wordOf_80 : decode cX2_wordOf 80 = .ok (.areturn, 1) := by decide +kernel
theorem dX2_wordOf_81 : decode cX2_wordOf 81 = .ok (.ldc 120, 2) := by decide +kernel
theorem dX2_wordOf_83 : decode cX2_wordOf 83 = .ok (.areturn, 1) := by decide +kernel
theorem dX2_wordOf_84 : decode cX2_wordOf 84 = .ok (.ldc 122, 2) := by decide +kernel
theorem dX2_wordOf_86 : decode cX2_wordOf 86 = .ok (.areturn, 1) := by decide +kernel
theorem dX2_wordOf_87 : decode cX2_wordOf 87 = .ok (.ldc 124, 2) := by decide +kernel
theorem dX2_wordOf_89 : decode cX2_wordOf 89 = .ok (.areturn, 1) := by decide +kernel
theorem dX2_wordOf_90 : decode cX2_wordOf 90 = .ok (.ldc 126, 2) := by decide +kernel
theorem dX2_wordOf_92 : decode cX2_wordOf 92 = .ok (.areturn, 1) := by decide +kernel
theorem dX2_wordOf_93 : decode cX2_wordOf 93 = .ok (.ldc 128, 2) := by decide +kernel
theorem dX2_wordOf_95 : decode cX2_wordOf 95 = .ok (.areturn, 1) := by decide +kernel
theorem dX2_isLetter_0 : decode cX2_isLetter 0 = .ok (.iload_n 0, 1) := by decide +kernel
theorem dX2_isLetter_1 : decode cX2_isLetter 1 = .ok (.bipush 97, 2) := by decide +kernel
theorem dX2_isLetter_3 : decode cX2_isLetter 3 = .ok (.if_icmp .lt 13, 3) := by decide +kernel
theorem dX2_isLetter_6 : decode cX2_isLetter 6 = .ok (.iload_n 0, 1) := by decide +kernel
theorem dX2_isLetter_7 : decode cX2_isLetter 7 = .ok (.bipush 122, 2) := by decide +kernel
theorem dX2_isLetter_9 : decode cX2_isLetter 9 = .ok (.if_icmp .gt 7, 3) := by decide +kernel
theorem dX2_isLetter_12 : decode cX2_isLetter 12 = .ok (.iconst 1, 1) := by decide +kernel
theorem dX2_isLetter_13 : decode cX2_isLetter 13 = .ok (.goto 4, 3) := by decide +kernel
theorem dX2_isLetter_16 : decode cX2_isLetter 16 = .ok (.iconst 0, 1) := by decide +kernel
theorem dX2_isLetter_17 : decode cX2_isLetter 17 = .ok (.ireturn, 1) := by decide +kernel
theorem dX2_isDigit_0 : decode cX2_isDigit 0 = .ok (.iload_n 0, 1) := by decide +kernel
theorem dX2_isDigit_1 : decode cX2_isDigit 1 = .ok (.bipush 48, 2) := by decide +kernel
theorem dX2_isDigit_3 : decode cX2_isDigit 3 = .ok (.if_icmp .lt 13, 3) := by decide +kernel
theorem dX2_isDigit_6 : decode cX2_isDigit 6 = .ok (.iload_n 0, 1) := by decide +kernel
theorem dX2_isDigit_7 : decode cX2_isDigit 7 = .ok (.bipush 57, 2) := by decide +kernel
theorem dX2_isDigit_9 : decode cX2_isDigit 9 = .ok (.if_icmp .gt 7, 3) := by decide +kernel
theorem dX2_isDigit_12 : decode cX2_isDigit 12 = .ok (.iconst 1, 1) := by decide +kernel
theorem dX2_isDigit_13 : decode cX2_isDigit 13 = .ok (.goto 4, 3) := by decide +kernel
theorem dX2_isDigit_16 : decode cX2_isDigit 16 = .ok (.iconst 0, 1) := by decide +kernel
theorem dX2_isDigit_17 : decode cX2_isDigit 17 = .ok (.ireturn, 1) := by decide +kernel
theorem dX2_isSign_0 : decode cX2_isSign 0 = .ok (.iload_n 0, 1) := by decide +kernel
theorem dX2_isSign_1 : decode cX2_isSign 1 = .ok (.bipush 40, 2) := by decide +kernel
theorem dX2_isSign_3 : decode cX2_isSign 3 = .ok (.if_icmp .eq 45, 3) := by decide +kernel
theorem dX2_isSign_6 : decode cX2_isSign 6 = .ok (.iload_n 0, 1) := by decide +kernel
theorem dX2_isSign_7 : decode cX2_isSign 7 = .ok (.bipush 41, 2) := by decide +kernel
theorem dX2_isSign_9 : decode cX2_isSign 9 = .ok (.if_icmp .eq 39, 3) := by decide +kernel
theorem dX2_isSign_12 : decode cX2_isSign 12 = .ok (.iload_n 0, 1) := by decide +kernel
theorem dX2_isSign_13 : decode cX2_isSign 13 = .ok (.bipush 59, 2) := by decide +kernel
theorem dX2_isSign_15 : decode cX2_isSign 15 = .ok (.if_icmp .eq 33, 3) := by decide +kernel
theorem dX2_isSign_18 : decode cX2_isSign 18 = .ok (.iload_n 0, 1) := by decide +kernel
theorem dX2_isSign_19 : decode cX2_isSign 19 = .ok (.bipush 43, 2) := by decide +kernel
theorem dX2_isSign_21 : decode cX2_isSign 21 = .ok (.if_icmp .eq 27, 3) := by decide +kernel
theorem dX2_isSign_24 : decode cX2_isSign 24 = .ok (.iload_n 0, 1) := by decide +kernel
theorem dX2_isSign_25 : decode cX2_isSign 25 = .ok (.bipush 45, 2) := by decide +kernel
theorem dX2_isSign_27 : decode cX2_isSign 27 = .ok (.if_icmp .eq 21, 3) := by decide +kernel
theorem dX2_isSign_30 : decode cX2_isSign 30 = .ok (.iload_n 0, 1) := by decide +kernel
theorem dX2_isSign_31 : decode cX2_isSign 31 = .ok (.bipush 42, 2) := by decide +kernel
theorem dX2_isSign_33 : decode cX2_isSign 33 = .ok (.if_icmp .eq 15, 3) := by decide +kernel
theorem dX2_isSign_36 : decode cX2_isSign 36 = .ok (.iload_n 0, 1) := by decide +kernel
theorem dX2_isSign_37 : decode cX2_isSign 37 = .ok (.bipush 60, 2) := by decide +kernel
theorem dX2_isSign_39 : decode cX2_isSign 39 = .ok (.if_icmp .eq 9, 3) := by decide +kernel
theorem dX2_isSign_42 : decode cX2_isSign 42 = .ok (.iload_n 0, 1) := by decide +kernel
theorem dX2_isSign_43 : decode cX2_isSign 43 = .ok (.bipush 61, 2) := by decide +kernel
theorem dX2_isSign_45 : decode cX2_isSign 45 = .ok (.if_icmp .ne 7, 3) := by decide +kernel
theorem dX2_isSign_48 : decode cX2_isSign 48 = .ok (.iconst 1, 1) := by decide +kernel
theorem dX2_isSign_49 : decode cX2_isSign 49 = .ok (.goto 4, 3) := by decide +kernel
theorem dX2_isSign_52 : decode cX2_isSign 52 = .ok (.iconst 0, 1) := by decide +kernel
theorem dX2_isSign_53 : decode cX2_isSign 53 = .ok (.ireturn, 1) := by decide +kernel
theorem dX3_init_0 : decode cX3_init 0 = .ok (.aload_n 0, 1) := by decide +kernel
theorem dX3_init_1 : decode cX3_init 1 = .ok (.invokespecial 3, 3) := by decide +kernel
theorem dX3_init_4 : decode cX3_init 4 = .ok (.aload_n 0, 1) := by decide +kernel
theorem dX3_init_5 : decode cX3_init 5 = .ok (.iconst 3, 1) := by decide +kernel
theorem dX3_init_6 : decode cX3_init 6 = .ok (.newarray .int, 2) := by decide +kernel
theorem dX3_init_8 : decode cX3_init 8 = .ok (.putfield 9, 3) := by decide +kernel
theorem dX3_init_11 : decode cX3_init 11 = .ok (.iconst 0, 1) := by decide +kernel
theorem dX3_init_12 : decode cX3_init 12 = .ok (.iload_n 2, 1) := by decide +kernel
theorem dX3_init_13 : decode cX3_init 13 = .ok (.aload_n 1, 1) := by decide +kernel
theorem dX3_init_14 : decode cX3_init 14 = .ok (.arraylength, 1) := by decide +kernel
theorem dX3_init_15 : decode cX3_init 15 = .ok (.invokestatic 15, 3) := by decide +kernel
theorem dX3_init_18 : decode cX3_init 18 = .ok (.invokestatic 21, 3) := by decide +kernel
theorem dX3_init_21 : decode cX3_init 21 = .ok (.istore 4, 2) := by decide +kernel
theorem dX3_init_23 : decode cX3_init 23 = .ok (.aload_n 0, 1) := by decide +kernel
theorem dX3_init_24 : decode cX3_init 24 = .ok (.iload 4, 2) := by decide +kernel
theorem dX3_init_26 : decode cX3_init 26 = .ok (.newarray .int, 2) := by decide +kernel
theorem dX3_init_28 : decode cX3_init 28 = .ok (.putfield 24, 3) := by decide +kernel
theorem dX3_init_31 : decode cX3_init 31 = .ok (.aload_n 1, 1) := by decide +kernel
theorem dX3_init_32 : decode cX3_init 32 = .ok (.iconst 0, 1) := by decide +kernel
theorem dX3_init_33 : decode cX3_init 33 = .ok (.aload_n 0, 1) := by decide +kernel
theorem dX3_init_34 : decode cX3_init 34 = .ok (.getfield 24, 3) := by decide +kernel
theorem dX3_init_37 : decode cX3_init 37 = .ok (.iconst 0, 1) := by decide +kernel
theorem dX3_init_38 : decode cX3_init 38 = .ok (.iload 4, 2) := by decide +kernel
theorem dX3_init_40 : decode cX3_init 40 = .ok (.invokestatic 27, 3) := by decide +kernel
theorem dX3_init_43 : decode cX3_init 43 = .ok (.iconst 0, 1) := by decide +kernel
theorem dX3_init_44 : decode cX3_init 44 = .ok (.istore 5, 2) := by decide +kernel
theorem dX3_init_46 : decode cX3_init 46 = .ok (.iload 5, 2) := by decide +kernel
theorem dX3_init_48 : decode cX3_init 48 = .ok (.iconst 3, 1) := by decide +kernel
theorem dX3_init_49 : decode cX3_init 49 = .ok (.if_icmp .ge 32, 3) := by decide +kernel
theorem dX3_init_52 : decode cX3_init 52 = .ok (.iload 5, 2) := by decide +kernel
theorem dX3_init_54 : decode cX3_init 54 = .ok (.aload_n 3, 1) := by decide +kernel
theorem dX3_init_55 : decode cX3_init 55 = .ok (.arraylength, 1) := by decide +kernel
theorem dX3_init_56 : decode cX3_init 56 = .ok (.if_icmp .ge 25, 3) := by decide +kernel
theorem dX3_init_59 : decode cX3_init 59 = .ok (.aload_n 0, 1) := by decide +kernel
theorem dX3_init_60 : decode cX3_init 60 = .ok (.getfield 9, 3) := by decide +kernel
theorem dX3_init_63 : decode cX3_init 63 = .ok (.iload 5, 2) := by decide +kernel
theorem dX3_init_65 : decode cX3_init 65 = .ok (.aload_n 3, 1) := by decide +kernel
theorem dX3_init_66 : decode cX3_init 66 = .ok (.iload 5, 2) := by decide +kernel
theorem dX3_init_68 : decode cX3_init 68 = .ok (.iaload, 1) := by decide +kernel
theorem dX3_init_69 : decode cX3_init 69 = .ok (.iload 4, 2) := by decide +kernel
theorem dX3_init_71 : decode cX3_init 71 = .ok (.invokestatic 15, 3) := by decide +kernel
theorem dX3_init_74 : decode cX3_init 74 = .ok (.iastore, 1) := by decide +kernel
theorem dX3_init_75 : decode cX3_init 75 = .ok (.iinc 5 1, 3) := by decide +kernel
theorem dX3_init_78 : decode cX3_init 78 = .ok (.goto (-32), 3) := by decide +kernel
theorem dX3_init_81 : decode cX3_init 81 = .ok (.return_, 1) := by decide +kernel
theorem dX3_begin_0 : decode cX3_begin 0 = .ok (.iload_n 1, 1) := by decide +kernel
theorem dX3_begin_1 : decode cX3_begin 1 = .ok (.ifCond .ne 7, 3) := by decide +kernel
theorem dX3_begin_4 : decode cX3_begin 4 = .ok (.iconst 0, 1) := by decide +kernel
theorem dX3_begin_5 : decode cX3_begin 5 = .ok (.goto 11, 3) := by decide +kernel
theorem dX3_begin_8 : decode cX3_begin 8 = .ok (.aload_n 0, 1) := by decide +kernel
theorem dX3_begin_9 : decode cX3_begin 9 = .ok (.getfield 9, 3) := by decide +kernel
theorem dX3_begin_12 : decode cX3_begin 12 = .ok (.iload_n 1, 1) := by decide +kernel
theorem dX3_begin_13 : decode cX3_begin 13 = .ok (.iconst 1, 1) := by decide +kernel
theorem dX3_begin_14 : decode cX3_begin 14 = .ok (.isub, 1) := by decide +kernel
theorem dX3_begin_15 : decode cX3_begin 15 = .ok (.iaload, 1) := by decide +kernel
theorem dX3_begin_16 : decode cX3_begin 16 = .ok (.ireturn, 1) := by decide +kernel
theorem dX3_joined_0 : decode cX3_joined 0 = .ok (.iload_n 0, 1) := by decide +kernel
theorem dX3_joined_1 : decode cX3_joined 1 = .ok (.tableswitch 97 (-14) (-9) #[93, 89, 78, 67, 53, 39], 39) := by decide +kernel
theorem dX3_joined_40 : decode cX3_joined 40 = .ok (.iload_n 1, 1) := by decide +kernel
theorem dX3_joined_41 : decode cX3_joined 41 = .ok (.ifCond .ne 7, 3) := by decide +kernel
theorem dX3_joined_44 : decode cX3_joined 44 = .ok (.iload_n 2, 1) := by decide +kernel
theorem dX3_joined_45 : decode cX3_joined 45 = .ok (.ifCond .eq 7, 3) := by decide +kernel
theorem dX3_joined_48 : decode cX3_joined 48 = .ok (.iconst 1, 1) := by decide +kernel
theorem dX3_joined_49 : decode cX3_joined 49 = .ok (.goto 4, 3) := by decide +kernel
theorem dX3_joined_52 : decode cX3_joined 52 = .ok (.iconst 0, 1) := by decide +kernel
theorem dX3_joined_53 : decode cX3_joined 53 = .ok (.ireturn, 1) := by decide +kernel
theorem dX3_joined_54 : decode cX3_joined 54 = .ok (.iload_n 1, 1) := by decide +kernel
theorem dX3_joined_55 : decode cX3_joined 55 = .ok (.ifCond .eq 11, 3) := by decide +kernel
theorem dX3_joined_58 : decode cX3_joined 58 = .ok (.iload_n 2, 1) := by decide +kernel
theorem dX3_joined_59 : decode cX3_joined 59 = .ok (.ifCond .eq 7, 3) := by decide +kernel
theorem dX3_joined_62 : decode cX3_joined 62 = .ok (.iconst 1, 1) := by decide +kernel
theorem dX3_joined_63 : decode cX3_joined 63 = .ok (.goto 4, 3) := by decide +kernel
theorem dX3_joined_66 : decode cX3_joined 66 = .ok (.iconst 0, 1) := by decide +kernel
theorem dX3_joined_67 : decode cX3_joined 67 = .ok (.ireturn, 1) := by decide +kernel
theorem dX3_joined_68 : decode cX3_joined 68 = .ok (.iload_n 1, 1) := by decide +kernel
theorem dX3_joined_69 : decode cX3_joined 69 = .ok (.iload_n 2, 1) := by decide +kernel
theorem dX3_joined_70 : decode cX3_joined 70 = .ok (.if_icmp .ge 7, 3) := by decide +kernel
theorem dX3_joined_73 : decode cX3_joined 73 = .ok (.iconst 1, 1) := by decide +kernel
theorem dX3_joined_74 : decode cX3_joined 74 = .ok (.goto 4, 3) := by decide +kernel
theorem dX3_joined_77 : decode cX3_joined 77 = .ok (.iconst 0, 1) := by decide +kernel
theorem dX3_joined_78 : decode cX3_joined 78 = .ok (.ireturn, 1) := by decide +kernel
theorem dX3_joined_79 : decode cX3_joined 79 = .ok (.iload_n 1, 1) := by decide +kernel
theorem dX3_joined_80 : decode cX3_joined 80 = .ok (.iload_n 2, 1) := by decide +kernel
theorem dX3_joined_81 : decode cX3_joined 81 = .ok (.if_icmp .ne 7, 3) := by decide +kernel
theorem dX3_joined_84 : decode cX3_joined 84 = .ok (.iconst 1, 1) := by decide +kernel
theorem dX3_joined_85 : decode cX3_joined 85 = .ok (.goto 4, 3) := by decide +kernel
theorem dX3_joined_88 : decode cX3_joined 88 = .ok (.iconst 0, 1) := by decide +kernel
theorem dX3_joined_89 : decode cX3_joined 89 = .ok (.ireturn, 1) := by decide +kernel
theorem dX3_joined_90 : decode cX3_joined 90 = .ok (.iload_n 1, 1) := by decide +kernel
theorem dX3_joined_91 : decode cX3_joined 91 = .ok (.iload_n 2, 1) := by decide +kernel
theorem dX3_joined_92 : decode cX3_joined 92 = .ok (.iadd, 1) := by decide +kernel
theorem dX3_joined_93 : decode cX3_joined 93 = .ok (.ireturn, 1) := by decide +kernel
theorem dX3_joined_94 : decode cX3_joined 94 = .ok (.iload_n 1, 1) := by decide +kernel
theorem dX3_joined_95 : decode cX3_joined 95 = .ok (.iload_n 2, 1) := by decide +kernel
theorem dX3_joined_96 : decode cX3_joined 96 = .ok (.isub, 1) := by decide +kernel
theorem dX3_joined_97 : decode cX3_joined 97 = .ok (.ireturn, 1) := by decide +kernel
theorem dX3_joined_98 : decode cX3_joined 98 = .ok (.iload_n 1, 1) := by decide +kernel
theorem dX3_joined_99 : decode cX3_joined 99 = .ok (.iload_n 2, 1) := by decide +kernel
theorem dX3_joined_100 : decode cX3_joined 100 = .ok (.imul, 1) := by decide +kernel
theorem dX3_joined_101 : decode cX3_joined 101 = .ok (.ireturn, 1) := by decide +kernel
theorem dX4_init_0 : decode cX4_init 0 = .ok (.aload_n 0, 1) := by decide +kernel
theorem dX4_init_1 : decode cX4_init 1 = .ok (.invokespecial 1, 3) := by decide +kernel
theorem dX4_init_4 : decode cX4_init 4 = .ok (.bipush 6, 2) := by decide +kernel
theorem dX4_init_6 : decode cX4_init 6 = .ok (.anewarray 9, 3) := by decide +kernel
theorem dX4_init_9 : decode cX4_init 9 = .ok (.astore_n 1, 1) := by decide +kernel
theorem dX4_init_10 : decode cX4_init 10 = .ok (.sipush 160, 3) := by decide +kernel
theorem dX4_init_13 : decode cX4_init 13 = .ok (.newarray .int, 2) := by decide +kernel
theorem dX4_init_15 : decode cX4_init 15 = .ok (.astore_n 2, 1) := by decide +kernel
theorem dX4_init_16 : decode cX4_init 16 = .ok (.aload_n 0, 1) := by decide +kernel
theorem dX4_init_17 : decode cX4_init 17 = .ok (.new 11, 3) := by decide +kernel
theorem dX4_init_20 : decode cX4_init 20 = .ok (.dup, 1) := by decide +kernel
theorem dX4_init_21 : decode cX4_init 21 = .ok (.invokespecial 13, 3) := by decide +kernel
theorem dX4_init_24 : decode cX4_init 24 = .ok (.putfield 14, 3) := by decide +kernel
theorem dX4_init_27 : decode cX4_init 27 = .ok (.iconst 0, 1) := by decide +kernel
theorem dX4_init_28 : decode cX4_init 28 = .ok (.istore_n 3, 1) := by decide +kernel
theorem dX4_init_29 : decode cX4_init 29 = .ok (.iload_n 3, 1) := by decide +kernel
theorem dX4_init_30 : decode cX4_init 30 = .ok (.ldc 18, 2) := by decide +kernel
theorem dX4_init_32 : decode cX4_init 32 = .ok (.invokevirtual 20, 3) := by decide +kernel
theorem dX4_init_35 : decode cX4_init 35 = .ok (.if_icmp .ge 22, 3) := by decide +kernel
theorem dX4_init_38 : decode cX4_init 38 = .ok (.aload_n 0, 1) := by decide +kernel
theorem dX4_init_39 : decode cX4_init 39 = .ok (.getfield 14, 3) := by decide +kernel
theorem dX4_init_42 : decode cX4_init 42 = .ok (.ldc 18, 2) := by decide +kernel
theorem dX4_init_44 : decode cX4_init 44 = .ok (.iload_n 3, 1) := by decide +kernel
theorem dX4_init_45 : decode cX4_init 45 = .ok (.invokevirtual 26, 3) := by decide +kernel
theorem dX4_init_48 : decode cX4_init 48 = .ok (.invokevirtual 30, 3) := by decide +kernel
theorem dX4_init_51 : decode cX4_init 51 = .ok (.iinc 3 1, 3) := by decide +kernel
theorem dX4_init_54 : decode cX4_init 54 = .ok (.goto (-25), 3) := by decide +kernel
theorem dX4_init_57 : decode cX4_init 57 = .ok (.aload_n 0, 1) := by decide +kernel
theorem dX4_init_58 : decode cX4_init 58 = .ok (.getfield 14, 3) := by decide +kernel
theorem dX4_init_61 : decode cX4_init 61 = .ok (.invokevirtual 34, 3) := by decide +kernel
theorem dX4_init_64 : decode cX4_init 64 = .ok (.ifCond .eq 13, 3) := by decide +kernel
theorem dX4_init_67 : decode cX4_init 67 = .ok (.aload_n 1, 1) := by decide +kernel
theorem dX4_init_68 : decode cX4_init 68 = .ok (.iconst 0, 1) := by decide +kernel
theorem dX4_init_69 : decode cX4_init 69 = .ok (.aload_n 0, 1) := by decide +kernel
theorem dX4_init_70 : decode cX4_init 70 = .ok (.getfield 14, 3) := by decide +kernel
theorem dX4_init_73 : decode cX4_init 73 = .ok (.invokevirtual 38, 3) := by decide +kernel
theorem dX4_init_76 : decode cX4_init 76 = .ok (.aastore, 1) := by decide +kernel
theorem dX4_init_77 : decode cX4_init 77 = .ok (.aload_n 0, 1) := by decide +kernel
theorem dX4_init_78 : decode cX4_init 78 = .ok (.getfield 14, 3) := by decide +kernel
theorem dX4_init_81 : decode cX4_init 81 = .ok (.iconst 0, 1) := by decide +kernel
theorem dX4_init_82 : decode cX4_init 82 = .ok (.putfield 42, 3) := by decide +kernel
theorem dX4_init_85 : decode cX4_init 85 = .ok (.aload_n 0, 1) := by decide +kernel
theorem dX4_init_86 : decode cX4_init 86 = .ok (.aload_n 1, 1) := by decide +kernel
theorem dX4_init_87 : decode cX4_init 87 = .ok (.putfield 46, 3) := by decide +kernel
theorem dX4_init_90 : decode cX4_init 90 = .ok (.aload_n 0, 1) := by decide +kernel
theorem dX4_init_91 : decode cX4_init 91 = .ok (.iconst 1, 1) := by decide +kernel
theorem dX4_init_92 : decode cX4_init 92 = .ok (.putfield 50, 3) := by decide +kernel
theorem dX4_init_95 : decode cX4_init 95 = .ok (.aload_n 0, 1) := by decide +kernel
theorem dX4_init_96 : decode cX4_init 96 = .ok (.new 53, 3) := by decide +kernel
theorem dX4_init_99 : decode cX4_init 99 = .ok (.dup, 1) := by decide +kernel
theorem dX4_init_100 : decode cX4_init 100 = .ok (.aload_n 1, 1) := by decide +kernel
theorem dX4_init_101 : decode cX4_init 101 = .ok (.aload_n 2, 1) := by decide +kernel
theorem dX4_init_102 : decode cX4_init 102 = .ok (.invokespecial 55, 3) := by decide +kernel
theorem dX4_init_105 : decode cX4_init 105 = .ok (.putfield 58, 3) := by decide +kernel
theorem dX4_init_108 : decode cX4_init 108 = .ok (.aload_n 0, 1) := by decide +kernel
theorem dX4_init_109 : decode cX4_init 109 = .ok (.new 53, 3) := by decide +kernel
theorem dX4_init_112 : decode cX4_init 112 = .ok (.dup, 1) := by decide +kernel
theorem dX4_init_113 : decode cX4_init 113 = .ok (.aload_n 1, 1) := by decide +kernel
theorem dX4_init_114 : decode cX4_init 114 = .ok (.aload_n 2, 1) := by decide +kernel
theorem dX4_init_115 : decode cX4_init 115 = .ok (.invokespecial 55, 3) := by decide +kernel
theorem dX4_init_118 : decode cX4_init 118 = .ok (.putfield 62, 3) := by decide +kernel
theorem dX4_init_121 : decode cX4_init 121 = .ok (.aload_n 0, 1) := by decide +kernel
theorem dX4_init_122 : decode cX4_init 122 = .ok (.new 53, 3) := by decide +kernel
theorem dX4_init_125 : decode cX4_init 125 = .ok (.dup, 1) := by decide +kernel
theorem dX4_init_126 : decode cX4_init 126 = .ok (.aload_n 1, 1) := by decide +kernel
theorem dX4_init_127 : decode cX4_init 127 = .ok (.aload_n 2, 1) := by decide +kernel
theorem dX4_init_128 : decode cX4_init 128 = .ok (.invokespecial 55, 3) := by decide +kernel
theorem dX4_init_131 : decode cX4_init 131 = .ok (.putfield 65, 3) := by decide +kernel
theorem dX4_init_134 : decode cX4_init 134 = .ok (.iconst 4, 1) := by decide +kernel
theorem dX4_init_135 : decode cX4_init 135 = .ok (.anewarray 68, 3) := by decide +kernel
theorem dX4_init_138 : decode cX4_init 138 = .ok (.astore_n 3, 1) := by decide +kernel
theorem dX4_init_139 : decode cX4_init 139 = .ok (.iconst 0, 1) := by decide +kernel
theorem dX4_init_140 : decode cX4_init 140 = .ok (.istore 4, 2) := by decide +kernel
theorem dX4_init_142 : decode cX4_init 142 = .ok (.iload 4, 2) := by decide +kernel
theorem dX4_init_144 : decode cX4_init 144 = .ok (.iconst 4, 1) := by decide +kernel
theorem dX4_init_145 : decode cX4_init 145 = .ok (.if_icmp .ge 20, 3) := by decide +kernel
theorem dX4_init_148 : decode cX4_init 148 = .ok (.aload_n 3, 1) := by decide +kernel
theorem dX4_init_149 : decode cX4_init 149 = .ok (.iload 4, 2) := by decide +kernel
theorem dX4_init_151 : decode cX4_init 151 = .ok (.new 68, 3) := by decide +kernel
theorem dX4_init_154 : decode cX4_init 154 = .ok (.dup, 1) := by decide +kernel
theorem dX4_init_155 : decode cX4_init 155 = .ok (.invokespecial 70, 3) := by decide +kernel
theorem dX4_init_158 : decode cX4_init 158 = .ok (.aastore, 1) := by decide +kernel
theorem dX4_init_159 : decode cX4_init 159 = .ok (.iinc 4 1, 3) := by decide +kernel
theorem dX4_init_162 : decode cX4_init 162 = .ok (.goto (-20), 3) := by decide +kernel
theorem dX4_init_165 : decode cX4_init 165 = .ok (.aload_n 0, 1) := by decide +kernel
theorem dX4_init_166 : decode cX4_init 166 = .ok (.aload_n 3, 1) := by decide +kernel
theorem dX4_init_167 : decode cX4_init 167 = .ok (.putfield 71, 3) := by decide +kernel
theorem dX4_init_170 : decode cX4_init 170 = .ok (.aload_n 0, 1) := by decide +kernel
theorem dX4_init_171 : decode cX4_init 171 = .ok (.bipush 61, 2) := by decide +kernel
theorem dX4_init_173 : decode cX4_init 173 = .ok (.newarray .int, 2) := by decide +kernel
theorem dX4_init_175 : decode cX4_init 175 = .ok (.putfield 75, 3) := by decide +kernel
theorem dX4_init_178 : decode cX4_init 178 = .ok (.return_, 1) := by decide +kernel
theorem dX4_count_0 : decode cX4_count 0 = .ok (.iload_n 1, 1) := by decide +kernel
theorem dX4_count_1 : decode cX4_count 1 = .ok (.tableswitch 84 0 5 #[39, 47, 55, 63, 68, 76], 39) := by decide +kernel
theorem dX4_count_40 : decode cX4_count 40 = .ok (.aload_n 0, 1) := by decide +kernel
theorem dX4_count_41 : decode cX4_count 41 = .ok (.getfield 58, 3) := by decide +kernel
theorem dX4_count_44 : decode cX4_count 44 = .ok (.getfield 79, 3) := by decide +kernel
theorem dX4_count_47 : decode cX4_count 47 = .ok (.ireturn, 1) := by decide +kernel
theorem dX4_count_48 : decode cX4_count 48 = .ok (.aload_n 0, 1) := by decide +kernel
theorem dX4_count_49 : decode cX4_count 49 = .ok (.getfield 58, 3) := by decide +kernel
theorem dX4_count_52 : decode cX4_count 52 = .ok (.getfield 80, 3) := by decide +kernel
theorem dX4_count_55 : decode cX4_count 55 = .ok (.ireturn, 1) := by decide +kernel
theorem dX4_count_56 : decode cX4_count 56 = .ok (.aload_n 0, 1) := by decide +kernel
theorem dX4_count_57 : decode cX4_count 57 = .ok (.getfield 58, 3) := by decide +kernel
theorem dX4_count_60 : decode cX4_count 60 = .ok (.invokevirtual 83, 3) := by decide +kernel
theorem dX4_count_63 : decode cX4_count 63 = .ok (.ireturn, 1) := by decide +kernel
theorem dX4_count_64 : decode cX4_count 64 = .ok (.aload_n 0, 1) := by decide +kernel
theorem dX4_count_65 : decode cX4_count 65 = .ok (.getfield 50, 3) := by decide +kernel
theorem dX4_count_68 : decode cX4_count 68 = .ok (.ireturn, 1) := by decide +kernel
theorem dX4_count_69 : decode cX4_count 69 = .ok (.aload_n 0, 1) := by decide +kernel
theorem dX4_count_70 : decode cX4_count 70 = .ok (.getfield 58, 3) := by decide +kernel
theorem dX4_count_73 : decode cX4_count 73 = .ok (.getfield 86, 3) := by decide +kernel
theorem dX4_count_76 : decode cX4_count 76 = .ok (.ireturn, 1) := by decide +kernel
theorem dX4_count_77 : decode cX4_count 77 = .ok (.aload_n 0, 1) := by decide +kernel
theorem dX4_count_78 : decode cX4_count 78 = .ok (.getfield 14, 3) := by decide +kernel
theorem dX4_count_81 : decode cX4_count 81 = .ok (.getfield 42, 3) := by decide +kernel
theorem dX4_count_84 : decode cX4_count 84 = .ok (.ireturn, 1) := by decide +kernel
theorem dX4_count_85 : decode cX4_count 85 = .ok (.bipush (-2), 2) := by decide +kernel
theorem dX4_count_87 : decode cX4_count 87 = .ok (.ireturn, 1) := by decide +kernel
theorem dX4_clock_0 : decode cX4_clock 0 = .ok (.iload_n 1, 1) := by decide +kernel
theorem dX4_clock_1 : decode cX4_clock 1 = .ok (.iconst 0, 1) := by decide +kernel
theorem dX4_clock_2 : decode cX4_clock 2 = .ok (.sipush 999, 3) := by decide +kernel
theorem dX4_clock_5 : decode cX4_clock 5 = .ok (.invokestatic 89, 3) := by decide +kernel
theorem dX4_clock_8 : decode cX4_clock 8 = .ok (.ifCond .ne 6, 3) := by decide +kernel
theorem dX4_clock_11 : decode cX4_clock 11 = .ok (.bipush (-2), 2) := by decide +kernel
theorem dX4_clock_13 : decode cX4_clock 13 = .ok (.ireturn, 1) := by decide +kernel
theorem dX4_clock_14 : decode cX4_clock 14 = .ok (.aload_n 0, 1) := by decide +kernel
theorem dX4_clock_15 : decode cX4_clock 15 = .ok (.getfield 58, 3) := by decide +kernel
theorem dX4_clock_18 : decode cX4_clock 18 = .ok (.getfield 80, 3) := by decide +kernel
theorem dX4_clock_21 : decode cX4_clock 21 = .ok (.istore_n 2, 1) := by decide +kernel
theorem dX4_clock_22 : decode cX4_clock 22 = .ok (.aload_n 0, 1) := by decide +kernel
theorem dX4_clock_23 : decode cX4_clock 23 = .ok (.getfield 58, 3) := by decide +kernel
theorem dX4_clock_26 : decode cX4_clock 26 = .ok (.iload_n 1, 1) := by decide +kernel
theorem dX4_clock_27 : decode cX4_clock 27 = .ok (.putfield 80, 3) := by decide +kernel
theorem dX4_clock_30 : decode cX4_clock 30 = .ok (.iload_n 2, 1) := by decide +kernel
theorem dX4_clock_31 : decode cX4_clock 31 = .ok (.ireturn, 1) := by decide +kernel
theorem dX4_feed_0 : decode cX4_feed 0 = .ok (.iload_n 1, 1) := by decide +kernel
theorem dX4_feed_1 : decode cX4_feed 1 = .ok (.iconst 1, 1) := by decide +kernel
theorem dX4_feed_2 : decode cX4_feed 2 = .ok (.iconst 5, 1) := by decide +kernel
theorem dX4_feed_3 : decode cX4_feed 3 = .ok (.invokestatic 89, 3) := by decide +kernel
theorem dX4_feed_6 : decode cX4_feed 6 = .ok (.ifCond .eq 41, 3) := by decide +kernel
theorem dX4_feed_9 : decode cX4_feed 9 = .ok (.iload_n 2, 1) := by decide +kernel
theorem dX4_feed_10 : decode cX4_feed 10 = .ok (.invokestatic 93, 3) := by decide +kernel
theorem dX4_feed_13 : decode cX4_feed 13 = .ok (.ifCond .eq 34, 3) := by decide +kernel
theorem dX4_feed_16 : decode cX4_feed 16 = .ok (.iload_n 3, 1) := by decide +kernel
theorem dX4_feed_17 : decode cX4_feed 17 = .ok (.invokestatic 93, 3) := by decide +kernel
theorem dX4_feed_20 : decode cX4_feed 20 = .ok (.ifCond .eq 27, 3) := by decide +kernel
theorem dX4_feed_23 : decode cX4_feed 23 = .ok (.iload 4, 2) := by decide +kernel
theorem dX4_feed_25 : decode cX4_feed 25 = .ok (.invokestatic 93, 3) := by decide +kernel
theorem dX4_feed_28 : decode cX4_feed 28 = .ok (.ifCond .eq 19, 3) := by decide +kernel
theorem dX4_feed_31 : decode cX4_feed 31 = .ok (.iload 5, 2) := by decide +kernel
theorem dX4_feed_33 : decode cX4_feed 33 = .ok (.invokestatic 93, 3) := by decide +kernel
theorem dX4_feed_36 : decode cX4_feed 36 = .ok (.ifCond .eq 11, 3) := by decide +kernel
theorem dX4_feed_39 : decode cX4_feed 39 = .ok (.iload 6, 2) := by decide +kernel
theorem dX4_feed_41 : decode cX4_feed 41 = .ok (.invokestatic 93, 3) := by decide +kernel
theorem dX4_feed_44 : decode cX4_feed 44 = .ok (.ifCond .ne 6, 3) := by decide +kernel
theorem dX4_feed_47 : decode cX4_feed 47 = .ok (.bipush (-2), 2) := by decide +kernel
theorem dX4_feed_49 : decode cX4_feed 49 = .ok (.ireturn, 1) := by decide +kernel
theorem dX4_feed_50 : decode cX4_feed 50 = .ok (.aload_n 0, 1) := by decide +kernel
theorem dX4_feed_51 : decode cX4_feed 51 = .ok (.getfield 14, 3) := by decide +kernel
theorem dX4_feed_54 : decode cX4_feed 54 = .ok (.getfield 42, 3) := by decide +kernel
theorem dX4_feed_57 : decode cX4_feed 57 = .ok (.iload_n 1, 1) := by decide +kernel
theorem dX4_feed_58 : decode cX4_feed 58 = .ok (.iadd, 1) := by decide +kernel
theorem dX4_feed_59 : decode cX4_feed 59 = .ok (.sipush 160, 3) := by decide +kernel
theorem dX4_feed_62 : decode cX4_feed 62 = .ok (.if_icmp .le 6, 3) := by decide +kernel
theorem dX4_feed_65 : decode cX4_feed 65 = .ok (.bipush (-4), 2) := by decide +kernel
theorem dX4_feed_67 : decode cX4_feed 67 = .ok (.ireturn, 1) := by decide +kernel
theorem dX4_feed_68 : decode cX4_feed 68 = .ok (.iconst 0, 1) := by decide +kernel
theorem dX4_feed_69 : decode cX4_feed 69 = .ok (.istore 7, 2) := by decide +kernel
theorem dX4_feed_71 : decode cX4_feed 71 = .ok (.iload 7, 2) := by decide +kernel
theorem dX4_feed_73 : decode cX4_feed 73 = .ok (.iload_n 1, 1) := by decide +kernel
theorem dX4_feed_74 : decode cX4_feed 74 = .ok (.if_icmp .ge 59, 3) := by decide +kernel
theorem dX4_feed_77 : decode cX4_feed 77 = .ok (.aload_n 0, 1) := by decide +kernel
theorem dX4_feed_78 : decode cX4_feed 78 = .ok (.getfield 14, 3) := by decide +kernel
theorem dX4_feed_81 : decode cX4_feed 81 = .ok (.iload 7, 2) := by decide +kernel
theorem dX4_feed_83 : decode cX4_feed 83 = .ok (.ifCond .ne 7, 3) := by decide +kernel
theorem dX4_feed_86 : decode cX4_feed 86 = .ok (.iload_n 2, 1) := by decide +kernel
theorem dX4_feed_87 : decode cX4_feed 87 = .ok (.goto 37, 3) := by decide +kernel
theorem dX4_feed_90 : decode cX4_feed 90 = .ok (.iload 7, 2) := by decide +kernel
theorem dX4_feed_92 : decode cX4_feed 92 = .ok (.iconst 1, 1) := by decide +kernel
theorem dX4_feed_93 : decode cX4_feed 93 = .ok (.if_icmp .ne 7, 3) := by decide +kernel
theorem dX4_feed_96 : decode cX4_feed 96 = .ok (.iload_n 3, 1) := by decide +kernel
theorem dX4_feed_97 : decode cX4_feed 97 = .ok (.goto 27, 3) := by decide +kernel
theorem dX4_feed_100 : decode cX4_feed 100 = .ok (.iload 7, 2) := by decide +kernel
theorem dX4_feed_102 : decode cX4_feed 102 = .ok (.iconst 2, 1) := by decide +kernel
theorem dX4_feed_103 : decode cX4_feed 103 = .ok (.if_icmp .ne 8, 3) := by decide +kernel
theorem dX4_feed_106 : decode cX4_feed 106 = .ok (.iload 4, 2) := by decide +kernel
theorem dX4_feed_108 : decode cX4_feed 108 = .ok (.goto 16, 3) := by decide +kernel
theorem dX4_feed_111 : decode cX4_feed 111 = .ok (.iload 7, 2) := by decide +kernel
theorem dX4_feed_113 : decode cX4_feed 113 = .ok (.iconst 3, 1) := by decide +kernel
theorem dX4_feed_114 : decode cX4_feed 114 = .ok (.if_icmp .ne 8, 3) := by decide +kernel
theorem dX4_feed_117 : decode cX4_feed 117 = .ok (.iload 5, 2) := by decide +kernel
theorem dX4_feed_119 : decode cX4_feed 119 = .ok (.goto 5, 3) := by decide +kernel
theorem dX4_feed_122 : decode cX4_feed 122 = .ok (.iload 6, 2) := by decide +kernel
theorem dX4_feed_124 : decode cX4_feed 124 = .ok (.invokevirtual 30, 3) := by decide +kernel
theorem dX4_feed_127 : decode cX4_feed 127 = .ok (.iinc 7 1, 3) := by decide +kernel
theorem dX4_feed_130 : decode cX4_feed 130 = .ok (.goto (-59), 3) := by decide +kernel
theorem dX4_feed_133 : decode cX4_feed 133 = .ok (.aload_n 0, 1) := by decide +kernel
theorem dX4_feed_134 : decode cX4_feed 134 = .ok (.getfield 14, 3) := by decide +kernel
theorem dX4_feed_137 : decode cX4_feed 137 = .ok (.getfield 42, 3) := by decide +kernel
theorem dX4_feed_140 : decode cX4_feed 140 = .ok (.ireturn, 1) := by decide +kernel
theorem dX4_text_0 : decode cX4_text 0 = .ok (.aload_n 0, 1) := by decide +kernel
theorem dX4_text_1 : decode cX4_text 1 = .ok (.getfield 50, 3) := by decide +kernel
theorem dX4_text_4 : decode cX4_text 4 = .ok (.bipush 6, 2) := by decide +kernel
theorem dX4_text_6 : decode cX4_text 6 = .ok (.if_icmp .lt 6, 3) := by decide +kernel
theorem dX4_text_9 : decode cX4_text 9 = .ok (.bipush (-4), 2) := by decide +kernel
theorem dX4_text_11 : decode cX4_text 11 = .ok (.ireturn, 1) := by decide +kernel
theorem dX4_text_12 : decode cX4_text 12 = .ok (.aload_n 0, 1) := by decide +kernel
theorem dX4_text_13 : decode cX4_text 13 = .ok (.getfield 14, 3) := by decide +kernel
theorem dX4_text_16 : decode cX4_text 16 = .ok (.invokevirtual 34, 3) := by decide +kernel
theorem dX4_text_19 : decode cX4_text 19 = .ok (.istore_n 1, 1) := by decide +kernel
theorem dX4_text_20 : decode cX4_text 20 = .ok (.aload_n 0, 1) := by decide +kernel
theorem dX4_text_21 : decode cX4_text 21 = .ok (.getfield 14, 3) := by decide +kernel
theorem dX4_text_24 : decode cX4_text 24 = .ok (.iconst 0, 1) := by decide +kernel
theorem dX4_text_25 : decode cX4_text 25 = .ok (.putfield 42, 3) := by decide +kernel
theorem dX4_text_28 : decode cX4_text 28 = .ok (.iload_n 1, 1) := by decide +kernel
theorem dX4_text_29 : decode cX4_text 29 = .ok (.ifCond .ne 14, 3) := by decide +kernel
theorem dX4_text_32 : decode cX4_text 32 = .ok (.bipush (-100), 2) := by decide +kernel
theorem dX4_text_34 : decode cX4_text 34 = .ok (.aload_n 0, 1) := by decide +kernel
theorem dX4_text_35 : decode cX4_text 35 = .ok (.getfield 14, 3) := by decide +kernel
theorem dX4_text_38 : decode cX4_text 38 = .ok (.getfield 97, 3) := by decide +kernel
theorem dX4_text_41 : decode cX4_text 41 = .ok (.isub, 1) := by decide +kernel
theorem dX4_text_42 : decode cX4_text 42 = .ok (.ireturn, 1) := by decide +kernel
theorem dX4_text_43 : decode cX4_text 43 = .ok (.aload_n 0, 1) := by decide +kernel
theorem dX4_text_44 : decode cX4_text 44 = .ok (.getfield 46, 3) := by decide +kernel
theorem dX4_text_47 : decode cX4_text 47 = .ok (.aload_n 0, 1) := by decide +kernel
theorem dX4_text_48 : decode cX4_text 48 = .ok (.getfield 50, 3) := by decide +kernel
theorem dX4_text_51 : decode cX4_text 51 = .ok (.aload_n 0, 1) := by decide +kernel
theorem dX4_text_52 : decode cX4_text 52 = .ok (.getfield 14, 3) := by decide +kernel
theorem dX4_text_55 : decode cX4_text 55 = .ok (.invokevirtual 38, 3) := by decide +kernel
theorem dX4_text_58 : decode cX4_text 58 = .ok (.aastore, 1) := by decide +kernel
theorem dX4_text_59 : decode cX4_text 59 = .ok (.aload_n 0, 1) := by decide +kernel
theorem dX4_text_60 : decode cX4_text 60 = .ok (.dup, 1) := by decide +kernel
theorem dX4_text_61 : decode cX4_text 61 = .ok (.getfield 50, 3) := by decide +kernel
theorem dX4_text_64 : decode cX4_text 64 = .ok (.dup_x1, 1) := by decide +kernel
theorem dX4_text_65 : decode cX4_text 65 = .ok (.iconst 1, 1) := by decide +kernel
theorem dX4_text_66 : decode cX4_text 66 = .ok (.iadd, 1) := by decide +kernel
theorem dX4_text_67 : decode cX4_text 67 = .ok (.putfield 50, 3) := by decide +kernel
theorem dX4_text_70 : decode cX4_text 70 = .ok (.ireturn, 1) := by decide +kernel
theorem dX4_force_0 : decode cX4_force 0 = .ok (.iload_n 1, 1) := by decide +kernel
theorem dX4_force_1 : decode cX4_force 1 = .ok (.iconst 0, 1) := by decide +kernel
theorem dX4_force_2 : decode cX4_force 2 = .ok (.aload_n 0, 1) := by decide +kernel
theorem dX4_force_3 : decode cX4_force 3 = .ok (.getfield 50, 3) := by decide +kernel
theorem dX4_force_6 : decode cX4_force 6 = .ok (.iconst 1, 1) := by decide +kernel
theorem dX4_force_7 : decode cX4_force 7 = .ok (.isub, 1) := by decide +kernel
theorem dX4_force_8 : decode cX4_force 8 = .ok (.invokestatic 89, 3) := by decide +kernel
theorem dX4_force_11 : decode cX4_force 11 = .ok (.ifCond .ne 6, 3) := by decide +kernel
theorem dX4_force_14 : decode cX4_force 14 = .ok (.bipush (-2), 2) := by decide +kernel
theorem dX4_force_16 : decode cX4_force 16 = .ok (.ireturn, 1) := by decide +kernel
theorem dX4_force_17 : decode cX4_force 17 = .ok (.aload_n 0, 1) := by decide +kernel
theorem dX4_force_18 : decode cX4_force 18 = .ok (.getfield 58, 3) := by decide +kernel
theorem dX4_force_21 : decode cX4_force 21 = .ok (.getfield 86, 3) := by decide +kernel
theorem dX4_force_24 : decode cX4_force 24 = .ok (.istore_n 2, 1) := by decide +kernel
theorem dX4_force_25 : decode cX4_force 25 = .ok (.aload_n 0, 1) := by decide +kernel
theorem dX4_force_26 : decode cX4_force 26 = .ok (.getfield 58, 3) := by decide +kernel
theorem dX4_force_29 : decode cX4_force 29 = .ok (.iload_n 1, 1) := by decide +kernel
theorem dX4_force_30 : decode cX4_force 30 = .ok (.putfield 86, 3) := by decide +kernel
theorem dX4_force_33 : decode cX4_force 33 = .ok (.iload_n 2, 1) := by decide +kernel
theorem dX4_force_34 : decode cX4_force 34 = .ok (.ireturn, 1) := by decide +kernel
theorem dX4_asks_0 : decode cX4_asks 0 = .ok (.iload_n 1, 1) := by decide +kernel
theorem dX4_asks_1 : decode cX4_asks 1 = .ok (.iconst 0, 1) := by decide +kernel
theorem dX4_asks_2 : decode cX4_asks 2 = .ok (.iconst 2, 1) := by decide +kernel
theorem dX4_asks_3 : decode cX4_asks 3 = .ok (.invokestatic 89, 3) := by decide +kernel
theorem dX4_asks_6 : decode cX4_asks 6 = .ok (.ifCond .eq 21, 3) := by decide +kernel
theorem dX4_asks_9 : decode cX4_asks 9 = .ok (.aload_n 0, 1) := by decide +kernel
theorem dX4_asks_10 : decode cX4_asks 10 = .ok (.getfield 58, 3) := by decide +kernel
theorem dX4_asks_13 : decode cX4_asks 13 = .ok (.iload_n 2, 1) := by decide +kernel
theorem dX4_asks_14 : decode cX4_asks 14 = .ok (.invokevirtual 100, 3) := by decide +kernel
theorem dX4_asks_17 : decode cX4_asks 17 = .ok (.ifCond .eq 10, 3) := by decide +kernel
theorem dX4_asks_20 : decode cX4_asks 20 = .ok (.iload_n 3, 1) := by decide +kernel
theorem dX4_asks_21 : decode cX4_asks 21 = .ok (.invokestatic 103, 3) := by decide +kernel
theorem dX4_asks_24 : decode cX4_asks 24 = .ok (.ifCond .ne 7, 3) := by decide +kernel
theorem dX4_asks_27 : decode cX4_asks 27 = .ok (.sipush (-1000), 3) := by decide +kernel
theorem dX4_asks_30 : decode cX4_asks 30 = .ok (.ireturn, 1) := by decide +kernel
theorem dX4_asks_31 : decode cX4_asks 31 = .ok (.aload_n 0, 1) := by decide +kernel
theorem dX4_asks_32 : decode cX4_asks 32 = .ok (.getfield 58, 3) := by decide +kernel
theorem dX4_asks_35 : decode cX4_asks 35 = .ok (.iload_n 1, 1) := by decide +kernel
theorem dX4_asks_36 : decode cX4_asks 36 = .ok (.iload_n 2, 1) := by decide +kernel
theorem dX4_asks_37 : decode cX4_asks 37 = .ok (.iload_n 3, 1) := by decide +kernel
theorem dX4_asks_38 : decode cX4_asks 38 = .ok (.invokevirtual 106, 3) := by decide +kernel
theorem dX4_asks_41 : decode cX4_asks 41 = .ok (.ireturn, 1) := by decide +kernel
theorem dX4_gentleman_0 : decode cX4_gentleman 0 = .ok (.iload_n 1, 1) := by decide +kernel
theorem dX4_gentleman_1 : decode cX4_gentleman 1 = .ok (.iconst 0, 1) := by decide +kernel
theorem dX4_gentleman_2 : decode cX4_gentleman 2 = .ok (.bipush 59, 2) := by decide +kernel
theorem dX4_gentleman_4 : decode cX4_gentleman 4 = .ok (.invokestatic 89, 3) := by decide +kernel
theorem dX4_gentleman_7 : decode cX4_gentleman 7 = .ok (.ifCond .eq 13, 3) := by decide +kernel
theorem dX4_gentleman_10 : decode cX4_gentleman 10 = .ok (.iload_n 2, 1) := by decide +kernel
theorem dX4_gentleman_11 : decode cX4_gentleman 11 = .ok (.iconst 0, 1) := by decide +kernel
theorem dX4_gentleman_12 : decode cX4_gentleman 12 = .ok (.bipush 9, 2) := by decide +kernel
theorem dX4_gentleman_14 : decode cX4_gentleman 14 = .ok (.invokestatic 89, 3) := by decide +kernel
theorem dX4_gentleman_17 : decode cX4_gentleman 17 = .ok (.ifCond .ne 6, 3) := by decide +kernel
theorem dX4_gentleman_20 : decode cX4_gentleman 20 = .ok (.bipush (-2), 2) := by decide +kernel
theorem dX4_gentleman_22 : decode cX4_gentleman 22 = .ok (.ireturn, 1) := by decide +kernel
theorem dX4_gentleman_23 : decode cX4_gentleman 23 = .ok (.aload_n 0, 1) := by decide +kernel
theorem dX4_gentleman_24 : decode cX4_gentleman 24 = .ok (.getfield 58, 3) := by decide +kernel
theorem dX4_gentleman_27 : decode cX4_gentleman 27 = .ok (.getfield 79, 3) := by decide +kernel
theorem dX4_gentleman_30 : decode cX4_gentleman 30 = .ok (.bipush 6, 2) := by decide +kernel
theorem dX4_gentleman_32 : decode cX4_gentleman 32 = .ok (.if_icmp .lt 6, 3) := by decide +kernel
theorem dX4_gentleman_35 : decode cX4_gentleman 35 = .ok (.bipush (-4), 2) := by decide +kernel
theorem dX4_gentleman_37 : decode cX4_gentleman 37 = .ok (.ireturn, 1) := by decide +kernel
theorem dX4_gentleman_38 : decode cX4_gentleman 38 = .ok (.aload_n 0, 1) := by decide +kernel
theorem dX4_gentleman_39 : decode cX4_gentleman 39 = .ok (.getfield 58, 3) := by decide +kernel
theorem dX4_gentleman_42 : decode cX4_gentleman 42 = .ok (.iload_n 1, 1) := by decide +kernel
theorem dX4_gentleman_43 : decode cX4_gentleman 43 = .ok (.bipush 10, 2) := by decide +kernel
theorem dX4_gentleman_45 : decode cX4_gentleman 45 = .ok (.idiv, 1) := by decide +kernel
theorem dX4_gentleman_46 : decode cX4_gentleman 46 = .ok (.iload_n 1, 1) := by decide +kernel
theorem dX4_gentleman_47 : decode cX4_gentleman 47 = .ok (.bipush 10, 2) := by decide +kernel
theorem dX4_gentleman_49 : decode cX4_gentleman 49 = .ok (.irem, 1) := by decide +kernel
theorem dX4_gentleman_50 : decode cX4_gentleman 50 = .ok (.iload_n 2, 1) := by decide +kernel
theorem dX4_gentleman_51 : decode cX4_gentleman 51 = .ok (.invokevirtual 110, 3) := by decide +kernel
theorem dX4_gentleman_54 : decode cX4_gentleman 54 = .ok (.ireturn, 1) := by decide +kernel
theorem dX4_put_0 : decode cX4_put 0 = .ok (.aload_n 0, 1) := by decide +kernel
theorem dX4_put_1 : decode cX4_put 1 = .ok (.getfield 58, 3) := by decide +kernel
theorem dX4_put_4 : decode cX4_put 4 = .ok (.iload_n 1, 1) := by decide +kernel
theorem dX4_put_5 : decode cX4_put 5 = .ok (.invokevirtual 100, 3) := by decide +kernel
theorem dX4_put_8 : decode cX4_put 8 = .ok (.ifCond .ne 6, 3) := by decide +kernel
theorem dX4_put_11 : decode cX4_put 11 = .ok (.bipush (-5), 2) := by decide +kernel
theorem dX4_put_13 : decode cX4_put 13 = .ok (.ireturn, 1) := by decide +kernel
theorem dX4_put_14 : decode cX4_put 14 = .ok (.iload_n 2, 1) := by decide +kernel
theorem dX4_put_15 : decode cX4_put 15 = .ok (.iconst 0, 1) := by decide +kernel
theorem dX4_put_16 : decode cX4_put 16 = .ok (.bipush 8, 2) := by decide +kernel
theorem dX4_put_18 : decode cX4_put 18 = .ok (.invokestatic 89, 3) := by decide +kernel
theorem dX4_put_21 : decode cX4_put 21 = .ok (.ifCond .eq 24, 3) := by decide +kernel
theorem dX4_put_24 : decode cX4_put 24 = .ok (.iload_n 3, 1) := by decide +kernel
theorem dX4_put_25 : decode cX4_put 25 = .ok (.iconst 0, 1) := by decide +kernel
theorem dX4_put_26 : decode cX4_put 26 = .ok (.iload_n 2, 1) := by decide +kernel
theorem dX4_put_27 : decode cX4_put 27 = .ok (.bipush 8, 2) := by decide +kernel
theorem dX4_put_29 : decode cX4_put 29 = .ok (.if_icmp .ne 8, 3) := by decide +kernel
theorem dX4_put_32 : decode cX4_put 32 = .ok (.bipush 99, 2) := by decide +kernel
theorem dX4_put_34 : decode cX4_put 34 = .ok (.goto 5, 3) := by decide +kernel
theorem dX4_put_37 : decode cX4_put 37 = .ok (.bipush 9, 2) := by decide +kernel
theorem dX4_put_39 : decode cX4_put 39 = .ok (.invokestatic 89, 3) := by decide +kernel
theorem dX4_put_42 : decode cX4_put 42 = .ok (.ifCond .ne 6, 3) := by decide +kernel
theorem dX4_put_45 : decode cX4_put 45 = .ok (.bipush (-7), 2) := by decide +kernel
theorem dX4_put_47 : decode cX4_put 47 = .ok (.ireturn, 1) := by decide +kernel
theorem dX4_put_48 : decode cX4_put 48 = .ok (.aload_n 0, 1) := by decide +kernel
theorem dX4_put_49 : decode cX4_put 49 = .ok (.getfield 58, 3) := by decide +kernel
theorem dX4_put_52 : decode cX4_put 52 = .ok (.iload_n 1, 1) := by decide +kernel
theorem dX4_put_53 : decode cX4_put 53 = .ok (.iload_n 2, 1) := by decide +kernel
theorem dX4_put_54 : decode cX4_put 54 = .ok (.iload_n 3, 1) := by decide +kernel
theorem dX4_put_55 : decode cX4_put 55 = .ok (.invokevirtual 113, 3) := by decide +kernel
theorem dX4_put_58 : decode cX4_put 58 = .ok (.ireturn, 1) := by decide +kernel
theorem dX4_told_0 : decode cX4_told 0 = .ok (.aload_n 0, 1) := by decide +kernel
theorem dX4_told_1 : decode cX4_told 1 = .ok (.getfield 58, 3) := by decide +kernel
theorem dX4_told_4 : decode cX4_told 4 = .ok (.iload_n 1, 1) := by decide +kernel
theorem dX4_told_5 : decode cX4_told 5 = .ok (.invokevirtual 100, 3) := by decide +kernel
theorem dX4_told_8 : decode cX4_told 8 = .ok (.ifCond .ne 6, 3) := by decide +kernel
theorem dX4_told_11 : decode cX4_told 11 = .ok (.bipush (-5), 2) := by decide +kernel
theorem dX4_told_13 : decode cX4_told 13 = .ok (.ireturn, 1) := by decide +kernel
theorem dX4_told_14 : decode cX4_told 14 = .ok (.iload_n 2, 1) := by decide +kernel
theorem dX4_told_15 : decode cX4_told 15 = .ok (.invokestatic 103, 3) := by decide +kernel
theorem dX4_told_18 : decode cX4_told 18 = .ok (.ifCond .eq 18, 3) := by decide +kernel
theorem dX4_told_21 : decode cX4_told 21 = .ok (.aload_n 0, 1) := by decide +kernel
theorem dX4_told_22 : decode cX4_told 22 = .ok (.getfield 58, 3) := by decide +kernel
theorem dX4_told_25 : decode cX4_told 25 = .ok (.getfield 116, 3) := by decide +kernel
theorem dX4_told_28 : decode cX4_told 28 = .ok (.iload_n 1, 1) := by decide +kernel
theorem dX4_told_29 : decode cX4_told 29 = .ok (.bipush 8, 2) := by decide +kernel
theorem dX4_told_31 : decode cX4_told 31 = .ok (.imul, 1) := by decide +kernel
theorem dX4_told_32 : decode cX4_told 32 = .ok (.iload_n 2, 1) := by decide +kernel
theorem dX4_told_33 : decode cX4_told 33 = .ok (.iadd, 1) := by decide +kernel
theorem dX4_told_34 : decode cX4_told 34 = .ok (.iaload, 1) := by decide +kernel
theorem dX4_told_35 : decode cX4_told 35 = .ok (.ireturn, 1) := by decide +kernel
theorem dX4_told_36 : decode cX4_told 36 = .ok (.iload_n 2, 1) := by decide +kernel
theorem dX4_told_37 : decode cX4_told 37 = .ok (.tableswitch 99 8 13 #[39, 49, 59, 69, 79, 89], 39) := by decide +kernel
theorem dX4_told_76 : decode cX4_told 76 = .ok (.aload_n 0, 1) := by decide +kernel
theorem dX4_told_77 : decode cX4_told 77 = .ok (.getfield 58, 3) := by decide +kernel
theorem dX4_told_80 : decode cX4_told 80 = .ok (.getfield 119, 3) := by decide +kernel
theorem dX4_told_83 : decode cX4_told 83 = .ok (.iload_n 1, 1) := by decide +kernel
theorem dX4_told_84 : decode cX4_told 84 = .ok (.iaload, 1) := by decide +kernel
theorem dX4_told_85 : decode cX4_told 85 = .ok (.ireturn, 1) := by decide +kernel
theorem dX4_told_86 : decode cX4_told 86 = .ok (.aload_n 0, 1) := by decide +kernel
theorem dX4_told_87 : decode cX4_told 87 = .ok (.getfield 58, 3) := by decide +kernel
theorem dX4_told_90 : decode cX4_told 90 = .ok (.getfield 122, 3) := by decide +kernel
theorem dX4_told_93 : decode cX4_told 93 = .ok (.iload_n 1, 1) := by decide +kernel
theorem dX4_told_94 : decode cX4_told 94 = .ok (.iaload, 1) := by decide +kernel
theorem dX4_told_95 : decode cX4_told 95 = .ok (.ireturn, 1) := by decide +kernel
theorem dX4_told_96 : decode cX4_told 96 = .ok (.aload_n 0, 1) := by decide +kernel
theorem dX4_told_97 : decode cX4_told 97 = .ok (.getfield 58, 3) := by decide +kernel
theorem dX4_told_100 : decode cX4_told 100 = .ok (.getfield 125, 3) := by decide +kernel
theorem dX4_told_103 : decode cX4_told 103 = .ok (.iload_n 1, 1) := by decide +kernel
theorem dX4_told_104 : decode cX4_told 104 = .ok (.iaload, 1) := by decide +kernel
theorem dX4_told_105 : decode cX4_told 105 = .ok (.ireturn, 1) := by decide +kernel
theorem dX4_told_106 : decode cX4_told 106 = .ok (.aload_n 0, 1) := by decide +kernel
theorem dX4_told_107 : decode cX4_told 107 = .ok (.getfield 58, 3) := by decide +kernel
theorem dX4_told_110 : decode cX4_told 110 = .ok (.getfield 128, 3) := by decide +kernel
theorem dX4_told_113 : decode cX4_told 113 = .ok (.iload_n 1, 1) := by decide +kernel
theorem dX4_told_114 : decode cX4_told 114 = .ok (.iaload, 1) := by decide +kernel
theorem dX4_told_115 : decode cX4_told 115 = .ok (.ireturn, 1) := by decide +kernel
theorem dX4_told_116 : decode cX4_told 116 = .ok (.aload_n 0, 1) := by decide +kernel
theorem dX4_told_117 : decode cX4_told 117 = .ok (.getfield 58, 3) := by decide +kernel
theorem dX4_told_120 : decode cX4_told 120 = .ok (.getfield 131, 3) := by decide +kernel
theorem dX4_told_123 : decode cX4_told 123 = .ok (.iload_n 1, 1) := by decide +kernel
theorem dX4_told_124 : decode cX4_told 124 = .ok (.iaload, 1) := by decide +kernel
theorem dX4_told_125 : decode cX4_told 125 = .ok (.ireturn, 1) := by decide +kernel
theorem dX4_told_126 : decode cX4_told 126 = .ok (.aload_n 0, 1) := by decide +kernel
theorem dX4_told_127 : decode cX4_told 127 = .ok (.getfield 58, 3) := by decide +kernel
theorem dX4_told_130 : decode cX4_told 130 = .ok (.getfield 134, 3) := by decide +kernel
theorem dX4_told_133 : decode cX4_told 133 = .ok (.iload_n 1, 1) := by decide +kernel
theorem dX4_told_134 : decode cX4_told 134 = .ok (.iaload, 1) := by decide +kernel
theorem dX4_told_135 : decode cX4_told 135 = .ok (.ireturn, 1) := by decide +kernel
theorem dX4_told_136 : decode cX4_told 136 = .ok (.bipush (-7), 2) := by decide +kernel
theorem dX4_told_138 : decode cX4_told 138 = .ok (.ireturn, 1) := by decide +kernel
theorem dX4_pinches_0 : decode cX4_pinches 0 = .ok (.aload_n 0, 1) := by decide +kernel
theorem dX4_pinches_1 : decode cX4_pinches 1 = .ok (.getfield 58, 3) := by decide +kernel
theorem dX4_pinches_4 : decode cX4_pinches 4 = .ok (.iload_n 1, 1) := by decide +kernel
theorem dX4_pinches_5 : decode cX4_pinches 5 = .ok (.invokevirtual 100, 3) := by decide +kernel
theorem dX4_pinches_8 : decode cX4_pinches 8 = .ok (.ifCond .eq 10, 3) := by decide +kernel
theorem dX4_pinches_11 : decode cX4_pinches 11 = .ok (.iload_n 2, 1) := by decide +kernel
theorem dX4_pinches_12 : decode cX4_pinches 12 = .ok (.invokestatic 103, 3) := by decide +kernel
theorem dX4_pinches_15 : decode cX4_pinches 15 = .ok (.ifCond .ne 7, 3) := by decide +kernel
theorem dX4_pinches_18 : decode cX4_pinches 18 = .ok (.sipush (-5000), 3) := by decide +kernel
theorem dX4_pinches_21 : decode cX4_pinches 21 = .ok (.ireturn, 1) := by decide +kernel
theorem dX4_pinches_22 : decode cX4_pinches 22 = .ok (.iload_n 3, 1) := by decide +kernel
theorem dX4_pinches_23 : decode cX4_pinches 23 = .ok (.tableswitch 55 0 2 #[25, 35, 45], 25) := by decide +kernel
theorem dX4_pinches_48 : decode cX4_pinches 48 = .ok (.aload_n 0, 1) := by decide +kernel
theorem dX4_pinches_49 : decode cX4_pinches 49 = .ok (.getfield 58, 3) := by decide +kernel
theorem dX4_pinches_52 : decode cX4_pinches 52 = .ok (.iload_n 1, 1) := by decide +kernel
theorem dX4_pinches_53 : decode cX4_pinches 53 = .ok (.iload_n 2, 1) := by decide +kernel
theorem dX4_pinches_54 : decode cX4_pinches 54 = .ok (.invokevirtual 137, 3) := by decide +kernel
theorem dX4_pinches_57 : decode cX4_pinches 57 = .ok (.ireturn, 1) := by decide +kernel
theorem dX4_pinches_58 : decode cX4_pinches 58 = .ok (.aload_n 0, 1) := by decide +kernel
theorem dX4_pinches_59 : decode cX4_pinches 59 = .ok (.getfield 58, 3) := by decide +kernel
theorem dX4_pinches_62 : decode cX4_pinches 62 = .ok (.iload_n 1, 1) := by decide +kernel
theorem dX4_pinches_63 : decode cX4_pinches 63 = .ok (.iload_n 2, 1) := by decide +kernel
theorem dX4_pinches_64 : decode cX4_pinches 64 = .ok (.invokevirtual 141, 3) := by decide +kernel
theorem dX4_pinches_67 : decode cX4_pinches 67 = .ok (.ireturn, 1) := by decide +kernel
theorem dX4_pinches_68 : decode cX4_pinches 68 = .ok (.aload_n 0, 1) := by decide +kernel
theorem dX4_pinches_69 : decode cX4_pinches 69 = .ok (.getfield 58, 3) := by decide +kernel
theorem dX4_pinches_72 : decode cX4_pinches 72 = .ok (.iload_n 1, 1) := by decide +kernel
theorem dX4_pinches_73 : decode cX4_pinches 73 = .ok (.iload_n 2, 1) := by decide +kernel
theorem dX4_pinches_74 : decode cX4_pinches 74 = .ok (.invokevirtual 144, 3) := by decide +kernel
theorem dX4_pinches_77 : decode cX4_pinches 77 = .ok (.ireturn, 1) := by decide +kernel
theorem dX4_pinches_78 : decode cX4_pinches 78 = .ok (.sipush (-7000), 3) := by decide +kernel
theorem dX4_pinches_81 : decode cX4_pinches 81 = .ok (.ireturn, 1) := by decide +kernel
theorem dX4_pinch_0 : decode cX4_pinch 0 = .ok (.aload_n 0, 1) := by decide +kernel
theorem dX4_pinch_1 : decode cX4_pinch 1 = .ok (.getfield 58, 3) := by decide +kernel
theorem dX4_pinch_4 : decode cX4_pinch 4 = .ok (.iload_n 1, 1) := by decide +kernel
theorem dX4_pinch_5 : decode cX4_pinch 5 = .ok (.invokevirtual 100, 3) := by decide +kernel
theorem dX4_pinch_8 : decode cX4_pinch 8 = .ok (.ifCond .ne 6, 3) := by decide +kernel
theorem dX4_pinch_11 : decode cX4_pinch 11 = .ok (.bipush (-5), 2) := by decide +kernel
theorem dX4_pinch_13 : decode cX4_pinch 13 = .ok (.ireturn, 1) := by decide +kernel
theorem dX4_pinch_14 : decode cX4_pinch 14 = .ok (.iload_n 2, 1) := by decide +kernel
theorem dX4_pinch_15 : decode cX4_pinch 15 = .ok (.invokestatic 103, 3) := by decide +kernel
theorem dX4_pinch_18 : decode cX4_pinch 18 = .ok (.ifCond .ne 6, 3) := by decide +kernel
theorem dX4_pinch_21 : decode cX4_pinch 21 = .ok (.bipush (-6), 2) := by decide +kernel
theorem dX4_pinch_23 : decode cX4_pinch 23 = .ok (.ireturn, 1) := by decide +kernel
theorem dX4_pinch_24 : decode cX4_pinch 24 = .ok (.aload_n 0, 1) := by decide +kernel
theorem dX4_pinch_25 : decode cX4_pinch 25 = .ok (.getfield 58, 3) := by decide +kernel
theorem dX4_pinch_28 : decode cX4_pinch 28 = .ok (.iload_n 1, 1) := by decide +kernel
theorem dX4_pinch_29 : decode cX4_pinch 29 = .ok (.iload_n 2, 1) := by decide +kernel
theorem dX4_pinch_30 : decode cX4_pinch 30 = .ok (.invokevirtual 147, 3) := by decide +kernel
theorem dX4_pinch_33 : decode cX4_pinch 33 = .ok (.ifCond .ne 6, 3) := by decide +kernel
theorem dX4_pinch_36 : decode cX4_pinch 36 = .ok (.bipush (-3), 2) := by decide +kernel
theorem dX4_pinch_38 : decode cX4_pinch 38 = .ok (.ireturn, 1) := by decide +kernel
theorem dX4_pinch_39 : decode cX4_pinch 39 = .ok (.aload_n 0, 1) := by decide +kernel
theorem dX4_pinch_40 : decode cX4_pinch 40 = .ok (.getfield 58, 3) := by decide +kernel
theorem dX4_pinch_43 : decode cX4_pinch 43 = .ok (.iload_n 1, 1) := by decide +kernel
theorem dX4_pinch_44 : decode cX4_pinch 44 = .ok (.iload_n 2, 1) := by decide +kernel
theorem dX4_pinch_45 : decode cX4_pinch 45 = .ok (.invokevirtual 151, 3) := by decide +kernel
theorem dX4_pinch_48 : decode cX4_pinch 48 = .ok (.aload_n 0, 1) := by decide +kernel
theorem dX4_pinch_49 : decode cX4_pinch 49 = .ok (.getfield 58, 3) := by decide +kernel
theorem dX4_pinch_52 : decode cX4_pinch 52 = .ok (.getfield 134, 3) := by decide +kernel
theorem dX4_pinch_55 : decode cX4_pinch 55 = .ok (.iload_n 1, 1) := by decide +kernel
theorem dX4_pinch_56 : decode cX4_pinch 56 = .ok (.iaload, 1) := by decide +kernel
theorem dX4_pinch_57 : decode cX4_pinch 57 = .ok (.ireturn, 1) := by decide +kernel
theorem dX4_give_0 : decode cX4_give 0 = .ok (.aload_n 0, 1) := by decide +kernel
theorem dX4_give_1 : decode cX4_give 1 = .ok (.getfield 58, 3) := by decide +kernel
theorem dX4_give_4 : decode cX4_give 4 = .ok (.iload_n 1, 1) := by decide +kernel
theorem dX4_give_5 : decode cX4_give 5 = .ok (.invokevirtual 100, 3) := by decide +kernel
theorem dX4_give_8 : decode cX4_give 8 = .ok (.ifCond .eq 19, 3) := by decide +kernel
theorem dX4_give_11 : decode cX4_give 11 = .ok (.aload_n 0, 1) := by decide +kernel
theorem dX4_give_12 : decode cX4_give 12 = .ok (.getfield 58, 3) := by decide +kernel
theorem dX4_give_15 : decode cX4_give 15 = .ok (.iload_n 2, 1) := by decide +kernel
theorem dX4_give_16 : decode cX4_give 16 = .ok (.invokevirtual 100, 3) := by decide +kernel
theorem dX4_give_19 : decode cX4_give 19 = .ok (.ifCond .eq 8, 3) := by decide +kernel
theorem dX4_give_22 : decode cX4_give 22 = .ok (.iload_n 1, 1) := by decide +kernel
theorem dX4_give_23 : decode cX4_give 23 = .ok (.iload_n 2, 1) := by decide +kernel
theorem dX4_give_24 : decode cX4_give 24 = .ok (.if_icmp .ne 6, 3) := by decide +kernel
theorem dX4_give_27 : decode cX4_give 27 = .ok (.bipush (-5), 2) := by decide +kernel
theorem dX4_give_29 : decode cX4_give 29 = .ok (.ireturn, 1) := by decide +kernel
theorem dX4_give_30 : decode cX4_give 30 = .ok (.iload_n 3, 1) := by decide +kernel
theorem dX4_give_31 : decode cX4_give 31 = .ok (.invokestatic 103, 3) := by decide +kernel
theorem dX4_give_34 : decode cX4_give 34 = .ok (.ifCond .ne 6, 3) := by decide +kernel
theorem dX4_give_37 : decode cX4_give 37 = .ok (.bipush (-6), 2) := by decide +kernel
theorem dX4_give_39 : decode cX4_give 39 = .ok (.ireturn, 1) := by decide +kernel
theorem dX4_give_40 : decode cX4_give 40 = .ok (.iload_n 1, 1) := by decide +kernel
theorem dX4_give_41 : decode cX4_give 41 = .ok (.bipush 8, 2) := by decide +kernel
theorem dX4_give_43 : decode cX4_give 43 = .ok (.imul, 1) := by decide +kernel
theorem dX4_give_44 : decode cX4_give 44 = .ok (.iload_n 3, 1) := by decide +kernel
theorem dX4_give_45 : decode cX4_give 45 = .ok (.iadd, 1) := by decide +kernel
theorem dX4_give_46 : decode cX4_give 46 = .ok (.istore 4, 2) := by decide +kernel
theorem dX4_give_48 : decode cX4_give 48 = .ok (.iload_n 2, 1) := by decide +kernel
theorem dX4_give_49 : decode cX4_give 49 = .ok (.bipush 8, 2) := by decide +kernel
theorem dX4_give_51 : decode cX4_give 51 = .ok (.imul, 1) := by decide +kernel
theorem dX4_give_52 : decode cX4_give 52 = .ok (.iload_n 3, 1) := by decide +kernel
theorem dX4_give_53 : decode cX4_give 53 = .ok (.iadd, 1) := by decide +kernel
theorem dX4_give_54 : decode cX4_give 54 = .ok (.istore 5, 2) := by decide +kernel
theorem dX4_give_56 : decode cX4_give 56 = .ok (.aload_n 0, 1) := by decide +kernel
theorem dX4_give_57 : decode cX4_give 57 = .ok (.getfield 58, 3) := by decide +kernel
theorem dX4_give_60 : decode cX4_give 60 = .ok (.getfield 116, 3) := by decide +kernel
theorem dX4_give_63 : decode cX4_give 63 = .ok (.iload 4, 2) := by decide +kernel
theorem dX4_give_65 : decode cX4_give 65 = .ok (.iaload, 1) := by decide +kernel
theorem dX4_give_66 : decode cX4_give 66 = .ok (.ifCond .le 18, 3) := by decide +kernel
theorem dX4_give_69 : decode cX4_give 69 = .ok (.aload_n 0, 1) := by decide +kernel
theorem dX4_give_70 : decode cX4_give 70 = .ok (.getfield 58, 3) := by decide +kernel
theorem dX4_give_73 : decode cX4_give 73 = .ok (.getfield 116, 3) := by decide +kernel
theorem dX4_give_76 : decode cX4_give 76 = .ok (.iload 5, 2) := by decide +kernel
theorem dX4_give_78 : decode cX4_give 78 = .ok (.iaload, 1) := by decide +kernel
theorem dX4_give_79 : decode cX4_give 79 = .ok (.bipush 9, 2) := by decide +kernel
theorem dX4_give_81 : decode cX4_give 81 = .ok (.if_icmp .lt 6, 3) := by decide +kernel
theorem dX4_give_84 : decode cX4_give 84 = .ok (.bipush (-3), 2) := by decide +kernel
theorem dX4_give_86 : decode cX4_give 86 = .ok (.ireturn, 1) := by decide +kernel
theorem dX4_give_87 : decode cX4_give 87 = .ok (.aload_n 0, 1) := by decide +kernel
theorem dX4_give_88 : decode cX4_give 88 = .ok (.getfield 58, 3) := by decide +kernel
theorem dX4_give_91 : decode cX4_give 91 = .ok (.getfield 116, 3) := by decide +kernel
theorem dX4_give_94 : decode cX4_give 94 = .ok (.iload 4, 2) := by decide +kernel
theorem dX4_give_96 : decode cX4_give 96 = .ok (.dup2, 1) := by decide +kernel
theorem dX4_give_97 : decode cX4_give 97 = .ok (.iaload, 1) := by decide +kernel
theorem dX4_give_98 : decode cX4_give 98 = .ok (.iconst 1, 1) := by decide +kernel
theorem dX4_give_99 : decode cX4_give 99 = .ok (.isub, 1) := by decide +kernel
theorem dX4_give_100 : decode cX4_give 100 = .ok (.iastore, 1) := by decide +kernel
theorem dX4_give_101 : decode cX4_give 101 = .ok (.aload_n 0, 1) := by decide +kernel
theorem dX4_give_102 : decode cX4_give 102 = .ok (.getfield 58, 3) := by decide +kernel
theorem dX4_give_105 : decode cX4_give 105 = .ok (.getfield 116, 3) := by decide +kernel
theorem dX4_give_108 : decode cX4_give 108 = .ok (.iload 5, 2) := by decide +kernel
theorem dX4_give_110 : decode cX4_give 110 = .ok (.dup2, 1) := by decide +kernel
theorem dX4_give_111 : decode cX4_give 111 = .ok (.iaload, 1) := by decide +kernel
theorem dX4_give_112 : decode cX4_give 112 = .ok (.iconst 1, 1) := by decide +kernel
theorem dX4_give_113 : decode cX4_give 113 = .ok (.iadd, 1) := by decide +kernel
theorem dX4_give_114 : decode cX4_give 114 = .ok (.iastore, 1) := by decide +kernel
theorem dX4_give_115 : decode cX4_give 115 = .ok (.aload_n 0, 1) := by decide +kernel
theorem dX4_give_116 : decode cX4_give 116 = .ok (.getfield 58, 3) := by decide +kernel
theorem dX4_give_119 : decode cX4_give 119 = .ok (.getfield 116, 3) := by decide +kernel
theorem dX4_give_122 : decode cX4_give 122 = .ok (.iload 5, 2) := by decide +kernel
theorem dX4_give_124 : decode cX4_give 124 = .ok (.iaload, 1) := by decide +kernel
theorem dX4_give_125 : decode cX4_give 125 = .ok (.ireturn, 1) := by decide +kernel
theorem dX4_minute_0 : decode cX4_minute 0 = .ok (.aload_n 0, 1) := by decide +kernel
theorem dX4_minute_1 : decode cX4_minute 1 = .ok (.getfield 58, 3) := by decide +kernel
theorem dX4_minute_4 : decode cX4_minute 4 = .ok (.getfield 80, 3) := by decide +kernel
theorem dX4_minute_7 : decode cX4_minute 7 = .ok (.sipush 999, 3) := by decide +kernel
theorem dX4_minute_10 : decode cX4_minute 10 = .ok (.if_icmp .lt 6, 3) := by decide +kernel
theorem dX4_minute_13 : decode cX4_minute 13 = .ok (.bipush (-3), 2) := by decide +kernel
theorem dX4_minute_15 : decode cX4_minute 15 = .ok (.ireturn, 1) := by decide +kernel
theorem dX4_minute_16 : decode cX4_minute 16 = .ok (.aload_n 0, 1) := by decide +kernel
theorem dX4_minute_17 : decode cX4_minute 17 = .ok (.getfield 58, 3) := by decide +kernel
theorem dX4_minute_20 : decode cX4_minute 20 = .ok (.invokevirtual 155, 3) := by decide +kernel
theorem dX4_minute_23 : decode cX4_minute 23 = .ok (.ireturn, 1) := by decide +kernel
theorem dX4_room_0 : decode cX4_room 0 = .ok (.iload_n 1, 1) := by decide +kernel
theorem dX4_room_1 : decode cX4_room 1 = .ok (.ifCond .ne 12, 3) := by decide +kernel
theorem dX4_room_4 : decode cX4_room 4 = .ok (.aload_n 0, 1) := by decide +kernel
theorem dX4_room_5 : decode cX4_room 5 = .ok (.getfield 58, 3) := by decide +kernel
theorem dX4_room_8 : decode cX4_room 8 = .ok (.iconst (-1), 1) := by decide +kernel
theorem dX4_room_9 : decode cX4_room 9 = .ok (.invokevirtual 158, 3) := by decide +kernel
theorem dX4_room_12 : decode cX4_room 12 = .ok (.ireturn, 1) := by decide +kernel
theorem dX4_room_13 : decode cX4_room 13 = .ok (.iload_n 1, 1) := by decide +kernel
theorem dX4_room_14 : decode cX4_room 14 = .ok (.iconst 1, 1) := by decide +kernel
theorem dX4_room_15 : decode cX4_room 15 = .ok (.bipush 8, 2) := by decide +kernel
theorem dX4_room_17 : decode cX4_room 17 = .ok (.invokestatic 89, 3) := by decide +kernel
theorem dX4_room_20 : decode cX4_room 20 = .ok (.ifCond .eq 14, 3) := by decide +kernel
theorem dX4_room_23 : decode cX4_room 23 = .ok (.aload_n 0, 1) := by decide +kernel
theorem dX4_room_24 : decode cX4_room 24 = .ok (.getfield 58, 3) := by decide +kernel
theorem dX4_room_27 : decode cX4_room 27 = .ok (.iload_n 1, 1) := by decide +kernel
theorem dX4_room_28 : decode cX4_room 28 = .ok (.iconst 1, 1) := by decide +kernel
theorem dX4_room_29 : decode cX4_room 29 = .ok (.isub, 1) := by decide +kernel
theorem dX4_room_30 : decode cX4_room 30 = .ok (.invokevirtual 158, 3) := by decide +kernel
theorem dX4_room_33 : decode cX4_room 33 = .ok (.ireturn, 1) := by decide +kernel
theorem dX4_room_34 : decode cX4_room 34 = .ok (.iload_n 1, 1) := by decide +kernel
theorem dX4_room_35 : decode cX4_room 35 = .ok (.bipush 9, 2) := by decide +kernel
theorem dX4_room_37 : decode cX4_room 37 = .ok (.if_icmp .ne 13, 3) := by decide +kernel
theorem dX4_room_40 : decode cX4_room 40 = .ok (.aload_n 0, 1) := by decide +kernel
theorem dX4_room_41 : decode cX4_room 41 = .ok (.getfield 58, 3) := by decide +kernel
theorem dX4_room_44 : decode cX4_room 44 = .ok (.invokevirtual 162, 3) := by decide +kernel
theorem dX4_room_47 : decode cX4_room 47 = .ok (.goto 5, 3) := by decide +kernel
theorem dX4_room_50 : decode cX4_room 50 = .ok (.bipush (-2), 2) := by decide +kernel
theorem dX4_room_52 : decode cX4_room 52 = .ok (.ireturn, 1) := by decide +kernel
theorem dX4_evening_0 : decode cX4_evening 0 = .ok (.aload_n 0, 1) := by decide +kernel
theorem dX4_evening_1 : decode cX4_evening 1 = .ok (.iload_n 1, 1) := by decide +kernel
theorem dX4_evening_2 : decode cX4_evening 2 = .ok (.invokevirtual 165, 3) := by decide +kernel
theorem dX4_evening_5 : decode cX4_evening 5 = .ok (.istore_n 3, 1) := by decide +kernel
theorem dX4_evening_6 : decode cX4_evening 6 = .ok (.iload_n 3, 1) := by decide +kernel
theorem dX4_evening_7 : decode cX4_evening 7 = .ok (.ifCond .eq 5, 3) := by decide +kernel
theorem dX4_evening_10 : decode cX4_evening 10 = .ok (.iload_n 3, 1) := by decide +kernel
theorem dX4_evening_11 : decode cX4_evening 11 = .ok (.ireturn, 1) := by decide +kernel
theorem dX4_evening_12 : decode cX4_evening 12 = .ok (.iload_n 2, 1) := by decide +kernel
theorem dX4_evening_13 : decode cX4_evening 13 = .ok (.bipush 10, 2) := by decide +kernel
theorem dX4_evening_15 : decode cX4_evening 15 = .ok (.bipush 9, 2) := by decide +kernel
theorem dX4_evening_17 : decode cX4_evening 17 = .ok (.aload_n 0, 1) := by decide +kernel
theorem dX4_evening_18 : decode cX4_evening 18 = .ok (.getfield 58, 3) := by decide +kernel
theorem dX4_evening_21 : decode cX4_evening 21 = .ok (.getfield 79, 3) := by decide +kernel
theorem dX4_evening_24 : decode cX4_evening 24 = .ok (.iadd, 1) := by decide +kernel
theorem dX4_evening_25 : decode cX4_evening 25 = .ok (.invokestatic 89, 3) := by decide +kernel
theorem dX4_evening_28 : decode cX4_evening 28 = .ok (.istore 4, 2) := by decide +kernel
theorem dX4_evening_30 : decode cX4_evening 30 = .ok (.iload_n 2, 1) := by decide +kernel
theorem dX4_evening_31 : decode cX4_evening 31 = .ok (.bipush 20, 2) := by decide +kernel
theorem dX4_evening_33 : decode cX4_evening 33 = .ok (.bipush 19, 2) := by decide +kernel
theorem dX4_evening_35 : decode cX4_evening 35 = .ok (.aload_n 0, 1) := by decide +kernel
theorem dX4_evening_36 : decode cX4_evening 36 = .ok (.getfield 58, 3) := by decide +kernel
theorem dX4_evening_39 : decode cX4_evening 39 = .ok (.getfield 79, 3) := by decide +kernel
theorem dX4_evening_42 : decode cX4_evening 42 = .ok (.iadd, 1) := by decide +kernel
theorem dX4_evening_43 : decode cX4_evening 43 = .ok (.invokestatic 89, 3) := by decide +kernel
theorem dX4_evening_46 : decode cX4_evening 46 = .ok (.istore 5, 2) := by decide +kernel
theorem dX4_evening_48 : decode cX4_evening 48 = .ok (.iload_n 2, 1) := by decide +kernel
theorem dX4_evening_49 : decode cX4_evening 49 = .ok (.iconst 0, 1) := by decide +kernel
theorem dX4_evening_50 : decode cX4_evening 50 = .ok (.iconst 3, 1) := by decide +kernel
theorem dX4_evening_51 : decode cX4_evening 51 = .ok (.invokestatic 89, 3) := by decide +kernel
theorem dX4_evening_54 : decode cX4_evening 54 = .ok (.ifCond .ne 16, 3) := by decide +kernel
theorem dX4_evening_57 : decode cX4_evening 57 = .ok (.iload 4, 2) := by decide +kernel
theorem dX4_evening_59 : decode cX4_evening 59 = .ok (.ifCond .ne 11, 3) := by decide +kernel
theorem dX4_evening_62 : decode cX4_evening 62 = .ok (.iload 5, 2) := by decide +kernel
theorem dX4_evening_64 : decode cX4_evening 64 = .ok (.ifCond .ne 6, 3) := by decide +kernel
theorem dX4_evening_67 : decode cX4_evening 67 = .ok (.bipush (-7), 2) := by decide +kernel
theorem dX4_evening_69 : decode cX4_evening 69 = .ok (.ireturn, 1) := by decide +kernel
theorem dX4_evening_70 : decode cX4_evening 70 = .ok (.aload_n 0, 1) := by decide +kernel
theorem dX4_evening_71 : decode cX4_evening 71 = .ok (.getfield 71, 3) := by decide +kernel
theorem dX4_evening_74 : decode cX4_evening 74 = .ok (.iload_n 1, 1) := by decide +kernel
theorem dX4_evening_75 : decode cX4_evening 75 = .ok (.aaload, 1) := by decide +kernel
theorem dX4_evening_76 : decode cX4_evening 76 = .ok (.astore 6, 2) := by decide +kernel
theorem dX4_evening_78 : decode cX4_evening 78 = .ok (.aload_n 0, 1) := by decide +kernel
theorem dX4_evening_79 : decode cX4_evening 79 = .ok (.getfield 62, 3) := by decide +kernel
theorem dX4_evening_82 : decode cX4_evening 82 = .ok (.aload_n 0, 1) := by decide +kernel
theorem dX4_evening_83 : decode cX4_evening 83 = .ok (.getfield 58, 3) := by decide +kernel
theorem dX4_evening_86 : decode cX4_evening 86 = .ok (.invokevirtual 168, 3) := by decide +kernel
theorem dX4_evening_89 : decode cX4_evening 89 = .ok (.iconst 0, 1) := by decide +kernel
theorem dX4_evening_90 : decode cX4_evening 90 = .ok (.istore 7, 2) := by decide +kernel
theorem dX4_evening_92 : decode cX4_evening 92 = .ok (.iconst 0, 1) := by decide +kernel
theorem dX4_evening_93 : decode cX4_evening 93 = .ok (.istore 8, 2) := by decide +kernel
theorem dX4_evening_95 : decode cX4_evening 95 = .ok (.iconst 0, 1) := by decide +kernel
theorem dX4_evening_96 : decode cX4_evening 96 = .ok (.istore 9, 2) := by decide +kernel
theorem dX4_evening_98 : decode cX4_evening 98 = .ok (.iconst (-1), 1) := by decide +kernel
theorem dX4_evening_99 : decode cX4_evening 99 = .ok (.istore 10, 2) := by decide +kernel
theorem dX4_evening_101 : decode cX4_evening 101 = .ok (.iconst 0, 1) := by decide +kernel
theorem dX4_evening_102 : decode cX4_evening 102 = .ok (.istore 11, 2) := by decide +kernel
theorem dX4_evening_104 : decode cX4_evening 104 = .ok (.iload 11, 2) := by decide +kernel
theorem dX4_evening_106 : decode cX4_evening 106 = .ok (.aload 6, 2) := by decide +kernel
theorem dX4_evening_108 : decode cX4_evening 108 = .ok (.getfield 172, 3) := by decide +kernel
theorem dX4_evening_111 : decode cX4_evening 111 = .ok (.if_icmp .ge 95, 3) := by decide +kernel
theorem dX4_evening_114 : decode cX4_evening 114 = .ok (.aload_n 0, 1) := by decide +kernel
theorem dX4_evening_115 : decode cX4_evening 115 = .ok (.getfield 62, 3) := by decide +kernel
theorem dX4_evening_118 : decode cX4_evening 118 = .ok (.aload 6, 2) := by decide +kernel
theorem dX4_evening_120 : decode cX4_evening 120 = .ok (.getfield 173, 3) := by decide +kernel
theorem dX4_evening_123 : decode cX4_evening 123 = .ok (.iload 11, 2) := by decide +kernel
theorem dX4_evening_125 : decode cX4_evening 125 = .ok (.iaload, 1) := by decide +kernel
theorem dX4_evening_126 : decode cX4_evening 126 = .ok (.invokevirtual 176, 3) := by decide +kernel
theorem dX4_evening_129 : decode cX4_evening 129 = .ok (.ifCond .eq 9, 3) := by decide +kernel
theorem dX4_evening_132 : decode cX4_evening 132 = .ok (.iinc 7 1, 3) := by decide +kernel
theorem dX4_evening_135 : decode cX4_evening 135 = .ok (.goto 24, 3) := by decide +kernel
theorem dX4_evening_138 : decode cX4_evening 138 = .ok (.aload 6, 2) := by decide +kernel
theorem dX4_evening_140 : decode cX4_evening 140 = .ok (.getfield 173, 3) := by decide +kernel
theorem dX4_evening_143 : decode cX4_evening 143 = .ok (.iload 11, 2) := by decide +kernel
theorem dX4_evening_145 : decode cX4_evening 145 = .ok (.iaload, 1) := by decide +kernel
theorem dX4_evening_146 : decode cX4_evening 146 = .ok (.iconst (-1), 1) := by decide +kernel
theorem dX4_evening_147 : decode cX4_evening 147 = .ok (.if_icmp .eq 12, 3) := by decide +kernel
theorem dX4_evening_150 : decode cX4_evening 150 = .ok (.iload 10, 2) := by decide +kernel
theorem dX4_evening_152 : decode cX4_evening 152 = .ok (.ifCond .ge 7, 3) := by decide +kernel
theorem dX4_evening_155 : decode cX4_evening 155 = .ok (.iload 11, 2) := by decide +kernel
theorem dX4_evening_157 : decode cX4_evening 157 = .ok (.istore 10, 2) := by decide +kernel
theorem dX4_evening_159 : decode cX4_evening 159 = .ok (.aload_n 0, 1) := by decide +kernel
theorem dX4_evening_160 : decode cX4_evening 160 = .ok (.getfield 62, 3) := by decide +kernel
theorem dX4_evening_163 : decode cX4_evening 163 = .ok (.getfield 79, 3) := by decide +kernel
theorem dX4_evening_166 : decode cX4_evening 166 = .ok (.aload_n 0, 1) := by decide +kernel
theorem dX4_evening_167 : decode cX4_evening 167 = .ok (.getfield 62, 3) := by decide +kernel
theorem dX4_evening_170 : decode cX4_evening 170 = .ok (.invokevirtual 83, 3) := by decide +kernel
theorem dX4_evening_173 : decode cX4_evening 173 = .ok (.isub, 1) := by decide +kernel
theorem dX4_evening_174 : decode cX4_evening 174 = .ok (.istore 12, 2) := by decide +kernel
theorem dX4_evening_176 : decode cX4_evening 176 = .ok (.iload 8, 2) := by decide +kernel
theorem dX4_evening_178 : decode cX4_evening 178 = .ok (.iload 12, 2) := by decide +kernel
theorem dX4_evening_180 : decode cX4_evening 180 = .ok (.invokestatic 179, 3) := by decide +kernel
theorem dX4_evening_183 : decode cX4_evening 183 = .ok (.istore 8, 2) := by decide +kernel
theorem dX4_evening_185 : decode cX4_evening 185 = .ok (.iload 9, 2) := by decide +kernel
theorem dX4_evening_187 : decode cX4_evening 187 = .ok (.iload 12, 2) := by decide +kernel
theorem dX4_evening_189 : decode cX4_evening 189 = .ok (.iadd, 1) := by decide +kernel
theorem dX4_evening_190 : decode cX4_evening 190 = .ok (.istore 9, 2) := by decide +kernel
theorem dX4_evening_192 : decode cX4_evening 192 = .ok (.aload_n 0, 1) := by decide +kernel
theorem dX4_evening_193 : decode cX4_evening 193 = .ok (.getfield 62, 3) := by decide +kernel
theorem dX4_evening_196 : decode cX4_evening 196 = .ok (.invokevirtual 155, 3) := by decide +kernel
theorem dX4_evening_199 : decode cX4_evening 199 = .ok (.pop, 1) := by decide +kernel
theorem dX4_evening_200 : decode cX4_evening 200 = .ok (.iinc 11 1, 3) := by decide +kernel
theorem dX4_evening_203 : decode cX4_evening 203 = .ok (.goto (-99), 3) := by decide +kernel
theorem dX4_evening_206 : decode cX4_evening 206 = .ok (.iload 4, 2) := by decide +kernel
theorem dX4_evening_208 : decode cX4_evening 208 = .ok (.ifCond .eq 16, 3) := by decide +kernel
theorem dX4_evening_211 : decode cX4_evening 211 = .ok (.aload_n 0, 1) := by decide +kernel
theorem dX4_evening_212 : decode cX4_evening 212 = .ok (.getfield 62, 3) := by decide +kernel
theorem dX4_evening_215 : decode cX4_evening 215 = .ok (.getfield 119, 3) := by decide +kernel
theorem dX4_evening_218 : decode cX4_evening 218 = .ok (.iload_n 2, 1) := by decide +kernel
theorem dX4_evening_219 : decode cX4_evening 219 = .ok (.bipush 10, 2) := by decide +kernel
theorem dX4_evening_221 : decode cX4_evening 221 = .ok (.isub, 1) := by decide +kernel
theorem dX4_evening_222 : decode cX4_evening 222 = .ok (.iaload, 1) := by decide +kernel
theorem dX4_evening_223 : decode cX4_evening 223 = .ok (.ireturn, 1) := by decide +kernel
theorem dX4_evening_224 : decode cX4_evening 224 = .ok (.iload 5, 2) := by decide +kernel
theorem dX4_evening_226 : decode cX4_evening 226 = .ok (.ifCond .eq 16, 3) := by decide +kernel
theorem dX4_evening_229 : decode cX4_evening 229 = .ok (.aload_n 0, 1) := by decide +kernel
theorem dX4_evening_230 : decode cX4_evening 230 = .ok (.getfield 62, 3) := by decide +kernel
theorem dX4_evening_233 : decode cX4_evening 233 = .ok (.getfield 128, 3) := by decide +kernel
theorem dX4_evening_236 : decode cX4_evening 236 = .ok (.iload_n 2, 1) := by decide +kernel
theorem dX4_evening_237 : decode cX4_evening 237 = .ok (.bipush 20, 2) := by decide +kernel
theorem dX4_evening_239 : decode cX4_evening 239 = .ok (.isub, 1) := by decide +kernel
theorem dX4_evening_240 : decode cX4_evening 240 = .ok (.iaload, 1) := by decide +kernel
theorem dX4_evening_241 : decode cX4_evening 241 = .ok (.ireturn, 1) := by decide +kernel
theorem dX4_evening_242 : decode cX4_evening 242 = .ok (.iload_n 2, 1) := by decide +kernel
theorem dX4_evening_243 : decode cX4_evening 243 = .ok (.ifCond .ne 8, 3) := by decide +kernel
theorem dX4_evening_246 : decode cX4_evening 246 = .ok (.iload 7, 2) := by decide +kernel
theorem dX4_evening_248 : decode cX4_evening 248 = .ok (.goto 25, 3) := by decide +kernel
theorem dX4_evening_251 : decode cX4_evening 251 = .ok (.iload_n 2, 1) := by decide +kernel
theorem dX4_evening_252 : decode cX4_evening 252 = .ok (.iconst 1, 1) := by decide +kernel
theorem dX4_evening_253 : decode cX4_evening 253 = .ok (.if_icmp .ne 8, 3) := by decide +kernel
theorem dX4_evening_256 : decode cX4_evening 256 = .ok (.iload 8, 2) := by decide +kernel
theorem dX4_evening_258 : decode cX4_evening 258 = .ok (.goto 15, 3) := by decide +kernel
theorem dX4_evening_261 : decode cX4_evening 261 = .ok (.iload_n 2, 1) := by decide +kernel
theorem dX4_evening_262 : decode cX4_evening 262 = .ok (.iconst 2, 1) := by decide +kernel
theorem dX4_evening_263 : decode cX4_evening 263 = .ok (.if_icmp .ne 8, 3) := by decide +kernel
theorem dX4_evening_266 : decode cX4_evening 266 = .ok (.iload 9, 2) := by decide +kernel
theorem dX4_evening_268 : decode cX4_evening 268 = .ok (.goto 5, 3) := by decide +kernel
theorem dX4_evening_271 : decode cX4_evening 271 = .ok (.iload 10, 2) := by decide +kernel
theorem dX4_evening_273 : decode cX4_evening 273 = .ok (.ireturn, 1) := by decide +kernel
theorem dX4_spend_0 : decode cX4_spend 0 = .ok (.aload_n 0, 1) := by decide +kernel
theorem dX4_spend_1 : decode cX4_spend 1 = .ok (.iload_n 1, 1) := by decide +kernel
theorem dX4_spend_2 : decode cX4_spend 2 = .ok (.invokevirtual 165, 3) := by decide +kernel
theorem dX4_spend_5 : decode cX4_spend 5 = .ok (.istore_n 2, 1) := by decide +kernel
theorem dX4_spend_6 : decode cX4_spend 6 = .ok (.iload_n 2, 1) := by decide +kernel
theorem dX4_spend_7 : decode cX4_spend 7 = .ok (.ifCond .eq 5, 3) := by decide +kernel
theorem dX4_spend_10 : decode cX4_spend 10 = .ok (.iload_n 2, 1) := by decide +kernel
theorem dX4_spend_11 : decode cX4_spend 11 = .ok (.ireturn, 1) := by decide +kernel
theorem dX4_spend_12 : decode cX4_spend 12 = .ok (.aload_n 0, 1) := by decide +kernel
theorem dX4_spend_13 : decode cX4_spend 13 = .ok (.getfield 71, 3) := by decide +kernel
theorem dX4_spend_16 : decode cX4_spend 16 = .ok (.iload_n 1, 1) := by decide +kernel
theorem dX4_spend_17 : decode cX4_spend 17 = .ok (.aaload, 1) := by decide +kernel
theorem dX4_spend_18 : decode cX4_spend 18 = .ok (.astore_n 3, 1) := by decide +kernel
theorem dX4_spend_19 : decode cX4_spend 19 = .ok (.aload_n 0, 1) := by decide +kernel
theorem dX4_spend_20 : decode cX4_spend 20 = .ok (.getfield 58, 3) := by decide +kernel
theorem dX4_spend_23 : decode cX4_spend 23 = .ok (.getfield 80, 3) := by decide +kernel
theorem dX4_spend_26 : decode cX4_spend 26 = .ok (.aload_n 3, 1) := by decide +kernel
theorem dX4_spend_27 : decode cX4_spend 27 = .ok (.getfield 172, 3) := by decide +kernel
theorem dX4_spend_30 : decode cX4_spend 30 = .ok (.iadd, 1) := by decide +kernel
theorem dX4_spend_31 : decode cX4_spend 31 = .ok (.sipush 999, 3) := by decide +kernel
theorem dX4_spend_34 : decode cX4_spend 34 = .ok (.if_icmp .le 6, 3) := by decide +kernel
theorem dX4_spend_37 : decode cX4_spend 37 = .ok (.bipush (-3), 2) := by decide +kernel
theorem dX4_spend_39 : decode cX4_spend 39 = .ok (.ireturn, 1) := by decide +kernel
theorem dX4_spend_40 : decode cX4_spend 40 = .ok (.iconst 0, 1) := by decide +kernel
theorem dX4_spend_41 : decode cX4_spend 41 = .ok (.istore 4, 2) := by decide +kernel
theorem dX4_spend_43 : decode cX4_spend 43 = .ok (.iconst 0, 1) := by decide +kernel
theorem dX4_spend_44 : decode cX4_spend 44 = .ok (.istore 5, 2) := by decide +kernel
theorem dX4_spend_46 : decode cX4_spend 46 = .ok (.iload 5, 2) := by decide +kernel
theorem dX4_spend_48 : decode cX4_spend 48 = .ok (.aload_n 3, 1) := by decide +kernel
theorem dX4_spend_49 : decode cX4_spend 49 = .ok (.getfield 172, 3) := by decide +kernel
theorem dX4_spend_52 : decode cX4_spend 52 = .ok (.if_icmp .ge 37, 3) := by decide +kernel
theorem dX4_spend_55 : decode cX4_spend 55 = .ok (.aload_n 0, 1) := by decide +kernel
theorem dX4_spend_56 : decode cX4_spend 56 = .ok (.getfield 58, 3) := by decide +kernel
theorem dX4_spend_59 : decode cX4_spend 59 = .ok (.aload_n 3, 1) := by decide +kernel
theorem dX4_spend_60 : decode cX4_spend 60 = .ok (.getfield 173, 3) := by decide +kernel
theorem dX4_spend_63 : decode cX4_spend 63 = .ok (.iload 5, 2) := by decide +kernel
theorem dX4_spend_65 : decode cX4_spend 65 = .ok (.iaload, 1) := by decide +kernel
theorem dX4_spend_66 : decode cX4_spend 66 = .ok (.invokevirtual 176, 3) := by decide +kernel
theorem dX4_spend_69 : decode cX4_spend 69 = .ok (.ifCond .eq 6, 3) := by decide +kernel
theorem dX4_spend_72 : decode cX4_spend 72 = .ok (.iinc 4 1, 3) := by decide +kernel
theorem dX4_spend_75 : decode cX4_spend 75 = .ok (.aload_n 0, 1) := by decide +kernel
theorem dX4_spend_76 : decode cX4_spend 76 = .ok (.getfield 58, 3) := by decide +kernel
theorem dX4_spend_79 : decode cX4_spend 79 = .ok (.invokevirtual 155, 3) := by decide +kernel
theorem dX4_spend_82 : decode cX4_spend 82 = .ok (.pop, 1) := by decide +kernel
theorem dX4_spend_83 : decode cX4_spend 83 = .ok (.iinc 5 1, 3) := by decide +kernel
theorem dX4_spend_86 : decode cX4_spend 86 = .ok (.goto (-40), 3) := by decide +kernel
theorem dX4_spend_89 : decode cX4_spend 89 = .ok (.iload 4, 2) := by decide +kernel
theorem dX4_spend_91 : decode cX4_spend 91 = .ok (.ireturn, 1) := by decide +kernel
theorem dX4_plan_0 : decode cX4_plan 0 = .ok (.aload_n 0, 1) := by decide +kernel
theorem dX4_plan_1 : decode cX4_plan 1 = .ok (.getfield 58, 3) := by decide +kernel
theorem dX4_plan_4 : decode cX4_plan 4 = .ok (.iload_n 1, 1) := by decide +kernel
theorem dX4_plan_5 : decode cX4_plan 5 = .ok (.invokevirtual 100, 3) := by decide +kernel
theorem dX4_plan_8 : decode cX4_plan 8 = .ok (.ifCond .ne 6, 3) := by decide +kernel
theorem dX4_plan_11 : decode cX4_plan 11 = .ok (.bipush (-5), 2) := by decide +kernel
theorem dX4_plan_13 : decode cX4_plan 13 = .ok (.ireturn, 1) := by decide +kernel
theorem dX4_plan_14 : decode cX4_plan 14 = .ok (.iload_n 2, 1) := by decide +kernel
theorem dX4_plan_15 : decode cX4_plan 15 = .ok (.iconst 0, 1) := by decide +kernel
theorem dX4_plan_16 : decode cX4_plan 16 = .ok (.bipush 60, 2) := by decide +kernel
theorem dX4_plan_18 : decode cX4_plan 18 = .ok (.invokestatic 89, 3) := by decide +kernel
theorem dX4_plan_21 : decode cX4_plan 21 = .ok (.ifCond .eq 12, 3) := by decide +kernel
theorem dX4_plan_24 : decode cX4_plan 24 = .ok (.iload_n 3, 1) := by decide +kernel
theorem dX4_plan_25 : decode cX4_plan 25 = .ok (.iconst 0, 1) := by decide +kernel
theorem dX4_plan_26 : decode cX4_plan 26 = .ok (.iconst 1, 1) := by decide +kernel
theorem dX4_plan_27 : decode cX4_plan 27 = .ok (.invokestatic 89, 3) := by decide +kernel
theorem dX4_plan_30 : decode cX4_plan 30 = .ok (.ifCond .ne 6, 3) := by decide +kernel
theorem dX4_plan_33 : decode cX4_plan 33 = .ok (.bipush (-7), 2) := by decide +kernel
theorem dX4_plan_35 : decode cX4_plan 35 = .ok (.ireturn, 1) := by decide +kernel
theorem dX4_plan_36 : decode cX4_plan 36 = .ok (.aload_n 0, 1) := by decide +kernel
theorem dX4_plan_37 : decode cX4_plan 37 = .ok (.iload_n 1, 1) := by decide +kernel
theorem dX4_plan_38 : decode cX4_plan 38 = .ok (.iload_n 2, 1) := by decide +kernel
theorem dX4_plan_39 : decode cX4_plan 39 = .ok (.invokevirtual 184, 3) := by decide +kernel
theorem dX4_plan_42 : decode cX4_plan 42 = .ok (.iload_n 3, 1) := by decide +kernel
theorem dX4_plan_43 : decode cX4_plan 43 = .ok (.ifCond .ne 10, 3) := by decide +kernel
theorem dX4_plan_46 : decode cX4_plan 46 = .ok (.aload_n 0, 1) := by decide +kernel
theorem dX4_plan_47 : decode cX4_plan 47 = .ok (.getfield 75, 3) := by decide +kernel
theorem dX4_plan_50 : decode cX4_plan 50 = .ok (.iload_n 2, 1) := by decide +kernel
theorem dX4_plan_51 : decode cX4_plan 51 = .ok (.iaload, 1) := by decide +kernel
theorem dX4_plan_52 : decode cX4_plan 52 = .ok (.ireturn, 1) := by decide +kernel
theorem dX4_plan_53 : decode cX4_plan 53 = .ok (.iconst 0, 1) := by decide +kernel
theorem dX4_plan_54 : decode cX4_plan 54 = .ok (.istore 4, 2) := by decide +kernel
theorem dX4_plan_56 : decode cX4_plan 56 = .ok (.iload 4, 2) := by decide +kernel
theorem dX4_plan_58 : decode cX4_plan 58 = .ok (.iload_n 2, 1) := by decide +kernel
theorem dX4_plan_59 : decode cX4_plan 59 = .ok (.if_icmp .ge 25, 3) := by decide +kernel
theorem dX4_plan_62 : decode cX4_plan 62 = .ok (.aload_n 0, 1) := by decide +kernel
theorem dX4_plan_63 : decode cX4_plan 63 = .ok (.getfield 75, 3) := by decide +kernel
theorem dX4_plan_66 : decode cX4_plan 66 = .ok (.iload 4, 2) := by decide +kernel
theorem dX4_plan_68 : decode cX4_plan 68 = .ok (.iaload, 1) := by decide +kernel
theorem dX4_plan_69 : decode cX4_plan 69 = .ok (.aload_n 0, 1) := by decide +kernel
theorem dX4_plan_70 : decode cX4_plan 70 = .ok (.getfield 75, 3) := by decide +kernel
theorem dX4_plan_73 : decode cX4_plan 73 = .ok (.iload_n 2, 1) := by decide +kernel
theorem dX4_plan_74 : decode cX4_plan 74 = .ok (.iaload, 1) := by decide +kernel
theorem dX4_plan_75 : decode cX4_plan 75 = .ok (.if_icmp .eq 9, 3) := by decide +kernel
theorem dX4_plan_78 : decode cX4_plan 78 = .ok (.iinc 4 1, 3) := by decide +kernel
theorem dX4_plan_81 : decode cX4_plan 81 = .ok (.goto (-25), 3) := by decide +kernel
theorem dX4_plan_84 : decode cX4_plan 84 = .ok (.iload 4, 2) := by decide +kernel
theorem dX4_plan_86 : decode cX4_plan 86 = .ok (.ireturn, 1) := by decide +kernel
theorem dX4_fillBest_0 : decode cX4_fillBest 0 = .ok (.iconst 0, 1) := by decide +kernel
theorem dX4_fillBest_1 : decode cX4_fillBest 1 = .ok (.istore_n 3, 1) := by decide +kernel
theorem dX4_fillBest_2 : decode cX4_fillBest 2 = .ok (.iload_n 3, 1) := by decide +kernel
theorem dX4_fillBest_3 : decode cX4_fillBest 3 = .ok (.iload_n 2, 1) := by decide +kernel
theorem dX4_fillBest_4 : decode cX4_fillBest 4 = .ok (.if_icmp .gt 16, 3) := by decide +kernel
theorem dX4_fillBest_7 : decode cX4_fillBest 7 = .ok (.aload_n 0, 1) := by decide +kernel
theorem dX4_fillBest_8 : decode cX4_fillBest 8 = .ok (.getfield 75, 3) := by decide +kernel
theorem dX4_fillBest_11 : decode cX4_fillBest 11 = .ok (.iload_n 3, 1) := by decide +kernel
theorem dX4_fillBest_12 : decode cX4_fillBest 12 = .ok (.iconst 0, 1) := by decide +kernel
theorem dX4_fillBest_13 : decode cX4_fillBest 13 = .ok (.iastore, 1) := by decide +kernel
theorem dX4_fillBest_14 : decode cX4_fillBest 14 = .ok (.iinc 3 1, 3) := by decide +kernel
theorem dX4_fillBest_17 : decode cX4_fillBest 17 = .ok (.goto (-15), 3) := by decide +kernel
theorem dX4_fillBest_20 : decode cX4_fillBest 20 = .ok (.iconst 0, 1) := by decide +kernel
theorem dX4_fillBest_21 : decode cX4_fillBest 21 = .ok (.istore_n 3, 1) := by decide +kernel
theorem dX4_fillBest_22 : decode cX4_fillBest 22 = .ok (.iload_n 3, 1) := by decide +kernel
theorem dX4_fillBest_23 : decode cX4_fillBest 23 = .ok (.bipush 8, 2) := by decide +kernel
theorem dX4_fillBest_25 : decode cX4_fillBest 25 = .ok (.if_icmp .ge 104, 3) := by decide +kernel
theorem dX4_fillBest_28 : decode cX4_fillBest 28 = .ok (.aload_n 0, 1) := by decide +kernel
theorem dX4_fillBest_29 : decode cX4_fillBest 29 = .ok (.getfield 58, 3) := by decide +kernel
theorem dX4_fillBest_32 : decode cX4_fillBest 32 = .ok (.iload_n 1, 1) := by decide +kernel
theorem dX4_fillBest_33 : decode cX4_fillBest 33 = .ok (.iload_n 3, 1) := by decide +kernel
theorem dX4_fillBest_34 : decode cX4_fillBest 34 = .ok (.invokevirtual 137, 3) := by decide +kernel
theorem dX4_fillBest_37 : decode cX4_fillBest 37 = .ok (.istore 4, 2) := by decide +kernel
theorem dX4_fillBest_39 : decode cX4_fillBest 39 = .ok (.aload_n 0, 1) := by decide +kernel
theorem dX4_fillBest_40 : decode cX4_fillBest 40 = .ok (.getfield 58, 3) := by decide +kernel
theorem dX4_fillBest_43 : decode cX4_fillBest 43 = .ok (.iload_n 1, 1) := by decide +kernel
theorem dX4_fillBest_44 : decode cX4_fillBest 44 = .ok (.iload_n 3, 1) := by decide +kernel
theorem dX4_fillBest_45 : decode cX4_fillBest 45 = .ok (.invokevirtual 141, 3) := by decide +kernel
theorem dX4_fillBest_48 : decode cX4_fillBest 48 = .ok (.istore 5, 2) := by decide +kernel
theorem dX4_fillBest_50 : decode cX4_fillBest 50 = .ok (.aload_n 0, 1) := by decide +kernel
theorem dX4_fillBest_51 : decode cX4_fillBest 51 = .ok (.getfield 58, 3) := by decide +kernel
theorem dX4_fillBest_54 : decode cX4_fillBest 54 = .ok (.getfield 116, 3) := by decide +kernel
theorem dX4_fillBest_57 : decode cX4_fillBest 57 = .ok (.iload_n 1, 1) := by decide +kernel
theorem dX4_fillBest_58 : decode cX4_fillBest 58 = .ok (.bipush 8, 2) := by decide +kernel
theorem dX4_fillBest_60 : decode cX4_fillBest 60 = .ok (.imul, 1) := by decide +kernel
theorem dX4_fillBest_61 : decode cX4_fillBest 61 = .ok (.iload_n 3, 1) := by decide +kernel
theorem dX4_fillBest_62 : decode cX4_fillBest 62 = .ok (.iadd, 1) := by decide +kernel
theorem dX4_fillBest_63 : decode cX4_fillBest 63 = .ok (.iaload, 1) := by decide +kernel
theorem dX4_fillBest_64 : decode cX4_fillBest 64 = .ok (.istore 6, 2) := by decide +kernel
theorem dX4_fillBest_66 : decode cX4_fillBest 66 = .ok (.iload 6, 2) := by decide +kernel
theorem dX4_fillBest_68 : decode cX4_fillBest 68 = .ok (.ifCond .le 55, 3) := by decide +kernel
theorem dX4_fillBest_71 : decode cX4_fillBest 71 = .ok (.iload_n 2, 1) := by decide +kernel
theorem dX4_fillBest_72 : decode cX4_fillBest 72 = .ok (.istore 7, 2) := by decide +kernel
theorem dX4_fillBest_74 : decode cX4_fillBest 74 = .ok (.iload 7, 2) := by decide +kernel
theorem dX4_fillBest_76 : decode cX4_fillBest 76 = .ok (.iload 4, 2) := by decide +kernel
theorem dX4_fillBest_78 : decode cX4_fillBest 78 = .ok (.if_icmp .lt 39, 3) := by decide +kernel
theorem dX4_fillBest_81 : decode cX4_fillBest 81 = .ok (.aload_n 0, 1) := by decide +kernel
theorem dX4_fillBest_82 : decode cX4_fillBest 82 = .ok (.getfield 75, 3) := by decide +kernel
theorem dX4_fillBest_85 : decode cX4_fillBest 85 = .ok (.iload 7, 2) := by decide +kernel
theorem dX4_fillBest_87 : decode cX4_fillBest 87 = .ok (.aload_n 0, 1) := by decide +kernel
theorem dX4_fillBest_88 : decode cX4_fillBest 88 = .ok (.getfield 75, 3) := by decide +kernel
theorem dX4_fillBest_91 : decode cX4_fillBest 91 = .ok (.iload 7, 2) := by decide +kernel
theorem dX4_fillBest_93 : decode cX4_fillBest 93 = .ok (.iaload, 1) := by decide +kernel
theorem dX4_fillBest_94 : decode cX4_fillBest 94 = .ok (.aload_n 0, 1) := by decide +kernel
theorem dX4_fillBest_95 : decode cX4_fillBest 95 = .ok (.getfield 75, 3) := by decide +kernel
theorem dX4_fillBest_98 : decode cX4_fillBest 98 = .ok (.iload 7, 2) := by decide +kernel
theorem dX4_fillBest_100 : decode cX4_fillBest 100 = .ok (.iload 4, 2) := by decide +kernel
theorem dX4_fillBest_102 : decode cX4_fillBest 102 = .ok (.isub, 1) := by decide +kernel
theorem dX4_fillBest_103 : decode cX4_fillBest 103 = .ok (.iaload, 1) := by decide +kernel
theorem dX4_fillBest_104 : decode cX4_fillBest 104 = .ok (.iload 5, 2) := by decide +kernel
theorem dX4_fillBest_106 : decode cX4_fillBest 106 = .ok (.iadd, 1) := by decide +kernel
theorem dX4_fillBest_107 : decode cX4_fillBest 107 = .ok (.invokestatic 179, 3) := by decide +kernel
theorem dX4_fillBest_110 : decode cX4_fillBest 110 = .ok (.iastore, 1) := by decide +kernel
theorem dX4_fillBest_111 : decode cX4_fillBest 111 = .ok (.iinc 7 (-1), 3) := by decide +kernel
theorem dX4_fillBest_114 : decode cX4_fillBest 114 = .ok (.goto (-40), 3) := by decide +kernel
theorem dX4_fillBest_117 : decode cX4_fillBest 117 = .ok (.iinc 6 (-1), 3) := by decide +kernel
theorem dX4_fillBest_120 : decode cX4_fillBest 120 = .ok (.goto (-54), 3) := by decide +kernel
theorem dX4_fillBest_123 : decode cX4_fillBest 123 = .ok (.iinc 3 1, 3) := by decide +kernel
theorem dX4_fillBest_126 : decode cX4_fillBest 126 = .ok (.goto (-104), 3) := by decide +kernel
theorem dX4_fillBest_129 : decode cX4_fillBest 129 = .ok (.return_, 1) := by decide +kernel
theorem dX4_which_0 : decode cX4_which 0 = .ok (.aload_n 0, 1) := by decide +kernel
theorem dX4_which_1 : decode cX4_which 1 = .ok (.getfield 58, 3) := by decide +kernel
theorem dX4_which_4 : decode cX4_which 4 = .ok (.iload_n 1, 1) := by decide +kernel
theorem dX4_which_5 : decode cX4_which 5 = .ok (.invokevirtual 100, 3) := by decide +kernel
theorem dX4_which_8 : decode cX4_which 8 = .ok (.ifCond .ne 6, 3) := by decide +kernel
theorem dX4_which_11 : decode cX4_which 11 = .ok (.bipush (-5), 2) := by decide +kernel
theorem dX4_which_13 : decode cX4_which 13 = .ok (.ireturn, 1) := by decide +kernel
theorem dX4_which_14 : decode cX4_which 14 = .ok (.iload_n 2, 1) := by decide +kernel
theorem dX4_which_15 : decode cX4_which 15 = .ok (.iconst 0, 1) := by decide +kernel
theorem dX4_which_16 : decode cX4_which 16 = .ok (.iconst 1, 1) := by decide +kernel
theorem dX4_which_17 : decode cX4_which 17 = .ok (.invokestatic 89, 3) := by decide +kernel
theorem dX4_which_20 : decode cX4_which 20 = .ok (.ifCond .ne 6, 3) := by decide +kernel
theorem dX4_which_23 : decode cX4_which 23 = .ok (.bipush (-7), 2) := by decide +kernel
theorem dX4_which_25 : decode cX4_which 25 = .ok (.ireturn, 1) := by decide +kernel
theorem dX4_which_26 : decode cX4_which 26 = .ok (.iconst (-1), 1) := by decide +kernel
theorem dX4_which_27 : decode cX4_which 27 = .ok (.istore_n 3, 1) := by decide +kernel
theorem dX4_which_28 : decode cX4_which 28 = .ok (.aload_n 0, 1) := by decide +kernel
theorem dX4_which_29 : decode cX4_which 29 = .ok (.getfield 58, 3) := by decide +kernel
theorem dX4_which_32 : decode cX4_which 32 = .ok (.getfield 119, 3) := by decide +kernel
theorem dX4_which_35 : decode cX4_which 35 = .ok (.iload_n 1, 1) := by decide +kernel
theorem dX4_which_36 : decode cX4_which 36 = .ok (.iaload, 1) := by decide +kernel
theorem dX4_which_37 : decode cX4_which 37 = .ok (.istore 4, 2) := by decide +kernel
theorem dX4_which_39 : decode cX4_which 39 = .ok (.iconst 0, 1) := by decide +kernel
theorem dX4_which_40 : decode cX4_which 40 = .ok (.istore 5, 2) := by decide +kernel
theorem dX4_which_42 : decode cX4_which 42 = .ok (.iload 5, 2) := by decide +kernel
theorem dX4_which_44 : decode cX4_which 44 = .ok (.bipush 8, 2) := by decide +kernel
theorem dX4_which_46 : decode cX4_which 46 = .ok (.if_icmp .ge 68, 3) := by decide +kernel
theorem dX4_which_49 : decode cX4_which 49 = .ok (.aload_n 0, 1) := by decide +kernel
theorem dX4_which_50 : decode cX4_which 50 = .ok (.getfield 58, 3) := by decide +kernel
theorem dX4_which_53 : decode cX4_which 53 = .ok (.iload_n 1, 1) := by decide +kernel
theorem dX4_which_54 : decode cX4_which 54 = .ok (.iload 5, 2) := by decide +kernel
theorem dX4_which_56 : decode cX4_which 56 = .ok (.invokevirtual 147, 3) := by decide +kernel
theorem dX4_which_59 : decode cX4_which 59 = .ok (.ifCond .eq 49, 3) := by decide +kernel
theorem dX4_which_62 : decode cX4_which 62 = .ok (.aload_n 0, 1) := by decide +kernel
theorem dX4_which_63 : decode cX4_which 63 = .ok (.getfield 58, 3) := by decide +kernel
theorem dX4_which_66 : decode cX4_which 66 = .ok (.getfield 119, 3) := by decide +kernel
theorem dX4_which_69 : decode cX4_which 69 = .ok (.iload_n 1, 1) := by decide +kernel
theorem dX4_which_70 : decode cX4_which 70 = .ok (.iaload, 1) := by decide +kernel
theorem dX4_which_71 : decode cX4_which 71 = .ok (.aload_n 0, 1) := by decide +kernel
theorem dX4_which_72 : decode cX4_which 72 = .ok (.getfield 58, 3) := by decide +kernel
theorem dX4_which_75 : decode cX4_which 75 = .ok (.iload_n 1, 1) := by decide +kernel
theorem dX4_which_76 : decode cX4_which 76 = .ok (.iload 5, 2) := by decide +kernel
theorem dX4_which_78 : decode cX4_which 78 = .ok (.invokevirtual 141, 3) := by decide +kernel
theorem dX4_which_81 : decode cX4_which 81 = .ok (.iadd, 1) := by decide +kernel
theorem dX4_which_82 : decode cX4_which 82 = .ok (.iconst 0, 1) := by decide +kernel
theorem dX4_which_83 : decode cX4_which 83 = .ok (.bipush 99, 2) := by decide +kernel
theorem dX4_which_85 : decode cX4_which 85 = .ok (.invokestatic 187, 3) := by decide +kernel
theorem dX4_which_88 : decode cX4_which 88 = .ok (.istore 6, 2) := by decide +kernel
theorem dX4_which_90 : decode cX4_which 90 = .ok (.iload_n 3, 1) := by decide +kernel
theorem dX4_which_91 : decode cX4_which 91 = .ok (.ifCond .lt 10, 3) := by decide +kernel
theorem dX4_which_94 : decode cX4_which 94 = .ok (.iload 6, 2) := by decide +kernel
theorem dX4_which_96 : decode cX4_which 96 = .ok (.iload 4, 2) := by decide +kernel
theorem dX4_which_98 : decode cX4_which 98 = .ok (.if_icmp .le 10, 3) := by decide +kernel
theorem dX4_which_101 : decode cX4_which 101 = .ok (.iload 5, 2) := by decide +kernel
theorem dX4_which_103 : decode cX4_which 103 = .ok (.istore_n 3, 1) := by decide +kernel
theorem dX4_which_104 : decode cX4_which 104 = .ok (.iload 6, 2) := by decide +kernel
theorem dX4_which_106 : decode cX4_which 106 = .ok (.istore 4, 2) := by decide +kernel
theorem dX4_which_108 : decode cX4_which 108 = .ok (.iinc 5 1, 3) := by decide +kernel
theorem dX4_which_111 : decode cX4_which 111 = .ok (.goto (-69), 3) := by decide +kernel
theorem dX4_which_114 : decode cX4_which 114 = .ok (.iload_n 2, 1) := by decide +kernel
theorem dX4_which_115 : decode cX4_which 115 = .ok (.ifCond .ne 7, 3) := by decide +kernel
theorem dX4_which_118 : decode cX4_which 118 = .ok (.iload_n 3, 1) := by decide +kernel
theorem dX4_which_119 : decode cX4_which 119 = .ok (.goto 5, 3) := by decide +kernel
theorem dX4_which_122 : decode cX4_which 122 = .ok (.iload 4, 2) := by decide +kernel
theorem dX4_which_124 : decode cX4_which 124 = .ok (.ireturn, 1) := by decide +kernel
theorem dX4_tour_0 : decode cX4_tour 0 = .ok (.aload_n 0, 1) := by decide +kernel
theorem dX4_tour_1 : decode cX4_tour 1 = .ok (.getfield 58, 3) := by decide +kernel
theorem dX4_tour_4 : decode cX4_tour 4 = .ok (.iload_n 1, 1) := by decide +kernel
theorem dX4_tour_5 : decode cX4_tour 5 = .ok (.invokevirtual 100, 3) := by decide +kernel
theorem dX4_tour_8 : decode cX4_tour 8 = .ok (.ifCond .ne 6, 3) := by decide +kernel
theorem dX4_tour_11 : decode cX4_tour 11 = .ok (.bipush (-5), 2) := by decide +kernel
theorem dX4_tour_13 : decode cX4_tour 13 = .ok (.ireturn, 1) := by decide +kernel
theorem dX4_tour_14 : decode cX4_tour 14 = .ok (.iload_n 2, 1) := by decide +kernel
theorem dX4_tour_15 : decode cX4_tour 15 = .ok (.iconst 0, 1) := by decide +kernel
theorem dX4_tour_16 : decode cX4_tour 16 = .ok (.iconst 1, 1) := by decide +kernel
theorem dX4_tour_17 : decode cX4_tour 17 = .ok (.invokestatic 89, 3) := by decide +kernel
theorem dX4_tour_20 : decode cX4_tour 20 = .ok (.ifCond .ne 6, 3) := by decide +kernel
theorem dX4_tour_23 : decode cX4_tour 23 = .ok (.bipush (-7), 2) := by decide +kernel
theorem dX4_tour_25 : decode cX4_tour 25 = .ok (.ireturn, 1) := by decide +kernel
theorem dX4_tour_26 : decode cX4_tour 26 = .ok (.iconst 0, 1) := by decide +kernel
theorem dX4_tour_27 : decode cX4_tour 27 = .ok (.istore_n 3, 1) := by decide +kernel
theorem dX4_tour_28 : decode cX4_tour 28 = .ok (.iconst 0, 1) := by decide +kernel
theorem dX4_tour_29 : decode cX4_tour 29 = .ok (.istore 4, 2) := by decide +kernel
theorem dX4_tour_31 : decode cX4_tour 31 = .ok (.iload 4, 2) := by decide +kernel
theorem dX4_tour_33 : decode cX4_tour 33 = .ok (.bipush 8, 2) := by decide +kernel
theorem dX4_tour_35 : decode cX4_tour 35 = .ok (.if_icmp .ge 45, 3) := by decide +kernel
theorem dX4_tour_38 : decode cX4_tour 38 = .ok (.aload_n 0, 1) := by decide +kernel
theorem dX4_tour_39 : decode cX4_tour 39 = .ok (.getfield 58, 3) := by decide +kernel
theorem dX4_tour_42 : decode cX4_tour 42 = .ok (.iload_n 1, 1) := by decide +kernel
theorem dX4_tour_43 : decode cX4_tour 43 = .ok (.iload 4, 2) := by decide +kernel
theorem dX4_tour_45 : decode cX4_tour 45 = .ok (.invokevirtual 190, 3) := by decide +kernel
theorem dX4_tour_48 : decode cX4_tour 48 = .ok (.ifCond .ne 26, 3) := by decide +kernel
theorem dX4_tour_51 : decode cX4_tour 51 = .ok (.aload_n 0, 1) := by decide +kernel
theorem dX4_tour_52 : decode cX4_tour 52 = .ok (.getfield 58, 3) := by decide +kernel
theorem dX4_tour_55 : decode cX4_tour 55 = .ok (.getfield 116, 3) := by decide +kernel
theorem dX4_tour_58 : decode cX4_tour 58 = .ok (.iload_n 1, 1) := by decide +kernel
theorem dX4_tour_59 : decode cX4_tour 59 = .ok (.bipush 8, 2) := by decide +kernel
theorem dX4_tour_61 : decode cX4_tour 61 = .ok (.imul, 1) := by decide +kernel
theorem dX4_tour_62 : decode cX4_tour 62 = .ok (.iload 4, 2) := by decide +kernel
theorem dX4_tour_64 : decode cX4_tour 64 = .ok (.iadd, 1) := by decide +kernel
theorem dX4_tour_65 : decode cX4_tour 65 = .ok (.iaload, 1) := by decide +kernel
theorem dX4_tour_66 : decode cX4_tour 66 = .ok (.ifCond .gt 5, 3) := by decide +kernel
theorem dX4_tour_69 : decode cX4_tour 69 = .ok (.iconst (-1), 1) := by decide +kernel
theorem dX4_tour_70 : decode cX4_tour 70 = .ok (.ireturn, 1) := by decide +kernel
theorem dX4_tour_71 : decode cX4_tour 71 = .ok (.iinc 3 1, 3) := by decide +kernel
theorem dX4_tour_74 : decode cX4_tour 74 = .ok (.iinc 4 1, 3) := by decide +kernel
theorem dX4_tour_77 : decode cX4_tour 77 = .ok (.goto (-46), 3) := by decide +kernel
theorem dX4_tour_80 : decode cX4_tour 80 = .ok (.iload_n 2, 1) := by decide +kernel
theorem dX4_tour_81 : decode cX4_tour 81 = .ok (.ifCond .ne 7, 3) := by decide +kernel
theorem dX4_tour_84 : decode cX4_tour 84 = .ok (.iload_n 3, 1) := by decide +kernel
theorem dX4_tour_85 : decode cX4_tour 85 = .ok (.goto 8, 3) := by decide +kernel
theorem dX4_tour_88 : decode cX4_tour 88 = .ok (.aload_n 0, 1) := by decide +kernel
theorem dX4_tour_89 : decode cX4_tour 89 = .ok (.iload_n 1, 1) := by decide +kernel
theorem dX4_tour_90 : decode cX4_tour 90 = .ok (.invokevirtual 193, 3) := by decide +kernel
theorem dX4_tour_93 : decode cX4_tour 93 = .ok (.ireturn, 1) := by decide +kernel
theorem dX4_tourMinutes_0 : decode cX4_tourMinutes 0 = .ok (.aload_n 0, 1) := by decide +kernel
theorem dX4_tourMinutes_1 : decode cX4_tourMinutes 1 = .ok (.getfield 62, 3) := by decide +kernel
theorem dX4_tourMinutes_4 : decode cX4_tourMinutes 4 = .ok (.aload_n 0, 1) := by decide +kernel
theorem dX4_tourMinutes_5 : decode cX4_tourMinutes 5 = .ok (.getfield 58, 3) := by decide +kernel
theorem dX4_tourMinutes_8 : decode cX4_tourMinutes 8 = .ok (.invokevirtual 168, 3) := by decide +kernel
theorem dX4_tourMinutes_11 : decode cX4_tourMinutes 11 = .ok (.iconst 0, 1) := by decide +kernel
theorem dX4_tourMinutes_12 : decode cX4_tourMinutes 12 = .ok (.istore_n 2, 1) := by decide +kernel
theorem dX4_tourMinutes_13 : decode cX4_tourMinutes 13 = .ok (.iload_n 2, 1) := by decide +kernel
theorem dX4_tourMinutes_14 : decode cX4_tourMinutes 14 = .ok (.sipush 200, 3) := by decide +kernel
theorem dX4_tourMinutes_17 : decode cX4_tourMinutes 17 = .ok (.if_icmp .gt 70, 3) := by decide +kernel
theorem dX4_tourMinutes_20 : decode cX4_tourMinutes 20 = .ok (.aload_n 0, 1) := by decide +kernel
theorem dX4_tourMinutes_21 : decode cX4_tourMinutes 21 = .ok (.getfield 62, 3) := by decide +kernel
theorem dX4_tourMinutes_24 : decode cX4_tourMinutes 24 = .ok (.getfield 131, 3) := by decide +kernel
theorem dX4_tourMinutes_27 : decode cX4_tourMinutes 27 = .ok (.iload_n 1, 1) := by decide +kernel
theorem dX4_tourMinutes_28 : decode cX4_tourMinutes 28 = .ok (.iaload, 1) := by decide +kernel
theorem dX4_tourMinutes_29 : decode cX4_tourMinutes 29 = .ok (.iconst (-1), 1) := by decide +kernel
theorem dX4_tourMinutes_30 : decode cX4_tourMinutes 30 = .ok (.if_icmp .ne 43, 3) := by decide +kernel
theorem dX4_tourMinutes_33 : decode cX4_tourMinutes 33 = .ok (.aload_n 0, 1) := by decide +kernel
theorem dX4_tourMinutes_34 : decode cX4_tourMinutes 34 = .ok (.getfield 62, 3) := by decide +kernel
theorem dX4_tourMinutes_37 : decode cX4_tourMinutes 37 = .ok (.iload_n 1, 1) := by decide +kernel
theorem dX4_tourMinutes_38 : decode cX4_tourMinutes 38 = .ok (.invokevirtual 196, 3) := by decide +kernel
theorem dX4_tourMinutes_41 : decode cX4_tourMinutes 41 = .ok (.istore_n 3, 1) := by decide +kernel
theorem dX4_tourMinutes_42 : decode cX4_tourMinutes 42 = .ok (.iload_n 3, 1) := by decide +kernel
theorem dX4_tourMinutes_43 : decode cX4_tourMinutes 43 = .ok (.bipush 8, 2) := by decide +kernel
theorem dX4_tourMinutes_45 : decode cX4_tourMinutes 45 = .ok (.if_icmp .ne 5, 3) := by decide +kernel
theorem dX4_tourMinutes_48 : decode cX4_tourMinutes 48 = .ok (.iload_n 2, 1) := by decide +kernel
theorem dX4_tourMinutes_49 : decode cX4_tourMinutes 49 = .ok (.ireturn, 1) := by decide +kernel
theorem dX4_tourMinutes_50 : decode cX4_tourMinutes 50 = .ok (.aload_n 0, 1) := by decide +kernel
theorem dX4_tourMinutes_51 : decode cX4_tourMinutes 51 = .ok (.getfield 62, 3) := by decide +kernel
theorem dX4_tourMinutes_54 : decode cX4_tourMinutes 54 = .ok (.iload_n 1, 1) := by decide +kernel
theorem dX4_tourMinutes_55 : decode cX4_tourMinutes 55 = .ok (.iload_n 3, 1) := by decide +kernel
theorem dX4_tourMinutes_56 : decode cX4_tourMinutes 56 = .ok (.invokevirtual 147, 3) := by decide +kernel
theorem dX4_tourMinutes_59 : decode cX4_tourMinutes 59 = .ok (.ifCond .ne 5, 3) := by decide +kernel
theorem dX4_tourMinutes_62 : decode cX4_tourMinutes 62 = .ok (.iconst (-1), 1) := by decide +kernel
theorem dX4_tourMinutes_63 : decode cX4_tourMinutes 63 = .ok (.ireturn, 1) := by decide +kernel
theorem dX4_tourMinutes_64 : decode cX4_tourMinutes 64 = .ok (.aload_n 0, 1) := by decide +kernel
theorem dX4_tourMinutes_65 : decode cX4_tourMinutes 65 = .ok (.getfield 62, 3) := by decide +kernel
theorem dX4_tourMinutes_68 : decode cX4_tourMinutes 68 = .ok (.iload_n 1, 1) := by decide +kernel
theorem dX4_tourMinutes_69 : decode cX4_tourMinutes 69 = .ok (.iload_n 3, 1) := by decide +kernel
theorem dX4_tourMinutes_70 : decode cX4_tourMinutes 70 = .ok (.invokevirtual 151, 3) := by decide +kernel
theorem dX4_tourMinutes_73 : decode cX4_tourMinutes 73 = .ok (.aload_n 0, 1) := by decide +kernel
theorem dX4_tourMinutes_74 : decode cX4_tourMinutes 74 = .ok (.getfield 62, 3) := by decide +kernel
theorem dX4_tourMinutes_77 : decode cX4_tourMinutes 77 = .ok (.invokevirtual 155, 3) := by decide +kernel
theorem dX4_tourMinutes_80 : decode cX4_tourMinutes 80 = .ok (.pop, 1) := by decide +kernel
theorem dX4_tourMinutes_81 : decode cX4_tourMinutes 81 = .ok (.iinc 2 1, 3) := by decide +kernel
theorem dX4_tourMinutes_84 : decode cX4_tourMinutes 84 = .ok (.goto (-71), 3) := by decide +kernel
theorem dX4_tourMinutes_87 : decode cX4_tourMinutes 87 = .ok (.iconst (-1), 1) := by decide +kernel
theorem dX4_tourMinutes_88 : decode cX4_tourMinutes 88 = .ok (.ireturn, 1) := by decide +kernel
theorem dX4_share_0 : decode cX4_share 0 = .ok (.iload_n 1, 1) := by decide +kernel
theorem dX4_share_1 : decode cX4_share 1 = .ok (.invokestatic 103, 3) := by decide +kernel
theorem dX4_share_4 : decode cX4_share 4 = .ok (.ifCond .eq 12, 3) := by decide +kernel
theorem dX4_share_7 : decode cX4_share 7 = .ok (.iload_n 2, 1) := by decide +kernel
theorem dX4_share_8 : decode cX4_share 8 = .ok (.iconst 0, 1) := by decide +kernel
theorem dX4_share_9 : decode cX4_share 9 = .ok (.iconst 1, 1) := by decide +kernel
theorem dX4_share_10 : decode cX4_share 10 = .ok (.invokestatic 89, 3) := by decide +kernel
theorem dX4_share_13 : decode cX4_share 13 = .ok (.ifCond .ne 6, 3) := by decide +kernel
theorem dX4_share_16 : decode cX4_share 16 = .ok (.bipush (-2), 2) := by decide +kernel
theorem dX4_share_18 : decode cX4_share 18 = .ok (.ireturn, 1) := by decide +kernel
theorem dX4_share_19 : decode cX4_share 19 = .ok (.iconst (-1), 1) := by decide +kernel
theorem dX4_share_20 : decode cX4_share 20 = .ok (.istore_n 3, 1) := by decide +kernel
theorem dX4_share_21 : decode cX4_share 21 = .ok (.aload_n 0, 1) := by decide +kernel
theorem dX4_share_22 : decode cX4_share 22 = .ok (.getfield 58, 3) := by decide +kernel
theorem dX4_share_25 : decode cX4_share 25 = .ok (.invokevirtual 199, 3) := by decide +kernel
theorem dX4_share_28 : decode cX4_share 28 = .ok (.istore 4, 2) := by decide +kernel
theorem dX4_share_30 : decode cX4_share 30 = .ok (.iconst 0, 1) := by decide +kernel
theorem dX4_share_31 : decode cX4_share 31 = .ok (.istore 5, 2) := by decide +kernel
theorem dX4_share_33 : decode cX4_share 33 = .ok (.iload 5, 2) := by decide +kernel
theorem dX4_share_35 : decode cX4_share 35 = .ok (.aload_n 0, 1) := by decide +kernel
theorem dX4_share_36 : decode cX4_share 36 = .ok (.getfield 58, 3) := by decide +kernel
theorem dX4_share_39 : decode cX4_share 39 = .ok (.getfield 79, 3) := by decide +kernel
theorem dX4_share_42 : decode cX4_share 42 = .ok (.if_icmp .ge 56, 3) := by decide +kernel
theorem dX4_share_45 : decode cX4_share 45 = .ok (.aload_n 0, 1) := by decide +kernel
theorem dX4_share_46 : decode cX4_share 46 = .ok (.getfield 58, 3) := by decide +kernel
theorem dX4_share_49 : decode cX4_share 49 = .ok (.getfield 116, 3) := by decide +kernel
theorem dX4_share_52 : decode cX4_share 52 = .ok (.iload 5, 2) := by decide +kernel
theorem dX4_share_54 : decode cX4_share 54 = .ok (.bipush 8, 2) := by decide +kernel
theorem dX4_share_56 : decode cX4_share 56 = .ok (.imul, 1) := by decide +kernel
theorem dX4_share_57 : decode cX4_share 57 = .ok (.iload_n 1, 1) := by decide +kernel
theorem dX4_share_58 : decode cX4_share 58 = .ok (.iadd, 1) := by decide +kernel
theorem dX4_share_59 : decode cX4_share 59 = .ok (.iaload, 1) := by decide +kernel
theorem dX4_share_60 : decode cX4_share 60 = .ok (.bipush 9, 2) := by decide +kernel
theorem dX4_share_62 : decode cX4_share 62 = .ok (.if_icmp .ge 30, 3) := by decide +kernel
theorem dX4_share_65 : decode cX4_share 65 = .ok (.aload_n 0, 1) := by decide +kernel
theorem dX4_share_66 : decode cX4_share 66 = .ok (.iload 5, 2) := by decide +kernel
theorem dX4_share_68 : decode cX4_share 68 = .ok (.iload_n 1, 1) := by decide +kernel
theorem dX4_share_69 : decode cX4_share 69 = .ok (.invokevirtual 202, 3) := by decide +kernel
theorem dX4_share_72 : decode cX4_share 72 = .ok (.istore 6, 2) := by decide +kernel
theorem dX4_share_74 : decode cX4_share 74 = .ok (.iload_n 3, 1) := by decide +kernel
theorem dX4_share_75 : decode cX4_share 75 = .ok (.ifCond .lt 10, 3) := by decide +kernel
theorem dX4_share_78 : decode cX4_share 78 = .ok (.iload 6, 2) := by decide +kernel
theorem dX4_share_80 : decode cX4_share 80 = .ok (.iload 4, 2) := by decide +kernel
theorem dX4_share_82 : decode cX4_share 82 = .ok (.if_icmp .le 10, 3) := by decide +kernel
theorem dX4_share_85 : decode cX4_share 85 = .ok (.iload 5, 2) := by decide +kernel
theorem dX4_share_87 : decode cX4_share 87 = .ok (.istore_n 3, 1) := by decide +kernel
theorem dX4_share_88 : decode cX4_share 88 = .ok (.iload 6, 2) := by decide +kernel
theorem dX4_share_90 : decode cX4_share 90 = .ok (.istore 4, 2) := by decide +kernel
theorem dX4_share_92 : decode cX4_share 92 = .ok (.iinc 5 1, 3) := by decide +kernel
theorem dX4_share_95 : decode cX4_share 95 = .ok (.goto (-62), 3) := by decide +kernel
theorem dX4_share_98 : decode cX4_share 98 = .ok (.iload_n 2, 1) := by decide +kernel
theorem dX4_share_99 : decode cX4_share 99 = .ok (.ifCond .ne 7, 3) := by decide +kernel
theorem dX4_share_102 : decode cX4_share 102 = .ok (.iload_n 3, 1) := by decide +kernel
theorem dX4_share_103 : decode cX4_share 103 = .ok (.goto 5, 3) := by decide +kernel
theorem dX4_share_106 : decode cX4_share 106 = .ok (.iload 4, 2) := by decide +kernel
theorem dX4_share_108 : decode cX4_share 108 = .ok (.ireturn, 1) := by decide +kernel
theorem dX4_witSharing_0 : decode cX4_witSharing 0 = .ok (.aload_n 0, 1) := by decide +kernel
theorem dX4_witSharing_1 : decode cX4_witSharing 1 = .ok (.getfield 62, 3) := by decide +kernel
theorem dX4_witSharing_4 : decode cX4_witSharing 4 = .ok (.aload_n 0, 1) := by decide +kernel
theorem dX4_witSharing_5 : decode cX4_witSharing 5 = .ok (.getfield 58, 3) := by decide +kernel
theorem dX4_witSharing_8 : decode cX4_witSharing 8 = .ok (.invokevirtual 168, 3) := by decide +kernel
theorem dX4_witSharing_11 : decode cX4_witSharing 11 = .ok (.aload_n 0, 1) := by decide +kernel
theorem dX4_witSharing_12 : decode cX4_witSharing 12 = .ok (.getfield 62, 3) := by decide +kernel
theorem dX4_witSharing_15 : decode cX4_witSharing 15 = .ok (.getfield 116, 3) := by decide +kernel
theorem dX4_witSharing_18 : decode cX4_witSharing 18 = .ok (.iload_n 1, 1) := by decide +kernel
theorem dX4_witSharing_19 : decode cX4_witSharing 19 = .ok (.bipush 8, 2) := by decide +kernel
theorem dX4_witSharing_21 : decode cX4_witSharing 21 = .ok (.imul, 1) := by decide +kernel
theorem dX4_witSharing_22 : decode cX4_witSharing 22 = .ok (.iload_n 2, 1) := by decide +kernel
theorem dX4_witSharing_23 : decode cX4_witSharing 23 = .ok (.iadd, 1) := by decide +kernel
theorem dX4_witSharing_24 : decode cX4_witSharing 24 = .ok (.dup2, 1) := by decide +kernel
theorem dX4_witSharing_25 : decode cX4_witSharing 25 = .ok (.iaload, 1) := by decide +kernel
theorem dX4_witSharing_26 : decode cX4_witSharing 26 = .ok (.iconst 1, 1) := by decide +kernel
theorem dX4_witSharing_27 : decode cX4_witSharing 27 = .ok (.iadd, 1) := by decide +kernel
theorem dX4_witSharing_28 : decode cX4_witSharing 28 = .ok (.iastore, 1) := by decide +kernel
theorem dX4_witSharing_29 : decode cX4_witSharing 29 = .ok (.iconst 0, 1) := by decide +kernel
theorem dX4_witSharing_30 : decode cX4_witSharing 30 = .ok (.istore_n 3, 1) := by decide +kernel
theorem dX4_witSharing_31 : decode cX4_witSharing 31 = .ok (.iload_n 3, 1) := by decide +kernel
theorem dX4_witSharing_32 : decode cX4_witSharing 32 = .ok (.aload_n 0, 1) := by decide +kernel
theorem dX4_witSharing_33 : decode cX4_witSharing 33 = .ok (.getfield 62, 3) := by decide +kernel
theorem dX4_witSharing_36 : decode cX4_witSharing 36 = .ok (.getfield 79, 3) := by decide +kernel
theorem dX4_witSharing_39 : decode cX4_witSharing 39 = .ok (.if_icmp .ge 30, 3) := by decide +kernel
theorem dX4_witSharing_42 : decode cX4_witSharing 42 = .ok (.aload_n 0, 1) := by decide +kernel
theorem dX4_witSharing_43 : decode cX4_witSharing 43 = .ok (.getfield 62, 3) := by decide +kernel
theorem dX4_witSharing_46 : decode cX4_witSharing 46 = .ok (.iload_n 3, 1) := by decide +kernel
theorem dX4_witSharing_47 : decode cX4_witSharing 47 = .ok (.iload_n 2, 1) := by decide +kernel
theorem dX4_witSharing_48 : decode cX4_witSharing 48 = .ok (.invokevirtual 147, 3) := by decide +kernel
theorem dX4_witSharing_51 : decode cX4_witSharing 51 = .ok (.ifCond .eq 12, 3) := by decide +kernel
theorem dX4_witSharing_54 : decode cX4_witSharing 54 = .ok (.aload_n 0, 1) := by decide +kernel
theorem dX4_witSharing_55 : decode cX4_witSharing 55 = .ok (.getfield 62, 3) := by decide +kernel
theorem dX4_witSharing_58 : decode cX4_witSharing 58 = .ok (.iload_n 3, 1) := by decide +kernel
theorem dX4_witSharing_59 : decode cX4_witSharing 59 = .ok (.iload_n 2, 1) := by decide +kernel
theorem dX4_witSharing_60 : decode cX4_witSharing 60 = .ok (.invokevirtual 151, 3) := by decide +kernel
theorem dX4_witSharing_63 : decode cX4_witSharing 63 = .ok (.iinc 3 1, 3) := by decide +kernel
theorem dX4_witSharing_66 : decode cX4_witSharing 66 = .ok (.goto (-35), 3) := by decide +kernel
theorem dX4_witSharing_69 : decode cX4_witSharing 69 = .ok (.aload_n 0, 1) := by decide +kernel
theorem dX4_witSharing_70 : decode cX4_witSharing 70 = .ok (.getfield 62, 3) := by decide +kernel
theorem dX4_witSharing_73 : decode cX4_witSharing 73 = .ok (.invokevirtual 199, 3) := by decide +kernel
theorem dX4_witSharing_76 : decode cX4_witSharing 76 = .ok (.ireturn, 1) := by decide +kernel
theorem dX4_box_0 : decode cX4_box 0 = .ok (.aload_n 0, 1) := by decide +kernel
theorem dX4_box_1 : decode cX4_box 1 = .ok (.getfield 58, 3) := by decide +kernel
theorem dX4_box_4 : decode cX4_box 4 = .ok (.iload_n 1, 1) := by decide +kernel
theorem dX4_box_5 : decode cX4_box 5 = .ok (.invokevirtual 100, 3) := by decide +kernel
theorem dX4_box_8 : decode cX4_box 8 = .ok (.ifCond .eq 12, 3) := by decide +kernel
theorem dX4_box_11 : decode cX4_box 11 = .ok (.iload_n 2, 1) := by decide +kernel
theorem dX4_box_12 : decode cX4_box 12 = .ok (.iconst 0, 1) := by decide +kernel
theorem dX4_box_13 : decode cX4_box 13 = .ok (.iconst 1, 1) := by decide +kernel
theorem dX4_box_14 : decode cX4_box 14 = .ok (.invokestatic 89, 3) := by decide +kernel
theorem dX4_box_17 : decode cX4_box 17 = .ok (.ifCond .ne 7, 3) := by decide +kernel
theorem dX4_box_20 : decode cX4_box 20 = .ok (.ldc2_w 205, 3) := by decide +kernel
theorem dX4_box_23 : decode cX4_box 23 = .ok (.lreturn, 1) := by decide +kernel
theorem dX4_box_24 : decode cX4_box 24 = .ok (.iconst 0, 1) := by decide +kernel
theorem dX4_box_25 : decode cX4_box 25 = .ok (.istore_n 3, 1) := by decide +kernel
theorem dX4_box_26 : decode cX4_box 26 = .ok (.iconst 0, 1) := by decide +kernel
theorem dX4_box_27 : decode cX4_box 27 = .ok (.istore 4, 2) := by decide +kernel
theorem dX4_box_29 : decode cX4_box 29 = .ok (.iload 4, 2) := by decide +kernel
theorem dX4_box_31 : decode cX4_box 31 = .ok (.aload_n 0, 1) := by decide +kernel
theorem dX4_box_32 : decode cX4_box 32 = .ok (.getfield 58, 3) := by decide +kernel
theorem dX4_box_35 : decode cX4_box 35 = .ok (.getfield 79, 3) := by decide +kernel
theorem dX4_box_38 : decode cX4_box 38 = .ok (.if_icmp .ge 21, 3) := by decide +kernel
theorem dX4_box_41 : decode cX4_box 41 = .ok (.iload_n 3, 1) := by decide +kernel
theorem dX4_box_42 : decode cX4_box 42 = .ok (.aload_n 0, 1) := by decide +kernel
theorem dX4_box_43 : decode cX4_box 43 = .ok (.getfield 58, 3) := by decide +kernel
theorem dX4_box_46 : decode cX4_box 46 = .ok (.iload 4, 2) := by decide +kernel
theorem dX4_box_48 : decode cX4_box 48 = .ok (.invokevirtual 207, 3) := by decide +kernel
theorem dX4_box_51 : decode cX4_box 51 = .ok (.iadd, 1) := by decide +kernel
theorem dX4_box_52 : decode cX4_box 52 = .ok (.istore_n 3, 1) := by decide +kernel
theorem dX4_box_53 : decode cX4_box 53 = .ok (.iinc 4 1, 3) := by decide +kernel
theorem dX4_box_56 : decode cX4_box 56 = .ok (.goto (-27), 3) := by decide +kernel
theorem dX4_box_59 : decode cX4_box 59 = .ok (.iload_n 3, 1) := by decide +kernel
theorem dX4_box_60 : decode cX4_box 60 = .ok (.ifCond .ne 9, 3) := by decide +kernel
theorem dX4_box_63 : decode cX4_box 63 = .ok (.ldc2_w 205, 3) := by decide +kernel
theorem dX4_box_66 : decode cX4_box 66 = .ok (.goto 16, 3) := by decide +kernel
theorem dX4_box_69 : decode cX4_box 69 = .ok (.aload_n 0, 1) := by decide +kernel
theorem dX4_box_70 : decode cX4_box 70 = .ok (.getfield 58, 3) := by decide +kernel
theorem dX4_box_73 : decode cX4_box 73 = .ok (.iload_n 1, 1) := by decide +kernel
theorem dX4_box_74 : decode cX4_box 74 = .ok (.invokevirtual 207, 3) := by decide +kernel
theorem dX4_box_77 : decode cX4_box 77 = .ok (.iload_n 3, 1) := by decide +kernel
theorem dX4_box_78 : decode cX4_box 78 = .ok (.iload_n 2, 1) := by decide +kernel
theorem dX4_box_79 : decode cX4_box 79 = .ok (.invokestatic 210, 3) := by decide +kernel
theorem dX4_box_82 : decode cX4_box 82 = .ok (.lreturn, 1) := by decide +kernel
theorem dX4_judge_0 : decode cX4_judge 0 = .ok (.aload_n 0, 1) := by decide +kernel
theorem dX4_judge_1 : decode cX4_judge 1 = .ok (.iload_n 1, 1) := by decide +kernel
theorem dX4_judge_2 : decode cX4_judge 2 = .ok (.iload_n 2, 1) := by decide +kernel
theorem dX4_judge_3 : decode cX4_judge 3 = .ok (.iload_n 3, 1) := by decide +kernel
theorem dX4_judge_4 : decode cX4_judge 4 = .ok (.invokevirtual 214, 3) := by decide +kernel
theorem dX4_judge_7 : decode cX4_judge 7 = .ok (.istore 4, 2) := by decide +kernel
theorem dX4_judge_9 : decode cX4_judge 9 = .ok (.iload 4, 2) := by decide +kernel
theorem dX4_judge_11 : decode cX4_judge 11 = .ok (.ifCond .eq 6, 3) := by decide +kernel
theorem dX4_judge_14 : decode cX4_judge 14 = .ok (.iload 4, 2) := by decide +kernel
theorem dX4_judge_16 : decode cX4_judge 16 = .ok (.ireturn, 1) := by decide +kernel
theorem dX4_judge_17 : decode cX4_judge 17 = .ok (.aload_n 0, 1) := by decide +kernel
theorem dX4_judge_18 : decode cX4_judge 18 = .ok (.getfield 62, 3) := by decide +kernel
theorem dX4_judge_21 : decode cX4_judge 21 = .ok (.aload_n 0, 1) := by decide +kernel
theorem dX4_judge_22 : decode cX4_judge 22 = .ok (.getfield 58, 3) := by decide +kernel
theorem dX4_judge_25 : decode cX4_judge 25 = .ok (.invokevirtual 168, 3) := by decide +kernel
theorem dX4_judge_28 : decode cX4_judge 28 = .ok (.aload_n 0, 1) := by decide +kernel
theorem dX4_judge_29 : decode cX4_judge 29 = .ok (.iload_n 1, 1) := by decide +kernel
theorem dX4_judge_30 : decode cX4_judge 30 = .ok (.iload_n 2, 1) := by decide +kernel
theorem dX4_judge_31 : decode cX4_judge 31 = .ok (.iload_n 3, 1) := by decide +kernel
theorem dX4_judge_32 : decode cX4_judge 32 = .ok (.invokevirtual 217, 3) := by decide +kernel
theorem dX4_judge_35 : decode cX4_judge 35 = .ok (.ireturn, 1) := by decide +kernel
theorem dX4_kinds_0 : decode cX4_kinds 0 = .ok (.aload_n 0, 1) := by decide +kernel
theorem dX4_kinds_1 : decode cX4_kinds 1 = .ok (.iload_n 1, 1) := by decide +kernel
theorem dX4_kinds_2 : decode cX4_kinds 2 = .ok (.iload_n 2, 1) := by decide +kernel
theorem dX4_kinds_3 : decode cX4_kinds 3 = .ok (.iload_n 3, 1) := by decide +kernel
theorem dX4_kinds_4 : decode cX4_kinds 4 = .ok (.invokevirtual 214, 3) := by decide +kernel
theorem dX4_kinds_7 : decode cX4_kinds 7 = .ok (.istore 5, 2) := by decide +kernel
theorem dX4_kinds_9 : decode cX4_kinds 9 = .ok (.iload 5, 2) := by decide +kernel
theorem dX4_kinds_11 : decode cX4_kinds 11 = .ok (.ifCond .eq 6, 3) := by decide +kernel
theorem dX4_kinds_14 : decode cX4_kinds 14 = .ok (.iload 5, 2) := by decide +kernel
theorem dX4_kinds_16 : decode cX4_kinds 16 = .ok (.ireturn, 1) := by decide +kernel
theorem dX4_kinds_17 : decode cX4_kinds 17 = .ok (.iload 4, 2) := by decide +kernel
theorem dX4_kinds_19 : decode cX4_kinds 19 = .ok (.iconst 0, 1) := by decide +kernel
theorem dX4_kinds_20 : decode cX4_kinds 20 = .ok (.iconst 1, 1) := by decide +kernel
theorem dX4_kinds_21 : decode cX4_kinds 21 = .ok (.invokestatic 89, 3) := by decide +kernel
theorem dX4_kinds_24 : decode cX4_kinds 24 = .ok (.ifCond .ne 6, 3) := by decide +kernel
theorem dX4_kinds_27 : decode cX4_kinds 27 = .ok (.bipush (-7), 2) := by decide +kernel
theorem dX4_kinds_29 : decode cX4_kinds 29 = .ok (.ireturn, 1) := by decide +kernel
theorem dX4_kinds_30 : decode cX4_kinds 30 = .ok (.iconst 0, 1) := by decide +kernel
theorem dX4_kinds_31 : decode cX4_kinds 31 = .ok (.istore 6, 2) := by decide +kernel
theorem dX4_kinds_33 : decode cX4_kinds 33 = .ok (.iload 4, 2) := by decide +kernel
theorem dX4_kinds_35 : decode cX4_kinds 35 = .ok (.ifCond .ne 7, 3) := by decide +kernel
theorem dX4_kinds_38 : decode cX4_kinds 38 = .ok (.iconst 5, 1) := by decide +kernel
theorem dX4_kinds_39 : decode cX4_kinds 39 = .ok (.goto 5, 3) := by decide +kernel
theorem dX4_kinds_42 : decode cX4_kinds 42 = .ok (.bipush 9, 2) := by decide +kernel
theorem dX4_kinds_44 : decode cX4_kinds 44 = .ok (.istore 7, 2) := by decide +kernel
theorem dX4_kinds_46 : decode cX4_kinds 46 = .ok (.iconst 0, 1) := by decide +kernel
theorem dX4_kinds_47 : decode cX4_kinds 47 = .ok (.istore 8, 2) := by decide +kernel
theorem dX4_kinds_49 : decode cX4_kinds 49 = .ok (.iload 8, 2) := by decide +kernel
theorem dX4_kinds_51 : decode cX4_kinds 51 = .ok (.iload 7, 2) := by decide +kernel
theorem dX4_kinds_53 : decode cX4_kinds 53 = .ok (.if_icmp .gt 70, 3) := by decide +kernel
theorem dX4_kinds_56 : decode cX4_kinds 56 = .ok (.aload_n 0, 1) := by decide +kernel
theorem dX4_kinds_57 : decode cX4_kinds 57 = .ok (.getfield 62, 3) := by decide +kernel
theorem dX4_kinds_60 : decode cX4_kinds 60 = .ok (.aload_n 0, 1) := by decide +kernel
theorem dX4_kinds_61 : decode cX4_kinds 61 = .ok (.getfield 58, 3) := by decide +kernel
theorem dX4_kinds_64 : decode cX4_kinds 64 = .ok (.invokevirtual 168, 3) := by decide +kernel
theorem dX4_kinds_67 : decode cX4_kinds 67 = .ok (.iload 4, 2) := by decide +kernel
theorem dX4_kinds_69 : decode cX4_kinds 69 = .ok (.ifCond .ne 17, 3) := by decide +kernel
theorem dX4_kinds_72 : decode cX4_kinds 72 = .ok (.aload_n 0, 1) := by decide +kernel
theorem dX4_kinds_73 : decode cX4_kinds 73 = .ok (.getfield 62, 3) := by decide +kernel
theorem dX4_kinds_76 : decode cX4_kinds 76 = .ok (.getfield 122, 3) := by decide +kernel
theorem dX4_kinds_79 : decode cX4_kinds 79 = .ok (.iload_n 3, 1) := by decide +kernel
theorem dX4_kinds_80 : decode cX4_kinds 80 = .ok (.iload 8, 2) := by decide +kernel
theorem dX4_kinds_82 : decode cX4_kinds 82 = .ok (.iastore, 1) := by decide +kernel
theorem dX4_kinds_83 : decode cX4_kinds 83 = .ok (.goto 14, 3) := by decide +kernel
theorem dX4_kinds_86 : decode cX4_kinds 86 = .ok (.aload_n 0, 1) := by decide +kernel
theorem dX4_kinds_87 : decode cX4_kinds 87 = .ok (.getfield 62, 3) := by decide +kernel
theorem dX4_kinds_90 : decode cX4_kinds 90 = .ok (.getfield 125, 3) := by decide +kernel
theorem dX4_kinds_93 : decode cX4_kinds 93 = .ok (.iload_n 3, 1) := by decide +kernel
theorem dX4_kinds_94 : decode cX4_kinds 94 = .ok (.iload 8, 2) := by decide +kernel
theorem dX4_kinds_96 : decode cX4_kinds 96 = .ok (.iastore, 1) := by decide +kernel
theorem dX4_kinds_97 : decode cX4_kinds 97 = .ok (.aload_n 0, 1) := by decide +kernel
theorem dX4_kinds_98 : decode cX4_kinds 98 = .ok (.iload_n 1, 1) := by decide +kernel
theorem dX4_kinds_99 : decode cX4_kinds 99 = .ok (.iload_n 2, 1) := by decide +kernel
theorem dX4_kinds_100 : decode cX4_kinds 100 = .ok (.iload_n 3, 1) := by decide +kernel
theorem dX4_kinds_101 : decode cX4_kinds 101 = .ok (.invokevirtual 217, 3) := by decide +kernel
theorem dX4_kinds_104 : decode cX4_kinds 104 = .ok (.iconst (-1), 1) := by decide +kernel
theorem dX4_kinds_105 : decode cX4_kinds 105 = .ok (.if_icmp .ne 12, 3) := by decide +kernel
theorem dX4_kinds_108 : decode cX4_kinds 108 = .ok (.iload 6, 2) := by decide +kernel
theorem dX4_kinds_110 : decode cX4_kinds 110 = .ok (.iconst 1, 1) := by decide +kernel
theorem dX4_kinds_111 : decode cX4_kinds 111 = .ok (.iload 8, 2) := by decide +kernel
theorem dX4_kinds_113 : decode cX4_kinds 113 = .ok (.ishl, 1) := by decide +kernel
theorem dX4_kinds_114 : decode cX4_kinds 114 = .ok (.ior, 1) := by decide +kernel
theorem dX4_kinds_115 : decode cX4_kinds 115 = .ok (.istore 6, 2) := by decide +kernel
theorem dX4_kinds_117 : decode cX4_kinds 117 = .ok (.iinc 8 1, 3) := by decide +kernel
theorem dX4_kinds_120 : decode cX4_kinds 120 = .ok (.goto (-71), 3) := by decide +kernel
theorem dX4_kinds_123 : decode cX4_kinds 123 = .ok (.iload 6, 2) := by decide +kernel
theorem dX4_kinds_125 : decode cX4_kinds 125 = .ok (.ireturn, 1) := by decide +kernel
theorem dX4_states_0 : decode cX4_states 0 = .ok (.aload_n 0, 1) := by decide +kernel
theorem dX4_states_1 : decode cX4_states 1 = .ok (.iload_n 1, 1) := by decide +kernel
theorem dX4_states_2 : decode cX4_states 2 = .ok (.iload_n 2, 1) := by decide +kernel
theorem dX4_states_3 : decode cX4_states 3 = .ok (.iload_n 3, 1) := by decide +kernel
theorem dX4_states_4 : decode cX4_states 4 = .ok (.invokevirtual 214, 3) := by decide +kernel
theorem dX4_states_7 : decode cX4_states 7 = .ok (.istore 6, 2) := by decide +kernel
theorem dX4_states_9 : decode cX4_states 9 = .ok (.iload 6, 2) := by decide +kernel
theorem dX4_states_11 : decode cX4_states 11 = .ok (.ifCond .eq 6, 3) := by decide +kernel
theorem dX4_states_14 : decode cX4_states 14 = .ok (.iload 6, 2) := by decide +kernel
theorem dX4_states_16 : decode cX4_states 16 = .ok (.ireturn, 1) := by decide +kernel
theorem dX4_states_17 : decode cX4_states 17 = .ok (.iload 4, 2) := by decide +kernel
theorem dX4_states_19 : decode cX4_states 19 = .ok (.iconst 0, 1) := by decide +kernel
theorem dX4_states_20 : decode cX4_states 20 = .ok (.bipush 8, 2) := by decide +kernel
theorem dX4_states_22 : decode cX4_states 22 = .ok (.invokestatic 89, 3) := by decide +kernel
theorem dX4_states_25 : decode cX4_states 25 = .ok (.ifCond .eq 13, 3) := by decide +kernel
theorem dX4_states_28 : decode cX4_states 28 = .ok (.iload 5, 2) := by decide +kernel
theorem dX4_states_30 : decode cX4_states 30 = .ok (.iconst 0, 1) := by decide +kernel
theorem dX4_states_31 : decode cX4_states 31 = .ok (.iconst 1, 1) := by decide +kernel
theorem dX4_states_32 : decode cX4_states 32 = .ok (.invokestatic 89, 3) := by decide +kernel
theorem dX4_states_35 : decode cX4_states 35 = .ok (.ifCond .ne 6, 3) := by decide +kernel
theorem dX4_states_38 : decode cX4_states 38 = .ok (.bipush (-7), 2) := by decide +kernel
theorem dX4_states_40 : decode cX4_states 40 = .ok (.ireturn, 1) := by decide +kernel
theorem dX4_states_41 : decode cX4_states 41 = .ok (.iconst 0, 1) := by decide +kernel
theorem dX4_states_42 : decode cX4_states 42 = .ok (.istore 7, 2) := by decide +kernel
theorem dX4_states_44 : decode cX4_states 44 = .ok (.iconst (-1), 1) := by decide +kernel
theorem dX4_states_45 : decode cX4_states 45 = .ok (.istore 8, 2) := by decide +kernel
theorem dX4_states_47 : decode cX4_states 47 = .ok (.iload 4, 2) := by decide +kernel
theorem dX4_states_49 : decode cX4_states 49 = .ok (.bipush 8, 2) := by decide +kernel
theorem dX4_states_51 : decode cX4_states 51 = .ok (.if_icmp .ne 8, 3) := by decide +kernel
theorem dX4_states_54 : decode cX4_states 54 = .ok (.bipush 99, 2) := by decide +kernel
theorem dX4_states_56 : decode cX4_states 56 = .ok (.goto 5, 3) := by decide +kernel
theorem dX4_states_59 : decode cX4_states 59 = .ok (.bipush 9, 2) := by decide +kernel
theorem dX4_states_61 : decode cX4_states 61 = .ok (.istore 9, 2) := by decide +kernel
theorem dX4_states_63 : decode cX4_states 63 = .ok (.iconst 0, 1) := by decide +kernel
theorem dX4_states_64 : decode cX4_states 64 = .ok (.istore 10, 2) := by decide +kernel
theorem dX4_states_66 : decode cX4_states 66 = .ok (.iload 10, 2) := by decide +kernel
theorem dX4_states_68 : decode cX4_states 68 = .ok (.iload 9, 2) := by decide +kernel
theorem dX4_states_70 : decode cX4_states 70 = .ok (.if_icmp .gt 56, 3) := by decide +kernel
theorem dX4_states_73 : decode cX4_states 73 = .ok (.aload_n 0, 1) := by decide +kernel
theorem dX4_states_74 : decode cX4_states 74 = .ok (.getfield 62, 3) := by decide +kernel
theorem dX4_states_77 : decode cX4_states 77 = .ok (.aload_n 0, 1) := by decide +kernel
theorem dX4_states_78 : decode cX4_states 78 = .ok (.getfield 58, 3) := by decide +kernel
theorem dX4_states_81 : decode cX4_states 81 = .ok (.invokevirtual 168, 3) := by decide +kernel
theorem dX4_states_84 : decode cX4_states 84 = .ok (.aload_n 0, 1) := by decide +kernel
theorem dX4_states_85 : decode cX4_states 85 = .ok (.getfield 62, 3) := by decide +kernel
theorem dX4_states_88 : decode cX4_states 88 = .ok (.iload_n 3, 1) := by decide +kernel
theorem dX4_states_89 : decode cX4_states 89 = .ok (.iload 4, 2) := by decide +kernel
theorem dX4_states_91 : decode cX4_states 91 = .ok (.iload 10, 2) := by decide +kernel
theorem dX4_states_93 : decode cX4_states 93 = .ok (.invokevirtual 113, 3) := by decide +kernel
theorem dX4_states_96 : decode cX4_states 96 = .ok (.pop, 1) := by decide +kernel
theorem dX4_states_97 : decode cX4_states 97 = .ok (.aload_n 0, 1) := by decide +kernel
theorem dX4_states_98 : decode cX4_states 98 = .ok (.iload_n 1, 1) := by decide +kernel
theorem dX4_states_99 : decode cX4_states 99 = .ok (.iload_n 2, 1) := by decide +kernel
theorem dX4_states_100 : decode cX4_states 100 = .ok (.iload_n 3, 1) := by decide +kernel
theorem dX4_states_101 : decode cX4_states 101 = .ok (.invokevirtual 217, 3) := by decide +kernel
theorem dX4_states_104 : decode cX4_states 104 = .ok (.iconst (-1), 1) := by decide +kernel
theorem dX4_states_105 : decode cX4_states 105 = .ok (.if_icmp .ne 15, 3) := by decide +kernel
theorem dX4_states_108 : decode cX4_states 108 = .ok (.iinc 7 1, 3) := by decide +kernel
theorem dX4_states_111 : decode cX4_states 111 = .ok (.iload 8, 2) := by decide +kernel
theorem dX4_states_113 : decode cX4_states 113 = .ok (.ifCond .ge 7, 3) := by decide +kernel
theorem dX4_states_116 : decode cX4_states 116 = .ok (.iload 10, 2) := by decide +kernel
theorem dX4_states_118 : decode cX4_states 118 = .ok (.istore 8, 2) := by decide +kernel
theorem dX4_states_120 : decode cX4_states 120 = .ok (.iinc 10 1, 3) := by decide +kernel
theorem dX4_states_123 : decode cX4_states 123 = .ok (.goto (-57), 3) := by decide +kernel
theorem dX4_states_126 : decode cX4_states 126 = .ok (.iload 5, 2) := by decide +kernel
theorem dX4_states_128 : decode cX4_states 128 = .ok (.ifCond .ne 8, 3) := by decide +kernel
theorem dX4_states_131 : decode cX4_states 131 = .ok (.iload 7, 2) := by decide +kernel
theorem dX4_states_133 : decode cX4_states 133 = .ok (.goto 5, 3) := by decide +kernel
theorem dX4_states_136 : decode cX4_states 136 = .ok (.iload 8, 2) := by decide +kernel
theorem dX4_states_138 : decode cX4_states 138 = .ok (.ireturn, 1) := by decide +kernel
theorem dX4_whose_0 : decode cX4_whose 0 = .ok (.aload_n 0, 1) := by decide +kernel
theorem dX4_whose_1 : decode cX4_whose 1 = .ok (.iload_n 1, 1) := by decide +kernel
theorem dX4_whose_2 : decode cX4_whose 2 = .ok (.iload_n 2, 1) := by decide +kernel
theorem dX4_whose_3 : decode cX4_whose 3 = .ok (.invokevirtual 220, 3) := by decide +kernel
theorem dX4_whose_6 : decode cX4_whose 6 = .ok (.istore_n 3, 1) := by decide +kernel
theorem dX4_whose_7 : decode cX4_whose 7 = .ok (.iload_n 3, 1) := by decide +kernel
theorem dX4_whose_8 : decode cX4_whose 8 = .ok (.ifCond .eq 5, 3) := by decide +kernel
theorem dX4_whose_11 : decode cX4_whose 11 = .ok (.iload_n 3, 1) := by decide +kernel
theorem dX4_whose_12 : decode cX4_whose 12 = .ok (.ireturn, 1) := by decide +kernel
theorem dX4_whose_13 : decode cX4_whose 13 = .ok (.iconst 0, 1) := by decide +kernel
theorem dX4_whose_14 : decode cX4_whose 14 = .ok (.istore 4, 2) := by decide +kernel
theorem dX4_whose_16 : decode cX4_whose 16 = .ok (.iconst 0, 1) := by decide +kernel
theorem dX4_whose_17 : decode cX4_whose 17 = .ok (.istore 5, 2) := by decide +kernel
theorem dX4_whose_19 : decode cX4_whose 19 = .ok (.iload 5, 2) := by decide +kernel
theorem dX4_whose_21 : decode cX4_whose 21 = .ok (.aload_n 0, 1) := by decide +kernel
theorem dX4_whose_22 : decode cX4_whose 22 = .ok (.getfield 58, 3) := by decide +kernel
theorem dX4_whose_25 : decode cX4_whose 25 = .ok (.getfield 79, 3) := by decide +kernel
theorem dX4_whose_28 : decode cX4_whose 28 = .ok (.if_icmp .ge 41, 3) := by decide +kernel
theorem dX4_whose_31 : decode cX4_whose 31 = .ok (.aload_n 0, 1) := by decide +kernel
theorem dX4_whose_32 : decode cX4_whose 32 = .ok (.getfield 62, 3) := by decide +kernel
theorem dX4_whose_35 : decode cX4_whose 35 = .ok (.aload_n 0, 1) := by decide +kernel
theorem dX4_whose_36 : decode cX4_whose 36 = .ok (.getfield 58, 3) := by decide +kernel
theorem dX4_whose_39 : decode cX4_whose 39 = .ok (.invokevirtual 168, 3) := by decide +kernel
theorem dX4_whose_42 : decode cX4_whose 42 = .ok (.aload_n 0, 1) := by decide +kernel
theorem dX4_whose_43 : decode cX4_whose 43 = .ok (.iload_n 1, 1) := by decide +kernel
theorem dX4_whose_44 : decode cX4_whose 44 = .ok (.iload_n 2, 1) := by decide +kernel
theorem dX4_whose_45 : decode cX4_whose 45 = .ok (.iload 5, 2) := by decide +kernel
theorem dX4_whose_47 : decode cX4_whose 47 = .ok (.invokevirtual 217, 3) := by decide +kernel
theorem dX4_whose_50 : decode cX4_whose 50 = .ok (.iconst (-1), 1) := by decide +kernel
theorem dX4_whose_51 : decode cX4_whose 51 = .ok (.if_icmp .ne 12, 3) := by decide +kernel
theorem dX4_whose_54 : decode cX4_whose 54 = .ok (.iload 4, 2) := by decide +kernel
theorem dX4_whose_56 : decode cX4_whose 56 = .ok (.iconst 1, 1) := by decide +kernel
theorem dX4_whose_57 : decode cX4_whose 57 = .ok (.iload 5, 2) := by decide +kernel
theorem dX4_whose_59 : decode cX4_whose 59 = .ok (.ishl, 1) := by decide +kernel
theorem dX4_whose_60 : decode cX4_whose 60 = .ok (.ior, 1) := by decide +kernel
theorem dX4_whose_61 : decode cX4_whose 61 = .ok (.istore 4, 2) := by decide +kernel
theorem dX4_whose_63 : decode cX4_whose 63 = .ok (.iinc 5 1, 3) := by decide +kernel
theorem dX4_whose_66 : decode cX4_whose 66 = .ok (.goto (-47), 3) := by decide +kernel
theorem dX4_whose_69 : decode cX4_whose 69 = .ok (.iload 4, 2) := by decide +kernel
theorem dX4_whose_71 : decode cX4_whose 71 = .ok (.ireturn, 1) := by decide +kernel
theorem dX4_laws_0 : decode cX4_laws 0 = .ok (.aload_n 0, 1) := by decide +kernel
theorem dX4_laws_1 : decode cX4_laws 1 = .ok (.iload_n 1, 1) := by decide +kernel
theorem dX4_laws_2 : decode cX4_laws 2 = .ok (.iload_n 2, 1) := by decide +kernel
theorem dX4_laws_3 : decode cX4_laws 3 = .ok (.iload_n 3, 1) := by decide +kernel
theorem dX4_laws_4 : decode cX4_laws 4 = .ok (.invokevirtual 214, 3) := by decide +kernel
theorem dX4_laws_7 : decode cX4_laws 7 = .ok (.istore 4, 2) := by decide +kernel
theorem dX4_laws_9 : decode cX4_laws 9 = .ok (.iload 4, 2) := by decide +kernel
theorem dX4_laws_11 : decode cX4_laws 11 = .ok (.ifCond .eq 6, 3) := by decide +kernel
theorem dX4_laws_14 : decode cX4_laws 14 = .ok (.iload 4, 2) := by decide +kernel
theorem dX4_laws_16 : decode cX4_laws 16 = .ok (.ireturn, 1) := by decide +kernel
theorem dX4_laws_17 : decode cX4_laws 17 = .ok (.iconst 0, 1) := by decide +kernel
theorem dX4_laws_18 : decode cX4_laws 18 = .ok (.istore 5, 2) := by decide +kernel
theorem dX4_laws_20 : decode cX4_laws 20 = .ok (.iconst 0, 1) := by decide +kernel
theorem dX4_laws_21 : decode cX4_laws 21 = .ok (.istore 6, 2) := by decide +kernel
theorem dX4_laws_23 : decode cX4_laws 23 = .ok (.iload 6, 2) := by decide +kernel
theorem dX4_laws_25 : decode cX4_laws 25 = .ok (.aload_n 0, 1) := by decide +kernel
theorem dX4_laws_26 : decode cX4_laws 26 = .ok (.getfield 50, 3) := by decide +kernel
theorem dX4_laws_29 : decode cX4_laws 29 = .ok (.if_icmp .ge 49, 3) := by decide +kernel
theorem dX4_laws_32 : decode cX4_laws 32 = .ok (.aload_n 0, 1) := by decide +kernel
theorem dX4_laws_33 : decode cX4_laws 33 = .ok (.getfield 62, 3) := by decide +kernel
theorem dX4_laws_36 : decode cX4_laws 36 = .ok (.aload_n 0, 1) := by decide +kernel
theorem dX4_laws_37 : decode cX4_laws 37 = .ok (.getfield 58, 3) := by decide +kernel
theorem dX4_laws_40 : decode cX4_laws 40 = .ok (.invokevirtual 168, 3) := by decide +kernel
theorem dX4_laws_43 : decode cX4_laws 43 = .ok (.aload_n 0, 1) := by decide +kernel
theorem dX4_laws_44 : decode cX4_laws 44 = .ok (.getfield 62, 3) := by decide +kernel
theorem dX4_laws_47 : decode cX4_laws 47 = .ok (.iload 6, 2) := by decide +kernel
theorem dX4_laws_49 : decode cX4_laws 49 = .ok (.putfield 86, 3) := by decide +kernel
theorem dX4_laws_52 : decode cX4_laws 52 = .ok (.aload_n 0, 1) := by decide +kernel
theorem dX4_laws_53 : decode cX4_laws 53 = .ok (.iload_n 1, 1) := by decide +kernel
theorem dX4_laws_54 : decode cX4_laws 54 = .ok (.iload_n 2, 1) := by decide +kernel
theorem dX4_laws_55 : decode cX4_laws 55 = .ok (.iload_n 3, 1) := by decide +kernel
theorem dX4_laws_56 : decode cX4_laws 56 = .ok (.invokevirtual 217, 3) := by decide +kernel
theorem dX4_laws_59 : decode cX4_laws 59 = .ok (.iconst (-1), 1) := by decide +kernel
theorem dX4_laws_60 : decode cX4_laws 60 = .ok (.if_icmp .ne 12, 3) := by decide +kernel
theorem dX4_laws_63 : decode cX4_laws 63 = .ok (.iload 5, 2) := by decide +kernel
theorem dX4_laws_65 : decode cX4_laws 65 = .ok (.iconst 1, 1) := by decide +kernel
theorem dX4_laws_66 : decode cX4_laws 66 = .ok (.iload 6, 2) := by decide +kernel
theorem dX4_laws_68 : decode cX4_laws 68 = .ok (.ishl, 1) := by decide +kernel
theorem dX4_laws_69 : decode cX4_laws 69 = .ok (.ior, 1) := by decide +kernel
theorem dX4_laws_70 : decode cX4_laws 70 = .ok (.istore 5, 2) := by decide +kernel
theorem dX4_laws_72 : decode cX4_laws 72 = .ok (.iinc 6 1, 3) := by decide +kernel
theorem dX4_laws_75 : decode cX4_laws 75 = .ok (.goto (-52), 3) := by decide +kernel
theorem dX4_laws_78 : decode cX4_laws 78 = .ok (.iload 5, 2) := by decide +kernel
theorem dX4_laws_80 : decode cX4_laws 80 = .ok (.ireturn, 1) := by decide +kernel
theorem dX4_film_0 : decode cX4_film 0 = .ok (.iload_n 2, 1) := by decide +kernel
theorem dX4_film_1 : decode cX4_film 1 = .ok (.invokestatic 223, 3) := by decide +kernel
theorem dX4_film_4 : decode cX4_film 4 = .ok (.ifCond .eq 8, 3) := by decide +kernel
theorem dX4_film_7 : decode cX4_film 7 = .ok (.iload_n 2, 1) := by decide +kernel
theorem dX4_film_8 : decode cX4_film 8 = .ok (.iload_n 1, 1) := by decide +kernel
theorem dX4_film_9 : decode cX4_film 9 = .ok (.if_icmp .ne 6, 3) := by decide +kernel
theorem dX4_film_12 : decode cX4_film 12 = .ok (.bipush (-2), 2) := by decide +kernel
theorem dX4_film_14 : decode cX4_film 14 = .ok (.ireturn, 1) := by decide +kernel
theorem dX4_film_15 : decode cX4_film 15 = .ok (.aload_n 0, 1) := by decide +kernel
theorem dX4_film_16 : decode cX4_film 16 = .ok (.iload_n 1, 1) := by decide +kernel
theorem dX4_film_17 : decode cX4_film 17 = .ok (.invokevirtual 165, 3) := by decide +kernel
theorem dX4_film_20 : decode cX4_film 20 = .ok (.istore 4, 2) := by decide +kernel
theorem dX4_film_22 : decode cX4_film 22 = .ok (.iload 4, 2) := by decide +kernel
theorem dX4_film_24 : decode cX4_film 24 = .ok (.ifCond .eq 6, 3) := by decide +kernel
theorem dX4_film_27 : decode cX4_film 27 = .ok (.iload 4, 2) := by decide +kernel
theorem dX4_film_29 : decode cX4_film 29 = .ok (.ireturn, 1) := by decide +kernel
theorem dX4_film_30 : decode cX4_film 30 = .ok (.aload_n 0, 1) := by decide +kernel
theorem dX4_film_31 : decode cX4_film 31 = .ok (.getfield 58, 3) := by decide +kernel
theorem dX4_film_34 : decode cX4_film 34 = .ok (.iload_n 3, 1) := by decide +kernel
theorem dX4_film_35 : decode cX4_film 35 = .ok (.invokevirtual 100, 3) := by decide +kernel
theorem dX4_film_38 : decode cX4_film 38 = .ok (.ifCond .ne 6, 3) := by decide +kernel
theorem dX4_film_41 : decode cX4_film 41 = .ok (.bipush (-5), 2) := by decide +kernel
theorem dX4_film_43 : decode cX4_film 43 = .ok (.ireturn, 1) := by decide +kernel
theorem dX4_film_44 : decode cX4_film 44 = .ok (.aload_n 0, 1) := by decide +kernel
theorem dX4_film_45 : decode cX4_film 45 = .ok (.getfield 71, 3) := by decide +kernel
theorem dX4_film_48 : decode cX4_film 48 = .ok (.iload_n 1, 1) := by decide +kernel
theorem dX4_film_49 : decode cX4_film 49 = .ok (.aaload, 1) := by decide +kernel
theorem dX4_film_50 : decode cX4_film 50 = .ok (.astore 5, 2) := by decide +kernel
theorem dX4_film_52 : decode cX4_film 52 = .ok (.aload_n 0, 1) := by decide +kernel
theorem dX4_film_53 : decode cX4_film 53 = .ok (.getfield 71, 3) := by decide +kernel
theorem dX4_film_56 : decode cX4_film 56 = .ok (.iload_n 2, 1) := by decide +kernel
theorem dX4_film_57 : decode cX4_film 57 = .ok (.aaload, 1) := by decide +kernel
theorem dX4_film_58 : decode cX4_film 58 = .ok (.astore 6, 2) := by decide +kernel
theorem dX4_film_60 : decode cX4_film 60 = .ok (.aload 6, 2) := by decide +kernel
theorem dX4_film_62 : decode cX4_film 62 = .ok (.iconst 0, 1) := by decide +kernel
theorem dX4_film_63 : decode cX4_film 63 = .ok (.aload 5, 2) := by decide +kernel
theorem dX4_film_65 : decode cX4_film 65 = .ok (.getfield 172, 3) := by decide +kernel
theorem dX4_film_68 : decode cX4_film 68 = .ok (.invokevirtual 226, 3) := by decide +kernel
theorem dX4_film_71 : decode cX4_film 71 = .ok (.aload_n 0, 1) := by decide +kernel
theorem dX4_film_72 : decode cX4_film 72 = .ok (.getfield 62, 3) := by decide +kernel
theorem dX4_film_75 : decode cX4_film 75 = .ok (.aload_n 0, 1) := by decide +kernel
theorem dX4_film_76 : decode cX4_film 76 = .ok (.getfield 58, 3) := by decide +kernel
theorem dX4_film_79 : decode cX4_film 79 = .ok (.invokevirtual 168, 3) := by decide +kernel
theorem dX4_film_82 : decode cX4_film 82 = .ok (.iconst 0, 1) := by decide +kernel
theorem dX4_film_83 : decode cX4_film 83 = .ok (.istore 7, 2) := by decide +kernel
theorem dX4_film_85 : decode cX4_film 85 = .ok (.iload 7, 2) := by decide +kernel
theorem dX4_film_87 : decode cX4_film 87 = .ok (.aload 5, 2) := by decide +kernel
theorem dX4_film_89 : decode cX4_film 89 = .ok (.getfield 172, 3) := by decide +kernel
theorem dX4_film_92 : decode cX4_film 92 = .ok (.if_icmp .ge 49, 3) := by decide +kernel
theorem dX4_film_95 : decode cX4_film 95 = .ok (.aload_n 0, 1) := by decide +kernel
theorem dX4_film_96 : decode cX4_film 96 = .ok (.getfield 62, 3) := by decide +kernel
theorem dX4_film_99 : decode cX4_film 99 = .ok (.aload 5, 2) := by decide +kernel
theorem dX4_film_101 : decode cX4_film 101 = .ok (.getfield 173, 3) := by decide +kernel
theorem dX4_film_104 : decode cX4_film 104 = .ok (.iload 7, 2) := by decide +kernel
theorem dX4_film_106 : decode cX4_film 106 = .ok (.iaload, 1) := by decide +kernel
theorem dX4_film_107 : decode cX4_film 107 = .ok (.invokevirtual 176, 3) := by decide +kernel
theorem dX4_film_110 : decode cX4_film 110 = .ok (.pop, 1) := by decide +kernel
theorem dX4_film_111 : decode cX4_film 111 = .ok (.aload_n 0, 1) := by decide +kernel
theorem dX4_film_112 : decode cX4_film 112 = .ok (.getfield 62, 3) := by decide +kernel
theorem dX4_film_115 : decode cX4_film 115 = .ok (.invokevirtual 155, 3) := by decide +kernel
theorem dX4_film_118 : decode cX4_film 118 = .ok (.pop, 1) := by decide +kernel
theorem dX4_film_119 : decode cX4_film 119 = .ok (.aload 6, 2) := by decide +kernel
theorem dX4_film_121 : decode cX4_film 121 = .ok (.iload 7, 2) := by decide +kernel
theorem dX4_film_123 : decode cX4_film 123 = .ok (.aload_n 0, 1) := by decide +kernel
theorem dX4_film_124 : decode cX4_film 124 = .ok (.getfield 62, 3) := by decide +kernel
theorem dX4_film_127 : decode cX4_film 127 = .ok (.getfield 119, 3) := by decide +kernel
theorem dX4_film_130 : decode cX4_film 130 = .ok (.iload_n 3, 1) := by decide +kernel
theorem dX4_film_131 : decode cX4_film 131 = .ok (.iaload, 1) := by decide +kernel
theorem dX4_film_132 : decode cX4_film 132 = .ok (.invokevirtual 228, 3) := by decide +kernel
theorem dX4_film_135 : decode cX4_film 135 = .ok (.iinc 7 1, 3) := by decide +kernel
theorem dX4_film_138 : decode cX4_film 138 = .ok (.goto (-53), 3) := by decide +kernel
theorem dX4_film_141 : decode cX4_film 141 = .ok (.aload 5, 2) := by decide +kernel
theorem dX4_film_143 : decode cX4_film 143 = .ok (.getfield 172, 3) := by decide +kernel
theorem dX4_film_146 : decode cX4_film 146 = .ok (.ireturn, 1) := by decide +kernel
theorem dX4_otherwise_0 : decode cX4_otherwise 0 = .ok (.aload_n 0, 1) := by decide +kernel
theorem dX4_otherwise_1 : decode cX4_otherwise 1 = .ok (.getfield 71, 3) := by decide +kernel
theorem dX4_otherwise_4 : decode cX4_otherwise 4 = .ok (.iload_n 1, 1) := by decide +kernel
theorem dX4_otherwise_5 : decode cX4_otherwise 5 = .ok (.aaload, 1) := by decide +kernel
theorem dX4_otherwise_6 : decode cX4_otherwise 6 = .ok (.astore 4, 2) := by decide +kernel
theorem dX4_otherwise_8 : decode cX4_otherwise 8 = .ok (.aload_n 0, 1) := by decide +kernel
theorem dX4_otherwise_9 : decode cX4_otherwise 9 = .ok (.getfield 71, 3) := by decide +kernel
theorem dX4_otherwise_12 : decode cX4_otherwise 12 = .ok (.iload_n 2, 1) := by decide +kernel
theorem dX4_otherwise_13 : decode cX4_otherwise 13 = .ok (.aaload, 1) := by decide +kernel
theorem dX4_otherwise_14 : decode cX4_otherwise 14 = .ok (.astore 5, 2) := by decide +kernel
theorem dX4_otherwise_16 : decode cX4_otherwise 16 = .ok (.iconst 0, 1) := by decide +kernel
theorem dX4_otherwise_17 : decode cX4_otherwise 17 = .ok (.istore 6, 2) := by decide +kernel
theorem dX4_otherwise_19 : decode cX4_otherwise 19 = .ok (.iload 6, 2) := by decide +kernel
theorem dX4_otherwise_21 : decode cX4_otherwise 21 = .ok (.aload 5, 2) := by decide +kernel
theorem dX4_otherwise_23 : decode cX4_otherwise 23 = .ok (.getfield 172, 3) := by decide +kernel
theorem dX4_otherwise_26 : decode cX4_otherwise 26 = .ok (.if_icmp .ge 66, 3) := by decide +kernel
theorem dX4_otherwise_29 : decode cX4_otherwise 29 = .ok (.iload 6, 2) := by decide +kernel
theorem dX4_otherwise_31 : decode cX4_otherwise 31 = .ok (.aload 4, 2) := by decide +kernel
theorem dX4_otherwise_33 : decode cX4_otherwise 33 = .ok (.getfield 172, 3) := by decide +kernel
theorem dX4_otherwise_36 : decode cX4_otherwise 36 = .ok (.if_icmp .ge 56, 3) := by decide +kernel
theorem dX4_otherwise_39 : decode cX4_otherwise 39 = .ok (.aload_n 0, 1) := by decide +kernel
theorem dX4_otherwise_40 : decode cX4_otherwise 40 = .ok (.getfield 62, 3) := by decide +kernel
theorem dX4_otherwise_43 : decode cX4_otherwise 43 = .ok (.aload 4, 2) := by decide +kernel
theorem dX4_otherwise_45 : decode cX4_otherwise 45 = .ok (.getfield 173, 3) := by decide +kernel
theorem dX4_otherwise_48 : decode cX4_otherwise 48 = .ok (.iload 6, 2) := by decide +kernel
theorem dX4_otherwise_50 : decode cX4_otherwise 50 = .ok (.iaload, 1) := by decide +kernel
theorem dX4_otherwise_51 : decode cX4_otherwise 51 = .ok (.invokevirtual 176, 3) := by decide +kernel
theorem dX4_otherwise_54 : decode cX4_otherwise 54 = .ok (.pop, 1) := by decide +kernel
theorem dX4_otherwise_55 : decode cX4_otherwise 55 = .ok (.aload_n 0, 1) := by decide +kernel
theorem dX4_otherwise_56 : decode cX4_otherwise 56 = .ok (.getfield 62, 3) := by decide +kernel
theorem dX4_otherwise_59 : decode cX4_otherwise 59 = .ok (.invokevirtual 155, 3) := by decide +kernel
theorem dX4_otherwise_62 : decode cX4_otherwise 62 = .ok (.pop, 1) := by decide +kernel
theorem dX4_otherwise_63 : decode cX4_otherwise 63 = .ok (.aload_n 0, 1) := by decide +kernel
theorem dX4_otherwise_64 : decode cX4_otherwise 64 = .ok (.getfield 62, 3) := by decide +kernel
theorem dX4_otherwise_67 : decode cX4_otherwise 67 = .ok (.getfield 119, 3) := by decide +kernel
theorem dX4_otherwise_70 : decode cX4_otherwise 70 = .ok (.iload_n 3, 1) := by decide +kernel
theorem dX4_otherwise_71 : decode cX4_otherwise 71 = .ok (.iaload, 1) := by decide +kernel
theorem dX4_otherwise_72 : decode cX4_otherwise 72 = .ok (.aload 5, 2) := by decide +kernel
theorem dX4_otherwise_74 : decode cX4_otherwise 74 = .ok (.getfield 173, 3) := by decide +kernel
theorem dX4_otherwise_77 : decode cX4_otherwise 77 = .ok (.iload 6, 2) := by decide +kernel
theorem dX4_otherwise_79 : decode cX4_otherwise 79 = .ok (.iaload, 1) := by decide +kernel
theorem dX4_otherwise_80 : decode cX4_otherwise 80 = .ok (.if_icmp .eq 6, 3) := by decide +kernel
theorem dX4_otherwise_83 : decode cX4_otherwise 83 = .ok (.iload 6, 2) := by decide +kernel
theorem dX4_otherwise_85 : decode cX4_otherwise 85 = .ok (.ireturn, 1) := by decide +kernel
theorem dX4_otherwise_86 : decode cX4_otherwise 86 = .ok (.iinc 6 1, 3) := by decide +kernel
theorem dX4_otherwise_89 : decode cX4_otherwise 89 = .ok (.goto (-70), 3) := by decide +kernel
theorem dX4_otherwise_92 : decode cX4_otherwise 92 = .ok (.iconst (-1), 1) := by decide +kernel
theorem dX4_otherwise_93 : decode cX4_otherwise 93 = .ok (.ireturn, 1) := by decide +kernel
theorem dX4_drawn_0 : decode cX4_drawn 0 = .ok (.iload_n 1, 1) := by decide +kernel
theorem dX4_drawn_1 : decode cX4_drawn 1 = .ok (.iconst 0, 1) := by decide +kernel
theorem dX4_drawn_2 : decode cX4_drawn 2 = .ok (.ldc 231, 2) := by decide +kernel
theorem dX4_drawn_4 : decode cX4_drawn 4 = .ok (.invokestatic 89, 3) := by decide +kernel
theorem dX4_drawn_7 : decode cX4_drawn 7 = .ok (.ifCond .eq 22, 3) := by decide +kernel
theorem dX4_drawn_10 : decode cX4_drawn 10 = .ok (.iload_n 2, 1) := by decide +kernel
theorem dX4_drawn_11 : decode cX4_drawn 11 = .ok (.iconst 0, 1) := by decide +kernel
theorem dX4_drawn_12 : decode cX4_drawn 12 = .ok (.bipush 60, 2) := by decide +kernel
theorem dX4_drawn_14 : decode cX4_drawn 14 = .ok (.invokestatic 89, 3) := by decide +kernel
theorem dX4_drawn_17 : decode cX4_drawn 17 = .ok (.ifCond .eq 12, 3) := by decide +kernel
theorem dX4_drawn_20 : decode cX4_drawn 20 = .ok (.iload_n 3, 1) := by decide +kernel
theorem dX4_drawn_21 : decode cX4_drawn 21 = .ok (.iconst 0, 1) := by decide +kernel
theorem dX4_drawn_22 : decode cX4_drawn 22 = .ok (.iconst 1, 1) := by decide +kernel
theorem dX4_drawn_23 : decode cX4_drawn 23 = .ok (.invokestatic 89, 3) := by decide +kernel
theorem dX4_drawn_26 : decode cX4_drawn 26 = .ok (.ifCond .ne 6, 3) := by decide +kernel
theorem dX4_drawn_29 : decode cX4_drawn 29 = .ok (.bipush (-2), 2) := by decide +kernel
theorem dX4_drawn_31 : decode cX4_drawn 31 = .ok (.ireturn, 1) := by decide +kernel
theorem dX4_drawn_32 : decode cX4_drawn 32 = .ok (.aload_n 0, 1) := by decide +kernel
theorem dX4_drawn_33 : decode cX4_drawn 33 = .ok (.iload_n 1, 1) := by decide +kernel
theorem dX4_drawn_34 : decode cX4_drawn 34 = .ok (.iload_n 2, 1) := by decide +kernel
theorem dX4_drawn_35 : decode cX4_drawn 35 = .ok (.invokevirtual 232, 3) := by decide +kernel
theorem dX4_drawn_38 : decode cX4_drawn 38 = .ok (.istore 4, 2) := by decide +kernel
theorem dX4_drawn_40 : decode cX4_drawn 40 = .ok (.iload_n 3, 1) := by decide +kernel
theorem dX4_drawn_41 : decode cX4_drawn 41 = .ok (.ifCond .ne 13, 3) := by decide +kernel
theorem dX4_drawn_44 : decode cX4_drawn 44 = .ok (.aload_n 0, 1) := by decide +kernel
theorem dX4_drawn_45 : decode cX4_drawn 45 = .ok (.getfield 62, 3) := by decide +kernel
theorem dX4_drawn_48 : decode cX4_drawn 48 = .ok (.invokevirtual 199, 3) := by decide +kernel
theorem dX4_drawn_51 : decode cX4_drawn 51 = .ok (.goto 5, 3) := by decide +kernel
theorem dX4_drawn_54 : decode cX4_drawn 54 = .ok (.iload 4, 2) := by decide +kernel
theorem dX4_drawn_56 : decode cX4_drawn 56 = .ok (.ireturn, 1) := by decide +kernel
theorem dX4_odds_0 : decode cX4_odds 0 = .ok (.iload_n 1, 1) := by decide +kernel
theorem dX4_odds_1 : decode cX4_odds 1 = .ok (.iconst 0, 1) := by decide +kernel
theorem dX4_odds_2 : decode cX4_odds 2 = .ok (.ldc 231, 2) := by decide +kernel
theorem dX4_odds_4 : decode cX4_odds 4 = .ok (.invokestatic 89, 3) := by decide +kernel
theorem dX4_odds_7 : decode cX4_odds 7 = .ok (.ifCond .eq 34, 3) := by decide +kernel
theorem dX4_odds_10 : decode cX4_odds 10 = .ok (.iload_n 2, 1) := by decide +kernel
theorem dX4_odds_11 : decode cX4_odds 11 = .ok (.iconst 1, 1) := by decide +kernel
theorem dX4_odds_12 : decode cX4_odds 12 = .ok (.bipush 40, 2) := by decide +kernel
theorem dX4_odds_14 : decode cX4_odds 14 = .ok (.invokestatic 89, 3) := by decide +kernel
theorem dX4_odds_17 : decode cX4_odds 17 = .ok (.ifCond .eq 24, 3) := by decide +kernel
theorem dX4_odds_20 : decode cX4_odds 20 = .ok (.iload_n 3, 1) := by decide +kernel
theorem dX4_odds_21 : decode cX4_odds 21 = .ok (.iconst 0, 1) := by decide +kernel
theorem dX4_odds_22 : decode cX4_odds 22 = .ok (.sipush 999, 3) := by decide +kernel
theorem dX4_odds_25 : decode cX4_odds 25 = .ok (.invokestatic 89, 3) := by decide +kernel
theorem dX4_odds_28 : decode cX4_odds 28 = .ok (.ifCond .eq 13, 3) := by decide +kernel
theorem dX4_odds_31 : decode cX4_odds 31 = .ok (.iload 4, 2) := by decide +kernel
theorem dX4_odds_33 : decode cX4_odds 33 = .ok (.iconst 0, 1) := by decide +kernel
theorem dX4_odds_34 : decode cX4_odds 34 = .ok (.iconst 1, 1) := by decide +kernel
theorem dX4_odds_35 : decode cX4_odds 35 = .ok (.invokestatic 89, 3) := by decide +kernel
theorem dX4_odds_38 : decode cX4_odds 38 = .ok (.ifCond .ne 7, 3) := by decide +kernel
theorem dX4_odds_41 : decode cX4_odds 41 = .ok (.ldc2_w 205, 3) := by decide +kernel
theorem dX4_odds_44 : decode cX4_odds 44 = .ok (.lreturn, 1) := by decide +kernel
theorem dX4_odds_45 : decode cX4_odds 45 = .ok (.iconst 0, 1) := by decide +kernel
theorem dX4_odds_46 : decode cX4_odds 46 = .ok (.istore 5, 2) := by decide +kernel
theorem dX4_odds_48 : decode cX4_odds 48 = .ok (.iconst 0, 1) := by decide +kernel
theorem dX4_odds_49 : decode cX4_odds 49 = .ok (.istore 6, 2) := by decide +kernel
theorem dX4_odds_51 : decode cX4_odds 51 = .ok (.iload 6, 2) := by decide +kernel
theorem dX4_odds_53 : decode cX4_odds 53 = .ok (.iload_n 2, 1) := by decide +kernel
theorem dX4_odds_54 : decode cX4_odds 54 = .ok (.if_icmp .ge 34, 3) := by decide +kernel
theorem dX4_odds_57 : decode cX4_odds 57 = .ok (.aload_n 0, 1) := by decide +kernel
theorem dX4_odds_58 : decode cX4_odds 58 = .ok (.iload_n 1, 1) := by decide +kernel
theorem dX4_odds_59 : decode cX4_odds 59 = .ok (.iload 6, 2) := by decide +kernel
theorem dX4_odds_61 : decode cX4_odds 61 = .ok (.iadd, 1) := by decide +kernel
theorem dX4_odds_62 : decode cX4_odds 62 = .ok (.bipush 20, 2) := by decide +kernel
theorem dX4_odds_64 : decode cX4_odds 64 = .ok (.invokevirtual 232, 3) := by decide +kernel
theorem dX4_odds_67 : decode cX4_odds 67 = .ok (.pop, 1) := by decide +kernel
theorem dX4_odds_68 : decode cX4_odds 68 = .ok (.aload_n 0, 1) := by decide +kernel
theorem dX4_odds_69 : decode cX4_odds 69 = .ok (.getfield 62, 3) := by decide +kernel
theorem dX4_odds_72 : decode cX4_odds 72 = .ok (.invokevirtual 199, 3) := by decide +kernel
theorem dX4_odds_75 : decode cX4_odds 75 = .ok (.iload_n 3, 1) := by decide +kernel
theorem dX4_odds_76 : decode cX4_odds 76 = .ok (.if_icmp .lt 6, 3) := by decide +kernel
theorem dX4_odds_79 : decode cX4_odds 79 = .ok (.iinc 5 1, 3) := by decide +kernel
theorem dX4_odds_82 : decode cX4_odds 82 = .ok (.iinc 6 1, 3) := by decide +kernel
theorem dX4_odds_85 : decode cX4_odds 85 = .ok (.goto (-34), 3) := by decide +kernel
theorem dX4_odds_88 : decode cX4_odds 88 = .ok (.iload 5, 2) := by decide +kernel
theorem dX4_odds_90 : decode cX4_odds 90 = .ok (.iload_n 2, 1) := by decide +kernel
theorem dX4_odds_91 : decode cX4_odds 91 = .ok (.iload 4, 2) := by decide +kernel
theorem dX4_odds_93 : decode cX4_odds 93 = .ok (.invokestatic 210, 3) := by decide +kernel
theorem dX4_odds_96 : decode cX4_odds 96 = .ok (.lreturn, 1) := by decide +kernel
theorem dX4_drawEvening_0 : decode cX4_drawEvening 0 = .ok (.aload_n 0, 1) := by decide +kernel
theorem dX4_drawEvening_1 : decode cX4_drawEvening 1 = .ok (.getfield 62, 3) := by decide +kernel
theorem dX4_drawEvening_4 : decode cX4_drawEvening 4 = .ok (.aload_n 0, 1) := by decide +kernel
theorem dX4_drawEvening_5 : decode cX4_drawEvening 5 = .ok (.getfield 58, 3) := by decide +kernel
theorem dX4_drawEvening_8 : decode cX4_drawEvening 8 = .ok (.invokevirtual 168, 3) := by decide +kernel
theorem dX4_drawEvening_11 : decode cX4_drawEvening 11 = .ok (.iload_n 1, 1) := by decide +kernel
theorem dX4_drawEvening_12 : decode cX4_drawEvening 12 = .ok (.iconst 1, 1) := by decide +kernel
theorem dX4_drawEvening_13 : decode cX4_drawEvening 13 = .ok (.iadd, 1) := by decide +kernel
theorem dX4_drawEvening_14 : decode cX4_drawEvening 14 = .ok (.i2l, 1) := by decide +kernel
theorem dX4_drawEvening_15 : decode cX4_drawEvening 15 = .ok (.lstore_n 3, 1) := by decide +kernel
theorem dX4_drawEvening_16 : decode cX4_drawEvening 16 = .ok (.iconst 0, 1) := by decide +kernel
theorem dX4_drawEvening_17 : decode cX4_drawEvening 17 = .ok (.istore 5, 2) := by decide +kernel
theorem dX4_drawEvening_19 : decode cX4_drawEvening 19 = .ok (.iconst 0, 1) := by decide +kernel
theorem dX4_drawEvening_20 : decode cX4_drawEvening 20 = .ok (.istore 6, 2) := by decide +kernel
theorem dX4_drawEvening_22 : decode cX4_drawEvening 22 = .ok (.iload 6, 2) := by decide +kernel
theorem dX4_drawEvening_24 : decode cX4_drawEvening 24 = .ok (.iload_n 2, 1) := by decide +kernel
theorem dX4_drawEvening_25 : decode cX4_drawEvening 25 = .ok (.if_icmp .ge 74, 3) := by decide +kernel
theorem dX4_drawEvening_28 : decode cX4_drawEvening 28 = .ok (.lload_n 3, 1) := by decide +kernel
theorem dX4_drawEvening_29 : decode cX4_drawEvening 29 = .ok (.ldc2_w 235, 3) := by decide +kernel
theorem dX4_drawEvening_32 : decode cX4_drawEvening 32 = .ok (.lmul, 1) := by decide +kernel
theorem dX4_drawEvening_33 : decode cX4_drawEvening 33 = .ok (.ldc2_w 237, 3) := by decide +kernel
theorem dX4_drawEvening_36 : decode cX4_drawEvening 36 = .ok (.lrem, 1) := by decide +kernel
theorem dX4_drawEvening_37 : decode cX4_drawEvening 37 = .ok (.lstore_n 3, 1) := by decide +kernel
theorem dX4_drawEvening_38 : decode cX4_drawEvening 38 = .ok (.lload_n 3, 1) := by decide +kernel
theorem dX4_drawEvening_39 : decode cX4_drawEvening 39 = .ok (.ldc2_w 239, 3) := by decide +kernel
theorem dX4_drawEvening_42 : decode cX4_drawEvening 42 = .ok (.lrem, 1) := by decide +kernel
theorem dX4_drawEvening_43 : decode cX4_drawEvening 43 = .ok (.l2i, 1) := by decide +kernel
theorem dX4_drawEvening_44 : decode cX4_drawEvening 44 = .ok (.istore 7, 2) := by decide +kernel
theorem dX4_drawEvening_46 : decode cX4_drawEvening 46 = .ok (.lload_n 3, 1) := by decide +kernel
theorem dX4_drawEvening_47 : decode cX4_drawEvening 47 = .ok (.ldc2_w 235, 3) := by decide +kernel
theorem dX4_drawEvening_50 : decode cX4_drawEvening 50 = .ok (.lmul, 1) := by decide +kernel
theorem dX4_drawEvening_51 : decode cX4_drawEvening 51 = .ok (.ldc2_w 237, 3) := by decide +kernel
theorem dX4_drawEvening_54 : decode cX4_drawEvening 54 = .ok (.lrem, 1) := by decide +kernel
theorem dX4_drawEvening_55 : decode cX4_drawEvening 55 = .ok (.lstore_n 3, 1) := by decide +kernel
theorem dX4_drawEvening_56 : decode cX4_drawEvening 56 = .ok (.lload_n 3, 1) := by decide +kernel
theorem dX4_drawEvening_57 : decode cX4_drawEvening 57 = .ok (.ldc2_w 241, 3) := by decide +kernel
theorem dX4_drawEvening_60 : decode cX4_drawEvening 60 = .ok (.lrem, 1) := by decide +kernel
theorem dX4_drawEvening_61 : decode cX4_drawEvening 61 = .ok (.l2i, 1) := by decide +kernel
theorem dX4_drawEvening_62 : decode cX4_drawEvening 62 = .ok (.istore 8, 2) := by decide +kernel
theorem dX4_drawEvening_64 : decode cX4_drawEvening 64 = .ok (.aload_n 0, 1) := by decide +kernel
theorem dX4_drawEvening_65 : decode cX4_drawEvening 65 = .ok (.getfield 62, 3) := by decide +kernel
theorem dX4_drawEvening_68 : decode cX4_drawEvening 68 = .ok (.bipush 10, 2) := by decide +kernel
theorem dX4_drawEvening_70 : decode cX4_drawEvening 70 = .ok (.iload 7, 2) := by decide +kernel
theorem dX4_drawEvening_72 : decode cX4_drawEvening 72 = .ok (.imul, 1) := by decide +kernel
theorem dX4_drawEvening_73 : decode cX4_drawEvening 73 = .ok (.iload 8, 2) := by decide +kernel
theorem dX4_drawEvening_75 : decode cX4_drawEvening 75 = .ok (.iadd, 1) := by decide +kernel
theorem dX4_drawEvening_76 : decode cX4_drawEvening 76 = .ok (.invokevirtual 176, 3) := by decide +kernel
theorem dX4_drawEvening_79 : decode cX4_drawEvening 79 = .ok (.ifCond .eq 6, 3) := by decide +kernel
theorem dX4_drawEvening_82 : decode cX4_drawEvening 82 = .ok (.iinc 5 1, 3) := by decide +kernel
theorem dX4_drawEvening_85 : decode cX4_drawEvening 85 = .ok (.aload_n 0, 1) := by decide +kernel
theorem dX4_drawEvening_86 : decode cX4_drawEvening 86 = .ok (.getfield 62, 3) := by decide +kernel
theorem dX4_drawEvening_89 : decode cX4_drawEvening 89 = .ok (.invokevirtual 155, 3) := by decide +kernel
theorem dX4_drawEvening_92 : decode cX4_drawEvening 92 = .ok (.pop, 1) := by decide +kernel
theorem dX4_drawEvening_93 : decode cX4_drawEvening 93 = .ok (.iinc 6 1, 3) := by decide +kernel
theorem dX4_drawEvening_96 : decode cX4_drawEvening 96 = .ok (.goto (-74), 3) := by decide +kernel
theorem dX4_drawEvening_99 : decode cX4_drawEvening 99 = .ok (.iload 5, 2) := by decide +kernel
theorem dX4_drawEvening_101 : decode cX4_drawEvening 101 = .ok (.ireturn, 1) := by decide +kernel
theorem dX4_image_0 : decode cX4_image 0 = .ok (.aload_n 0, 1) := by decide +kernel
theorem dX4_image_1 : decode cX4_image 1 = .ok (.getfield 65, 3) := by decide +kernel
theorem dX4_image_4 : decode cX4_image 4 = .ok (.aload_n 0, 1) := by decide +kernel
theorem dX4_image_5 : decode cX4_image 5 = .ok (.getfield 58, 3) := by decide +kernel
theorem dX4_image_8 : decode cX4_image 8 = .ok (.invokevirtual 168, 3) := by decide +kernel
theorem dX4_image_11 : decode cX4_image 11 = .ok (.aload_n 0, 1) := by decide +kernel
theorem dX4_image_12 : decode cX4_image 12 = .ok (.iconst 1, 1) := by decide +kernel
theorem dX4_image_13 : decode cX4_image 13 = .ok (.putfield 243, 3) := by decide +kernel
theorem dX4_image_16 : decode cX4_image 16 = .ok (.aload_n 0, 1) := by decide +kernel
theorem dX4_image_17 : decode cX4_image 17 = .ok (.getfield 58, 3) := by decide +kernel
theorem dX4_image_20 : decode cX4_image 20 = .ok (.getfield 79, 3) := by decide +kernel
theorem dX4_image_23 : decode cX4_image 23 = .ok (.ireturn, 1) := by decide +kernel
theorem dX4_back_0 : decode cX4_back 0 = .ok (.aload_n 0, 1) := by decide +kernel
theorem dX4_back_1 : decode cX4_back 1 = .ok (.getfield 243, 3) := by decide +kernel
theorem dX4_back_4 : decode cX4_back 4 = .ok (.ifCond .ne 6, 3) := by decide +kernel
theorem dX4_back_7 : decode cX4_back 7 = .ok (.bipush (-3), 2) := by decide +kernel
theorem dX4_back_9 : decode cX4_back 9 = .ok (.ireturn, 1) := by decide +kernel
theorem dX4_back_10 : decode cX4_back 10 = .ok (.aload_n 0, 1) := by decide +kernel
theorem dX4_back_11 : decode cX4_back 11 = .ok (.getfield 58, 3) := by decide +kernel
theorem dX4_back_14 : decode cX4_back 14 = .ok (.aload_n 0, 1) := by decide +kernel
theorem dX4_back_15 : decode cX4_back 15 = .ok (.getfield 65, 3) := by decide +kernel
theorem dX4_back_18 : decode cX4_back 18 = .ok (.invokevirtual 168, 3) := by decide +kernel
theorem dX4_back_21 : decode cX4_back 21 = .ok (.aload_n 0, 1) := by decide +kernel
theorem dX4_back_22 : decode cX4_back 22 = .ok (.getfield 58, 3) := by decide +kernel
theorem dX4_back_25 : decode cX4_back 25 = .ok (.getfield 79, 3) := by decide +kernel
theorem dX4_back_28 : decode cX4_back 28 = .ok (.ireturn, 1) := by decide +kernel
theorem dX4_sheet_0 : decode cX4_sheet 0 = .ok (.iload_n 1, 1) := by decide +kernel
theorem dX4_sheet_1 : decode cX4_sheet 1 = .ok (.invokestatic 223, 3) := by decide +kernel
theorem dX4_sheet_4 : decode cX4_sheet 4 = .ok (.ifCond .eq 12, 3) := by decide +kernel
theorem dX4_sheet_7 : decode cX4_sheet 7 = .ok (.iload_n 2, 1) := by decide +kernel
theorem dX4_sheet_8 : decode cX4_sheet 8 = .ok (.iconst (-1), 1) := by decide +kernel
theorem dX4_sheet_9 : decode cX4_sheet 9 = .ok (.iconst 2, 1) := by decide +kernel
theorem dX4_sheet_10 : decode cX4_sheet 10 = .ok (.invokestatic 89, 3) := by decide +kernel
theorem dX4_sheet_13 : decode cX4_sheet 13 = .ok (.ifCond .ne 6, 3) := by decide +kernel
theorem dX4_sheet_16 : decode cX4_sheet 16 = .ok (.bipush (-2), 2) := by decide +kernel
theorem dX4_sheet_18 : decode cX4_sheet 18 = .ok (.ireturn, 1) := by decide +kernel
theorem dX4_sheet_19 : decode cX4_sheet 19 = .ok (.iload_n 2, 1) := by decide +kernel
theorem dX4_sheet_20 : decode cX4_sheet 20 = .ok (.iconst (-1), 1) := by decide +kernel
theorem dX4_sheet_21 : decode cX4_sheet 21 = .ok (.if_icmp .ne 16, 3) := by decide +kernel
theorem dX4_sheet_24 : decode cX4_sheet 24 = .ok (.aload_n 0, 1) := by decide +kernel
theorem dX4_sheet_25 : decode cX4_sheet 25 = .ok (.getfield 71, 3) := by decide +kernel
theorem dX4_sheet_28 : decode cX4_sheet 28 = .ok (.iload_n 1, 1) := by decide +kernel
theorem dX4_sheet_29 : decode cX4_sheet 29 = .ok (.aaload, 1) := by decide +kernel
theorem dX4_sheet_30 : decode cX4_sheet 30 = .ok (.iconst (-1), 1) := by decide +kernel
theorem dX4_sheet_31 : decode cX4_sheet 31 = .ok (.iconst 0, 1) := by decide +kernel
theorem dX4_sheet_32 : decode cX4_sheet 32 = .ok (.invokevirtual 226, 3) := by decide +kernel
theorem dX4_sheet_35 : decode cX4_sheet 35 = .ok (.iconst 1, 1) := by decide +kernel
theorem dX4_sheet_36 : decode cX4_sheet 36 = .ok (.ireturn, 1) := by decide +kernel
theorem dX4_sheet_37 : decode cX4_sheet 37 = .ok (.iload_n 3, 1) := by decide +kernel
theorem dX4_sheet_38 : decode cX4_sheet 38 = .ok (.bipush 40, 2) := by decide +kernel
theorem dX4_sheet_40 : decode cX4_sheet 40 = .ok (.if_icmp .le 6, 3) := by decide +kernel
theorem dX4_sheet_43 : decode cX4_sheet 43 = .ok (.bipush (-2), 2) := by decide +kernel
theorem dX4_sheet_45 : decode cX4_sheet 45 = .ok (.ireturn, 1) := by decide +kernel
theorem dX4_sheet_46 : decode cX4_sheet 46 = .ok (.iload_n 3, 1) := by decide +kernel
theorem dX4_sheet_47 : decode cX4_sheet 47 = .ok (.ifCond .ge 6, 3) := by decide +kernel
theorem dX4_sheet_50 : decode cX4_sheet 50 = .ok (.bipush (-14), 2) := by decide +kernel
theorem dX4_sheet_52 : decode cX4_sheet 52 = .ok (.ireturn, 1) := by decide +kernel
theorem dX4_sheet_53 : decode cX4_sheet 53 = .ok (.aload_n 0, 1) := by decide +kernel
theorem dX4_sheet_54 : decode cX4_sheet 54 = .ok (.getfield 71, 3) := by decide +kernel
theorem dX4_sheet_57 : decode cX4_sheet 57 = .ok (.iload_n 1, 1) := by decide +kernel
theorem dX4_sheet_58 : decode cX4_sheet 58 = .ok (.aaload, 1) := by decide +kernel
theorem dX4_sheet_59 : decode cX4_sheet 59 = .ok (.iload_n 2, 1) := by decide +kernel
theorem dX4_sheet_60 : decode cX4_sheet 60 = .ok (.iload_n 3, 1) := by decide +kernel
theorem dX4_sheet_61 : decode cX4_sheet 61 = .ok (.invokevirtual 226, 3) := by decide +kernel
theorem dX4_sheet_64 : decode cX4_sheet 64 = .ok (.iconst 1, 1) := by decide +kernel
theorem dX4_sheet_65 : decode cX4_sheet 65 = .ok (.ireturn, 1) := by decide +kernel
theorem dX4_cell_0 : decode cX4_cell 0 = .ok (.iload_n 1, 1) := by decide +kernel
theorem dX4_cell_1 : decode cX4_cell 1 = .ok (.invokestatic 223, 3) := by decide +kernel
theorem dX4_cell_4 : decode cX4_cell 4 = .ok (.ifCond .ne 6, 3) := by decide +kernel
theorem dX4_cell_7 : decode cX4_cell 7 = .ok (.bipush (-2), 2) := by decide +kernel
theorem dX4_cell_9 : decode cX4_cell 9 = .ok (.ireturn, 1) := by decide +kernel
theorem dX4_cell_10 : decode cX4_cell 10 = .ok (.aload_n 0, 1) := by decide +kernel
theorem dX4_cell_11 : decode cX4_cell 11 = .ok (.getfield 71, 3) := by decide +kernel
theorem dX4_cell_14 : decode cX4_cell 14 = .ok (.iload_n 1, 1) := by decide +kernel
theorem dX4_cell_15 : decode cX4_cell 15 = .ok (.aaload, 1) := by decide +kernel
theorem dX4_cell_16 : decode cX4_cell 16 = .ok (.invokevirtual 247, 3) := by decide +kernel
theorem dX4_cell_19 : decode cX4_cell 19 = .ok (.ifCond .eq 6, 3) := by decide +kernel
theorem dX4_cell_22 : decode cX4_cell 22 = .ok (.bipush (-11), 2) := by decide +kernel
theorem dX4_cell_24 : decode cX4_cell 24 = .ok (.ireturn, 1) := by decide +kernel
theorem dX4_cell_25 : decode cX4_cell 25 = .ok (.aload_n 0, 1) := by decide +kernel
theorem dX4_cell_26 : decode cX4_cell 26 = .ok (.getfield 71, 3) := by decide +kernel
theorem dX4_cell_29 : decode cX4_cell 29 = .ok (.iload_n 1, 1) := by decide +kernel
theorem dX4_cell_30 : decode cX4_cell 30 = .ok (.aaload, 1) := by decide +kernel
theorem dX4_cell_31 : decode cX4_cell 31 = .ok (.iload_n 2, 1) := by decide +kernel
theorem dX4_cell_32 : decode cX4_cell 32 = .ok (.invokevirtual 250, 3) := by decide +kernel
theorem dX4_cell_35 : decode cX4_cell 35 = .ok (.ifCond .ne 6, 3) := by decide +kernel
theorem dX4_cell_38 : decode cX4_cell 38 = .ok (.bipush (-12), 2) := by decide +kernel
theorem dX4_cell_40 : decode cX4_cell 40 = .ok (.ireturn, 1) := by decide +kernel
theorem dX4_cell_41 : decode cX4_cell 41 = .ok (.aload_n 0, 1) := by decide +kernel
theorem dX4_cell_42 : decode cX4_cell 42 = .ok (.getfield 71, 3) := by decide +kernel
theorem dX4_cell_45 : decode cX4_cell 45 = .ok (.iload_n 1, 1) := by decide +kernel
theorem dX4_cell_46 : decode cX4_cell 46 = .ok (.aaload, 1) := by decide +kernel
theorem dX4_cell_47 : decode cX4_cell 47 = .ok (.iload_n 2, 1) := by decide +kernel
theorem dX4_cell_48 : decode cX4_cell 48 = .ok (.iload_n 3, 1) := by decide +kernel
theorem dX4_cell_49 : decode cX4_cell 49 = .ok (.invokevirtual 228, 3) := by decide +kernel
theorem dX4_cell_52 : decode cX4_cell 52 = .ok (.iconst 1, 1) := by decide +kernel
theorem dX4_cell_53 : decode cX4_cell 53 = .ok (.ireturn, 1) := by decide +kernel
theorem dX4_copy_0 : decode cX4_copy 0 = .ok (.iload_n 1, 1) := by decide +kernel
theorem dX4_copy_1 : decode cX4_copy 1 = .ok (.invokestatic 223, 3) := by decide +kernel
theorem dX4_copy_4 : decode cX4_copy 4 = .ok (.ifCond .eq 10, 3) := by decide +kernel
theorem dX4_copy_7 : decode cX4_copy 7 = .ok (.iload_n 3, 1) := by decide +kernel
theorem dX4_copy_8 : decode cX4_copy 8 = .ok (.invokestatic 223, 3) := by decide +kernel
theorem dX4_copy_11 : decode cX4_copy 11 = .ok (.ifCond .ne 6, 3) := by decide +kernel
theorem dX4_copy_14 : decode cX4_copy 14 = .ok (.bipush (-2), 2) := by decide +kernel
theorem dX4_copy_16 : decode cX4_copy 16 = .ok (.ireturn, 1) := by decide +kernel
theorem dX4_copy_17 : decode cX4_copy 17 = .ok (.aload_n 0, 1) := by decide +kernel
theorem dX4_copy_18 : decode cX4_copy 18 = .ok (.getfield 71, 3) := by decide +kernel
theorem dX4_copy_21 : decode cX4_copy 21 = .ok (.iload_n 1, 1) := by decide +kernel
theorem dX4_copy_22 : decode cX4_copy 22 = .ok (.aaload, 1) := by decide +kernel
theorem dX4_copy_23 : decode cX4_copy 23 = .ok (.astore 6, 2) := by decide +kernel
theorem dX4_copy_25 : decode cX4_copy 25 = .ok (.aload_n 0, 1) := by decide +kernel
theorem dX4_copy_26 : decode cX4_copy 26 = .ok (.getfield 71, 3) := by decide +kernel
theorem dX4_copy_29 : decode cX4_copy 29 = .ok (.iload_n 3, 1) := by decide +kernel
theorem dX4_copy_30 : decode cX4_copy 30 = .ok (.aaload, 1) := by decide +kernel
theorem dX4_copy_31 : decode cX4_copy 31 = .ok (.astore 7, 2) := by decide +kernel
theorem dX4_copy_33 : decode cX4_copy 33 = .ok (.aload 6, 2) := by decide +kernel
theorem dX4_copy_35 : decode cX4_copy 35 = .ok (.invokevirtual 247, 3) := by decide +kernel
theorem dX4_copy_38 : decode cX4_copy 38 = .ok (.ifCond .ne 11, 3) := by decide +kernel
theorem dX4_copy_41 : decode cX4_copy 41 = .ok (.aload 7, 2) := by decide +kernel
theorem dX4_copy_43 : decode cX4_copy 43 = .ok (.invokevirtual 247, 3) := by decide +kernel
theorem dX4_copy_46 : decode cX4_copy 46 = .ok (.ifCond .eq 6, 3) := by decide +kernel
theorem dX4_copy_49 : decode cX4_copy 49 = .ok (.bipush (-11), 2) := by decide +kernel
theorem dX4_copy_51 : decode cX4_copy 51 = .ok (.ireturn, 1) := by decide +kernel
theorem dX4_copy_52 : decode cX4_copy 52 = .ok (.aload 6, 2) := by decide +kernel
theorem dX4_copy_54 : decode cX4_copy 54 = .ok (.getfield 251, 3) := by decide +kernel
theorem dX4_copy_57 : decode cX4_copy 57 = .ok (.aload 7, 2) := by decide +kernel
theorem dX4_copy_59 : decode cX4_copy 59 = .ok (.getfield 251, 3) := by decide +kernel
theorem dX4_copy_62 : decode cX4_copy 62 = .ok (.if_icmp .eq 6, 3) := by decide +kernel
theorem dX4_copy_65 : decode cX4_copy 65 = .ok (.bipush (-13), 2) := by decide +kernel
theorem dX4_copy_67 : decode cX4_copy 67 = .ok (.ireturn, 1) := by decide +kernel
theorem dX4_copy_68 : decode cX4_copy 68 = .ok (.aload 6, 2) := by decide +kernel
theorem dX4_copy_70 : decode cX4_copy 70 = .ok (.iload_n 2, 1) := by decide +kernel
theorem dX4_copy_71 : decode cX4_copy 71 = .ok (.iload 5, 2) := by decide +kernel
theorem dX4_copy_73 : decode cX4_copy 73 = .ok (.invokevirtual 254, 3) := by decide +kernel
theorem dX4_copy_76 : decode cX4_copy 76 = .ok (.ifCond .eq 15, 3) := by decide +kernel
theorem dX4_copy_79 : decode cX4_copy 79 = .ok (.aload 7, 2) := by decide +kernel
theorem dX4_copy_81 : decode cX4_copy 81 = .ok (.iload 4, 2) := by decide +kernel
theorem dX4_copy_83 : decode cX4_copy 83 = .ok (.iload 5, 2) := by decide +kernel
theorem dX4_copy_85 : decode cX4_copy 85 = .ok (.invokevirtual 254, 3) := by decide +kernel
theorem dX4_copy_88 : decode cX4_copy 88 = .ok (.ifCond .ne 6, 3) := by decide +kernel
theorem dX4_copy_91 : decode cX4_copy 91 = .ok (.bipush (-12), 2) := by decide +kernel
theorem dX4_copy_93 : decode cX4_copy 93 = .ok (.ireturn, 1) := by decide +kernel
theorem dX4_copy_94 : decode cX4_copy 94 = .ok (.aload 6, 2) := by decide +kernel
theorem dX4_copy_96 : decode cX4_copy 96 = .ok (.getfield 173, 3) := by decide +kernel
theorem dX4_copy_99 : decode cX4_copy 99 = .ok (.iload_n 2, 1) := by decide +kernel
theorem dX4_copy_100 : decode cX4_copy 100 = .ok (.aload 7, 2) := by decide +kernel
theorem dX4_copy_102 : decode cX4_copy 102 = .ok (.getfield 173, 3) := by decide +kernel
theorem dX4_copy_105 : decode cX4_copy 105 = .ok (.iload 4, 2) := by decide +kernel
theorem dX4_copy_107 : decode cX4_copy 107 = .ok (.iload 5, 2) := by decide +kernel
theorem dX4_copy_109 : decode cX4_copy 109 = .ok (.invokestatic 257, 3) := by decide +kernel
theorem dX4_copy_112 : decode cX4_copy 112 = .ok (.iload 5, 2) := by decide +kernel
theorem dX4_copy_114 : decode cX4_copy 114 = .ok (.ireturn, 1) := by decide +kernel
theorem dX4_setBy_0 : decode cX4_setBy 0 = .ok (.iload_n 1, 1) := by decide +kernel
theorem dX4_setBy_1 : decode cX4_setBy 1 = .ok (.invokestatic 223, 3) := by decide +kernel
theorem dX4_setBy_4 : decode cX4_setBy 4 = .ok (.ifCond .eq 23, 3) := by decide +kernel
theorem dX4_setBy_7 : decode cX4_setBy 7 = .ok (.iload_n 2, 1) := by decide +kernel
theorem dX4_setBy_8 : decode cX4_setBy 8 = .ok (.iconst 0, 1) := by decide +kernel
theorem dX4_setBy_9 : decode cX4_setBy 9 = .ok (.iconst 2, 1) := by decide +kernel
theorem dX4_setBy_10 : decode cX4_setBy 10 = .ok (.invokestatic 89, 3) := by decide +kernel
theorem dX4_setBy_13 : decode cX4_setBy 13 = .ok (.ifCond .eq 14, 3) := by decide +kernel
theorem dX4_setBy_16 : decode cX4_setBy 16 = .ok (.iload 4, 2) := by decide +kernel
theorem dX4_setBy_18 : decode cX4_setBy 18 = .ok (.iconst 0, 1) := by decide +kernel
theorem dX4_setBy_19 : decode cX4_setBy 19 = .ok (.bipush 6, 2) := by decide +kernel
theorem dX4_setBy_21 : decode cX4_setBy 21 = .ok (.invokestatic 89, 3) := by decide +kernel
theorem dX4_setBy_24 : decode cX4_setBy 24 = .ok (.ifCond .ne 6, 3) := by decide +kernel
theorem dX4_setBy_27 : decode cX4_setBy 27 = .ok (.bipush (-2), 2) := by decide +kernel
theorem dX4_setBy_29 : decode cX4_setBy 29 = .ok (.ireturn, 1) := by decide +kernel
theorem dX4_setBy_30 : decode cX4_setBy 30 = .ok (.aload_n 0, 1) := by decide +kernel
theorem dX4_setBy_31 : decode cX4_setBy 31 = .ok (.getfield 71, 3) := by decide +kernel
theorem dX4_setBy_34 : decode cX4_setBy 34 = .ok (.iload_n 1, 1) := by decide +kernel
theorem dX4_setBy_35 : decode cX4_setBy 35 = .ok (.aaload, 1) := by decide +kernel
theorem dX4_setBy_36 : decode cX4_setBy 36 = .ok (.astore 5, 2) := by decide +kernel
theorem dX4_setBy_38 : decode cX4_setBy 38 = .ok (.aload 5, 2) := by decide +kernel
theorem dX4_setBy_40 : decode cX4_setBy 40 = .ok (.invokevirtual 247, 3) := by decide +kernel
theorem dX4_setBy_43 : decode cX4_setBy 43 = .ok (.ifCond .eq 6, 3) := by decide +kernel
theorem dX4_setBy_46 : decode cX4_setBy 46 = .ok (.bipush (-11), 2) := by decide +kernel
theorem dX4_setBy_48 : decode cX4_setBy 48 = .ok (.ireturn, 1) := by decide +kernel
theorem dX4_setBy_49 : decode cX4_setBy 49 = .ok (.aload 5, 2) := by decide +kernel
theorem dX4_setBy_51 : decode cX4_setBy 51 = .ok (.getfield 251, 3) := by decide +kernel
theorem dX4_setBy_54 : decode cX4_setBy 54 = .ok (.iload_n 2, 1) := by decide +kernel
theorem dX4_setBy_55 : decode cX4_setBy 55 = .ok (.if_icmp .eq 6, 3) := by decide +kernel
theorem dX4_setBy_58 : decode cX4_setBy 58 = .ok (.bipush (-13), 2) := by decide +kernel
theorem dX4_setBy_60 : decode cX4_setBy 60 = .ok (.ireturn, 1) := by decide +kernel
theorem dX4_setBy_61 : decode cX4_setBy 61 = .ok (.iconst 0, 1) := by decide +kernel
theorem dX4_setBy_62 : decode cX4_setBy 62 = .ok (.istore 6, 2) := by decide +kernel
theorem dX4_setBy_64 : decode cX4_setBy 64 = .ok (.iconst 0, 1) := by decide +kernel
theorem dX4_setBy_65 : decode cX4_setBy 65 = .ok (.istore 7, 2) := by decide +kernel
theorem dX4_setBy_67 : decode cX4_setBy 67 = .ok (.iload 7, 2) := by decide +kernel
theorem dX4_setBy_69 : decode cX4_setBy 69 = .ok (.iload 4, 2) := by decide +kernel
theorem dX4_setBy_71 : decode cX4_setBy 71 = .ok (.if_icmp .ge 70, 3) := by decide +kernel
theorem dX4_setBy_74 : decode cX4_setBy 74 = .ok (.iload_n 3, 1) := by decide +kernel
theorem dX4_setBy_75 : decode cX4_setBy 75 = .ok (.iconst 2, 1) := by decide +kernel
theorem dX4_setBy_76 : decode cX4_setBy 76 = .ok (.iload 7, 2) := by decide +kernel
theorem dX4_setBy_78 : decode cX4_setBy 78 = .ok (.imul, 1) := by decide +kernel
theorem dX4_setBy_79 : decode cX4_setBy 79 = .ok (.iadd, 1) := by decide +kernel
theorem dX4_setBy_80 : decode cX4_setBy 80 = .ok (.istore 8, 2) := by decide +kernel
theorem dX4_setBy_82 : decode cX4_setBy 82 = .ok (.aload 5, 2) := by decide +kernel
theorem dX4_setBy_84 : decode cX4_setBy 84 = .ok (.iload 8, 2) := by decide +kernel
theorem dX4_setBy_86 : decode cX4_setBy 86 = .ok (.invokevirtual 250, 3) := by decide +kernel
theorem dX4_setBy_89 : decode cX4_setBy 89 = .ok (.ifCond .eq 15, 3) := by decide +kernel
theorem dX4_setBy_92 : decode cX4_setBy 92 = .ok (.aload 5, 2) := by decide +kernel
theorem dX4_setBy_94 : decode cX4_setBy 94 = .ok (.iload 8, 2) := by decide +kernel
theorem dX4_setBy_96 : decode cX4_setBy 96 = .ok (.iconst 1, 1) := by decide +kernel
theorem dX4_setBy_97 : decode cX4_setBy 97 = .ok (.iadd, 1) := by decide +kernel
theorem dX4_setBy_98 : decode cX4_setBy 98 = .ok (.invokevirtual 250, 3) := by decide +kernel
theorem dX4_setBy_101 : decode cX4_setBy 101 = .ok (.ifCond .ne 6, 3) := by decide +kernel
theorem dX4_setBy_104 : decode cX4_setBy 104 = .ok (.bipush (-12), 2) := by decide +kernel
theorem dX4_setBy_106 : decode cX4_setBy 106 = .ok (.ireturn, 1) := by decide +kernel
theorem dX4_setBy_107 : decode cX4_setBy 107 = .ok (.aload_n 0, 1) := by decide +kernel
theorem dX4_setBy_108 : decode cX4_setBy 108 = .ok (.aload 5, 2) := by decide +kernel
theorem dX4_setBy_110 : decode cX4_setBy 110 = .ok (.getfield 173, 3) := by decide +kernel
theorem dX4_setBy_113 : decode cX4_setBy 113 = .ok (.iload 8, 2) := by decide +kernel
theorem dX4_setBy_115 : decode cX4_setBy 115 = .ok (.iaload, 1) := by decide +kernel
theorem dX4_setBy_116 : decode cX4_setBy 116 = .ok (.aload 5, 2) := by decide +kernel
theorem dX4_setBy_118 : decode cX4_setBy 118 = .ok (.getfield 173, 3) := by decide +kernel
theorem dX4_setBy_121 : decode cX4_setBy 121 = .ok (.iload 8, 2) := by decide +kernel
theorem dX4_setBy_123 : decode cX4_setBy 123 = .ok (.iconst 1, 1) := by decide +kernel
theorem dX4_setBy_124 : decode cX4_setBy 124 = .ok (.iadd, 1) := by decide +kernel
theorem dX4_setBy_125 : decode cX4_setBy 125 = .ok (.iaload, 1) := by decide +kernel
theorem dX4_setBy_126 : decode cX4_setBy 126 = .ok (.invokevirtual 263, 3) := by decide +kernel
theorem dX4_setBy_129 : decode cX4_setBy 129 = .ok (.ifCond .lt 6, 3) := by decide +kernel
theorem dX4_setBy_132 : decode cX4_setBy 132 = .ok (.iinc 6 1, 3) := by decide +kernel
theorem dX4_setBy_135 : decode cX4_setBy 135 = .ok (.iinc 7 1, 3) := by decide +kernel
theorem dX4_setBy_138 : decode cX4_setBy 138 = .ok (.goto (-71), 3) := by decide +kernel
theorem dX4_setBy_141 : decode cX4_setBy 141 = .ok (.iload 6, 2) := by decide +kernel
theorem dX4_setBy_143 : decode cX4_setBy 143 = .ok (.ireturn, 1) := by decide +kernel
theorem dX4_taken_0 : decode cX4_taken 0 = .ok (.iload_n 2, 1) := by decide +kernel
theorem dX4_taken_1 : decode cX4_taken 1 = .ok (.iconst 0, 1) := by decide +kernel
theorem dX4_taken_2 : decode cX4_taken 2 = .ok (.bipush 6, 2) := by decide +kernel
theorem dX4_taken_4 : decode cX4_taken 4 = .ok (.invokestatic 89, 3) := by decide +kernel
theorem dX4_taken_7 : decode cX4_taken 7 = .ok (.ifCond .ne 6, 3) := by decide +kernel
theorem dX4_taken_10 : decode cX4_taken 10 = .ok (.bipush (-2), 2) := by decide +kernel
theorem dX4_taken_12 : decode cX4_taken 12 = .ok (.ireturn, 1) := by decide +kernel
theorem dX4_taken_13 : decode cX4_taken 13 = .ok (.iload_n 1, 1) := by decide +kernel
theorem dX4_taken_14 : decode cX4_taken 14 = .ok (.iconst 0, 1) := by decide +kernel
theorem dX4_taken_15 : decode cX4_taken 15 = .ok (.bipush 11, 2) := by decide +kernel
theorem dX4_taken_17 : decode cX4_taken 17 = .ok (.invokestatic 89, 3) := by decide +kernel
theorem dX4_taken_20 : decode cX4_taken 20 = .ok (.ifCond .ne 6, 3) := by decide +kernel
theorem dX4_taken_23 : decode cX4_taken 23 = .ok (.bipush (-12), 2) := by decide +kernel
theorem dX4_taken_25 : decode cX4_taken 25 = .ok (.ireturn, 1) := by decide +kernel
theorem dX4_taken_26 : decode cX4_taken 26 = .ok (.iload_n 1, 1) := by decide +kernel
theorem dX4_taken_27 : decode cX4_taken 27 = .ok (.bipush 6, 2) := by decide +kernel
theorem dX4_taken_29 : decode cX4_taken 29 = .ok (.irem, 1) := by decide +kernel
theorem dX4_taken_30 : decode cX4_taken 30 = .ok (.istore_n 3, 1) := by decide +kernel
theorem dX4_taken_31 : decode cX4_taken 31 = .ok (.aload_n 0, 1) := by decide +kernel
theorem dX4_taken_32 : decode cX4_taken 32 = .ok (.getfield 58, 3) := by decide +kernel
theorem dX4_taken_35 : decode cX4_taken 35 = .ok (.iload_n 3, 1) := by decide +kernel
theorem dX4_taken_36 : decode cX4_taken 36 = .ok (.invokevirtual 100, 3) := by decide +kernel
theorem dX4_taken_39 : decode cX4_taken 39 = .ok (.ifCond .ne 6, 3) := by decide +kernel
theorem dX4_taken_42 : decode cX4_taken 42 = .ok (.bipush (-11), 2) := by decide +kernel
theorem dX4_taken_44 : decode cX4_taken 44 = .ok (.ireturn, 1) := by decide +kernel
theorem dX4_taken_45 : decode cX4_taken 45 = .ok (.iload_n 1, 1) := by decide +kernel
theorem dX4_taken_46 : decode cX4_taken 46 = .ok (.bipush 6, 2) := by decide +kernel
theorem dX4_taken_48 : decode cX4_taken 48 = .ok (.if_icmp .lt 24, 3) := by decide +kernel
theorem dX4_taken_51 : decode cX4_taken 51 = .ok (.iload_n 2, 1) := by decide +kernel
theorem dX4_taken_52 : decode cX4_taken 52 = .ok (.bipush 6, 2) := by decide +kernel
theorem dX4_taken_54 : decode cX4_taken 54 = .ok (.if_icmp .ne 15, 3) := by decide +kernel
theorem dX4_taken_57 : decode cX4_taken 57 = .ok (.aload_n 0, 1) := by decide +kernel
theorem dX4_taken_58 : decode cX4_taken 58 = .ok (.getfield 58, 3) := by decide +kernel
theorem dX4_taken_61 : decode cX4_taken 61 = .ok (.getfield 119, 3) := by decide +kernel
theorem dX4_taken_64 : decode cX4_taken 64 = .ok (.iload_n 3, 1) := by decide +kernel
theorem dX4_taken_65 : decode cX4_taken 65 = .ok (.iaload, 1) := by decide +kernel
theorem dX4_taken_66 : decode cX4_taken 66 = .ok (.goto 5, 3) := by decide +kernel
theorem dX4_taken_69 : decode cX4_taken 69 = .ok (.bipush (-13), 2) := by decide +kernel
theorem dX4_taken_71 : decode cX4_taken 71 = .ok (.ireturn, 1) := by decide +kernel
theorem dX4_taken_72 : decode cX4_taken 72 = .ok (.aload_n 0, 1) := by decide +kernel
theorem dX4_taken_73 : decode cX4_taken 73 = .ok (.getfield 58, 3) := by decide +kernel
theorem dX4_taken_76 : decode cX4_taken 76 = .ok (.getfield 122, 3) := by decide +kernel
theorem dX4_taken_79 : decode cX4_taken 79 = .ok (.iload_n 3, 1) := by decide +kernel
theorem dX4_taken_80 : decode cX4_taken 80 = .ok (.iaload, 1) := by decide +kernel
theorem dX4_taken_81 : decode cX4_taken 81 = .ok (.iload_n 2, 1) := by decide +kernel
theorem dX4_taken_82 : decode cX4_taken 82 = .ok (.invokestatic 266, 3) := by decide +kernel
theorem dX4_taken_85 : decode cX4_taken 85 = .ok (.ifCond .eq 7, 3) := by decide +kernel
theorem dX4_taken_88 : decode cX4_taken 88 = .ok (.iload_n 3, 1) := by decide +kernel
theorem dX4_taken_89 : decode cX4_taken 89 = .ok (.goto 5, 3) := by decide +kernel
theorem dX4_taken_92 : decode cX4_taken 92 = .ok (.bipush (-13), 2) := by decide +kernel
theorem dX4_taken_94 : decode cX4_taken 94 = .ok (.ireturn, 1) := by decide +kernel
theorem dX4_within_0 : decode cX4_within 0 = .ok (.iload_n 0, 1) := by decide +kernel
theorem dX4_within_1 : decode cX4_within 1 = .ok (.iload_n 1, 1) := by decide +kernel
theorem dX4_within_2 : decode cX4_within 2 = .ok (.if_icmp .lt 12, 3) := by decide +kernel
theorem dX4_within_5 : decode cX4_within 5 = .ok (.iload_n 0, 1) := by decide +kernel
theorem dX4_within_6 : decode cX4_within 6 = .ok (.iload_n 2, 1) := by decide +kernel
theorem dX4_within_7 : decode cX4_within 7 = .ok (.if_icmp .gt 7, 3) := by decide +kernel
theorem dX4_within_10 : decode cX4_within 10 = .ok (.iconst 1, 1) := by decide +kernel
theorem dX4_within_11 : decode cX4_within 11 = .ok (.goto 4, 3) := by decide +kernel
theorem dX4_within_14 : decode cX4_within 14 = .ok (.iconst 0, 1) := by decide +kernel
theorem dX4_within_15 : decode cX4_within 15 = .ok (.ireturn, 1) := by decide +kernel
theorem dX4_bounded_0 : decode cX4_bounded 0 = .ok (.iload_n 1, 1) := by decide +kernel
theorem dX4_bounded_1 : decode cX4_bounded 1 = .ok (.iload_n 0, 1) := by decide +kernel
theorem dX4_bounded_2 : decode cX4_bounded 2 = .ok (.iload_n 2, 1) := by decide +kernel
theorem dX4_bounded_3 : decode cX4_bounded 3 = .ok (.invokestatic 269, 3) := by decide +kernel
theorem dX4_bounded_6 : decode cX4_bounded 6 = .ok (.invokestatic 179, 3) := by decide +kernel
theorem dX4_bounded_9 : decode cX4_bounded 9 = .ok (.ireturn, 1) := by decide +kernel
theorem dX4_isByte_0 : decode cX4_isByte 0 = .ok (.iload_n 0, 1) := by decide +kernel
theorem dX4_isByte_1 : decode cX4_isByte 1 = .ok (.iconst 0, 1) := by decide +kernel
theorem dX4_isByte_2 : decode cX4_isByte 2 = .ok (.sipush 255, 3) := by decide +kernel
theorem dX4_isByte_5 : decode cX4_isByte 5 = .ok (.invokestatic 89, 3) := by decide +kernel
theorem dX4_isByte_8 : decode cX4_isByte 8 = .ok (.ireturn, 1) := by decide +kernel
theorem dX4_isSort_0 : decode cX4_isSort 0 = .ok (.iload_n 0, 1) := by decide +kernel
theorem dX4_isSort_1 : decode cX4_isSort 1 = .ok (.iconst 0, 1) := by decide +kernel
theorem dX4_isSort_2 : decode cX4_isSort 2 = .ok (.bipush 7, 2) := by decide +kernel
theorem dX4_isSort_4 : decode cX4_isSort 4 = .ok (.invokestatic 89, 3) := by decide +kernel
theorem dX4_isSort_7 : decode cX4_isSort 7 = .ok (.ireturn, 1) := by decide +kernel
theorem dX4_isSheet_0 : decode cX4_isSheet 0 = .ok (.iload_n 0, 1) := by decide +kernel
theorem dX4_isSheet_1 : decode cX4_isSheet 1 = .ok (.iconst 0, 1) := by decide +kernel
theorem dX4_isSheet_2 : decode cX4_isSheet 2 = .ok (.iconst 3, 1) := by decide +kernel
theorem dX4_isSheet_3 : decode cX4_isSheet 3 = .ok (.invokestatic 89, 3) := by decide +kernel
theorem dX4_isSheet_6 : decode cX4_isSheet 6 = .ok (.ireturn, 1) := by decide +kernel
theorem dX4_isA_0 : decode cX4_isA 0 = .ok (.iload_n 0, 1) := by decide +kernel
theorem dX4_isA_1 : decode cX4_isA 1 = .ok (.iload_n 1, 1) := by decide +kernel
theorem dX4_isA_2 : decode cX4_isA 2 = .ok (.if_icmp .eq 27, 3) := by decide +kernel
theorem dX4_isA_5 : decode cX4_isA 5 = .ok (.iload_n 1, 1) := by decide +kernel
theorem dX4_isA_6 : decode cX4_isA 6 = .ok (.ifCond .eq 23, 3) := by decide +kernel
theorem dX4_isA_9 : decode cX4_isA 9 = .ok (.iload_n 0, 1) := by decide +kernel
theorem dX4_isA_10 : decode cX4_isA 10 = .ok (.iconst 3, 1) := by decide +kernel
theorem dX4_isA_11 : decode cX4_isA 11 = .ok (.if_icmp .ne 8, 3) := by decide +kernel
theorem dX4_isA_14 : decode cX4_isA 14 = .ok (.iload_n 1, 1) := by decide +kernel
theorem dX4_isA_15 : decode cX4_isA 15 = .ok (.iconst 1, 1) := by decide +kernel
theorem dX4_isA_16 : decode cX4_isA 16 = .ok (.if_icmp .eq 13, 3) := by decide +kernel
theorem dX4_isA_19 : decode cX4_isA 19 = .ok (.iload_n 0, 1) := by decide +kernel
theorem dX4_isA_20 : decode cX4_isA 20 = .ok (.iconst 4, 1) := by decide +kernel
theorem dX4_isA_21 : decode cX4_isA 21 = .ok (.if_icmp .ne 12, 3) := by decide +kernel
theorem dX4_isA_24 : decode cX4_isA 24 = .ok (.iload_n 1, 1) := by decide +kernel
theorem dX4_isA_25 : decode cX4_isA 25 = .ok (.iconst 2, 1) := by decide +kernel
theorem dX4_isA_26 : decode cX4_isA 26 = .ok (.if_icmp .ne 7, 3) := by decide +kernel
theorem dX4_isA_29 : decode cX4_isA 29 = .ok (.iconst 1, 1) := by decide +kernel
theorem dX4_isA_30 : decode cX4_isA 30 = .ok (.goto 4, 3) := by decide +kernel
theorem dX4_isA_33 : decode cX4_isA 33 = .ok (.iconst 0, 1) := by decide +kernel
theorem dX4_isA_34 : decode cX4_isA 34 = .ok (.ireturn, 1) := by decide +kernel
theorem dX4_refusesEvening_0 : decode cX4_refusesEvening 0 = .ok (.iload_n 1, 1) := by decide +kernel
theorem dX4_refusesEvening_1 : decode cX4_refusesEvening 1 = .ok (.invokestatic 223, 3) := by decide +kernel
theorem dX4_refusesEvening_4 : decode cX4_refusesEvening 4 = .ok (.ifCond .ne 6, 3) := by decide +kernel
theorem dX4_refusesEvening_7 : decode cX4_refusesEvening 7 = .ok (.bipush (-2), 2) := by decide +kernel
theorem dX4_refusesEvening_9 : decode cX4_refusesEvening 9 = .ok (.ireturn, 1) := by decide +kernel
theorem dX4_refusesEvening_10 : decode cX4_refusesEvening 10 = .ok (.aload_n 0, 1) := by decide +kernel
theorem dX4_refusesEvening_11 : decode cX4_refusesEvening 11 = .ok (.getfield 71, 3) := by decide +kernel
theorem dX4_refusesEvening_14 : decode cX4_refusesEvening 14 = .ok (.iload_n 1, 1) := by decide +kernel
theorem dX4_refusesEvening_15 : decode cX4_refusesEvening 15 = .ok (.aaload, 1) := by decide +kernel
theorem dX4_refusesEvening_16 : decode cX4_refusesEvening 16 = .ok (.astore_n 2, 1) := by decide +kernel
theorem dX4_refusesEvening_17 : decode cX4_refusesEvening 17 = .ok (.aload_n 2, 1) := by decide +kernel
theorem dX4_refusesEvening_18 : decode cX4_refusesEvening 18 = .ok (.invokevirtual 247, 3) := by decide +kernel
theorem dX4_refusesEvening_21 : decode cX4_refusesEvening 21 = .ok (.ifCond .eq 6, 3) := by decide +kernel
theorem dX4_refusesEvening_24 : decode cX4_refusesEvening 24 = .ok (.bipush (-11), 2) := by decide +kernel
theorem dX4_refusesEvening_26 : decode cX4_refusesEvening 26 = .ok (.ireturn, 1) := by decide +kernel
theorem dX4_refusesEvening_27 : decode cX4_refusesEvening 27 = .ok (.iconst 0, 1) := by decide +kernel
theorem dX4_refusesEvening_28 : decode cX4_refusesEvening 28 = .ok (.istore_n 3, 1) := by decide +kernel
theorem dX4_refusesEvening_29 : decode cX4_refusesEvening 29 = .ok (.iload_n 3, 1) := by decide +kernel
theorem dX4_refusesEvening_30 : decode cX4_refusesEvening 30 = .ok (.aload_n 2, 1) := by decide +kernel
theorem dX4_refusesEvening_31 : decode cX4_refusesEvening 31 = .ok (.getfield 172, 3) := by decide +kernel
theorem dX4_refusesEvening_34 : decode cX4_refusesEvening 34 = .ok (.if_icmp .ge 57, 3) := by decide +kernel
theorem dX4_refusesEvening_37 : decode cX4_refusesEvening 37 = .ok (.aload_n 2, 1) := by decide +kernel
theorem dX4_refusesEvening_38 : decode cX4_refusesEvening 38 = .ok (.getfield 173, 3) := by decide +kernel
theorem dX4_refusesEvening_41 : decode cX4_refusesEvening 41 = .ok (.iload_n 3, 1) := by decide +kernel
theorem dX4_refusesEvening_42 : decode cX4_refusesEvening 42 = .ok (.iaload, 1) := by decide +kernel
theorem dX4_refusesEvening_43 : decode cX4_refusesEvening 43 = .ok (.istore 4, 2) := by decide +kernel
theorem dX4_refusesEvening_45 : decode cX4_refusesEvening 45 = .ok (.iload 4, 2) := by decide +kernel
theorem dX4_refusesEvening_47 : decode cX4_refusesEvening 47 = .ok (.iconst (-1), 1) := by decide +kernel
theorem dX4_refusesEvening_48 : decode cX4_refusesEvening 48 = .ok (.if_icmp .eq 37, 3) := by decide +kernel
theorem dX4_refusesEvening_51 : decode cX4_refusesEvening 51 = .ok (.iload 4, 2) := by decide +kernel
theorem dX4_refusesEvening_53 : decode cX4_refusesEvening 53 = .ok (.ifCond .lt 29, 3) := by decide +kernel
theorem dX4_refusesEvening_56 : decode cX4_refusesEvening 56 = .ok (.aload_n 0, 1) := by decide +kernel
theorem dX4_refusesEvening_57 : decode cX4_refusesEvening 57 = .ok (.getfield 58, 3) := by decide +kernel
theorem dX4_refusesEvening_60 : decode cX4_refusesEvening 60 = .ok (.iload 4, 2) := by decide +kernel
theorem dX4_refusesEvening_62 : decode cX4_refusesEvening 62 = .ok (.bipush 10, 2) := by decide +kernel
theorem dX4_refusesEvening_64 : decode cX4_refusesEvening 64 = .ok (.idiv, 1) := by decide +kernel
theorem dX4_refusesEvening_65 : decode cX4_refusesEvening 65 = .ok (.invokevirtual 100, 3) := by decide +kernel
theorem dX4_refusesEvening_68 : decode cX4_refusesEvening 68 = .ok (.ifCond .eq 14, 3) := by decide +kernel
theorem dX4_refusesEvening_71 : decode cX4_refusesEvening 71 = .ok (.iload 4, 2) := by decide +kernel
theorem dX4_refusesEvening_73 : decode cX4_refusesEvening 73 = .ok (.bipush 10, 2) := by decide +kernel
theorem dX4_refusesEvening_75 : decode cX4_refusesEvening 75 = .ok (.irem, 1) := by decide +kernel
theorem dX4_refusesEvening_76 : decode cX4_refusesEvening 76 = .ok (.invokestatic 103, 3) := by decide +kernel
theorem dX4_refusesEvening_79 : decode cX4_refusesEvening 79 = .ok (.ifCond .ne 6, 3) := by decide +kernel
theorem dX4_refusesEvening_82 : decode cX4_refusesEvening 82 = .ok (.bipush (-2), 2) := by decide +kernel
theorem dX4_refusesEvening_84 : decode cX4_refusesEvening 84 = .ok (.ireturn, 1) := by decide +kernel
theorem dX4_refusesEvening_85 : decode cX4_refusesEvening 85 = .ok (.iinc 3 1, 3) := by decide +kernel
theorem dX4_refusesEvening_88 : decode cX4_refusesEvening 88 = .ok (.goto (-59), 3) := by decide +kernel
theorem dX4_refusesEvening_91 : decode cX4_refusesEvening 91 = .ok (.iconst 0, 1) := by decide +kernel
theorem dX4_refusesEvening_92 : decode cX4_refusesEvening 92 = .ok (.ireturn, 1) := by decide +kernel
theorem dX4_refusesTold_0 : decode cX4_refusesTold 0 = .ok (.iload_n 2, 1) := by decide +kernel
theorem dX4_refusesTold_1 : decode cX4_refusesTold 1 = .ok (.invokestatic 223, 3) := by decide +kernel
theorem dX4_refusesTold_4 : decode cX4_refusesTold 4 = .ok (.ifCond .ne 6, 3) := by decide +kernel
theorem dX4_refusesTold_7 : decode cX4_refusesTold 7 = .ok (.bipush (-2), 2) := by decide +kernel
theorem dX4_refusesTold_9 : decode cX4_refusesTold 9 = .ok (.ireturn, 1) := by decide +kernel
theorem dX4_refusesTold_10 : decode cX4_refusesTold 10 = .ok (.aload_n 0, 1) := by decide +kernel
theorem dX4_refusesTold_11 : decode cX4_refusesTold 11 = .ok (.iload_n 1, 1) := by decide +kernel
theorem dX4_refusesTold_12 : decode cX4_refusesTold 12 = .ok (.invokevirtual 165, 3) := by decide +kernel
theorem dX4_refusesTold_15 : decode cX4_refusesTold 15 = .ok (.istore_n 3, 1) := by decide +kernel
theorem dX4_refusesTold_16 : decode cX4_refusesTold 16 = .ok (.iload_n 3, 1) := by decide +kernel
theorem dX4_refusesTold_17 : decode cX4_refusesTold 17 = .ok (.ifCond .eq 5, 3) := by decide +kernel
theorem dX4_refusesTold_20 : decode cX4_refusesTold 20 = .ok (.iload_n 3, 1) := by decide +kernel
theorem dX4_refusesTold_21 : decode cX4_refusesTold 21 = .ok (.ireturn, 1) := by decide +kernel
theorem dX4_refusesTold_22 : decode cX4_refusesTold 22 = .ok (.aload_n 0, 1) := by decide +kernel
theorem dX4_refusesTold_23 : decode cX4_refusesTold 23 = .ok (.getfield 71, 3) := by decide +kernel
theorem dX4_refusesTold_26 : decode cX4_refusesTold 26 = .ok (.iload_n 2, 1) := by decide +kernel
theorem dX4_refusesTold_27 : decode cX4_refusesTold 27 = .ok (.aaload, 1) := by decide +kernel
theorem dX4_refusesTold_28 : decode cX4_refusesTold 28 = .ok (.invokevirtual 247, 3) := by decide +kernel
theorem dX4_refusesTold_31 : decode cX4_refusesTold 31 = .ok (.ifCond .eq 6, 3) := by decide +kernel
theorem dX4_refusesTold_34 : decode cX4_refusesTold 34 = .ok (.bipush (-11), 2) := by decide +kernel
theorem dX4_refusesTold_36 : decode cX4_refusesTold 36 = .ok (.ireturn, 1) := by decide +kernel
theorem dX4_refusesTold_37 : decode cX4_refusesTold 37 = .ok (.aload_n 0, 1) := by decide +kernel
theorem dX4_refusesTold_38 : decode cX4_refusesTold 38 = .ok (.getfield 71, 3) := by decide +kernel
theorem dX4_refusesTold_41 : decode cX4_refusesTold 41 = .ok (.iload_n 2, 1) := by decide +kernel
theorem dX4_refusesTold_42 : decode cX4_refusesTold 42 = .ok (.aaload, 1) := by decide +kernel
theorem dX4_refusesTold_43 : decode cX4_refusesTold 43 = .ok (.getfield 172, 3) := by decide +kernel
theorem dX4_refusesTold_46 : decode cX4_refusesTold 46 = .ok (.aload_n 0, 1) := by decide +kernel
theorem dX4_refusesTold_47 : decode cX4_refusesTold 47 = .ok (.getfield 71, 3) := by decide +kernel
theorem dX4_refusesTold_50 : decode cX4_refusesTold 50 = .ok (.iload_n 1, 1) := by decide +kernel
theorem dX4_refusesTold_51 : decode cX4_refusesTold 51 = .ok (.aaload, 1) := by decide +kernel
theorem dX4_refusesTold_52 : decode cX4_refusesTold 52 = .ok (.getfield 172, 3) := by decide +kernel
theorem dX4_refusesTold_55 : decode cX4_refusesTold 55 = .ok (.if_icmp .le 8, 3) := by decide +kernel
theorem dX4_refusesTold_58 : decode cX4_refusesTold 58 = .ok (.bipush (-2), 2) := by decide +kernel
theorem dX4_refusesTold_60 : decode cX4_refusesTold 60 = .ok (.goto 4, 3) := by decide +kernel
theorem dX4_refusesTold_63 : decode cX4_refusesTold 63 = .ok (.iconst 0, 1) := by decide +kernel
theorem dX4_refusesTold_64 : decode cX4_refusesTold 64 = .ok (.ireturn, 1) := by decide +kernel
theorem dX4_refusesJudging_0 : decode cX4_refusesJudging 0 = .ok (.aload_n 0, 1) := by decide +kernel
theorem dX4_refusesJudging_1 : decode cX4_refusesJudging 1 = .ok (.iload_n 1, 1) := by decide +kernel
theorem dX4_refusesJudging_2 : decode cX4_refusesJudging 2 = .ok (.iload_n 2, 1) := by decide +kernel
theorem dX4_refusesJudging_3 : decode cX4_refusesJudging 3 = .ok (.invokevirtual 220, 3) := by decide +kernel
theorem dX4_refusesJudging_6 : decode cX4_refusesJudging 6 = .ok (.istore 4, 2) := by decide +kernel
theorem dX4_refusesJudging_8 : decode cX4_refusesJudging 8 = .ok (.iload 4, 2) := by decide +kernel
theorem dX4_refusesJudging_10 : decode cX4_refusesJudging 10 = .ok (.ifCond .eq 6, 3) := by decide +kernel
theorem dX4_refusesJudging_13 : decode cX4_refusesJudging 13 = .ok (.iload 4, 2) := by decide +kernel
theorem dX4_refusesJudging_15 : decode cX4_refusesJudging 15 = .ok (.ireturn, 1) := by decide +kernel
theorem dX4_refusesJudging_16 : decode cX4_refusesJudging 16 = .ok (.aload_n 0, 1) := by decide +kernel
theorem dX4_refusesJudging_17 : decode cX4_refusesJudging 17 = .ok (.getfield 58, 3) := by decide +kernel
theorem dX4_refusesJudging_20 : decode cX4_refusesJudging 20 = .ok (.iload_n 3, 1) := by decide +kernel
theorem dX4_refusesJudging_21 : decode cX4_refusesJudging 21 = .ok (.invokevirtual 100, 3) := by decide +kernel
theorem dX4_refusesJudging_24 : decode cX4_refusesJudging 24 = .ok (.ifCond .eq 7, 3) := by decide +kernel
theorem dX4_refusesJudging_27 : decode cX4_refusesJudging 27 = .ok (.iconst 0, 1) := by decide +kernel
theorem dX4_refusesJudging_28 : decode cX4_refusesJudging 28 = .ok (.goto 5, 3) := by decide +kernel
theorem dX4_refusesJudging_31 : decode cX4_refusesJudging 31 = .ok (.bipush (-5), 2) := by decide +kernel
theorem dX4_refusesJudging_33 : decode cX4_refusesJudging 33 = .ok (.ireturn, 1) := by decide +kernel
theorem dX4_lowest_0 : decode cX4_lowest 0 = .ok (.iload_n 0, 1) := by decide +kernel
theorem dX4_lowest_1 : decode cX4_lowest 1 = .ok (.istore_n 3, 1) := by decide +kernel
theorem dX4_lowest_2 : decode cX4_lowest 2 = .ok (.iload_n 1, 1) := by decide +kernel
theorem dX4_lowest_3 : decode cX4_lowest 3 = .ok (.istore 4, 2) := by decide +kernel
theorem dX4_lowest_5 : decode cX4_lowest 5 = .ok (.iconst 0, 1) := by decide +kernel
theorem dX4_lowest_6 : decode cX4_lowest 6 = .ok (.istore 5, 2) := by decide +kernel
theorem dX4_lowest_8 : decode cX4_lowest 8 = .ok (.iload 5, 2) := by decide +kernel
theorem dX4_lowest_10 : decode cX4_lowest 10 = .ok (.bipush 100, 2) := by decide +kernel
theorem dX4_lowest_12 : decode cX4_lowest 12 = .ok (.if_icmp .ge 25, 3) := by decide +kernel
theorem dX4_lowest_15 : decode cX4_lowest 15 = .ok (.iload_n 3, 1) := by decide +kernel
theorem dX4_lowest_16 : decode cX4_lowest 16 = .ok (.ifCond .eq 21, 3) := by decide +kernel
theorem dX4_lowest_19 : decode cX4_lowest 19 = .ok (.iload 4, 2) := by decide +kernel
theorem dX4_lowest_21 : decode cX4_lowest 21 = .ok (.iload_n 3, 1) := by decide +kernel
theorem dX4_lowest_22 : decode cX4_lowest 22 = .ok (.irem, 1) := by decide +kernel
theorem dX4_lowest_23 : decode cX4_lowest 23 = .ok (.istore 6, 2) := by decide +kernel
theorem dX4_lowest_25 : decode cX4_lowest 25 = .ok (.iload_n 3, 1) := by decide +kernel
theorem dX4_lowest_26 : decode cX4_lowest 26 = .ok (.istore 4, 2) := by decide +kernel
theorem dX4_lowest_28 : decode cX4_lowest 28 = .ok (.iload 6, 2) := by decide +kernel
theorem dX4_lowest_30 : decode cX4_lowest 30 = .ok (.istore_n 3, 1) := by decide +kernel
theorem dX4_lowest_31 : decode cX4_lowest 31 = .ok (.iinc 5 1, 3) := by decide +kernel
theorem dX4_lowest_34 : decode cX4_lowest 34 = .ok (.goto (-26), 3) := by decide +kernel
theorem dX4_lowest_37 : decode cX4_lowest 37 = .ok (.iconst 1, 1) := by decide +kernel
theorem dX4_lowest_38 : decode cX4_lowest 38 = .ok (.iload 4, 2) := by decide +kernel
theorem dX4_lowest_40 : decode cX4_lowest 40 = .ok (.invokestatic 179, 3) := by decide +kernel
theorem dX4_lowest_43 : decode cX4_lowest 43 = .ok (.istore 5, 2) := by decide +kernel
theorem dX4_lowest_45 : decode cX4_lowest 45 = .ok (.iload_n 2, 1) := by decide +kernel
theorem dX4_lowest_46 : decode cX4_lowest 46 = .ok (.ifCond .ne 7, 3) := by decide +kernel
theorem dX4_lowest_49 : decode cX4_lowest 49 = .ok (.iload_n 0, 1) := by decide +kernel
theorem dX4_lowest_50 : decode cX4_lowest 50 = .ok (.goto 4, 3) := by decide +kernel
theorem dX4_lowest_53 : decode cX4_lowest 53 = .ok (.iload_n 1, 1) := by decide +kernel
theorem dX4_lowest_54 : decode cX4_lowest 54 = .ok (.iload 5, 2) := by decide +kernel
theorem dX4_lowest_56 : decode cX4_lowest 56 = .ok (.idiv, 1) := by decide +kernel
theorem dX4_lowest_57 : decode cX4_lowest 57 = .ok (.i2l, 1) := by decide +kernel
theorem dX4_lowest_58 : decode cX4_lowest 58 = .ok (.lreturn, 1) := by decide +kernel
theorem dJ6_bitCount_0f7a4_0 : decode cJ6_bitCount_0f7a4 0 = .ok (.iload_n 0, 1) := by decide +kernel
theorem dJ6_bitCount_0f7a4_1 : decode cJ6_bitCount_0f7a4 1 = .ok (.iload_n 0, 1) := by decide +kernel
theorem dJ6_bitCount_0f7a4_2 : decode cJ6_bitCount_0f7a4 2 = .ok (.iconst 1, 1) := by decide +kernel
theorem dJ6_bitCount_0f7a4_3 : decode cJ6_bitCount_0f7a4 3 = .ok (.iushr, 1) := by decide +kernel
theorem dJ6_bitCount_0f7a4_4 : decode cJ6_bitCount_0f7a4 4 = .ok (.ldc_w 265, 3) := by decide +kernel
theorem dJ6_bitCount_0f7a4_7 : decode cJ6_bitCount_0f7a4 7 = .ok (.iand, 1) := by decide +kernel
theorem dJ6_bitCount_0f7a4_8 : decode cJ6_bitCount_0f7a4 8 = .ok (.isub, 1) := by decide +kernel
theorem dJ6_bitCount_0f7a4_9 : decode cJ6_bitCount_0f7a4 9 = .ok (.istore_n 0, 1) := by decide +kernel
theorem dJ6_bitCount_0f7a4_10 : decode cJ6_bitCount_0f7a4 10 = .ok (.iload_n 0, 1) := by decide +kernel
theorem dJ6_bitCount_0f7a4_11 : decode cJ6_bitCount_0f7a4 11 = .ok (.ldc_w 266, 3) := by decide +kernel
theorem dJ6_bitCount_0f7a4_14 : decode cJ6_bitCount_0f7a4 14 = .ok (.iand, 1) := by decide +kernel
theorem dJ6_bitCount_0f7a4_15 : decode cJ6_bitCount_0f7a4 15 = .ok (.iload_n 0, 1) := by decide +kernel
theorem dJ6_bitCount_0f7a4_16 : decode cJ6_bitCount_0f7a4 16 = .ok (.iconst 2, 1) := by decide +kernel
theorem dJ6_bitCount_0f7a4_17 : decode cJ6_bitCount_0f7a4 17 = .ok (.iushr, 1) := by decide +kernel
theorem dJ6_bitCount_0f7a4_18 : decode cJ6_bitCount_0f7a4 18 = .ok (.ldc_w 266, 3) := by decide +kernel
theorem dJ6_bitCount_0f7a4_21 : decode cJ6_bitCount_0f7a4 21 = .ok (.iand, 1) := by decide +kernel
theorem dJ6_bitCount_0f7a4_22 : decode cJ6_bitCount_0f7a4 22 = .ok (.iadd, 1) := by decide +kernel
theorem dJ6_bitCount_0f7a4_23 : decode cJ6_bitCount_0f7a4 23 = .ok (.istore_n 0, 1) := by decide +kernel
theorem dJ6_bitCount_0f7a4_24 : decode cJ6_bitCount_0f7a4 24 = .ok (.iload_n 0, 1) := by decide +kernel
theorem dJ6_bitCount_0f7a4_25 : decode cJ6_bitCount_0f7a4 25 = .ok (.iload_n 0, 1) := by decide +kernel
theorem dJ6_bitCount_0f7a4_26 : decode cJ6_bitCount_0f7a4 26 = .ok (.iconst 4, 1) := by decide +kernel
theorem dJ6_bitCount_0f7a4_27 : decode cJ6_bitCount_0f7a4 27 = .ok (.iushr, 1) := by decide +kernel
theorem dJ6_bitCount_0f7a4_28 : decode cJ6_bitCount_0f7a4 28 = .ok (.iadd, 1) := by decide +kernel
theorem dJ6_bitCount_0f7a4_29 : decode cJ6_bitCount_0f7a4 29 = .ok (.ldc_w 267, 3) := by decide +kernel
theorem dJ6_bitCount_0f7a4_32 : decode cJ6_bitCount_0f7a4 32 = .ok (.iand, 1) := by decide +kernel
theorem dJ6_bitCount_0f7a4_33 : decode cJ6_bitCount_0f7a4 33 = .ok (.istore_n 0, 1) := by decide +kernel
theorem dJ6_bitCount_0f7a4_34 : decode cJ6_bitCount_0f7a4 34 = .ok (.iload_n 0, 1) := by decide +kernel
theorem dJ6_bitCount_0f7a4_35 : decode cJ6_bitCount_0f7a4 35 = .ok (.iload_n 0, 1) := by decide +kernel
theorem dJ6_bitCount_0f7a4_36 : decode cJ6_bitCount_0f7a4 36 = .ok (.bipush 8, 2) := by decide +kernel
theorem dJ6_bitCount_0f7a4_38 : decode cJ6_bitCount_0f7a4 38 = .ok (.iushr, 1) := by decide +kernel
theorem dJ6_bitCount_0f7a4_39 : decode cJ6_bitCount_0f7a4 39 = .ok (.iadd, 1) := by decide +kernel
theorem dJ6_bitCount_0f7a4_40 : decode cJ6_bitCount_0f7a4 40 = .ok (.istore_n 0, 1) := by decide +kernel
theorem dJ6_bitCount_0f7a4_41 : decode cJ6_bitCount_0f7a4 41 = .ok (.iload_n 0, 1) := by decide +kernel
theorem dJ6_bitCount_0f7a4_42 : decode cJ6_bitCount_0f7a4 42 = .ok (.iload_n 0, 1) := by decide +kernel
theorem dJ6_bitCount_0f7a4_43 : decode cJ6_bitCount_0f7a4 43 = .ok (.bipush 16, 2) := by decide +kernel
theorem dJ6_bitCount_0f7a4_45 : decode cJ6_bitCount_0f7a4 45 = .ok (.iushr, 1) := by decide +kernel
theorem dJ6_bitCount_0f7a4_46 : decode cJ6_bitCount_0f7a4 46 = .ok (.iadd, 1) := by decide +kernel
theorem dJ6_bitCount_0f7a4_47 : decode cJ6_bitCount_0f7a4 47 = .ok (.istore_n 0, 1) := by decide +kernel
theorem dJ6_bitCount_0f7a4_48 : decode cJ6_bitCount_0f7a4 48 = .ok (.iload_n 0, 1) := by decide +kernel
theorem dJ6_bitCount_0f7a4_49 : decode cJ6_bitCount_0f7a4 49 = .ok (.bipush 63, 2) := by decide +kernel
theorem dJ6_bitCount_0f7a4_51 : decode cJ6_bitCount_0f7a4 51 = .ok (.iand, 1) := by decide +kernel
theorem dJ6_bitCount_0f7a4_52 : decode cJ6_bitCount_0f7a4 52 = .ok (.ireturn, 1) := by decide +kernel
theorem dJ9_max_7cf53_0 : decode cJ9_max_7cf53 0 = .ok (.iload_n 0, 1) := by decide +kernel
theorem dJ9_max_7cf53_1 : decode cJ9_max_7cf53 1 = .ok (.iload_n 1, 1) := by decide +kernel
theorem dJ9_max_7cf53_2 : decode cJ9_max_7cf53 2 = .ok (.if_icmp .lt 7, 3) := by decide +kernel
theorem dJ9_max_7cf53_5 : decode cJ9_max_7cf53 5 = .ok (.iload_n 0, 1) := by decide +kernel
theorem dJ9_max_7cf53_6 : decode cJ9_max_7cf53 6 = .ok (.goto 4, 3) := by decide +kernel
theorem dJ9_max_7cf53_9 : decode cJ9_max_7cf53 9 = .ok (.iload_n 1, 1) := by decide +kernel
theorem dJ9_max_7cf53_10 : decode cJ9_max_7cf53 10 = .ok (.ireturn, 1) := by decide +kernel
theorem dJ9_min_7cf53_0 : decode cJ9_min_7cf53 0 = .ok (.iload_n 0, 1) := by decide +kernel
theorem dJ9_min_7cf53_1 : decode cJ9_min_7cf53 1 = .ok (.iload_n 1, 1) := by decide +kernel
theorem dJ9_min_7cf53_2 : decode cJ9_min_7cf53 2 = .ok (.if_icmp .gt 7, 3) := by decide +kernel
theorem dJ9_min_7cf53_5 : decode cJ9_min_7cf53 5 = .ok (.iload_n 0, 1) := by decide +kernel
theorem dJ9_min_7cf53_6 : decode cJ9_min_7cf53 6 = .ok (.goto 4, 3) := by decide +kernel
theorem dJ9_min_7cf53_9 : decode cJ9_min_7cf53 9 = .ok (.iload_n 1, 1) := by decide +kernel
theorem dJ9_min_7cf53_10 : decode cJ9_min_7cf53 10 = .ok (.ireturn, 1) := by decide +kernel
theorem dJ0_length_8abf5_0 : decode cJ0_length_8abf5 0 = .ok (.aload_n 0, 1) := by decide +kernel
theorem dJ0_length_8abf5_1 : decode cJ0_length_8abf5 1 = .ok (.getfield 9, 3) := by decide +kernel
theorem dJ0_length_8abf5_4 : decode cJ0_length_8abf5 4 = .ok (.arraylength, 1) := by decide +kernel
theorem dJ0_length_8abf5_5 : decode cJ0_length_8abf5 5 = .ok (.aload_n 0, 1) := by decide +kernel
theorem dJ0_length_8abf5_6 : decode cJ0_length_8abf5 6 = .ok (.invokevirtual 335, 3) := by decide +kernel
theorem dJ0_length_8abf5_9 : decode cJ0_length_8abf5 9 = .ok (.ishr, 1) := by decide +kernel
theorem dJ0_length_8abf5_10 : decode cJ0_length_8abf5 10 = .ok (.ireturn, 1) := by decide +kernel
theorem dJ0_charAt_5068e_0 : decode cJ0_charAt_5068e 0 = .ok (.aload_n 0, 1) := by decide +kernel
theorem dJ0_charAt_5068e_1 : decode cJ0_charAt_5068e 1 = .ok (.invokevirtual 492, 3) := by decide +kernel
theorem dJ0_charAt_5068e_4 : decode cJ0_charAt_5068e 4 = .ok (.ifCond .eq 12, 3) := by decide +kernel
theorem dJ0_charAt_5068e_7 : decode cJ0_charAt_5068e 7 = .ok (.aload_n 0, 1) := by decide +kernel
theorem dJ0_charAt_5068e_8 : decode cJ0_charAt_5068e 8 = .ok (.getfield 9, 3) := by decide +kernel
theorem dJ0_charAt_5068e_11 : decode cJ0_charAt_5068e 11 = .ok (.iload_n 1, 1) := by decide +kernel
theorem dJ0_charAt_5068e_12 : decode cJ0_charAt_5068e 12 = .ok (.invokestatic 495, 3) := by decide +kernel
theorem dJ0_charAt_5068e_15 : decode cJ0_charAt_5068e 15 = .ok (.ireturn, 1) := by decide +kernel
theorem dJ0_charAt_5068e_16 : decode cJ0_charAt_5068e 16 = .ok (.aload_n 0, 1) := by decide +kernel
theorem dJ0_charAt_5068e_17 : decode cJ0_charAt_5068e 17 = .ok (.getfield 9, 3) := by decide +kernel
theorem dJ0_charAt_5068e_20 : decode cJ0_charAt_5068e 20 = .ok (.iload_n 1, 1) := by decide +kernel
theorem dJ0_charAt_5068e_21 : decode cJ0_charAt_5068e 21 = .ok (.invokestatic 498, 3) := by decide +kernel
theorem dJ0_charAt_5068e_24 : decode cJ0_charAt_5068e 24 = .ok (.ireturn, 1) := by decide +kernel
theorem dJ0_coder_7d493_0 : decode cJ0_coder_7d493 0 = .ok (.getstatic 38, 3) := by decide +kernel
theorem dJ0_coder_7d493_3 : decode cJ0_coder_7d493 3 = .ok (.ifCond .eq 10, 3) := by decide +kernel
theorem dJ0_coder_7d493_6 : decode cJ0_coder_7d493 6 = .ok (.aload_n 0, 1) := by decide +kernel
theorem dJ0_coder_7d493_7 : decode cJ0_coder_7d493 7 = .ok (.getfield 15, 3) := by decide +kernel
theorem dJ0_coder_7d493_10 : decode cJ0_coder_7d493 10 = .ok (.goto 4, 3) := by decide +kernel
theorem dJ0_coder_7d493_13 : decode cJ0_coder_7d493 13 = .ok (.iconst 1, 1) := by decide +kernel
theorem dJ0_coder_7d493_14 : decode cJ0_coder_7d493 14 = .ok (.ireturn, 1) := by decide +kernel
theorem dJ0_isLatin1_aae02_0 : decode cJ0_isLatin1_aae02 0 = .ok (.getstatic 38, 3) := by decide +kernel
theorem dJ0_isLatin1_aae02_3 : decode cJ0_isLatin1_aae02 3 = .ok (.ifCond .eq 14, 3) := by decide +kernel
theorem dJ0_isLatin1_aae02_6 : decode cJ0_isLatin1_aae02 6 = .ok (.aload_n 0, 1) := by decide +kernel
theorem dJ0_isLatin1_aae02_7 : decode cJ0_isLatin1_aae02 7 = .ok (.getfield 15, 3) := by decide +kernel
theorem dJ0_isLatin1_aae02_10 : decode cJ0_isLatin1_aae02 10 = .ok (.ifCond .ne 7, 3) := by decide +kernel
theorem dJ0_isLatin1_aae02_13 : decode cJ0_isLatin1_aae02 13 = .ok (.iconst 1, 1) := by decide +kernel
theorem dJ0_isLatin1_aae02_14 : decode cJ0_isLatin1_aae02 14 = .ok (.goto 4, 3) := by decide +kernel
theorem dJ0_isLatin1_aae02_17 : decode cJ0_isLatin1_aae02 17 = .ok (.iconst 0, 1) := by decide +kernel
theorem dJ0_isLatin1_aae02_18 : decode cJ0_isLatin1_aae02 18 = .ok (.ireturn, 1) := by decide +kernel
theorem dJ0_checkIndex_df160_0 : decode cJ0_checkIndex_df160 0 = .ok (.iload_n 0, 1) := by decide +kernel
theorem dJ0_checkIndex_df160_1 : decode cJ0_checkIndex_df160 1 = .ok (.iload_n 1, 1) := by decide +kernel
theorem dJ0_checkIndex_df160_2 : decode cJ0_checkIndex_df160 2 = .ok (.getstatic 1053, 3) := by decide +kernel
theorem dJ0_checkIndex_df160_5 : decode cJ0_checkIndex_df160 5 = .ok (.invokestatic 1059, 3) := by decide +kernel
theorem dJ0_checkIndex_df160_8 : decode cJ0_checkIndex_df160 8 = .ok (.pop, 1) := by decide +kernel
theorem dJ0_checkIndex_df160_9 : decode cJ0_checkIndex_df160 9 = .ok (.return_, 1) := by decide +kernel
theorem dJ1_charAt_3b067_0 : decode cJ1_charAt_3b067 0 = .ok (.iload_n 1, 1) := by decide +kernel
theorem dJ1_charAt_3b067_1 : decode cJ1_charAt_3b067 1 = .ok (.aload_n 0, 1) := by decide +kernel
theorem dJ1_charAt_3b067_2 : decode cJ1_charAt_3b067 2 = .ok (.arraylength, 1) := by decide +kernel
theorem dJ1_charAt_3b067_3 : decode cJ1_charAt_3b067 3 = .ok (.invokestatic 9, 3) := by decide +kernel
theorem dJ1_charAt_3b067_6 : decode cJ1_charAt_3b067 6 = .ok (.aload_n 0, 1) := by decide +kernel
theorem dJ1_charAt_3b067_7 : decode cJ1_charAt_3b067 7 = .ok (.iload_n 1, 1) := by decide +kernel
theorem dJ1_charAt_3b067_8 : decode cJ1_charAt_3b067 8 = .ok (.baload, 1) := by decide +kernel
theorem dJ1_charAt_3b067_9 : decode cJ1_charAt_3b067 9 = .ok (.sipush 255, 3) := by decide +kernel
theorem dJ1_charAt_3b067_12 : decode cJ1_charAt_3b067 12 = .ok (.iand, 1) := by decide +kernel
theorem dJ1_charAt_3b067_13 : decode cJ1_charAt_3b067 13 = .ok (.i2c, 1) := by decide +kernel
theorem dJ1_charAt_3b067_14 : decode cJ1_charAt_3b067 14 = .ok (.ireturn, 1) := by decide +kernel
theorem dJ2_getChar_3b067_0 : decode cJ2_getChar_3b067 0 = .ok (.getstatic 44, 3) := by decide +kernel
theorem dJ2_getChar_3b067_3 : decode cJ2_getChar_3b067 3 = .ok (.ifCond .ne 25, 3) := by decide +kernel
theorem dJ2_getChar_3b067_6 : decode cJ2_getChar_3b067 6 = .ok (.iload_n 1, 1) := by decide +kernel
theorem dJ2_getChar_3b067_7 : decode cJ2_getChar_3b067 7 = .ok (.ifCond .lt 11, 3) := by decide +kernel
theorem dJ2_getChar_3b067_10 : decode cJ2_getChar_3b067 10 = .ok (.iload_n 1, 1) := by decide +kernel
theorem dJ2_getChar_3b067_11 : decode cJ2_getChar_3b067 11 = .ok (.aload_n 0, 1) := by decide +kernel
theorem dJ2_getChar_3b067_12 : decode cJ2_getChar_3b067 12 = .ok (.invokestatic 48, 3) := by decide +kernel
theorem dJ2_getChar_3b067_15 : decode cJ2_getChar_3b067 15 = .ok (.if_icmp .lt 13, 3) := by decide +kernel
theorem dJ2_getChar_3b067_18 : decode cJ2_getChar_3b067 18 = .ok (.new 52, 3) := by decide +kernel
theorem dJ2_getChar_3b067_21 : decode cJ2_getChar_3b067 21 = .ok (.dup, 1) := by decide +kernel
theorem dJ2_getChar_3b067_22 : decode cJ2_getChar_3b067 22 = .ok (.ldc 54, 2) := by decide +kernel
theorem dJ2_getChar_3b067_24 : decode cJ2_getChar_3b067 24 = .ok (.invokespecial 56, 3) := by decide +kernel
theorem dJ2_getChar_3b067_27 : decode cJ2_getChar_3b067 27 = .ok (.athrow, 1) := by decide +kernel
theorem dJ2_getChar_3b067_28 : decode cJ2_getChar_3b067 28 = .ok (.iload_n 1, 1) := by decide +kernel
theorem dJ2_getChar_3b067_29 : decode cJ2_getChar_3b067 29 = .ok (.iconst 1, 1) := by decide +kernel
theorem dJ2_getChar_3b067_30 : decode cJ2_getChar_3b067 30 = .ok (.ishl, 1) := by decide +kernel
theorem dJ2_getChar_3b067_31 : decode cJ2_getChar_3b067 31 = .ok (.istore_n 1, 1) := by decide +kernel
theorem dJ2_getChar_3b067_32 : decode cJ2_getChar_3b067 32 = .ok (.aload_n 0, 1) := by decide +kernel
theorem dJ2_getChar_3b067_33 : decode cJ2_getChar_3b067 33 = .ok (.iload_n 1, 1) := by decide +kernel
theorem dJ2_getChar_3b067_34 : decode cJ2_getChar_3b067 34 = .ok (.iinc 1 1, 3) := by decide +kernel
theorem dJ2_getChar_3b067_37 : decode cJ2_getChar_3b067 37 = .ok (.baload, 1) := by decide +kernel
theorem dJ2_getChar_3b067_38 : decode cJ2_getChar_3b067 38 = .ok (.sipush 255, 3) := by decide +kernel
theorem dJ2_getChar_3b067_41 : decode cJ2_getChar_3b067 41 = .ok (.iand, 1) := by decide +kernel
theorem dJ2_getChar_3b067_42 : decode cJ2_getChar_3b067 42 = .ok (.getstatic 59, 3) := by decide +kernel
theorem dJ2_getChar_3b067_45 : decode cJ2_getChar_3b067 45 = .ok (.ishl, 1) := by decide +kernel
theorem dJ2_getChar_3b067_46 : decode cJ2_getChar_3b067 46 = .ok (.aload_n 0, 1) := by decide +kernel
theorem dJ2_getChar_3b067_47 : decode cJ2_getChar_3b067 47 = .ok (.iload_n 1, 1) := by decide +kernel
theorem dJ2_getChar_3b067_48 : decode cJ2_getChar_3b067 48 = .ok (.baload, 1) := by decide +kernel
theorem dJ2_getChar_3b067_49 : decode cJ2_getChar_3b067 49 = .ok (.sipush 255, 3) := by decide +kernel
theorem dJ2_getChar_3b067_52 : decode cJ2_getChar_3b067 52 = .ok (.iand, 1) := by decide +kernel
theorem dJ2_getChar_3b067_53 : decode cJ2_getChar_3b067 53 = .ok (.getstatic 63, 3) := by decide +kernel
theorem dJ2_getChar_3b067_56 : decode cJ2_getChar_3b067 56 = .ok (.ishl, 1) := by decide +kernel
theorem dJ2_getChar_3b067_57 : decode cJ2_getChar_3b067 57 = .ok (.ior, 1) := by decide +kernel
theorem dJ2_getChar_3b067_58 : decode cJ2_getChar_3b067 58 = .ok (.i2c, 1) := by decide +kernel
theorem dJ2_getChar_3b067_59 : decode cJ2_getChar_3b067 59 = .ok (.ireturn, 1) := by decide +kernel
theorem dJ2_length_9d52b_0 : decode cJ2_length_9d52b 0 = .ok (.aload_n 0, 1) := by decide +kernel
theorem dJ2_length_9d52b_1 : decode cJ2_length_9d52b 1 = .ok (.arraylength, 1) := by decide +kernel
theorem dJ2_length_9d52b_2 : decode cJ2_length_9d52b 2 = .ok (.iconst 1, 1) := by decide +kernel
theorem dJ2_length_9d52b_3 : decode cJ2_length_9d52b 3 = .ok (.ishr, 1) := by decide +kernel
theorem dJ2_length_9d52b_4 : decode cJ2_length_9d52b 4 = .ok (.ireturn, 1) := by decide +kernel
theorem dJ2_charAt_3b067_0 : decode cJ2_charAt_3b067 0 = .ok (.iload_n 1, 1) := by decide +kernel
theorem dJ2_charAt_3b067_1 : decode cJ2_charAt_3b067 1 = .ok (.aload_n 0, 1) := by decide +kernel
theorem dJ2_charAt_3b067_2 : decode cJ2_charAt_3b067 2 = .ok (.invokestatic 67, 3) := by decide +kernel
theorem dJ2_charAt_3b067_5 : decode cJ2_charAt_3b067 5 = .ok (.aload_n 0, 1) := by decide +kernel
theorem dJ2_charAt_3b067_6 : decode cJ2_charAt_3b067 6 = .ok (.iload_n 1, 1) := by decide +kernel
theorem dJ2_charAt_3b067_7 : decode cJ2_charAt_3b067 7 = .ok (.invokestatic 71, 3) := by decide +kernel
theorem dJ2_charAt_3b067_10 : decode cJ2_charAt_3b067 10 = .ok (.ireturn, 1) := by decide +kernel
theorem dJ2_checkIndex_2214a_0 : decode cJ2_checkIndex_2214a 0 = .ok (.iload_n 0, 1) := by decide +kernel
theorem dJ2_checkIndex_2214a_1 : decode cJ2_checkIndex_2214a 1 = .ok (.aload_n 1, 1) := by decide +kernel
theorem dJ2_checkIndex_2214a_2 : decode cJ2_checkIndex_2214a 2 = .ok (.invokestatic 48, 3) := by decide +kernel
theorem dJ2_checkIndex_2214a_5 : decode cJ2_checkIndex_2214a 5 = .ok (.invokestatic 414, 3) := by decide +kernel
theorem dJ2_checkIndex_2214a_8 : decode cJ2_checkIndex_2214a 8 = .ok (.return_, 1) := by decide +kernel
theorem dJ3_checkIndex_8e157_0 : decode cJ3_checkIndex_8e157 0 = .ok (.iload_n 0, 1) := by decide +kernel
theorem dJ3_checkIndex_8e157_1 : decode cJ3_checkIndex_8e157 1 = .ok (.ifCond .lt 8, 3) := by decide +kernel
theorem dJ3_checkIndex_8e157_4 : decode cJ3_checkIndex_8e157 4 = .ok (.iload_n 0, 1) := by decide +kernel
theorem dJ3_checkIndex_8e157_5 : decode cJ3_checkIndex_8e157 5 = .ok (.iload_n 1, 1) := by decide +kernel
theorem dJ3_checkIndex_8e157_6 : decode cJ3_checkIndex_8e157 6 = .ok (.if_icmp .lt 10, 3) := by decide +kernel
theorem dJ3_checkIndex_8e157_9 : decode cJ3_checkIndex_8e157 9 = .ok (.aload_n 2, 1) := by decide +kernel
theorem dJ3_checkIndex_8e157_10 : decode cJ3_checkIndex_8e157 10 = .ok (.iload_n 0, 1) := by decide +kernel
theorem dJ3_checkIndex_8e157_11 : decode cJ3_checkIndex_8e157 11 = .ok (.iload_n 1, 1) := by decide +kernel
theorem dJ3_checkIndex_8e157_12 : decode cJ3_checkIndex_8e157 12 = .ok (.invokestatic 95, 3) := by decide +kernel
theorem dJ3_checkIndex_8e157_15 : decode cJ3_checkIndex_8e157 15 = .ok (.athrow, 1) := by decide +kernel
theorem dJ3_checkIndex_8e157_16 : decode cJ3_checkIndex_8e157 16 = .ok (.iload_n 0, 1) := by decide +kernel
theorem dJ3_checkIndex_8e157_17 : decode cJ3_checkIndex_8e157 17 = .ok (.ireturn, 1) := by decide +kernel

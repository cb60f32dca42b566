theorem dL_cell_0 : decode cL_cell 0 = .ok (.iload_n 1, 1) := by decide +kernel
theorem dL_cell_1 : decode cL_cell 1 = .ok (.aload_n 0, 1) := by decide +kernel
theorem dL_cell_2 : decode cL_cell 2 = .ok (.arraylength, 1) := by decide +kernel
theorem dL_cell_3 : decode cL_cell 3 = .ok (.if_icmp .ge 9, 3) := by decide +kernel
theorem dL_cell_6 : decode cL_cell 6 = .ok (.aload_n 0, 1) := by decide +kernel
theorem dL_cell_7 : decode cL_cell 7 = .ok (.iload_n 1, 1) := by decide +kernel
theorem dL_cell_8 : decode cL_cell 8 = .ok (.iaload, 1) := by decide +kernel
theorem dL_cell_9 : decode cL_cell 9 = .ok (.goto 11, 3) := by decide +kernel
theorem dL_cell_12 : decode cL_cell 12 = .ok (.ldc 7, 2) := by decide +kernel
theorem dL_cell_14 : decode cL_cell 14 = .ok (.iload_n 1, 1) := by decide +kernel
theorem dL_cell_15 : decode cL_cell 15 = .ok (.imul, 1) := by decide +kernel
theorem dL_cell_16 : decode cL_cell 16 = .ok (.sipush 2231, 3) := by decide +kernel
theorem dL_cell_19 : decode cL_cell 19 = .ok (.iadd, 1) := by decide +kernel
theorem dL_cell_20 : decode cL_cell 20 = .ok (.ldc 8, 2) := by decide +kernel
theorem dL_cell_22 : decode cL_cell 22 = .ok (.iand, 1) := by decide +kernel
theorem dL_cell_23 : decode cL_cell 23 = .ok (.ireturn, 1) := by decide +kernel
theorem dL_thing_0 : decode cL_thing 0 = .ok (.iconst 1, 1) := by decide +kernel
theorem dL_thing_1 : decode cL_thing 1 = .ok (.istore_n 2, 1) := by decide +kernel
theorem dL_thing_2 : decode cL_thing 2 = .ok (.iconst 0, 1) := by decide +kernel
theorem dL_thing_3 : decode cL_thing 3 = .ok (.istore_n 3, 1) := by decide +kernel
theorem dL_thing_4 : decode cL_thing 4 = .ok (.iload_n 3, 1) := by decide +kernel
theorem dL_thing_5 : decode cL_thing 5 = .ok (.iload_n 1, 1) := by decide +kernel
theorem dL_thing_6 : decode cL_thing 6 = .ok (.iconst 3, 1) := by decide +kernel
theorem dL_thing_7 : decode cL_thing 7 = .ok (.irem, 1) := by decide +kernel
theorem dL_thing_8 : decode cL_thing 8 = .ok (.if_icmp .ge 82, 3) := by decide +kernel
theorem dL_thing_11 : decode cL_thing 11 = .ok (.iload_n 2, 1) := by decide +kernel
theorem dL_thing_12 : decode cL_thing 12 = .ok (.ifCond .eq 78, 3) := by decide +kernel
theorem dL_thing_15 : decode cL_thing 15 = .ok (.iload_n 1, 1) := by decide +kernel
theorem dL_thing_16 : decode cL_thing 16 = .ok (.iconst 2, 1) := by decide +kernel
theorem dL_thing_17 : decode cL_thing 17 = .ok (.iconst 3, 1) := by decide +kernel
theorem dL_thing_18 : decode cL_thing 18 = .ok (.iload_n 3, 1) := by decide +kernel
theorem dL_thing_19 : decode cL_thing 19 = .ok (.imul, 1) := by decide +kernel
theorem dL_thing_20 : decode cL_thing 20 = .ok (.iadd, 1) := by decide +kernel
theorem dL_thing_21 : decode cL_thing 21 = .ok (.ishr, 1) := by decide +kernel
theorem dL_thing_22 : decode cL_thing 22 = .ok (.iconst 5, 1) := by decide +kernel
theorem dL_thing_23 : decode cL_thing 23 = .ok (.irem, 1) := by decide +kernel
theorem dL_thing_24 : decode cL_thing 24 = .ok (.istore 4, 2) := by decide +kernel
theorem dL_thing_26 : decode cL_thing 26 = .ok (.aload_n 0, 1) := by decide +kernel
theorem dL_thing_27 : decode cL_thing 27 = .ok (.iload 4, 2) := by decide +kernel
theorem dL_thing_29 : decode cL_thing 29 = .ok (.ifCond .ne 8, 3) := by decide +kernel
theorem dL_thing_32 : decode cL_thing 32 = .ok (.bipush 33, 2) := by decide +kernel
theorem dL_thing_34 : decode cL_thing 34 = .ok (.goto 38, 3) := by decide +kernel
theorem dL_thing_37 : decode cL_thing 37 = .ok (.iload 4, 2) := by decide +kernel
theorem dL_thing_39 : decode cL_thing 39 = .ok (.iconst 1, 1) := by decide +kernel
theorem dL_thing_40 : decode cL_thing 40 = .ok (.if_icmp .ne 8, 3) := by decide +kernel
theorem dL_thing_43 : decode cL_thing 43 = .ok (.bipush 88, 2) := by decide +kernel
theorem dL_thing_45 : decode cL_thing 45 = .ok (.goto 27, 3) := by decide +kernel
theorem dL_thing_48 : decode cL_thing 48 = .ok (.iload 4, 2) := by decide +kernel
theorem dL_thing_50 : decode cL_thing 50 = .ok (.iconst 2, 1) := by decide +kernel
theorem dL_thing_51 : decode cL_thing 51 = .ok (.if_icmp .ne 8, 3) := by decide +kernel
theorem dL_thing_54 : decode cL_thing 54 = .ok (.bipush 78, 2) := by decide +kernel
theorem dL_thing_56 : decode cL_thing 56 = .ok (.goto 16, 3) := by decide +kernel
theorem dL_thing_59 : decode cL_thing 59 = .ok (.iload 4, 2) := by decide +kernel
theorem dL_thing_61 : decode cL_thing 61 = .ok (.iconst 3, 1) := by decide +kernel
theorem dL_thing_62 : decode cL_thing 62 = .ok (.if_icmp .ne 8, 3) := by decide +kernel
theorem dL_thing_65 : decode cL_thing 65 = .ok (.bipush 71, 2) := by decide +kernel
theorem dL_thing_67 : decode cL_thing 67 = .ok (.goto 5, 3) := by decide +kernel
theorem dL_thing_70 : decode cL_thing 70 = .ok (.bipush 70, 2) := by decide +kernel
theorem dL_thing_72 : decode cL_thing 72 = .ok (.invokevirtual 9, 3) := by decide +kernel
theorem dL_thing_75 : decode cL_thing 75 = .ok (.ifCond .le 7, 3) := by decide +kernel
theorem dL_thing_78 : decode cL_thing 78 = .ok (.iconst 1, 1) := by decide +kernel
theorem dL_thing_79 : decode cL_thing 79 = .ok (.goto 4, 3) := by decide +kernel
theorem dL_thing_82 : decode cL_thing 82 = .ok (.iconst 0, 1) := by decide +kernel
theorem dL_thing_83 : decode cL_thing 83 = .ok (.istore_n 2, 1) := by decide +kernel
theorem dL_thing_84 : decode cL_thing 84 = .ok (.iinc 3 1, 3) := by decide +kernel
theorem dL_thing_87 : decode cL_thing 87 = .ok (.goto (-83), 3) := by decide +kernel
theorem dL_thing_90 : decode cL_thing 90 = .ok (.iload_n 2, 1) := by decide +kernel
theorem dL_thing_91 : decode cL_thing 91 = .ok (.ifCond .eq 24, 3) := by decide +kernel
theorem dL_thing_94 : decode cL_thing 94 = .ok (.aload_n 0, 1) := by decide +kernel
theorem dL_thing_95 : decode cL_thing 95 = .ok (.bipush 97, 2) := by decide +kernel
theorem dL_thing_97 : decode cL_thing 97 = .ok (.iload_n 1, 1) := by decide +kernel
theorem dL_thing_98 : decode cL_thing 98 = .ok (.bipush 9, 2) := by decide +kernel
theorem dL_thing_100 : decode cL_thing 100 = .ok (.ishr, 1) := by decide +kernel
theorem dL_thing_101 : decode cL_thing 101 = .ok (.iconst 4, 1) := by decide +kernel
theorem dL_thing_102 : decode cL_thing 102 = .ok (.irem, 1) := by decide +kernel
theorem dL_thing_103 : decode cL_thing 103 = .ok (.iadd, 1) := by decide +kernel
theorem dL_thing_104 : decode cL_thing 104 = .ok (.i2c, 1) := by decide +kernel
theorem dL_thing_105 : decode cL_thing 105 = .ok (.invokevirtual 9, 3) := by decide +kernel
theorem dL_thing_108 : decode cL_thing 108 = .ok (.ifCond .le 7, 3) := by decide +kernel
theorem dL_thing_111 : decode cL_thing 111 = .ok (.iconst 1, 1) := by decide +kernel
theorem dL_thing_112 : decode cL_thing 112 = .ok (.goto 4, 3) := by decide +kernel
theorem dL_thing_115 : decode cL_thing 115 = .ok (.iconst 0, 1) := by decide +kernel
theorem dL_thing_116 : decode cL_thing 116 = .ok (.ireturn, 1) := by decide +kernel
theorem dL_between_0 : decode cL_between 0 = .ok (.iload_n 0, 1) := by decide +kernel
theorem dL_between_1 : decode cL_between 1 = .ok (.iconst 4, 1) := by decide +kernel
theorem dL_between_2 : decode cL_between 2 = .ok (.irem, 1) := by decide +kernel
theorem dL_between_3 : decode cL_between 3 = .ok (.ifCond .ne 8, 3) := by decide +kernel
theorem dL_between_6 : decode cL_between 6 = .ok (.bipush 124, 2) := by decide +kernel
theorem dL_between_8 : decode cL_between 8 = .ok (.goto 29, 3) := by decide +kernel
theorem dL_between_11 : decode cL_between 11 = .ok (.iload_n 0, 1) := by decide +kernel
theorem dL_between_12 : decode cL_between 12 = .ok (.iconst 4, 1) := by decide +kernel
theorem dL_between_13 : decode cL_between 13 = .ok (.irem, 1) := by decide +kernel
theorem dL_between_14 : decode cL_between 14 = .ok (.iconst 1, 1) := by decide +kernel
theorem dL_between_15 : decode cL_between 15 = .ok (.if_icmp .ne 8, 3) := by decide +kernel
theorem dL_between_18 : decode cL_between 18 = .ok (.bipush 38, 2) := by decide +kernel
theorem dL_between_20 : decode cL_between 20 = .ok (.goto 17, 3) := by decide +kernel
theorem dL_between_23 : decode cL_between 23 = .ok (.iload_n 0, 1) := by decide +kernel
theorem dL_between_24 : decode cL_between 24 = .ok (.iconst 4, 1) := by decide +kernel
theorem dL_between_25 : decode cL_between 25 = .ok (.irem, 1) := by decide +kernel
theorem dL_between_26 : decode cL_between 26 = .ok (.iconst 2, 1) := by decide +kernel
theorem dL_between_27 : decode cL_between 27 = .ok (.if_icmp .ne 8, 3) := by decide +kernel
theorem dL_between_30 : decode cL_between 30 = .ok (.bipush 85, 2) := by decide +kernel
theorem dL_between_32 : decode cL_between 32 = .ok (.goto 5, 3) := by decide +kernel
theorem dL_between_35 : decode cL_between 35 = .ok (.bipush 82, 2) := by decide +kernel
theorem dL_between_37 : decode cL_between 37 = .ok (.ireturn, 1) := by decide +kernel
theorem dL_types_0 : decode cL_types 0 = .ok (.aload_n 0, 1) := by decide +kernel
theorem dL_types_1 : decode cL_types 1 = .ok (.invokevirtual 15, 3) := by decide +kernel
theorem dL_types_4 : decode cL_types 4 = .ok (.ifCond .lt 33, 3) := by decide +kernel
theorem dL_types_7 : decode cL_types 7 = .ok (.iload_n 1, 1) := by decide +kernel
theorem dL_types_8 : decode cL_types 8 = .ok (.bipush 28, 2) := by decide +kernel
theorem dL_types_10 : decode cL_types 10 = .ok (.ishr, 1) := by decide +kernel
theorem dL_types_11 : decode cL_types 11 = .ok (.iconst 2, 1) := by decide +kernel
theorem dL_types_12 : decode cL_types 12 = .ok (.irem, 1) := by decide +kernel
theorem dL_types_13 : decode cL_types 13 = .ok (.ifCond .eq 12, 3) := by decide +kernel
theorem dL_types_16 : decode cL_types 16 = .ok (.aload_n 0, 1) := by decide +kernel
theorem dL_types_17 : decode cL_types 17 = .ok (.bipush 40, 2) := by decide +kernel
theorem dL_types_19 : decode cL_types 19 = .ok (.invokevirtual 9, 3) := by decide +kernel
theorem dL_types_22 : decode cL_types 22 = .ok (.ifCond .le 15, 3) := by decide +kernel
theorem dL_types_25 : decode cL_types 25 = .ok (.aload_n 0, 1) := by decide +kernel
theorem dL_types_26 : decode cL_types 26 = .ok (.iload_n 1, 1) := by decide +kernel
theorem dL_types_27 : decode cL_types 27 = .ok (.invokestatic 19, 3) := by decide +kernel
theorem dL_types_30 : decode cL_types 30 = .ok (.ifCond .eq 7, 3) := by decide +kernel
theorem dL_types_33 : decode cL_types 33 = .ok (.iconst 1, 1) := by decide +kernel
theorem dL_types_34 : decode cL_types 34 = .ok (.goto 4, 3) := by decide +kernel
theorem dL_types_37 : decode cL_types 37 = .ok (.iconst 0, 1) := by decide +kernel
theorem dL_types_38 : decode cL_types 38 = .ok (.istore_n 2, 1) := by decide +kernel
theorem dL_types_39 : decode cL_types 39 = .ok (.iload_n 2, 1) := by decide +kernel
theorem dL_types_40 : decode cL_types 40 = .ok (.ifCond .eq 52, 3) := by decide +kernel
theorem dL_types_43 : decode cL_types 43 = .ok (.aload_n 0, 1) := by decide +kernel
theorem dL_types_44 : decode cL_types 44 = .ok (.iload_n 1, 1) := by decide +kernel
theorem dL_types_45 : decode cL_types 45 = .ok (.bipush 12, 2) := by decide +kernel
theorem dL_types_47 : decode cL_types 47 = .ok (.ishr, 1) := by decide +kernel
theorem dL_types_48 : decode cL_types 48 = .ok (.invokestatic 25, 3) := by decide +kernel
theorem dL_types_51 : decode cL_types 51 = .ok (.invokevirtual 9, 3) := by decide +kernel
theorem dL_types_54 : decode cL_types 54 = .ok (.ifCond .le 38, 3) := by decide +kernel
theorem dL_types_57 : decode cL_types 57 = .ok (.aload_n 0, 1) := by decide +kernel
theorem dL_types_58 : decode cL_types 58 = .ok (.iload_n 1, 1) := by decide +kernel
theorem dL_types_59 : decode cL_types 59 = .ok (.iconst 5, 1) := by decide +kernel
theorem dL_types_60 : decode cL_types 60 = .ok (.ishr, 1) := by decide +kernel
theorem dL_types_61 : decode cL_types 61 = .ok (.bipush 77, 2) := by decide +kernel
theorem dL_types_63 : decode cL_types 63 = .ok (.ixor, 1) := by decide +kernel
theorem dL_types_64 : decode cL_types 64 = .ok (.invokestatic 19, 3) := by decide +kernel
theorem dL_types_67 : decode cL_types 67 = .ok (.ifCond .eq 25, 3) := by decide +kernel
theorem dL_types_70 : decode cL_types 70 = .ok (.iload_n 1, 1) := by decide +kernel
theorem dL_types_71 : decode cL_types 71 = .ok (.bipush 28, 2) := by decide +kernel
theorem dL_types_73 : decode cL_types 73 = .ok (.ishr, 1) := by decide +kernel
theorem dL_types_74 : decode cL_types 74 = .ok (.iconst 2, 1) := by decide +kernel
theorem dL_types_75 : decode cL_types 75 = .ok (.irem, 1) := by decide +kernel
theorem dL_types_76 : decode cL_types 76 = .ok (.ifCond .eq 12, 3) := by decide +kernel
theorem dL_types_79 : decode cL_types 79 = .ok (.aload_n 0, 1) := by decide +kernel
theorem dL_types_80 : decode cL_types 80 = .ok (.bipush 41, 2) := by decide +kernel
theorem dL_types_82 : decode cL_types 82 = .ok (.invokevirtual 9, 3) := by decide +kernel
theorem dL_types_85 : decode cL_types 85 = .ok (.ifCond .le 7, 3) := by decide +kernel
theorem dL_types_88 : decode cL_types 88 = .ok (.iconst 1, 1) := by decide +kernel
theorem dL_types_89 : decode cL_types 89 = .ok (.goto 4, 3) := by decide +kernel
theorem dL_types_92 : decode cL_types 92 = .ok (.iconst 0, 1) := by decide +kernel
theorem dL_types_93 : decode cL_types 93 = .ok (.istore_n 2, 1) := by decide +kernel
theorem dL_types_94 : decode cL_types 94 = .ok (.iload_n 2, 1) := by decide +kernel
theorem dL_types_95 : decode cL_types 95 = .ok (.ifCond .eq 44, 3) := by decide +kernel
theorem dL_types_98 : decode cL_types 98 = .ok (.iload_n 1, 1) := by decide +kernel
theorem dL_types_99 : decode cL_types 99 = .ok (.bipush 15, 2) := by decide +kernel
theorem dL_types_101 : decode cL_types 101 = .ok (.ishr, 1) := by decide +kernel
theorem dL_types_102 : decode cL_types 102 = .ok (.iconst 3, 1) := by decide +kernel
theorem dL_types_103 : decode cL_types 103 = .ok (.irem, 1) := by decide +kernel
theorem dL_types_104 : decode cL_types 104 = .ok (.ifCond .eq 31, 3) := by decide +kernel
theorem dL_types_107 : decode cL_types 107 = .ok (.aload_n 0, 1) := by decide +kernel
theorem dL_types_108 : decode cL_types 108 = .ok (.iload_n 1, 1) := by decide +kernel
theorem dL_types_109 : decode cL_types 109 = .ok (.bipush 17, 2) := by decide +kernel
theorem dL_types_111 : decode cL_types 111 = .ok (.ishr, 1) := by decide +kernel
theorem dL_types_112 : decode cL_types 112 = .ok (.invokestatic 25, 3) := by decide +kernel
theorem dL_types_115 : decode cL_types 115 = .ok (.invokevirtual 9, 3) := by decide +kernel
theorem dL_types_118 : decode cL_types 118 = .ok (.ifCond .le 21, 3) := by decide +kernel
theorem dL_types_121 : decode cL_types 121 = .ok (.aload_n 0, 1) := by decide +kernel
theorem dL_types_122 : decode cL_types 122 = .ok (.iload_n 1, 1) := by decide +kernel
theorem dL_types_123 : decode cL_types 123 = .ok (.bipush 11, 2) := by decide +kernel
theorem dL_types_125 : decode cL_types 125 = .ok (.ishr, 1) := by decide +kernel
theorem dL_types_126 : decode cL_types 126 = .ok (.bipush 33, 2) := by decide +kernel
theorem dL_types_128 : decode cL_types 128 = .ok (.ixor, 1) := by decide +kernel
theorem dL_types_129 : decode cL_types 129 = .ok (.invokestatic 19, 3) := by decide +kernel
theorem dL_types_132 : decode cL_types 132 = .ok (.ifCond .eq 7, 3) := by decide +kernel
theorem dL_types_135 : decode cL_types 135 = .ok (.iconst 1, 1) := by decide +kernel
theorem dL_types_136 : decode cL_types 136 = .ok (.goto 4, 3) := by decide +kernel
theorem dL_types_139 : decode cL_types 139 = .ok (.iconst 0, 1) := by decide +kernel
theorem dL_types_140 : decode cL_types 140 = .ok (.ireturn, 1) := by decide +kernel
theorem dL_isPart_0 : decode cL_isPart 0 = .ok (.aload_n 0, 1) := by decide +kernel
theorem dL_isPart_1 : decode cL_isPart 1 = .ok (.iload_n 1, 1) := by decide +kernel
theorem dL_isPart_2 : decode cL_isPart 2 = .ok (.iload_n 2, 1) := by decide +kernel
theorem dL_isPart_3 : decode cL_isPart 3 = .ok (.iconst 1, 1) := by decide +kernel
theorem dL_isPart_4 : decode cL_isPart 4 = .ok (.invokevirtual 29, 3) := by decide +kernel
theorem dL_isPart_7 : decode cL_isPart 7 = .ok (.istore_n 3, 1) := by decide +kernel
theorem dL_isPart_8 : decode cL_isPart 8 = .ok (.iconst 0, 1) := by decide +kernel
theorem dL_isPart_9 : decode cL_isPart 9 = .ok (.istore 4, 2) := by decide +kernel
theorem dL_isPart_11 : decode cL_isPart 11 = .ok (.iconst 0, 1) := by decide +kernel
theorem dL_isPart_12 : decode cL_isPart 12 = .ok (.istore 5, 2) := by decide +kernel
theorem dL_isPart_14 : decode cL_isPart 14 = .ok (.aload_n 0, 1) := by decide +kernel
theorem dL_isPart_15 : decode cL_isPart 15 = .ok (.iload_n 1, 1) := by decide +kernel
theorem dL_isPart_16 : decode cL_isPart 16 = .ok (.iload_n 2, 1) := by decide +kernel
theorem dL_isPart_17 : decode cL_isPart 17 = .ok (.iload_n 3, 1) := by decide +kernel
theorem dL_isPart_18 : decode cL_isPart 18 = .ok (.invokevirtual 33, 3) := by decide +kernel
theorem dL_isPart_21 : decode cL_isPart 21 = .ok (.bipush (-5), 2) := by decide +kernel
theorem dL_isPart_23 : decode cL_isPart 23 = .ok (.if_icmp .ne 18, 3) := by decide +kernel
theorem dL_isPart_26 : decode cL_isPart 26 = .ok (.iload_n 3, 1) := by decide +kernel
theorem dL_isPart_27 : decode cL_isPart 27 = .ok (.aload_n 0, 1) := by decide +kernel
theorem dL_isPart_28 : decode cL_isPart 28 = .ok (.iload_n 1, 1) := by decide +kernel
theorem dL_isPart_29 : decode cL_isPart 29 = .ok (.iload_n 2, 1) := by decide +kernel
theorem dL_isPart_30 : decode cL_isPart 30 = .ok (.iconst 0, 1) := by decide +kernel
theorem dL_isPart_31 : decode cL_isPart 31 = .ok (.invokevirtual 29, 3) := by decide +kernel
theorem dL_isPart_34 : decode cL_isPart 34 = .ok (.if_icmp .lt 7, 3) := by decide +kernel
theorem dL_isPart_37 : decode cL_isPart 37 = .ok (.iconst 1, 1) := by decide +kernel
theorem dL_isPart_38 : decode cL_isPart 38 = .ok (.goto 4, 3) := by decide +kernel
theorem dL_isPart_41 : decode cL_isPart 41 = .ok (.iconst 0, 1) := by decide +kernel
theorem dL_isPart_42 : decode cL_isPart 42 = .ok (.istore 6, 2) := by decide +kernel
theorem dL_isPart_44 : decode cL_isPart 44 = .ok (.iconst 0, 1) := by decide +kernel
theorem dL_isPart_45 : decode cL_isPart 45 = .ok (.istore 7, 2) := by decide +kernel
theorem dL_isPart_47 : decode cL_isPart 47 = .ok (.iload 7, 2) := by decide +kernel
theorem dL_isPart_49 : decode cL_isPart 49 = .ok (.iload_n 3, 1) := by decide +kernel
theorem dL_isPart_50 : decode cL_isPart 50 = .ok (.if_icmp .ge 133, 3) := by decide +kernel
theorem dL_isPart_53 : decode cL_isPart 53 = .ok (.iload 6, 2) := by decide +kernel
theorem dL_isPart_55 : decode cL_isPart 55 = .ok (.ifCond .eq 128, 3) := by decide +kernel
theorem dL_isPart_58 : decode cL_isPart 58 = .ok (.aload_n 0, 1) := by decide +kernel
theorem dL_isPart_59 : decode cL_isPart 59 = .ok (.iload_n 1, 1) := by decide +kernel
theorem dL_isPart_60 : decode cL_isPart 60 = .ok (.iload_n 2, 1) := by decide +kernel
theorem dL_isPart_61 : decode cL_isPart 61 = .ok (.iload 7, 2) := by decide +kernel
theorem dL_isPart_63 : decode cL_isPart 63 = .ok (.invokevirtual 33, 3) := by decide +kernel
theorem dL_isPart_66 : decode cL_isPart 66 = .ok (.istore 8, 2) := by decide +kernel
theorem dL_isPart_68 : decode cL_isPart 68 = .ok (.iload 4, 2) := by decide +kernel
theorem dL_isPart_70 : decode cL_isPart 70 = .ok (.iload 8, 2) := by decide +kernel
theorem dL_isPart_72 : decode cL_isPart 72 = .ok (.bipush 40, 2) := by decide +kernel
theorem dL_isPart_74 : decode cL_isPart 74 = .ok (.if_icmp .ne 7, 3) := by decide +kernel
theorem dL_isPart_77 : decode cL_isPart 77 = .ok (.iconst 1, 1) := by decide +kernel
theorem dL_isPart_78 : decode cL_isPart 78 = .ok (.goto 15, 3) := by decide +kernel
theorem dL_isPart_81 : decode cL_isPart 81 = .ok (.iload 8, 2) := by decide +kernel
theorem dL_isPart_83 : decode cL_isPart 83 = .ok (.bipush 41, 2) := by decide +kernel
theorem dL_isPart_85 : decode cL_isPart 85 = .ok (.if_icmp .ne 7, 3) := by decide +kernel
theorem dL_isPart_88 : decode cL_isPart 88 = .ok (.iconst (-1), 1) := by decide +kernel
theorem dL_isPart_89 : decode cL_isPart 89 = .ok (.goto 4, 3) := by decide +kernel
theorem dL_isPart_92 : decode cL_isPart 92 = .ok (.iconst 0, 1) := by decide +kernel
theorem dL_isPart_93 : decode cL_isPart 93 = .ok (.iadd, 1) := by decide +kernel
theorem dL_isPart_94 : decode cL_isPart 94 = .ok (.istore 4, 2) := by decide +kernel
theorem dL_isPart_96 : decode cL_isPart 96 = .ok (.iload 5, 2) := by decide +kernel
theorem dL_isPart_98 : decode cL_isPart 98 = .ok (.iload 8, 2) := by decide +kernel
theorem dL_isPart_100 : decode cL_isPart 100 = .ok (.bipush 97, 2) := by decide +kernel
theorem dL_isPart_102 : decode cL_isPart 102 = .ok (.if_icmp .lt 20, 3) := by decide +kernel
theorem dL_isPart_105 : decode cL_isPart 105 = .ok (.iload 8, 2) := by decide +kernel
theorem dL_isPart_107 : decode cL_isPart 107 = .ok (.bipush 102, 2) := by decide +kernel
theorem dL_isPart_109 : decode cL_isPart 109 = .ok (.if_icmp .gt 13, 3) := by decide +kernel
theorem dL_isPart_112 : decode cL_isPart 112 = .ok (.iconst 1, 1) := by decide +kernel
theorem dL_isPart_113 : decode cL_isPart 113 = .ok (.iload 8, 2) := by decide +kernel
theorem dL_isPart_115 : decode cL_isPart 115 = .ok (.bipush 97, 2) := by decide +kernel
theorem dL_isPart_117 : decode cL_isPart 117 = .ok (.isub, 1) := by decide +kernel
theorem dL_isPart_118 : decode cL_isPart 118 = .ok (.ishl, 1) := by decide +kernel
theorem dL_isPart_119 : decode cL_isPart 119 = .ok (.goto 4, 3) := by decide +kernel
theorem dL_isPart_122 : decode cL_isPart 122 = .ok (.iconst 0, 1) := by decide +kernel
theorem dL_isPart_123 : decode cL_isPart 123 = .ok (.ior, 1) := by decide +kernel
theorem dL_isPart_124 : decode cL_isPart 124 = .ok (.istore 5, 2) := by decide +kernel
theorem dL_isPart_126 : decode cL_isPart 126 = .ok (.iload 8, 2) := by decide +kernel
theorem dL_isPart_128 : decode cL_isPart 128 = .ok (.ifCond .le 46, 3) := by decide +kernel
theorem dL_isPart_131 : decode cL_isPart 131 = .ok (.iload 4, 2) := by decide +kernel
theorem dL_isPart_133 : decode cL_isPart 133 = .ok (.ifCond .lt 41, 3) := by decide +kernel
theorem dL_isPart_136 : decode cL_isPart 136 = .ok (.iload 4, 2) := by decide +kernel
theorem dL_isPart_138 : decode cL_isPart 138 = .ok (.ifCond .gt 32, 3) := by decide +kernel
theorem dL_isPart_141 : decode cL_isPart 141 = .ok (.iload 7, 2) := by decide +kernel
theorem dL_isPart_143 : decode cL_isPart 143 = .ok (.iload_n 3, 1) := by decide +kernel
theorem dL_isPart_144 : decode cL_isPart 144 = .ok (.iconst 1, 1) := by decide +kernel
theorem dL_isPart_145 : decode cL_isPart 145 = .ok (.isub, 1) := by decide +kernel
theorem dL_isPart_146 : decode cL_isPart 146 = .ok (.if_icmp .eq 24, 3) := by decide +kernel
theorem dL_isPart_149 : decode cL_isPart 149 = .ok (.iload 8, 2) := by decide +kernel
theorem dL_isPart_151 : decode cL_isPart 151 = .ok (.bipush 88, 2) := by decide +kernel
theorem dL_isPart_153 : decode cL_isPart 153 = .ok (.if_icmp .eq 17, 3) := by decide +kernel
theorem dL_isPart_156 : decode cL_isPart 156 = .ok (.iload 8, 2) := by decide +kernel
theorem dL_isPart_158 : decode cL_isPart 158 = .ok (.bipush 78, 2) := by decide +kernel
theorem dL_isPart_160 : decode cL_isPart 160 = .ok (.if_icmp .eq 10, 3) := by decide +kernel
theorem dL_isPart_163 : decode cL_isPart 163 = .ok (.iload 8, 2) := by decide +kernel
theorem dL_isPart_165 : decode cL_isPart 165 = .ok (.bipush 45, 2) := by decide +kernel
theorem dL_isPart_167 : decode cL_isPart 167 = .ok (.if_icmp .ne 7, 3) := by decide +kernel
theorem dL_isPart_170 : decode cL_isPart 170 = .ok (.iconst 1, 1) := by decide +kernel
theorem dL_isPart_171 : decode cL_isPart 171 = .ok (.goto 4, 3) := by decide +kernel
theorem dL_isPart_174 : decode cL_isPart 174 = .ok (.iconst 0, 1) := by decide +kernel
theorem dL_isPart_175 : decode cL_isPart 175 = .ok (.istore 6, 2) := by decide +kernel
theorem dL_isPart_177 : decode cL_isPart 177 = .ok (.iinc 7 1, 3) := by decide +kernel
theorem dL_isPart_180 : decode cL_isPart 180 = .ok (.goto (-133), 3) := by decide +kernel
theorem dL_isPart_183 : decode cL_isPart 183 = .ok (.aload_n 0, 1) := by decide +kernel
theorem dL_isPart_184 : decode cL_isPart 184 = .ok (.iload_n 1, 1) := by decide +kernel
theorem dL_isPart_185 : decode cL_isPart 185 = .ok (.iload_n 2, 1) := by decide +kernel
theorem dL_isPart_186 : decode cL_isPart 186 = .ok (.iconst 0, 1) := by decide +kernel
theorem dL_isPart_187 : decode cL_isPart 187 = .ok (.invokevirtual 33, 3) := by decide +kernel
theorem dL_isPart_190 : decode cL_isPart 190 = .ok (.istore 7, 2) := by decide +kernel
theorem dL_isPart_192 : decode cL_isPart 192 = .ok (.iload 6, 2) := by decide +kernel
theorem dL_isPart_194 : decode cL_isPart 194 = .ok (.ifCond .eq 60, 3) := by decide +kernel
theorem dL_isPart_197 : decode cL_isPart 197 = .ok (.iload 4, 2) := by decide +kernel
theorem dL_isPart_199 : decode cL_isPart 199 = .ok (.ifCond .ne 55, 3) := by decide +kernel
theorem dL_isPart_202 : decode cL_isPart 202 = .ok (.iload 5, 2) := by decide +kernel
theorem dL_isPart_204 : decode cL_isPart 204 = .ok (.aload_n 0, 1) := by decide +kernel
theorem dL_isPart_205 : decode cL_isPart 205 = .ok (.iload_n 1, 1) := by decide +kernel
theorem dL_isPart_206 : decode cL_isPart 206 = .ok (.iload_n 2, 1) := by decide +kernel
theorem dL_isPart_207 : decode cL_isPart 207 = .ok (.iconst 2, 1) := by decide +kernel
theorem dL_isPart_208 : decode cL_isPart 208 = .ok (.invokevirtual 29, 3) := by decide +kernel
theorem dL_isPart_211 : decode cL_isPart 211 = .ok (.if_icmp .ne 43, 3) := by decide +kernel
theorem dL_isPart_214 : decode cL_isPart 214 = .ok (.aload_n 0, 1) := by decide +kernel
theorem dL_isPart_215 : decode cL_isPart 215 = .ok (.iload_n 1, 1) := by decide +kernel
theorem dL_isPart_216 : decode cL_isPart 216 = .ok (.iload_n 2, 1) := by decide +kernel
theorem dL_isPart_217 : decode cL_isPart 217 = .ok (.iconst 0, 1) := by decide +kernel
theorem dL_isPart_218 : decode cL_isPart 218 = .ok (.invokevirtual 29, 3) := by decide +kernel
theorem dL_isPart_221 : decode cL_isPart 221 = .ok (.iconst 1, 1) := by decide +kernel
theorem dL_isPart_222 : decode cL_isPart 222 = .ok (.if_icmp .ne 7, 3) := by decide +kernel
theorem dL_isPart_225 : decode cL_isPart 225 = .ok (.iconst 1, 1) := by decide +kernel
theorem dL_isPart_226 : decode cL_isPart 226 = .ok (.goto 4, 3) := by decide +kernel
theorem dL_isPart_229 : decode cL_isPart 229 = .ok (.iconst 0, 1) := by decide +kernel
theorem dL_isPart_230 : decode cL_isPart 230 = .ok (.iload_n 3, 1) := by decide +kernel
theorem dL_isPart_231 : decode cL_isPart 231 = .ok (.iconst 1, 1) := by decide +kernel
theorem dL_isPart_232 : decode cL_isPart 232 = .ok (.if_icmp .eq 10, 3) := by decide +kernel
theorem dL_isPart_235 : decode cL_isPart 235 = .ok (.iload 7, 2) := by decide +kernel
theorem dL_isPart_237 : decode cL_isPart 237 = .ok (.bipush 45, 2) := by decide +kernel
theorem dL_isPart_239 : decode cL_isPart 239 = .ok (.if_icmp .ne 7, 3) := by decide +kernel
theorem dL_isPart_242 : decode cL_isPart 242 = .ok (.iconst 1, 1) := by decide +kernel
theorem dL_isPart_243 : decode cL_isPart 243 = .ok (.goto 4, 3) := by decide +kernel
theorem dL_isPart_246 : decode cL_isPart 246 = .ok (.iconst 0, 1) := by decide +kernel
theorem dL_isPart_247 : decode cL_isPart 247 = .ok (.if_icmp .ne 7, 3) := by decide +kernel
theorem dL_isPart_250 : decode cL_isPart 250 = .ok (.iconst 1, 1) := by decide +kernel
theorem dL_isPart_251 : decode cL_isPart 251 = .ok (.goto 4, 3) := by decide +kernel
theorem dL_isPart_254 : decode cL_isPart 254 = .ok (.iconst 0, 1) := by decide +kernel
theorem dL_isPart_255 : decode cL_isPart 255 = .ok (.istore 6, 2) := by decide +kernel
theorem dL_isPart_257 : decode cL_isPart 257 = .ok (.iload 6, 2) := by decide +kernel
theorem dL_isPart_259 : decode cL_isPart 259 = .ok (.ifCond .eq 80, 3) := by decide +kernel
theorem dL_isPart_262 : decode cL_isPart 262 = .ok (.iload 7, 2) := by decide +kernel
theorem dL_isPart_264 : decode cL_isPart 264 = .ok (.bipush 88, 2) := by decide +kernel
theorem dL_isPart_266 : decode cL_isPart 266 = .ok (.if_icmp .eq 17, 3) := by decide +kernel
theorem dL_isPart_269 : decode cL_isPart 269 = .ok (.iload 7, 2) := by decide +kernel
theorem dL_isPart_271 : decode cL_isPart 271 = .ok (.bipush 48, 2) := by decide +kernel
theorem dL_isPart_273 : decode cL_isPart 273 = .ok (.if_icmp .eq 10, 3) := by decide +kernel
theorem dL_isPart_276 : decode cL_isPart 276 = .ok (.iload 7, 2) := by decide +kernel
theorem dL_isPart_278 : decode cL_isPart 278 = .ok (.bipush 62, 2) := by decide +kernel
theorem dL_isPart_280 : decode cL_isPart 280 = .ok (.if_icmp .ne 16, 3) := by decide +kernel
theorem dL_isPart_283 : decode cL_isPart 283 = .ok (.aload_n 0, 1) := by decide +kernel
theorem dL_isPart_284 : decode cL_isPart 284 = .ok (.iload_n 1, 1) := by decide +kernel
theorem dL_isPart_285 : decode cL_isPart 285 = .ok (.iload_n 2, 1) := by decide +kernel
theorem dL_isPart_286 : decode cL_isPart 286 = .ok (.iconst 3, 1) := by decide +kernel
theorem dL_isPart_287 : decode cL_isPart 287 = .ok (.invokevirtual 29, 3) := by decide +kernel
theorem dL_isPart_290 : decode cL_isPart 290 = .ok (.ifCond .ne 49, 3) := by decide +kernel
theorem dL_isPart_293 : decode cL_isPart 293 = .ok (.goto 42, 3) := by decide +kernel
theorem dL_isPart_296 : decode cL_isPart 296 = .ok (.iload 7, 2) := by decide +kernel
theorem dL_isPart_298 : decode cL_isPart 298 = .ok (.bipush 78, 2) := by decide +kernel
theorem dL_isPart_300 : decode cL_isPart 300 = .ok (.if_icmp .eq 24, 3) := by decide +kernel
theorem dL_isPart_303 : decode cL_isPart 303 = .ok (.iload 7, 2) := by decide +kernel
theorem dL_isPart_305 : decode cL_isPart 305 = .ok (.bipush 49, 2) := by decide +kernel
theorem dL_isPart_307 : decode cL_isPart 307 = .ok (.if_icmp .eq 17, 3) := by decide +kernel
theorem dL_isPart_310 : decode cL_isPart 310 = .ok (.iload 7, 2) := by decide +kernel
theorem dL_isPart_312 : decode cL_isPart 312 = .ok (.bipush 45, 2) := by decide +kernel
theorem dL_isPart_314 : decode cL_isPart 314 = .ok (.if_icmp .eq 10, 3) := by decide +kernel
theorem dL_isPart_317 : decode cL_isPart 317 = .ok (.iload 7, 2) := by decide +kernel
theorem dL_isPart_319 : decode cL_isPart 319 = .ok (.bipush 46, 2) := by decide +kernel
theorem dL_isPart_321 : decode cL_isPart 321 = .ok (.if_icmp .ne 14, 3) := by decide +kernel
theorem dL_isPart_324 : decode cL_isPart 324 = .ok (.aload_n 0, 1) := by decide +kernel
theorem dL_isPart_325 : decode cL_isPart 325 = .ok (.iload_n 1, 1) := by decide +kernel
theorem dL_isPart_326 : decode cL_isPart 326 = .ok (.iload_n 2, 1) := by decide +kernel
theorem dL_isPart_327 : decode cL_isPart 327 = .ok (.iconst 3, 1) := by decide +kernel
theorem dL_isPart_328 : decode cL_isPart 328 = .ok (.invokevirtual 29, 3) := by decide +kernel
theorem dL_isPart_331 : decode cL_isPart 331 = .ok (.iconst 1, 1) := by decide +kernel
theorem dL_isPart_332 : decode cL_isPart 332 = .ok (.if_icmp .ne 7, 3) := by decide +kernel
theorem dL_isPart_335 : decode cL_isPart 335 = .ok (.iconst 1, 1) := by decide +kernel
theorem dL_isPart_336 : decode cL_isPart 336 = .ok (.goto 4, 3) := by decide +kernel
theorem dL_isPart_339 : decode cL_isPart 339 = .ok (.iconst 0, 1) := by decide +kernel
theorem dL_isPart_340 : decode cL_isPart 340 = .ok (.ireturn, 1) := by decide +kernel
theorem dL_isWish_0 : decode cL_isWish 0 = .ok (.aload_n 0, 1) := by decide +kernel
theorem dL_isWish_1 : decode cL_isWish 1 = .ok (.iload_n 1, 1) := by decide +kernel
theorem dL_isWish_2 : decode cL_isWish 2 = .ok (.iconst 0, 1) := by decide +kernel
theorem dL_isWish_3 : decode cL_isWish 3 = .ok (.invokevirtual 36, 3) := by decide +kernel
theorem dL_isWish_6 : decode cL_isWish 6 = .ok (.istore_n 2, 1) := by decide +kernel
theorem dL_isWish_7 : decode cL_isWish 7 = .ok (.aload_n 0, 1) := by decide +kernel
theorem dL_isWish_8 : decode cL_isWish 8 = .ok (.iload_n 1, 1) := by decide +kernel
theorem dL_isWish_9 : decode cL_isWish 9 = .ok (.iconst 1, 1) := by decide +kernel
theorem dL_isWish_10 : decode cL_isWish 10 = .ok (.invokevirtual 36, 3) := by decide +kernel
theorem dL_isWish_13 : decode cL_isWish 13 = .ok (.istore_n 3, 1) := by decide +kernel
theorem dL_isWish_14 : decode cL_isWish 14 = .ok (.iconst 0, 1) := by decide +kernel
theorem dL_isWish_15 : decode cL_isWish 15 = .ok (.istore 4, 2) := by decide +kernel
theorem dL_isWish_17 : decode cL_isWish 17 = .ok (.iconst 0, 1) := by decide +kernel
theorem dL_isWish_18 : decode cL_isWish 18 = .ok (.istore 5, 2) := by decide +kernel
theorem dL_isWish_20 : decode cL_isWish 20 = .ok (.iconst 0, 1) := by decide +kernel
theorem dL_isWish_21 : decode cL_isWish 21 = .ok (.istore 6, 2) := by decide +kernel
theorem dL_isWish_23 : decode cL_isWish 23 = .ok (.iconst 0, 1) := by decide +kernel
theorem dL_isWish_24 : decode cL_isWish 24 = .ok (.istore 7, 2) := by decide +kernel
theorem dL_isWish_26 : decode cL_isWish 26 = .ok (.iload_n 3, 1) := by decide +kernel
theorem dL_isWish_27 : decode cL_isWish 27 = .ok (.iconst 1, 1) := by decide +kernel
theorem dL_isWish_28 : decode cL_isWish 28 = .ok (.if_icmp .lt 24, 3) := by decide +kernel
theorem dL_isWish_31 : decode cL_isWish 31 = .ok (.iload_n 3, 1) := by decide +kernel
theorem dL_isWish_32 : decode cL_isWish 32 = .ok (.bipush 8, 2) := by decide +kernel
theorem dL_isWish_34 : decode cL_isWish 34 = .ok (.if_icmp .gt 18, 3) := by decide +kernel
theorem dL_isWish_37 : decode cL_isWish 37 = .ok (.aload_n 0, 1) := by decide +kernel
theorem dL_isWish_38 : decode cL_isWish 38 = .ok (.iload_n 1, 1) := by decide +kernel
theorem dL_isWish_39 : decode cL_isWish 39 = .ok (.iload_n 3, 1) := by decide +kernel
theorem dL_isWish_40 : decode cL_isWish 40 = .ok (.iconst 0, 1) := by decide +kernel
theorem dL_isWish_41 : decode cL_isWish 41 = .ok (.invokevirtual 29, 3) := by decide +kernel
theorem dL_isWish_44 : decode cL_isWish 44 = .ok (.iconst (-1), 1) := by decide +kernel
theorem dL_isWish_45 : decode cL_isWish 45 = .ok (.if_icmp .ne 7, 3) := by decide +kernel
theorem dL_isWish_48 : decode cL_isWish 48 = .ok (.iconst 1, 1) := by decide +kernel
theorem dL_isWish_49 : decode cL_isWish 49 = .ok (.goto 4, 3) := by decide +kernel
theorem dL_isWish_52 : decode cL_isWish 52 = .ok (.iconst 0, 1) := by decide +kernel
theorem dL_isWish_53 : decode cL_isWish 53 = .ok (.istore 8, 2) := by decide +kernel
theorem dL_isWish_55 : decode cL_isWish 55 = .ok (.iconst 0, 1) := by decide +kernel
theorem dL_isWish_56 : decode cL_isWish 56 = .ok (.istore 9, 2) := by decide +kernel
theorem dL_isWish_58 : decode cL_isWish 58 = .ok (.iload 9, 2) := by decide +kernel
theorem dL_isWish_60 : decode cL_isWish 60 = .ok (.iload_n 3, 1) := by decide +kernel
theorem dL_isWish_61 : decode cL_isWish 61 = .ok (.if_icmp .ge 101, 3) := by decide +kernel
theorem dL_isWish_64 : decode cL_isWish 64 = .ok (.iload 8, 2) := by decide +kernel
theorem dL_isWish_66 : decode cL_isWish 66 = .ok (.ifCond .eq 96, 3) := by decide +kernel
theorem dL_isWish_69 : decode cL_isWish 69 = .ok (.aload_n 0, 1) := by decide +kernel
theorem dL_isWish_70 : decode cL_isWish 70 = .ok (.iload_n 1, 1) := by decide +kernel
theorem dL_isWish_71 : decode cL_isWish 71 = .ok (.iload 9, 2) := by decide +kernel
theorem dL_isWish_73 : decode cL_isWish 73 = .ok (.invokestatic 40, 3) := by decide +kernel
theorem dL_isWish_76 : decode cL_isWish 76 = .ok (.istore 8, 2) := by decide +kernel
theorem dL_isWish_78 : decode cL_isWish 78 = .ok (.iload 4, 2) := by decide +kernel
theorem dL_isWish_80 : decode cL_isWish 80 = .ok (.aload_n 0, 1) := by decide +kernel
theorem dL_isWish_81 : decode cL_isWish 81 = .ok (.iload_n 1, 1) := by decide +kernel
theorem dL_isWish_82 : decode cL_isWish 82 = .ok (.iload 9, 2) := by decide +kernel
theorem dL_isWish_84 : decode cL_isWish 84 = .ok (.iconst 0, 1) := by decide +kernel
theorem dL_isWish_85 : decode cL_isWish 85 = .ok (.invokevirtual 33, 3) := by decide +kernel
theorem dL_isWish_88 : decode cL_isWish 88 = .ok (.bipush 48, 2) := by decide +kernel
theorem dL_isWish_90 : decode cL_isWish 90 = .ok (.if_icmp .ne 10, 3) := by decide +kernel
theorem dL_isWish_93 : decode cL_isWish 93 = .ok (.iconst 1, 1) := by decide +kernel
theorem dL_isWish_94 : decode cL_isWish 94 = .ok (.iload 9, 2) := by decide +kernel
theorem dL_isWish_96 : decode cL_isWish 96 = .ok (.ishl, 1) := by decide +kernel
theorem dL_isWish_97 : decode cL_isWish 97 = .ok (.goto 4, 3) := by decide +kernel
theorem dL_isWish_100 : decode cL_isWish 100 = .ok (.iconst 0, 1) := by decide +kernel
theorem dL_isWish_101 : decode cL_isWish 101 = .ok (.ior, 1) := by decide +kernel
theorem dL_isWish_102 : decode cL_isWish 102 = .ok (.istore 4, 2) := by decide +kernel
theorem dL_isWish_104 : decode cL_isWish 104 = .ok (.iload 5, 2) := by decide +kernel
theorem dL_isWish_106 : decode cL_isWish 106 = .ok (.aload_n 0, 1) := by decide +kernel
theorem dL_isWish_107 : decode cL_isWish 107 = .ok (.iload_n 1, 1) := by decide +kernel
theorem dL_isWish_108 : decode cL_isWish 108 = .ok (.iload 9, 2) := by decide +kernel
theorem dL_isWish_110 : decode cL_isWish 110 = .ok (.iconst 0, 1) := by decide +kernel
theorem dL_isWish_111 : decode cL_isWish 111 = .ok (.invokevirtual 33, 3) := by decide +kernel
theorem dL_isWish_114 : decode cL_isWish 114 = .ok (.bipush 49, 2) := by decide +kernel
theorem dL_isWish_116 : decode cL_isWish 116 = .ok (.if_icmp .ne 10, 3) := by decide +kernel
theorem dL_isWish_119 : decode cL_isWish 119 = .ok (.iconst 1, 1) := by decide +kernel
theorem dL_isWish_120 : decode cL_isWish 120 = .ok (.iload 9, 2) := by decide +kernel
theorem dL_isWish_122 : decode cL_isWish 122 = .ok (.ishl, 1) := by decide +kernel
theorem dL_isWish_123 : decode cL_isWish 123 = .ok (.goto 4, 3) := by decide +kernel
theorem dL_isWish_126 : decode cL_isWish 126 = .ok (.iconst 0, 1) := by decide +kernel
theorem dL_isWish_127 : decode cL_isWish 127 = .ok (.ior, 1) := by decide +kernel
theorem dL_isWish_128 : decode cL_isWish 128 = .ok (.istore 5, 2) := by decide +kernel
theorem dL_isWish_130 : decode cL_isWish 130 = .ok (.iload 6, 2) := by decide +kernel
theorem dL_isWish_132 : decode cL_isWish 132 = .ok (.aload_n 0, 1) := by decide +kernel
theorem dL_isWish_133 : decode cL_isWish 133 = .ok (.iload_n 1, 1) := by decide +kernel
theorem dL_isWish_134 : decode cL_isWish 134 = .ok (.iload 9, 2) := by decide +kernel
theorem dL_isWish_136 : decode cL_isWish 136 = .ok (.iconst 0, 1) := by decide +kernel
theorem dL_isWish_137 : decode cL_isWish 137 = .ok (.invokevirtual 29, 3) := by decide +kernel
theorem dL_isWish_140 : decode cL_isWish 140 = .ok (.iadd, 1) := by decide +kernel
theorem dL_isWish_141 : decode cL_isWish 141 = .ok (.istore 6, 2) := by decide +kernel
theorem dL_isWish_143 : decode cL_isWish 143 = .ok (.iload 7, 2) := by decide +kernel
theorem dL_isWish_145 : decode cL_isWish 145 = .ok (.aload_n 0, 1) := by decide +kernel
theorem dL_isWish_146 : decode cL_isWish 146 = .ok (.iload_n 1, 1) := by decide +kernel
theorem dL_isWish_147 : decode cL_isWish 147 = .ok (.iload 9, 2) := by decide +kernel
theorem dL_isWish_149 : decode cL_isWish 149 = .ok (.iconst 3, 1) := by decide +kernel
theorem dL_isWish_150 : decode cL_isWish 150 = .ok (.invokevirtual 29, 3) := by decide +kernel
theorem dL_isWish_153 : decode cL_isWish 153 = .ok (.iadd, 1) := by decide +kernel
theorem dL_isWish_154 : decode cL_isWish 154 = .ok (.istore 7, 2) := by decide +kernel
theorem dL_isWish_156 : decode cL_isWish 156 = .ok (.iinc 9 1, 3) := by decide +kernel
theorem dL_isWish_159 : decode cL_isWish 159 = .ok (.goto (-101), 3) := by decide +kernel
theorem dL_isWish_162 : decode cL_isWish 162 = .ok (.iload 8, 2) := by decide +kernel
theorem dL_isWish_164 : decode cL_isWish 164 = .ok (.ifCond .eq 41, 3) := by decide +kernel
theorem dL_isWish_167 : decode cL_isWish 167 = .ok (.iload 4, 2) := by decide +kernel
theorem dL_isWish_169 : decode cL_isWish 169 = .ok (.aload_n 0, 1) := by decide +kernel
theorem dL_isWish_170 : decode cL_isWish 170 = .ok (.iload_n 1, 1) := by decide +kernel
theorem dL_isWish_171 : decode cL_isWish 171 = .ok (.iconst 2, 1) := by decide +kernel
theorem dL_isWish_172 : decode cL_isWish 172 = .ok (.invokevirtual 36, 3) := by decide +kernel
theorem dL_isWish_175 : decode cL_isWish 175 = .ok (.if_icmp .ne 30, 3) := by decide +kernel
theorem dL_isWish_178 : decode cL_isWish 178 = .ok (.iload 5, 2) := by decide +kernel
theorem dL_isWish_180 : decode cL_isWish 180 = .ok (.aload_n 0, 1) := by decide +kernel
theorem dL_isWish_181 : decode cL_isWish 181 = .ok (.iload_n 1, 1) := by decide +kernel
theorem dL_isWish_182 : decode cL_isWish 182 = .ok (.iconst 3, 1) := by decide +kernel
theorem dL_isWish_183 : decode cL_isWish 183 = .ok (.invokevirtual 36, 3) := by decide +kernel
theorem dL_isWish_186 : decode cL_isWish 186 = .ok (.if_icmp .ne 19, 3) := by decide +kernel
theorem dL_isWish_189 : decode cL_isWish 189 = .ok (.iload 6, 2) := by decide +kernel
theorem dL_isWish_191 : decode cL_isWish 191 = .ok (.aload_n 0, 1) := by decide +kernel
theorem dL_isWish_192 : decode cL_isWish 192 = .ok (.iload_n 1, 1) := by decide +kernel
theorem dL_isWish_193 : decode cL_isWish 193 = .ok (.bipush 7, 2) := by decide +kernel
theorem dL_isWish_195 : decode cL_isWish 195 = .ok (.invokevirtual 36, 3) := by decide +kernel
theorem dL_isWish_198 : decode cL_isWish 198 = .ok (.if_icmp .ne 7, 3) := by decide +kernel
theorem dL_isWish_201 : decode cL_isWish 201 = .ok (.iconst 1, 1) := by decide +kernel
theorem dL_isWish_202 : decode cL_isWish 202 = .ok (.goto 4, 3) := by decide +kernel
theorem dL_isWish_205 : decode cL_isWish 205 = .ok (.iconst 0, 1) := by decide +kernel
theorem dL_isWish_206 : decode cL_isWish 206 = .ok (.istore 8, 2) := by decide +kernel
theorem dL_isWish_208 : decode cL_isWish 208 = .ok (.iload 8, 2) := by decide +kernel
theorem dL_isWish_210 : decode cL_isWish 210 = .ok (.ifCond .eq 65, 3) := by decide +kernel
theorem dL_isWish_213 : decode cL_isWish 213 = .ok (.iload_n 2, 1) := by decide +kernel
theorem dL_isWish_214 : decode cL_isWish 214 = .ok (.iload 4, 2) := by decide +kernel
theorem dL_isWish_216 : decode cL_isWish 216 = .ok (.ifCond .eq 7, 3) := by decide +kernel
theorem dL_isWish_219 : decode cL_isWish 219 = .ok (.iconst 0, 1) := by decide +kernel
theorem dL_isWish_220 : decode cL_isWish 220 = .ok (.goto 18, 3) := by decide +kernel
theorem dL_isWish_223 : decode cL_isWish 223 = .ok (.iload 5, 2) := by decide +kernel
theorem dL_isWish_225 : decode cL_isWish 225 = .ok (.iconst 1, 1) := by decide +kernel
theorem dL_isWish_226 : decode cL_isWish 226 = .ok (.iload_n 3, 1) := by decide +kernel
theorem dL_isWish_227 : decode cL_isWish 227 = .ok (.ishl, 1) := by decide +kernel
theorem dL_isWish_228 : decode cL_isWish 228 = .ok (.iconst 1, 1) := by decide +kernel
theorem dL_isWish_229 : decode cL_isWish 229 = .ok (.isub, 1) := by decide +kernel
theorem dL_isWish_230 : decode cL_isWish 230 = .ok (.if_icmp .ne 7, 3) := by decide +kernel
theorem dL_isWish_233 : decode cL_isWish 233 = .ok (.iconst 1, 1) := by decide +kernel
theorem dL_isWish_234 : decode cL_isWish 234 = .ok (.goto 4, 3) := by decide +kernel
theorem dL_isWish_237 : decode cL_isWish 237 = .ok (.iconst 2, 1) := by decide +kernel
theorem dL_isWish_238 : decode cL_isWish 238 = .ok (.if_icmp .ne 37, 3) := by decide +kernel
theorem dL_isWish_241 : decode cL_isWish 241 = .ok (.aload_n 0, 1) := by decide +kernel
theorem dL_isWish_242 : decode cL_isWish 242 = .ok (.iload_n 1, 1) := by decide +kernel
theorem dL_isWish_243 : decode cL_isWish 243 = .ok (.bipush 6, 2) := by decide +kernel
theorem dL_isWish_245 : decode cL_isWish 245 = .ok (.invokevirtual 36, 3) := by decide +kernel
theorem dL_isWish_248 : decode cL_isWish 248 = .ok (.iload_n 2, 1) := by decide +kernel
theorem dL_isWish_249 : decode cL_isWish 249 = .ok (.iconst 2, 1) := by decide +kernel
theorem dL_isWish_250 : decode cL_isWish 250 = .ok (.if_icmp .ge 7, 3) := by decide +kernel
theorem dL_isWish_253 : decode cL_isWish 253 = .ok (.iload_n 2, 1) := by decide +kernel
theorem dL_isWish_254 : decode cL_isWish 254 = .ok (.goto 14, 3) := by decide +kernel
theorem dL_isWish_257 : decode cL_isWish 257 = .ok (.iload 7, 2) := by decide +kernel
theorem dL_isWish_259 : decode cL_isWish 259 = .ok (.iload_n 3, 1) := by decide +kernel
theorem dL_isWish_260 : decode cL_isWish 260 = .ok (.if_icmp .ne 7, 3) := by decide +kernel
theorem dL_isWish_263 : decode cL_isWish 263 = .ok (.iconst 1, 1) := by decide +kernel
theorem dL_isWish_264 : decode cL_isWish 264 = .ok (.goto 4, 3) := by decide +kernel
theorem dL_isWish_267 : decode cL_isWish 267 = .ok (.iconst 0, 1) := by decide +kernel
theorem dL_isWish_268 : decode cL_isWish 268 = .ok (.if_icmp .ne 7, 3) := by decide +kernel
theorem dL_isWish_271 : decode cL_isWish 271 = .ok (.iconst 1, 1) := by decide +kernel
theorem dL_isWish_272 : decode cL_isWish 272 = .ok (.goto 4, 3) := by decide +kernel
theorem dL_isWish_275 : decode cL_isWish 275 = .ok (.iconst 0, 1) := by decide +kernel
theorem dL_isWish_276 : decode cL_isWish 276 = .ok (.istore 8, 2) := by decide +kernel
theorem dL_isWish_278 : decode cL_isWish 278 = .ok (.iload 8, 2) := by decide +kernel
theorem dL_isWish_280 : decode cL_isWish 280 = .ok (.ifCond .eq 61, 3) := by decide +kernel
theorem dL_isWish_283 : decode cL_isWish 283 = .ok (.aload_n 0, 1) := by decide +kernel
theorem dL_isWish_284 : decode cL_isWish 284 = .ok (.iload_n 1, 1) := by decide +kernel
theorem dL_isWish_285 : decode cL_isWish 285 = .ok (.iconst 4, 1) := by decide +kernel
theorem dL_isWish_286 : decode cL_isWish 286 = .ok (.invokevirtual 36, 3) := by decide +kernel
theorem dL_isWish_289 : decode cL_isWish 289 = .ok (.bipush (-5), 2) := by decide +kernel
theorem dL_isWish_291 : decode cL_isWish 291 = .ok (.if_icmp .eq 24, 3) := by decide +kernel
theorem dL_isWish_294 : decode cL_isWish 294 = .ok (.iload_n 2, 1) := by decide +kernel
theorem dL_isWish_295 : decode cL_isWish 295 = .ok (.iconst 2, 1) := by decide +kernel
theorem dL_isWish_296 : decode cL_isWish 296 = .ok (.if_icmp .ge 45, 3) := by decide +kernel
theorem dL_isWish_299 : decode cL_isWish 299 = .ok (.aload_n 0, 1) := by decide +kernel
theorem dL_isWish_300 : decode cL_isWish 300 = .ok (.iload_n 1, 1) := by decide +kernel
theorem dL_isWish_301 : decode cL_isWish 301 = .ok (.iconst 4, 1) := by decide +kernel
theorem dL_isWish_302 : decode cL_isWish 302 = .ok (.invokevirtual 36, 3) := by decide +kernel
theorem dL_isWish_305 : decode cL_isWish 305 = .ok (.aload_n 0, 1) := by decide +kernel
theorem dL_isWish_306 : decode cL_isWish 306 = .ok (.iload_n 1, 1) := by decide +kernel
theorem dL_isWish_307 : decode cL_isWish 307 = .ok (.bipush 8, 2) := by decide +kernel
theorem dL_isWish_309 : decode cL_isWish 309 = .ok (.invokevirtual 36, 3) := by decide +kernel
theorem dL_isWish_312 : decode cL_isWish 312 = .ok (.if_icmp .lt 29, 3) := by decide +kernel
theorem dL_isWish_315 : decode cL_isWish 315 = .ok (.aload_n 0, 1) := by decide +kernel
theorem dL_isWish_316 : decode cL_isWish 316 = .ok (.iload_n 1, 1) := by decide +kernel
theorem dL_isWish_317 : decode cL_isWish 317 = .ok (.iconst 5, 1) := by decide +kernel
theorem dL_isWish_318 : decode cL_isWish 318 = .ok (.invokevirtual 36, 3) := by decide +kernel
theorem dL_isWish_321 : decode cL_isWish 321 = .ok (.ifCond .eq 16, 3) := by decide +kernel
theorem dL_isWish_324 : decode cL_isWish 324 = .ok (.iload_n 2, 1) := by decide +kernel
theorem dL_isWish_325 : decode cL_isWish 325 = .ok (.ifCond .ne 16, 3) := by decide +kernel
theorem dL_isWish_328 : decode cL_isWish 328 = .ok (.aload_n 0, 1) := by decide +kernel
theorem dL_isWish_329 : decode cL_isWish 329 = .ok (.iload_n 1, 1) := by decide +kernel
theorem dL_isWish_330 : decode cL_isWish 330 = .ok (.iconst 4, 1) := by decide +kernel
theorem dL_isWish_331 : decode cL_isWish 331 = .ok (.invokevirtual 36, 3) := by decide +kernel
theorem dL_isWish_334 : decode cL_isWish 334 = .ok (.ifCond .lt 7, 3) := by decide +kernel
theorem dL_isWish_337 : decode cL_isWish 337 = .ok (.iconst 1, 1) := by decide +kernel
theorem dL_isWish_338 : decode cL_isWish 338 = .ok (.goto 4, 3) := by decide +kernel
theorem dL_isWish_341 : decode cL_isWish 341 = .ok (.iconst 0, 1) := by decide +kernel
theorem dL_isWish_342 : decode cL_isWish 342 = .ok (.ireturn, 1) := by decide +kernel
theorem dL_isBorne_0 : decode cL_isBorne 0 = .ok (.iconst 0, 1) := by decide +kernel
theorem dL_isBorne_1 : decode cL_isBorne 1 = .ok (.istore_n 2, 1) := by decide +kernel
theorem dL_isBorne_2 : decode cL_isBorne 2 = .ok (.iconst 0, 1) := by decide +kernel
theorem dL_isBorne_3 : decode cL_isBorne 3 = .ok (.istore_n 3, 1) := by decide +kernel
theorem dL_isBorne_4 : decode cL_isBorne 4 = .ok (.bipush (-5), 2) := by decide +kernel
theorem dL_isBorne_6 : decode cL_isBorne 6 = .ok (.istore 4, 2) := by decide +kernel
theorem dL_isBorne_8 : decode cL_isBorne 8 = .ok (.bipush (-5), 2) := by decide +kernel
theorem dL_isBorne_10 : decode cL_isBorne 10 = .ok (.istore 5, 2) := by decide +kernel
theorem dL_isBorne_12 : decode cL_isBorne 12 = .ok (.bipush 63, 2) := by decide +kernel
theorem dL_isBorne_14 : decode cL_isBorne 14 = .ok (.istore 6, 2) := by decide +kernel
theorem dL_isBorne_16 : decode cL_isBorne 16 = .ok (.iload 6, 2) := by decide +kernel
theorem dL_isBorne_18 : decode cL_isBorne 18 = .ok (.ifCond .lt 74, 3) := by decide +kernel
theorem dL_isBorne_21 : decode cL_isBorne 21 = .ok (.aload_n 0, 1) := by decide +kernel
theorem dL_isBorne_22 : decode cL_isBorne 22 = .ok (.iload_n 1, 1) := by decide +kernel
theorem dL_isBorne_23 : decode cL_isBorne 23 = .ok (.iload 6, 2) := by decide +kernel
theorem dL_isBorne_25 : decode cL_isBorne 25 = .ok (.invokevirtual 44, 3) := by decide +kernel
theorem dL_isBorne_28 : decode cL_isBorne 28 = .ok (.istore 7, 2) := by decide +kernel
theorem dL_isBorne_30 : decode cL_isBorne 30 = .ok (.iload_n 2, 1) := by decide +kernel
theorem dL_isBorne_31 : decode cL_isBorne 31 = .ok (.iload 7, 2) := by decide +kernel
theorem dL_isBorne_33 : decode cL_isBorne 33 = .ok (.ifCond .eq 7, 3) := by decide +kernel
theorem dL_isBorne_36 : decode cL_isBorne 36 = .ok (.iconst 1, 1) := by decide +kernel
theorem dL_isBorne_37 : decode cL_isBorne 37 = .ok (.goto 4, 3) := by decide +kernel
theorem dL_isBorne_40 : decode cL_isBorne 40 = .ok (.iconst 0, 1) := by decide +kernel
theorem dL_isBorne_41 : decode cL_isBorne 41 = .ok (.iadd, 1) := by decide +kernel
theorem dL_isBorne_42 : decode cL_isBorne 42 = .ok (.istore_n 2, 1) := by decide +kernel
theorem dL_isBorne_43 : decode cL_isBorne 43 = .ok (.iload_n 3, 1) := by decide +kernel
theorem dL_isBorne_44 : decode cL_isBorne 44 = .ok (.iload 7, 2) := by decide +kernel
theorem dL_isBorne_46 : decode cL_isBorne 46 = .ok (.iconst 1, 1) := by decide +kernel
theorem dL_isBorne_47 : decode cL_isBorne 47 = .ok (.if_icmp .ne 7, 3) := by decide +kernel
theorem dL_isBorne_50 : decode cL_isBorne 50 = .ok (.iconst 1, 1) := by decide +kernel
theorem dL_isBorne_51 : decode cL_isBorne 51 = .ok (.goto 4, 3) := by decide +kernel
theorem dL_isBorne_54 : decode cL_isBorne 54 = .ok (.iconst 0, 1) := by decide +kernel
theorem dL_isBorne_55 : decode cL_isBorne 55 = .ok (.iadd, 1) := by decide +kernel
theorem dL_isBorne_56 : decode cL_isBorne 56 = .ok (.istore_n 3, 1) := by decide +kernel
theorem dL_isBorne_57 : decode cL_isBorne 57 = .ok (.iload 7, 2) := by decide +kernel
theorem dL_isBorne_59 : decode cL_isBorne 59 = .ok (.ifCond .eq 8, 3) := by decide +kernel
theorem dL_isBorne_62 : decode cL_isBorne 62 = .ok (.iload 6, 2) := by decide +kernel
theorem dL_isBorne_64 : decode cL_isBorne 64 = .ok (.goto 5, 3) := by decide +kernel
theorem dL_isBorne_67 : decode cL_isBorne 67 = .ok (.iload 4, 2) := by decide +kernel
theorem dL_isBorne_69 : decode cL_isBorne 69 = .ok (.istore 4, 2) := by decide +kernel
theorem dL_isBorne_71 : decode cL_isBorne 71 = .ok (.iload 7, 2) := by decide +kernel
theorem dL_isBorne_73 : decode cL_isBorne 73 = .ok (.iconst 1, 1) := by decide +kernel
theorem dL_isBorne_74 : decode cL_isBorne 74 = .ok (.if_icmp .ne 8, 3) := by decide +kernel
theorem dL_isBorne_77 : decode cL_isBorne 77 = .ok (.iload 6, 2) := by decide +kernel
theorem dL_isBorne_79 : decode cL_isBorne 79 = .ok (.goto 5, 3) := by decide +kernel
theorem dL_isBorne_82 : decode cL_isBorne 82 = .ok (.iload 5, 2) := by decide +kernel
theorem dL_isBorne_84 : decode cL_isBorne 84 = .ok (.istore 5, 2) := by decide +kernel
theorem dL_isBorne_86 : decode cL_isBorne 86 = .ok (.iinc 6 (-1), 3) := by decide +kernel
theorem dL_isBorne_89 : decode cL_isBorne 89 = .ok (.goto (-73), 3) := by decide +kernel
theorem dL_isBorne_92 : decode cL_isBorne 92 = .ok (.aload_n 0, 1) := by decide +kernel
theorem dL_isBorne_93 : decode cL_isBorne 93 = .ok (.iload_n 1, 1) := by decide +kernel
theorem dL_isBorne_94 : decode cL_isBorne 94 = .ok (.iconst 0, 1) := by decide +kernel
theorem dL_isBorne_95 : decode cL_isBorne 95 = .ok (.invokevirtual 47, 3) := by decide +kernel
theorem dL_isBorne_98 : decode cL_isBorne 98 = .ok (.iload_n 2, 1) := by decide +kernel
theorem dL_isBorne_99 : decode cL_isBorne 99 = .ok (.if_icmp .ne 39, 3) := by decide +kernel
theorem dL_isBorne_102 : decode cL_isBorne 102 = .ok (.aload_n 0, 1) := by decide +kernel
theorem dL_isBorne_103 : decode cL_isBorne 103 = .ok (.iload_n 1, 1) := by decide +kernel
theorem dL_isBorne_104 : decode cL_isBorne 104 = .ok (.iconst 1, 1) := by decide +kernel
theorem dL_isBorne_105 : decode cL_isBorne 105 = .ok (.invokevirtual 47, 3) := by decide +kernel
theorem dL_isBorne_108 : decode cL_isBorne 108 = .ok (.iload 4, 2) := by decide +kernel
theorem dL_isBorne_110 : decode cL_isBorne 110 = .ok (.if_icmp .ne 28, 3) := by decide +kernel
theorem dL_isBorne_113 : decode cL_isBorne 113 = .ok (.aload_n 0, 1) := by decide +kernel
theorem dL_isBorne_114 : decode cL_isBorne 114 = .ok (.iload_n 1, 1) := by decide +kernel
theorem dL_isBorne_115 : decode cL_isBorne 115 = .ok (.iconst 2, 1) := by decide +kernel
theorem dL_isBorne_116 : decode cL_isBorne 116 = .ok (.invokevirtual 47, 3) := by decide +kernel
theorem dL_isBorne_119 : decode cL_isBorne 119 = .ok (.iload_n 3, 1) := by decide +kernel
theorem dL_isBorne_120 : decode cL_isBorne 120 = .ok (.if_icmp .ne 18, 3) := by decide +kernel
theorem dL_isBorne_123 : decode cL_isBorne 123 = .ok (.aload_n 0, 1) := by decide +kernel
theorem dL_isBorne_124 : decode cL_isBorne 124 = .ok (.iload_n 1, 1) := by decide +kernel
theorem dL_isBorne_125 : decode cL_isBorne 125 = .ok (.iconst 3, 1) := by decide +kernel
theorem dL_isBorne_126 : decode cL_isBorne 126 = .ok (.invokevirtual 47, 3) := by decide +kernel
theorem dL_isBorne_129 : decode cL_isBorne 129 = .ok (.iload 5, 2) := by decide +kernel
theorem dL_isBorne_131 : decode cL_isBorne 131 = .ok (.if_icmp .ne 7, 3) := by decide +kernel
theorem dL_isBorne_134 : decode cL_isBorne 134 = .ok (.iconst 1, 1) := by decide +kernel
theorem dL_isBorne_135 : decode cL_isBorne 135 = .ok (.goto 4, 3) := by decide +kernel
theorem dL_isBorne_138 : decode cL_isBorne 138 = .ok (.iconst 0, 1) := by decide +kernel
theorem dL_isBorne_139 : decode cL_isBorne 139 = .ok (.ireturn, 1) := by decide +kernel
theorem dL_isAll_0 : decode cL_isAll 0 = .ok (.iconst 0, 1) := by decide +kernel
theorem dL_isAll_1 : decode cL_isAll 1 = .ok (.istore_n 1, 1) := by decide +kernel
theorem dL_isAll_2 : decode cL_isAll 2 = .ok (.iconst 0, 1) := by decide +kernel
theorem dL_isAll_3 : decode cL_isAll 3 = .ok (.istore_n 2, 1) := by decide +kernel
theorem dL_isAll_4 : decode cL_isAll 4 = .ok (.iconst 1, 1) := by decide +kernel
theorem dL_isAll_5 : decode cL_isAll 5 = .ok (.istore_n 3, 1) := by decide +kernel
theorem dL_isAll_6 : decode cL_isAll 6 = .ok (.iconst 0, 1) := by decide +kernel
theorem dL_isAll_7 : decode cL_isAll 7 = .ok (.istore 4, 2) := by decide +kernel
theorem dL_isAll_9 : decode cL_isAll 9 = .ok (.iload 4, 2) := by decide +kernel
theorem dL_isAll_11 : decode cL_isAll 11 = .ok (.aload_n 0, 1) := by decide +kernel
theorem dL_isAll_12 : decode cL_isAll 12 = .ok (.iconst 3, 1) := by decide +kernel
theorem dL_isAll_13 : decode cL_isAll 13 = .ok (.invokevirtual 50, 3) := by decide +kernel
theorem dL_isAll_16 : decode cL_isAll 16 = .ok (.if_icmp .ge 109, 3) := by decide +kernel
theorem dL_isAll_19 : decode cL_isAll 19 = .ok (.iload_n 3, 1) := by decide +kernel
theorem dL_isAll_20 : decode cL_isAll 20 = .ok (.ifCond .eq 105, 3) := by decide +kernel
theorem dL_isAll_23 : decode cL_isAll 23 = .ok (.aload_n 0, 1) := by decide +kernel
theorem dL_isAll_24 : decode cL_isAll 24 = .ok (.iload 4, 2) := by decide +kernel
theorem dL_isAll_26 : decode cL_isAll 26 = .ok (.iconst 0, 1) := by decide +kernel
theorem dL_isAll_27 : decode cL_isAll 27 = .ok (.invokevirtual 36, 3) := by decide +kernel
theorem dL_isAll_30 : decode cL_isAll 30 = .ok (.ifCond .lt 7, 3) := by decide +kernel
theorem dL_isAll_33 : decode cL_isAll 33 = .ok (.iconst 1, 1) := by decide +kernel
theorem dL_isAll_34 : decode cL_isAll 34 = .ok (.goto 4, 3) := by decide +kernel
theorem dL_isAll_37 : decode cL_isAll 37 = .ok (.iconst 0, 1) := by decide +kernel
theorem dL_isAll_38 : decode cL_isAll 38 = .ok (.istore 5, 2) := by decide +kernel
theorem dL_isAll_40 : decode cL_isAll 40 = .ok (.iload_n 1, 1) := by decide +kernel
theorem dL_isAll_41 : decode cL_isAll 41 = .ok (.iload 5, 2) := by decide +kernel
theorem dL_isAll_43 : decode cL_isAll 43 = .ok (.ifCond .eq 7, 3) := by decide +kernel
theorem dL_isAll_46 : decode cL_isAll 46 = .ok (.iconst 1, 1) := by decide +kernel
theorem dL_isAll_47 : decode cL_isAll 47 = .ok (.goto 4, 3) := by decide +kernel
theorem dL_isAll_50 : decode cL_isAll 50 = .ok (.iconst 0, 1) := by decide +kernel
theorem dL_isAll_51 : decode cL_isAll 51 = .ok (.iadd, 1) := by decide +kernel
theorem dL_isAll_52 : decode cL_isAll 52 = .ok (.istore_n 1, 1) := by decide +kernel
theorem dL_isAll_53 : decode cL_isAll 53 = .ok (.iload_n 2, 1) := by decide +kernel
theorem dL_isAll_54 : decode cL_isAll 54 = .ok (.iload 5, 2) := by decide +kernel
theorem dL_isAll_56 : decode cL_isAll 56 = .ok (.ifCond .eq 40, 3) := by decide +kernel
theorem dL_isAll_59 : decode cL_isAll 59 = .ok (.aload_n 0, 1) := by decide +kernel
theorem dL_isAll_60 : decode cL_isAll 60 = .ok (.iload 4, 2) := by decide +kernel
theorem dL_isAll_62 : decode cL_isAll 62 = .ok (.iconst 0, 1) := by decide +kernel
theorem dL_isAll_63 : decode cL_isAll 63 = .ok (.invokevirtual 36, 3) := by decide +kernel
theorem dL_isAll_66 : decode cL_isAll 66 = .ok (.iconst 2, 1) := by decide +kernel
theorem dL_isAll_67 : decode cL_isAll 67 = .ok (.if_icmp .ne 8, 3) := by decide +kernel
theorem dL_isAll_70 : decode cL_isAll 70 = .ok (.bipush 100, 2) := by decide +kernel
theorem dL_isAll_72 : decode cL_isAll 72 = .ok (.goto 25, 3) := by decide +kernel
theorem dL_isAll_75 : decode cL_isAll 75 = .ok (.aload_n 0, 1) := by decide +kernel
theorem dL_isAll_76 : decode cL_isAll 76 = .ok (.iload 4, 2) := by decide +kernel
theorem dL_isAll_78 : decode cL_isAll 78 = .ok (.iconst 0, 1) := by decide +kernel
theorem dL_isAll_79 : decode cL_isAll 79 = .ok (.invokevirtual 36, 3) := by decide +kernel
theorem dL_isAll_82 : decode cL_isAll 82 = .ok (.iconst 1, 1) := by decide +kernel
theorem dL_isAll_83 : decode cL_isAll 83 = .ok (.if_icmp .ne 9, 3) := by decide +kernel
theorem dL_isAll_86 : decode cL_isAll 86 = .ok (.sipush 10000, 3) := by decide +kernel
theorem dL_isAll_89 : decode cL_isAll 89 = .ok (.goto 8, 3) := by decide +kernel
theorem dL_isAll_92 : decode cL_isAll 92 = .ok (.iconst 1, 1) := by decide +kernel
theorem dL_isAll_93 : decode cL_isAll 93 = .ok (.goto 4, 3) := by decide +kernel
theorem dL_isAll_96 : decode cL_isAll 96 = .ok (.iconst 0, 1) := by decide +kernel
theorem dL_isAll_97 : decode cL_isAll 97 = .ok (.iadd, 1) := by decide +kernel
theorem dL_isAll_98 : decode cL_isAll 98 = .ok (.istore_n 2, 1) := by decide +kernel
theorem dL_isAll_99 : decode cL_isAll 99 = .ok (.iload 5, 2) := by decide +kernel
theorem dL_isAll_101 : decode cL_isAll 101 = .ok (.ifCond .eq 12, 3) := by decide +kernel
theorem dL_isAll_104 : decode cL_isAll 104 = .ok (.aload_n 0, 1) := by decide +kernel
theorem dL_isAll_105 : decode cL_isAll 105 = .ok (.iload 4, 2) := by decide +kernel
theorem dL_isAll_107 : decode cL_isAll 107 = .ok (.invokestatic 54, 3) := by decide +kernel
theorem dL_isAll_110 : decode cL_isAll 110 = .ok (.ifCond .eq 7, 3) := by decide +kernel
theorem dL_isAll_113 : decode cL_isAll 113 = .ok (.iconst 1, 1) := by decide +kernel
theorem dL_isAll_114 : decode cL_isAll 114 = .ok (.goto 4, 3) := by decide +kernel
theorem dL_isAll_117 : decode cL_isAll 117 = .ok (.iconst 0, 1) := by decide +kernel
theorem dL_isAll_118 : decode cL_isAll 118 = .ok (.istore_n 3, 1) := by decide +kernel
theorem dL_isAll_119 : decode cL_isAll 119 = .ok (.iinc 4 1, 3) := by decide +kernel
theorem dL_isAll_122 : decode cL_isAll 122 = .ok (.goto (-113), 3) := by decide +kernel
theorem dL_isAll_125 : decode cL_isAll 125 = .ok (.iload_n 3, 1) := by decide +kernel
theorem dL_isAll_126 : decode cL_isAll 126 = .ok (.ifCond .eq 59, 3) := by decide +kernel
theorem dL_isAll_129 : decode cL_isAll 129 = .ok (.iload_n 1, 1) := by decide +kernel
theorem dL_isAll_130 : decode cL_isAll 130 = .ok (.aload_n 0, 1) := by decide +kernel
theorem dL_isAll_131 : decode cL_isAll 131 = .ok (.iconst 2, 1) := by decide +kernel
theorem dL_isAll_132 : decode cL_isAll 132 = .ok (.invokevirtual 50, 3) := by decide +kernel
theorem dL_isAll_135 : decode cL_isAll 135 = .ok (.if_icmp .ne 50, 3) := by decide +kernel
theorem dL_isAll_138 : decode cL_isAll 138 = .ok (.iload_n 2, 1) := by decide +kernel
theorem dL_isAll_139 : decode cL_isAll 139 = .ok (.aload_n 0, 1) := by decide +kernel
theorem dL_isAll_140 : decode cL_isAll 140 = .ok (.iconst 5, 1) := by decide +kernel
theorem dL_isAll_141 : decode cL_isAll 141 = .ok (.invokevirtual 50, 3) := by decide +kernel
theorem dL_isAll_144 : decode cL_isAll 144 = .ok (.bipush 100, 2) := by decide +kernel
theorem dL_isAll_146 : decode cL_isAll 146 = .ok (.aload_n 0, 1) := by decide +kernel
theorem dL_isAll_147 : decode cL_isAll 147 = .ok (.iconst 4, 1) := by decide +kernel
theorem dL_isAll_148 : decode cL_isAll 148 = .ok (.invokevirtual 50, 3) := by decide +kernel
theorem dL_isAll_151 : decode cL_isAll 151 = .ok (.imul, 1) := by decide +kernel
theorem dL_isAll_152 : decode cL_isAll 152 = .ok (.iadd, 1) := by decide +kernel
theorem dL_isAll_153 : decode cL_isAll 153 = .ok (.sipush 10000, 3) := by decide +kernel
theorem dL_isAll_156 : decode cL_isAll 156 = .ok (.aload_n 0, 1) := by decide +kernel
theorem dL_isAll_157 : decode cL_isAll 157 = .ok (.bipush 6, 2) := by decide +kernel
theorem dL_isAll_159 : decode cL_isAll 159 = .ok (.invokevirtual 50, 3) := by decide +kernel
theorem dL_isAll_162 : decode cL_isAll 162 = .ok (.imul, 1) := by decide +kernel
theorem dL_isAll_163 : decode cL_isAll 163 = .ok (.iadd, 1) := by decide +kernel
theorem dL_isAll_164 : decode cL_isAll 164 = .ok (.if_icmp .ne 21, 3) := by decide +kernel
theorem dL_isAll_167 : decode cL_isAll 167 = .ok (.aload_n 0, 1) := by decide +kernel
theorem dL_isAll_168 : decode cL_isAll 168 = .ok (.aload_n 0, 1) := by decide +kernel
theorem dL_isAll_169 : decode cL_isAll 169 = .ok (.iconst 4, 1) := by decide +kernel
theorem dL_isAll_170 : decode cL_isAll 170 = .ok (.invokevirtual 50, 3) := by decide +kernel
theorem dL_isAll_173 : decode cL_isAll 173 = .ok (.invokevirtual 57, 3) := by decide +kernel
theorem dL_isAll_176 : decode cL_isAll 176 = .ok (.bipush (-5), 2) := by decide +kernel
theorem dL_isAll_178 : decode cL_isAll 178 = .ok (.if_icmp .ne 7, 3) := by decide +kernel
theorem dL_isAll_181 : decode cL_isAll 181 = .ok (.iconst 1, 1) := by decide +kernel
theorem dL_isAll_182 : decode cL_isAll 182 = .ok (.goto 4, 3) := by decide +kernel
theorem dL_isAll_185 : decode cL_isAll 185 = .ok (.iconst 0, 1) := by decide +kernel
theorem dL_isAll_186 : decode cL_isAll 186 = .ok (.istore_n 3, 1) := by decide +kernel
theorem dL_isAll_187 : decode cL_isAll 187 = .ok (.iconst 1, 1) := by decide +kernel
theorem dL_isAll_188 : decode cL_isAll 188 = .ok (.istore 4, 2) := by decide +kernel
theorem dL_isAll_190 : decode cL_isAll 190 = .ok (.iload 4, 2) := by decide +kernel
theorem dL_isAll_192 : decode cL_isAll 192 = .ok (.aload_n 0, 1) := by decide +kernel
theorem dL_isAll_193 : decode cL_isAll 193 = .ok (.iconst 4, 1) := by decide +kernel
theorem dL_isAll_194 : decode cL_isAll 194 = .ok (.invokevirtual 50, 3) := by decide +kernel
theorem dL_isAll_197 : decode cL_isAll 197 = .ok (.if_icmp .ge 82, 3) := by decide +kernel
theorem dL_isAll_200 : decode cL_isAll 200 = .ok (.iload_n 3, 1) := by decide +kernel
theorem dL_isAll_201 : decode cL_isAll 201 = .ok (.ifCond .eq 78, 3) := by decide +kernel
theorem dL_isAll_204 : decode cL_isAll 204 = .ok (.aload_n 0, 1) := by decide +kernel
theorem dL_isAll_205 : decode cL_isAll 205 = .ok (.iload 4, 2) := by decide +kernel
theorem dL_isAll_207 : decode cL_isAll 207 = .ok (.iconst 1, 1) := by decide +kernel
theorem dL_isAll_208 : decode cL_isAll 208 = .ok (.isub, 1) := by decide +kernel
theorem dL_isAll_209 : decode cL_isAll 209 = .ok (.invokevirtual 57, 3) := by decide +kernel
theorem dL_isAll_212 : decode cL_isAll 212 = .ok (.istore 5, 2) := by decide +kernel
theorem dL_isAll_214 : decode cL_isAll 214 = .ok (.aload_n 0, 1) := by decide +kernel
theorem dL_isAll_215 : decode cL_isAll 215 = .ok (.iload 4, 2) := by decide +kernel
theorem dL_isAll_217 : decode cL_isAll 217 = .ok (.invokevirtual 57, 3) := by decide +kernel
theorem dL_isAll_220 : decode cL_isAll 220 = .ok (.istore 6, 2) := by decide +kernel
theorem dL_isAll_222 : decode cL_isAll 222 = .ok (.aload_n 0, 1) := by decide +kernel
theorem dL_isAll_223 : decode cL_isAll 223 = .ok (.iload 5, 2) := by decide +kernel
theorem dL_isAll_225 : decode cL_isAll 225 = .ok (.bipush 7, 2) := by decide +kernel
theorem dL_isAll_227 : decode cL_isAll 227 = .ok (.invokevirtual 36, 3) := by decide +kernel
theorem dL_isAll_230 : decode cL_isAll 230 = .ok (.aload_n 0, 1) := by decide +kernel
theorem dL_isAll_231 : decode cL_isAll 231 = .ok (.iload 6, 2) := by decide +kernel
theorem dL_isAll_233 : decode cL_isAll 233 = .ok (.bipush 7, 2) := by decide +kernel
theorem dL_isAll_235 : decode cL_isAll 235 = .ok (.invokevirtual 36, 3) := by decide +kernel
theorem dL_isAll_238 : decode cL_isAll 238 = .ok (.if_icmp .gt 29, 3) := by decide +kernel
theorem dL_isAll_241 : decode cL_isAll 241 = .ok (.aload_n 0, 1) := by decide +kernel
theorem dL_isAll_242 : decode cL_isAll 242 = .ok (.iload 5, 2) := by decide +kernel
theorem dL_isAll_244 : decode cL_isAll 244 = .ok (.bipush 7, 2) := by decide +kernel
theorem dL_isAll_246 : decode cL_isAll 246 = .ok (.invokevirtual 36, 3) := by decide +kernel
theorem dL_isAll_249 : decode cL_isAll 249 = .ok (.aload_n 0, 1) := by decide +kernel
theorem dL_isAll_250 : decode cL_isAll 250 = .ok (.iload 6, 2) := by decide +kernel
theorem dL_isAll_252 : decode cL_isAll 252 = .ok (.bipush 7, 2) := by decide +kernel
theorem dL_isAll_254 : decode cL_isAll 254 = .ok (.invokevirtual 36, 3) := by decide +kernel
theorem dL_isAll_257 : decode cL_isAll 257 = .ok (.if_icmp .ne 14, 3) := by decide +kernel
theorem dL_isAll_260 : decode cL_isAll 260 = .ok (.iload 5, 2) := by decide +kernel
theorem dL_isAll_262 : decode cL_isAll 262 = .ok (.iload 6, 2) := by decide +kernel
theorem dL_isAll_264 : decode cL_isAll 264 = .ok (.if_icmp .ge 7, 3) := by decide +kernel
theorem dL_isAll_267 : decode cL_isAll 267 = .ok (.iconst 1, 1) := by decide +kernel
theorem dL_isAll_268 : decode cL_isAll 268 = .ok (.goto 4, 3) := by decide +kernel
theorem dL_isAll_271 : decode cL_isAll 271 = .ok (.iconst 0, 1) := by decide +kernel
theorem dL_isAll_272 : decode cL_isAll 272 = .ok (.istore_n 3, 1) := by decide +kernel
theorem dL_isAll_273 : decode cL_isAll 273 = .ok (.iinc 4 1, 3) := by decide +kernel
theorem dL_isAll_276 : decode cL_isAll 276 = .ok (.goto (-86), 3) := by decide +kernel
theorem dL_isAll_279 : decode cL_isAll 279 = .ok (.iload_n 3, 1) := by decide +kernel
theorem dL_isAll_280 : decode cL_isAll 280 = .ok (.ireturn, 1) := by decide +kernel
theorem dL_happens_0 : decode cL_happens 0 = .ok (.aload_n 0, 1) := by decide +kernel
theorem dL_happens_1 : decode cL_happens 1 = .ok (.iload_n 2, 1) := by decide +kernel
theorem dL_happens_2 : decode cL_happens 2 = .ok (.iload_n 1, 1) := by decide +kernel
theorem dL_happens_3 : decode cL_happens 3 = .ok (.invokevirtual 44, 3) := by decide +kernel
theorem dL_happens_6 : decode cL_happens 6 = .ok (.istore_n 3, 1) := by decide +kernel
theorem dL_happens_7 : decode cL_happens 7 = .ok (.aload_n 0, 1) := by decide +kernel
theorem dL_happens_8 : decode cL_happens 8 = .ok (.iconst 4, 1) := by decide +kernel
theorem dL_happens_9 : decode cL_happens 9 = .ok (.invokevirtual 50, 3) := by decide +kernel
theorem dL_happens_12 : decode cL_happens 12 = .ok (.istore 4, 2) := by decide +kernel
theorem dL_happens_14 : decode cL_happens 14 = .ok (.aload_n 0, 1) := by decide +kernel
theorem dL_happens_15 : decode cL_happens 15 = .ok (.iconst 0, 1) := by decide +kernel
theorem dL_happens_16 : decode cL_happens 16 = .ok (.invokevirtual 50, 3) := by decide +kernel
theorem dL_happens_19 : decode cL_happens 19 = .ok (.istore 5, 2) := by decide +kernel
theorem dL_happens_21 : decode cL_happens 21 = .ok (.iconst 0, 1) := by decide +kernel
theorem dL_happens_22 : decode cL_happens 22 = .ok (.istore 6, 2) := by decide +kernel
theorem dL_happens_24 : decode cL_happens 24 = .ok (.aload_n 0, 1) := by decide +kernel
theorem dL_happens_25 : decode cL_happens 25 = .ok (.iload_n 2, 1) := by decide +kernel
theorem dL_happens_26 : decode cL_happens 26 = .ok (.iconst 0, 1) := by decide +kernel
theorem dL_happens_27 : decode cL_happens 27 = .ok (.invokevirtual 36, 3) := by decide +kernel
theorem dL_happens_30 : decode cL_happens 30 = .ok (.iconst 2, 1) := by decide +kernel
theorem dL_happens_31 : decode cL_happens 31 = .ok (.if_icmp .ne 7, 3) := by decide +kernel
theorem dL_happens_34 : decode cL_happens 34 = .ok (.iconst 1, 1) := by decide +kernel
theorem dL_happens_35 : decode cL_happens 35 = .ok (.goto 4, 3) := by decide +kernel
theorem dL_happens_38 : decode cL_happens 38 = .ok (.iconst 0, 1) := by decide +kernel
theorem dL_happens_39 : decode cL_happens 39 = .ok (.istore 7, 2) := by decide +kernel
theorem dL_happens_41 : decode cL_happens 41 = .ok (.iconst 0, 1) := by decide +kernel
theorem dL_happens_42 : decode cL_happens 42 = .ok (.istore 8, 2) := by decide +kernel
theorem dL_happens_44 : decode cL_happens 44 = .ok (.iload 8, 2) := by decide +kernel
theorem dL_happens_46 : decode cL_happens 46 = .ok (.bipush 6, 2) := by decide +kernel
theorem dL_happens_48 : decode cL_happens 48 = .ok (.if_icmp .ge 36, 3) := by decide +kernel
theorem dL_happens_51 : decode cL_happens 51 = .ok (.iload 6, 2) := by decide +kernel
theorem dL_happens_53 : decode cL_happens 53 = .ok (.aload_n 0, 1) := by decide +kernel
theorem dL_happens_54 : decode cL_happens 54 = .ok (.iload_n 2, 1) := by decide +kernel
theorem dL_happens_55 : decode cL_happens 55 = .ok (.iload_n 1, 1) := by decide +kernel
theorem dL_happens_56 : decode cL_happens 56 = .ok (.iconst 1, 1) := by decide +kernel
theorem dL_happens_57 : decode cL_happens 57 = .ok (.iload 8, 2) := by decide +kernel
theorem dL_happens_59 : decode cL_happens 59 = .ok (.ishl, 1) := by decide +kernel
theorem dL_happens_60 : decode cL_happens 60 = .ok (.ixor, 1) := by decide +kernel
theorem dL_happens_61 : decode cL_happens 61 = .ok (.invokevirtual 44, 3) := by decide +kernel
theorem dL_happens_64 : decode cL_happens 64 = .ok (.ifCond .eq 10, 3) := by decide +kernel
theorem dL_happens_67 : decode cL_happens 67 = .ok (.iconst 1, 1) := by decide +kernel
theorem dL_happens_68 : decode cL_happens 68 = .ok (.iload 8, 2) := by decide +kernel
theorem dL_happens_70 : decode cL_happens 70 = .ok (.ishl, 1) := by decide +kernel
theorem dL_happens_71 : decode cL_happens 71 = .ok (.goto 4, 3) := by decide +kernel
theorem dL_happens_74 : decode cL_happens 74 = .ok (.iconst 0, 1) := by decide +kernel
theorem dL_happens_75 : decode cL_happens 75 = .ok (.ior, 1) := by decide +kernel
theorem dL_happens_76 : decode cL_happens 76 = .ok (.istore 6, 2) := by decide +kernel
theorem dL_happens_78 : decode cL_happens 78 = .ok (.iinc 8 1, 3) := by decide +kernel
theorem dL_happens_81 : decode cL_happens 81 = .ok (.goto (-37), 3) := by decide +kernel
theorem dL_happens_84 : decode cL_happens 84 = .ok (.aload_n 0, 1) := by decide +kernel
theorem dL_happens_85 : decode cL_happens 85 = .ok (.iload_n 1, 1) := by decide +kernel
theorem dL_happens_86 : decode cL_happens 86 = .ok (.invokevirtual 60, 3) := by decide +kernel
theorem dL_happens_89 : decode cL_happens 89 = .ok (.istore 8, 2) := by decide +kernel
theorem dL_happens_91 : decode cL_happens 91 = .ok (.iload 8, 2) := by decide +kernel
theorem dL_happens_93 : decode cL_happens 93 = .ok (.ifCond .ge 26, 3) := by decide +kernel
theorem dL_happens_96 : decode cL_happens 96 = .ok (.iload 8, 2) := by decide +kernel
theorem dL_happens_98 : decode cL_happens 98 = .ok (.bipush (-3), 2) := by decide +kernel
theorem dL_happens_100 : decode cL_happens 100 = .ok (.if_icmp .ne 17, 3) := by decide +kernel
theorem dL_happens_103 : decode cL_happens 103 = .ok (.aload_n 0, 1) := by decide +kernel
theorem dL_happens_104 : decode cL_happens 104 = .ok (.iconst 0, 1) := by decide +kernel
theorem dL_happens_105 : decode cL_happens 105 = .ok (.invokevirtual 50, 3) := by decide +kernel
theorem dL_happens_108 : decode cL_happens 108 = .ok (.iload 5, 2) := by decide +kernel
theorem dL_happens_110 : decode cL_happens 110 = .ok (.if_icmp .ne 7, 3) := by decide +kernel
theorem dL_happens_113 : decode cL_happens 113 = .ok (.iconst 1, 1) := by decide +kernel
theorem dL_happens_114 : decode cL_happens 114 = .ok (.goto 4, 3) := by decide +kernel
theorem dL_happens_117 : decode cL_happens 117 = .ok (.iconst 0, 1) := by decide +kernel
theorem dL_happens_118 : decode cL_happens 118 = .ok (.ireturn, 1) := by decide +kernel
theorem dL_happens_119 : decode cL_happens 119 = .ok (.aload_n 0, 1) := by decide +kernel
theorem dL_happens_120 : decode cL_happens 120 = .ok (.iload 5, 2) := by decide +kernel
theorem dL_happens_122 : decode cL_happens 122 = .ok (.invokevirtual 63, 3) := by decide +kernel
theorem dL_happens_125 : decode cL_happens 125 = .ok (.iload_n 1, 1) := by decide +kernel
theorem dL_happens_126 : decode cL_happens 126 = .ok (.if_icmp .ne 45, 3) := by decide +kernel
theorem dL_happens_129 : decode cL_happens 129 = .ok (.aload_n 0, 1) := by decide +kernel
theorem dL_happens_130 : decode cL_happens 130 = .ok (.iload 5, 2) := by decide +kernel
theorem dL_happens_132 : decode cL_happens 132 = .ok (.iconst 1, 1) := by decide +kernel
theorem dL_happens_133 : decode cL_happens 133 = .ok (.iadd, 1) := by decide +kernel
theorem dL_happens_134 : decode cL_happens 134 = .ok (.invokevirtual 63, 3) := by decide +kernel
theorem dL_happens_137 : decode cL_happens 137 = .ok (.bipush (-5), 2) := by decide +kernel
theorem dL_happens_139 : decode cL_happens 139 = .ok (.if_icmp .ne 32, 3) := by decide +kernel
theorem dL_happens_142 : decode cL_happens 142 = .ok (.aload_n 0, 1) := by decide +kernel
theorem dL_happens_143 : decode cL_happens 143 = .ok (.iconst 4, 1) := by decide +kernel
theorem dL_happens_144 : decode cL_happens 144 = .ok (.invokevirtual 50, 3) := by decide +kernel
theorem dL_happens_147 : decode cL_happens 147 = .ok (.iload 4, 2) := by decide +kernel
theorem dL_happens_149 : decode cL_happens 149 = .ok (.iload 8, 2) := by decide +kernel
theorem dL_happens_151 : decode cL_happens 151 = .ok (.isub, 1) := by decide +kernel
theorem dL_happens_152 : decode cL_happens 152 = .ok (.if_icmp .ne 19, 3) := by decide +kernel
theorem dL_happens_155 : decode cL_happens 155 = .ok (.aload_n 0, 1) := by decide +kernel
theorem dL_happens_156 : decode cL_happens 156 = .ok (.iconst 0, 1) := by decide +kernel
theorem dL_happens_157 : decode cL_happens 157 = .ok (.invokevirtual 50, 3) := by decide +kernel
theorem dL_happens_160 : decode cL_happens 160 = .ok (.iload 5, 2) := by decide +kernel
theorem dL_happens_162 : decode cL_happens 162 = .ok (.iconst 1, 1) := by decide +kernel
theorem dL_happens_163 : decode cL_happens 163 = .ok (.iadd, 1) := by decide +kernel
theorem dL_happens_164 : decode cL_happens 164 = .ok (.if_icmp .ne 7, 3) := by decide +kernel
theorem dL_happens_167 : decode cL_happens 167 = .ok (.iconst 1, 1) := by decide +kernel
theorem dL_happens_168 : decode cL_happens 168 = .ok (.goto 4, 3) := by decide +kernel
theorem dL_happens_171 : decode cL_happens 171 = .ok (.iconst 0, 1) := by decide +kernel
theorem dL_happens_172 : decode cL_happens 172 = .ok (.istore 9, 2) := by decide +kernel
theorem dL_happens_174 : decode cL_happens 174 = .ok (.iload 9, 2) := by decide +kernel
theorem dL_happens_176 : decode cL_happens 176 = .ok (.ifCond .eq 61, 3) := by decide +kernel
theorem dL_happens_179 : decode cL_happens 179 = .ok (.iload_n 3, 1) := by decide +kernel
theorem dL_happens_180 : decode cL_happens 180 = .ok (.ifCond .lt 53, 3) := by decide +kernel
theorem dL_happens_183 : decode cL_happens 183 = .ok (.aload_n 0, 1) := by decide +kernel
theorem dL_happens_184 : decode cL_happens 184 = .ok (.iload_n 2, 1) := by decide +kernel
theorem dL_happens_185 : decode cL_happens 185 = .ok (.iconst 0, 1) := by decide +kernel
theorem dL_happens_186 : decode cL_happens 186 = .ok (.invokevirtual 36, 3) := by decide +kernel
theorem dL_happens_189 : decode cL_happens 189 = .ok (.iload_n 3, 1) := by decide +kernel
theorem dL_happens_190 : decode cL_happens 190 = .ok (.if_icmp .ne 47, 3) := by decide +kernel
theorem dL_happens_193 : decode cL_happens 193 = .ok (.iload 7, 2) := by decide +kernel
theorem dL_happens_195 : decode cL_happens 195 = .ok (.ifCond .eq 38, 3) := by decide +kernel
theorem dL_happens_198 : decode cL_happens 198 = .ok (.iload_n 3, 1) := by decide +kernel
theorem dL_happens_199 : decode cL_happens 199 = .ok (.iconst 2, 1) := by decide +kernel
theorem dL_happens_200 : decode cL_happens 200 = .ok (.if_icmp .eq 33, 3) := by decide +kernel
theorem dL_happens_203 : decode cL_happens 203 = .ok (.aload_n 0, 1) := by decide +kernel
theorem dL_happens_204 : decode cL_happens 204 = .ok (.iload_n 2, 1) := by decide +kernel
theorem dL_happens_205 : decode cL_happens 205 = .ok (.iconst 4, 1) := by decide +kernel
theorem dL_happens_206 : decode cL_happens 206 = .ok (.invokevirtual 36, 3) := by decide +kernel
theorem dL_happens_209 : decode cL_happens 209 = .ok (.iload 5, 2) := by decide +kernel
theorem dL_happens_211 : decode cL_happens 211 = .ok (.if_icmp .ne 26, 3) := by decide +kernel
theorem dL_happens_214 : decode cL_happens 214 = .ok (.aload_n 0, 1) := by decide +kernel
theorem dL_happens_215 : decode cL_happens 215 = .ok (.iload_n 2, 1) := by decide +kernel
theorem dL_happens_216 : decode cL_happens 216 = .ok (.iconst 5, 1) := by decide +kernel
theorem dL_happens_217 : decode cL_happens 217 = .ok (.invokevirtual 36, 3) := by decide +kernel
theorem dL_happens_220 : decode cL_happens 220 = .ok (.iload_n 3, 1) := by decide +kernel
theorem dL_happens_221 : decode cL_happens 221 = .ok (.ifCond .ne 8, 3) := by decide +kernel
theorem dL_happens_224 : decode cL_happens 224 = .ok (.iload 6, 2) := by decide +kernel
theorem dL_happens_226 : decode cL_happens 226 = .ok (.goto 4, 3) := by decide +kernel
theorem dL_happens_229 : decode cL_happens 229 = .ok (.iconst 0, 1) := by decide +kernel
theorem dL_happens_230 : decode cL_happens 230 = .ok (.if_icmp .ne 7, 3) := by decide +kernel
theorem dL_happens_233 : decode cL_happens 233 = .ok (.iconst 1, 1) := by decide +kernel
theorem dL_happens_234 : decode cL_happens 234 = .ok (.goto 4, 3) := by decide +kernel
theorem dL_happens_237 : decode cL_happens 237 = .ok (.iconst 0, 1) := by decide +kernel
theorem dL_happens_238 : decode cL_happens 238 = .ok (.ireturn, 1) := by decide +kernel
theorem dL_joins_0 : decode cL_joins 0 = .ok (.iload_n 1, 1) := by decide +kernel
theorem dL_joins_1 : decode cL_joins 1 = .ok (.iconst 2, 1) := by decide +kernel
theorem dL_joins_2 : decode cL_joins 2 = .ok (.ishr, 1) := by decide +kernel
theorem dL_joins_3 : decode cL_joins 3 = .ok (.bipush 8, 2) := by decide +kernel
theorem dL_joins_5 : decode cL_joins 5 = .ok (.irem, 1) := by decide +kernel
theorem dL_joins_6 : decode cL_joins 6 = .ok (.istore_n 2, 1) := by decide +kernel
theorem dL_joins_7 : decode cL_joins 7 = .ok (.iload_n 1, 1) := by decide +kernel
theorem dL_joins_8 : decode cL_joins 8 = .ok (.iconst 5, 1) := by decide +kernel
theorem dL_joins_9 : decode cL_joins 9 = .ok (.ishr, 1) := by decide +kernel
theorem dL_joins_10 : decode cL_joins 10 = .ok (.bipush 8, 2) := by decide +kernel
theorem dL_joins_12 : decode cL_joins 12 = .ok (.irem, 1) := by decide +kernel
theorem dL_joins_13 : decode cL_joins 13 = .ok (.istore_n 3, 1) := by decide +kernel
theorem dL_joins_14 : decode cL_joins 14 = .ok (.iload_n 1, 1) := by decide +kernel
theorem dL_joins_15 : decode cL_joins 15 = .ok (.iconst 2, 1) := by decide +kernel
theorem dL_joins_16 : decode cL_joins 16 = .ok (.irem, 1) := by decide +kernel
theorem dL_joins_17 : decode cL_joins 17 = .ok (.iconst 1, 1) := by decide +kernel
theorem dL_joins_18 : decode cL_joins 18 = .ok (.if_icmp .ne 7, 3) := by decide +kernel
theorem dL_joins_21 : decode cL_joins 21 = .ok (.iconst 1, 1) := by decide +kernel
theorem dL_joins_22 : decode cL_joins 22 = .ok (.goto 4, 3) := by decide +kernel
theorem dL_joins_25 : decode cL_joins 25 = .ok (.iconst 0, 1) := by decide +kernel
theorem dL_joins_26 : decode cL_joins 26 = .ok (.istore 4, 2) := by decide +kernel
theorem dL_joins_28 : decode cL_joins 28 = .ok (.aload_n 0, 1) := by decide +kernel
theorem dL_joins_29 : decode cL_joins 29 = .ok (.iconst 3, 1) := by decide +kernel
theorem dL_joins_30 : decode cL_joins 30 = .ok (.invokevirtual 50, 3) := by decide +kernel
theorem dL_joins_33 : decode cL_joins 33 = .ok (.istore 5, 2) := by decide +kernel
theorem dL_joins_35 : decode cL_joins 35 = .ok (.aload_n 0, 1) := by decide +kernel
theorem dL_joins_36 : decode cL_joins 36 = .ok (.iload_n 2, 1) := by decide +kernel
theorem dL_joins_37 : decode cL_joins 37 = .ok (.iconst 0, 1) := by decide +kernel
theorem dL_joins_38 : decode cL_joins 38 = .ok (.invokevirtual 36, 3) := by decide +kernel
theorem dL_joins_41 : decode cL_joins 41 = .ok (.istore 6, 2) := by decide +kernel
theorem dL_joins_43 : decode cL_joins 43 = .ok (.aload_n 0, 1) := by decide +kernel
theorem dL_joins_44 : decode cL_joins 44 = .ok (.iload_n 3, 1) := by decide +kernel
theorem dL_joins_45 : decode cL_joins 45 = .ok (.iconst 0, 1) := by decide +kernel
theorem dL_joins_46 : decode cL_joins 46 = .ok (.invokevirtual 36, 3) := by decide +kernel
theorem dL_joins_49 : decode cL_joins 49 = .ok (.istore 7, 2) := by decide +kernel
theorem dL_joins_51 : decode cL_joins 51 = .ok (.aload_n 0, 1) := by decide +kernel
theorem dL_joins_52 : decode cL_joins 52 = .ok (.iload_n 2, 1) := by decide +kernel
theorem dL_joins_53 : decode cL_joins 53 = .ok (.iload_n 3, 1) := by decide +kernel
theorem dL_joins_54 : decode cL_joins 54 = .ok (.iload 4, 2) := by decide +kernel
theorem dL_joins_56 : decode cL_joins 56 = .ok (.invokevirtual 66, 3) := by decide +kernel
theorem dL_joins_59 : decode cL_joins 59 = .ok (.istore 8, 2) := by decide +kernel
theorem dL_joins_61 : decode cL_joins 61 = .ok (.iload 6, 2) := by decide +kernel
theorem dL_joins_63 : decode cL_joins 63 = .ok (.ifCond .lt 8, 3) := by decide +kernel
theorem dL_joins_66 : decode cL_joins 66 = .ok (.iload 7, 2) := by decide +kernel
theorem dL_joins_68 : decode cL_joins 68 = .ok (.ifCond .ge 15, 3) := by decide +kernel
theorem dL_joins_71 : decode cL_joins 71 = .ok (.iload 8, 2) := by decide +kernel
theorem dL_joins_73 : decode cL_joins 73 = .ok (.iconst (-1), 1) := by decide +kernel
theorem dL_joins_74 : decode cL_joins 74 = .ok (.if_icmp .ne 7, 3) := by decide +kernel
theorem dL_joins_77 : decode cL_joins 77 = .ok (.iconst 1, 1) := by decide +kernel
theorem dL_joins_78 : decode cL_joins 78 = .ok (.goto 4, 3) := by decide +kernel
theorem dL_joins_81 : decode cL_joins 81 = .ok (.iconst 0, 1) := by decide +kernel
theorem dL_joins_82 : decode cL_joins 82 = .ok (.ireturn, 1) := by decide +kernel
theorem dL_joins_83 : decode cL_joins 83 = .ok (.iload 8, 2) := by decide +kernel
theorem dL_joins_85 : decode cL_joins 85 = .ok (.ifCond .ge 16, 3) := by decide +kernel
theorem dL_joins_88 : decode cL_joins 88 = .ok (.iload 8, 2) := by decide +kernel
theorem dL_joins_90 : decode cL_joins 90 = .ok (.bipush (-3), 2) := by decide +kernel
theorem dL_joins_92 : decode cL_joins 92 = .ok (.if_icmp .ne 7, 3) := by decide +kernel
theorem dL_joins_95 : decode cL_joins 95 = .ok (.iconst 1, 1) := by decide +kernel
theorem dL_joins_96 : decode cL_joins 96 = .ok (.goto 4, 3) := by decide +kernel
theorem dL_joins_99 : decode cL_joins 99 = .ok (.iconst 0, 1) := by decide +kernel
theorem dL_joins_100 : decode cL_joins 100 = .ok (.ireturn, 1) := by decide +kernel
theorem dL_joins_101 : decode cL_joins 101 = .ok (.aload_n 0, 1) := by decide +kernel
theorem dL_joins_102 : decode cL_joins 102 = .ok (.iload 8, 2) := by decide +kernel
theorem dL_joins_104 : decode cL_joins 104 = .ok (.iconst 0, 1) := by decide +kernel
theorem dL_joins_105 : decode cL_joins 105 = .ok (.invokevirtual 36, 3) := by decide +kernel
theorem dL_joins_108 : decode cL_joins 108 = .ok (.istore 9, 2) := by decide +kernel
theorem dL_joins_110 : decode cL_joins 110 = .ok (.iload 8, 2) := by decide +kernel
theorem dL_joins_112 : decode cL_joins 112 = .ok (.iload 5, 2) := by decide +kernel
theorem dL_joins_114 : decode cL_joins 114 = .ok (.if_icmp .ne 35, 3) := by decide +kernel
theorem dL_joins_117 : decode cL_joins 117 = .ok (.aload_n 0, 1) := by decide +kernel
theorem dL_joins_118 : decode cL_joins 118 = .ok (.iload 8, 2) := by decide +kernel
theorem dL_joins_120 : decode cL_joins 120 = .ok (.bipush 8, 2) := by decide +kernel
theorem dL_joins_122 : decode cL_joins 122 = .ok (.invokevirtual 36, 3) := by decide +kernel
theorem dL_joins_125 : decode cL_joins 125 = .ok (.aload_n 0, 1) := by decide +kernel
theorem dL_joins_126 : decode cL_joins 126 = .ok (.iconst 0, 1) := by decide +kernel
theorem dL_joins_127 : decode cL_joins 127 = .ok (.invokevirtual 50, 3) := by decide +kernel
theorem dL_joins_130 : decode cL_joins 130 = .ok (.if_icmp .ne 19, 3) := by decide +kernel
theorem dL_joins_133 : decode cL_joins 133 = .ok (.aload_n 0, 1) := by decide +kernel
theorem dL_joins_134 : decode cL_joins 134 = .ok (.iload 8, 2) := by decide +kernel
theorem dL_joins_136 : decode cL_joins 136 = .ok (.iconst 4, 1) := by decide +kernel
theorem dL_joins_137 : decode cL_joins 137 = .ok (.invokevirtual 36, 3) := by decide +kernel
theorem dL_joins_140 : decode cL_joins 140 = .ok (.bipush (-5), 2) := by decide +kernel
theorem dL_joins_142 : decode cL_joins 142 = .ok (.if_icmp .ne 7, 3) := by decide +kernel
theorem dL_joins_145 : decode cL_joins 145 = .ok (.iconst 1, 1) := by decide +kernel
theorem dL_joins_146 : decode cL_joins 146 = .ok (.goto 4, 3) := by decide +kernel
theorem dL_joins_149 : decode cL_joins 149 = .ok (.iconst 0, 1) := by decide +kernel
theorem dL_joins_150 : decode cL_joins 150 = .ok (.istore 10, 2) := by decide +kernel
theorem dL_joins_152 : decode cL_joins 152 = .ok (.iload 10, 2) := by decide +kernel
theorem dL_joins_154 : decode cL_joins 154 = .ok (.ifCond .eq 87, 3) := by decide +kernel
theorem dL_joins_157 : decode cL_joins 157 = .ok (.iload 4, 2) := by decide +kernel
theorem dL_joins_159 : decode cL_joins 159 = .ok (.ifCond .eq 42, 3) := by decide +kernel
theorem dL_joins_162 : decode cL_joins 162 = .ok (.iload 6, 2) := by decide +kernel
theorem dL_joins_164 : decode cL_joins 164 = .ok (.iconst 1, 1) := by decide +kernel
theorem dL_joins_165 : decode cL_joins 165 = .ok (.if_icmp .eq 9, 3) := by decide +kernel
theorem dL_joins_168 : decode cL_joins 168 = .ok (.iload 7, 2) := by decide +kernel
theorem dL_joins_170 : decode cL_joins 170 = .ok (.iconst 1, 1) := by decide +kernel
theorem dL_joins_171 : decode cL_joins 171 = .ok (.if_icmp .ne 12, 3) := by decide +kernel
theorem dL_joins_174 : decode cL_joins 174 = .ok (.iload 9, 2) := by decide +kernel
theorem dL_joins_176 : decode cL_joins 176 = .ok (.iconst 1, 1) := by decide +kernel
theorem dL_joins_177 : decode cL_joins 177 = .ok (.if_icmp .ne 64, 3) := by decide +kernel
theorem dL_joins_180 : decode cL_joins 180 = .ok (.goto 57, 3) := by decide +kernel
theorem dL_joins_183 : decode cL_joins 183 = .ok (.iload 6, 2) := by decide +kernel
theorem dL_joins_185 : decode cL_joins 185 = .ok (.ifCond .ne 52, 3) := by decide +kernel
theorem dL_joins_188 : decode cL_joins 188 = .ok (.iload 7, 2) := by decide +kernel
theorem dL_joins_190 : decode cL_joins 190 = .ok (.ifCond .ne 47, 3) := by decide +kernel
theorem dL_joins_193 : decode cL_joins 193 = .ok (.iload 9, 2) := by decide +kernel
theorem dL_joins_195 : decode cL_joins 195 = .ok (.ifCond .ne 46, 3) := by decide +kernel
theorem dL_joins_198 : decode cL_joins 198 = .ok (.goto 39, 3) := by decide +kernel
theorem dL_joins_201 : decode cL_joins 201 = .ok (.iload 6, 2) := by decide +kernel
theorem dL_joins_203 : decode cL_joins 203 = .ok (.ifCond .eq 8, 3) := by decide +kernel
theorem dL_joins_206 : decode cL_joins 206 = .ok (.iload 7, 2) := by decide +kernel
theorem dL_joins_208 : decode cL_joins 208 = .ok (.ifCond .ne 11, 3) := by decide +kernel
theorem dL_joins_211 : decode cL_joins 211 = .ok (.iload 9, 2) := by decide +kernel
theorem dL_joins_213 : decode cL_joins 213 = .ok (.ifCond .ne 28, 3) := by decide +kernel
theorem dL_joins_216 : decode cL_joins 216 = .ok (.goto 21, 3) := by decide +kernel
theorem dL_joins_219 : decode cL_joins 219 = .ok (.iload 6, 2) := by decide +kernel
theorem dL_joins_221 : decode cL_joins 221 = .ok (.iconst 1, 1) := by decide +kernel
theorem dL_joins_222 : decode cL_joins 222 = .ok (.if_icmp .ne 15, 3) := by decide +kernel
theorem dL_joins_225 : decode cL_joins 225 = .ok (.iload 7, 2) := by decide +kernel
theorem dL_joins_227 : decode cL_joins 227 = .ok (.iconst 1, 1) := by decide +kernel
theorem dL_joins_228 : decode cL_joins 228 = .ok (.if_icmp .ne 9, 3) := by decide +kernel
theorem dL_joins_231 : decode cL_joins 231 = .ok (.iload 9, 2) := by decide +kernel
theorem dL_joins_233 : decode cL_joins 233 = .ok (.iconst 1, 1) := by decide +kernel
theorem dL_joins_234 : decode cL_joins 234 = .ok (.if_icmp .ne 7, 3) := by decide +kernel
theorem dL_joins_237 : decode cL_joins 237 = .ok (.iconst 1, 1) := by decide +kernel
theorem dL_joins_238 : decode cL_joins 238 = .ok (.goto 4, 3) := by decide +kernel
theorem dL_joins_241 : decode cL_joins 241 = .ok (.iconst 0, 1) := by decide +kernel
theorem dL_joins_242 : decode cL_joins 242 = .ok (.ireturn, 1) := by decide +kernel
theorem dL_law_0 : decode cL_law 0 = .ok (.new 10, 3) := by decide +kernel
theorem dL_law_3 : decode cL_law 3 = .ok (.dup, 1) := by decide +kernel
theorem dL_law_4 : decode cL_law 4 = .ok (.invokespecial 70, 3) := by decide +kernel
theorem dL_law_7 : decode cL_law 7 = .ok (.astore_n 1, 1) := by decide +kernel
theorem dL_law_8 : decode cL_law 8 = .ok (.aload_n 1, 1) := by decide +kernel
theorem dL_law_9 : decode cL_law 9 = .ok (.invokevirtual 71, 3) := by decide +kernel
theorem dL_law_12 : decode cL_law 12 = .ok (.bipush (-5), 2) := by decide +kernel
theorem dL_law_14 : decode cL_law 14 = .ok (.if_icmp .ne 25, 3) := by decide +kernel
theorem dL_law_17 : decode cL_law 17 = .ok (.aload_n 1, 1) := by decide +kernel
theorem dL_law_18 : decode cL_law 18 = .ok (.invokevirtual 74, 3) := by decide +kernel
theorem dL_law_21 : decode cL_law 21 = .ok (.bipush (-5), 2) := by decide +kernel
theorem dL_law_23 : decode cL_law 23 = .ok (.if_icmp .ne 16, 3) := by decide +kernel
theorem dL_law_26 : decode cL_law 26 = .ok (.aload_n 1, 1) := by decide +kernel
theorem dL_law_27 : decode cL_law 27 = .ok (.invokevirtual 77, 3) := by decide +kernel
theorem dL_law_30 : decode cL_law 30 = .ok (.bipush (-100), 2) := by decide +kernel
theorem dL_law_32 : decode cL_law 32 = .ok (.if_icmp .ne 7, 3) := by decide +kernel
theorem dL_law_35 : decode cL_law 35 = .ok (.iconst 1, 1) := by decide +kernel
theorem dL_law_36 : decode cL_law 36 = .ok (.goto 4, 3) := by decide +kernel
theorem dL_law_39 : decode cL_law 39 = .ok (.iconst 0, 1) := by decide +kernel
theorem dL_law_40 : decode cL_law 40 = .ok (.istore_n 2, 1) := by decide +kernel
theorem dL_law_41 : decode cL_law 41 = .ok (.iconst 0, 1) := by decide +kernel
theorem dL_law_42 : decode cL_law 42 = .ok (.istore_n 3, 1) := by decide +kernel
theorem dL_law_43 : decode cL_law 43 = .ok (.iload_n 3, 1) := by decide +kernel
theorem dL_law_44 : decode cL_law 44 = .ok (.iconst 4, 1) := by decide +kernel
theorem dL_law_45 : decode cL_law 45 = .ok (.if_icmp .ge 60, 3) := by decide +kernel
theorem dL_law_48 : decode cL_law 48 = .ok (.iload_n 2, 1) := by decide +kernel
theorem dL_law_49 : decode cL_law 49 = .ok (.ifCond .eq 56, 3) := by decide +kernel
theorem dL_law_52 : decode cL_law 52 = .ok (.aload_n 1, 1) := by decide +kernel
theorem dL_law_53 : decode cL_law 53 = .ok (.aload_n 0, 1) := by decide +kernel
theorem dL_law_54 : decode cL_law 54 = .ok (.iload_n 3, 1) := by decide +kernel
theorem dL_law_55 : decode cL_law 55 = .ok (.invokestatic 80, 3) := by decide +kernel
theorem dL_law_58 : decode cL_law 58 = .ok (.invokestatic 84, 3) := by decide +kernel
theorem dL_law_61 : decode cL_law 61 = .ok (.ifCond .eq 36, 3) := by decide +kernel
theorem dL_law_64 : decode cL_law 64 = .ok (.aload_n 1, 1) := by decide +kernel
theorem dL_law_65 : decode cL_law 65 = .ok (.invokevirtual 77, 3) := by decide +kernel
theorem dL_law_68 : decode cL_law 68 = .ok (.iload_n 3, 1) := by decide +kernel
theorem dL_law_69 : decode cL_law 69 = .ok (.if_icmp .ne 28, 3) := by decide +kernel
theorem dL_law_72 : decode cL_law 72 = .ok (.aload_n 1, 1) := by decide +kernel
theorem dL_law_73 : decode cL_law 73 = .ok (.iload_n 3, 1) := by decide +kernel
theorem dL_law_74 : decode cL_law 74 = .ok (.iconst 4, 1) := by decide +kernel
theorem dL_law_75 : decode cL_law 75 = .ok (.invokevirtual 36, 3) := by decide +kernel
theorem dL_law_78 : decode cL_law 78 = .ok (.bipush (-5), 2) := by decide +kernel
theorem dL_law_80 : decode cL_law 80 = .ok (.if_icmp .ne 17, 3) := by decide +kernel
theorem dL_law_83 : decode cL_law 83 = .ok (.aload_n 1, 1) := by decide +kernel
theorem dL_law_84 : decode cL_law 84 = .ok (.iload_n 3, 1) := by decide +kernel
theorem dL_law_85 : decode cL_law 85 = .ok (.bipush 8, 2) := by decide +kernel
theorem dL_law_87 : decode cL_law 87 = .ok (.invokevirtual 36, 3) := by decide +kernel
theorem dL_law_90 : decode cL_law 90 = .ok (.ifCond .ne 7, 3) := by decide +kernel
theorem dL_law_93 : decode cL_law 93 = .ok (.iconst 1, 1) := by decide +kernel
theorem dL_law_94 : decode cL_law 94 = .ok (.goto 4, 3) := by decide +kernel
theorem dL_law_97 : decode cL_law 97 = .ok (.iconst 0, 1) := by decide +kernel
theorem dL_law_98 : decode cL_law 98 = .ok (.istore_n 2, 1) := by decide +kernel
theorem dL_law_99 : decode cL_law 99 = .ok (.iinc 3 1, 3) := by decide +kernel
theorem dL_law_102 : decode cL_law 102 = .ok (.goto (-59), 3) := by decide +kernel
theorem dL_law_105 : decode cL_law 105 = .ok (.iload_n 2, 1) := by decide +kernel
theorem dL_law_106 : decode cL_law 106 = .ok (.ifCond .eq 14, 3) := by decide +kernel
theorem dL_law_109 : decode cL_law 109 = .ok (.aload_n 1, 1) := by decide +kernel
theorem dL_law_110 : decode cL_law 110 = .ok (.invokestatic 87, 3) := by decide +kernel
theorem dL_law_113 : decode cL_law 113 = .ok (.ifCond .eq 7, 3) := by decide +kernel
theorem dL_law_116 : decode cL_law 116 = .ok (.iconst 1, 1) := by decide +kernel
theorem dL_law_117 : decode cL_law 117 = .ok (.goto 4, 3) := by decide +kernel
theorem dL_law_120 : decode cL_law 120 = .ok (.iconst 0, 1) := by decide +kernel
theorem dL_law_121 : decode cL_law 121 = .ok (.istore_n 2, 1) := by decide +kernel
theorem dL_law_122 : decode cL_law 122 = .ok (.iconst 0, 1) := by decide +kernel
theorem dL_law_123 : decode cL_law 123 = .ok (.istore_n 3, 1) := by decide +kernel
theorem dL_law_124 : decode cL_law 124 = .ok (.iload_n 3, 1) := by decide +kernel
theorem dL_law_125 : decode cL_law 125 = .ok (.bipush 9, 2) := by decide +kernel
theorem dL_law_127 : decode cL_law 127 = .ok (.if_icmp .ge 145, 3) := by decide +kernel
theorem dL_law_130 : decode cL_law 130 = .ok (.iload_n 2, 1) := by decide +kernel
theorem dL_law_131 : decode cL_law 131 = .ok (.ifCond .eq 141, 3) := by decide +kernel
theorem dL_law_134 : decode cL_law 134 = .ok (.aload_n 0, 1) := by decide +kernel
theorem dL_law_135 : decode cL_law 135 = .ok (.iconst 4, 1) := by decide +kernel
theorem dL_law_136 : decode cL_law 136 = .ok (.iload_n 3, 1) := by decide +kernel
theorem dL_law_137 : decode cL_law 137 = .ok (.iadd, 1) := by decide +kernel
theorem dL_law_138 : decode cL_law 138 = .ok (.invokestatic 80, 3) := by decide +kernel
theorem dL_law_141 : decode cL_law 141 = .ok (.istore 4, 2) := by decide +kernel
theorem dL_law_143 : decode cL_law 143 = .ok (.iload 4, 2) := by decide +kernel
theorem dL_law_145 : decode cL_law 145 = .ok (.bipush 8, 2) := by decide +kernel
theorem dL_law_147 : decode cL_law 147 = .ok (.ishr, 1) := by decide +kernel
theorem dL_law_148 : decode cL_law 148 = .ok (.iconst 4, 1) := by decide +kernel
theorem dL_law_149 : decode cL_law 149 = .ok (.irem, 1) := by decide +kernel
theorem dL_law_150 : decode cL_law 150 = .ok (.istore 5, 2) := by decide +kernel
theorem dL_law_152 : decode cL_law 152 = .ok (.iload 4, 2) := by decide +kernel
theorem dL_law_154 : decode cL_law 154 = .ok (.bipush 7, 2) := by decide +kernel
theorem dL_law_156 : decode cL_law 156 = .ok (.irem, 1) := by decide +kernel
theorem dL_law_157 : decode cL_law 157 = .ok (.ifCond .ne 14, 3) := by decide +kernel
theorem dL_law_160 : decode cL_law 160 = .ok (.aload_n 1, 1) := by decide +kernel
theorem dL_law_161 : decode cL_law 161 = .ok (.iload 4, 2) := by decide +kernel
theorem dL_law_163 : decode cL_law 163 = .ok (.iconst 3, 1) := by decide +kernel
theorem dL_law_164 : decode cL_law 164 = .ok (.ishr, 1) := by decide +kernel
theorem dL_law_165 : decode cL_law 165 = .ok (.invokestatic 91, 3) := by decide +kernel
theorem dL_law_168 : decode cL_law 168 = .ok (.goto 80, 3) := by decide +kernel
theorem dL_law_171 : decode cL_law 171 = .ok (.iload 4, 2) := by decide +kernel
theorem dL_law_173 : decode cL_law 173 = .ok (.bipush 7, 2) := by decide +kernel
theorem dL_law_175 : decode cL_law 175 = .ok (.irem, 1) := by decide +kernel
theorem dL_law_176 : decode cL_law 176 = .ok (.iconst 1, 1) := by decide +kernel
theorem dL_law_177 : decode cL_law 177 = .ok (.if_icmp .ne 30, 3) := by decide +kernel
theorem dL_law_180 : decode cL_law 180 = .ok (.aload_n 1, 1) := by decide +kernel
theorem dL_law_181 : decode cL_law 181 = .ok (.iload 5, 2) := by decide +kernel
theorem dL_law_183 : decode cL_law 183 = .ok (.invokestatic 94, 3) := by decide +kernel
theorem dL_law_186 : decode cL_law 186 = .ok (.ifCond .ne 13, 3) := by decide +kernel
theorem dL_law_189 : decode cL_law 189 = .ok (.aload_n 1, 1) := by decide +kernel
theorem dL_law_190 : decode cL_law 190 = .ok (.iload 5, 2) := by decide +kernel
theorem dL_law_192 : decode cL_law 192 = .ok (.iconst 0, 1) := by decide +kernel
theorem dL_law_193 : decode cL_law 193 = .ok (.invokevirtual 36, 3) := by decide +kernel
theorem dL_law_196 : decode cL_law 196 = .ok (.ifCond .ge 7, 3) := by decide +kernel
theorem dL_law_199 : decode cL_law 199 = .ok (.iconst 1, 1) := by decide +kernel
theorem dL_law_200 : decode cL_law 200 = .ok (.goto 48, 3) := by decide +kernel
theorem dL_law_203 : decode cL_law 203 = .ok (.iconst 0, 1) := by decide +kernel
theorem dL_law_204 : decode cL_law 204 = .ok (.goto 44, 3) := by decide +kernel
theorem dL_law_207 : decode cL_law 207 = .ok (.iload 4, 2) := by decide +kernel
theorem dL_law_209 : decode cL_law 209 = .ok (.bipush 23, 2) := by decide +kernel
theorem dL_law_211 : decode cL_law 211 = .ok (.irem, 1) := by decide +kernel
theorem dL_law_212 : decode cL_law 212 = .ok (.iconst 2, 1) := by decide +kernel
theorem dL_law_213 : decode cL_law 213 = .ok (.if_icmp .ne 22, 3) := by decide +kernel
theorem dL_law_216 : decode cL_law 216 = .ok (.aload_n 1, 1) := by decide +kernel
theorem dL_law_217 : decode cL_law 217 = .ok (.iload 5, 2) := by decide +kernel
theorem dL_law_219 : decode cL_law 219 = .ok (.invokevirtual 97, 3) := by decide +kernel
theorem dL_law_222 : decode cL_law 222 = .ok (.bipush (-2), 2) := by decide +kernel
theorem dL_law_224 : decode cL_law 224 = .ok (.if_icmp .eq 7, 3) := by decide +kernel
theorem dL_law_227 : decode cL_law 227 = .ok (.iconst 1, 1) := by decide +kernel
theorem dL_law_228 : decode cL_law 228 = .ok (.goto 20, 3) := by decide +kernel
theorem dL_law_231 : decode cL_law 231 = .ok (.iconst 0, 1) := by decide +kernel
theorem dL_law_232 : decode cL_law 232 = .ok (.goto 16, 3) := by decide +kernel
theorem dL_law_235 : decode cL_law 235 = .ok (.aload_n 1, 1) := by decide +kernel
theorem dL_law_236 : decode cL_law 236 = .ok (.iload 4, 2) := by decide +kernel
theorem dL_law_238 : decode cL_law 238 = .ok (.iconst 3, 1) := by decide +kernel
theorem dL_law_239 : decode cL_law 239 = .ok (.ishr, 1) := by decide +kernel
theorem dL_law_240 : decode cL_law 240 = .ok (.bipush 64, 2) := by decide +kernel
theorem dL_law_242 : decode cL_law 242 = .ok (.irem, 1) := by decide +kernel
theorem dL_law_243 : decode cL_law 243 = .ok (.iload 5, 2) := by decide +kernel
theorem dL_law_245 : decode cL_law 245 = .ok (.invokestatic 100, 3) := by decide +kernel
theorem dL_law_248 : decode cL_law 248 = .ok (.istore_n 2, 1) := by decide +kernel
theorem dL_law_249 : decode cL_law 249 = .ok (.iload_n 2, 1) := by decide +kernel
theorem dL_law_250 : decode cL_law 250 = .ok (.ifCond .eq 14, 3) := by decide +kernel
theorem dL_law_253 : decode cL_law 253 = .ok (.aload_n 1, 1) := by decide +kernel
theorem dL_law_254 : decode cL_law 254 = .ok (.invokestatic 87, 3) := by decide +kernel
theorem dL_law_257 : decode cL_law 257 = .ok (.ifCond .eq 7, 3) := by decide +kernel
theorem dL_law_260 : decode cL_law 260 = .ok (.iconst 1, 1) := by decide +kernel
theorem dL_law_261 : decode cL_law 261 = .ok (.goto 4, 3) := by decide +kernel
theorem dL_law_264 : decode cL_law 264 = .ok (.iconst 0, 1) := by decide +kernel
theorem dL_law_265 : decode cL_law 265 = .ok (.istore_n 2, 1) := by decide +kernel
theorem dL_law_266 : decode cL_law 266 = .ok (.iinc 3 1, 3) := by decide +kernel
theorem dL_law_269 : decode cL_law 269 = .ok (.goto (-145), 3) := by decide +kernel
theorem dL_law_272 : decode cL_law 272 = .ok (.aload_n 1, 1) := by decide +kernel
theorem dL_law_273 : decode cL_law 273 = .ok (.iconst 0, 1) := by decide +kernel
theorem dL_law_274 : decode cL_law 274 = .ok (.invokevirtual 50, 3) := by decide +kernel
theorem dL_law_277 : decode cL_law 277 = .ok (.istore_n 3, 1) := by decide +kernel
theorem dL_law_278 : decode cL_law 278 = .ok (.aload_n 1, 1) := by decide +kernel
theorem dL_law_279 : decode cL_law 279 = .ok (.iconst 4, 1) := by decide +kernel
theorem dL_law_280 : decode cL_law 280 = .ok (.invokevirtual 50, 3) := by decide +kernel
theorem dL_law_283 : decode cL_law 283 = .ok (.istore 4, 2) := by decide +kernel
theorem dL_law_285 : decode cL_law 285 = .ok (.iconst 0, 1) := by decide +kernel
theorem dL_law_286 : decode cL_law 286 = .ok (.istore 5, 2) := by decide +kernel
theorem dL_law_288 : decode cL_law 288 = .ok (.iconst 0, 1) := by decide +kernel
theorem dL_law_289 : decode cL_law 289 = .ok (.istore 6, 2) := by decide +kernel
theorem dL_law_291 : decode cL_law 291 = .ok (.iload 6, 2) := by decide +kernel
theorem dL_law_293 : decode cL_law 293 = .ok (.bipush 8, 2) := by decide +kernel
theorem dL_law_295 : decode cL_law 295 = .ok (.if_icmp .ge 42, 3) := by decide +kernel
theorem dL_law_298 : decode cL_law 298 = .ok (.iload 5, 2) := by decide +kernel
theorem dL_law_300 : decode cL_law 300 = .ok (.aload_n 1, 1) := by decide +kernel
theorem dL_law_301 : decode cL_law 301 = .ok (.iload 6, 2) := by decide +kernel
theorem dL_law_303 : decode cL_law 303 = .ok (.iconst 0, 1) := by decide +kernel
theorem dL_law_304 : decode cL_law 304 = .ok (.invokevirtual 36, 3) := by decide +kernel
theorem dL_law_307 : decode cL_law 307 = .ok (.iconst 2, 1) := by decide +kernel
theorem dL_law_308 : decode cL_law 308 = .ok (.if_icmp .ne 19, 3) := by decide +kernel
theorem dL_law_311 : decode cL_law 311 = .ok (.aload_n 1, 1) := by decide +kernel
theorem dL_law_312 : decode cL_law 312 = .ok (.iload 6, 2) := by decide +kernel
theorem dL_law_314 : decode cL_law 314 = .ok (.bipush 6, 2) := by decide +kernel
theorem dL_law_316 : decode cL_law 316 = .ok (.invokevirtual 36, 3) := by decide +kernel
theorem dL_law_319 : decode cL_law 319 = .ok (.iconst 1, 1) := by decide +kernel
theorem dL_law_320 : decode cL_law 320 = .ok (.if_icmp .ne 7, 3) := by decide +kernel
theorem dL_law_323 : decode cL_law 323 = .ok (.iconst 1, 1) := by decide +kernel
theorem dL_law_324 : decode cL_law 324 = .ok (.goto 4, 3) := by decide +kernel
theorem dL_law_327 : decode cL_law 327 = .ok (.iconst 0, 1) := by decide +kernel
theorem dL_law_328 : decode cL_law 328 = .ok (.iadd, 1) := by decide +kernel
theorem dL_law_329 : decode cL_law 329 = .ok (.istore 5, 2) := by decide +kernel
theorem dL_law_331 : decode cL_law 331 = .ok (.iinc 6 1, 3) := by decide +kernel
theorem dL_law_334 : decode cL_law 334 = .ok (.goto (-43), 3) := by decide +kernel
theorem dL_law_337 : decode cL_law 337 = .ok (.iload_n 2, 1) := by decide +kernel
theorem dL_law_338 : decode cL_law 338 = .ok (.ifCond .eq 67, 3) := by decide +kernel
theorem dL_law_341 : decode cL_law 341 = .ok (.aload_n 1, 1) := by decide +kernel
theorem dL_law_342 : decode cL_law 342 = .ok (.invokevirtual 103, 3) := by decide +kernel
theorem dL_law_345 : decode cL_law 345 = .ok (.iload_n 3, 1) := by decide +kernel
theorem dL_law_346 : decode cL_law 346 = .ok (.if_icmp .ne 59, 3) := by decide +kernel
theorem dL_law_349 : decode cL_law 349 = .ok (.aload_n 1, 1) := by decide +kernel
theorem dL_law_350 : decode cL_law 350 = .ok (.invokevirtual 106, 3) := by decide +kernel
theorem dL_law_353 : decode cL_law 353 = .ok (.iload 5, 2) := by decide +kernel
theorem dL_law_355 : decode cL_law 355 = .ok (.if_icmp .ne 50, 3) := by decide +kernel
theorem dL_law_358 : decode cL_law 358 = .ok (.aload_n 1, 1) := by decide +kernel
theorem dL_law_359 : decode cL_law 359 = .ok (.iconst 4, 1) := by decide +kernel
theorem dL_law_360 : decode cL_law 360 = .ok (.invokevirtual 50, 3) := by decide +kernel
theorem dL_law_363 : decode cL_law 363 = .ok (.ifCond .ne 42, 3) := by decide +kernel
theorem dL_law_366 : decode cL_law 366 = .ok (.aload_n 1, 1) := by decide +kernel
theorem dL_law_367 : decode cL_law 367 = .ok (.invokestatic 87, 3) := by decide +kernel
theorem dL_law_370 : decode cL_law 370 = .ok (.ifCond .eq 35, 3) := by decide +kernel
theorem dL_law_373 : decode cL_law 373 = .ok (.aload_n 1, 1) := by decide +kernel
theorem dL_law_374 : decode cL_law 374 = .ok (.iconst 0, 1) := by decide +kernel
theorem dL_law_375 : decode cL_law 375 = .ok (.invokevirtual 60, 3) := by decide +kernel
theorem dL_law_378 : decode cL_law 378 = .ok (.bipush (-4), 2) := by decide +kernel
theorem dL_law_380 : decode cL_law 380 = .ok (.if_icmp .ne 25, 3) := by decide +kernel
theorem dL_law_383 : decode cL_law 383 = .ok (.aload_n 1, 1) := by decide +kernel
theorem dL_law_384 : decode cL_law 384 = .ok (.invokevirtual 106, 3) := by decide +kernel
theorem dL_law_387 : decode cL_law 387 = .ok (.bipush (-4), 2) := by decide +kernel
theorem dL_law_389 : decode cL_law 389 = .ok (.if_icmp .ne 16, 3) := by decide +kernel
theorem dL_law_392 : decode cL_law 392 = .ok (.aload_n 1, 1) := by decide +kernel
theorem dL_law_393 : decode cL_law 393 = .ok (.invokevirtual 77, 3) := by decide +kernel
theorem dL_law_396 : decode cL_law 396 = .ok (.bipush (-4), 2) := by decide +kernel
theorem dL_law_398 : decode cL_law 398 = .ok (.if_icmp .ne 7, 3) := by decide +kernel
theorem dL_law_401 : decode cL_law 401 = .ok (.iconst 1, 1) := by decide +kernel
theorem dL_law_402 : decode cL_law 402 = .ok (.goto 4, 3) := by decide +kernel
theorem dL_law_405 : decode cL_law 405 = .ok (.iconst 0, 1) := by decide +kernel
theorem dL_law_406 : decode cL_law 406 = .ok (.istore_n 2, 1) := by decide +kernel
theorem dL_law_407 : decode cL_law 407 = .ok (.iload_n 2, 1) := by decide +kernel
theorem dL_law_408 : decode cL_law 408 = .ok (.ifCond .eq 56, 3) := by decide +kernel
theorem dL_law_411 : decode cL_law 411 = .ok (.aload_n 1, 1) := by decide +kernel
theorem dL_law_412 : decode cL_law 412 = .ok (.invokevirtual 74, 3) := by decide +kernel
theorem dL_law_415 : decode cL_law 415 = .ok (.iload_n 3, 1) := by decide +kernel
theorem dL_law_416 : decode cL_law 416 = .ok (.if_icmp .ne 48, 3) := by decide +kernel
theorem dL_law_419 : decode cL_law 419 = .ok (.aload_n 1, 1) := by decide +kernel
theorem dL_law_420 : decode cL_law 420 = .ok (.iconst 4, 1) := by decide +kernel
theorem dL_law_421 : decode cL_law 421 = .ok (.invokevirtual 50, 3) := by decide +kernel
theorem dL_law_424 : decode cL_law 424 = .ok (.iload 4, 2) := by decide +kernel
theorem dL_law_426 : decode cL_law 426 = .ok (.if_icmp .ne 38, 3) := by decide +kernel
theorem dL_law_429 : decode cL_law 429 = .ok (.aload_n 1, 1) := by decide +kernel
theorem dL_law_430 : decode cL_law 430 = .ok (.iconst 1, 1) := by decide +kernel
theorem dL_law_431 : decode cL_law 431 = .ok (.invokevirtual 50, 3) := by decide +kernel
theorem dL_law_434 : decode cL_law 434 = .ok (.ifCond .ne 30, 3) := by decide +kernel
theorem dL_law_437 : decode cL_law 437 = .ok (.aload_n 1, 1) := by decide +kernel
theorem dL_law_438 : decode cL_law 438 = .ok (.invokevirtual 71, 3) := by decide +kernel
theorem dL_law_441 : decode cL_law 441 = .ok (.ifCond .lt 23, 3) := by decide +kernel
theorem dL_law_444 : decode cL_law 444 = .ok (.aload_n 1, 1) := by decide +kernel
theorem dL_law_445 : decode cL_law 445 = .ok (.iconst 1, 1) := by decide +kernel
theorem dL_law_446 : decode cL_law 446 = .ok (.invokevirtual 50, 3) := by decide +kernel
theorem dL_law_449 : decode cL_law 449 = .ok (.iconst 1, 1) := by decide +kernel
theorem dL_law_450 : decode cL_law 450 = .ok (.if_icmp .ne 14, 3) := by decide +kernel
theorem dL_law_453 : decode cL_law 453 = .ok (.aload_n 1, 1) := by decide +kernel
theorem dL_law_454 : decode cL_law 454 = .ok (.invokestatic 87, 3) := by decide +kernel
theorem dL_law_457 : decode cL_law 457 = .ok (.ifCond .eq 7, 3) := by decide +kernel
theorem dL_law_460 : decode cL_law 460 = .ok (.iconst 1, 1) := by decide +kernel
theorem dL_law_461 : decode cL_law 461 = .ok (.goto 4, 3) := by decide +kernel
theorem dL_law_464 : decode cL_law 464 = .ok (.iconst 0, 1) := by decide +kernel
theorem dL_law_465 : decode cL_law 465 = .ok (.ireturn, 1) := by decide +kernel
theorem dX0_init_0 : decode cX0_init 0 = .ok (.aload_n 0, 1) := by decide +kernel
theorem dX0_init_1 : decode cX0_init 1 = .ok (.invokespecial 3, 3) := by decide +kernel
theorem dX0_init_4 : decode cX0_init 4 = .ok (.aload_n 0, 1) := by decide +kernel
theorem dX0_init_5 : decode cX0_init 5 = .ok (.sipush 2048, 3) := by decide +kernel
theorem dX0_init_8 : decode cX0_init 8 = .ok (.newarray .int, 2) := by decide +kernel
theorem dX0_init_10 : decode cX0_init 10 = .ok (.putfield 9, 3) := by decide +kernel
theorem dX0_init_13 : decode cX0_init 13 = .ok (.aload_n 0, 1) := by decide +kernel
theorem dX0_init_14 : decode cX0_init 14 = .ok (.sipush 2048, 3) := by decide +kernel
theorem dX0_init_17 : decode cX0_init 17 = .ok (.newarray .int, 2) := by decide +kernel
theorem dX0_init_19 : decode cX0_init 19 = .ok (.putfield 15, 3) := by decide +kernel
theorem dX0_init_22 : decode cX0_init 22 = .ok (.aload_n 0, 1) := by decide +kernel
theorem dX0_init_23 : decode cX0_init 23 = .ok (.iconst 2, 1) := by decide +kernel
theorem dX0_init_24 : decode cX0_init 24 = .ok (.newarray .int, 2) := by decide +kernel
theorem dX0_init_26 : decode cX0_init 26 = .ok (.putfield 18, 3) := by decide +kernel
theorem dX0_init_29 : decode cX0_init 29 = .ok (.aload_n 0, 1) := by decide +kernel
theorem dX0_init_30 : decode cX0_init 30 = .ok (.aload_n 1, 1) := by decide +kernel
theorem dX0_init_31 : decode cX0_init 31 = .ok (.putfield 21, 3) := by decide +kernel
theorem dX0_init_34 : decode cX0_init 34 = .ok (.return_, 1) := by decide +kernel
theorem dX0_begin_0 : decode cX0_begin 0 = .ok (.aload_n 0, 1) := by decide +kernel
theorem dX0_begin_1 : decode cX0_begin 1 = .ok (.iload_n 1, 1) := by decide +kernel
theorem dX0_begin_2 : decode cX0_begin 2 = .ok (.putfield 25, 3) := by decide +kernel
theorem dX0_begin_5 : decode cX0_begin 5 = .ok (.aload_n 0, 1) := by decide +kernel
theorem dX0_begin_6 : decode cX0_begin 6 = .ok (.iconst 0, 1) := by decide +kernel
theorem dX0_begin_7 : decode cX0_begin 7 = .ok (.putfield 29, 3) := by decide +kernel
theorem dX0_begin_10 : decode cX0_begin 10 = .ok (.aload_n 0, 1) := by decide +kernel
theorem dX0_begin_11 : decode cX0_begin 11 = .ok (.iconst 0, 1) := by decide +kernel
theorem dX0_begin_12 : decode cX0_begin 12 = .ok (.putfield 32, 3) := by decide +kernel
theorem dX0_begin_15 : decode cX0_begin 15 = .ok (.return_, 1) := by decide +kernel
theorem dX0_put_0 : decode cX0_put 0 = .ok (.aload_n 0, 1) := by decide +kernel
theorem dX0_put_1 : decode cX0_put 1 = .ok (.getfield 21, 3) := by decide +kernel
theorem dX0_put_4 : decode cX0_put 4 = .ok (.getfield 35, 3) := by decide +kernel
theorem dX0_put_7 : decode cX0_put 7 = .ok (.iload_n 1, 1) := by decide +kernel
theorem dX0_put_8 : decode cX0_put 8 = .ok (.iaload, 1) := by decide +kernel
theorem dX0_put_9 : decode cX0_put 9 = .ok (.aload_n 0, 1) := by decide +kernel
theorem dX0_put_10 : decode cX0_put 10 = .ok (.getfield 25, 3) := by decide +kernel
theorem dX0_put_13 : decode cX0_put 13 = .ok (.if_icmp .ne 7, 3) := by decide +kernel
theorem dX0_put_16 : decode cX0_put 16 = .ok (.iconst 1, 1) := by decide +kernel
theorem dX0_put_17 : decode cX0_put 17 = .ok (.goto 4, 3) := by decide +kernel
theorem dX0_put_20 : decode cX0_put 20 = .ok (.iconst 0, 1) := by decide +kernel
theorem dX0_put_21 : decode cX0_put 21 = .ok (.istore_n 2, 1) := by decide +kernel
theorem dX0_put_22 : decode cX0_put 22 = .ok (.iload_n 2, 1) := by decide +kernel
theorem dX0_put_23 : decode cX0_put 23 = .ok (.ifCond .eq 15, 3) := by decide +kernel
theorem dX0_put_26 : decode cX0_put 26 = .ok (.aload_n 0, 1) := by decide +kernel
theorem dX0_put_27 : decode cX0_put 27 = .ok (.getfield 21, 3) := by decide +kernel
theorem dX0_put_30 : decode cX0_put 30 = .ok (.getfield 40, 3) := by decide +kernel
theorem dX0_put_33 : decode cX0_put 33 = .ok (.iload_n 1, 1) := by decide +kernel
theorem dX0_put_34 : decode cX0_put 34 = .ok (.iaload, 1) := by decide +kernel
theorem dX0_put_35 : decode cX0_put 35 = .ok (.goto 4, 3) := by decide +kernel
theorem dX0_put_38 : decode cX0_put 38 = .ok (.iconst 1, 1) := by decide +kernel
theorem dX0_put_39 : decode cX0_put 39 = .ok (.istore_n 3, 1) := by decide +kernel
theorem dX0_put_40 : decode cX0_put 40 = .ok (.iconst 0, 1) := by decide +kernel
theorem dX0_put_41 : decode cX0_put 41 = .ok (.istore 4, 2) := by decide +kernel
theorem dX0_put_43 : decode cX0_put 43 = .ok (.iload 4, 2) := by decide +kernel
theorem dX0_put_45 : decode cX0_put 45 = .ok (.iload_n 3, 1) := by decide +kernel
theorem dX0_put_46 : decode cX0_put 46 = .ok (.if_icmp .ge 180, 3) := by decide +kernel
theorem dX0_put_49 : decode cX0_put 49 = .ok (.iload_n 2, 1) := by decide +kernel
theorem dX0_put_50 : decode cX0_put 50 = .ok (.ifCond .eq 16, 3) := by decide +kernel
theorem dX0_put_53 : decode cX0_put 53 = .ok (.aload_n 0, 1) := by decide +kernel
theorem dX0_put_54 : decode cX0_put 54 = .ok (.getfield 21, 3) := by decide +kernel
theorem dX0_put_57 : decode cX0_put 57 = .ok (.iload_n 1, 1) := by decide +kernel
theorem dX0_put_58 : decode cX0_put 58 = .ok (.iload 4, 2) := by decide +kernel
theorem dX0_put_60 : decode cX0_put 60 = .ok (.invokevirtual 43, 3) := by decide +kernel
theorem dX0_put_63 : decode cX0_put 63 = .ok (.goto 4, 3) := by decide +kernel
theorem dX0_put_66 : decode cX0_put 66 = .ok (.iload_n 1, 1) := by decide +kernel
theorem dX0_put_67 : decode cX0_put 67 = .ok (.istore 5, 2) := by decide +kernel
theorem dX0_put_69 : decode cX0_put 69 = .ok (.iload 5, 2) := by decide +kernel
theorem dX0_put_71 : decode cX0_put 71 = .ok (.bipush 16, 2) := by decide +kernel
theorem dX0_put_73 : decode cX0_put 73 = .ok (.if_icmp .ge 16, 3) := by decide +kernel
theorem dX0_put_76 : decode cX0_put 76 = .ok (.aload_n 0, 1) := by decide +kernel
theorem dX0_put_77 : decode cX0_put 77 = .ok (.dup, 1) := by decide +kernel
theorem dX0_put_78 : decode cX0_put 78 = .ok (.getfield 32, 3) := by decide +kernel
theorem dX0_put_81 : decode cX0_put 81 = .ok (.iconst 1, 1) := by decide +kernel
theorem dX0_put_82 : decode cX0_put 82 = .ok (.iload 5, 2) := by decide +kernel
theorem dX0_put_84 : decode cX0_put 84 = .ok (.ishl, 1) := by decide +kernel
theorem dX0_put_85 : decode cX0_put 85 = .ok (.ior, 1) := by decide +kernel
theorem dX0_put_86 : decode cX0_put 86 = .ok (.putfield 32, 3) := by decide +kernel
theorem dX0_put_89 : decode cX0_put 89 = .ok (.aload_n 0, 1) := by decide +kernel
theorem dX0_put_90 : decode cX0_put 90 = .ok (.getfield 29, 3) := by decide +kernel
theorem dX0_put_93 : decode cX0_put 93 = .ok (.istore 6, 2) := by decide +kernel
theorem dX0_put_95 : decode cX0_put 95 = .ok (.iload 6, 2) := by decide +kernel
theorem dX0_put_97 : decode cX0_put 97 = .ok (.ifCond .le 30, 3) := by decide +kernel
theorem dX0_put_100 : decode cX0_put 100 = .ok (.aload_n 0, 1) := by decide +kernel
theorem dX0_put_101 : decode cX0_put 101 = .ok (.getfield 21, 3) := by decide +kernel
theorem dX0_put_104 : decode cX0_put 104 = .ok (.aload_n 0, 1) := by decide +kernel
theorem dX0_put_105 : decode cX0_put 105 = .ok (.getfield 15, 3) := by decide +kernel
theorem dX0_put_108 : decode cX0_put 108 = .ok (.iload 6, 2) := by decide +kernel
theorem dX0_put_110 : decode cX0_put 110 = .ok (.iconst 1, 1) := by decide +kernel
theorem dX0_put_111 : decode cX0_put 111 = .ok (.isub, 1) := by decide +kernel
theorem dX0_put_112 : decode cX0_put 112 = .ok (.iaload, 1) := by decide +kernel
theorem dX0_put_113 : decode cX0_put 113 = .ok (.iload 5, 2) := by decide +kernel
theorem dX0_put_115 : decode cX0_put 115 = .ok (.invokevirtual 47, 3) := by decide +kernel
theorem dX0_put_118 : decode cX0_put 118 = .ok (.ifCond .le 9, 3) := by decide +kernel
theorem dX0_put_121 : decode cX0_put 121 = .ok (.iinc 6 (-1), 3) := by decide +kernel
theorem dX0_put_124 : decode cX0_put 124 = .ok (.goto (-29), 3) := by decide +kernel
theorem dX0_put_127 : decode cX0_put 127 = .ok (.iload 6, 2) := by decide +kernel
theorem dX0_put_129 : decode cX0_put 129 = .ok (.ifCond .le 21, 3) := by decide +kernel
theorem dX0_put_132 : decode cX0_put 132 = .ok (.aload_n 0, 1) := by decide +kernel
theorem dX0_put_133 : decode cX0_put 133 = .ok (.getfield 15, 3) := by decide +kernel
theorem dX0_put_136 : decode cX0_put 136 = .ok (.iload 6, 2) := by decide +kernel
theorem dX0_put_138 : decode cX0_put 138 = .ok (.iconst 1, 1) := by decide +kernel
theorem dX0_put_139 : decode cX0_put 139 = .ok (.isub, 1) := by decide +kernel
theorem dX0_put_140 : decode cX0_put 140 = .ok (.iaload, 1) := by decide +kernel
theorem dX0_put_141 : decode cX0_put 141 = .ok (.iload 5, 2) := by decide +kernel
theorem dX0_put_143 : decode cX0_put 143 = .ok (.if_icmp .ne 7, 3) := by decide +kernel
theorem dX0_put_146 : decode cX0_put 146 = .ok (.iconst 1, 1) := by decide +kernel
theorem dX0_put_147 : decode cX0_put 147 = .ok (.goto 4, 3) := by decide +kernel
theorem dX0_put_150 : decode cX0_put 150 = .ok (.iconst 0, 1) := by decide +kernel
theorem dX0_put_151 : decode cX0_put 151 = .ok (.istore 7, 2) := by decide +kernel
theorem dX0_put_153 : decode cX0_put 153 = .ok (.iload 7, 2) := by decide +kernel
theorem dX0_put_155 : decode cX0_put 155 = .ok (.ifCond .ne 65, 3) := by decide +kernel
theorem dX0_put_158 : decode cX0_put 158 = .ok (.iload 5, 2) := by decide +kernel
theorem dX0_put_160 : decode cX0_put 160 = .ok (.aload_n 0, 1) := by decide +kernel
theorem dX0_put_161 : decode cX0_put 161 = .ok (.invokevirtual 50, 3) := by decide +kernel
theorem dX0_put_164 : decode cX0_put 164 = .ok (.if_icmp .eq 56, 3) := by decide +kernel
theorem dX0_put_167 : decode cX0_put 167 = .ok (.aload_n 0, 1) := by decide +kernel
theorem dX0_put_168 : decode cX0_put 168 = .ok (.getfield 29, 3) := by decide +kernel
theorem dX0_put_171 : decode cX0_put 171 = .ok (.sipush 2048, 3) := by decide +kernel
theorem dX0_put_174 : decode cX0_put 174 = .ok (.if_icmp .ge 46, 3) := by decide +kernel
theorem dX0_put_177 : decode cX0_put 177 = .ok (.aload_n 0, 1) := by decide +kernel
theorem dX0_put_178 : decode cX0_put 178 = .ok (.getfield 15, 3) := by decide +kernel
theorem dX0_put_181 : decode cX0_put 181 = .ok (.iload 6, 2) := by decide +kernel
theorem dX0_put_183 : decode cX0_put 183 = .ok (.aload_n 0, 1) := by decide +kernel
theorem dX0_put_184 : decode cX0_put 184 = .ok (.getfield 15, 3) := by decide +kernel
theorem dX0_put_187 : decode cX0_put 187 = .ok (.iload 6, 2) := by decide +kernel
theorem dX0_put_189 : decode cX0_put 189 = .ok (.iconst 1, 1) := by decide +kernel
theorem dX0_put_190 : decode cX0_put 190 = .ok (.iadd, 1) := by decide +kernel
theorem dX0_put_191 : decode cX0_put 191 = .ok (.aload_n 0, 1) := by decide +kernel
theorem dX0_put_192 : decode cX0_put 192 = .ok (.getfield 29, 3) := by decide +kernel
theorem dX0_put_195 : decode cX0_put 195 = .ok (.iload 6, 2) := by decide +kernel
theorem dX0_put_197 : decode cX0_put 197 = .ok (.isub, 1) := by decide +kernel
theorem dX0_put_198 : decode cX0_put 198 = .ok (.invokestatic 54, 3) := by decide +kernel
theorem dX0_put_201 : decode cX0_put 201 = .ok (.aload_n 0, 1) := by decide +kernel
theorem dX0_put_202 : decode cX0_put 202 = .ok (.getfield 15, 3) := by decide +kernel
theorem dX0_put_205 : decode cX0_put 205 = .ok (.iload 6, 2) := by decide +kernel
theorem dX0_put_207 : decode cX0_put 207 = .ok (.iload 5, 2) := by decide +kernel
theorem dX0_put_209 : decode cX0_put 209 = .ok (.iastore, 1) := by decide +kernel
theorem dX0_put_210 : decode cX0_put 210 = .ok (.aload_n 0, 1) := by decide +kernel
theorem dX0_put_211 : decode cX0_put 211 = .ok (.dup, 1) := by decide +kernel
theorem dX0_put_212 : decode cX0_put 212 = .ok (.getfield 29, 3) := by decide +kernel
theorem dX0_put_215 : decode cX0_put 215 = .ok (.iconst 1, 1) := by decide +kernel
theorem dX0_put_216 : decode cX0_put 216 = .ok (.iadd, 1) := by decide +kernel
theorem dX0_put_217 : decode cX0_put 217 = .ok (.putfield 29, 3) := by decide +kernel
theorem dX0_put_220 : decode cX0_put 220 = .ok (.iinc 4 1, 3) := by decide +kernel
theorem dX0_put_223 : decode cX0_put 223 = .ok (.goto (-180), 3) := by decide +kernel
theorem dX0_put_226 : decode cX0_put 226 = .ok (.return_, 1) := by decide +kernel
theorem dX0_neutral_0 : decode cX0_neutral 0 = .ok (.aload_n 0, 1) := by decide +kernel
theorem dX0_neutral_1 : decode cX0_neutral 1 = .ok (.getfield 25, 3) := by decide +kernel
theorem dX0_neutral_4 : decode cX0_neutral 4 = .ok (.bipush 20, 2) := by decide +kernel
theorem dX0_neutral_6 : decode cX0_neutral 6 = .ok (.if_icmp .ne 7, 3) := by decide +kernel
theorem dX0_neutral_9 : decode cX0_neutral 9 = .ok (.iconst 1, 1) := by decide +kernel
theorem dX0_neutral_10 : decode cX0_neutral 10 = .ok (.goto 4, 3) := by decide +kernel
theorem dX0_neutral_13 : decode cX0_neutral 13 = .ok (.iconst 0, 1) := by decide +kernel
theorem dX0_neutral_14 : decode cX0_neutral 14 = .ok (.ireturn, 1) := by decide +kernel
theorem dX0_done_0 : decode cX0_done 0 = .ok (.aload_n 0, 1) := by decide +kernel
theorem dX0_done_1 : decode cX0_done 1 = .ok (.invokevirtual 50, 3) := by decide +kernel
theorem dX0_done_4 : decode cX0_done 4 = .ok (.istore_n 1, 1) := by decide +kernel
theorem dX0_done_5 : decode cX0_done 5 = .ok (.iconst 1, 1) := by decide +kernel
theorem dX0_done_6 : decode cX0_done 6 = .ok (.iload_n 1, 1) := by decide +kernel
theorem dX0_done_7 : decode cX0_done 7 = .ok (.isub, 1) := by decide +kernel
theorem dX0_done_8 : decode cX0_done 8 = .ok (.istore_n 2, 1) := by decide +kernel
theorem dX0_done_9 : decode cX0_done 9 = .ok (.aload_n 0, 1) := by decide +kernel
theorem dX0_done_10 : decode cX0_done 10 = .ok (.getfield 32, 3) := by decide +kernel
theorem dX0_done_13 : decode cX0_done 13 = .ok (.iconst 1, 1) := by decide +kernel
theorem dX0_done_14 : decode cX0_done 14 = .ok (.iload_n 2, 1) := by decide +kernel
theorem dX0_done_15 : decode cX0_done 15 = .ok (.ishl, 1) := by decide +kernel
theorem dX0_done_16 : decode cX0_done 16 = .ok (.iand, 1) := by decide +kernel
theorem dX0_done_17 : decode cX0_done 17 = .ok (.ifCond .eq 7, 3) := by decide +kernel
theorem dX0_done_20 : decode cX0_done 20 = .ok (.iconst 1, 1) := by decide +kernel
theorem dX0_done_21 : decode cX0_done 21 = .ok (.goto 4, 3) := by decide +kernel
theorem dX0_done_24 : decode cX0_done 24 = .ok (.iconst 0, 1) := by decide +kernel
theorem dX0_done_25 : decode cX0_done 25 = .ok (.istore_n 3, 1) := by decide +kernel
theorem dX0_done_26 : decode cX0_done 26 = .ok (.aload_n 0, 1) := by decide +kernel
theorem dX0_done_27 : decode cX0_done 27 = .ok (.getfield 32, 3) := by decide +kernel
theorem dX0_done_30 : decode cX0_done 30 = .ok (.bipush 12, 2) := by decide +kernel
theorem dX0_done_32 : decode cX0_done 32 = .ok (.iand, 1) := by decide +kernel
theorem dX0_done_33 : decode cX0_done 33 = .ok (.bipush 12, 2) := by decide +kernel
theorem dX0_done_35 : decode cX0_done 35 = .ok (.if_icmp .ne 7, 3) := by decide +kernel
theorem dX0_done_38 : decode cX0_done 38 = .ok (.iconst 1, 1) := by decide +kernel
theorem dX0_done_39 : decode cX0_done 39 = .ok (.goto 4, 3) := by decide +kernel
theorem dX0_done_42 : decode cX0_done 42 = .ok (.iconst 0, 1) := by decide +kernel
theorem dX0_done_43 : decode cX0_done 43 = .ok (.istore 4, 2) := by decide +kernel
theorem dX0_done_45 : decode cX0_done 45 = .ok (.aload_n 0, 1) := by decide +kernel
theorem dX0_done_46 : decode cX0_done 46 = .ok (.getfield 32, 3) := by decide +kernel
theorem dX0_done_49 : decode cX0_done 49 = .ok (.iconst 4, 1) := by decide +kernel
theorem dX0_done_50 : decode cX0_done 50 = .ok (.ishr, 1) := by decide +kernel
theorem dX0_done_51 : decode cX0_done 51 = .ok (.aload_n 0, 1) := by decide +kernel
theorem dX0_done_52 : decode cX0_done 52 = .ok (.getfield 32, 3) := by decide +kernel
theorem dX0_done_55 : decode cX0_done 55 = .ok (.bipush 10, 2) := by decide +kernel
theorem dX0_done_57 : decode cX0_done 57 = .ok (.ishr, 1) := by decide +kernel
theorem dX0_done_58 : decode cX0_done 58 = .ok (.iand, 1) := by decide +kernel
theorem dX0_done_59 : decode cX0_done 59 = .ok (.ifCond .eq 7, 3) := by decide +kernel
theorem dX0_done_62 : decode cX0_done 62 = .ok (.iconst 1, 1) := by decide +kernel
theorem dX0_done_63 : decode cX0_done 63 = .ok (.goto 4, 3) := by decide +kernel
theorem dX0_done_66 : decode cX0_done 66 = .ok (.iconst 0, 1) := by decide +kernel
theorem dX0_done_67 : decode cX0_done 67 = .ok (.istore 5, 2) := by decide +kernel
theorem dX0_done_69 : decode cX0_done 69 = .ok (.iload_n 3, 1) := by decide +kernel
theorem dX0_done_70 : decode cX0_done 70 = .ok (.ifCond .ne 13, 3) := by decide +kernel
theorem dX0_done_73 : decode cX0_done 73 = .ok (.iload 4, 2) := by decide +kernel
theorem dX0_done_75 : decode cX0_done 75 = .ok (.ifCond .ne 8, 3) := by decide +kernel
theorem dX0_done_78 : decode cX0_done 78 = .ok (.iload 5, 2) := by decide +kernel
theorem dX0_done_80 : decode cX0_done 80 = .ok (.ifCond .eq 5, 3) := by decide +kernel
theorem dX0_done_83 : decode cX0_done 83 = .ok (.iload_n 2, 1) := by decide +kernel
theorem dX0_done_84 : decode cX0_done 84 = .ok (.ireturn, 1) := by decide +kernel
theorem dX0_done_85 : decode cX0_done 85 = .ok (.aload_n 0, 1) := by decide +kernel
theorem dX0_done_86 : decode cX0_done 86 = .ok (.getfield 29, 3) := by decide +kernel
theorem dX0_done_89 : decode cX0_done 89 = .ok (.ifCond .ne 5, 3) := by decide +kernel
theorem dX0_done_92 : decode cX0_done 92 = .ok (.iload_n 1, 1) := by decide +kernel
theorem dX0_done_93 : decode cX0_done 93 = .ok (.ireturn, 1) := by decide +kernel
theorem dX0_done_94 : decode cX0_done 94 = .ok (.aload_n 0, 1) := by decide +kernel
theorem dX0_done_95 : decode cX0_done 95 = .ok (.getfield 29, 3) := by decide +kernel
theorem dX0_done_98 : decode cX0_done 98 = .ok (.iconst 1, 1) := by decide +kernel
theorem dX0_done_99 : decode cX0_done 99 = .ok (.if_icmp .ne 12, 3) := by decide +kernel
theorem dX0_done_102 : decode cX0_done 102 = .ok (.aload_n 0, 1) := by decide +kernel
theorem dX0_done_103 : decode cX0_done 103 = .ok (.getfield 15, 3) := by decide +kernel
theorem dX0_done_106 : decode cX0_done 106 = .ok (.iconst 0, 1) := by decide +kernel
theorem dX0_done_107 : decode cX0_done 107 = .ok (.iaload, 1) := by decide +kernel
theorem dX0_done_108 : decode cX0_done 108 = .ok (.goto 23, 3) := by decide +kernel
theorem dX0_done_111 : decode cX0_done 111 = .ok (.aload_n 0, 1) := by decide +kernel
theorem dX0_done_112 : decode cX0_done 112 = .ok (.getfield 21, 3) := by decide +kernel
theorem dX0_done_115 : decode cX0_done 115 = .ok (.aload_n 0, 1) := by decide +kernel
theorem dX0_done_116 : decode cX0_done 116 = .ok (.getfield 25, 3) := by decide +kernel
theorem dX0_done_119 : decode cX0_done 119 = .ok (.aload_n 0, 1) := by decide +kernel
theorem dX0_done_120 : decode cX0_done 120 = .ok (.getfield 15, 3) := by decide +kernel
theorem dX0_done_123 : decode cX0_done 123 = .ok (.iconst 0, 1) := by decide +kernel
theorem dX0_done_124 : decode cX0_done 124 = .ok (.aload_n 0, 1) := by decide +kernel
theorem dX0_done_125 : decode cX0_done 125 = .ok (.getfield 29, 3) := by decide +kernel
theorem dX0_done_128 : decode cX0_done 128 = .ok (.invokevirtual 60, 3) := by decide +kernel
theorem dX0_done_131 : decode cX0_done 131 = .ok (.ireturn, 1) := by decide +kernel
theorem dX0_two_0 : decode cX0_two 0 = .ok (.aload_n 0, 1) := by decide +kernel
theorem dX0_two_1 : decode cX0_two 1 = .ok (.iload_n 1, 1) := by decide +kernel
theorem dX0_two_2 : decode cX0_two 2 = .ok (.invokevirtual 64, 3) := by decide +kernel
theorem dX0_two_5 : decode cX0_two 5 = .ok (.aload_n 0, 1) := by decide +kernel
theorem dX0_two_6 : decode cX0_two 6 = .ok (.iload_n 2, 1) := by decide +kernel
theorem dX0_two_7 : decode cX0_two 7 = .ok (.invokevirtual 68, 3) := by decide +kernel
theorem dX0_two_10 : decode cX0_two 10 = .ok (.aload_n 0, 1) := by decide +kernel
theorem dX0_two_11 : decode cX0_two 11 = .ok (.iload_n 3, 1) := by decide +kernel
theorem dX0_two_12 : decode cX0_two 12 = .ok (.invokevirtual 68, 3) := by decide +kernel
theorem dX0_two_15 : decode cX0_two 15 = .ok (.aload_n 0, 1) := by decide +kernel
theorem dX0_two_16 : decode cX0_two 16 = .ok (.invokevirtual 71, 3) := by decide +kernel
theorem dX0_two_19 : decode cX0_two 19 = .ok (.ireturn, 1) := by decide +kernel
theorem dX0_make_0 : decode cX0_make 0 = .ok (.aload_n 0, 1) := by decide +kernel
theorem dX0_make_1 : decode cX0_make 1 = .ok (.getfield 18, 3) := by decide +kernel
theorem dX0_make_4 : decode cX0_make 4 = .ok (.iconst 0, 1) := by decide +kernel
theorem dX0_make_5 : decode cX0_make 5 = .ok (.iload_n 2, 1) := by decide +kernel
theorem dX0_make_6 : decode cX0_make 6 = .ok (.iastore, 1) := by decide +kernel
theorem dX0_make_7 : decode cX0_make 7 = .ok (.aload_n 0, 1) := by decide +kernel
theorem dX0_make_8 : decode cX0_make 8 = .ok (.getfield 18, 3) := by decide +kernel
theorem dX0_make_11 : decode cX0_make 11 = .ok (.iconst 1, 1) := by decide +kernel
theorem dX0_make_12 : decode cX0_make 12 = .ok (.iload_n 3, 1) := by decide +kernel
theorem dX0_make_13 : decode cX0_make 13 = .ok (.iastore, 1) := by decide +kernel
theorem dX0_make_14 : decode cX0_make 14 = .ok (.aload_n 0, 1) := by decide +kernel
theorem dX0_make_15 : decode cX0_make 15 = .ok (.getfield 21, 3) := by decide +kernel
theorem dX0_make_18 : decode cX0_make 18 = .ok (.iload_n 1, 1) := by decide +kernel
theorem dX0_make_19 : decode cX0_make 19 = .ok (.aload_n 0, 1) := by decide +kernel
theorem dX0_make_20 : decode cX0_make 20 = .ok (.getfield 18, 3) := by decide +kernel
theorem dX0_make_23 : decode cX0_make 23 = .ok (.iconst 0, 1) := by decide +kernel
theorem dX0_make_24 : decode cX0_make 24 = .ok (.iload_n 1, 1) := by decide +kernel
theorem dX0_make_25 : decode cX0_make 25 = .ok (.bipush 16, 2) := by decide +kernel
theorem dX0_make_27 : decode cX0_make 27 = .ok (.if_icmp .eq 9, 3) := by decide +kernel
theorem dX0_make_30 : decode cX0_make 30 = .ok (.iload_n 1, 1) := by decide +kernel
theorem dX0_make_31 : decode cX0_make 31 = .ok (.bipush 17, 2) := by decide +kernel
theorem dX0_make_33 : decode cX0_make 33 = .ok (.if_icmp .ne 7, 3) := by decide +kernel
theorem dX0_make_36 : decode cX0_make 36 = .ok (.iconst 1, 1) := by decide +kernel
theorem dX0_make_37 : decode cX0_make 37 = .ok (.goto 4, 3) := by decide +kernel
theorem dX0_make_40 : decode cX0_make 40 = .ok (.iconst 2, 1) := by decide +kernel
theorem dX0_make_41 : decode cX0_make 41 = .ok (.invokevirtual 60, 3) := by decide +kernel
theorem dX0_make_44 : decode cX0_make 44 = .ok (.ireturn, 1) := by decide +kernel
theorem dX0_behind_0 : decode cX0_behind 0 = .ok (.aload_n 0, 1) := by decide +kernel
theorem dX0_behind_1 : decode cX0_behind 1 = .ok (.getfield 9, 3) := by decide +kernel
theorem dX0_behind_4 : decode cX0_behind 4 = .ok (.iconst 0, 1) := by decide +kernel
theorem dX0_behind_5 : decode cX0_behind 5 = .ok (.iconst 0, 1) := by decide +kernel
theorem dX0_behind_6 : decode cX0_behind 6 = .ok (.iastore, 1) := by decide +kernel
theorem dX0_behind_7 : decode cX0_behind 7 = .ok (.aload_n 0, 1) := by decide +kernel
theorem dX0_behind_8 : decode cX0_behind 8 = .ok (.getfield 9, 3) := by decide +kernel
theorem dX0_behind_11 : decode cX0_behind 11 = .ok (.iconst 1, 1) := by decide +kernel
theorem dX0_behind_12 : decode cX0_behind 12 = .ok (.iconst 1, 1) := by decide +kernel
theorem dX0_behind_13 : decode cX0_behind 13 = .ok (.iastore, 1) := by decide +kernel
theorem dX0_behind_14 : decode cX0_behind 14 = .ok (.aload_n 0, 1) := by decide +kernel
theorem dX0_behind_15 : decode cX0_behind 15 = .ok (.getfield 9, 3) := by decide +kernel
theorem dX0_behind_18 : decode cX0_behind 18 = .ok (.iconst 2, 1) := by decide +kernel
theorem dX0_behind_19 : decode cX0_behind 19 = .ok (.iconst 1, 1) := by decide +kernel
theorem dX0_behind_20 : decode cX0_behind 20 = .ok (.iastore, 1) := by decide +kernel
theorem dX0_behind_21 : decode cX0_behind 21 = .ok (.aload_n 0, 1) := by decide +kernel
theorem dX0_behind_22 : decode cX0_behind 22 = .ok (.getfield 9, 3) := by decide +kernel
theorem dX0_behind_25 : decode cX0_behind 25 = .ok (.iconst 3, 1) := by decide +kernel
theorem dX0_behind_26 : decode cX0_behind 26 = .ok (.iconst 0, 1) := by decide +kernel
theorem dX0_behind_27 : decode cX0_behind 27 = .ok (.iastore, 1) := by decide +kernel
theorem dX0_behind_28 : decode cX0_behind 28 = .ok (.iconst 0, 1) := by decide +kernel
theorem dX0_behind_29 : decode cX0_behind 29 = .ok (.istore_n 3, 1) := by decide +kernel
theorem dX0_behind_30 : decode cX0_behind 30 = .ok (.iload_n 3, 1) := by decide +kernel
theorem dX0_behind_31 : decode cX0_behind 31 = .ok (.bipush 6, 2) := by decide +kernel
theorem dX0_behind_33 : decode cX0_behind 33 = .ok (.if_icmp .ge 61, 3) := by decide +kernel
theorem dX0_behind_36 : decode cX0_behind 36 = .ok (.iload_n 2, 1) := by decide +kernel
theorem dX0_behind_37 : decode cX0_behind 37 = .ok (.iconst 1, 1) := by decide +kernel
theorem dX0_behind_38 : decode cX0_behind 38 = .ok (.iload_n 3, 1) := by decide +kernel
theorem dX0_behind_39 : decode cX0_behind 39 = .ok (.ishl, 1) := by decide +kernel
theorem dX0_behind_40 : decode cX0_behind 40 = .ok (.iand, 1) := by decide +kernel
theorem dX0_behind_41 : decode cX0_behind 41 = .ok (.ifCond .eq 7, 3) := by decide +kernel
theorem dX0_behind_44 : decode cX0_behind 44 = .ok (.iconst 1, 1) := by decide +kernel
theorem dX0_behind_45 : decode cX0_behind 45 = .ok (.goto 4, 3) := by decide +kernel
theorem dX0_behind_48 : decode cX0_behind 48 = .ok (.iconst 0, 1) := by decide +kernel
theorem dX0_behind_49 : decode cX0_behind 49 = .ok (.istore 4, 2) := by decide +kernel
theorem dX0_behind_51 : decode cX0_behind 51 = .ok (.aload_n 0, 1) := by decide +kernel
theorem dX0_behind_52 : decode cX0_behind 52 = .ok (.getfield 9, 3) := by decide +kernel
theorem dX0_behind_55 : decode cX0_behind 55 = .ok (.iconst 4, 1) := by decide +kernel
theorem dX0_behind_56 : decode cX0_behind 56 = .ok (.iload_n 3, 1) := by decide +kernel
theorem dX0_behind_57 : decode cX0_behind 57 = .ok (.iadd, 1) := by decide +kernel
theorem dX0_behind_58 : decode cX0_behind 58 = .ok (.iload 4, 2) := by decide +kernel
theorem dX0_behind_60 : decode cX0_behind 60 = .ok (.ifCond .eq 7, 3) := by decide +kernel
theorem dX0_behind_63 : decode cX0_behind 63 = .ok (.iconst 1, 1) := by decide +kernel
theorem dX0_behind_64 : decode cX0_behind 64 = .ok (.goto 4, 3) := by decide +kernel
theorem dX0_behind_67 : decode cX0_behind 67 = .ok (.iconst 0, 1) := by decide +kernel
theorem dX0_behind_68 : decode cX0_behind 68 = .ok (.iastore, 1) := by decide +kernel
theorem dX0_behind_69 : decode cX0_behind 69 = .ok (.aload_n 0, 1) := by decide +kernel
theorem dX0_behind_70 : decode cX0_behind 70 = .ok (.getfield 9, 3) := by decide +kernel
theorem dX0_behind_73 : decode cX0_behind 73 = .ok (.bipush 10, 2) := by decide +kernel
theorem dX0_behind_75 : decode cX0_behind 75 = .ok (.iload_n 3, 1) := by decide +kernel
theorem dX0_behind_76 : decode cX0_behind 76 = .ok (.iadd, 1) := by decide +kernel
theorem dX0_behind_77 : decode cX0_behind 77 = .ok (.iload 4, 2) := by decide +kernel
theorem dX0_behind_79 : decode cX0_behind 79 = .ok (.ifCond .eq 7, 3) := by decide +kernel
theorem dX0_behind_82 : decode cX0_behind 82 = .ok (.iconst 0, 1) := by decide +kernel
theorem dX0_behind_83 : decode cX0_behind 83 = .ok (.goto 4, 3) := by decide +kernel
theorem dX0_behind_86 : decode cX0_behind 86 = .ok (.iconst 1, 1) := by decide +kernel
theorem dX0_behind_87 : decode cX0_behind 87 = .ok (.iastore, 1) := by decide +kernel
theorem dX0_behind_88 : decode cX0_behind 88 = .ok (.iinc 3 1, 3) := by decide +kernel
theorem dX0_behind_91 : decode cX0_behind 91 = .ok (.goto (-61), 3) := by decide +kernel
theorem dX0_behind_94 : decode cX0_behind 94 = .ok (.bipush 16, 2) := by decide +kernel
theorem dX0_behind_96 : decode cX0_behind 96 = .ok (.istore_n 3, 1) := by decide +kernel
theorem dX0_behind_97 : decode cX0_behind 97 = .ok (.iload_n 3, 1) := by decide +kernel
theorem dX0_behind_98 : decode cX0_behind 98 = .ok (.iload_n 1, 1) := by decide +kernel
theorem dX0_behind_99 : decode cX0_behind 99 = .ok (.if_icmp .gt 207, 3) := by decide +kernel
theorem dX0_behind_102 : decode cX0_behind 102 = .ok (.aload_n 0, 1) := by decide +kernel
theorem dX0_behind_103 : decode cX0_behind 103 = .ok (.getfield 21, 3) := by decide +kernel
theorem dX0_behind_106 : decode cX0_behind 106 = .ok (.iload_n 3, 1) := by decide +kernel
theorem dX0_behind_107 : decode cX0_behind 107 = .ok (.iconst 0, 1) := by decide +kernel
theorem dX0_behind_108 : decode cX0_behind 108 = .ok (.invokevirtual 43, 3) := by decide +kernel
theorem dX0_behind_111 : decode cX0_behind 111 = .ok (.istore 4, 2) := by decide +kernel
theorem dX0_behind_113 : decode cX0_behind 113 = .ok (.aload_n 0, 1) := by decide +kernel
theorem dX0_behind_114 : decode cX0_behind 114 = .ok (.getfield 21, 3) := by decide +kernel
theorem dX0_behind_117 : decode cX0_behind 117 = .ok (.iload_n 3, 1) := by decide +kernel
theorem dX0_behind_118 : decode cX0_behind 118 = .ok (.aload_n 0, 1) := by decide +kernel
theorem dX0_behind_119 : decode cX0_behind 119 = .ok (.getfield 21, 3) := by decide +kernel
theorem dX0_behind_122 : decode cX0_behind 122 = .ok (.getfield 40, 3) := by decide +kernel
theorem dX0_behind_125 : decode cX0_behind 125 = .ok (.iload_n 3, 1) := by decide +kernel
theorem dX0_behind_126 : decode cX0_behind 126 = .ok (.iaload, 1) := by decide +kernel
theorem dX0_behind_127 : decode cX0_behind 127 = .ok (.iconst 1, 1) := by decide +kernel
theorem dX0_behind_128 : decode cX0_behind 128 = .ok (.isub, 1) := by decide +kernel
theorem dX0_behind_129 : decode cX0_behind 129 = .ok (.invokevirtual 43, 3) := by decide +kernel
theorem dX0_behind_132 : decode cX0_behind 132 = .ok (.istore 5, 2) := by decide +kernel
theorem dX0_behind_134 : decode cX0_behind 134 = .ok (.aload_n 0, 1) := by decide +kernel
theorem dX0_behind_135 : decode cX0_behind 135 = .ok (.getfield 21, 3) := by decide +kernel
theorem dX0_behind_138 : decode cX0_behind 138 = .ok (.getfield 35, 3) := by decide +kernel
theorem dX0_behind_141 : decode cX0_behind 141 = .ok (.iload_n 3, 1) := by decide +kernel
theorem dX0_behind_142 : decode cX0_behind 142 = .ok (.iaload, 1) := by decide +kernel
theorem dX0_behind_143 : decode cX0_behind 143 = .ok (.tableswitch 137 16 19 #[29, 47, 65, 101], 29) := by decide +kernel
theorem dX0_behind_172 : decode cX0_behind 172 = .ok (.aload_n 0, 1) := by decide +kernel
theorem dX0_behind_173 : decode cX0_behind 173 = .ok (.getfield 9, 3) := by decide +kernel
theorem dX0_behind_176 : decode cX0_behind 176 = .ok (.iload_n 3, 1) := by decide +kernel
theorem dX0_behind_177 : decode cX0_behind 177 = .ok (.aload_n 0, 1) := by decide +kernel
theorem dX0_behind_178 : decode cX0_behind 178 = .ok (.bipush 20, 2) := by decide +kernel
theorem dX0_behind_180 : decode cX0_behind 180 = .ok (.iconst 2, 1) := by decide +kernel
theorem dX0_behind_181 : decode cX0_behind 181 = .ok (.iload 4, 2) := by decide +kernel
theorem dX0_behind_183 : decode cX0_behind 183 = .ok (.invokevirtual 74, 3) := by decide +kernel
theorem dX0_behind_186 : decode cX0_behind 186 = .ok (.iastore, 1) := by decide +kernel
theorem dX0_behind_187 : decode cX0_behind 187 = .ok (.goto 113, 3) := by decide +kernel
theorem dX0_behind_190 : decode cX0_behind 190 = .ok (.aload_n 0, 1) := by decide +kernel
theorem dX0_behind_191 : decode cX0_behind 191 = .ok (.getfield 9, 3) := by decide +kernel
theorem dX0_behind_194 : decode cX0_behind 194 = .ok (.iload_n 3, 1) := by decide +kernel
theorem dX0_behind_195 : decode cX0_behind 195 = .ok (.aload_n 0, 1) := by decide +kernel
theorem dX0_behind_196 : decode cX0_behind 196 = .ok (.bipush 21, 2) := by decide +kernel
theorem dX0_behind_198 : decode cX0_behind 198 = .ok (.iconst 3, 1) := by decide +kernel
theorem dX0_behind_199 : decode cX0_behind 199 = .ok (.iload 4, 2) := by decide +kernel
theorem dX0_behind_201 : decode cX0_behind 201 = .ok (.invokevirtual 74, 3) := by decide +kernel
theorem dX0_behind_204 : decode cX0_behind 204 = .ok (.iastore, 1) := by decide +kernel
theorem dX0_behind_205 : decode cX0_behind 205 = .ok (.goto 95, 3) := by decide +kernel
theorem dX0_behind_208 : decode cX0_behind 208 = .ok (.aload_n 0, 1) := by decide +kernel
theorem dX0_behind_209 : decode cX0_behind 209 = .ok (.getfield 9, 3) := by decide +kernel
theorem dX0_behind_212 : decode cX0_behind 212 = .ok (.iload_n 3, 1) := by decide +kernel
theorem dX0_behind_213 : decode cX0_behind 213 = .ok (.aload_n 0, 1) := by decide +kernel
theorem dX0_behind_214 : decode cX0_behind 214 = .ok (.bipush 21, 2) := by decide +kernel
theorem dX0_behind_216 : decode cX0_behind 216 = .ok (.aload_n 0, 1) := by decide +kernel
theorem dX0_behind_217 : decode cX0_behind 217 = .ok (.getfield 9, 3) := by decide +kernel
theorem dX0_behind_220 : decode cX0_behind 220 = .ok (.iload 5, 2) := by decide +kernel
theorem dX0_behind_222 : decode cX0_behind 222 = .ok (.iaload, 1) := by decide +kernel
theorem dX0_behind_223 : decode cX0_behind 223 = .ok (.aload_n 0, 1) := by decide +kernel
theorem dX0_behind_224 : decode cX0_behind 224 = .ok (.bipush 20, 2) := by decide +kernel
theorem dX0_behind_226 : decode cX0_behind 226 = .ok (.aload_n 0, 1) := by decide +kernel
theorem dX0_behind_227 : decode cX0_behind 227 = .ok (.getfield 9, 3) := by decide +kernel
theorem dX0_behind_230 : decode cX0_behind 230 = .ok (.iload 4, 2) := by decide +kernel
theorem dX0_behind_232 : decode cX0_behind 232 = .ok (.iaload, 1) := by decide +kernel
theorem dX0_behind_233 : decode cX0_behind 233 = .ok (.iload_n 3, 1) := by decide +kernel
theorem dX0_behind_234 : decode cX0_behind 234 = .ok (.invokevirtual 74, 3) := by decide +kernel
theorem dX0_behind_237 : decode cX0_behind 237 = .ok (.invokevirtual 74, 3) := by decide +kernel
theorem dX0_behind_240 : decode cX0_behind 240 = .ok (.iastore, 1) := by decide +kernel
theorem dX0_behind_241 : decode cX0_behind 241 = .ok (.goto 59, 3) := by decide +kernel
theorem dX0_behind_244 : decode cX0_behind 244 = .ok (.aload_n 0, 1) := by decide +kernel
theorem dX0_behind_245 : decode cX0_behind 245 = .ok (.getfield 9, 3) := by decide +kernel
theorem dX0_behind_248 : decode cX0_behind 248 = .ok (.iload_n 3, 1) := by decide +kernel
theorem dX0_behind_249 : decode cX0_behind 249 = .ok (.aload_n 0, 1) := by decide +kernel
theorem dX0_behind_250 : decode cX0_behind 250 = .ok (.bipush 20, 2) := by decide +kernel
theorem dX0_behind_252 : decode cX0_behind 252 = .ok (.aload_n 0, 1) := by decide +kernel
theorem dX0_behind_253 : decode cX0_behind 253 = .ok (.getfield 9, 3) := by decide +kernel
theorem dX0_behind_256 : decode cX0_behind 256 = .ok (.iload 5, 2) := by decide +kernel
theorem dX0_behind_258 : decode cX0_behind 258 = .ok (.iaload, 1) := by decide +kernel
theorem dX0_behind_259 : decode cX0_behind 259 = .ok (.aload_n 0, 1) := by decide +kernel
theorem dX0_behind_260 : decode cX0_behind 260 = .ok (.bipush 21, 2) := by decide +kernel
theorem dX0_behind_262 : decode cX0_behind 262 = .ok (.aload_n 0, 1) := by decide +kernel
theorem dX0_behind_263 : decode cX0_behind 263 = .ok (.getfield 9, 3) := by decide +kernel
theorem dX0_behind_266 : decode cX0_behind 266 = .ok (.iload 4, 2) := by decide +kernel
theorem dX0_behind_268 : decode cX0_behind 268 = .ok (.iaload, 1) := by decide +kernel
theorem dX0_behind_269 : decode cX0_behind 269 = .ok (.iload_n 3, 1) := by decide +kernel
theorem dX0_behind_270 : decode cX0_behind 270 = .ok (.invokevirtual 74, 3) := by decide +kernel
theorem dX0_behind_273 : decode cX0_behind 273 = .ok (.invokevirtual 74, 3) := by decide +kernel
theorem dX0_behind_276 : decode cX0_behind 276 = .ok (.iastore, 1) := by decide +kernel
theorem dX0_behind_277 : decode cX0_behind 277 = .ok (.goto 23, 3) := by decide +kernel
theorem dX0_behind_280 : decode cX0_behind 280 = .ok (.aload_n 0, 1) := by decide +kernel
theorem dX0_behind_281 : decode cX0_behind 281 = .ok (.getfield 9, 3) := by decide +kernel
theorem dX0_behind_284 : decode cX0_behind 284 = .ok (.iload_n 3, 1) := by decide +kernel
theorem dX0_behind_285 : decode cX0_behind 285 = .ok (.aload_n 0, 1) := by decide +kernel
theorem dX0_behind_286 : decode cX0_behind 286 = .ok (.iload_n 3, 1) := by decide +kernel
theorem dX0_behind_287 : decode cX0_behind 287 = .ok (.aload_n 0, 1) := by decide +kernel
theorem dX0_behind_288 : decode cX0_behind 288 = .ok (.getfield 21, 3) := by decide +kernel
theorem dX0_behind_291 : decode cX0_behind 291 = .ok (.getfield 35, 3) := by decide +kernel
theorem dX0_behind_294 : decode cX0_behind 294 = .ok (.iload_n 3, 1) := by decide +kernel
theorem dX0_behind_295 : decode cX0_behind 295 = .ok (.iaload, 1) := by decide +kernel
theorem dX0_behind_296 : decode cX0_behind 296 = .ok (.invokevirtual 78, 3) := by decide +kernel
theorem dX0_behind_299 : decode cX0_behind 299 = .ok (.iastore, 1) := by decide +kernel
theorem dX0_behind_300 : decode cX0_behind 300 = .ok (.iinc 3 1, 3) := by decide +kernel
theorem dX0_behind_303 : decode cX0_behind 303 = .ok (.goto (-206), 3) := by decide +kernel
theorem dX0_behind_306 : decode cX0_behind 306 = .ok (.aload_n 0, 1) := by decide +kernel
theorem dX0_behind_307 : decode cX0_behind 307 = .ok (.getfield 9, 3) := by decide +kernel
theorem dX0_behind_310 : decode cX0_behind 310 = .ok (.iload_n 1, 1) := by decide +kernel
theorem dX0_behind_311 : decode cX0_behind 311 = .ok (.iaload, 1) := by decide +kernel
theorem dX0_behind_312 : decode cX0_behind 312 = .ok (.ireturn, 1) := by decide +kernel
theorem dX0_opposite_0 : decode cX0_opposite 0 = .ok (.aload_n 0, 1) := by decide +kernel
theorem dX0_opposite_1 : decode cX0_opposite 1 = .ok (.getfield 9, 3) := by decide +kernel
theorem dX0_opposite_4 : decode cX0_opposite 4 = .ok (.iconst 0, 1) := by decide +kernel
theorem dX0_opposite_5 : decode cX0_opposite 5 = .ok (.iconst 1, 1) := by decide +kernel
theorem dX0_opposite_6 : decode cX0_opposite 6 = .ok (.iastore, 1) := by decide +kernel
theorem dX0_opposite_7 : decode cX0_opposite 7 = .ok (.aload_n 0, 1) := by decide +kernel
theorem dX0_opposite_8 : decode cX0_opposite 8 = .ok (.getfield 9, 3) := by decide +kernel
theorem dX0_opposite_11 : decode cX0_opposite 11 = .ok (.iconst 1, 1) := by decide +kernel
theorem dX0_opposite_12 : decode cX0_opposite 12 = .ok (.iconst 0, 1) := by decide +kernel
theorem dX0_opposite_13 : decode cX0_opposite 13 = .ok (.iastore, 1) := by decide +kernel
theorem dX0_opposite_14 : decode cX0_opposite 14 = .ok (.aload_n 0, 1) := by decide +kernel
theorem dX0_opposite_15 : decode cX0_opposite 15 = .ok (.getfield 9, 3) := by decide +kernel
theorem dX0_opposite_18 : decode cX0_opposite 18 = .ok (.iconst 2, 1) := by decide +kernel
theorem dX0_opposite_19 : decode cX0_opposite 19 = .ok (.iconst 3, 1) := by decide +kernel
theorem dX0_opposite_20 : decode cX0_opposite 20 = .ok (.iastore, 1) := by decide +kernel
theorem dX0_opposite_21 : decode cX0_opposite 21 = .ok (.aload_n 0, 1) := by decide +kernel
theorem dX0_opposite_22 : decode cX0_opposite 22 = .ok (.getfield 9, 3) := by decide +kernel
theorem dX0_opposite_25 : decode cX0_opposite 25 = .ok (.iconst 3, 1) := by decide +kernel
theorem dX0_opposite_26 : decode cX0_opposite 26 = .ok (.iconst 2, 1) := by decide +kernel
theorem dX0_opposite_27 : decode cX0_opposite 27 = .ok (.iastore, 1) := by decide +kernel
theorem dX0_opposite_28 : decode cX0_opposite 28 = .ok (.iconst 0, 1) := by decide +kernel
theorem dX0_opposite_29 : decode cX0_opposite 29 = .ok (.istore_n 2, 1) := by decide +kernel
theorem dX0_opposite_30 : decode cX0_opposite 30 = .ok (.iload_n 2, 1) := by decide +kernel
theorem dX0_opposite_31 : decode cX0_opposite 31 = .ok (.bipush 6, 2) := by decide +kernel
theorem dX0_opposite_33 : decode cX0_opposite 33 = .ok (.if_icmp .ge 33, 3) := by decide +kernel
theorem dX0_opposite_36 : decode cX0_opposite 36 = .ok (.aload_n 0, 1) := by decide +kernel
theorem dX0_opposite_37 : decode cX0_opposite 37 = .ok (.getfield 9, 3) := by decide +kernel
theorem dX0_opposite_40 : decode cX0_opposite 40 = .ok (.iconst 4, 1) := by decide +kernel
theorem dX0_opposite_41 : decode cX0_opposite 41 = .ok (.iload_n 2, 1) := by decide +kernel
theorem dX0_opposite_42 : decode cX0_opposite 42 = .ok (.iadd, 1) := by decide +kernel
theorem dX0_opposite_43 : decode cX0_opposite 43 = .ok (.bipush 10, 2) := by decide +kernel
theorem dX0_opposite_45 : decode cX0_opposite 45 = .ok (.iload_n 2, 1) := by decide +kernel
theorem dX0_opposite_46 : decode cX0_opposite 46 = .ok (.iadd, 1) := by decide +kernel
theorem dX0_opposite_47 : decode cX0_opposite 47 = .ok (.iastore, 1) := by decide +kernel
theorem dX0_opposite_48 : decode cX0_opposite 48 = .ok (.aload_n 0, 1) := by decide +kernel
theorem dX0_opposite_49 : decode cX0_opposite 49 = .ok (.getfield 9, 3) := by decide +kernel
theorem dX0_opposite_52 : decode cX0_opposite 52 = .ok (.bipush 10, 2) := by decide +kernel
theorem dX0_opposite_54 : decode cX0_opposite 54 = .ok (.iload_n 2, 1) := by decide +kernel
theorem dX0_opposite_55 : decode cX0_opposite 55 = .ok (.iadd, 1) := by decide +kernel
theorem dX0_opposite_56 : decode cX0_opposite 56 = .ok (.iconst 4, 1) := by decide +kernel
theorem dX0_opposite_57 : decode cX0_opposite 57 = .ok (.iload_n 2, 1) := by decide +kernel
theorem dX0_opposite_58 : decode cX0_opposite 58 = .ok (.iadd, 1) := by decide +kernel
theorem dX0_opposite_59 : decode cX0_opposite 59 = .ok (.iastore, 1) := by decide +kernel
theorem dX0_opposite_60 : decode cX0_opposite 60 = .ok (.iinc 2 1, 3) := by decide +kernel
theorem dX0_opposite_63 : decode cX0_opposite 63 = .ok (.goto (-33), 3) := by decide +kernel
theorem dX0_opposite_66 : decode cX0_opposite 66 = .ok (.bipush 16, 2) := by decide +kernel
theorem dX0_opposite_68 : decode cX0_opposite 68 = .ok (.istore_n 2, 1) := by decide +kernel
theorem dX0_opposite_69 : decode cX0_opposite 69 = .ok (.iload_n 2, 1) := by decide +kernel
theorem dX0_opposite_70 : decode cX0_opposite 70 = .ok (.iload_n 1, 1) := by decide +kernel
theorem dX0_opposite_71 : decode cX0_opposite 71 = .ok (.if_icmp .gt 184, 3) := by decide +kernel
theorem dX0_opposite_74 : decode cX0_opposite 74 = .ok (.aload_n 0, 1) := by decide +kernel
theorem dX0_opposite_75 : decode cX0_opposite 75 = .ok (.getfield 9, 3) := by decide +kernel
theorem dX0_opposite_78 : decode cX0_opposite 78 = .ok (.aload_n 0, 1) := by decide +kernel
theorem dX0_opposite_79 : decode cX0_opposite 79 = .ok (.getfield 21, 3) := by decide +kernel
theorem dX0_opposite_82 : decode cX0_opposite 82 = .ok (.iload_n 2, 1) := by decide +kernel
theorem dX0_opposite_83 : decode cX0_opposite 83 = .ok (.iconst 0, 1) := by decide +kernel
theorem dX0_opposite_84 : decode cX0_opposite 84 = .ok (.invokevirtual 43, 3) := by decide +kernel
theorem dX0_opposite_87 : decode cX0_opposite 87 = .ok (.iaload, 1) := by decide +kernel
theorem dX0_opposite_88 : decode cX0_opposite 88 = .ok (.istore_n 3, 1) := by decide +kernel
theorem dX0_opposite_89 : decode cX0_opposite 89 = .ok (.aload_n 0, 1) := by decide +kernel
theorem dX0_opposite_90 : decode cX0_opposite 90 = .ok (.getfield 9, 3) := by decide +kernel
theorem dX0_opposite_93 : decode cX0_opposite 93 = .ok (.aload_n 0, 1) := by decide +kernel
theorem dX0_opposite_94 : decode cX0_opposite 94 = .ok (.getfield 21, 3) := by decide +kernel
theorem dX0_opposite_97 : decode cX0_opposite 97 = .ok (.iload_n 2, 1) := by decide +kernel
theorem dX0_opposite_98 : decode cX0_opposite 98 = .ok (.aload_n 0, 1) := by decide +kernel
theorem dX0_opposite_99 : decode cX0_opposite 99 = .ok (.getfield 21, 3) := by decide +kernel
theorem dX0_opposite_102 : decode cX0_opposite 102 = .ok (.getfield 40, 3) := by decide +kernel
theorem dX0_opposite_105 : decode cX0_opposite 105 = .ok (.iload_n 2, 1) := by decide +kernel
theorem dX0_opposite_106 : decode cX0_opposite 106 = .ok (.iaload, 1) := by decide +kernel
theorem dX0_opposite_107 : decode cX0_opposite 107 = .ok (.iconst 1, 1) := by decide +kernel
theorem dX0_opposite_108 : decode cX0_opposite 108 = .ok (.isub, 1) := by decide +kernel
theorem dX0_opposite_109 : decode cX0_opposite 109 = .ok (.invokevirtual 43, 3) := by decide +kernel
theorem dX0_opposite_112 : decode cX0_opposite 112 = .ok (.iaload, 1) := by decide +kernel
theorem dX0_opposite_113 : decode cX0_opposite 113 = .ok (.istore 4, 2) := by decide +kernel
theorem dX0_opposite_115 : decode cX0_opposite 115 = .ok (.aload_n 0, 1) := by decide +kernel
theorem dX0_opposite_116 : decode cX0_opposite 116 = .ok (.getfield 21, 3) := by decide +kernel
theorem dX0_opposite_119 : decode cX0_opposite 119 = .ok (.getfield 35, 3) := by decide +kernel
theorem dX0_opposite_122 : decode cX0_opposite 122 = .ok (.iload_n 2, 1) := by decide +kernel
theorem dX0_opposite_123 : decode cX0_opposite 123 = .ok (.iaload, 1) := by decide +kernel
theorem dX0_opposite_124 : decode cX0_opposite 124 = .ok (.tableswitch 102 16 19 #[32, 49, 66, 84], 32) := by decide +kernel
theorem dX0_opposite_156 : decode cX0_opposite 156 = .ok (.aload_n 0, 1) := by decide +kernel
theorem dX0_opposite_157 : decode cX0_opposite 157 = .ok (.getfield 9, 3) := by decide +kernel
theorem dX0_opposite_160 : decode cX0_opposite 160 = .ok (.iload_n 2, 1) := by decide +kernel
theorem dX0_opposite_161 : decode cX0_opposite 161 = .ok (.aload_n 0, 1) := by decide +kernel
theorem dX0_opposite_162 : decode cX0_opposite 162 = .ok (.bipush 17, 2) := by decide +kernel
theorem dX0_opposite_164 : decode cX0_opposite 164 = .ok (.iload_n 3, 1) := by decide +kernel
theorem dX0_opposite_165 : decode cX0_opposite 165 = .ok (.iload_n 3, 1) := by decide +kernel
theorem dX0_opposite_166 : decode cX0_opposite 166 = .ok (.invokevirtual 81, 3) := by decide +kernel
theorem dX0_opposite_169 : decode cX0_opposite 169 = .ok (.iastore, 1) := by decide +kernel
theorem dX0_opposite_170 : decode cX0_opposite 170 = .ok (.goto 79, 3) := by decide +kernel
theorem dX0_opposite_173 : decode cX0_opposite 173 = .ok (.aload_n 0, 1) := by decide +kernel
theorem dX0_opposite_174 : decode cX0_opposite 174 = .ok (.getfield 9, 3) := by decide +kernel
theorem dX0_opposite_177 : decode cX0_opposite 177 = .ok (.iload_n 2, 1) := by decide +kernel
theorem dX0_opposite_178 : decode cX0_opposite 178 = .ok (.aload_n 0, 1) := by decide +kernel
theorem dX0_opposite_179 : decode cX0_opposite 179 = .ok (.bipush 16, 2) := by decide +kernel
theorem dX0_opposite_181 : decode cX0_opposite 181 = .ok (.iload_n 3, 1) := by decide +kernel
theorem dX0_opposite_182 : decode cX0_opposite 182 = .ok (.iload_n 3, 1) := by decide +kernel
theorem dX0_opposite_183 : decode cX0_opposite 183 = .ok (.invokevirtual 81, 3) := by decide +kernel
theorem dX0_opposite_186 : decode cX0_opposite 186 = .ok (.iastore, 1) := by decide +kernel
theorem dX0_opposite_187 : decode cX0_opposite 187 = .ok (.goto 62, 3) := by decide +kernel
theorem dX0_opposite_190 : decode cX0_opposite 190 = .ok (.aload_n 0, 1) := by decide +kernel
theorem dX0_opposite_191 : decode cX0_opposite 191 = .ok (.getfield 9, 3) := by decide +kernel
theorem dX0_opposite_194 : decode cX0_opposite 194 = .ok (.iload_n 2, 1) := by decide +kernel
theorem dX0_opposite_195 : decode cX0_opposite 195 = .ok (.aload_n 0, 1) := by decide +kernel
theorem dX0_opposite_196 : decode cX0_opposite 196 = .ok (.bipush 19, 2) := by decide +kernel
theorem dX0_opposite_198 : decode cX0_opposite 198 = .ok (.iload_n 3, 1) := by decide +kernel
theorem dX0_opposite_199 : decode cX0_opposite 199 = .ok (.iload 4, 2) := by decide +kernel
theorem dX0_opposite_201 : decode cX0_opposite 201 = .ok (.invokevirtual 81, 3) := by decide +kernel
theorem dX0_opposite_204 : decode cX0_opposite 204 = .ok (.iastore, 1) := by decide +kernel
theorem dX0_opposite_205 : decode cX0_opposite 205 = .ok (.goto 44, 3) := by decide +kernel
theorem dX0_opposite_208 : decode cX0_opposite 208 = .ok (.aload_n 0, 1) := by decide +kernel
theorem dX0_opposite_209 : decode cX0_opposite 209 = .ok (.getfield 9, 3) := by decide +kernel
theorem dX0_opposite_212 : decode cX0_opposite 212 = .ok (.iload_n 2, 1) := by decide +kernel
theorem dX0_opposite_213 : decode cX0_opposite 213 = .ok (.aload_n 0, 1) := by decide +kernel
theorem dX0_opposite_214 : decode cX0_opposite 214 = .ok (.bipush 18, 2) := by decide +kernel
theorem dX0_opposite_216 : decode cX0_opposite 216 = .ok (.iload_n 3, 1) := by decide +kernel
theorem dX0_opposite_217 : decode cX0_opposite 217 = .ok (.iload 4, 2) := by decide +kernel
theorem dX0_opposite_219 : decode cX0_opposite 219 = .ok (.invokevirtual 81, 3) := by decide +kernel
theorem dX0_opposite_222 : decode cX0_opposite 222 = .ok (.iastore, 1) := by decide +kernel
theorem dX0_opposite_223 : decode cX0_opposite 223 = .ok (.goto 26, 3) := by decide +kernel
theorem dX0_opposite_226 : decode cX0_opposite 226 = .ok (.aload_n 0, 1) := by decide +kernel
theorem dX0_opposite_227 : decode cX0_opposite 227 = .ok (.getfield 9, 3) := by decide +kernel
theorem dX0_opposite_230 : decode cX0_opposite 230 = .ok (.iload_n 2, 1) := by decide +kernel
theorem dX0_opposite_231 : decode cX0_opposite 231 = .ok (.aload_n 0, 1) := by decide +kernel
theorem dX0_opposite_232 : decode cX0_opposite 232 = .ok (.iload_n 2, 1) := by decide +kernel
theorem dX0_opposite_233 : decode cX0_opposite 233 = .ok (.bipush 41, 2) := by decide +kernel
theorem dX0_opposite_235 : decode cX0_opposite 235 = .ok (.aload_n 0, 1) := by decide +kernel
theorem dX0_opposite_236 : decode cX0_opposite 236 = .ok (.getfield 21, 3) := by decide +kernel
theorem dX0_opposite_239 : decode cX0_opposite 239 = .ok (.getfield 35, 3) := by decide +kernel
theorem dX0_opposite_242 : decode cX0_opposite 242 = .ok (.iload_n 2, 1) := by decide +kernel
theorem dX0_opposite_243 : decode cX0_opposite 243 = .ok (.iaload, 1) := by decide +kernel
theorem dX0_opposite_244 : decode cX0_opposite 244 = .ok (.isub, 1) := by decide +kernel
theorem dX0_opposite_245 : decode cX0_opposite 245 = .ok (.invokevirtual 78, 3) := by decide +kernel
theorem dX0_opposite_248 : decode cX0_opposite 248 = .ok (.iastore, 1) := by decide +kernel
theorem dX0_opposite_249 : decode cX0_opposite 249 = .ok (.iinc 2 1, 3) := by decide +kernel
theorem dX0_opposite_252 : decode cX0_opposite 252 = .ok (.goto (-183), 3) := by decide +kernel
theorem dX0_opposite_255 : decode cX0_opposite 255 = .ok (.aload_n 0, 1) := by decide +kernel
theorem dX0_opposite_256 : decode cX0_opposite 256 = .ok (.getfield 9, 3) := by decide +kernel
theorem dX0_opposite_259 : decode cX0_opposite 259 = .ok (.iload_n 1, 1) := by decide +kernel
theorem dX0_opposite_260 : decode cX0_opposite 260 = .ok (.iaload, 1) := by decide +kernel
theorem dX0_opposite_261 : decode cX0_opposite 261 = .ok (.ireturn, 1) := by decide +kernel
theorem dX0_joinKids_0 : decode cX0_joinKids 0 = .ok (.aload_n 0, 1) := by decide +kernel
theorem dX0_joinKids_1 : decode cX0_joinKids 1 = .ok (.iload_n 2, 1) := by decide +kernel
theorem dX0_joinKids_2 : decode cX0_joinKids 2 = .ok (.invokevirtual 64, 3) := by decide +kernel
theorem dX0_joinKids_5 : decode cX0_joinKids 5 = .ok (.iconst 0, 1) := by decide +kernel
theorem dX0_joinKids_6 : decode cX0_joinKids 6 = .ok (.istore_n 3, 1) := by decide +kernel
theorem dX0_joinKids_7 : decode cX0_joinKids 7 = .ok (.iload_n 3, 1) := by decide +kernel
theorem dX0_joinKids_8 : decode cX0_joinKids 8 = .ok (.aload_n 0, 1) := by decide +kernel
theorem dX0_joinKids_9 : decode cX0_joinKids 9 = .ok (.getfield 21, 3) := by decide +kernel
theorem dX0_joinKids_12 : decode cX0_joinKids 12 = .ok (.getfield 40, 3) := by decide +kernel
theorem dX0_joinKids_15 : decode cX0_joinKids 15 = .ok (.iload_n 1, 1) := by decide +kernel
theorem dX0_joinKids_16 : decode cX0_joinKids 16 = .ok (.iaload, 1) := by decide +kernel
theorem dX0_joinKids_17 : decode cX0_joinKids 17 = .ok (.if_icmp .ge 27, 3) := by decide +kernel
theorem dX0_joinKids_20 : decode cX0_joinKids 20 = .ok (.aload_n 0, 1) := by decide +kernel
theorem dX0_joinKids_21 : decode cX0_joinKids 21 = .ok (.aload_n 0, 1) := by decide +kernel
theorem dX0_joinKids_22 : decode cX0_joinKids 22 = .ok (.getfield 9, 3) := by decide +kernel
theorem dX0_joinKids_25 : decode cX0_joinKids 25 = .ok (.aload_n 0, 1) := by decide +kernel
theorem dX0_joinKids_26 : decode cX0_joinKids 26 = .ok (.getfield 21, 3) := by decide +kernel
theorem dX0_joinKids_29 : decode cX0_joinKids 29 = .ok (.iload_n 1, 1) := by decide +kernel
theorem dX0_joinKids_30 : decode cX0_joinKids 30 = .ok (.iload_n 3, 1) := by decide +kernel
theorem dX0_joinKids_31 : decode cX0_joinKids 31 = .ok (.invokevirtual 43, 3) := by decide +kernel
theorem dX0_joinKids_34 : decode cX0_joinKids 34 = .ok (.iaload, 1) := by decide +kernel
theorem dX0_joinKids_35 : decode cX0_joinKids 35 = .ok (.invokevirtual 68, 3) := by decide +kernel
theorem dX0_joinKids_38 : decode cX0_joinKids 38 = .ok (.iinc 3 1, 3) := by decide +kernel
theorem dX0_joinKids_41 : decode cX0_joinKids 41 = .ok (.goto (-34), 3) := by decide +kernel
theorem dX0_joinKids_44 : decode cX0_joinKids 44 = .ok (.aload_n 0, 1) := by decide +kernel
theorem dX0_joinKids_45 : decode cX0_joinKids 45 = .ok (.invokevirtual 71, 3) := by decide +kernel
theorem dX0_joinKids_48 : decode cX0_joinKids 48 = .ok (.ireturn, 1) := by decide +kernel
theorem dX1_init_0 : decode cX1_init 0 = .ok (.aload_n 0, 1) := by decide +kernel
theorem dX1_init_1 : decode cX1_init 1 = .ok (.invokespecial 3, 3) := by decide +kernel
theorem dX1_init_4 : decode cX1_init 4 = .ok (.aload_n 0, 1) := by decide +kernel
theorem dX1_init_5 : decode cX1_init 5 = .ok (.sipush 2048, 3) := by decide +kernel
theorem dX1_init_8 : decode cX1_init 8 = .ok (.newarray .int, 2) := by decide +kernel
theorem dX1_init_10 : decode cX1_init 10 = .ok (.putfield 9, 3) := by decide +kernel
theorem dX1_init_13 : decode cX1_init 13 = .ok (.aload_n 0, 1) := by decide +kernel
theorem dX1_init_14 : decode cX1_init 14 = .ok (.sipush 2048, 3) := by decide +kernel
theorem dX1_init_17 : decode cX1_init 17 = .ok (.newarray .int, 2) := by decide +kernel
theorem dX1_init_19 : decode cX1_init 19 = .ok (.putfield 15, 3) := by decide +kernel
theorem dX1_init_22 : decode cX1_init 22 = .ok (.aload_n 0, 1) := by decide +kernel
theorem dX1_init_23 : decode cX1_init 23 = .ok (.sipush 2048, 3) := by decide +kernel
theorem dX1_init_26 : decode cX1_init 26 = .ok (.newarray .int, 2) := by decide +kernel
theorem dX1_init_28 : decode cX1_init 28 = .ok (.putfield 18, 3) := by decide +kernel
theorem dX1_init_31 : decode cX1_init 31 = .ok (.aload_n 0, 1) := by decide +kernel
theorem dX1_init_32 : decode cX1_init 32 = .ok (.sipush 2048, 3) := by decide +kernel
theorem dX1_init_35 : decode cX1_init 35 = .ok (.newarray .int, 2) := by decide +kernel
theorem dX1_init_37 : decode cX1_init 37 = .ok (.putfield 21, 3) := by decide +kernel
theorem dX1_init_40 : decode cX1_init 40 = .ok (.aload_n 0, 1) := by decide +kernel
theorem dX1_init_41 : decode cX1_init 41 = .ok (.sipush 2048, 3) := by decide +kernel
theorem dX1_init_44 : decode cX1_init 44 = .ok (.newarray .int, 2) := by decide +kernel
theorem dX1_init_46 : decode cX1_init 46 = .ok (.putfield 24, 3) := by decide +kernel
theorem dX1_init_49 : decode cX1_init 49 = .ok (.aload_n 0, 1) := by decide +kernel
theorem dX1_init_50 : decode cX1_init 50 = .ok (.sipush 2048, 3) := by decide +kernel
theorem dX1_init_53 : decode cX1_init 53 = .ok (.newarray .boolean, 2) := by decide +kernel
theorem dX1_init_55 : decode cX1_init 55 = .ok (.putfield 27, 3) := by decide +kernel
theorem dX1_init_58 : decode cX1_init 58 = .ok (.aload_n 0, 1) := by decide +kernel
theorem dX1_init_59 : decode cX1_init 59 = .ok (.sipush 2048, 3) := by decide +kernel
theorem dX1_init_62 : decode cX1_init 62 = .ok (.newarray .char, 2) := by decide +kernel
theorem dX1_init_64 : decode cX1_init 64 = .ok (.putfield 31, 3) := by decide +kernel
theorem dX1_init_67 : decode cX1_init 67 = .ok (.aload_n 0, 1) := by decide +kernel
theorem dX1_init_68 : decode cX1_init 68 = .ok (.sipush 8192, 3) := by decide +kernel
theorem dX1_init_71 : decode cX1_init 71 = .ok (.newarray .int, 2) := by decide +kernel
theorem dX1_init_73 : decode cX1_init 73 = .ok (.putfield 35, 3) := by decide +kernel
theorem dX1_init_76 : decode cX1_init 76 = .ok (.aload_n 0, 1) := by decide +kernel
theorem dX1_init_77 : decode cX1_init 77 = .ok (.sipush 512, 3) := by decide +kernel
theorem dX1_init_80 : decode cX1_init 80 = .ok (.newarray .int, 2) := by decide +kernel
theorem dX1_init_82 : decode cX1_init 82 = .ok (.putfield 38, 3) := by decide +kernel
theorem dX1_init_85 : decode cX1_init 85 = .ok (.aload_n 0, 1) := by decide +kernel
theorem dX1_init_86 : decode cX1_init 86 = .ok (.sipush 2048, 3) := by decide +kernel
theorem dX1_init_89 : decode cX1_init 89 = .ok (.newarray .int, 2) := by decide +kernel
theorem dX1_init_91 : decode cX1_init 91 = .ok (.putfield 41, 3) := by decide +kernel
theorem dX1_init_94 : decode cX1_init 94 = .ok (.aload_n 0, 1) := by decide +kernel
theorem dX1_init_95 : decode cX1_init 95 = .ok (.sipush 2048, 3) := by decide +kernel
theorem dX1_init_98 : decode cX1_init 98 = .ok (.newarray .int, 2) := by decide +kernel
theorem dX1_init_100 : decode cX1_init 100 = .ok (.putfield 44, 3) := by decide +kernel
theorem dX1_init_103 : decode cX1_init 103 = .ok (.aload_n 0, 1) := by decide +kernel
theorem dX1_init_104 : decode cX1_init 104 = .ok (.bipush 16, 2) := by decide +kernel
theorem dX1_init_106 : decode cX1_init 106 = .ok (.putfield 47, 3) := by decide +kernel
theorem dX1_init_109 : decode cX1_init 109 = .ok (.iconst 0, 1) := by decide +kernel
theorem dX1_init_110 : decode cX1_init 110 = .ok (.istore_n 1, 1) := by decide +kernel
theorem dX1_init_111 : decode cX1_init 111 = .ok (.iload_n 1, 1) := by decide +kernel
theorem dX1_init_112 : decode cX1_init 112 = .ok (.bipush 16, 2) := by decide +kernel
theorem dX1_init_114 : decode cX1_init 114 = .ok (.if_icmp .ge 95, 3) := by decide +kernel
theorem dX1_init_117 : decode cX1_init 117 = .ok (.aload_n 0, 1) := by decide +kernel
theorem dX1_init_118 : decode cX1_init 118 = .ok (.getfield 9, 3) := by decide +kernel
theorem dX1_init_121 : decode cX1_init 121 = .ok (.iload_n 1, 1) := by decide +kernel
theorem dX1_init_122 : decode cX1_init 122 = .ok (.iload_n 1, 1) := by decide +kernel
theorem dX1_init_123 : decode cX1_init 123 = .ok (.iastore, 1) := by decide +kernel
theorem dX1_init_124 : decode cX1_init 124 = .ok (.aload_n 0, 1) := by decide +kernel
theorem dX1_init_125 : decode cX1_init 125 = .ok (.getfield 21, 3) := by decide +kernel
theorem dX1_init_128 : decode cX1_init 128 = .ok (.iload_n 1, 1) := by decide +kernel
theorem dX1_init_129 : decode cX1_init 129 = .ok (.iconst 1, 1) := by decide +kernel
theorem dX1_init_130 : decode cX1_init 130 = .ok (.iastore, 1) := by decide +kernel
theorem dX1_init_131 : decode cX1_init 131 = .ok (.aload_n 0, 1) := by decide +kernel
theorem dX1_init_132 : decode cX1_init 132 = .ok (.getfield 24, 3) := by decide +kernel
theorem dX1_init_135 : decode cX1_init 135 = .ok (.iload_n 1, 1) := by decide +kernel
theorem dX1_init_136 : decode cX1_init 136 = .ok (.iload_n 1, 1) := by decide +kernel
theorem dX1_init_137 : decode cX1_init 137 = .ok (.iconst 4, 1) := by decide +kernel
theorem dX1_init_138 : decode cX1_init 138 = .ok (.if_icmp .ge 7, 3) := by decide +kernel
theorem dX1_init_141 : decode cX1_init 141 = .ok (.iconst 0, 1) := by decide +kernel
theorem dX1_init_142 : decode cX1_init 142 = .ok (.goto 11, 3) := by decide +kernel
theorem dX1_init_145 : decode cX1_init 145 = .ok (.iconst 1, 1) := by decide +kernel
theorem dX1_init_146 : decode cX1_init 146 = .ok (.iload_n 1, 1) := by decide +kernel
theorem dX1_init_147 : decode cX1_init 147 = .ok (.iconst 4, 1) := by decide +kernel
theorem dX1_init_148 : decode cX1_init 148 = .ok (.isub, 1) := by decide +kernel
theorem dX1_init_149 : decode cX1_init 149 = .ok (.bipush 6, 2) := by decide +kernel
theorem dX1_init_151 : decode cX1_init 151 = .ok (.irem, 1) := by decide +kernel
theorem dX1_init_152 : decode cX1_init 152 = .ok (.ishl, 1) := by decide +kernel
theorem dX1_init_153 : decode cX1_init 153 = .ok (.iastore, 1) := by decide +kernel
theorem dX1_init_154 : decode cX1_init 154 = .ok (.aload_n 0, 1) := by decide +kernel
theorem dX1_init_155 : decode cX1_init 155 = .ok (.getfield 27, 3) := by decide +kernel
theorem dX1_init_158 : decode cX1_init 158 = .ok (.iload_n 1, 1) := by decide +kernel
theorem dX1_init_159 : decode cX1_init 159 = .ok (.iload_n 1, 1) := by decide +kernel
theorem dX1_init_160 : decode cX1_init 160 = .ok (.iconst 1, 1) := by decide +kernel
theorem dX1_init_161 : decode cX1_init 161 = .ok (.if_icmp .eq 14, 3) := by decide +kernel
theorem dX1_init_164 : decode cX1_init 164 = .ok (.iload_n 1, 1) := by decide +kernel
theorem dX1_init_165 : decode cX1_init 165 = .ok (.iconst 3, 1) := by decide +kernel
theorem dX1_init_166 : decode cX1_init 166 = .ok (.if_icmp .eq 9, 3) := by decide +kernel
theorem dX1_init_169 : decode cX1_init 169 = .ok (.iload_n 1, 1) := by decide +kernel
theorem dX1_init_170 : decode cX1_init 170 = .ok (.bipush 10, 2) := by decide +kernel
theorem dX1_init_172 : decode cX1_init 172 = .ok (.if_icmp .lt 7, 3) := by decide +kernel
theorem dX1_init_175 : decode cX1_init 175 = .ok (.iconst 1, 1) := by decide +kernel
theorem dX1_init_176 : decode cX1_init 176 = .ok (.goto 4, 3) := by decide +kernel
theorem dX1_init_179 : decode cX1_init 179 = .ok (.iconst 0, 1) := by decide +kernel
theorem dX1_init_180 : decode cX1_init 180 = .ok (.bastore, 1) := by decide +kernel
theorem dX1_init_181 : decode cX1_init 181 = .ok (.aload_n 0, 1) := by decide +kernel
theorem dX1_init_182 : decode cX1_init 182 = .ok (.getfield 31, 3) := by decide +kernel
theorem dX1_init_185 : decode cX1_init 185 = .ok (.iload_n 1, 1) := by decide +kernel
theorem dX1_init_186 : decode cX1_init 186 = .ok (.iload_n 1, 1) := by decide +kernel
theorem dX1_init_187 : decode cX1_init 187 = .ok (.bipush 10, 2) := by decide +kernel
theorem dX1_init_189 : decode cX1_init 189 = .ok (.if_icmp .lt 8, 3) := by decide +kernel
theorem dX1_init_192 : decode cX1_init 192 = .ok (.bipush 45, 2) := by decide +kernel
theorem dX1_init_194 : decode cX1_init 194 = .ok (.goto 8, 3) := by decide +kernel
theorem dX1_init_197 : decode cX1_init 197 = .ok (.getstatic 51, 3) := by decide +kernel
theorem dX1_init_200 : decode cX1_init 200 = .ok (.iload_n 1, 1) := by decide +kernel
theorem dX1_init_201 : decode cX1_init 201 = .ok (.caload, 1) := by decide +kernel
theorem dX1_init_202 : decode cX1_init 202 = .ok (.castore, 1) := by decide +kernel
theorem dX1_init_203 : decode cX1_init 203 = .ok (.iinc 1 1, 3) := by decide +kernel
theorem dX1_init_206 : decode cX1_init 206 = .ok (.goto (-95), 3) := by decide +kernel
theorem dX1_init_209 : decode cX1_init 209 = .ok (.return_, 1) := by decide +kernel
theorem dX1_kid_0 : decode cX1_kid 0 = .ok (.iload_n 2, 1) := by decide +kernel
theorem dX1_kid_1 : decode cX1_kid 1 = .ok (.ifCond .lt 29, 3) := by decide +kernel
theorem dX1_kid_4 : decode cX1_kid 4 = .ok (.iload_n 2, 1) := by decide +kernel
theorem dX1_kid_5 : decode cX1_kid 5 = .ok (.aload_n 0, 1) := by decide +kernel
theorem dX1_kid_6 : decode cX1_kid 6 = .ok (.getfield 18, 3) := by decide +kernel
theorem dX1_kid_9 : decode cX1_kid 9 = .ok (.iload_n 1, 1) := by decide +kernel
theorem dX1_kid_10 : decode cX1_kid 10 = .ok (.iaload, 1) := by decide +kernel
theorem dX1_kid_11 : decode cX1_kid 11 = .ok (.if_icmp .ge 19, 3) := by decide +kernel
theorem dX1_kid_14 : decode cX1_kid 14 = .ok (.aload_n 0, 1) := by decide +kernel
theorem dX1_kid_15 : decode cX1_kid 15 = .ok (.getfield 35, 3) := by decide +kernel
theorem dX1_kid_18 : decode cX1_kid 18 = .ok (.aload_n 0, 1) := by decide +kernel
theorem dX1_kid_19 : decode cX1_kid 19 = .ok (.getfield 15, 3) := by decide +kernel
theorem dX1_kid_22 : decode cX1_kid 22 = .ok (.iload_n 1, 1) := by decide +kernel
theorem dX1_kid_23 : decode cX1_kid 23 = .ok (.iaload, 1) := by decide +kernel
theorem dX1_kid_24 : decode cX1_kid 24 = .ok (.iload_n 2, 1) := by decide +kernel
theorem dX1_kid_25 : decode cX1_kid 25 = .ok (.iadd, 1) := by decide +kernel
theorem dX1_kid_26 : decode cX1_kid 26 = .ok (.iaload, 1) := by decide +kernel
theorem dX1_kid_27 : decode cX1_kid 27 = .ok (.goto 4, 3) := by decide +kernel
theorem dX1_kid_30 : decode cX1_kid 30 = .ok (.iconst 0, 1) := by decide +kernel
theorem dX1_kid_31 : decode cX1_kid 31 = .ok (.ireturn, 1) := by decide +kernel
theorem dX1_release_0 : decode cX1_release 0 = .ok (.aload_n 0, 1) := by decide +kernel
theorem dX1_release_1 : decode cX1_release 1 = .ok (.getfield 47, 3) := by decide +kernel
theorem dX1_release_4 : decode cX1_release 4 = .ok (.iconst 1, 1) := by decide +kernel
theorem dX1_release_5 : decode cX1_release 5 = .ok (.isub, 1) := by decide +kernel
theorem dX1_release_6 : decode cX1_release 6 = .ok (.istore_n 2, 1) := by decide +kernel
theorem dX1_release_7 : decode cX1_release 7 = .ok (.iload_n 2, 1) := by decide +kernel
theorem dX1_release_8 : decode cX1_release 8 = .ok (.iload_n 1, 1) := by decide +kernel
theorem dX1_release_9 : decode cX1_release 9 = .ok (.if_icmp .lt 47, 3) := by decide +kernel
theorem dX1_release_12 : decode cX1_release 12 = .ok (.iload_n 2, 1) := by decide +kernel
theorem dX1_release_13 : decode cX1_release 13 = .ok (.bipush 16, 2) := by decide +kernel
theorem dX1_release_15 : decode cX1_release 15 = .ok (.if_icmp .lt 41, 3) := by decide +kernel
theorem dX1_release_18 : decode cX1_release 18 = .ok (.aload_n 0, 1) := by decide +kernel
theorem dX1_release_19 : decode cX1_release 19 = .ok (.getfield 38, 3) := by decide +kernel
theorem dX1_release_22 : decode cX1_release 22 = .ok (.aload_n 0, 1) := by decide +kernel
theorem dX1_release_23 : decode cX1_release 23 = .ok (.getfield 44, 3) := by decide +kernel
theorem dX1_release_26 : decode cX1_release 26 = .ok (.iload_n 2, 1) := by decide +kernel
theorem dX1_release_27 : decode cX1_release 27 = .ok (.iaload, 1) := by decide +kernel
theorem dX1_release_28 : decode cX1_release 28 = .ok (.aload_n 0, 1) := by decide +kernel
theorem dX1_release_29 : decode cX1_release 29 = .ok (.getfield 41, 3) := by decide +kernel
theorem dX1_release_32 : decode cX1_release 32 = .ok (.iload_n 2, 1) := by decide +kernel
theorem dX1_release_33 : decode cX1_release 33 = .ok (.iaload, 1) := by decide +kernel
theorem dX1_release_34 : decode cX1_release 34 = .ok (.iastore, 1) := by decide +kernel
theorem dX1_release_35 : decode cX1_release 35 = .ok (.aload_n 0, 1) := by decide +kernel
theorem dX1_release_36 : decode cX1_release 36 = .ok (.aload_n 0, 1) := by decide +kernel
theorem dX1_release_37 : decode cX1_release 37 = .ok (.getfield 15, 3) := by decide +kernel
theorem dX1_release_40 : decode cX1_release 40 = .ok (.iload_n 2, 1) := by decide +kernel
theorem dX1_release_41 : decode cX1_release 41 = .ok (.iaload, 1) := by decide +kernel
theorem dX1_release_42 : decode cX1_release 42 = .ok (.putfield 54, 3) := by decide +kernel
theorem dX1_release_45 : decode cX1_release 45 = .ok (.aload_n 0, 1) := by decide +kernel
theorem dX1_release_46 : decode cX1_release 46 = .ok (.iload_n 2, 1) := by decide +kernel
theorem dX1_release_47 : decode cX1_release 47 = .ok (.putfield 47, 3) := by decide +kernel
theorem dX1_release_50 : decode cX1_release 50 = .ok (.iinc 2 (-1), 3) := by decide +kernel
theorem dX1_release_53 : decode cX1_release 53 = .ok (.goto (-46), 3) := by decide +kernel
theorem dX1_release_56 : decode cX1_release 56 = .ok (.return_, 1) := by decide +kernel
theorem dX1_make_0 : decode cX1_make 0 = .ok (.iload_n 3, 1) := by decide +kernel
theorem dX1_make_1 : decode cX1_make 1 = .ok (.ifCond .lt 12, 3) := by decide +kernel
theorem dX1_make_4 : decode cX1_make 4 = .ok (.iload 4, 2) := by decide +kernel
theorem dX1_make_6 : decode cX1_make 6 = .ok (.aload_n 2, 1) := by decide +kernel
theorem dX1_make_7 : decode cX1_make 7 = .ok (.arraylength, 1) := by decide +kernel
theorem dX1_make_8 : decode cX1_make 8 = .ok (.iload_n 3, 1) := by decide +kernel
theorem dX1_make_9 : decode cX1_make 9 = .ok (.isub, 1) := by decide +kernel
theorem dX1_make_10 : decode cX1_make 10 = .ok (.if_icmp .le 5, 3) := by decide +kernel
theorem dX1_make_13 : decode cX1_make 13 = .ok (.iconst 0, 1) := by decide +kernel
theorem dX1_make_14 : decode cX1_make 14 = .ok (.ireturn, 1) := by decide +kernel
theorem dX1_make_15 : decode cX1_make 15 = .ok (.iload_n 1, 1) := by decide +kernel
theorem dX1_make_16 : decode cX1_make 16 = .ok (.istore 5, 2) := by decide +kernel
theorem dX1_make_18 : decode cX1_make 18 = .ok (.iconst 0, 1) := by decide +kernel
theorem dX1_make_19 : decode cX1_make 19 = .ok (.istore 6, 2) := by decide +kernel
theorem dX1_make_21 : decode cX1_make 21 = .ok (.iload 6, 2) := by decide +kernel
theorem dX1_make_23 : decode cX1_make 23 = .ok (.iload 4, 2) := by decide +kernel
theorem dX1_make_25 : decode cX1_make 25 = .ok (.if_icmp .ge 23, 3) := by decide +kernel
theorem dX1_make_28 : decode cX1_make 28 = .ok (.iload 5, 2) := by decide +kernel
theorem dX1_make_30 : decode cX1_make 30 = .ok (.bipush 31, 2) := by decide +kernel
theorem dX1_make_32 : decode cX1_make 32 = .ok (.imul, 1) := by decide +kernel
theorem dX1_make_33 : decode cX1_make 33 = .ok (.aload_n 2, 1) := by decide +kernel
theorem dX1_make_34 : decode cX1_make 34 = .ok (.iload_n 3, 1) := by decide +kernel
theorem dX1_make_35 : decode cX1_make 35 = .ok (.iload 6, 2) := by decide +kernel
theorem dX1_make_37 : decode cX1_make 37 = .ok (.iadd, 1) := by decide +kernel
theorem dX1_make_38 : decode cX1_make 38 = .ok (.iaload, 1) := by decide +kernel
theorem dX1_make_39 : decode cX1_make 39 = .ok (.iadd, 1) := by decide +kernel
theorem dX1_make_40 : decode cX1_make 40 = .ok (.istore 5, 2) := by decide +kernel
theorem dX1_make_42 : decode cX1_make 42 = .ok (.iinc 6 1, 3) := by decide +kernel
theorem dX1_make_45 : decode cX1_make 45 = .ok (.goto (-24), 3) := by decide +kernel
theorem dX1_make_48 : decode cX1_make 48 = .ok (.iload 5, 2) := by decide +kernel
theorem dX1_make_50 : decode cX1_make 50 = .ok (.iload 5, 2) := by decide +kernel
theorem dX1_make_52 : decode cX1_make 52 = .ok (.bipush 9, 2) := by decide +kernel
theorem dX1_make_54 : decode cX1_make 54 = .ok (.iushr, 1) := by decide +kernel
theorem dX1_make_55 : decode cX1_make 55 = .ok (.ixor, 1) := by decide +kernel
theorem dX1_make_56 : decode cX1_make 56 = .ok (.sipush 511, 3) := by decide +kernel
theorem dX1_make_59 : decode cX1_make 59 = .ok (.iand, 1) := by decide +kernel
theorem dX1_make_60 : decode cX1_make 60 = .ok (.istore 6, 2) := by decide +kernel
theorem dX1_make_62 : decode cX1_make 62 = .ok (.aload_n 0, 1) := by decide +kernel
theorem dX1_make_63 : decode cX1_make 63 = .ok (.getfield 38, 3) := by decide +kernel
theorem dX1_make_66 : decode cX1_make 66 = .ok (.iload 6, 2) := by decide +kernel
theorem dX1_make_68 : decode cX1_make 68 = .ok (.iaload, 1) := by decide +kernel
theorem dX1_make_69 : decode cX1_make 69 = .ok (.istore 7, 2) := by decide +kernel
theorem dX1_make_71 : decode cX1_make 71 = .ok (.iconst 0, 1) := by decide +kernel
theorem dX1_make_72 : decode cX1_make 72 = .ok (.istore 8, 2) := by decide +kernel
theorem dX1_make_74 : decode cX1_make 74 = .ok (.iload 8, 2) := by decide +kernel
theorem dX1_make_76 : decode cX1_make 76 = .ok (.sipush 2048, 3) := by decide +kernel
theorem dX1_make_79 : decode cX1_make 79 = .ok (.if_icmp .ge 40, 3) := by decide +kernel
theorem dX1_make_82 : decode cX1_make 82 = .ok (.iload 7, 2) := by decide +kernel
theorem dX1_make_84 : decode cX1_make 84 = .ok (.ifCond .eq 35, 3) := by decide +kernel
theorem dX1_make_87 : decode cX1_make 87 = .ok (.aload_n 0, 1) := by decide +kernel
theorem dX1_make_88 : decode cX1_make 88 = .ok (.iload 7, 2) := by decide +kernel
theorem dX1_make_90 : decode cX1_make 90 = .ok (.iload_n 1, 1) := by decide +kernel
theorem dX1_make_91 : decode cX1_make 91 = .ok (.aload_n 2, 1) := by decide +kernel
theorem dX1_make_92 : decode cX1_make 92 = .ok (.iload_n 3, 1) := by decide +kernel
theorem dX1_make_93 : decode cX1_make 93 = .ok (.iload 4, 2) := by decide +kernel
theorem dX1_make_95 : decode cX1_make 95 = .ok (.invokevirtual 57, 3) := by decide +kernel
theorem dX1_make_98 : decode cX1_make 98 = .ok (.ifCond .eq 6, 3) := by decide +kernel
theorem dX1_make_101 : decode cX1_make 101 = .ok (.iload 7, 2) := by decide +kernel
theorem dX1_make_103 : decode cX1_make 103 = .ok (.ireturn, 1) := by decide +kernel
theorem dX1_make_104 : decode cX1_make 104 = .ok (.aload_n 0, 1) := by decide +kernel
theorem dX1_make_105 : decode cX1_make 105 = .ok (.getfield 41, 3) := by decide +kernel
theorem dX1_make_108 : decode cX1_make 108 = .ok (.iload 7, 2) := by decide +kernel
theorem dX1_make_110 : decode cX1_make 110 = .ok (.iaload, 1) := by decide +kernel
theorem dX1_make_111 : decode cX1_make 111 = .ok (.istore 7, 2) := by decide +kernel
theorem dX1_make_113 : decode cX1_make 113 = .ok (.iinc 8 1, 3) := by decide +kernel
theorem dX1_make_116 : decode cX1_make 116 = .ok (.goto (-42), 3) := by decide +kernel
theorem dX1_make_119 : decode cX1_make 119 = .ok (.aload_n 0, 1) := by decide +kernel
theorem dX1_make_120 : decode cX1_make 120 = .ok (.getfield 47, 3) := by decide +kernel
theorem dX1_make_123 : decode cX1_make 123 = .ok (.sipush 2048, 3) := by decide +kernel
theorem dX1_make_126 : decode cX1_make 126 = .ok (.if_icmp .ge 16, 3) := by decide +kernel
theorem dX1_make_129 : decode cX1_make 129 = .ok (.iload 4, 2) := by decide +kernel
theorem dX1_make_131 : decode cX1_make 131 = .ok (.sipush 8192, 3) := by decide +kernel
theorem dX1_make_134 : decode cX1_make 134 = .ok (.aload_n 0, 1) := by decide +kernel
theorem dX1_make_135 : decode cX1_make 135 = .ok (.getfield 54, 3) := by decide +kernel
theorem dX1_make_138 : decode cX1_make 138 = .ok (.isub, 1) := by decide +kernel
theorem dX1_make_139 : decode cX1_make 139 = .ok (.if_icmp .le 5, 3) := by decide +kernel
theorem dX1_make_142 : decode cX1_make 142 = .ok (.iconst 0, 1) := by decide +kernel
theorem dX1_make_143 : decode cX1_make 143 = .ok (.ireturn, 1) := by decide +kernel
theorem dX1_make_144 : decode cX1_make 144 = .ok (.aload_n 0, 1) := by decide +kernel
theorem dX1_make_145 : decode cX1_make 145 = .ok (.getfield 47, 3) := by decide +kernel
theorem dX1_make_148 : decode cX1_make 148 = .ok (.istore 8, 2) := by decide +kernel
theorem dX1_make_150 : decode cX1_make 150 = .ok (.aload_n 0, 1) := by decide +kernel
theorem dX1_make_151 : decode cX1_make 151 = .ok (.dup, 1) := by decide +kernel
theorem dX1_make_152 : decode cX1_make 152 = .ok (.getfield 47, 3) := by decide +kernel
theorem dX1_make_155 : decode cX1_make 155 = .ok (.iconst 1, 1) := by decide +kernel
theorem dX1_make_156 : decode cX1_make 156 = .ok (.iadd, 1) := by decide +kernel
theorem dX1_make_157 : decode cX1_make 157 = .ok (.putfield 47, 3) := by decide +kernel
theorem dX1_make_160 : decode cX1_make 160 = .ok (.aload_n 0, 1) := by decide +kernel
theorem dX1_make_161 : decode cX1_make 161 = .ok (.getfield 44, 3) := by decide +kernel
theorem dX1_make_164 : decode cX1_make 164 = .ok (.iload 8, 2) := by decide +kernel
theorem dX1_make_166 : decode cX1_make 166 = .ok (.iload 6, 2) := by decide +kernel
theorem dX1_make_168 : decode cX1_make 168 = .ok (.iastore, 1) := by decide +kernel
theorem dX1_make_169 : decode cX1_make 169 = .ok (.aload_n 0, 1) := by decide +kernel
theorem dX1_make_170 : decode cX1_make 170 = .ok (.getfield 41, 3) := by decide +kernel
theorem dX1_make_173 : decode cX1_make 173 = .ok (.iload 8, 2) := by decide +kernel
theorem dX1_make_175 : decode cX1_make 175 = .ok (.aload_n 0, 1) := by decide +kernel
theorem dX1_make_176 : decode cX1_make 176 = .ok (.getfield 38, 3) := by decide +kernel
theorem dX1_make_179 : decode cX1_make 179 = .ok (.iload 6, 2) := by decide +kernel
theorem dX1_make_181 : decode cX1_make 181 = .ok (.iaload, 1) := by decide +kernel
theorem dX1_make_182 : decode cX1_make 182 = .ok (.iastore, 1) := by decide +kernel
theorem dX1_make_183 : decode cX1_make 183 = .ok (.aload_n 0, 1) := by decide +kernel
theorem dX1_make_184 : decode cX1_make 184 = .ok (.getfield 38, 3) := by decide +kernel
theorem dX1_make_187 : decode cX1_make 187 = .ok (.iload 6, 2) := by decide +kernel
theorem dX1_make_189 : decode cX1_make 189 = .ok (.iload 8, 2) := by decide +kernel
theorem dX1_make_191 : decode cX1_make 191 = .ok (.iastore, 1) := by decide +kernel
theorem dX1_make_192 : decode cX1_make 192 = .ok (.aload_n 0, 1) := by decide +kernel
theorem dX1_make_193 : decode cX1_make 193 = .ok (.getfield 9, 3) := by decide +kernel
theorem dX1_make_196 : decode cX1_make 196 = .ok (.iload 8, 2) := by decide +kernel
theorem dX1_make_198 : decode cX1_make 198 = .ok (.iload_n 1, 1) := by decide +kernel
theorem dX1_make_199 : decode cX1_make 199 = .ok (.iastore, 1) := by decide +kernel
theorem dX1_make_200 : decode cX1_make 200 = .ok (.aload_n 0, 1) := by decide +kernel
theorem dX1_make_201 : decode cX1_make 201 = .ok (.getfield 15, 3) := by decide +kernel
theorem dX1_make_204 : decode cX1_make 204 = .ok (.iload 8, 2) := by decide +kernel
theorem dX1_make_206 : decode cX1_make 206 = .ok (.aload_n 0, 1) := by decide +kernel
theorem dX1_make_207 : decode cX1_make 207 = .ok (.getfield 54, 3) := by decide +kernel
theorem dX1_make_210 : decode cX1_make 210 = .ok (.iastore, 1) := by decide +kernel
theorem dX1_make_211 : decode cX1_make 211 = .ok (.aload_n 0, 1) := by decide +kernel
theorem dX1_make_212 : decode cX1_make 212 = .ok (.getfield 18, 3) := by decide +kernel
theorem dX1_make_215 : decode cX1_make 215 = .ok (.iload 8, 2) := by decide +kernel
theorem dX1_make_217 : decode cX1_make 217 = .ok (.iload 4, 2) := by decide +kernel
theorem dX1_make_219 : decode cX1_make 219 = .ok (.iastore, 1) := by decide +kernel
theorem dX1_make_220 : decode cX1_make 220 = .ok (.aload_n 2, 1) := by decide +kernel
theorem dX1_make_221 : decode cX1_make 221 = .ok (.iload_n 3, 1) := by decide +kernel
theorem dX1_make_222 : decode cX1_make 222 = .ok (.aload_n 0, 1) := by decide +kernel
theorem dX1_make_223 : decode cX1_make 223 = .ok (.getfield 35, 3) := by decide +kernel
theorem dX1_make_226 : decode cX1_make 226 = .ok (.aload_n 0, 1) := by decide +kernel
theorem dX1_make_227 : decode cX1_make 227 = .ok (.getfield 54, 3) := by decide +kernel
theorem dX1_make_230 : decode cX1_make 230 = .ok (.iload 4, 2) := by decide +kernel
theorem dX1_make_232 : decode cX1_make 232 = .ok (.invokestatic 61, 3) := by decide +kernel
theorem dX1_make_235 : decode cX1_make 235 = .ok (.aload_n 0, 1) := by decide +kernel
theorem dX1_make_236 : decode cX1_make 236 = .ok (.dup, 1) := by decide +kernel
theorem dX1_make_237 : decode cX1_make 237 = .ok (.getfield 54, 3) := by decide +kernel
theorem dX1_make_240 : decode cX1_make 240 = .ok (.iload 4, 2) := by decide +kernel
theorem dX1_make_242 : decode cX1_make 242 = .ok (.iadd, 1) := by decide +kernel
theorem dX1_make_243 : decode cX1_make 243 = .ok (.putfield 54, 3) := by decide +kernel
theorem dX1_make_246 : decode cX1_make 246 = .ok (.aload_n 0, 1) := by decide +kernel
theorem dX1_make_247 : decode cX1_make 247 = .ok (.iload 8, 2) := by decide +kernel
theorem dX1_make_249 : decode cX1_make 249 = .ok (.invokevirtual 67, 3) := by decide +kernel
theorem dX1_make_252 : decode cX1_make 252 = .ok (.iload 8, 2) := by decide +kernel
theorem dX1_make_254 : decode cX1_make 254 = .ok (.ireturn, 1) := by decide +kernel
theorem dX1_isMadeOf_0 : decode cX1_isMadeOf 0 = .ok (.aload_n 0, 1) := by decide +kernel
theorem dX1_isMadeOf_1 : decode cX1_isMadeOf 1 = .ok (.getfield 9, 3) := by decide +kernel
theorem dX1_isMadeOf_4 : decode cX1_isMadeOf 4 = .ok (.iload_n 1, 1) := by decide +kernel
theorem dX1_isMadeOf_5 : decode cX1_isMadeOf 5 = .ok (.iaload, 1) := by decide +kernel
theorem dX1_isMadeOf_6 : decode cX1_isMadeOf 6 = .ok (.iload_n 2, 1) := by decide +kernel
theorem dX1_isMadeOf_7 : decode cX1_isMadeOf 7 = .ok (.if_icmp .ne 14, 3) := by decide +kernel
theorem dX1_isMadeOf_10 : decode cX1_isMadeOf 10 = .ok (.aload_n 0, 1) := by decide +kernel
theorem dX1_isMadeOf_11 : decode cX1_isMadeOf 11 = .ok (.getfield 18, 3) := by decide +kernel
theorem dX1_isMadeOf_14 : decode cX1_isMadeOf 14 = .ok (.iload_n 1, 1) := by decide +kernel
theorem dX1_isMadeOf_15 : decode cX1_isMadeOf 15 = .ok (.iaload, 1) := by decide +kernel
theorem dX1_isMadeOf_16 : decode cX1_isMadeOf 16 = .ok (.iload 5, 2) := by decide +kernel
theorem dX1_isMadeOf_18 : decode cX1_isMadeOf 18 = .ok (.if_icmp .eq 5, 3) := by decide +kernel
theorem dX1_isMadeOf_21 : decode cX1_isMadeOf 21 = .ok (.iconst 0, 1) := by decide +kernel
theorem dX1_isMadeOf_22 : decode cX1_isMadeOf 22 = .ok (.ireturn, 1) := by decide +kernel
theorem dX1_isMadeOf_23 : decode cX1_isMadeOf 23 = .ok (.iconst 0, 1) := by decide +kernel
theorem dX1_isMadeOf_24 : decode cX1_isMadeOf 24 = .ok (.istore 6, 2) := by decide +kernel
theorem dX1_isMadeOf_26 : decode cX1_isMadeOf 26 = .ok (.iload 6, 2) := by decide +kernel
theorem dX1_isMadeOf_28 : decode cX1_isMadeOf 28 = .ok (.iload 5, 2) := by decide +kernel
theorem dX1_isMadeOf_30 : decode cX1_isMadeOf 30 = .ok (.if_icmp .ge 35, 3) := by decide +kernel
theorem dX1_isMadeOf_33 : decode cX1_isMadeOf 33 = .ok (.aload_n 0, 1) := by decide +kernel
theorem dX1_isMadeOf_34 : decode cX1_isMadeOf 34 = .ok (.getfield 35, 3) := by decide +kernel
theorem dX1_isMadeOf_37 : decode cX1_isMadeOf 37 = .ok (.aload_n 0, 1) := by decide +kernel
theorem dX1_isMadeOf_38 : decode cX1_isMadeOf 38 = .ok (.getfield 15, 3) := by decide +kernel
theorem dX1_isMadeOf_41 : decode cX1_isMadeOf 41 = .ok (.iload_n 1, 1) := by decide +kernel
theorem dX1_isMadeOf_42 : decode cX1_isMadeOf 42 = .ok (.iaload, 1) := by decide +kernel
theorem dX1_isMadeOf_43 : decode cX1_isMadeOf 43 = .ok (.iload 6, 2) := by decide +kernel
theorem dX1_isMadeOf_45 : decode cX1_isMadeOf 45 = .ok (.iadd, 1) := by decide +kernel
theorem dX1_isMadeOf_46 : decode cX1_isMadeOf 46 = .ok (.iaload, 1) := by decide +kernel
theorem dX1_isMadeOf_47 : decode cX1_isMadeOf 47 = .ok (.aload_n 3, 1) := by decide +kernel
theorem dX1_isMadeOf_48 : decode cX1_isMadeOf 48 = .ok (.iload 4, 2) := by decide +kernel
theorem dX1_isMadeOf_50 : decode cX1_isMadeOf 50 = .ok (.iload 6, 2) := by decide +kernel
theorem dX1_isMadeOf_52 : decode cX1_isMadeOf 52 = .ok (.iadd, 1) := by decide +kernel
theorem dX1_isMadeOf_53 : decode cX1_isMadeOf 53 = .ok (.iaload, 1) := by decide +kernel
theorem dX1_isMadeOf_54 : decode cX1_isMadeOf 54 = .ok (.if_icmp .eq 5, 3) := by decide +kernel
theorem dX1_isMadeOf_57 : decode cX1_isMadeOf 57 = .ok (.iconst 0, 1) := by decide +kernel
theorem dX1_isMadeOf_58 : decode cX1_isMadeOf 58 = .ok (.ireturn, 1) := by decide +kernel
theorem dX1_isMadeOf_59 : decode cX1_isMadeOf 59 = .ok (.iinc 6 1, 3) := by decide +kernel
theorem dX1_isMadeOf_62 : decode cX1_isMadeOf 62 = .ok (.goto (-36), 3) := by decide +kernel
theorem dX1_isMadeOf_65 : decode cX1_isMadeOf 65 = .ok (.iconst 1, 1) := by decide +kernel
theorem dX1_isMadeOf_66 : decode cX1_isMadeOf 66 = .ok (.ireturn, 1) := by decide +kernel
theorem dX1_describe_0 : decode cX1_describe 0 = .ok (.aload_n 0, 1) := by decide +kernel
theorem dX1_describe_1 : decode cX1_describe 1 = .ok (.getfield 9, 3) := by decide +kernel
theorem dX1_describe_4 : decode cX1_describe 4 = .ok (.iload_n 1, 1) := by decide +kernel
theorem dX1_describe_5 : decode cX1_describe 5 = .ok (.iaload, 1) := by decide +kernel
theorem dX1_describe_6 : decode cX1_describe 6 = .ok (.istore_n 2, 1) := by decide +kernel
theorem dX1_describe_7 : decode cX1_describe 7 = .ok (.iconst 1, 1) := by decide +kernel
theorem dX1_describe_8 : decode cX1_describe 8 = .ok (.istore_n 3, 1) := by decide +kernel
theorem dX1_describe_9 : decode cX1_describe 9 = .ok (.iconst 0, 1) := by decide +kernel
theorem dX1_describe_10 : decode cX1_describe 10 = .ok (.istore 4, 2) := by decide +kernel
theorem dX1_describe_12 : decode cX1_describe 12 = .ok (.iconst 1, 1) := by decide +kernel
theorem dX1_describe_13 : decode cX1_describe 13 = .ok (.istore 5, 2) := by decide +kernel
theorem dX1_describe_15 : decode cX1_describe 15 = .ok (.iconst 0, 1) := by decide +kernel
theorem dX1_describe_16 : decode cX1_describe 16 = .ok (.istore 6, 2) := by decide +kernel
theorem dX1_describe_18 : decode cX1_describe 18 = .ok (.aload_n 0, 1) := by decide +kernel
theorem dX1_describe_19 : decode cX1_describe 19 = .ok (.getfield 15, 3) := by decide +kernel
theorem dX1_describe_22 : decode cX1_describe 22 = .ok (.iload_n 1, 1) := by decide +kernel
theorem dX1_describe_23 : decode cX1_describe 23 = .ok (.iaload, 1) := by decide +kernel
theorem dX1_describe_24 : decode cX1_describe 24 = .ok (.istore 7, 2) := by decide +kernel
theorem dX1_describe_26 : decode cX1_describe 26 = .ok (.iload 7, 2) := by decide +kernel
theorem dX1_describe_28 : decode cX1_describe 28 = .ok (.aload_n 0, 1) := by decide +kernel
theorem dX1_describe_29 : decode cX1_describe 29 = .ok (.getfield 54, 3) := by decide +kernel
theorem dX1_describe_32 : decode cX1_describe 32 = .ok (.if_icmp .ge 84, 3) := by decide +kernel
theorem dX1_describe_35 : decode cX1_describe 35 = .ok (.aload_n 0, 1) := by decide +kernel
theorem dX1_describe_36 : decode cX1_describe 36 = .ok (.getfield 35, 3) := by decide +kernel
theorem dX1_describe_39 : decode cX1_describe 39 = .ok (.iload 7, 2) := by decide +kernel
theorem dX1_describe_41 : decode cX1_describe 41 = .ok (.iaload, 1) := by decide +kernel
theorem dX1_describe_42 : decode cX1_describe 42 = .ok (.istore 8, 2) := by decide +kernel
theorem dX1_describe_44 : decode cX1_describe 44 = .ok (.iload_n 3, 1) := by decide +kernel
theorem dX1_describe_45 : decode cX1_describe 45 = .ok (.aload_n 0, 1) := by decide +kernel
theorem dX1_describe_46 : decode cX1_describe 46 = .ok (.getfield 21, 3) := by decide +kernel
theorem dX1_describe_49 : decode cX1_describe 49 = .ok (.iload 8, 2) := by decide +kernel
theorem dX1_describe_51 : decode cX1_describe 51 = .ok (.iaload, 1) := by decide +kernel
theorem dX1_describe_52 : decode cX1_describe 52 = .ok (.iadd, 1) := by decide +kernel
theorem dX1_describe_53 : decode cX1_describe 53 = .ok (.istore_n 3, 1) := by decide +kernel
theorem dX1_describe_54 : decode cX1_describe 54 = .ok (.iload 4, 2) := by decide +kernel
theorem dX1_describe_56 : decode cX1_describe 56 = .ok (.aload_n 0, 1) := by decide +kernel
theorem dX1_describe_57 : decode cX1_describe 57 = .ok (.getfield 24, 3) := by decide +kernel
theorem dX1_describe_60 : decode cX1_describe 60 = .ok (.iload 8, 2) := by decide +kernel
theorem dX1_describe_62 : decode cX1_describe 62 = .ok (.iaload, 1) := by decide +kernel
theorem dX1_describe_63 : decode cX1_describe 63 = .ok (.ior, 1) := by decide +kernel
theorem dX1_describe_64 : decode cX1_describe 64 = .ok (.istore 4, 2) := by decide +kernel
theorem dX1_describe_66 : decode cX1_describe 66 = .ok (.iload 5, 2) := by decide +kernel
theorem dX1_describe_68 : decode cX1_describe 68 = .ok (.ifCond .eq 17, 3) := by decide +kernel
theorem dX1_describe_71 : decode cX1_describe 71 = .ok (.aload_n 0, 1) := by decide +kernel
theorem dX1_describe_72 : decode cX1_describe 72 = .ok (.getfield 27, 3) := by decide +kernel
theorem dX1_describe_75 : decode cX1_describe 75 = .ok (.iload 8, 2) := by decide +kernel
theorem dX1_describe_77 : decode cX1_describe 77 = .ok (.baload, 1) := by decide +kernel
theorem dX1_describe_78 : decode cX1_describe 78 = .ok (.ifCond .eq 7, 3) := by decide +kernel
theorem dX1_describe_81 : decode cX1_describe 81 = .ok (.iconst 1, 1) := by decide +kernel
theorem dX1_describe_82 : decode cX1_describe 82 = .ok (.goto 4, 3) := by decide +kernel
theorem dX1_describe_85 : decode cX1_describe 85 = .ok (.iconst 0, 1) := by decide +kernel
theorem dX1_describe_86 : decode cX1_describe 86 = .ok (.istore 5, 2) := by decide +kernel
theorem dX1_describe_88 : decode cX1_describe 88 = .ok (.iload 6, 2) := by decide +kernel
theorem dX1_describe_90 : decode cX1_describe 90 = .ok (.ifCond .ne 13, 3) := by decide +kernel
theorem dX1_describe_93 : decode cX1_describe 93 = .ok (.aload_n 0, 1) := by decide +kernel
theorem dX1_describe_94 : decode cX1_describe 94 = .ok (.getfield 27, 3) := by decide +kernel
theorem dX1_describe_97 : decode cX1_describe 97 = .ok (.iload 8, 2) := by decide +kernel
theorem dX1_describe_99 : decode cX1_describe 99 = .ok (.baload, 1) := by decide +kernel
theorem dX1_describe_100 : decode cX1_describe 100 = .ok (.ifCond .eq 7, 3) := by decide +kernel
theorem dX1_describe_103 : decode cX1_describe 103 = .ok (.iconst 1, 1) := by decide +kernel
theorem dX1_describe_104 : decode cX1_describe 104 = .ok (.goto 4, 3) := by decide +kernel
theorem dX1_describe_107 : decode cX1_describe 107 = .ok (.iconst 0, 1) := by decide +kernel
theorem dX1_describe_108 : decode cX1_describe 108 = .ok (.istore 6, 2) := by decide +kernel
theorem dX1_describe_110 : decode cX1_describe 110 = .ok (.iinc 7 1, 3) := by decide +kernel
theorem dX1_describe_113 : decode cX1_describe 113 = .ok (.goto (-87), 3) := by decide +kernel
theorem dX1_describe_116 : decode cX1_describe 116 = .ok (.aload_n 0, 1) := by decide +kernel
theorem dX1_describe_117 : decode cX1_describe 117 = .ok (.getfield 21, 3) := by decide +kernel
theorem dX1_describe_120 : decode cX1_describe 120 = .ok (.iload_n 1, 1) := by decide +kernel
theorem dX1_describe_121 : decode cX1_describe 121 = .ok (.iload_n 3, 1) := by decide +kernel
theorem dX1_describe_122 : decode cX1_describe 122 = .ok (.iastore, 1) := by decide +kernel
theorem dX1_describe_123 : decode cX1_describe 123 = .ok (.aload_n 0, 1) := by decide +kernel
theorem dX1_describe_124 : decode cX1_describe 124 = .ok (.getfield 24, 3) := by decide +kernel
theorem dX1_describe_127 : decode cX1_describe 127 = .ok (.iload_n 1, 1) := by decide +kernel
theorem dX1_describe_128 : decode cX1_describe 128 = .ok (.iload 4, 2) := by decide +kernel
theorem dX1_describe_130 : decode cX1_describe 130 = .ok (.iastore, 1) := by decide +kernel
theorem dX1_describe_131 : decode cX1_describe 131 = .ok (.aload_n 0, 1) := by decide +kernel
theorem dX1_describe_132 : decode cX1_describe 132 = .ok (.getfield 31, 3) := by decide +kernel
theorem dX1_describe_135 : decode cX1_describe 135 = .ok (.iload_n 1, 1) := by decide +kernel
theorem dX1_describe_136 : decode cX1_describe 136 = .ok (.iload_n 2, 1) := by decide +kernel
theorem dX1_describe_137 : decode cX1_describe 137 = .ok (.bipush 16, 2) := by decide +kernel
theorem dX1_describe_139 : decode cX1_describe 139 = .ok (.if_icmp .ne 8, 3) := by decide +kernel
theorem dX1_describe_142 : decode cX1_describe 142 = .ok (.bipush 88, 2) := by decide +kernel
theorem dX1_describe_144 : decode cX1_describe 144 = .ok (.goto 16, 3) := by decide +kernel
theorem dX1_describe_147 : decode cX1_describe 147 = .ok (.iload_n 2, 1) := by decide +kernel
theorem dX1_describe_148 : decode cX1_describe 148 = .ok (.bipush 17, 2) := by decide +kernel
theorem dX1_describe_150 : decode cX1_describe 150 = .ok (.if_icmp .ne 8, 3) := by decide +kernel
theorem dX1_describe_153 : decode cX1_describe 153 = .ok (.bipush 78, 2) := by decide +kernel
theorem dX1_describe_155 : decode cX1_describe 155 = .ok (.goto 5, 3) := by decide +kernel
theorem dX1_describe_158 : decode cX1_describe 158 = .ok (.bipush 40, 2) := by decide +kernel
theorem dX1_describe_160 : decode cX1_describe 160 = .ok (.castore, 1) := by decide +kernel
theorem dX1_describe_161 : decode cX1_describe 161 = .ok (.aload_n 0, 1) := by decide +kernel
theorem dX1_describe_162 : decode cX1_describe 162 = .ok (.getfield 27, 3) := by decide +kernel
theorem dX1_describe_165 : decode cX1_describe 165 = .ok (.iload_n 1, 1) := by decide +kernel
theorem dX1_describe_166 : decode cX1_describe 166 = .ok (.iload_n 2, 1) := by decide +kernel
theorem dX1_describe_167 : decode cX1_describe 167 = .ok (.bipush 17, 2) := by decide +kernel
theorem dX1_describe_169 : decode cX1_describe 169 = .ok (.if_icmp .eq 31, 3) := by decide +kernel
theorem dX1_describe_172 : decode cX1_describe 172 = .ok (.iload_n 2, 1) := by decide +kernel
theorem dX1_describe_173 : decode cX1_describe 173 = .ok (.bipush 19, 2) := by decide +kernel
theorem dX1_describe_175 : decode cX1_describe 175 = .ok (.if_icmp .eq 25, 3) := by decide +kernel
theorem dX1_describe_178 : decode cX1_describe 178 = .ok (.iload_n 2, 1) := by decide +kernel
theorem dX1_describe_179 : decode cX1_describe 179 = .ok (.bipush 20, 2) := by decide +kernel
theorem dX1_describe_181 : decode cX1_describe 181 = .ok (.if_icmp .ne 8, 3) := by decide +kernel
theorem dX1_describe_184 : decode cX1_describe 184 = .ok (.iload 5, 2) := by decide +kernel
theorem dX1_describe_186 : decode cX1_describe 186 = .ok (.ifCond .ne 14, 3) := by decide +kernel
theorem dX1_describe_189 : decode cX1_describe 189 = .ok (.iload_n 2, 1) := by decide +kernel
theorem dX1_describe_190 : decode cX1_describe 190 = .ok (.bipush 21, 2) := by decide +kernel
theorem dX1_describe_192 : decode cX1_describe 192 = .ok (.if_icmp .ne 12, 3) := by decide +kernel
theorem dX1_describe_195 : decode cX1_describe 195 = .ok (.iload 6, 2) := by decide +kernel
theorem dX1_describe_197 : decode cX1_describe 197 = .ok (.ifCond .eq 7, 3) := by decide +kernel
theorem dX1_describe_200 : decode cX1_describe 200 = .ok (.iconst 1, 1) := by decide +kernel
theorem dX1_describe_201 : decode cX1_describe 201 = .ok (.goto 4, 3) := by decide +kernel
theorem dX1_describe_204 : decode cX1_describe 204 = .ok (.iconst 0, 1) := by decide +kernel
theorem dX1_describe_205 : decode cX1_describe 205 = .ok (.bastore, 1) := by decide +kernel
theorem dX1_describe_206 : decode cX1_describe 206 = .ok (.return_, 1) := by decide +kernel
theorem dX1_order_0 : decode cX1_order 0 = .ok (.iload_n 1, 1) := by decide +kernel
theorem dX1_order_1 : decode cX1_order 1 = .ok (.istore_n 3, 1) := by decide +kernel
theorem dX1_order_2 : decode cX1_order 2 = .ok (.iload_n 2, 1) := by decide +kernel
theorem dX1_order_3 : decode cX1_order 3 = .ok (.istore 4, 2) := by decide +kernel
theorem dX1_order_5 : decode cX1_order 5 = .ok (.iconst 0, 1) := by decide +kernel
theorem dX1_order_6 : decode cX1_order 6 = .ok (.istore 5, 2) := by decide +kernel
theorem dX1_order_8 : decode cX1_order 8 = .ok (.iload 5, 2) := by decide +kernel
theorem dX1_order_10 : decode cX1_order 10 = .ok (.sipush 2048, 3) := by decide +kernel
theorem dX1_order_13 : decode cX1_order 13 = .ok (.if_icmp .ge 293, 3) := by decide +kernel
theorem dX1_order_16 : decode cX1_order 16 = .ok (.iload_n 3, 1) := by decide +kernel
theorem dX1_order_17 : decode cX1_order 17 = .ok (.iload 4, 2) := by decide +kernel
theorem dX1_order_19 : decode cX1_order 19 = .ok (.if_icmp .eq 287, 3) := by decide +kernel
theorem dX1_order_22 : decode cX1_order 22 = .ok (.aload_n 0, 1) := by decide +kernel
theorem dX1_order_23 : decode cX1_order 23 = .ok (.getfield 31, 3) := by decide +kernel
theorem dX1_order_26 : decode cX1_order 26 = .ok (.iload_n 3, 1) := by decide +kernel
theorem dX1_order_27 : decode cX1_order 27 = .ok (.caload, 1) := by decide +kernel
theorem dX1_order_28 : decode cX1_order 28 = .ok (.aload_n 0, 1) := by decide +kernel
theorem dX1_order_29 : decode cX1_order 29 = .ok (.getfield 31, 3) := by decide +kernel
theorem dX1_order_32 : decode cX1_order 32 = .ok (.iload 4, 2) := by decide +kernel
theorem dX1_order_34 : decode cX1_order 34 = .ok (.caload, 1) := by decide +kernel
theorem dX1_order_35 : decode cX1_order 35 = .ok (.if_icmp .eq 18, 3) := by decide +kernel
theorem dX1_order_38 : decode cX1_order 38 = .ok (.aload_n 0, 1) := by decide +kernel
theorem dX1_order_39 : decode cX1_order 39 = .ok (.getfield 31, 3) := by decide +kernel
theorem dX1_order_42 : decode cX1_order 42 = .ok (.iload_n 3, 1) := by decide +kernel
theorem dX1_order_43 : decode cX1_order 43 = .ok (.caload, 1) := by decide +kernel
theorem dX1_order_44 : decode cX1_order 44 = .ok (.aload_n 0, 1) := by decide +kernel
theorem dX1_order_45 : decode cX1_order 45 = .ok (.getfield 31, 3) := by decide +kernel
theorem dX1_order_48 : decode cX1_order 48 = .ok (.iload 4, 2) := by decide +kernel
theorem dX1_order_50 : decode cX1_order 50 = .ok (.caload, 1) := by decide +kernel
theorem dX1_order_51 : decode cX1_order 51 = .ok (.isub, 1) := by decide +kernel
theorem dX1_order_52 : decode cX1_order 52 = .ok (.ireturn, 1) := by decide +kernel
theorem dX1_order_53 : decode cX1_order 53 = .ok (.iload_n 3, 1) := by decide +kernel
theorem dX1_order_54 : decode cX1_order 54 = .ok (.bipush 16, 2) := by decide +kernel
theorem dX1_order_56 : decode cX1_order 56 = .ok (.if_icmp .lt 10, 3) := by decide +kernel
theorem dX1_order_59 : decode cX1_order 59 = .ok (.iload 4, 2) := by decide +kernel
theorem dX1_order_61 : decode cX1_order 61 = .ok (.bipush 16, 2) := by decide +kernel
theorem dX1_order_63 : decode cX1_order 63 = .ok (.if_icmp .ge 8, 3) := by decide +kernel
theorem dX1_order_66 : decode cX1_order 66 = .ok (.iload_n 3, 1) := by decide +kernel
theorem dX1_order_67 : decode cX1_order 67 = .ok (.iload 4, 2) := by decide +kernel
theorem dX1_order_69 : decode cX1_order 69 = .ok (.isub, 1) := by decide +kernel
theorem dX1_order_70 : decode cX1_order 70 = .ok (.ireturn, 1) := by decide +kernel
theorem dX1_order_71 : decode cX1_order 71 = .ok (.aload_n 0, 1) := by decide +kernel
theorem dX1_order_72 : decode cX1_order 72 = .ok (.getfield 18, 3) := by decide +kernel
theorem dX1_order_75 : decode cX1_order 75 = .ok (.iload_n 3, 1) := by decide +kernel
theorem dX1_order_76 : decode cX1_order 76 = .ok (.iaload, 1) := by decide +kernel
theorem dX1_order_77 : decode cX1_order 77 = .ok (.aload_n 0, 1) := by decide +kernel
theorem dX1_order_78 : decode cX1_order 78 = .ok (.getfield 18, 3) := by decide +kernel
theorem dX1_order_81 : decode cX1_order 81 = .ok (.iload 4, 2) := by decide +kernel
theorem dX1_order_83 : decode cX1_order 83 = .ok (.iaload, 1) := by decide +kernel
theorem dX1_order_84 : decode cX1_order 84 = .ok (.if_icmp .ge 12, 3) := by decide +kernel
theorem dX1_order_87 : decode cX1_order 87 = .ok (.aload_n 0, 1) := by decide +kernel
theorem dX1_order_88 : decode cX1_order 88 = .ok (.getfield 18, 3) := by decide +kernel
theorem dX1_order_91 : decode cX1_order 91 = .ok (.iload_n 3, 1) := by decide +kernel
theorem dX1_order_92 : decode cX1_order 92 = .ok (.iaload, 1) := by decide +kernel
theorem dX1_order_93 : decode cX1_order 93 = .ok (.goto 10, 3) := by decide +kernel
theorem dX1_order_96 : decode cX1_order 96 = .ok (.aload_n 0, 1) := by decide +kernel
theorem dX1_order_97 : decode cX1_order 97 = .ok (.getfield 18, 3) := by decide +kernel
theorem dX1_order_100 : decode cX1_order 100 = .ok (.iload 4, 2) := by decide +kernel
theorem dX1_order_102 : decode cX1_order 102 = .ok (.iaload, 1) := by decide +kernel
theorem dX1_order_103 : decode cX1_order 103 = .ok (.istore 6, 2) := by decide +kernel
theorem dX1_order_105 : decode cX1_order 105 = .ok (.iconst 0, 1) := by decide +kernel
theorem dX1_order_106 : decode cX1_order 106 = .ok (.istore 7, 2) := by decide +kernel
theorem dX1_order_108 : decode cX1_order 108 = .ok (.iload 7, 2) := by decide +kernel
theorem dX1_order_110 : decode cX1_order 110 = .ok (.iload 6, 2) := by decide +kernel
theorem dX1_order_112 : decode cX1_order 112 = .ok (.if_icmp .ge 41, 3) := by decide +kernel
theorem dX1_order_115 : decode cX1_order 115 = .ok (.aload_n 0, 1) := by decide +kernel
theorem dX1_order_116 : decode cX1_order 116 = .ok (.getfield 35, 3) := by decide +kernel
theorem dX1_order_119 : decode cX1_order 119 = .ok (.aload_n 0, 1) := by decide +kernel
theorem dX1_order_120 : decode cX1_order 120 = .ok (.getfield 15, 3) := by decide +kernel
theorem dX1_order_123 : decode cX1_order 123 = .ok (.iload_n 3, 1) := by decide +kernel
theorem dX1_order_124 : decode cX1_order 124 = .ok (.iaload, 1) := by decide +kernel
theorem dX1_order_125 : decode cX1_order 125 = .ok (.iload 7, 2) := by decide +kernel
theorem dX1_order_127 : decode cX1_order 127 = .ok (.iadd, 1) := by decide +kernel
theorem dX1_order_128 : decode cX1_order 128 = .ok (.iaload, 1) := by decide +kernel
theorem dX1_order_129 : decode cX1_order 129 = .ok (.aload_n 0, 1) := by decide +kernel
theorem dX1_order_130 : decode cX1_order 130 = .ok (.getfield 35, 3) := by decide +kernel
theorem dX1_order_133 : decode cX1_order 133 = .ok (.aload_n 0, 1) := by decide +kernel
theorem dX1_order_134 : decode cX1_order 134 = .ok (.getfield 15, 3) := by decide +kernel
theorem dX1_order_137 : decode cX1_order 137 = .ok (.iload 4, 2) := by decide +kernel
theorem dX1_order_139 : decode cX1_order 139 = .ok (.iaload, 1) := by decide +kernel
theorem dX1_order_140 : decode cX1_order 140 = .ok (.iload 7, 2) := by decide +kernel
theorem dX1_order_142 : decode cX1_order 142 = .ok (.iadd, 1) := by decide +kernel
theorem dX1_order_143 : decode cX1_order 143 = .ok (.iaload, 1) := by decide +kernel
theorem dX1_order_144 : decode cX1_order 144 = .ok (.if_icmp .ne 9, 3) := by decide +kernel
theorem dX1_order_147 : decode cX1_order 147 = .ok (.iinc 7 1, 3) := by decide +kernel
theorem dX1_order_150 : decode cX1_order 150 = .ok (.goto (-42), 3) := by decide +kernel
theorem dX1_order_153 : decode cX1_order 153 = .ok (.iload 7, 2) := by decide +kernel
theorem dX1_order_155 : decode cX1_order 155 = .ok (.ifCond .le 42, 3) := by decide +kernel
theorem dX1_order_158 : decode cX1_order 158 = .ok (.aload_n 0, 1) := by decide +kernel
theorem dX1_order_159 : decode cX1_order 159 = .ok (.getfield 9, 3) := by decide +kernel
theorem dX1_order_162 : decode cX1_order 162 = .ok (.iload_n 3, 1) := by decide +kernel
theorem dX1_order_163 : decode cX1_order 163 = .ok (.iaload, 1) := by decide +kernel
theorem dX1_order_164 : decode cX1_order 164 = .ok (.aload_n 0, 1) := by decide +kernel
theorem dX1_order_165 : decode cX1_order 165 = .ok (.getfield 9, 3) := by decide +kernel
theorem dX1_order_168 : decode cX1_order 168 = .ok (.iload 4, 2) := by decide +kernel
theorem dX1_order_170 : decode cX1_order 170 = .ok (.iaload, 1) := by decide +kernel
theorem dX1_order_171 : decode cX1_order 171 = .ok (.if_icmp .eq 26, 3) := by decide +kernel
theorem dX1_order_174 : decode cX1_order 174 = .ok (.getstatic 71, 3) := by decide +kernel
theorem dX1_order_177 : decode cX1_order 177 = .ok (.aload_n 0, 1) := by decide +kernel
theorem dX1_order_178 : decode cX1_order 178 = .ok (.getfield 9, 3) := by decide +kernel
theorem dX1_order_181 : decode cX1_order 181 = .ok (.iload_n 3, 1) := by decide +kernel
theorem dX1_order_182 : decode cX1_order 182 = .ok (.iaload, 1) := by decide +kernel
theorem dX1_order_183 : decode cX1_order 183 = .ok (.caload, 1) := by decide +kernel
theorem dX1_order_184 : decode cX1_order 184 = .ok (.getstatic 71, 3) := by decide +kernel
theorem dX1_order_187 : decode cX1_order 187 = .ok (.aload_n 0, 1) := by decide +kernel
theorem dX1_order_188 : decode cX1_order 188 = .ok (.getfield 9, 3) := by decide +kernel
theorem dX1_order_191 : decode cX1_order 191 = .ok (.iload 4, 2) := by decide +kernel
theorem dX1_order_193 : decode cX1_order 193 = .ok (.iaload, 1) := by decide +kernel
theorem dX1_order_194 : decode cX1_order 194 = .ok (.caload, 1) := by decide +kernel
theorem dX1_order_195 : decode cX1_order 195 = .ok (.isub, 1) := by decide +kernel
theorem dX1_order_196 : decode cX1_order 196 = .ok (.ireturn, 1) := by decide +kernel
theorem dX1_order_197 : decode cX1_order 197 = .ok (.iload 7, 2) := by decide +kernel
theorem dX1_order_199 : decode cX1_order 199 = .ok (.iload 6, 2) := by decide +kernel
theorem dX1_order_201 : decode cX1_order 201 = .ok (.if_icmp .ne 67, 3) := by decide +kernel
theorem dX1_order_204 : decode cX1_order 204 = .ok (.aload_n 0, 1) := by decide +kernel
theorem dX1_order_205 : decode cX1_order 205 = .ok (.getfield 18, 3) := by decide +kernel
theorem dX1_order_208 : decode cX1_order 208 = .ok (.iload_n 3, 1) := by decide +kernel
theorem dX1_order_209 : decode cX1_order 209 = .ok (.iaload, 1) := by decide +kernel
theorem dX1_order_210 : decode cX1_order 210 = .ok (.iload 6, 2) := by decide +kernel
theorem dX1_order_212 : decode cX1_order 212 = .ok (.if_icmp .ne 8, 3) := by decide +kernel
theorem dX1_order_215 : decode cX1_order 215 = .ok (.bipush 41, 2) := by decide +kernel
theorem dX1_order_217 : decode cX1_order 217 = .ok (.goto 13, 3) := by decide +kernel
theorem dX1_order_220 : decode cX1_order 220 = .ok (.getstatic 71, 3) := by decide +kernel
theorem dX1_order_223 : decode cX1_order 223 = .ok (.aload_n 0, 1) := by decide +kernel
theorem dX1_order_224 : decode cX1_order 224 = .ok (.getfield 9, 3) := by decide +kernel
theorem dX1_order_227 : decode cX1_order 227 = .ok (.iload_n 3, 1) := by decide +kernel
theorem dX1_order_228 : decode cX1_order 228 = .ok (.iaload, 1) := by decide +kernel
theorem dX1_order_229 : decode cX1_order 229 = .ok (.caload, 1) := by decide +kernel
theorem dX1_order_230 : decode cX1_order 230 = .ok (.istore 8, 2) := by decide +kernel
theorem dX1_order_232 : decode cX1_order 232 = .ok (.aload_n 0, 1) := by decide +kernel
theorem dX1_order_233 : decode cX1_order 233 = .ok (.getfield 18, 3) := by decide +kernel
theorem dX1_order_236 : decode cX1_order 236 = .ok (.iload 4, 2) := by decide +kernel
theorem dX1_order_238 : decode cX1_order 238 = .ok (.iaload, 1) := by decide +kernel
theorem dX1_order_239 : decode cX1_order 239 = .ok (.iload 6, 2) := by decide +kernel
theorem dX1_order_241 : decode cX1_order 241 = .ok (.if_icmp .ne 8, 3) := by decide +kernel
theorem dX1_order_244 : decode cX1_order 244 = .ok (.bipush 41, 2) := by decide +kernel
theorem dX1_order_246 : decode cX1_order 246 = .ok (.goto 14, 3) := by decide +kernel
theorem dX1_order_249 : decode cX1_order 249 = .ok (.getstatic 71, 3) := by decide +kernel
theorem dX1_order_252 : decode cX1_order 252 = .ok (.aload_n 0, 1) := by decide +kernel
theorem dX1_order_253 : decode cX1_order 253 = .ok (.getfield 9, 3) := by decide +kernel
theorem dX1_order_256 : decode cX1_order 256 = .ok (.iload 4, 2) := by decide +kernel
theorem dX1_order_258 : decode cX1_order 258 = .ok (.iaload, 1) := by decide +kernel
theorem dX1_order_259 : decode cX1_order 259 = .ok (.caload, 1) := by decide +kernel
theorem dX1_order_260 : decode cX1_order 260 = .ok (.istore 9, 2) := by decide +kernel
theorem dX1_order_262 : decode cX1_order 262 = .ok (.iload 8, 2) := by decide +kernel
theorem dX1_order_264 : decode cX1_order 264 = .ok (.iload 9, 2) := by decide +kernel
theorem dX1_order_266 : decode cX1_order 266 = .ok (.isub, 1) := by decide +kernel
theorem dX1_order_267 : decode cX1_order 267 = .ok (.ireturn, 1) := by decide +kernel
theorem dX1_order_268 : decode cX1_order 268 = .ok (.aload_n 0, 1) := by decide +kernel
theorem dX1_order_269 : decode cX1_order 269 = .ok (.getfield 35, 3) := by decide +kernel
theorem dX1_order_272 : decode cX1_order 272 = .ok (.aload_n 0, 1) := by decide +kernel
theorem dX1_order_273 : decode cX1_order 273 = .ok (.getfield 15, 3) := by decide +kernel
theorem dX1_order_276 : decode cX1_order 276 = .ok (.iload_n 3, 1) := by decide +kernel
theorem dX1_order_277 : decode cX1_order 277 = .ok (.iaload, 1) := by decide +kernel
theorem dX1_order_278 : decode cX1_order 278 = .ok (.iload 7, 2) := by decide +kernel
theorem dX1_order_280 : decode cX1_order 280 = .ok (.iadd, 1) := by decide +kernel
theorem dX1_order_281 : decode cX1_order 281 = .ok (.iaload, 1) := by decide +kernel
theorem dX1_order_282 : decode cX1_order 282 = .ok (.istore_n 3, 1) := by decide +kernel
theorem dX1_order_283 : decode cX1_order 283 = .ok (.aload_n 0, 1) := by decide +kernel
theorem dX1_order_284 : decode cX1_order 284 = .ok (.getfield 35, 3) := by decide +kernel
theorem dX1_order_287 : decode cX1_order 287 = .ok (.aload_n 0, 1) := by decide +kernel
theorem dX1_order_288 : decode cX1_order 288 = .ok (.getfield 15, 3) := by decide +kernel
theorem dX1_order_291 : decode cX1_order 291 = .ok (.iload 4, 2) := by decide +kernel
theorem dX1_order_293 : decode cX1_order 293 = .ok (.iaload, 1) := by decide +kernel
theorem dX1_order_294 : decode cX1_order 294 = .ok (.iload 7, 2) := by decide +kernel
theorem dX1_order_296 : decode cX1_order 296 = .ok (.iadd, 1) := by decide +kernel
theorem dX1_order_297 : decode cX1_order 297 = .ok (.iaload, 1) := by decide +kernel
theorem dX1_order_298 : decode cX1_order 298 = .ok (.istore 4, 2) := by decide +kernel
theorem dX1_order_300 : decode cX1_order 300 = .ok (.iinc 5 1, 3) := by decide +kernel
theorem dX1_order_303 : decode cX1_order 303 = .ok (.goto (-295), 3) := by decide +kernel
theorem dX1_order_306 : decode cX1_order 306 = .ok (.iconst 0, 1) := by decide +kernel
theorem dX1_order_307 : decode cX1_order 307 = .ok (.ireturn, 1) := by decide +kernel
theorem dX2_init_0 : decode cX2_init 0 = .ok (.aload_n 0, 1) := by decide +kernel
theorem dX2_init_1 : decode cX2_init 1 = .ok (.invokespecial 3, 3) := by decide +kernel
theorem dX2_init_4 : decode cX2_init 4 = .ok (.aload_n 0, 1) := by decide +kernel
theorem dX2_init_5 : decode cX2_init 5 = .ok (.bipush 60, 2) := by decide +kernel
theorem dX2_init_7 : decode cX2_init 7 = .ok (.newarray .char, 2) := by decide +kernel
theorem dX2_init_9 : decode cX2_init 9 = .ok (.putfield 9, 3) := by decide +kernel
theorem dX2_init_12 : decode cX2_init 12 = .ok (.aload_n 0, 1) := by decide +kernel
theorem dX2_init_13 : decode cX2_init 13 = .ok (.bipush 60, 2) := by decide +kernel
theorem dX2_init_15 : decode cX2_init 15 = .ok (.newarray .int, 2) := by decide +kernel
theorem dX2_init_17 : decode cX2_init 17 = .ok (.putfield 15, 3) := by decide +kernel
theorem dX2_init_20 : decode cX2_init 20 = .ok (.aload_n 0, 1) := by decide +kernel
theorem dX2_init_21 : decode cX2_init 21 = .ok (.bipush 60, 2) := by decide +kernel
theorem dX2_init_23 : decode cX2_init 23 = .ok (.newarray .char, 2) := by decide +kernel
theorem dX2_init_25 : decode cX2_init 25 = .ok (.putfield 19, 3) := by decide +kernel
theorem dX2_init_28 : decode cX2_init 28 = .ok (.aload_n 0, 1) := by decide +kernel
theorem dX2_init_29 : decode cX2_init 29 = .ok (.aload_n 1, 1) := by decide +kernel
theorem dX2_init_30 : decode cX2_init 30 = .ok (.putfield 22, 3) := by decide +kernel
theorem dX2_init_33 : decode cX2_init 33 = .ok (.aload_n 0, 1) := by decide +kernel
theorem dX2_init_34 : decode cX2_init 34 = .ok (.aload_n 2, 1) := by decide +kernel
theorem dX2_init_35 : decode cX2_init 35 = .ok (.putfield 26, 3) := by decide +kernel
theorem dX2_init_38 : decode cX2_init 38 = .ok (.return_, 1) := by decide +kernel
theorem dX2_append_0 : decode cX2_append 0 = .ok (.aload_n 0, 1) := by decide +kernel
theorem dX2_append_1 : decode cX2_append 1 = .ok (.getfield 30, 3) := by decide +kernel
theorem dX2_append_4 : decode cX2_append 4 = .ok (.bipush 60, 2) := by decide +kernel
theorem dX2_append_6 : decode cX2_append 6 = .ok (.if_icmp .lt 5, 3) := by decide +kernel
theorem dX2_append_9 : decode cX2_append 9 = .ok (.iconst 0, 1) := by decide +kernel
theorem dX2_append_10 : decode cX2_append 10 = .ok (.ireturn, 1) := by decide +kernel
theorem dX2_append_11 : decode cX2_append 11 = .ok (.aload_n 0, 1) := by decide +kernel
theorem dX2_append_12 : decode cX2_append 12 = .ok (.getfield 9, 3) := by decide +kernel
theorem dX2_append_15 : decode cX2_append 15 = .ok (.aload_n 0, 1) := by decide +kernel
theorem dX2_append_16 : decode cX2_append 16 = .ok (.getfield 30, 3) := by decide +kernel
theorem dX2_append_19 : decode cX2_append 19 = .ok (.iload_n 1, 1) := by decide +kernel
theorem dX2_append_20 : decode cX2_append 20 = .ok (.castore, 1) := by decide +kernel
theorem dX2_append_21 : decode cX2_append 21 = .ok (.aload_n 0, 1) := by decide +kernel
theorem dX2_append_22 : decode cX2_append 22 = .ok (.dup, 1) := by decide +kernel
theorem dX2_append_23 : decode cX2_append 23 = .ok (.getfield 30, 3) := by decide +kernel
theorem dX2_append_26 : decode cX2_append 26 = .ok (.iconst 1, 1) := by decide +kernel
theorem dX2_append_27 : decode cX2_append 27 = .ok (.iadd, 1) := by decide +kernel
theorem dX2_append_28 : decode cX2_append 28 = .ok (.putfield 30, 3) := by decide +kernel
theorem dX2_append_31 : decode cX2_append 31 = .ok (.iconst 1, 1) := by decide +kernel
theorem dX2_append_32 : decode cX2_append 32 = .ok (.ireturn, 1) := by decide +kernel
theorem dX2_findFault_0 : decode cX2_findFault 0 = .ok (.iconst 1, 1) := by decide +kernel
theorem dX2_findFault_1 : decode cX2_findFault 1 = .ok (.istore_n 1, 1) := by decide +kernel
theorem dX2_findFault_2 : decode cX2_findFault 2 = .ok (.iconst 0, 1) := by decide +kernel
theorem dX2_findFault_3 : decode cX2_findFault 3 = .ok (.istore_n 2, 1) := by decide +kernel
theorem dX2_findFault_4 : decode cX2_findFault 4 = .ok (.iconst 0, 1) := by decide +kernel
theorem dX2_findFault_5 : decode cX2_findFault 5 = .ok (.istore_n 3, 1) := by decide +kernel
theorem dX2_findFault_6 : decode cX2_findFault 6 = .ok (.iload_n 3, 1) := by decide +kernel
theorem dX2_findFault_7 : decode cX2_findFault 7 = .ok (.aload_n 0, 1) := by decide +kernel
theorem dX2_findFault_8 : decode cX2_findFault 8 = .ok (.getfield 30, 3) := by decide +kernel
theorem dX2_findFault_11 : decode cX2_findFault 11 = .ok (.if_icmp .ge 94, 3) := by decide +kernel
theorem dX2_findFault_14 : decode cX2_findFault 14 = .ok (.aload_n 0, 1) := by decide +kernel
theorem dX2_findFault_15 : decode cX2_findFault 15 = .ok (.getfield 9, 3) := by decide +kernel
theorem dX2_findFault_18 : decode cX2_findFault 18 = .ok (.iload_n 3, 1) := by decide +kernel
theorem dX2_findFault_19 : decode cX2_findFault 19 = .ok (.caload, 1) := by decide +kernel
theorem dX2_findFault_20 : decode cX2_findFault 20 = .ok (.istore 4, 2) := by decide +kernel
theorem dX2_findFault_22 : decode cX2_findFault 22 = .ok (.iload_n 1, 1) := by decide +kernel
theorem dX2_findFault_23 : decode cX2_findFault 23 = .ok (.ifCond .eq 44, 3) := by decide +kernel
theorem dX2_findFault_26 : decode cX2_findFault 26 = .ok (.iload 4, 2) := by decide +kernel
theorem dX2_findFault_28 : decode cX2_findFault 28 = .ok (.bipush 40, 2) := by decide +kernel
theorem dX2_findFault_30 : decode cX2_findFault 30 = .ok (.if_icmp .ne 14, 3) := by decide +kernel
theorem dX2_findFault_33 : decode cX2_findFault 33 = .ok (.iload_n 2, 1) := by decide +kernel
theorem dX2_findFault_34 : decode cX2_findFault 34 = .ok (.iconst 4, 1) := by decide +kernel
theorem dX2_findFault_35 : decode cX2_findFault 35 = .ok (.if_icmp .ge 9, 3) := by decide +kernel
theorem dX2_findFault_38 : decode cX2_findFault 38 = .ok (.iinc 2 1, 3) := by decide +kernel
theorem dX2_findFault_41 : decode cX2_findFault 41 = .ok (.goto 58, 3) := by decide +kernel
theorem dX2_findFault_44 : decode cX2_findFault 44 = .ok (.iload 4, 2) := by decide +kernel
theorem dX2_findFault_46 : decode cX2_findFault 46 = .ok (.invokestatic 34, 3) := by decide +kernel
theorem dX2_findFault_49 : decode cX2_findFault 49 = .ok (.ifCond .eq 8, 3) := by decide +kernel
theorem dX2_findFault_52 : decode cX2_findFault 52 = .ok (.iconst 0, 1) := by decide +kernel
theorem dX2_findFault_53 : decode cX2_findFault 53 = .ok (.istore_n 1, 1) := by decide +kernel
theorem dX2_findFault_54 : decode cX2_findFault 54 = .ok (.goto 45, 3) := by decide +kernel
theorem dX2_findFault_57 : decode cX2_findFault 57 = .ok (.iload 4, 2) := by decide +kernel
theorem dX2_findFault_59 : decode cX2_findFault 59 = .ok (.invokestatic 38, 3) := by decide +kernel
theorem dX2_findFault_62 : decode cX2_findFault 62 = .ok (.ifCond .ne 37, 3) := by decide +kernel
theorem dX2_findFault_65 : decode cX2_findFault 65 = .ok (.iload_n 3, 1) := by decide +kernel
theorem dX2_findFault_66 : decode cX2_findFault 66 = .ok (.ireturn, 1) := by decide +kernel
theorem dX2_findFault_67 : decode cX2_findFault 67 = .ok (.iload 4, 2) := by decide +kernel
theorem dX2_findFault_69 : decode cX2_findFault 69 = .ok (.bipush 41, 2) := by decide +kernel
theorem dX2_findFault_71 : decode cX2_findFault 71 = .ok (.if_icmp .ne 13, 3) := by decide +kernel
theorem dX2_findFault_74 : decode cX2_findFault 74 = .ok (.iload_n 2, 1) := by decide +kernel
theorem dX2_findFault_75 : decode cX2_findFault 75 = .ok (.ifCond .le 9, 3) := by decide +kernel
theorem dX2_findFault_78 : decode cX2_findFault 78 = .ok (.iinc 2 (-1), 3) := by decide +kernel
theorem dX2_findFault_81 : decode cX2_findFault 81 = .ok (.goto 18, 3) := by decide +kernel
theorem dX2_findFault_84 : decode cX2_findFault 84 = .ok (.iload 4, 2) := by decide +kernel
theorem dX2_findFault_86 : decode cX2_findFault 86 = .ok (.invokestatic 41, 3) := by decide +kernel
theorem dX2_findFault_89 : decode cX2_findFault 89 = .ok (.ifCond .eq 8, 3) := by decide +kernel
theorem dX2_findFault_92 : decode cX2_findFault 92 = .ok (.iconst 1, 1) := by decide +kernel
theorem dX2_findFault_93 : decode cX2_findFault 93 = .ok (.istore_n 1, 1) := by decide +kernel
theorem dX2_findFault_94 : decode cX2_findFault 94 = .ok (.goto 5, 3) := by decide +kernel
theorem dX2_findFault_97 : decode cX2_findFault 97 = .ok (.iload_n 3, 1) := by decide +kernel
theorem dX2_findFault_98 : decode cX2_findFault 98 = .ok (.ireturn, 1) := by decide +kernel
theorem dX2_findFault_99 : decode cX2_findFault 99 = .ok (.iinc 3 1, 3) := by decide +kernel
theorem dX2_findFault_102 : decode cX2_findFault 102 = .ok (.goto (-96), 3) := by decide +kernel
theorem dX2_findFault_105 : decode cX2_findFault 105 = .ok (.iload_n 1, 1) := by decide +kernel
theorem dX2_findFault_106 : decode cX2_findFault 106 = .ok (.ifCond .ne 7, 3) := by decide +kernel
theorem dX2_findFault_109 : decode cX2_findFault 109 = .ok (.iload_n 2, 1) := by decide +kernel
theorem dX2_findFault_110 : decode cX2_findFault 110 = .ok (.ifCond .le 10, 3) := by decide +kernel
theorem dX2_findFault_113 : decode cX2_findFault 113 = .ok (.aload_n 0, 1) := by decide +kernel
theorem dX2_findFault_114 : decode cX2_findFault 114 = .ok (.getfield 30, 3) := by decide +kernel
theorem dX2_findFault_117 : decode cX2_findFault 117 = .ok (.goto 4, 3) := by decide +kernel
theorem dX2_findFault_120 : decode cX2_findFault 120 = .ok (.iconst (-1), 1) := by decide +kernel
theorem dX2_findFault_121 : decode cX2_findFault 121 = .ok (.ireturn, 1) := by decide +kernel
theorem dX2_read_0 : decode cX2_read 0 = .ok (.aload_n 0, 1) := by decide +kernel
theorem dX2_read_1 : decode cX2_read 1 = .ok (.iconst 0, 1) := by decide +kernel
theorem dX2_read_2 : decode cX2_read 2 = .ok (.putfield 44, 3) := by decide +kernel
theorem dX2_read_5 : decode cX2_read 5 = .ok (.aload_n 0, 1) := by decide +kernel
theorem dX2_read_6 : decode cX2_read 6 = .ok (.iconst 0, 1) := by decide +kernel
theorem dX2_read_7 : decode cX2_read 7 = .ok (.putfield 47, 3) := by decide +kernel
theorem dX2_read_10 : decode cX2_read 10 = .ok (.iconst 0, 1) := by decide +kernel
theorem dX2_read_11 : decode cX2_read 11 = .ok (.istore_n 1, 1) := by decide +kernel
theorem dX2_read_12 : decode cX2_read 12 = .ok (.iload_n 1, 1) := by decide +kernel
theorem dX2_read_13 : decode cX2_read 13 = .ok (.aload_n 0, 1) := by decide +kernel
theorem dX2_read_14 : decode cX2_read 14 = .ok (.getfield 30, 3) := by decide +kernel
theorem dX2_read_17 : decode cX2_read 17 = .ok (.if_icmp .ge 97, 3) := by decide +kernel
theorem dX2_read_20 : decode cX2_read 20 = .ok (.aload_n 0, 1) := by decide +kernel
theorem dX2_read_21 : decode cX2_read 21 = .ok (.getfield 9, 3) := by decide +kernel
theorem dX2_read_24 : decode cX2_read 24 = .ok (.iload_n 1, 1) := by decide +kernel
theorem dX2_read_25 : decode cX2_read 25 = .ok (.caload, 1) := by decide +kernel
theorem dX2_read_26 : decode cX2_read 26 = .ok (.istore_n 2, 1) := by decide +kernel
theorem dX2_read_27 : decode cX2_read 27 = .ok (.iload_n 2, 1) := by decide +kernel
theorem dX2_read_28 : decode cX2_read 28 = .ok (.invokestatic 34, 3) := by decide +kernel
theorem dX2_read_31 : decode cX2_read 31 = .ok (.ifCond .eq 18, 3) := by decide +kernel
theorem dX2_read_34 : decode cX2_read 34 = .ok (.aload_n 0, 1) := by decide +kernel
theorem dX2_read_35 : decode cX2_read 35 = .ok (.iload_n 2, 1) := by decide +kernel
theorem dX2_read_36 : decode cX2_read 36 = .ok (.invokestatic 50, 3) := by decide +kernel
theorem dX2_read_39 : decode cX2_read 39 = .ok (.invokevirtual 54, 3) := by decide +kernel
theorem dX2_read_42 : decode cX2_read 42 = .ok (.aload_n 0, 1) := by decide +kernel
theorem dX2_read_43 : decode cX2_read 43 = .ok (.invokevirtual 58, 3) := by decide +kernel
theorem dX2_read_46 : decode cX2_read 46 = .ok (.goto 62, 3) := by decide +kernel
theorem dX2_read_49 : decode cX2_read 49 = .ok (.iload_n 2, 1) := by decide +kernel
theorem dX2_read_50 : decode cX2_read 50 = .ok (.bipush 41, 2) := by decide +kernel
theorem dX2_read_52 : decode cX2_read 52 = .ok (.if_icmp .ne 36, 3) := by decide +kernel
theorem dX2_read_55 : decode cX2_read 55 = .ok (.aload_n 0, 1) := by decide +kernel
theorem dX2_read_56 : decode cX2_read 56 = .ok (.iconst 1, 1) := by decide +kernel
theorem dX2_read_57 : decode cX2_read 57 = .ok (.invokevirtual 61, 3) := by decide +kernel
theorem dX2_read_60 : decode cX2_read 60 = .ok (.aload_n 0, 1) := by decide +kernel
theorem dX2_read_61 : decode cX2_read 61 = .ok (.aload_n 0, 1) := by decide +kernel
theorem dX2_read_62 : decode cX2_read 62 = .ok (.getfield 47, 3) := by decide +kernel
theorem dX2_read_65 : decode cX2_read 65 = .ok (.ifCond .le 12, 3) := by decide +kernel
theorem dX2_read_68 : decode cX2_read 68 = .ok (.aload_n 0, 1) := by decide +kernel
theorem dX2_read_69 : decode cX2_read 69 = .ok (.getfield 47, 3) := by decide +kernel
theorem dX2_read_72 : decode cX2_read 72 = .ok (.iconst 1, 1) := by decide +kernel
theorem dX2_read_73 : decode cX2_read 73 = .ok (.isub, 1) := by decide +kernel
theorem dX2_read_74 : decode cX2_read 74 = .ok (.goto 4, 3) := by decide +kernel
theorem dX2_read_77 : decode cX2_read 77 = .ok (.iconst 0, 1) := by decide +kernel
theorem dX2_read_78 : decode cX2_read 78 = .ok (.putfield 47, 3) := by decide +kernel
theorem dX2_read_81 : decode cX2_read 81 = .ok (.aload_n 0, 1) := by decide +kernel
theorem dX2_read_82 : decode cX2_read 82 = .ok (.invokevirtual 58, 3) := by decide +kernel
theorem dX2_read_85 : decode cX2_read 85 = .ok (.goto 23, 3) := by decide +kernel
theorem dX2_read_88 : decode cX2_read 88 = .ok (.iload_n 2, 1) := by decide +kernel
theorem dX2_read_89 : decode cX2_read 89 = .ok (.invokestatic 41, 3) := by decide +kernel
theorem dX2_read_92 : decode cX2_read 92 = .ok (.ifCond .eq 11, 3) := by decide +kernel
theorem dX2_read_95 : decode cX2_read 95 = .ok (.aload_n 0, 1) := by decide +kernel
theorem dX2_read_96 : decode cX2_read 96 = .ok (.iload_n 2, 1) := by decide +kernel
theorem dX2_read_97 : decode cX2_read 97 = .ok (.invokestatic 64, 3) := by decide +kernel
theorem dX2_read_100 : decode cX2_read 100 = .ok (.invokevirtual 61, 3) := by decide +kernel
theorem dX2_read_103 : decode cX2_read 103 = .ok (.aload_n 0, 1) := by decide +kernel
theorem dX2_read_104 : decode cX2_read 104 = .ok (.iload_n 2, 1) := by decide +kernel
theorem dX2_read_105 : decode cX2_read 105 = .ok (.invokevirtual 67, 3) := by decide +kernel
theorem dX2_read_108 : decode cX2_read 108 = .ok (.iinc 1 1, 3) := by decide +kernel
theorem dX2_read_111 : decode cX2_read 111 = .ok (.goto (-99), 3) := by decide +kernel
theorem dX2_read_114 : decode cX2_read 114 = .ok (.aload_n 0, 1) := by decide +kernel
theorem dX2_read_115 : decode cX2_read 115 = .ok (.iconst 1, 1) := by decide +kernel
theorem dX2_read_116 : decode cX2_read 116 = .ok (.invokevirtual 61, 3) := by decide +kernel
theorem dX2_read_119 : decode cX2_read 119 = .ok (.aload_n 0, 1) := by decide +kernel
theorem dX2_read_120 : decode cX2_read 120 = .ok (.getfield 44, 3) := by decide +kernel
theorem dX2_read_123 : decode cX2_read 123 = .ok (.ifCond .le 12, 3) := by decide +kernel
theorem dX2_read_126 : decode cX2_read 126 = .ok (.aload_n 0, 1) := by decide +kernel
theorem dX2_read_127 : decode cX2_read 127 = .ok (.getfield 15, 3) := by decide +kernel
theorem dX2_read_130 : decode cX2_read 130 = .ok (.iconst 0, 1) := by decide +kernel
theorem dX2_read_131 : decode cX2_read 131 = .ok (.iaload, 1) := by decide +kernel
theorem dX2_read_132 : decode cX2_read 132 = .ok (.goto 4, 3) := by decide +kernel
theorem dX2_read_135 : decode cX2_read 135 = .ok (.iconst 0, 1) := by decide +kernel
theorem dX2_read_136 : decode cX2_read 136 = .ok (.ireturn, 1) := by decide +kernel
theorem dX2_hold_0 : decode cX2_hold 0 = .ok (.aload_n 0, 1) := by decide +kernel
theorem dX2_hold_1 : decode cX2_hold 1 = .ok (.getfield 44, 3) := by decide +kernel
theorem dX2_hold_4 : decode cX2_hold 4 = .ok (.bipush 60, 2) := by decide +kernel
theorem dX2_hold_6 : decode cX2_hold 6 = .ok (.if_icmp .ge 23, 3) := by decide +kernel
theorem dX2_hold_9 : decode cX2_hold 9 = .ok (.aload_n 0, 1) := by decide +kernel
theorem dX2_hold_10 : decode cX2_hold 10 = .ok (.getfield 15, 3) := by decide +kernel
theorem dX2_hold_13 : decode cX2_hold 13 = .ok (.aload_n 0, 1) := by decide +kernel
theorem dX2_hold_14 : decode cX2_hold 14 = .ok (.getfield 44, 3) := by decide +kernel
theorem dX2_hold_17 : decode cX2_hold 17 = .ok (.iload_n 1, 1) := by decide +kernel
theorem dX2_hold_18 : decode cX2_hold 18 = .ok (.iastore, 1) := by decide +kernel
theorem dX2_hold_19 : decode cX2_hold 19 = .ok (.aload_n 0, 1) := by decide +kernel
theorem dX2_hold_20 : decode cX2_hold 20 = .ok (.dup, 1) := by decide +kernel
theorem dX2_hold_21 : decode cX2_hold 21 = .ok (.getfield 44, 3) := by decide +kernel
theorem dX2_hold_24 : decode cX2_hold 24 = .ok (.iconst 1, 1) := by decide +kernel
theorem dX2_hold_25 : decode cX2_hold 25 = .ok (.iadd, 1) := by decide +kernel
theorem dX2_hold_26 : decode cX2_hold 26 = .ok (.putfield 44, 3) := by decide +kernel
theorem dX2_hold_29 : decode cX2_hold 29 = .ok (.return_, 1) := by decide +kernel
theorem dX2_await_0 : decode cX2_await 0 = .ok (.aload_n 0, 1) := by decide +kernel
theorem dX2_await_1 : decode cX2_await 1 = .ok (.getfield 47, 3) := by decide +kernel
theorem dX2_await_4 : decode cX2_await 4 = .ok (.bipush 60, 2) := by decide +kernel
theorem dX2_await_6 : decode cX2_await 6 = .ok (.if_icmp .ge 23, 3) := by decide +kernel
theorem dX2_await_9 : decode cX2_await 9 = .ok (.aload_n 0, 1) := by decide +kernel
theorem dX2_await_10 : decode cX2_await 10 = .ok (.getfield 19, 3) := by decide +kernel
theorem dX2_await_13 : decode cX2_await 13 = .ok (.aload_n 0, 1) := by decide +kernel
theorem dX2_await_14 : decode cX2_await 14 = .ok (.getfield 47, 3) := by decide +kernel
theorem dX2_await_17 : decode cX2_await 17 = .ok (.iload_n 1, 1) := by decide +kernel
theorem dX2_await_18 : decode cX2_await 18 = .ok (.castore, 1) := by decide +kernel
theorem dX2_await_19 : decode cX2_await 19 = .ok (.aload_n 0, 1) := by decide +kernel
theorem dX2_await_20 : decode cX2_await 20 = .ok (.dup, 1) := by decide +kernel
theorem dX2_await_21 : decode cX2_await 21 = .ok (.getfield 47, 3) := by decide +kernel
theorem dX2_await_24 : decode cX2_await 24 = .ok (.iconst 1, 1) := by decide +kernel
theorem dX2_await_25 : decode cX2_await 25 = .ok (.iadd, 1) := by decide +kernel
theorem dX2_await_26 : decode cX2_await 26 = .ok (.putfield 47, 3) := by decide +kernel
theorem dX2_await_29 : decode cX2_await 29 = .ok (.return_, 1) := by decide +kernel
theorem dX2_applyInFront_0 : decode cX2_applyInFront 0 = .ok (.aload_n 0, 1) := by decide +kernel
theorem dX2_applyInFront_1 : decode cX2_applyInFront 1 = .ok (.getfield 47, 3) := by decide +kernel
theorem dX2_applyInFront_4 : decode cX2_applyInFront 4 = .ok (.ifCond .le 184, 3) := by decide +kernel
theorem dX2_applyInFront_7 : decode cX2_applyInFront 7 = .ok (.aload_n 0, 1) := by decide +kernel
theorem dX2_applyInFront_8 : decode cX2_applyInFront 8 = .ok (.getfield 44, 3) := by decide +kernel
theorem dX2_applyInFront_11 : decode cX2_applyInFront 11 = .ok (.ifCond .le 177, 3) := by decide +kernel
theorem dX2_applyInFront_14 : decode cX2_applyInFront 14 = .ok (.aload_n 0, 1) := by decide +kernel
theorem dX2_applyInFront_15 : decode cX2_applyInFront 15 = .ok (.getfield 19, 3) := by decide +kernel
theorem dX2_applyInFront_18 : decode cX2_applyInFront 18 = .ok (.aload_n 0, 1) := by decide +kernel
theorem dX2_applyInFront_19 : decode cX2_applyInFront 19 = .ok (.getfield 47, 3) := by decide +kernel
theorem dX2_applyInFront_22 : decode cX2_applyInFront 22 = .ok (.iconst 1, 1) := by decide +kernel
theorem dX2_applyInFront_23 : decode cX2_applyInFront 23 = .ok (.isub, 1) := by decide +kernel
theorem dX2_applyInFront_24 : decode cX2_applyInFront 24 = .ok (.caload, 1) := by decide +kernel
theorem dX2_applyInFront_25 : decode cX2_applyInFront 25 = .ok (.invokestatic 38, 3) := by decide +kernel
theorem dX2_applyInFront_28 : decode cX2_applyInFront 28 = .ok (.ifCond .eq 160, 3) := by decide +kernel
theorem dX2_applyInFront_31 : decode cX2_applyInFront 31 = .ok (.aload_n 0, 1) := by decide +kernel
theorem dX2_applyInFront_32 : decode cX2_applyInFront 32 = .ok (.dup, 1) := by decide +kernel
theorem dX2_applyInFront_33 : decode cX2_applyInFront 33 = .ok (.getfield 47, 3) := by decide +kernel
theorem dX2_applyInFront_36 : decode cX2_applyInFront 36 = .ok (.iconst 1, 1) := by decide +kernel
theorem dX2_applyInFront_37 : decode cX2_applyInFront 37 = .ok (.isub, 1) := by decide +kernel
theorem dX2_applyInFront_38 : decode cX2_applyInFront 38 = .ok (.putfield 47, 3) := by decide +kernel
theorem dX2_applyInFront_41 : decode cX2_applyInFront 41 = .ok (.aload_n 0, 1) := by decide +kernel
theorem dX2_applyInFront_42 : decode cX2_applyInFront 42 = .ok (.getfield 15, 3) := by decide +kernel
theorem dX2_applyInFront_45 : decode cX2_applyInFront 45 = .ok (.aload_n 0, 1) := by decide +kernel
theorem dX2_applyInFront_46 : decode cX2_applyInFront 46 = .ok (.getfield 44, 3) := by decide +kernel
theorem dX2_applyInFront_49 : decode cX2_applyInFront 49 = .ok (.iconst 1, 1) := by decide +kernel
theorem dX2_applyInFront_50 : decode cX2_applyInFront 50 = .ok (.isub, 1) := by decide +kernel
theorem dX2_applyInFront_51 : decode cX2_applyInFront 51 = .ok (.iaload, 1) := by decide +kernel
theorem dX2_applyInFront_52 : decode cX2_applyInFront 52 = .ok (.istore_n 1, 1) := by decide +kernel
theorem dX2_applyInFront_53 : decode cX2_applyInFront 53 = .ok (.aload_n 0, 1) := by decide +kernel
theorem dX2_applyInFront_54 : decode cX2_applyInFront 54 = .ok (.getfield 19, 3) := by decide +kernel
theorem dX2_applyInFront_57 : decode cX2_applyInFront 57 = .ok (.aload_n 0, 1) := by decide +kernel
theorem dX2_applyInFront_58 : decode cX2_applyInFront 58 = .ok (.getfield 47, 3) := by decide +kernel
theorem dX2_applyInFront_61 : decode cX2_applyInFront 61 = .ok (.caload, 1) := by decide +kernel
theorem dX2_applyInFront_62 : decode cX2_applyInFront 62 = .ok (.lookupswitch 99 #[(33, 42), (71, 84), (78, 69), (88, 54)], 42) := by decide +kernel
theorem dX2_applyInFront_104 : decode cX2_applyInFront 104 = .ok (.aload_n 0, 1) := by decide +kernel
theorem dX2_applyInFront_105 : decode cX2_applyInFront 105 = .ok (.getfield 26, 3) := by decide +kernel
theorem dX2_applyInFront_108 : decode cX2_applyInFront 108 = .ok (.iload_n 1, 1) := by decide +kernel
theorem dX2_applyInFront_109 : decode cX2_applyInFront 109 = .ok (.invokevirtual 71, 3) := by decide +kernel
theorem dX2_applyInFront_112 : decode cX2_applyInFront 112 = .ok (.istore_n 2, 1) := by decide +kernel
theorem dX2_applyInFront_113 : decode cX2_applyInFront 113 = .ok (.goto 60, 3) := by decide +kernel
theorem dX2_applyInFront_116 : decode cX2_applyInFront 116 = .ok (.aload_n 0, 1) := by decide +kernel
theorem dX2_applyInFront_117 : decode cX2_applyInFront 117 = .ok (.getfield 26, 3) := by decide +kernel
theorem dX2_applyInFront_120 : decode cX2_applyInFront 120 = .ok (.bipush 16, 2) := by decide +kernel
theorem dX2_applyInFront_122 : decode cX2_applyInFront 122 = .ok (.iload_n 1, 1) := by decide +kernel
theorem dX2_applyInFront_123 : decode cX2_applyInFront 123 = .ok (.iload_n 1, 1) := by decide +kernel
theorem dX2_applyInFront_124 : decode cX2_applyInFront 124 = .ok (.invokevirtual 77, 3) := by decide +kernel
theorem dX2_applyInFront_127 : decode cX2_applyInFront 127 = .ok (.istore_n 2, 1) := by decide +kernel
theorem dX2_applyInFront_128 : decode cX2_applyInFront 128 = .ok (.goto 45, 3) := by decide +kernel
theorem dX2_applyInFront_131 : decode cX2_applyInFront 131 = .ok (.aload_n 0, 1) := by decide +kernel
theorem dX2_applyInFront_132 : decode cX2_applyInFront 132 = .ok (.getfield 26, 3) := by decide +kernel
theorem dX2_applyInFront_135 : decode cX2_applyInFront 135 = .ok (.bipush 17, 2) := by decide +kernel
theorem dX2_applyInFront_137 : decode cX2_applyInFront 137 = .ok (.iload_n 1, 1) := by decide +kernel
theorem dX2_applyInFront_138 : decode cX2_applyInFront 138 = .ok (.iload_n 1, 1) := by decide +kernel
theorem dX2_applyInFront_139 : decode cX2_applyInFront 139 = .ok (.invokevirtual 77, 3) := by decide +kernel
theorem dX2_applyInFront_142 : decode cX2_applyInFront 142 = .ok (.istore_n 2, 1) := by decide +kernel
theorem dX2_applyInFront_143 : decode cX2_applyInFront 143 = .ok (.goto 30, 3) := by decide +kernel
theorem dX2_applyInFront_146 : decode cX2_applyInFront 146 = .ok (.aload_n 0, 1) := by decide +kernel
theorem dX2_applyInFront_147 : decode cX2_applyInFront 147 = .ok (.getfield 26, 3) := by decide +kernel
theorem dX2_applyInFront_150 : decode cX2_applyInFront 150 = .ok (.bipush 19, 2) := by decide +kernel
theorem dX2_applyInFront_152 : decode cX2_applyInFront 152 = .ok (.iconst 0, 1) := by decide +kernel
theorem dX2_applyInFront_153 : decode cX2_applyInFront 153 = .ok (.iload_n 1, 1) := by decide +kernel
theorem dX2_applyInFront_154 : decode cX2_applyInFront 154 = .ok (.invokevirtual 77, 3) := by decide +kernel
theorem dX2_applyInFront_157 : decode cX2_applyInFront 157 = .ok (.istore_n 2, 1) := by decide +kernel
theorem dX2_applyInFront_158 : decode cX2_applyInFront 158 = .ok (.goto 15, 3) := by decide +kernel
theorem dX2_applyInFront_161 : decode cX2_applyInFront 161 = .ok (.aload_n 0, 1) := by decide +kernel
theorem dX2_applyInFront_162 : decode cX2_applyInFront 162 = .ok (.getfield 26, 3) := by decide +kernel
theorem dX2_applyInFront_165 : decode cX2_applyInFront 165 = .ok (.bipush 18, 2) := by decide +kernel
theorem dX2_applyInFront_167 : decode cX2_applyInFront 167 = .ok (.iconst 1, 1) := by decide +kernel
theorem dX2_applyInFront_168 : decode cX2_applyInFront 168 = .ok (.iload_n 1, 1) := by decide +kernel
theorem dX2_applyInFront_169 : decode cX2_applyInFront 169 = .ok (.invokevirtual 77, 3) := by decide +kernel
theorem dX2_applyInFront_172 : decode cX2_applyInFront 172 = .ok (.istore_n 2, 1) := by decide +kernel
theorem dX2_applyInFront_173 : decode cX2_applyInFront 173 = .ok (.aload_n 0, 1) := by decide +kernel
theorem dX2_applyInFront_174 : decode cX2_applyInFront 174 = .ok (.getfield 15, 3) := by decide +kernel
theorem dX2_applyInFront_177 : decode cX2_applyInFront 177 = .ok (.aload_n 0, 1) := by decide +kernel
theorem dX2_applyInFront_178 : decode cX2_applyInFront 178 = .ok (.getfield 44, 3) := by decide +kernel
theorem dX2_applyInFront_181 : decode cX2_applyInFront 181 = .ok (.iconst 1, 1) := by decide +kernel
theorem dX2_applyInFront_182 : decode cX2_applyInFront 182 = .ok (.isub, 1) := by decide +kernel
theorem dX2_applyInFront_183 : decode cX2_applyInFront 183 = .ok (.iload_n 2, 1) := by decide +kernel
theorem dX2_applyInFront_184 : decode cX2_applyInFront 184 = .ok (.iastore, 1) := by decide +kernel
theorem dX2_applyInFront_185 : decode cX2_applyInFront 185 = .ok (.goto (-185), 3) := by decide +kernel
theorem dX2_applyInFront_188 : decode cX2_applyInFront 188 = .ok (.return_, 1) := by decide +kernel
theorem dX2_combineDownTo_0 : decode cX2_combineDownTo 0 = .ok (.aload_n 0, 1) := by decide +kernel
theorem dX2_combineDownTo_1 : decode cX2_combineDownTo 1 = .ok (.getfield 47, 3) := by decide +kernel
theorem dX2_combineDownTo_4 : decode cX2_combineDownTo 4 = .ok (.ifCond .le 193, 3) := by decide +kernel
theorem dX2_combineDownTo_7 : decode cX2_combineDownTo 7 = .ok (.aload_n 0, 1) := by decide +kernel
theorem dX2_combineDownTo_8 : decode cX2_combineDownTo 8 = .ok (.getfield 44, 3) := by decide +kernel
theorem dX2_combineDownTo_11 : decode cX2_combineDownTo 11 = .ok (.iconst 1, 1) := by decide +kernel
theorem dX2_combineDownTo_12 : decode cX2_combineDownTo 12 = .ok (.if_icmp .le 185, 3) := by decide +kernel
theorem dX2_combineDownTo_15 : decode cX2_combineDownTo 15 = .ok (.aload_n 0, 1) := by decide +kernel
theorem dX2_combineDownTo_16 : decode cX2_combineDownTo 16 = .ok (.getfield 19, 3) := by decide +kernel
theorem dX2_combineDownTo_19 : decode cX2_combineDownTo 19 = .ok (.aload_n 0, 1) := by decide +kernel
theorem dX2_combineDownTo_20 : decode cX2_combineDownTo 20 = .ok (.getfield 47, 3) := by decide +kernel
theorem dX2_combineDownTo_23 : decode cX2_combineDownTo 23 = .ok (.iconst 1, 1) := by decide +kernel
theorem dX2_combineDownTo_24 : decode cX2_combineDownTo 24 = .ok (.isub, 1) := by decide +kernel
theorem dX2_combineDownTo_25 : decode cX2_combineDownTo 25 = .ok (.caload, 1) := by decide +kernel
theorem dX2_combineDownTo_26 : decode cX2_combineDownTo 26 = .ok (.invokestatic 81, 3) := by decide +kernel
theorem dX2_combineDownTo_29 : decode cX2_combineDownTo 29 = .ok (.iload_n 1, 1) := by decide +kernel
theorem dX2_combineDownTo_30 : decode cX2_combineDownTo 30 = .ok (.if_icmp .lt 167, 3) := by decide +kernel
theorem dX2_combineDownTo_33 : decode cX2_combineDownTo 33 = .ok (.aload_n 0, 1) := by decide +kernel
theorem dX2_combineDownTo_34 : decode cX2_combineDownTo 34 = .ok (.dup, 1) := by decide +kernel
theorem dX2_combineDownTo_35 : decode cX2_combineDownTo 35 = .ok (.getfield 47, 3) := by decide +kernel
theorem dX2_combineDownTo_38 : decode cX2_combineDownTo 38 = .ok (.iconst 1, 1) := by decide +kernel
theorem dX2_combineDownTo_39 : decode cX2_combineDownTo 39 = .ok (.isub, 1) := by decide +kernel
theorem dX2_combineDownTo_40 : decode cX2_combineDownTo 40 = .ok (.putfield 47, 3) := by decide +kernel
theorem dX2_combineDownTo_43 : decode cX2_combineDownTo 43 = .ok (.aload_n 0, 1) := by decide +kernel
theorem dX2_combineDownTo_44 : decode cX2_combineDownTo 44 = .ok (.dup, 1) := by decide +kernel
theorem dX2_combineDownTo_45 : decode cX2_combineDownTo 45 = .ok (.getfield 44, 3) := by decide +kernel
theorem dX2_combineDownTo_48 : decode cX2_combineDownTo 48 = .ok (.iconst 1, 1) := by decide +kernel
theorem dX2_combineDownTo_49 : decode cX2_combineDownTo 49 = .ok (.isub, 1) := by decide +kernel
theorem dX2_combineDownTo_50 : decode cX2_combineDownTo 50 = .ok (.putfield 44, 3) := by decide +kernel
theorem dX2_combineDownTo_53 : decode cX2_combineDownTo 53 = .ok (.aload_n 0, 1) := by decide +kernel
theorem dX2_combineDownTo_54 : decode cX2_combineDownTo 54 = .ok (.getfield 15, 3) := by decide +kernel
theorem dX2_combineDownTo_57 : decode cX2_combineDownTo 57 = .ok (.aload_n 0, 1) := by decide +kernel
theorem dX2_combineDownTo_58 : decode cX2_combineDownTo 58 = .ok (.getfield 44, 3) := by decide +kernel
theorem dX2_combineDownTo_61 : decode cX2_combineDownTo 61 = .ok (.iconst 1, 1) := by decide +kernel
theorem dX2_combineDownTo_62 : decode cX2_combineDownTo 62 = .ok (.isub, 1) := by decide +kernel
theorem dX2_combineDownTo_63 : decode cX2_combineDownTo 63 = .ok (.iaload, 1) := by decide +kernel
theorem dX2_combineDownTo_64 : decode cX2_combineDownTo 64 = .ok (.istore_n 2, 1) := by decide +kernel
theorem dX2_combineDownTo_65 : decode cX2_combineDownTo 65 = .ok (.aload_n 0, 1) := by decide +kernel
theorem dX2_combineDownTo_66 : decode cX2_combineDownTo 66 = .ok (.getfield 15, 3) := by decide +kernel
theorem dX2_combineDownTo_69 : decode cX2_combineDownTo 69 = .ok (.aload_n 0, 1) := by decide +kernel
theorem dX2_combineDownTo_70 : decode cX2_combineDownTo 70 = .ok (.getfield 44, 3) := by decide +kernel
theorem dX2_combineDownTo_73 : decode cX2_combineDownTo 73 = .ok (.iaload, 1) := by decide +kernel
theorem dX2_combineDownTo_74 : decode cX2_combineDownTo 74 = .ok (.istore_n 3, 1) := by decide +kernel
theorem dX2_combineDownTo_75 : decode cX2_combineDownTo 75 = .ok (.aload_n 0, 1) := by decide +kernel
theorem dX2_combineDownTo_76 : decode cX2_combineDownTo 76 = .ok (.getfield 19, 3) := by decide +kernel
theorem dX2_combineDownTo_79 : decode cX2_combineDownTo 79 = .ok (.aload_n 0, 1) := by decide +kernel
theorem dX2_combineDownTo_80 : decode cX2_combineDownTo 80 = .ok (.getfield 47, 3) := by decide +kernel
theorem dX2_combineDownTo_83 : decode cX2_combineDownTo 83 = .ok (.caload, 1) := by decide +kernel
theorem dX2_combineDownTo_84 : decode cX2_combineDownTo 84 = .ok (.lookupswitch 84 #[(38, 68), (82, 52), (85, 36)], 36) := by decide +kernel
theorem dX2_combineDownTo_120 : decode cX2_combineDownTo 120 = .ok (.aload_n 0, 1) := by decide +kernel
theorem dX2_combineDownTo_121 : decode cX2_combineDownTo 121 = .ok (.getfield 26, 3) := by decide +kernel
theorem dX2_combineDownTo_124 : decode cX2_combineDownTo 124 = .ok (.bipush 18, 2) := by decide +kernel
theorem dX2_combineDownTo_126 : decode cX2_combineDownTo 126 = .ok (.iload_n 2, 1) := by decide +kernel
theorem dX2_combineDownTo_127 : decode cX2_combineDownTo 127 = .ok (.iload_n 3, 1) := by decide +kernel
theorem dX2_combineDownTo_128 : decode cX2_combineDownTo 128 = .ok (.invokevirtual 77, 3) := by decide +kernel
theorem dX2_combineDownTo_131 : decode cX2_combineDownTo 131 = .ok (.istore 4, 2) := by decide +kernel
theorem dX2_combineDownTo_133 : decode cX2_combineDownTo 133 = .ok (.goto 48, 3) := by decide +kernel
theorem dX2_combineDownTo_136 : decode cX2_combineDownTo 136 = .ok (.aload_n 0, 1) := by decide +kernel
theorem dX2_combineDownTo_137 : decode cX2_combineDownTo 137 = .ok (.getfield 26, 3) := by decide +kernel
theorem dX2_combineDownTo_140 : decode cX2_combineDownTo 140 = .ok (.bipush 19, 2) := by decide +kernel
theorem dX2_combineDownTo_142 : decode cX2_combineDownTo 142 = .ok (.iload_n 2, 1) := by decide +kernel
theorem dX2_combineDownTo_143 : decode cX2_combineDownTo 143 = .ok (.iload_n 3, 1) := by decide +kernel
theorem dX2_combineDownTo_144 : decode cX2_combineDownTo 144 = .ok (.invokevirtual 77, 3) := by decide +kernel
theorem dX2_combineDownTo_147 : decode cX2_combineDownTo 147 = .ok (.istore 4, 2) := by decide +kernel
theorem dX2_combineDownTo_149 : decode cX2_combineDownTo 149 = .ok (.goto 32, 3) := by decide +kernel
theorem dX2_combineDownTo_152 : decode cX2_combineDownTo 152 = .ok (.aload_n 0, 1) := by decide +kernel
theorem dX2_combineDownTo_153 : decode cX2_combineDownTo 153 = .ok (.getfield 26, 3) := by decide +kernel
theorem dX2_combineDownTo_156 : decode cX2_combineDownTo 156 = .ok (.bipush 20, 2) := by decide +kernel
theorem dX2_combineDownTo_158 : decode cX2_combineDownTo 158 = .ok (.iload_n 2, 1) := by decide +kernel
theorem dX2_combineDownTo_159 : decode cX2_combineDownTo 159 = .ok (.iload_n 3, 1) := by decide +kernel
theorem dX2_combineDownTo_160 : decode cX2_combineDownTo 160 = .ok (.invokevirtual 84, 3) := by decide +kernel
theorem dX2_combineDownTo_163 : decode cX2_combineDownTo 163 = .ok (.istore 4, 2) := by decide +kernel
theorem dX2_combineDownTo_165 : decode cX2_combineDownTo 165 = .ok (.goto 16, 3) := by decide +kernel
theorem dX2_combineDownTo_168 : decode cX2_combineDownTo 168 = .ok (.aload_n 0, 1) := by decide +kernel
theorem dX2_combineDownTo_169 : decode cX2_combineDownTo 169 = .ok (.getfield 26, 3) := by decide +kernel
theorem dX2_combineDownTo_172 : decode cX2_combineDownTo 172 = .ok (.bipush 21, 2) := by decide +kernel
theorem dX2_combineDownTo_174 : decode cX2_combineDownTo 174 = .ok (.iload_n 2, 1) := by decide +kernel
theorem dX2_combineDownTo_175 : decode cX2_combineDownTo 175 = .ok (.iload_n 3, 1) := by decide +kernel
theorem dX2_combineDownTo_176 : decode cX2_combineDownTo 176 = .ok (.invokevirtual 84, 3) := by decide +kernel
theorem dX2_combineDownTo_179 : decode cX2_combineDownTo 179 = .ok (.istore 4, 2) := by decide +kernel
theorem dX2_combineDownTo_181 : decode cX2_combineDownTo 181 = .ok (.aload_n 0, 1) := by decide +kernel
theorem dX2_combineDownTo_182 : decode cX2_combineDownTo 182 = .ok (.getfield 15, 3) := by decide +kernel
theorem dX2_combineDownTo_185 : decode cX2_combineDownTo 185 = .ok (.aload_n 0, 1) := by decide +kernel
theorem dX2_combineDownTo_186 : decode cX2_combineDownTo 186 = .ok (.getfield 44, 3) := by decide +kernel
theorem dX2_combineDownTo_189 : decode cX2_combineDownTo 189 = .ok (.iconst 1, 1) := by decide +kernel
theorem dX2_combineDownTo_190 : decode cX2_combineDownTo 190 = .ok (.isub, 1) := by decide +kernel
theorem dX2_combineDownTo_191 : decode cX2_combineDownTo 191 = .ok (.iload 4, 2) := by decide +kernel
theorem dX2_combineDownTo_193 : decode cX2_combineDownTo 193 = .ok (.iastore, 1) := by decide +kernel
theorem dX2_combineDownTo_194 : decode cX2_combineDownTo 194 = .ok (.goto (-194), 3) := by decide +kernel
theorem dX2_combineDownTo_197 : decode cX2_combineDownTo 197 = .ok (.return_, 1) := by decide +kernel
theorem dX2_leastToCombine_0 : decode cX2_leastToCombine 0 = .ok (.iload_n 0, 1) := by decide +kernel
theorem dX2_leastToCombine_1 : decode cX2_leastToCombine 1 = .ok (.bipush 85, 2) := by decide +kernel
theorem dX2_leastToCombine_3 : decode cX2_leastToCombine 3 = .ok (.if_icmp .eq 9, 3) := by decide +kernel
theorem dX2_leastToCombine_6 : decode cX2_leastToCombine 6 = .ok (.iload_n 0, 1) := by decide +kernel
theorem dX2_leastToCombine_7 : decode cX2_leastToCombine 7 = .ok (.bipush 82, 2) := by decide +kernel
theorem dX2_leastToCombine_9 : decode cX2_leastToCombine 9 = .ok (.if_icmp .ne 12, 3) := by decide +kernel
theorem dX2_leastToCombine_12 : decode cX2_leastToCombine 12 = .ok (.iload_n 0, 1) := by decide +kernel
theorem dX2_leastToCombine_13 : decode cX2_leastToCombine 13 = .ok (.invokestatic 81, 3) := by decide +kernel
theorem dX2_leastToCombine_16 : decode cX2_leastToCombine 16 = .ok (.iconst 1, 1) := by decide +kernel
theorem dX2_leastToCombine_17 : decode cX2_leastToCombine 17 = .ok (.iadd, 1) := by decide +kernel
theorem dX2_leastToCombine_18 : decode cX2_leastToCombine 18 = .ok (.goto 7, 3) := by decide +kernel
theorem dX2_leastToCombine_21 : decode cX2_leastToCombine 21 = .ok (.iload_n 0, 1) := by decide +kernel
theorem dX2_leastToCombine_22 : decode cX2_leastToCombine 22 = .ok (.invokestatic 81, 3) := by decide +kernel
theorem dX2_leastToCombine_25 : decode cX2_leastToCombine 25 = .ok (.ireturn, 1) := by decide +kernel
theorem dX2_binding_0 : decode cX2_binding 0 = .ok (.iload_n 0, 1) := by decide +kernel
theorem dX2_binding_1 : decode cX2_binding 1 = .ok (.lookupswitch 51 #[(38, 45), (82, 49), (85, 47), (124, 43)], 43) := by decide +kernel
theorem dX2_binding_44 : decode cX2_binding 44 = .ok (.iconst 1, 1) := by decide +kernel
theorem dX2_binding_45 : decode cX2_binding 45 = .ok (.ireturn, 1) := by decide +kernel
theorem dX2_binding_46 : decode cX2_binding 46 = .ok (.iconst 2, 1) := by decide +kernel
theorem dX2_binding_47 : decode cX2_binding 47 = .ok (.ireturn, 1) := by decide +kernel
theorem dX2_binding_48 : decode cX2_binding 48 = .ok (.iconst 3, 1) := by decide +kernel
theorem dX2_binding_49 : decode cX2_binding 49 = .ok (.ireturn, 1) := by decide +kernel
theorem dX2_binding_50 : decode cX2_binding 50 = .ok (.iconst 3, 1) := by decide +kernel
theorem dX2_binding_51 : decode cX2_binding 51 = .ok (.ireturn, 1) := by decide +kernel
theorem dX2_binding_52 : decode cX2_binding 52 = .ok (.iconst 0, 1) := by decide +kernel
theorem dX2_binding_53 : decode cX2_binding 53 = .ok (.ireturn, 1) := by decide +kernel
theorem dX2_isBetween_0 : decode cX2_isBetween 0 = .ok (.iload_n 0, 1) := by decide +kernel
theorem dX2_isBetween_1 : decode cX2_isBetween 1 = .ok (.invokestatic 81, 3) := by decide +kernel
theorem dX2_isBetween_4 : decode cX2_isBetween 4 = .ok (.ifCond .le 7, 3) := by decide +kernel
theorem dX2_isBetween_7 : decode cX2_isBetween 7 = .ok (.iconst 1, 1) := by decide +kernel
theorem dX2_isBetween_8 : decode cX2_isBetween 8 = .ok (.goto 4, 3) := by decide +kernel
theorem dX2_isBetween_11 : decode cX2_isBetween 11 = .ok (.iconst 0, 1) := by decide +kernel
theorem dX2_isBetween_12 : decode cX2_isBetween 12 = .ok (.ireturn, 1) := by decide +kernel
theorem dX2_isInFront_0 : decode cX2_isInFront 0 = .ok (.iload_n 0, 1) := by decide +kernel
theorem dX2_isInFront_1 : decode cX2_isInFront 1 = .ok (.bipush 33, 2) := by decide +kernel
theorem dX2_isInFront_3 : decode cX2_isInFront 3 = .ok (.if_icmp .eq 27, 3) := by decide +kernel
theorem dX2_isInFront_6 : decode cX2_isInFront 6 = .ok (.iload_n 0, 1) := by decide +kernel
theorem dX2_isInFront_7 : decode cX2_isInFront 7 = .ok (.bipush 88, 2) := by decide +kernel
theorem dX2_isInFront_9 : decode cX2_isInFront 9 = .ok (.if_icmp .eq 21, 3) := by decide +kernel
theorem dX2_isInFront_12 : decode cX2_isInFront 12 = .ok (.iload_n 0, 1) := by decide +kernel
theorem dX2_isInFront_13 : decode cX2_isInFront 13 = .ok (.bipush 78, 2) := by decide +kernel
theorem dX2_isInFront_15 : decode cX2_isInFront 15 = .ok (.if_icmp .eq 15, 3) := by decide +kernel
theorem dX2_isInFront_18 : decode cX2_isInFront 18 = .ok (.iload_n 0, 1) := by decide +kernel
theorem dX2_isInFront_19 : decode cX2_isInFront 19 = .ok (.bipush 71, 2) := by decide +kernel
theorem dX2_isInFront_21 : decode cX2_isInFront 21 = .ok (.if_icmp .eq 9, 3) := by decide +kernel
theorem dX2_isInFront_24 : decode cX2_isInFront 24 = .ok (.iload_n 0, 1) := by decide +kernel
theorem dX2_isInFront_25 : decode cX2_isInFront 25 = .ok (.bipush 70, 2) := by decide +kernel
theorem dX2_isInFront_27 : decode cX2_isInFront 27 = .ok (.if_icmp .ne 7, 3) := by decide +kernel
theorem dX2_isInFront_30 : decode cX2_isInFront 30 = .ok (.iconst 1, 1) := by decide +kernel
theorem dX2_isInFront_31 : decode cX2_isInFront 31 = .ok (.goto 4, 3) := by decide +kernel
theorem dX2_isInFront_34 : decode cX2_isInFront 34 = .ok (.iconst 0, 1) := by decide +kernel
theorem dX2_isInFront_35 : decode cX2_isInFront 35 = .ok (.ireturn, 1) := by decide +kernel
theorem dX2_isValue_0 : decode cX2_isValue 0 = .ok (.iload_n 0, 1) := by decide +kernel
theorem dX2_isValue_1 : decode cX2_isValue 1 = .ok (.bipush 48, 2) := by decide +kernel
theorem dX2_isValue_3 : decode cX2_isValue 3 = .ok (.if_icmp .eq 21, 3) := by decide +kernel
theorem dX2_isValue_6 : decode cX2_isValue 6 = .ok (.iload_n 0, 1) := by decide +kernel
theorem dX2_isValue_7 : decode cX2_isValue 7 = .ok (.bipush 49, 2) := by decide +kernel
theorem dX2_isValue_9 : decode cX2_isValue 9 = .ok (.if_icmp .eq 15, 3) := by decide +kernel
theorem dX2_isValue_12 : decode cX2_isValue 12 = .ok (.iload_n 0, 1) := by decide +kernel
theorem dX2_isValue_13 : decode cX2_isValue 13 = .ok (.bipush 97, 2) := by decide +kernel
theorem dX2_isValue_15 : decode cX2_isValue 15 = .ok (.if_icmp .lt 13, 3) := by decide +kernel
theorem dX2_isValue_18 : decode cX2_isValue 18 = .ok (.iload_n 0, 1) := by decide +kernel
theorem dX2_isValue_19 : decode cX2_isValue 19 = .ok (.bipush 102, 2) := by decide +kernel
theorem dX2_isValue_21 : decode cX2_isValue 21 = .ok (.if_icmp .gt 7, 3) := by decide +kernel
theorem dX2_isValue_24 : decode cX2_isValue 24 = .ok (.iconst 1, 1) := by decide +kernel
theorem dX2_isValue_25 : decode cX2_isValue 25 = .ok (.goto 4, 3) := by decide +kernel
theorem dX2_isValue_28 : decode cX2_isValue 28 = .ok (.iconst 0, 1) := by decide +kernel
theorem dX2_isValue_29 : decode cX2_isValue 29 = .ok (.ireturn, 1) := by decide +kernel
theorem dX2_valueOf_0 : decode cX2_valueOf 0 = .ok (.iload_n 0, 1) := by decide +kernel
theorem dX2_valueOf_1 : decode cX2_valueOf 1 = .ok (.bipush 48, 2) := by decide +kernel
theorem dX2_valueOf_3 : decode cX2_valueOf 3 = .ok (.if_icmp .ne 7, 3) := by decide +kernel
theorem dX2_valueOf_6 : decode cX2_valueOf 6 = .ok (.iconst 0, 1) := by decide +kernel
theorem dX2_valueOf_7 : decode cX2_valueOf 7 = .ok (.goto 19, 3) := by decide +kernel
theorem dX2_valueOf_10 : decode cX2_valueOf 10 = .ok (.iload_n 0, 1) := by decide +kernel
theorem dX2_valueOf_11 : decode cX2_valueOf 11 = .ok (.bipush 49, 2) := by decide +kernel
theorem dX2_valueOf_13 : decode cX2_valueOf 13 = .ok (.if_icmp .ne 7, 3) := by decide +kernel
theorem dX2_valueOf_16 : decode cX2_valueOf 16 = .ok (.iconst 1, 1) := by decide +kernel
theorem dX2_valueOf_17 : decode cX2_valueOf 17 = .ok (.goto 9, 3) := by decide +kernel
theorem dX2_valueOf_20 : decode cX2_valueOf 20 = .ok (.iconst 4, 1) := by decide +kernel
theorem dX2_valueOf_21 : decode cX2_valueOf 21 = .ok (.iload_n 0, 1) := by decide +kernel
theorem dX2_valueOf_22 : decode cX2_valueOf 22 = .ok (.bipush 97, 2) := by decide +kernel
theorem dX2_valueOf_24 : decode cX2_valueOf 24 = .ok (.isub, 1) := by decide +kernel
theorem dX2_valueOf_25 : decode cX2_valueOf 25 = .ok (.iadd, 1) := by decide +kernel
theorem dX2_valueOf_26 : decode cX2_valueOf 26 = .ok (.ireturn, 1) := by decide +kernel
theorem dX3_init_0 : decode cX3_init 0 = .ok (.aload_n 0, 1) := by decide +kernel
theorem dX3_init_1 : decode cX3_init 1 = .ok (.invokespecial 3, 3) := by decide +kernel
theorem dX3_init_4 : decode cX3_init 4 = .ok (.aload_n 0, 1) := by decide +kernel
theorem dX3_init_5 : decode cX3_init 5 = .ok (.bipush 120, 2) := by decide +kernel
theorem dX3_init_7 : decode cX3_init 7 = .ok (.newarray .int, 2) := by decide +kernel
theorem dX3_init_9 : decode cX3_init 9 = .ok (.putfield 9, 3) := by decide +kernel
theorem dX3_init_12 : decode cX3_init 12 = .ok (.aload_n 0, 1) := by decide +kernel
theorem dX3_init_13 : decode cX3_init 13 = .ok (.sipush 360, 3) := by decide +kernel
theorem dX3_init_16 : decode cX3_init 16 = .ok (.newarray .char, 2) := by decide +kernel
theorem dX3_init_18 : decode cX3_init 18 = .ok (.putfield 15, 3) := by decide +kernel
theorem dX3_init_21 : decode cX3_init 21 = .ok (.aload_n 0, 1) := by decide +kernel
theorem dX3_init_22 : decode cX3_init 22 = .ok (.bipush 120, 2) := by decide +kernel
theorem dX3_init_24 : decode cX3_init 24 = .ok (.newarray .char, 2) := by decide +kernel
theorem dX3_init_26 : decode cX3_init 26 = .ok (.putfield 19, 3) := by decide +kernel
theorem dX3_init_29 : decode cX3_init 29 = .ok (.aload_n 0, 1) := by decide +kernel
theorem dX3_init_30 : decode cX3_init 30 = .ok (.bipush 120, 2) := by decide +kernel
theorem dX3_init_32 : decode cX3_init 32 = .ok (.newarray .int, 2) := by decide +kernel
theorem dX3_init_34 : decode cX3_init 34 = .ok (.putfield 22, 3) := by decide +kernel
theorem dX3_init_37 : decode cX3_init 37 = .ok (.aload_n 0, 1) := by decide +kernel
theorem dX3_init_38 : decode cX3_init 38 = .ok (.aload_n 1, 1) := by decide +kernel
theorem dX3_init_39 : decode cX3_init 39 = .ok (.putfield 25, 3) := by decide +kernel
theorem dX3_init_42 : decode cX3_init 42 = .ok (.return_, 1) := by decide +kernel
theorem dX3_load_0 : decode cX3_load 0 = .ok (.bipush 120, 2) := by decide +kernel
theorem dX3_load_2 : decode cX3_load 2 = .ok (.istore_n 3, 1) := by decide +kernel
theorem dX3_load_3 : decode cX3_load 3 = .ok (.aload_n 1, 1) := by decide +kernel
theorem dX3_load_4 : decode cX3_load 4 = .ok (.getfield 29, 3) := by decide +kernel
theorem dX3_load_7 : decode cX3_load 7 = .ok (.iload_n 2, 1) := by decide +kernel
theorem dX3_load_8 : decode cX3_load 8 = .ok (.iaload, 1) := by decide +kernel
theorem dX3_load_9 : decode cX3_load 9 = .ok (.iconst 1, 1) := by decide +kernel
theorem dX3_load_10 : decode cX3_load 10 = .ok (.isub, 1) := by decide +kernel
theorem dX3_load_11 : decode cX3_load 11 = .ok (.istore 4, 2) := by decide +kernel
theorem dX3_load_13 : decode cX3_load 13 = .ok (.iload 4, 2) := by decide +kernel
theorem dX3_load_15 : decode cX3_load 15 = .ok (.ifCond .lt 86, 3) := by decide +kernel
theorem dX3_load_18 : decode cX3_load 18 = .ok (.aload_n 1, 1) := by decide +kernel
theorem dX3_load_19 : decode cX3_load 19 = .ok (.getfield 34, 3) := by decide +kernel
theorem dX3_load_22 : decode cX3_load 22 = .ok (.iload_n 2, 1) := by decide +kernel
theorem dX3_load_23 : decode cX3_load 23 = .ok (.bipush 120, 2) := by decide +kernel
theorem dX3_load_25 : decode cX3_load 25 = .ok (.imul, 1) := by decide +kernel
theorem dX3_load_26 : decode cX3_load 26 = .ok (.iload 4, 2) := by decide +kernel
theorem dX3_load_28 : decode cX3_load 28 = .ok (.iadd, 1) := by decide +kernel
theorem dX3_load_29 : decode cX3_load 29 = .ok (.iaload, 1) := by decide +kernel
theorem dX3_load_30 : decode cX3_load 30 = .ok (.istore 5, 2) := by decide +kernel
theorem dX3_load_32 : decode cX3_load 32 = .ok (.iload 5, 2) := by decide +kernel
theorem dX3_load_34 : decode cX3_load 34 = .ok (.iconst 5, 1) := by decide +kernel
theorem dX3_load_35 : decode cX3_load 35 = .ok (.ishr, 1) := by decide +kernel
theorem dX3_load_36 : decode cX3_load 36 = .ok (.istore 6, 2) := by decide +kernel
theorem dX3_load_38 : decode cX3_load 38 = .ok (.iload 5, 2) := by decide +kernel
theorem dX3_load_40 : decode cX3_load 40 = .ok (.istore 7, 2) := by decide +kernel
theorem dX3_load_42 : decode cX3_load 42 = .ok (.iload 6, 2) := by decide +kernel
theorem dX3_load_44 : decode cX3_load 44 = .ok (.ifCond .le 24, 3) := by decide +kernel
theorem dX3_load_47 : decode cX3_load 47 = .ok (.aload_n 0, 1) := by decide +kernel
theorem dX3_load_48 : decode cX3_load 48 = .ok (.getfield 25, 3) := by decide +kernel
theorem dX3_load_51 : decode cX3_load 51 = .ok (.iload 5, 2) := by decide +kernel
theorem dX3_load_53 : decode cX3_load 53 = .ok (.bipush 31, 2) := by decide +kernel
theorem dX3_load_55 : decode cX3_load 55 = .ok (.iand, 1) := by decide +kernel
theorem dX3_load_56 : decode cX3_load 56 = .ok (.aload_n 0, 1) := by decide +kernel
theorem dX3_load_57 : decode cX3_load 57 = .ok (.getfield 9, 3) := by decide +kernel
theorem dX3_load_60 : decode cX3_load 60 = .ok (.iload_n 3, 1) := by decide +kernel
theorem dX3_load_61 : decode cX3_load 61 = .ok (.iload 6, 2) := by decide +kernel
theorem dX3_load_63 : decode cX3_load 63 = .ok (.invokevirtual 37, 3) := by decide +kernel
theorem dX3_load_66 : decode cX3_load 66 = .ok (.istore 7, 2) := by decide +kernel
theorem dX3_load_68 : decode cX3_load 68 = .ok (.iload_n 3, 1) := by decide +kernel
theorem dX3_load_69 : decode cX3_load 69 = .ok (.iload 6, 2) := by decide +kernel
theorem dX3_load_71 : decode cX3_load 71 = .ok (.iconst 1, 1) := by decide +kernel
theorem dX3_load_72 : decode cX3_load 72 = .ok (.isub, 1) := by decide +kernel
theorem dX3_load_73 : decode cX3_load 73 = .ok (.iadd, 1) := by decide +kernel
theorem dX3_load_74 : decode cX3_load 74 = .ok (.istore_n 3, 1) := by decide +kernel
theorem dX3_load_75 : decode cX3_load 75 = .ok (.iload_n 3, 1) := by decide +kernel
theorem dX3_load_76 : decode cX3_load 76 = .ok (.ifCond .lt 9, 3) := by decide +kernel
theorem dX3_load_79 : decode cX3_load 79 = .ok (.iload_n 3, 1) := by decide +kernel
theorem dX3_load_80 : decode cX3_load 80 = .ok (.bipush 120, 2) := by decide +kernel
theorem dX3_load_82 : decode cX3_load 82 = .ok (.if_icmp .lt 5, 3) := by decide +kernel
theorem dX3_load_85 : decode cX3_load 85 = .ok (.iconst 0, 1) := by decide +kernel
theorem dX3_load_86 : decode cX3_load 86 = .ok (.ireturn, 1) := by decide +kernel
theorem dX3_load_87 : decode cX3_load 87 = .ok (.aload_n 0, 1) := by decide +kernel
theorem dX3_load_88 : decode cX3_load 88 = .ok (.getfield 9, 3) := by decide +kernel
theorem dX3_load_91 : decode cX3_load 91 = .ok (.iload_n 3, 1) := by decide +kernel
theorem dX3_load_92 : decode cX3_load 92 = .ok (.iload 7, 2) := by decide +kernel
theorem dX3_load_94 : decode cX3_load 94 = .ok (.iastore, 1) := by decide +kernel
theorem dX3_load_95 : decode cX3_load 95 = .ok (.iinc 4 (-1), 3) := by decide +kernel
theorem dX3_load_98 : decode cX3_load 98 = .ok (.goto (-85), 3) := by decide +kernel
theorem dX3_load_101 : decode cX3_load 101 = .ok (.iload_n 3, 1) := by decide +kernel
theorem dX3_load_102 : decode cX3_load 102 = .ok (.bipush 120, 2) := by decide +kernel
theorem dX3_load_104 : decode cX3_load 104 = .ok (.if_icmp .ge 12, 3) := by decide +kernel
theorem dX3_load_107 : decode cX3_load 107 = .ok (.aload_n 0, 1) := by decide +kernel
theorem dX3_load_108 : decode cX3_load 108 = .ok (.getfield 9, 3) := by decide +kernel
theorem dX3_load_111 : decode cX3_load 111 = .ok (.iload_n 3, 1) := by decide +kernel
theorem dX3_load_112 : decode cX3_load 112 = .ok (.iaload, 1) := by decide +kernel
theorem dX3_load_113 : decode cX3_load 113 = .ok (.goto 4, 3) := by decide +kernel
theorem dX3_load_116 : decode cX3_load 116 = .ok (.iconst 0, 1) := by decide +kernel
theorem dX3_load_117 : decode cX3_load 117 = .ok (.ireturn, 1) := by decide +kernel
theorem dX3_save_0 : decode cX3_save 0 = .ok (.aload_n 0, 1) := by decide +kernel
theorem dX3_save_1 : decode cX3_save 1 = .ok (.getfield 25, 3) := by decide +kernel
theorem dX3_save_4 : decode cX3_save 4 = .ok (.getfield 43, 3) := by decide +kernel
theorem dX3_save_7 : decode cX3_save 7 = .ok (.iload_n 1, 1) := by decide +kernel
theorem dX3_save_8 : decode cX3_save 8 = .ok (.iaload, 1) := by decide +kernel
theorem dX3_save_9 : decode cX3_save 9 = .ok (.istore 4, 2) := by decide +kernel
theorem dX3_save_11 : decode cX3_save 11 = .ok (.iconst 1, 1) := by decide +kernel
theorem dX3_save_12 : decode cX3_save 12 = .ok (.istore 5, 2) := by decide +kernel
theorem dX3_save_14 : decode cX3_save 14 = .ok (.aload_n 0, 1) := by decide +kernel
theorem dX3_save_15 : decode cX3_save 15 = .ok (.getfield 9, 3) := by decide +kernel
theorem dX3_save_18 : decode cX3_save 18 = .ok (.iconst 0, 1) := by decide +kernel
theorem dX3_save_19 : decode cX3_save 19 = .ok (.iload_n 1, 1) := by decide +kernel
theorem dX3_save_20 : decode cX3_save 20 = .ok (.iastore, 1) := by decide +kernel
theorem dX3_save_21 : decode cX3_save 21 = .ok (.iconst 0, 1) := by decide +kernel
theorem dX3_save_22 : decode cX3_save 22 = .ok (.istore 6, 2) := by decide +kernel
theorem dX3_save_24 : decode cX3_save 24 = .ok (.iload 6, 2) := by decide +kernel
theorem dX3_save_26 : decode cX3_save 26 = .ok (.iload 4, 2) := by decide +kernel
theorem dX3_save_28 : decode cX3_save 28 = .ok (.if_icmp .ge 117, 3) := by decide +kernel
theorem dX3_save_31 : decode cX3_save 31 = .ok (.iload 6, 2) := by decide +kernel
theorem dX3_save_33 : decode cX3_save 33 = .ok (.bipush 120, 2) := by decide +kernel
theorem dX3_save_35 : decode cX3_save 35 = .ok (.if_icmp .ge 110, 3) := by decide +kernel
theorem dX3_save_38 : decode cX3_save 38 = .ok (.iload 5, 2) := by decide +kernel
theorem dX3_save_40 : decode cX3_save 40 = .ok (.ifCond .le 105, 3) := by decide +kernel
theorem dX3_save_43 : decode cX3_save 43 = .ok (.iinc 5 (-1), 3) := by decide +kernel
theorem dX3_save_46 : decode cX3_save 46 = .ok (.aload_n 0, 1) := by decide +kernel
theorem dX3_save_47 : decode cX3_save 47 = .ok (.getfield 9, 3) := by decide +kernel
theorem dX3_save_50 : decode cX3_save 50 = .ok (.iload 5, 2) := by decide +kernel
theorem dX3_save_52 : decode cX3_save 52 = .ok (.iaload, 1) := by decide +kernel
theorem dX3_save_53 : decode cX3_save 53 = .ok (.istore 7, 2) := by decide +kernel
theorem dX3_save_55 : decode cX3_save 55 = .ok (.aload_n 0, 1) := by decide +kernel
theorem dX3_save_56 : decode cX3_save 56 = .ok (.getfield 25, 3) := by decide +kernel
theorem dX3_save_59 : decode cX3_save 59 = .ok (.getfield 46, 3) := by decide +kernel
theorem dX3_save_62 : decode cX3_save 62 = .ok (.iload 7, 2) := by decide +kernel
theorem dX3_save_64 : decode cX3_save 64 = .ok (.iaload, 1) := by decide +kernel
theorem dX3_save_65 : decode cX3_save 65 = .ok (.istore 8, 2) := by decide +kernel
theorem dX3_save_67 : decode cX3_save 67 = .ok (.aload_n 2, 1) := by decide +kernel
theorem dX3_save_68 : decode cX3_save 68 = .ok (.getfield 34, 3) := by decide +kernel
theorem dX3_save_71 : decode cX3_save 71 = .ok (.iload_n 3, 1) := by decide +kernel
theorem dX3_save_72 : decode cX3_save 72 = .ok (.bipush 120, 2) := by decide +kernel
theorem dX3_save_74 : decode cX3_save 74 = .ok (.imul, 1) := by decide +kernel
theorem dX3_save_75 : decode cX3_save 75 = .ok (.iload 6, 2) := by decide +kernel
theorem dX3_save_77 : decode cX3_save 77 = .ok (.iadd, 1) := by decide +kernel
theorem dX3_save_78 : decode cX3_save 78 = .ok (.aload_n 0, 1) := by decide +kernel
theorem dX3_save_79 : decode cX3_save 79 = .ok (.getfield 25, 3) := by decide +kernel
theorem dX3_save_82 : decode cX3_save 82 = .ok (.getfield 49, 3) := by decide +kernel
theorem dX3_save_85 : decode cX3_save 85 = .ok (.iload 7, 2) := by decide +kernel
theorem dX3_save_87 : decode cX3_save 87 = .ok (.iaload, 1) := by decide +kernel
theorem dX3_save_88 : decode cX3_save 88 = .ok (.iload 8, 2) := by decide +kernel
theorem dX3_save_90 : decode cX3_save 90 = .ok (.iconst 5, 1) := by decide +kernel
theorem dX3_save_91 : decode cX3_save 91 = .ok (.ishl, 1) := by decide +kernel
theorem dX3_save_92 : decode cX3_save 92 = .ok (.ior, 1) := by decide +kernel
theorem dX3_save_93 : decode cX3_save 93 = .ok (.iastore, 1) := by decide +kernel
theorem dX3_save_94 : decode cX3_save 94 = .ok (.iload 8, 2) := by decide +kernel
theorem dX3_save_96 : decode cX3_save 96 = .ok (.iconst 1, 1) := by decide +kernel
theorem dX3_save_97 : decode cX3_save 97 = .ok (.isub, 1) := by decide +kernel
theorem dX3_save_98 : decode cX3_save 98 = .ok (.istore 9, 2) := by decide +kernel
theorem dX3_save_100 : decode cX3_save 100 = .ok (.iload 9, 2) := by decide +kernel
theorem dX3_save_102 : decode cX3_save 102 = .ok (.ifCond .lt 37, 3) := by decide +kernel
theorem dX3_save_105 : decode cX3_save 105 = .ok (.iload 5, 2) := by decide +kernel
theorem dX3_save_107 : decode cX3_save 107 = .ok (.bipush 120, 2) := by decide +kernel
theorem dX3_save_109 : decode cX3_save 109 = .ok (.if_icmp .ge 30, 3) := by decide +kernel
theorem dX3_save_112 : decode cX3_save 112 = .ok (.aload_n 0, 1) := by decide +kernel
theorem dX3_save_113 : decode cX3_save 113 = .ok (.getfield 9, 3) := by decide +kernel
theorem dX3_save_116 : decode cX3_save 116 = .ok (.iload 5, 2) := by decide +kernel
theorem dX3_save_118 : decode cX3_save 118 = .ok (.aload_n 0, 1) := by decide +kernel
theorem dX3_save_119 : decode cX3_save 119 = .ok (.getfield 25, 3) := by decide +kernel
theorem dX3_save_122 : decode cX3_save 122 = .ok (.iload 7, 2) := by decide +kernel
theorem dX3_save_124 : decode cX3_save 124 = .ok (.iload 9, 2) := by decide +kernel
theorem dX3_save_126 : decode cX3_save 126 = .ok (.invokevirtual 52, 3) := by decide +kernel
theorem dX3_save_129 : decode cX3_save 129 = .ok (.iastore, 1) := by decide +kernel
theorem dX3_save_130 : decode cX3_save 130 = .ok (.iinc 5 1, 3) := by decide +kernel
theorem dX3_save_133 : decode cX3_save 133 = .ok (.iinc 9 (-1), 3) := by decide +kernel
theorem dX3_save_136 : decode cX3_save 136 = .ok (.goto (-36), 3) := by decide +kernel
theorem dX3_save_139 : decode cX3_save 139 = .ok (.iinc 6 1, 3) := by decide +kernel
theorem dX3_save_142 : decode cX3_save 142 = .ok (.goto (-118), 3) := by decide +kernel
theorem dX3_save_145 : decode cX3_save 145 = .ok (.aload_n 2, 1) := by decide +kernel
theorem dX3_save_146 : decode cX3_save 146 = .ok (.getfield 29, 3) := by decide +kernel
theorem dX3_save_149 : decode cX3_save 149 = .ok (.iload_n 3, 1) := by decide +kernel
theorem dX3_save_150 : decode cX3_save 150 = .ok (.iload 4, 2) := by decide +kernel
theorem dX3_save_152 : decode cX3_save 152 = .ok (.iastore, 1) := by decide +kernel
theorem dX3_save_153 : decode cX3_save 153 = .ok (.return_, 1) := by decide +kernel
theorem dX3_spell_0 : decode cX3_spell 0 = .ok (.aload_n 0, 1) := by decide +kernel
theorem dX3_spell_1 : decode cX3_spell 1 = .ok (.iconst 0, 1) := by decide +kernel
theorem dX3_spell_2 : decode cX3_spell 2 = .ok (.putfield 56, 3) := by decide +kernel
theorem dX3_spell_5 : decode cX3_spell 5 = .ok (.aload_n 0, 1) := by decide +kernel
theorem dX3_spell_6 : decode cX3_spell 6 = .ok (.iconst 0, 1) := by decide +kernel
theorem dX3_spell_7 : decode cX3_spell 7 = .ok (.putfield 60, 3) := by decide +kernel
theorem dX3_spell_10 : decode cX3_spell 10 = .ok (.iconst 0, 1) := by decide +kernel
theorem dX3_spell_11 : decode cX3_spell 11 = .ok (.istore_n 3, 1) := by decide +kernel
theorem dX3_spell_12 : decode cX3_spell 12 = .ok (.iload_n 3, 1) := by decide +kernel
theorem dX3_spell_13 : decode cX3_spell 13 = .ok (.aload_n 1, 1) := by decide +kernel
theorem dX3_spell_14 : decode cX3_spell 14 = .ok (.getfield 29, 3) := by decide +kernel
theorem dX3_spell_17 : decode cX3_spell 17 = .ok (.iload_n 2, 1) := by decide +kernel
theorem dX3_spell_18 : decode cX3_spell 18 = .ok (.iaload, 1) := by decide +kernel
theorem dX3_spell_19 : decode cX3_spell 19 = .ok (.if_icmp .ge 131, 3) := by decide +kernel
theorem dX3_spell_22 : decode cX3_spell 22 = .ok (.aload_n 1, 1) := by decide +kernel
theorem dX3_spell_23 : decode cX3_spell 23 = .ok (.getfield 34, 3) := by decide +kernel
theorem dX3_spell_26 : decode cX3_spell 26 = .ok (.iload_n 2, 1) := by decide +kernel
theorem dX3_spell_27 : decode cX3_spell 27 = .ok (.bipush 120, 2) := by decide +kernel
theorem dX3_spell_29 : decode cX3_spell 29 = .ok (.imul, 1) := by decide +kernel
theorem dX3_spell_30 : decode cX3_spell 30 = .ok (.iload_n 3, 1) := by decide +kernel
theorem dX3_spell_31 : decode cX3_spell 31 = .ok (.iadd, 1) := by decide +kernel
theorem dX3_spell_32 : decode cX3_spell 32 = .ok (.iaload, 1) := by decide +kernel
theorem dX3_spell_33 : decode cX3_spell 33 = .ok (.istore 4, 2) := by decide +kernel
theorem dX3_spell_35 : decode cX3_spell 35 = .ok (.iload 4, 2) := by decide +kernel
theorem dX3_spell_37 : decode cX3_spell 37 = .ok (.iconst 5, 1) := by decide +kernel
theorem dX3_spell_38 : decode cX3_spell 38 = .ok (.ishr, 1) := by decide +kernel
theorem dX3_spell_39 : decode cX3_spell 39 = .ok (.istore 5, 2) := by decide +kernel
theorem dX3_spell_41 : decode cX3_spell 41 = .ok (.iload 4, 2) := by decide +kernel
theorem dX3_spell_43 : decode cX3_spell 43 = .ok (.bipush 31, 2) := by decide +kernel
theorem dX3_spell_45 : decode cX3_spell 45 = .ok (.iand, 1) := by decide +kernel
theorem dX3_spell_46 : decode cX3_spell 46 = .ok (.istore 6, 2) := by decide +kernel
theorem dX3_spell_48 : decode cX3_spell 48 = .ok (.iload 5, 2) := by decide +kernel
theorem dX3_spell_50 : decode cX3_spell 50 = .ok (.ifCond .ne 16, 3) := by decide +kernel
theorem dX3_spell_53 : decode cX3_spell 53 = .ok (.aload_n 0, 1) := by decide +kernel
theorem dX3_spell_54 : decode cX3_spell 54 = .ok (.iload 6, 2) := by decide +kernel
theorem dX3_spell_56 : decode cX3_spell 56 = .ok (.invokevirtual 63, 3) := by decide +kernel
theorem dX3_spell_59 : decode cX3_spell 59 = .ok (.aload_n 0, 1) := by decide +kernel
theorem dX3_spell_60 : decode cX3_spell 60 = .ok (.invokevirtual 67, 3) := by decide +kernel
theorem dX3_spell_63 : decode cX3_spell 63 = .ok (.goto 81, 3) := by decide +kernel
theorem dX3_spell_66 : decode cX3_spell 66 = .ok (.iload 5, 2) := by decide +kernel
theorem dX3_spell_68 : decode cX3_spell 68 = .ok (.iconst 1, 1) := by decide +kernel
theorem dX3_spell_69 : decode cX3_spell 69 = .ok (.if_icmp .ne 24, 3) := by decide +kernel
theorem dX3_spell_72 : decode cX3_spell 72 = .ok (.aload_n 0, 1) := by decide +kernel
theorem dX3_spell_73 : decode cX3_spell 73 = .ok (.iload 6, 2) := by decide +kernel
theorem dX3_spell_75 : decode cX3_spell 75 = .ok (.bipush 16, 2) := by decide +kernel
theorem dX3_spell_77 : decode cX3_spell 77 = .ok (.if_icmp .ne 8, 3) := by decide +kernel
theorem dX3_spell_80 : decode cX3_spell 80 = .ok (.bipush 88, 2) := by decide +kernel
theorem dX3_spell_82 : decode cX3_spell 82 = .ok (.goto 5, 3) := by decide +kernel
theorem dX3_spell_85 : decode cX3_spell 85 = .ok (.bipush 78, 2) := by decide +kernel
theorem dX3_spell_87 : decode cX3_spell 87 = .ok (.invokevirtual 70, 3) := by decide +kernel
theorem dX3_spell_90 : decode cX3_spell 90 = .ok (.goto 54, 3) := by decide +kernel
theorem dX3_spell_93 : decode cX3_spell 93 = .ok (.aload_n 0, 1) := by decide +kernel
theorem dX3_spell_94 : decode cX3_spell 94 = .ok (.getfield 60, 3) := by decide +kernel
theorem dX3_spell_97 : decode cX3_spell 97 = .ok (.bipush 120, 2) := by decide +kernel
theorem dX3_spell_99 : decode cX3_spell 99 = .ok (.if_icmp .ge 45, 3) := by decide +kernel
theorem dX3_spell_102 : decode cX3_spell 102 = .ok (.aload_n 0, 1) := by decide +kernel
theorem dX3_spell_103 : decode cX3_spell 103 = .ok (.bipush 40, 2) := by decide +kernel
theorem dX3_spell_105 : decode cX3_spell 105 = .ok (.invokevirtual 70, 3) := by decide +kernel
theorem dX3_spell_108 : decode cX3_spell 108 = .ok (.aload_n 0, 1) := by decide +kernel
theorem dX3_spell_109 : decode cX3_spell 109 = .ok (.getfield 19, 3) := by decide +kernel
theorem dX3_spell_112 : decode cX3_spell 112 = .ok (.aload_n 0, 1) := by decide +kernel
theorem dX3_spell_113 : decode cX3_spell 113 = .ok (.getfield 60, 3) := by decide +kernel
theorem dX3_spell_116 : decode cX3_spell 116 = .ok (.getstatic 74, 3) := by decide +kernel
theorem dX3_spell_119 : decode cX3_spell 119 = .ok (.iload 6, 2) := by decide +kernel
theorem dX3_spell_121 : decode cX3_spell 121 = .ok (.caload, 1) := by decide +kernel
theorem dX3_spell_122 : decode cX3_spell 122 = .ok (.castore, 1) := by decide +kernel
theorem dX3_spell_123 : decode cX3_spell 123 = .ok (.aload_n 0, 1) := by decide +kernel
theorem dX3_spell_124 : decode cX3_spell 124 = .ok (.getfield 22, 3) := by decide +kernel
theorem dX3_spell_127 : decode cX3_spell 127 = .ok (.aload_n 0, 1) := by decide +kernel
theorem dX3_spell_128 : decode cX3_spell 128 = .ok (.getfield 60, 3) := by decide +kernel
theorem dX3_spell_131 : decode cX3_spell 131 = .ok (.iload 5, 2) := by decide +kernel
theorem dX3_spell_133 : decode cX3_spell 133 = .ok (.iastore, 1) := by decide +kernel
theorem dX3_spell_134 : decode cX3_spell 134 = .ok (.aload_n 0, 1) := by decide +kernel
theorem dX3_spell_135 : decode cX3_spell 135 = .ok (.dup, 1) := by decide +kernel
theorem dX3_spell_136 : decode cX3_spell 136 = .ok (.getfield 60, 3) := by decide +kernel
theorem dX3_spell_139 : decode cX3_spell 139 = .ok (.iconst 1, 1) := by decide +kernel
theorem dX3_spell_140 : decode cX3_spell 140 = .ok (.iadd, 1) := by decide +kernel
theorem dX3_spell_141 : decode cX3_spell 141 = .ok (.putfield 60, 3) := by decide +kernel
theorem dX3_spell_144 : decode cX3_spell 144 = .ok (.iinc 3 1, 3) := by decide +kernel
theorem dX3_spell_147 : decode cX3_spell 147 = .ok (.goto (-135), 3) := by decide +kernel
theorem dX3_spell_150 : decode cX3_spell 150 = .ok (.aload_n 0, 1) := by decide +kernel
theorem dX3_spell_151 : decode cX3_spell 151 = .ok (.getfield 56, 3) := by decide +kernel
theorem dX3_spell_154 : decode cX3_spell 154 = .ok (.ireturn, 1) := by decide +kernel
theorem dX3_spellLeaf_0 : decode cX3_spellLeaf 0 = .ok (.iload_n 1, 1) := by decide +kernel
theorem dX3_spellLeaf_1 : decode cX3_spellLeaf 1 = .ok (.bipush 10, 2) := by decide +kernel
theorem dX3_spellLeaf_3 : decode cX3_spellLeaf 3 = .ok (.if_icmp .lt 9, 3) := by decide +kernel
theorem dX3_spellLeaf_6 : decode cX3_spellLeaf 6 = .ok (.aload_n 0, 1) := by decide +kernel
theorem dX3_spellLeaf_7 : decode cX3_spellLeaf 7 = .ok (.bipush 45, 2) := by decide +kernel
theorem dX3_spellLeaf_9 : decode cX3_spellLeaf 9 = .ok (.invokevirtual 70, 3) := by decide +kernel
theorem dX3_spellLeaf_12 : decode cX3_spellLeaf 12 = .ok (.aload_n 0, 1) := by decide +kernel
theorem dX3_spellLeaf_13 : decode cX3_spellLeaf 13 = .ok (.getstatic 77, 3) := by decide +kernel
theorem dX3_spellLeaf_16 : decode cX3_spellLeaf 16 = .ok (.iload_n 1, 1) := by decide +kernel
theorem dX3_spellLeaf_17 : decode cX3_spellLeaf 17 = .ok (.caload, 1) := by decide +kernel
theorem dX3_spellLeaf_18 : decode cX3_spellLeaf 18 = .ok (.invokevirtual 70, 3) := by decide +kernel
theorem dX3_spellLeaf_21 : decode cX3_spellLeaf 21 = .ok (.return_, 1) := by decide +kernel
theorem dX3_spellBehindForm_0 : decode cX3_spellBehindForm 0 = .ok (.aload_n 0, 1) := by decide +kernel
theorem dX3_spellBehindForm_1 : decode cX3_spellBehindForm 1 = .ok (.getfield 60, 3) := by decide +kernel
theorem dX3_spellBehindForm_4 : decode cX3_spellBehindForm 4 = .ok (.ifCond .le 59, 3) := by decide +kernel
theorem dX3_spellBehindForm_7 : decode cX3_spellBehindForm 7 = .ok (.aload_n 0, 1) := by decide +kernel
theorem dX3_spellBehindForm_8 : decode cX3_spellBehindForm 8 = .ok (.getfield 60, 3) := by decide +kernel
theorem dX3_spellBehindForm_11 : decode cX3_spellBehindForm 11 = .ok (.iconst 1, 1) := by decide +kernel
theorem dX3_spellBehindForm_12 : decode cX3_spellBehindForm 12 = .ok (.isub, 1) := by decide +kernel
theorem dX3_spellBehindForm_13 : decode cX3_spellBehindForm 13 = .ok (.istore_n 1, 1) := by decide +kernel
theorem dX3_spellBehindForm_14 : decode cX3_spellBehindForm 14 = .ok (.aload_n 0, 1) := by decide +kernel
theorem dX3_spellBehindForm_15 : decode cX3_spellBehindForm 15 = .ok (.getfield 22, 3) := by decide +kernel
theorem dX3_spellBehindForm_18 : decode cX3_spellBehindForm 18 = .ok (.iload_n 1, 1) := by decide +kernel
theorem dX3_spellBehindForm_19 : decode cX3_spellBehindForm 19 = .ok (.dup2, 1) := by decide +kernel
theorem dX3_spellBehindForm_20 : decode cX3_spellBehindForm 20 = .ok (.iaload, 1) := by decide +kernel
theorem dX3_spellBehindForm_21 : decode cX3_spellBehindForm 21 = .ok (.iconst 1, 1) := by decide +kernel
theorem dX3_spellBehindForm_22 : decode cX3_spellBehindForm 22 = .ok (.isub, 1) := by decide +kernel
theorem dX3_spellBehindForm_23 : decode cX3_spellBehindForm 23 = .ok (.iastore, 1) := by decide +kernel
theorem dX3_spellBehindForm_24 : decode cX3_spellBehindForm 24 = .ok (.aload_n 0, 1) := by decide +kernel
theorem dX3_spellBehindForm_25 : decode cX3_spellBehindForm 25 = .ok (.getfield 22, 3) := by decide +kernel
theorem dX3_spellBehindForm_28 : decode cX3_spellBehindForm 28 = .ok (.iload_n 1, 1) := by decide +kernel
theorem dX3_spellBehindForm_29 : decode cX3_spellBehindForm 29 = .ok (.iaload, 1) := by decide +kernel
theorem dX3_spellBehindForm_30 : decode cX3_spellBehindForm 30 = .ok (.ifCond .le 14, 3) := by decide +kernel
theorem dX3_spellBehindForm_33 : decode cX3_spellBehindForm 33 = .ok (.aload_n 0, 1) := by decide +kernel
theorem dX3_spellBehindForm_34 : decode cX3_spellBehindForm 34 = .ok (.aload_n 0, 1) := by decide +kernel
theorem dX3_spellBehindForm_35 : decode cX3_spellBehindForm 35 = .ok (.getfield 19, 3) := by decide +kernel
theorem dX3_spellBehindForm_38 : decode cX3_spellBehindForm 38 = .ok (.iload_n 1, 1) := by decide +kernel
theorem dX3_spellBehindForm_39 : decode cX3_spellBehindForm 39 = .ok (.caload, 1) := by decide +kernel
theorem dX3_spellBehindForm_40 : decode cX3_spellBehindForm 40 = .ok (.invokevirtual 70, 3) := by decide +kernel
theorem dX3_spellBehindForm_43 : decode cX3_spellBehindForm 43 = .ok (.return_, 1) := by decide +kernel
theorem dX3_spellBehindForm_44 : decode cX3_spellBehindForm 44 = .ok (.aload_n 0, 1) := by decide +kernel
theorem dX3_spellBehindForm_45 : decode cX3_spellBehindForm 45 = .ok (.bipush 41, 2) := by decide +kernel
theorem dX3_spellBehindForm_47 : decode cX3_spellBehindForm 47 = .ok (.invokevirtual 70, 3) := by decide +kernel
theorem dX3_spellBehindForm_50 : decode cX3_spellBehindForm 50 = .ok (.aload_n 0, 1) := by decide +kernel
theorem dX3_spellBehindForm_51 : decode cX3_spellBehindForm 51 = .ok (.dup, 1) := by decide +kernel
theorem dX3_spellBehindForm_52 : decode cX3_spellBehindForm 52 = .ok (.getfield 60, 3) := by decide +kernel
theorem dX3_spellBehindForm_55 : decode cX3_spellBehindForm 55 = .ok (.iconst 1, 1) := by decide +kernel
theorem dX3_spellBehindForm_56 : decode cX3_spellBehindForm 56 = .ok (.isub, 1) := by decide +kernel
theorem dX3_spellBehindForm_57 : decode cX3_spellBehindForm 57 = .ok (.putfield 60, 3) := by decide +kernel
theorem dX3_spellBehindForm_60 : decode cX3_spellBehindForm 60 = .ok (.goto (-60), 3) := by decide +kernel
theorem dX3_spellBehindForm_63 : decode cX3_spellBehindForm 63 = .ok (.return_, 1) := by decide +kernel
theorem dX3_write_0 : decode cX3_write 0 = .ok (.aload_n 0, 1) := by decide +kernel
theorem dX3_write_1 : decode cX3_write 1 = .ok (.getfield 56, 3) := by decide +kernel
theorem dX3_write_4 : decode cX3_write 4 = .ok (.sipush 360, 3) := by decide +kernel
theorem dX3_write_7 : decode cX3_write 7 = .ok (.if_icmp .ge 23, 3) := by decide +kernel
theorem dX3_write_10 : decode cX3_write 10 = .ok (.aload_n 0, 1) := by decide +kernel
theorem dX3_write_11 : decode cX3_write 11 = .ok (.getfield 15, 3) := by decide +kernel
theorem dX3_write_14 : decode cX3_write 14 = .ok (.aload_n 0, 1) := by decide +kernel
theorem dX3_write_15 : decode cX3_write 15 = .ok (.getfield 56, 3) := by decide +kernel
theorem dX3_write_18 : decode cX3_write 18 = .ok (.iload_n 1, 1) := by decide +kernel
theorem dX3_write_19 : decode cX3_write 19 = .ok (.castore, 1) := by decide +kernel
theorem dX3_write_20 : decode cX3_write 20 = .ok (.aload_n 0, 1) := by decide +kernel
theorem dX3_write_21 : decode cX3_write 21 = .ok (.dup, 1) := by decide +kernel
theorem dX3_write_22 : decode cX3_write 22 = .ok (.getfield 56, 3) := by decide +kernel
theorem dX3_write_25 : decode cX3_write 25 = .ok (.iconst 1, 1) := by decide +kernel
theorem dX3_write_26 : decode cX3_write 26 = .ok (.iadd, 1) := by decide +kernel
theorem dX3_write_27 : decode cX3_write 27 = .ok (.putfield 56, 3) := by decide +kernel
theorem dX3_write_30 : decode cX3_write 30 = .ok (.return_, 1) := by decide +kernel
theorem dX4_init_0 : decode cX4_init 0 = .ok (.aload_n 0, 1) := by decide +kernel
theorem dX4_init_1 : decode cX4_init 1 = .ok (.invokespecial 3, 3) := by decide +kernel
theorem dX4_init_4 : decode cX4_init 4 = .ok (.aload_n 0, 1) := by decide +kernel
theorem dX4_init_5 : decode cX4_init 5 = .ok (.bipush 40, 2) := by decide +kernel
theorem dX4_init_7 : decode cX4_init 7 = .ok (.newarray .int, 2) := by decide +kernel
theorem dX4_init_9 : decode cX4_init 9 = .ok (.putfield 9, 3) := by decide +kernel
theorem dX4_init_12 : decode cX4_init 12 = .ok (.aload_n 0, 1) := by decide +kernel
theorem dX4_init_13 : decode cX4_init 13 = .ok (.bipush 8, 2) := by decide +kernel
theorem dX4_init_15 : decode cX4_init 15 = .ok (.anewarray 15, 3) := by decide +kernel
theorem dX4_init_18 : decode cX4_init 18 = .ok (.putfield 17, 3) := by decide +kernel
theorem dX4_init_21 : decode cX4_init 21 = .ok (.iconst 0, 1) := by decide +kernel
theorem dX4_init_22 : decode cX4_init 22 = .ok (.istore_n 1, 1) := by decide +kernel
theorem dX4_init_23 : decode cX4_init 23 = .ok (.iload_n 1, 1) := by decide +kernel
theorem dX4_init_24 : decode cX4_init 24 = .ok (.bipush 8, 2) := by decide +kernel
theorem dX4_init_26 : decode cX4_init 26 = .ok (.if_icmp .ge 22, 3) := by decide +kernel
theorem dX4_init_29 : decode cX4_init 29 = .ok (.aload_n 0, 1) := by decide +kernel
theorem dX4_init_30 : decode cX4_init 30 = .ok (.getfield 17, 3) := by decide +kernel
theorem dX4_init_33 : decode cX4_init 33 = .ok (.iload_n 1, 1) := by decide +kernel
theorem dX4_init_34 : decode cX4_init 34 = .ok (.new 15, 3) := by decide +kernel
theorem dX4_init_37 : decode cX4_init 37 = .ok (.dup, 1) := by decide +kernel
theorem dX4_init_38 : decode cX4_init 38 = .ok (.invokespecial 21, 3) := by decide +kernel
theorem dX4_init_41 : decode cX4_init 41 = .ok (.aastore, 1) := by decide +kernel
theorem dX4_init_42 : decode cX4_init 42 = .ok (.iinc 1 1, 3) := by decide +kernel
theorem dX4_init_45 : decode cX4_init 45 = .ok (.goto (-22), 3) := by decide +kernel
theorem dX4_init_48 : decode cX4_init 48 = .ok (.return_, 1) := by decide +kernel
theorem dX4_copyFrom_0 : decode cX4_copyFrom 0 = .ok (.aload_n 0, 1) := by decide +kernel
theorem dX4_copyFrom_1 : decode cX4_copyFrom 1 = .ok (.aload_n 1, 1) := by decide +kernel
theorem dX4_copyFrom_2 : decode cX4_copyFrom 2 = .ok (.getfield 22, 3) := by decide +kernel
theorem dX4_copyFrom_5 : decode cX4_copyFrom 5 = .ok (.putfield 22, 3) := by decide +kernel
theorem dX4_copyFrom_8 : decode cX4_copyFrom 8 = .ok (.aload_n 0, 1) := by decide +kernel
theorem dX4_copyFrom_9 : decode cX4_copyFrom 9 = .ok (.aload_n 1, 1) := by decide +kernel
theorem dX4_copyFrom_10 : decode cX4_copyFrom 10 = .ok (.getfield 26, 3) := by decide +kernel
theorem dX4_copyFrom_13 : decode cX4_copyFrom 13 = .ok (.putfield 26, 3) := by decide +kernel
theorem dX4_copyFrom_16 : decode cX4_copyFrom 16 = .ok (.aload_n 0, 1) := by decide +kernel
theorem dX4_copyFrom_17 : decode cX4_copyFrom 17 = .ok (.aload_n 1, 1) := by decide +kernel
theorem dX4_copyFrom_18 : decode cX4_copyFrom 18 = .ok (.getfield 30, 3) := by decide +kernel
theorem dX4_copyFrom_21 : decode cX4_copyFrom 21 = .ok (.putfield 30, 3) := by decide +kernel
theorem dX4_copyFrom_24 : decode cX4_copyFrom 24 = .ok (.aload_n 1, 1) := by decide +kernel
theorem dX4_copyFrom_25 : decode cX4_copyFrom 25 = .ok (.getfield 9, 3) := by decide +kernel
theorem dX4_copyFrom_28 : decode cX4_copyFrom 28 = .ok (.iconst 0, 1) := by decide +kernel
theorem dX4_copyFrom_29 : decode cX4_copyFrom 29 = .ok (.aload_n 0, 1) := by decide +kernel
theorem dX4_copyFrom_30 : decode cX4_copyFrom 30 = .ok (.getfield 9, 3) := by decide +kernel
theorem dX4_copyFrom_33 : decode cX4_copyFrom 33 = .ok (.iconst 0, 1) := by decide +kernel
theorem dX4_copyFrom_34 : decode cX4_copyFrom 34 = .ok (.aload_n 0, 1) := by decide +kernel
theorem dX4_copyFrom_35 : decode cX4_copyFrom 35 = .ok (.getfield 26, 3) := by decide +kernel
theorem dX4_copyFrom_38 : decode cX4_copyFrom 38 = .ok (.invokestatic 33, 3) := by decide +kernel
theorem dX4_copyFrom_41 : decode cX4_copyFrom 41 = .ok (.iconst 0, 1) := by decide +kernel
theorem dX4_copyFrom_42 : decode cX4_copyFrom 42 = .ok (.istore_n 2, 1) := by decide +kernel
theorem dX4_copyFrom_43 : decode cX4_copyFrom 43 = .ok (.iload_n 2, 1) := by decide +kernel
theorem dX4_copyFrom_44 : decode cX4_copyFrom 44 = .ok (.aload_n 0, 1) := by decide +kernel
theorem dX4_copyFrom_45 : decode cX4_copyFrom 45 = .ok (.getfield 30, 3) := by decide +kernel
theorem dX4_copyFrom_48 : decode cX4_copyFrom 48 = .ok (.if_icmp .ge 24, 3) := by decide +kernel
theorem dX4_copyFrom_51 : decode cX4_copyFrom 51 = .ok (.aload_n 0, 1) := by decide +kernel
theorem dX4_copyFrom_52 : decode cX4_copyFrom 52 = .ok (.getfield 17, 3) := by decide +kernel
theorem dX4_copyFrom_55 : decode cX4_copyFrom 55 = .ok (.iload_n 2, 1) := by decide +kernel
theorem dX4_copyFrom_56 : decode cX4_copyFrom 56 = .ok (.aaload, 1) := by decide +kernel
theorem dX4_copyFrom_57 : decode cX4_copyFrom 57 = .ok (.aload_n 1, 1) := by decide +kernel
theorem dX4_copyFrom_58 : decode cX4_copyFrom 58 = .ok (.getfield 17, 3) := by decide +kernel
theorem dX4_copyFrom_61 : decode cX4_copyFrom 61 = .ok (.iload_n 2, 1) := by decide +kernel
theorem dX4_copyFrom_62 : decode cX4_copyFrom 62 = .ok (.aaload, 1) := by decide +kernel
theorem dX4_copyFrom_63 : decode cX4_copyFrom 63 = .ok (.invokevirtual 39, 3) := by decide +kernel
theorem dX4_copyFrom_66 : decode cX4_copyFrom 66 = .ok (.iinc 2 1, 3) := by decide +kernel
theorem dX4_copyFrom_69 : decode cX4_copyFrom 69 = .ok (.goto (-26), 3) := by decide +kernel
theorem dX4_copyFrom_72 : decode cX4_copyFrom 72 = .ok (.return_, 1) := by decide +kernel
theorem dX4_find_0 : decode cX4_find 0 = .ok (.iload_n 1, 1) := by decide +kernel
theorem dX4_find_1 : decode cX4_find 1 = .ok (.ifCond .lt 23, 3) := by decide +kernel
theorem dX4_find_4 : decode cX4_find 4 = .ok (.iload_n 1, 1) := by decide +kernel
theorem dX4_find_5 : decode cX4_find 5 = .ok (.aload_n 0, 1) := by decide +kernel
theorem dX4_find_6 : decode cX4_find 6 = .ok (.getfield 30, 3) := by decide +kernel
theorem dX4_find_9 : decode cX4_find 9 = .ok (.if_icmp .ge 15, 3) := by decide +kernel
theorem dX4_find_12 : decode cX4_find 12 = .ok (.aload_n 0, 1) := by decide +kernel
theorem dX4_find_13 : decode cX4_find 13 = .ok (.getfield 17, 3) := by decide +kernel
theorem dX4_find_16 : decode cX4_find 16 = .ok (.iload_n 1, 1) := by decide +kernel
theorem dX4_find_17 : decode cX4_find 17 = .ok (.aaload, 1) := by decide +kernel
theorem dX4_find_18 : decode cX4_find 18 = .ok (.getfield 43, 3) := by decide +kernel
theorem dX4_find_21 : decode cX4_find 21 = .ok (.ifCond .ne 5, 3) := by decide +kernel
theorem dX4_find_24 : decode cX4_find 24 = .ok (.aconst_null, 1) := by decide +kernel
theorem dX4_find_25 : decode cX4_find 25 = .ok (.areturn, 1) := by decide +kernel
theorem dX4_find_26 : decode cX4_find 26 = .ok (.aload_n 0, 1) := by decide +kernel
theorem dX4_find_27 : decode cX4_find 27 = .ok (.getfield 17, 3) := by decide +kernel
theorem dX4_find_30 : decode cX4_find 30 = .ok (.iload_n 1, 1) := by decide +kernel
theorem dX4_find_31 : decode cX4_find 31 = .ok (.aaload, 1) := by decide +kernel
theorem dX4_find_32 : decode cX4_find 32 = .ok (.areturn, 1) := by decide +kernel
theorem dX4_isOpen_0 : decode cX4_isOpen 0 = .ok (.aload_n 0, 1) := by decide +kernel
theorem dX4_isOpen_1 : decode cX4_isOpen 1 = .ok (.getfield 17, 3) := by decide +kernel
theorem dX4_isOpen_4 : decode cX4_isOpen 4 = .ok (.iload_n 1, 1) := by decide +kernel
theorem dX4_isOpen_5 : decode cX4_isOpen 5 = .ok (.aaload, 1) := by decide +kernel
theorem dX4_isOpen_6 : decode cX4_isOpen 6 = .ok (.getfield 43, 3) := by decide +kernel
theorem dX4_isOpen_9 : decode cX4_isOpen 9 = .ok (.ifCond .eq 20, 3) := by decide +kernel
theorem dX4_isOpen_12 : decode cX4_isOpen 12 = .ok (.aload_n 0, 1) := by decide +kernel
theorem dX4_isOpen_13 : decode cX4_isOpen 13 = .ok (.getfield 17, 3) := by decide +kernel
theorem dX4_isOpen_16 : decode cX4_isOpen 16 = .ok (.iload_n 1, 1) := by decide +kernel
theorem dX4_isOpen_17 : decode cX4_isOpen 17 = .ok (.aaload, 1) := by decide +kernel
theorem dX4_isOpen_18 : decode cX4_isOpen 18 = .ok (.getfield 46, 3) := by decide +kernel
theorem dX4_isOpen_21 : decode cX4_isOpen 21 = .ok (.iconst 2, 1) := by decide +kernel
theorem dX4_isOpen_22 : decode cX4_isOpen 22 = .ok (.if_icmp .ne 7, 3) := by decide +kernel
theorem dX4_isOpen_25 : decode cX4_isOpen 25 = .ok (.iconst 1, 1) := by decide +kernel
theorem dX4_isOpen_26 : decode cX4_isOpen 26 = .ok (.goto 4, 3) := by decide +kernel
theorem dX4_isOpen_29 : decode cX4_isOpen 29 = .ok (.iconst 0, 1) := by decide +kernel
theorem dX4_isOpen_30 : decode cX4_isOpen 30 = .ok (.ireturn, 1) := by decide +kernel
theorem dX4_rankOfOpen_0 : decode cX4_rankOfOpen 0 = .ok (.aload_n 0, 1) := by decide +kernel
theorem dX4_rankOfOpen_1 : decode cX4_rankOfOpen 1 = .ok (.getfield 17, 3) := by decide +kernel
theorem dX4_rankOfOpen_4 : decode cX4_rankOfOpen 4 = .ok (.iload_n 1, 1) := by decide +kernel
theorem dX4_rankOfOpen_5 : decode cX4_rankOfOpen 5 = .ok (.aaload, 1) := by decide +kernel
theorem dX4_rankOfOpen_6 : decode cX4_rankOfOpen 6 = .ok (.invokevirtual 49, 3) := by decide +kernel
theorem dX4_rankOfOpen_9 : decode cX4_rankOfOpen 9 = .ok (.istore_n 2, 1) := by decide +kernel
theorem dX4_rankOfOpen_10 : decode cX4_rankOfOpen 10 = .ok (.iconst 0, 1) := by decide +kernel
theorem dX4_rankOfOpen_11 : decode cX4_rankOfOpen 11 = .ok (.istore_n 3, 1) := by decide +kernel
theorem dX4_rankOfOpen_12 : decode cX4_rankOfOpen 12 = .ok (.iconst 0, 1) := by decide +kernel
theorem dX4_rankOfOpen_13 : decode cX4_rankOfOpen 13 = .ok (.istore 4, 2) := by decide +kernel
theorem dX4_rankOfOpen_15 : decode cX4_rankOfOpen 15 = .ok (.iload 4, 2) := by decide +kernel
theorem dX4_rankOfOpen_17 : decode cX4_rankOfOpen 17 = .ok (.aload_n 0, 1) := by decide +kernel
theorem dX4_rankOfOpen_18 : decode cX4_rankOfOpen 18 = .ok (.getfield 30, 3) := by decide +kernel
theorem dX4_rankOfOpen_21 : decode cX4_rankOfOpen 21 = .ok (.if_icmp .ge 51, 3) := by decide +kernel
theorem dX4_rankOfOpen_24 : decode cX4_rankOfOpen 24 = .ok (.aload_n 0, 1) := by decide +kernel
theorem dX4_rankOfOpen_25 : decode cX4_rankOfOpen 25 = .ok (.getfield 17, 3) := by decide +kernel
theorem dX4_rankOfOpen_28 : decode cX4_rankOfOpen 28 = .ok (.iload 4, 2) := by decide +kernel
theorem dX4_rankOfOpen_30 : decode cX4_rankOfOpen 30 = .ok (.aaload, 1) := by decide +kernel
theorem dX4_rankOfOpen_31 : decode cX4_rankOfOpen 31 = .ok (.invokevirtual 49, 3) := by decide +kernel
theorem dX4_rankOfOpen_34 : decode cX4_rankOfOpen 34 = .ok (.istore 5, 2) := by decide +kernel
theorem dX4_rankOfOpen_36 : decode cX4_rankOfOpen 36 = .ok (.aload_n 0, 1) := by decide +kernel
theorem dX4_rankOfOpen_37 : decode cX4_rankOfOpen 37 = .ok (.iload 4, 2) := by decide +kernel
theorem dX4_rankOfOpen_39 : decode cX4_rankOfOpen 39 = .ok (.invokevirtual 53, 3) := by decide +kernel
theorem dX4_rankOfOpen_42 : decode cX4_rankOfOpen 42 = .ok (.ifCond .eq 24, 3) := by decide +kernel
theorem dX4_rankOfOpen_45 : decode cX4_rankOfOpen 45 = .ok (.iload 5, 2) := by decide +kernel
theorem dX4_rankOfOpen_47 : decode cX4_rankOfOpen 47 = .ok (.iload_n 2, 1) := by decide +kernel
theorem dX4_rankOfOpen_48 : decode cX4_rankOfOpen 48 = .ok (.if_icmp .gt 15, 3) := by decide +kernel
theorem dX4_rankOfOpen_51 : decode cX4_rankOfOpen 51 = .ok (.iload 5, 2) := by decide +kernel
theorem dX4_rankOfOpen_53 : decode cX4_rankOfOpen 53 = .ok (.iload_n 2, 1) := by decide +kernel
theorem dX4_rankOfOpen_54 : decode cX4_rankOfOpen 54 = .ok (.if_icmp .ne 12, 3) := by decide +kernel
theorem dX4_rankOfOpen_57 : decode cX4_rankOfOpen 57 = .ok (.iload 4, 2) := by decide +kernel
theorem dX4_rankOfOpen_59 : decode cX4_rankOfOpen 59 = .ok (.iload_n 1, 1) := by decide +kernel
theorem dX4_rankOfOpen_60 : decode cX4_rankOfOpen 60 = .ok (.if_icmp .ge 6, 3) := by decide +kernel
theorem dX4_rankOfOpen_63 : decode cX4_rankOfOpen 63 = .ok (.iinc 3 1, 3) := by decide +kernel
theorem dX4_rankOfOpen_66 : decode cX4_rankOfOpen 66 = .ok (.iinc 4 1, 3) := by decide +kernel
theorem dX4_rankOfOpen_69 : decode cX4_rankOfOpen 69 = .ok (.goto (-54), 3) := by decide +kernel
theorem dX4_rankOfOpen_72 : decode cX4_rankOfOpen 72 = .ok (.iload_n 3, 1) := by decide +kernel
theorem dX4_rankOfOpen_73 : decode cX4_rankOfOpen 73 = .ok (.ireturn, 1) := by decide +kernel
theorem dX4_howManyThere_0 : decode cX4_howManyThere 0 = .ok (.aload_n 0, 1) := by decide +kernel
theorem dX4_howManyThere_1 : decode cX4_howManyThere 1 = .ok (.iconst 0, 1) := by decide +kernel
theorem dX4_howManyThere_2 : decode cX4_howManyThere 2 = .ok (.invokevirtual 57, 3) := by decide +kernel
theorem dX4_howManyThere_5 : decode cX4_howManyThere 5 = .ok (.aload_n 0, 1) := by decide +kernel
theorem dX4_howManyThere_6 : decode cX4_howManyThere 6 = .ok (.iconst 1, 1) := by decide +kernel
theorem dX4_howManyThere_7 : decode cX4_howManyThere 7 = .ok (.invokevirtual 57, 3) := by decide +kernel
theorem dX4_howManyThere_10 : decode cX4_howManyThere 10 = .ok (.iadd, 1) := by decide +kernel
theorem dX4_howManyThere_11 : decode cX4_howManyThere 11 = .ok (.aload_n 0, 1) := by decide +kernel
theorem dX4_howManyThere_12 : decode cX4_howManyThere 12 = .ok (.iconst 2, 1) := by decide +kernel
theorem dX4_howManyThere_13 : decode cX4_howManyThere 13 = .ok (.invokevirtual 57, 3) := by decide +kernel
theorem dX4_howManyThere_16 : decode cX4_howManyThere 16 = .ok (.iadd, 1) := by decide +kernel
theorem dX4_howManyThere_17 : decode cX4_howManyThere 17 = .ok (.ireturn, 1) := by decide +kernel
theorem dX4_howMany_0 : decode cX4_howMany 0 = .ok (.iconst 0, 1) := by decide +kernel
theorem dX4_howMany_1 : decode cX4_howMany 1 = .ok (.istore_n 2, 1) := by decide +kernel
theorem dX4_howMany_2 : decode cX4_howMany 2 = .ok (.iconst 0, 1) := by decide +kernel
theorem dX4_howMany_3 : decode cX4_howMany 3 = .ok (.istore_n 3, 1) := by decide +kernel
theorem dX4_howMany_4 : decode cX4_howMany 4 = .ok (.iload_n 3, 1) := by decide +kernel
theorem dX4_howMany_5 : decode cX4_howMany 5 = .ok (.aload_n 0, 1) := by decide +kernel
theorem dX4_howMany_6 : decode cX4_howMany 6 = .ok (.getfield 30, 3) := by decide +kernel
theorem dX4_howMany_9 : decode cX4_howMany 9 = .ok (.if_icmp .ge 37, 3) := by decide +kernel
theorem dX4_howMany_12 : decode cX4_howMany 12 = .ok (.aload_n 0, 1) := by decide +kernel
theorem dX4_howMany_13 : decode cX4_howMany 13 = .ok (.getfield 17, 3) := by decide +kernel
theorem dX4_howMany_16 : decode cX4_howMany 16 = .ok (.iload_n 3, 1) := by decide +kernel
theorem dX4_howMany_17 : decode cX4_howMany 17 = .ok (.aaload, 1) := by decide +kernel
theorem dX4_howMany_18 : decode cX4_howMany 18 = .ok (.getfield 43, 3) := by decide +kernel
theorem dX4_howMany_21 : decode cX4_howMany 21 = .ok (.ifCond .eq 19, 3) := by decide +kernel
theorem dX4_howMany_24 : decode cX4_howMany 24 = .ok (.aload_n 0, 1) := by decide +kernel
theorem dX4_howMany_25 : decode cX4_howMany 25 = .ok (.getfield 17, 3) := by decide +kernel
theorem dX4_howMany_28 : decode cX4_howMany 28 = .ok (.iload_n 3, 1) := by decide +kernel
theorem dX4_howMany_29 : decode cX4_howMany 29 = .ok (.aaload, 1) := by decide +kernel
theorem dX4_howMany_30 : decode cX4_howMany 30 = .ok (.getfield 46, 3) := by decide +kernel
theorem dX4_howMany_33 : decode cX4_howMany 33 = .ok (.iload_n 1, 1) := by decide +kernel
theorem dX4_howMany_34 : decode cX4_howMany 34 = .ok (.if_icmp .ne 6, 3) := by decide +kernel
theorem dX4_howMany_37 : decode cX4_howMany 37 = .ok (.iinc 2 1, 3) := by decide +kernel
theorem dX4_howMany_40 : decode cX4_howMany 40 = .ok (.iinc 3 1, 3) := by decide +kernel
theorem dX4_howMany_43 : decode cX4_howMany 43 = .ok (.goto (-39), 3) := by decide +kernel
theorem dX4_howMany_46 : decode cX4_howMany 46 = .ok (.iload_n 2, 1) := by decide +kernel
theorem dX4_howMany_47 : decode cX4_howMany 47 = .ok (.ireturn, 1) := by decide +kernel
theorem dX5_init_0 : decode cX5_init 0 = .ok (.aload_n 0, 1) := by decide +kernel
theorem dX5_init_1 : decode cX5_init 1 = .ok (.invokespecial 3, 3) := by decide +kernel
theorem dX5_init_4 : decode cX5_init 4 = .ok (.aload_n 0, 1) := by decide +kernel
theorem dX5_init_5 : decode cX5_init 5 = .ok (.bipush 8, 2) := by decide +kernel
theorem dX5_init_7 : decode cX5_init 7 = .ok (.newarray .int, 2) := by decide +kernel
theorem dX5_init_9 : decode cX5_init 9 = .ok (.putfield 9, 3) := by decide +kernel
theorem dX5_init_12 : decode cX5_init 12 = .ok (.aload_n 0, 1) := by decide +kernel
theorem dX5_init_13 : decode cX5_init 13 = .ok (.sipush 960, 3) := by decide +kernel
theorem dX5_init_16 : decode cX5_init 16 = .ok (.newarray .int, 2) := by decide +kernel
theorem dX5_init_18 : decode cX5_init 18 = .ok (.putfield 15, 3) := by decide +kernel
theorem dX5_init_21 : decode cX5_init 21 = .ok (.return_, 1) := by decide +kernel
theorem dX5_come_0 : decode cX5_come 0 = .ok (.aload_n 0, 1) := by decide +kernel
theorem dX5_come_1 : decode cX5_come 1 = .ok (.iconst 1, 1) := by decide +kernel
theorem dX5_come_2 : decode cX5_come 2 = .ok (.putfield 18, 3) := by decide +kernel
theorem dX5_come_5 : decode cX5_come 5 = .ok (.aload_n 0, 1) := by decide +kernel
theorem dX5_come_6 : decode cX5_come 6 = .ok (.iload_n 1, 1) := by decide +kernel
theorem dX5_come_7 : decode cX5_come 7 = .ok (.putfield 22, 3) := by decide +kernel
theorem dX5_come_10 : decode cX5_come 10 = .ok (.aload_n 0, 1) := by decide +kernel
theorem dX5_come_11 : decode cX5_come 11 = .ok (.aload_n 0, 1) := by decide +kernel
theorem dX5_come_12 : decode cX5_come 12 = .ok (.invokevirtual 26, 3) := by decide +kernel
theorem dX5_come_15 : decode cX5_come 15 = .ok (.putfield 30, 3) := by decide +kernel
theorem dX5_come_18 : decode cX5_come 18 = .ok (.aload_n 0, 1) := by decide +kernel
theorem dX5_come_19 : decode cX5_come 19 = .ok (.bipush (-5), 2) := by decide +kernel
theorem dX5_come_21 : decode cX5_come 21 = .ok (.putfield 33, 3) := by decide +kernel
theorem dX5_come_24 : decode cX5_come 24 = .ok (.aload_n 0, 1) := by decide +kernel
theorem dX5_come_25 : decode cX5_come 25 = .ok (.iconst 0, 1) := by decide +kernel
theorem dX5_come_26 : decode cX5_come 26 = .ok (.putfield 36, 3) := by decide +kernel
theorem dX5_come_29 : decode cX5_come 29 = .ok (.aload_n 0, 1) := by decide +kernel
theorem dX5_come_30 : decode cX5_come 30 = .ok (.iload_n 2, 1) := by decide +kernel
theorem dX5_come_31 : decode cX5_come 31 = .ok (.putfield 39, 3) := by decide +kernel
theorem dX5_come_34 : decode cX5_come 34 = .ok (.return_, 1) := by decide +kernel
theorem dX5_judge_0 : decode cX5_judge 0 = .ok (.aload_n 0, 1) := by decide +kernel
theorem dX5_judge_1 : decode cX5_judge 1 = .ok (.aload_n 0, 1) := by decide +kernel
theorem dX5_judge_2 : decode cX5_judge 2 = .ok (.invokevirtual 26, 3) := by decide +kernel
theorem dX5_judge_5 : decode cX5_judge 5 = .ok (.putfield 30, 3) := by decide +kernel
theorem dX5_judge_8 : decode cX5_judge 8 = .ok (.aload_n 0, 1) := by decide +kernel
theorem dX5_judge_9 : decode cX5_judge 9 = .ok (.getfield 30, 3) := by decide +kernel
theorem dX5_judge_12 : decode cX5_judge 12 = .ok (.iconst 2, 1) := by decide +kernel
theorem dX5_judge_13 : decode cX5_judge 13 = .ok (.if_icmp .ne 5, 3) := by decide +kernel
theorem dX5_judge_16 : decode cX5_judge 16 = .ok (.iconst 0, 1) := by decide +kernel
theorem dX5_judge_17 : decode cX5_judge 17 = .ok (.ireturn, 1) := by decide +kernel
theorem dX5_judge_18 : decode cX5_judge 18 = .ok (.aload_n 0, 1) := by decide +kernel
theorem dX5_judge_19 : decode cX5_judge 19 = .ok (.iload_n 1, 1) := by decide +kernel
theorem dX5_judge_20 : decode cX5_judge 20 = .ok (.putfield 33, 3) := by decide +kernel
theorem dX5_judge_23 : decode cX5_judge 23 = .ok (.iconst 1, 1) := by decide +kernel
theorem dX5_judge_24 : decode cX5_judge 24 = .ok (.ireturn, 1) := by decide +kernel
theorem dX5_copyFrom_0 : decode cX5_copyFrom 0 = .ok (.aload_n 0, 1) := by decide +kernel
theorem dX5_copyFrom_1 : decode cX5_copyFrom 1 = .ok (.aload_n 1, 1) := by decide +kernel
theorem dX5_copyFrom_2 : decode cX5_copyFrom 2 = .ok (.getfield 18, 3) := by decide +kernel
theorem dX5_copyFrom_5 : decode cX5_copyFrom 5 = .ok (.putfield 18, 3) := by decide +kernel
theorem dX5_copyFrom_8 : decode cX5_copyFrom 8 = .ok (.aload_n 0, 1) := by decide +kernel
theorem dX5_copyFrom_9 : decode cX5_copyFrom 9 = .ok (.aload_n 1, 1) := by decide +kernel
theorem dX5_copyFrom_10 : decode cX5_copyFrom 10 = .ok (.getfield 30, 3) := by decide +kernel
theorem dX5_copyFrom_13 : decode cX5_copyFrom 13 = .ok (.putfield 30, 3) := by decide +kernel
theorem dX5_copyFrom_16 : decode cX5_copyFrom 16 = .ok (.aload_n 0, 1) := by decide +kernel
theorem dX5_copyFrom_17 : decode cX5_copyFrom 17 = .ok (.aload_n 1, 1) := by decide +kernel
theorem dX5_copyFrom_18 : decode cX5_copyFrom 18 = .ok (.getfield 22, 3) := by decide +kernel
theorem dX5_copyFrom_21 : decode cX5_copyFrom 21 = .ok (.putfield 22, 3) := by decide +kernel
theorem dX5_copyFrom_24 : decode cX5_copyFrom 24 = .ok (.aload_n 0, 1) := by decide +kernel
theorem dX5_copyFrom_25 : decode cX5_copyFrom 25 = .ok (.aload_n 1, 1) := by decide +kernel
theorem dX5_copyFrom_26 : decode cX5_copyFrom 26 = .ok (.getfield 33, 3) := by decide +kernel
theorem dX5_copyFrom_29 : decode cX5_copyFrom 29 = .ok (.putfield 33, 3) := by decide +kernel
theorem dX5_copyFrom_32 : decode cX5_copyFrom 32 = .ok (.aload_n 0, 1) := by decide +kernel
theorem dX5_copyFrom_33 : decode cX5_copyFrom 33 = .ok (.aload_n 1, 1) := by decide +kernel
theorem dX5_copyFrom_34 : decode cX5_copyFrom 34 = .ok (.getfield 36, 3) := by decide +kernel
theorem dX5_copyFrom_37 : decode cX5_copyFrom 37 = .ok (.putfield 36, 3) := by decide +kernel
theorem dX5_copyFrom_40 : decode cX5_copyFrom 40 = .ok (.aload_n 0, 1) := by decide +kernel
theorem dX5_copyFrom_41 : decode cX5_copyFrom 41 = .ok (.aload_n 1, 1) := by decide +kernel
theorem dX5_copyFrom_42 : decode cX5_copyFrom 42 = .ok (.getfield 39, 3) := by decide +kernel
theorem dX5_copyFrom_45 : decode cX5_copyFrom 45 = .ok (.putfield 39, 3) := by decide +kernel
theorem dX5_copyFrom_48 : decode cX5_copyFrom 48 = .ok (.iconst 0, 1) := by decide +kernel
theorem dX5_copyFrom_49 : decode cX5_copyFrom 49 = .ok (.istore_n 2, 1) := by decide +kernel
theorem dX5_copyFrom_50 : decode cX5_copyFrom 50 = .ok (.iload_n 2, 1) := by decide +kernel
theorem dX5_copyFrom_51 : decode cX5_copyFrom 51 = .ok (.aload_n 0, 1) := by decide +kernel
theorem dX5_copyFrom_52 : decode cX5_copyFrom 52 = .ok (.getfield 22, 3) := by decide +kernel
theorem dX5_copyFrom_55 : decode cX5_copyFrom 55 = .ok (.if_icmp .ge 46, 3) := by decide +kernel
theorem dX5_copyFrom_58 : decode cX5_copyFrom 58 = .ok (.aload_n 0, 1) := by decide +kernel
theorem dX5_copyFrom_59 : decode cX5_copyFrom 59 = .ok (.getfield 9, 3) := by decide +kernel
theorem dX5_copyFrom_62 : decode cX5_copyFrom 62 = .ok (.iload_n 2, 1) := by decide +kernel
theorem dX5_copyFrom_63 : decode cX5_copyFrom 63 = .ok (.aload_n 1, 1) := by decide +kernel
theorem dX5_copyFrom_64 : decode cX5_copyFrom 64 = .ok (.getfield 9, 3) := by decide +kernel
theorem dX5_copyFrom_67 : decode cX5_copyFrom 67 = .ok (.iload_n 2, 1) := by decide +kernel
theorem dX5_copyFrom_68 : decode cX5_copyFrom 68 = .ok (.iaload, 1) := by decide +kernel
theorem dX5_copyFrom_69 : decode cX5_copyFrom 69 = .ok (.iastore, 1) := by decide +kernel
theorem dX5_copyFrom_70 : decode cX5_copyFrom 70 = .ok (.aload_n 1, 1) := by decide +kernel
theorem dX5_copyFrom_71 : decode cX5_copyFrom 71 = .ok (.getfield 15, 3) := by decide +kernel
theorem dX5_copyFrom_74 : decode cX5_copyFrom 74 = .ok (.iload_n 2, 1) := by decide +kernel
theorem dX5_copyFrom_75 : decode cX5_copyFrom 75 = .ok (.bipush 120, 2) := by decide +kernel
theorem dX5_copyFrom_77 : decode cX5_copyFrom 77 = .ok (.imul, 1) := by decide +kernel
theorem dX5_copyFrom_78 : decode cX5_copyFrom 78 = .ok (.aload_n 0, 1) := by decide +kernel
theorem dX5_copyFrom_79 : decode cX5_copyFrom 79 = .ok (.getfield 15, 3) := by decide +kernel
theorem dX5_copyFrom_82 : decode cX5_copyFrom 82 = .ok (.iload_n 2, 1) := by decide +kernel
theorem dX5_copyFrom_83 : decode cX5_copyFrom 83 = .ok (.bipush 120, 2) := by decide +kernel
theorem dX5_copyFrom_85 : decode cX5_copyFrom 85 = .ok (.imul, 1) := by decide +kernel
theorem dX5_copyFrom_86 : decode cX5_copyFrom 86 = .ok (.aload_n 0, 1) := by decide +kernel
theorem dX5_copyFrom_87 : decode cX5_copyFrom 87 = .ok (.getfield 9, 3) := by decide +kernel
theorem dX5_copyFrom_90 : decode cX5_copyFrom 90 = .ok (.iload_n 2, 1) := by decide +kernel
theorem dX5_copyFrom_91 : decode cX5_copyFrom 91 = .ok (.iaload, 1) := by decide +kernel
theorem dX5_copyFrom_92 : decode cX5_copyFrom 92 = .ok (.invokestatic 42, 3) := by decide +kernel
theorem dX5_copyFrom_95 : decode cX5_copyFrom 95 = .ok (.iinc 2 1, 3) := by decide +kernel
theorem dX5_copyFrom_98 : decode cX5_copyFrom 98 = .ok (.goto (-48), 3) := by decide +kernel
theorem dX5_copyFrom_101 : decode cX5_copyFrom 101 = .ok (.return_, 1) := by decide +kernel
theorem dX5_partsThatAre_0 : decode cX5_partsThatAre 0 = .ok (.iconst 0, 1) := by decide +kernel
theorem dX5_partsThatAre_1 : decode cX5_partsThatAre 1 = .ok (.istore_n 2, 1) := by decide +kernel
theorem dX5_partsThatAre_2 : decode cX5_partsThatAre 2 = .ok (.iconst 0, 1) := by decide +kernel
theorem dX5_partsThatAre_3 : decode cX5_partsThatAre 3 = .ok (.istore_n 3, 1) := by decide +kernel
theorem dX5_partsThatAre_4 : decode cX5_partsThatAre 4 = .ok (.iload_n 3, 1) := by decide +kernel
theorem dX5_partsThatAre_5 : decode cX5_partsThatAre 5 = .ok (.aload_n 0, 1) := by decide +kernel
theorem dX5_partsThatAre_6 : decode cX5_partsThatAre 6 = .ok (.getfield 22, 3) := by decide +kernel
theorem dX5_partsThatAre_9 : decode cX5_partsThatAre 9 = .ok (.if_icmp .ge 28, 3) := by decide +kernel
theorem dX5_partsThatAre_12 : decode cX5_partsThatAre 12 = .ok (.aload_n 0, 1) := by decide +kernel
theorem dX5_partsThatAre_13 : decode cX5_partsThatAre 13 = .ok (.getfield 15, 3) := by decide +kernel
theorem dX5_partsThatAre_16 : decode cX5_partsThatAre 16 = .ok (.iload_n 3, 1) := by decide +kernel
theorem dX5_partsThatAre_17 : decode cX5_partsThatAre 17 = .ok (.bipush 120, 2) := by decide +kernel
theorem dX5_partsThatAre_19 : decode cX5_partsThatAre 19 = .ok (.imul, 1) := by decide +kernel
theorem dX5_partsThatAre_20 : decode cX5_partsThatAre 20 = .ok (.iaload, 1) := by decide +kernel
theorem dX5_partsThatAre_21 : decode cX5_partsThatAre 21 = .ok (.iload_n 1, 1) := by decide +kernel
theorem dX5_partsThatAre_22 : decode cX5_partsThatAre 22 = .ok (.if_icmp .ne 9, 3) := by decide +kernel
theorem dX5_partsThatAre_25 : decode cX5_partsThatAre 25 = .ok (.iload_n 2, 1) := by decide +kernel
theorem dX5_partsThatAre_26 : decode cX5_partsThatAre 26 = .ok (.iconst 1, 1) := by decide +kernel
theorem dX5_partsThatAre_27 : decode cX5_partsThatAre 27 = .ok (.iload_n 3, 1) := by decide +kernel
theorem dX5_partsThatAre_28 : decode cX5_partsThatAre 28 = .ok (.ishl, 1) := by decide +kernel
theorem dX5_partsThatAre_29 : decode cX5_partsThatAre 29 = .ok (.ior, 1) := by decide +kernel
theorem dX5_partsThatAre_30 : decode cX5_partsThatAre 30 = .ok (.istore_n 2, 1) := by decide +kernel
theorem dX5_partsThatAre_31 : decode cX5_partsThatAre 31 = .ok (.iinc 3 1, 3) := by decide +kernel
theorem dX5_partsThatAre_34 : decode cX5_partsThatAre 34 = .ok (.goto (-30), 3) := by decide +kernel
theorem dX5_partsThatAre_37 : decode cX5_partsThatAre 37 = .ok (.iload_n 2, 1) := by decide +kernel
theorem dX5_partsThatAre_38 : decode cX5_partsThatAre 38 = .ok (.ireturn, 1) := by decide +kernel
theorem dX5_verdictOfParts_0 : decode cX5_verdictOfParts 0 = .ok (.aload_n 0, 1) := by decide +kernel
theorem dX5_verdictOfParts_1 : decode cX5_verdictOfParts 1 = .ok (.iconst 0, 1) := by decide +kernel
theorem dX5_verdictOfParts_2 : decode cX5_verdictOfParts 2 = .ok (.invokevirtual 48, 3) := by decide +kernel
theorem dX5_verdictOfParts_5 : decode cX5_verdictOfParts 5 = .ok (.ifCond .eq 5, 3) := by decide +kernel
theorem dX5_verdictOfParts_8 : decode cX5_verdictOfParts 8 = .ok (.iconst 0, 1) := by decide +kernel
theorem dX5_verdictOfParts_9 : decode cX5_verdictOfParts 9 = .ok (.ireturn, 1) := by decide +kernel
theorem dX5_verdictOfParts_10 : decode cX5_verdictOfParts 10 = .ok (.aload_n 0, 1) := by decide +kernel
theorem dX5_verdictOfParts_11 : decode cX5_verdictOfParts 11 = .ok (.iconst 1, 1) := by decide +kernel
theorem dX5_verdictOfParts_12 : decode cX5_verdictOfParts 12 = .ok (.invokevirtual 48, 3) := by decide +kernel
theorem dX5_verdictOfParts_15 : decode cX5_verdictOfParts 15 = .ok (.iconst 1, 1) := by decide +kernel
theorem dX5_verdictOfParts_16 : decode cX5_verdictOfParts 16 = .ok (.aload_n 0, 1) := by decide +kernel
theorem dX5_verdictOfParts_17 : decode cX5_verdictOfParts 17 = .ok (.getfield 22, 3) := by decide +kernel
theorem dX5_verdictOfParts_20 : decode cX5_verdictOfParts 20 = .ok (.ishl, 1) := by decide +kernel
theorem dX5_verdictOfParts_21 : decode cX5_verdictOfParts 21 = .ok (.iconst 1, 1) := by decide +kernel
theorem dX5_verdictOfParts_22 : decode cX5_verdictOfParts 22 = .ok (.isub, 1) := by decide +kernel
theorem dX5_verdictOfParts_23 : decode cX5_verdictOfParts 23 = .ok (.if_icmp .ne 7, 3) := by decide +kernel
theorem dX5_verdictOfParts_26 : decode cX5_verdictOfParts 26 = .ok (.iconst 1, 1) := by decide +kernel
theorem dX5_verdictOfParts_27 : decode cX5_verdictOfParts 27 = .ok (.goto 4, 3) := by decide +kernel
theorem dX5_verdictOfParts_30 : decode cX5_verdictOfParts 30 = .ok (.iconst 2, 1) := by decide +kernel
theorem dX5_verdictOfParts_31 : decode cX5_verdictOfParts 31 = .ok (.ireturn, 1) := by decide +kernel
theorem dX5_sizeOfParts_0 : decode cX5_sizeOfParts 0 = .ok (.iconst 0, 1) := by decide +kernel
theorem dX5_sizeOfParts_1 : decode cX5_sizeOfParts 1 = .ok (.istore_n 1, 1) := by decide +kernel
theorem dX5_sizeOfParts_2 : decode cX5_sizeOfParts 2 = .ok (.iconst 0, 1) := by decide +kernel
theorem dX5_sizeOfParts_3 : decode cX5_sizeOfParts 3 = .ok (.istore_n 2, 1) := by decide +kernel
theorem dX5_sizeOfParts_4 : decode cX5_sizeOfParts 4 = .ok (.iload_n 2, 1) := by decide +kernel
theorem dX5_sizeOfParts_5 : decode cX5_sizeOfParts 5 = .ok (.aload_n 0, 1) := by decide +kernel
theorem dX5_sizeOfParts_6 : decode cX5_sizeOfParts 6 = .ok (.getfield 22, 3) := by decide +kernel
theorem dX5_sizeOfParts_9 : decode cX5_sizeOfParts 9 = .ok (.if_icmp .ge 18, 3) := by decide +kernel
theorem dX5_sizeOfParts_12 : decode cX5_sizeOfParts 12 = .ok (.iload_n 1, 1) := by decide +kernel
theorem dX5_sizeOfParts_13 : decode cX5_sizeOfParts 13 = .ok (.aload_n 0, 1) := by decide +kernel
theorem dX5_sizeOfParts_14 : decode cX5_sizeOfParts 14 = .ok (.getfield 9, 3) := by decide +kernel
theorem dX5_sizeOfParts_17 : decode cX5_sizeOfParts 17 = .ok (.iload_n 2, 1) := by decide +kernel
theorem dX5_sizeOfParts_18 : decode cX5_sizeOfParts 18 = .ok (.iaload, 1) := by decide +kernel
theorem dX5_sizeOfParts_19 : decode cX5_sizeOfParts 19 = .ok (.iadd, 1) := by decide +kernel
theorem dX5_sizeOfParts_20 : decode cX5_sizeOfParts 20 = .ok (.istore_n 1, 1) := by decide +kernel
theorem dX5_sizeOfParts_21 : decode cX5_sizeOfParts 21 = .ok (.iinc 2 1, 3) := by decide +kernel
theorem dX5_sizeOfParts_24 : decode cX5_sizeOfParts 24 = .ok (.goto (-20), 3) := by decide +kernel
theorem dX5_sizeOfParts_27 : decode cX5_sizeOfParts 27 = .ok (.iload_n 1, 1) := by decide +kernel
theorem dX5_sizeOfParts_28 : decode cX5_sizeOfParts 28 = .ok (.ireturn, 1) := by decide +kernel
theorem dX6_init_0 : decode cX6_init 0 = .ok (.aload_n 0, 1) := by decide +kernel
theorem dX6_init_1 : decode cX6_init 1 = .ok (.invokespecial 3, 3) := by decide +kernel
theorem dX6_init_4 : decode cX6_init 4 = .ok (.aload_n 0, 1) := by decide +kernel
theorem dX6_init_5 : decode cX6_init 5 = .ok (.new 9, 3) := by decide +kernel
theorem dX6_init_8 : decode cX6_init 8 = .ok (.dup, 1) := by decide +kernel
theorem dX6_init_9 : decode cX6_init 9 = .ok (.invokespecial 11, 3) := by decide +kernel
theorem dX6_init_12 : decode cX6_init 12 = .ok (.putfield 12, 3) := by decide +kernel
theorem dX6_init_15 : decode cX6_init 15 = .ok (.aload_n 0, 1) := by decide +kernel
theorem dX6_init_16 : decode cX6_init 16 = .ok (.new 16, 3) := by decide +kernel
theorem dX6_init_19 : decode cX6_init 19 = .ok (.dup, 1) := by decide +kernel
theorem dX6_init_20 : decode cX6_init 20 = .ok (.aload_n 0, 1) := by decide +kernel
theorem dX6_init_21 : decode cX6_init 21 = .ok (.getfield 12, 3) := by decide +kernel
theorem dX6_init_24 : decode cX6_init 24 = .ok (.invokespecial 18, 3) := by decide +kernel
theorem dX6_init_27 : decode cX6_init 27 = .ok (.putfield 21, 3) := by decide +kernel
theorem dX6_init_30 : decode cX6_init 30 = .ok (.aload_n 0, 1) := by decide +kernel
theorem dX6_init_31 : decode cX6_init 31 = .ok (.new 25, 3) := by decide +kernel
theorem dX6_init_34 : decode cX6_init 34 = .ok (.dup, 1) := by decide +kernel
theorem dX6_init_35 : decode cX6_init 35 = .ok (.aload_n 0, 1) := by decide +kernel
theorem dX6_init_36 : decode cX6_init 36 = .ok (.getfield 12, 3) := by decide +kernel
theorem dX6_init_39 : decode cX6_init 39 = .ok (.invokespecial 27, 3) := by decide +kernel
theorem dX6_init_42 : decode cX6_init 42 = .ok (.putfield 28, 3) := by decide +kernel
theorem dX6_init_45 : decode cX6_init 45 = .ok (.aload_n 0, 1) := by decide +kernel
theorem dX6_init_46 : decode cX6_init 46 = .ok (.new 32, 3) := by decide +kernel
theorem dX6_init_49 : decode cX6_init 49 = .ok (.dup, 1) := by decide +kernel
theorem dX6_init_50 : decode cX6_init 50 = .ok (.aload_n 0, 1) := by decide +kernel
theorem dX6_init_51 : decode cX6_init 51 = .ok (.getfield 12, 3) := by decide +kernel
theorem dX6_init_54 : decode cX6_init 54 = .ok (.aload_n 0, 1) := by decide +kernel
theorem dX6_init_55 : decode cX6_init 55 = .ok (.getfield 21, 3) := by decide +kernel
theorem dX6_init_58 : decode cX6_init 58 = .ok (.invokespecial 34, 3) := by decide +kernel
theorem dX6_init_61 : decode cX6_init 61 = .ok (.putfield 37, 3) := by decide +kernel
theorem dX6_init_64 : decode cX6_init 64 = .ok (.aload_n 0, 1) := by decide +kernel
theorem dX6_init_65 : decode cX6_init 65 = .ok (.bipush 64, 2) := by decide +kernel
theorem dX6_init_67 : decode cX6_init 67 = .ok (.newarray .int, 2) := by decide +kernel
theorem dX6_init_69 : decode cX6_init 69 = .ok (.putfield 41, 3) := by decide +kernel
theorem dX6_init_72 : decode cX6_init 72 = .ok (.aload_n 0, 1) := by decide +kernel
theorem dX6_init_73 : decode cX6_init 73 = .ok (.bipush 64, 2) := by decide +kernel
theorem dX6_init_75 : decode cX6_init 75 = .ok (.newarray .int, 2) := by decide +kernel
theorem dX6_init_77 : decode cX6_init 77 = .ok (.putfield 45, 3) := by decide +kernel
theorem dX6_init_80 : decode cX6_init 80 = .ok (.aload_n 0, 1) := by decide +kernel
theorem dX6_init_81 : decode cX6_init 81 = .ok (.iconst 4, 1) := by decide +kernel
theorem dX6_init_82 : decode cX6_init 82 = .ok (.anewarray 48, 3) := by decide +kernel
theorem dX6_init_85 : decode cX6_init 85 = .ok (.putfield 50, 3) := by decide +kernel
theorem dX6_init_88 : decode cX6_init 88 = .ok (.aload_n 0, 1) := by decide +kernel
theorem dX6_init_89 : decode cX6_init 89 = .ok (.new 48, 3) := by decide +kernel
theorem dX6_init_92 : decode cX6_init 92 = .ok (.dup, 1) := by decide +kernel
theorem dX6_init_93 : decode cX6_init 93 = .ok (.invokespecial 54, 3) := by decide +kernel
theorem dX6_init_96 : decode cX6_init 96 = .ok (.putfield 55, 3) := by decide +kernel
theorem dX6_init_99 : decode cX6_init 99 = .ok (.aload_n 0, 1) := by decide +kernel
theorem dX6_init_100 : decode cX6_init 100 = .ok (.new 48, 3) := by decide +kernel
theorem dX6_init_103 : decode cX6_init 103 = .ok (.dup, 1) := by decide +kernel
theorem dX6_init_104 : decode cX6_init 104 = .ok (.invokespecial 54, 3) := by decide +kernel
theorem dX6_init_107 : decode cX6_init 107 = .ok (.putfield 59, 3) := by decide +kernel
theorem dX6_init_110 : decode cX6_init 110 = .ok (.aload_n 0, 1) := by decide +kernel
theorem dX6_init_111 : decode cX6_init 111 = .ok (.new 48, 3) := by decide +kernel
theorem dX6_init_114 : decode cX6_init 114 = .ok (.dup, 1) := by decide +kernel
theorem dX6_init_115 : decode cX6_init 115 = .ok (.invokespecial 54, 3) := by decide +kernel
theorem dX6_init_118 : decode cX6_init 118 = .ok (.putfield 62, 3) := by decide +kernel
theorem dX6_init_121 : decode cX6_init 121 = .ok (.iconst 0, 1) := by decide +kernel
theorem dX6_init_122 : decode cX6_init 122 = .ok (.istore_n 1, 1) := by decide +kernel
theorem dX6_init_123 : decode cX6_init 123 = .ok (.iload_n 1, 1) := by decide +kernel
theorem dX6_init_124 : decode cX6_init 124 = .ok (.iconst 4, 1) := by decide +kernel
theorem dX6_init_125 : decode cX6_init 125 = .ok (.if_icmp .ge 22, 3) := by decide +kernel
theorem dX6_init_128 : decode cX6_init 128 = .ok (.aload_n 0, 1) := by decide +kernel
theorem dX6_init_129 : decode cX6_init 129 = .ok (.getfield 50, 3) := by decide +kernel
theorem dX6_init_132 : decode cX6_init 132 = .ok (.iload_n 1, 1) := by decide +kernel
theorem dX6_init_133 : decode cX6_init 133 = .ok (.new 48, 3) := by decide +kernel
theorem dX6_init_136 : decode cX6_init 136 = .ok (.dup, 1) := by decide +kernel
theorem dX6_init_137 : decode cX6_init 137 = .ok (.invokespecial 54, 3) := by decide +kernel
theorem dX6_init_140 : decode cX6_init 140 = .ok (.aastore, 1) := by decide +kernel
theorem dX6_init_141 : decode cX6_init 141 = .ok (.iinc 1 1, 3) := by decide +kernel
theorem dX6_init_144 : decode cX6_init 144 = .ok (.goto (-21), 3) := by decide +kernel
theorem dX6_init_147 : decode cX6_init 147 = .ok (.return_, 1) := by decide +kernel
theorem dX6_event_0 : decode cX6_event 0 = .ok (.iload_n 1, 1) := by decide +kernel
theorem dX6_event_1 : decode cX6_event 1 = .ok (.ifCond .lt 9, 3) := by decide +kernel
theorem dX6_event_4 : decode cX6_event 4 = .ok (.iload_n 1, 1) := by decide +kernel
theorem dX6_event_5 : decode cX6_event 5 = .ok (.bipush 64, 2) := by decide +kernel
theorem dX6_event_7 : decode cX6_event 7 = .ok (.if_icmp .lt 6, 3) := by decide +kernel
theorem dX6_event_10 : decode cX6_event 10 = .ok (.bipush (-2), 2) := by decide +kernel
theorem dX6_event_12 : decode cX6_event 12 = .ok (.ireturn, 1) := by decide +kernel
theorem dX6_event_13 : decode cX6_event 13 = .ok (.aload_n 0, 1) := by decide +kernel
theorem dX6_event_14 : decode cX6_event 14 = .ok (.getfield 59, 3) := by decide +kernel
theorem dX6_event_17 : decode cX6_event 17 = .ok (.getfield 65, 3) := by decide +kernel
theorem dX6_event_20 : decode cX6_event 20 = .ok (.ifCond .eq 6, 3) := by decide +kernel
theorem dX6_event_23 : decode cX6_event 23 = .ok (.bipush (-4), 2) := by decide +kernel
theorem dX6_event_25 : decode cX6_event 25 = .ok (.ireturn, 1) := by decide +kernel
theorem dX6_event_26 : decode cX6_event 26 = .ok (.aload_n 0, 1) := by decide +kernel
theorem dX6_event_27 : decode cX6_event 27 = .ok (.getfield 59, 3) := by decide +kernel
theorem dX6_event_30 : decode cX6_event 30 = .ok (.getfield 69, 3) := by decide +kernel
theorem dX6_event_33 : decode cX6_event 33 = .ok (.bipush 40, 2) := by decide +kernel
theorem dX6_event_35 : decode cX6_event 35 = .ok (.if_icmp .lt 6, 3) := by decide +kernel
theorem dX6_event_38 : decode cX6_event 38 = .ok (.bipush (-3), 2) := by decide +kernel
theorem dX6_event_40 : decode cX6_event 40 = .ok (.ireturn, 1) := by decide +kernel
theorem dX6_event_41 : decode cX6_event 41 = .ok (.aload_n 0, 1) := by decide +kernel
theorem dX6_event_42 : decode cX6_event 42 = .ok (.getfield 62, 3) := by decide +kernel
theorem dX6_event_45 : decode cX6_event 45 = .ok (.astore_n 2, 1) := by decide +kernel
theorem dX6_event_46 : decode cX6_event 46 = .ok (.aload_n 2, 1) := by decide +kernel
theorem dX6_event_47 : decode cX6_event 47 = .ok (.aload_n 0, 1) := by decide +kernel
theorem dX6_event_48 : decode cX6_event 48 = .ok (.getfield 59, 3) := by decide +kernel
theorem dX6_event_51 : decode cX6_event 51 = .ok (.invokevirtual 73, 3) := by decide +kernel
theorem dX6_event_54 : decode cX6_event 54 = .ok (.iconst 0, 1) := by decide +kernel
theorem dX6_event_55 : decode cX6_event 55 = .ok (.istore_n 3, 1) := by decide +kernel
theorem dX6_event_56 : decode cX6_event 56 = .ok (.iconst 0, 1) := by decide +kernel
theorem dX6_event_57 : decode cX6_event 57 = .ok (.istore 4, 2) := by decide +kernel
theorem dX6_event_59 : decode cX6_event 59 = .ok (.iload 4, 2) := by decide +kernel
theorem dX6_event_61 : decode cX6_event 61 = .ok (.aload_n 0, 1) := by decide +kernel
theorem dX6_event_62 : decode cX6_event 62 = .ok (.getfield 59, 3) := by decide +kernel
theorem dX6_event_65 : decode cX6_event 65 = .ok (.getfield 77, 3) := by decide +kernel
theorem dX6_event_68 : decode cX6_event 68 = .ok (.if_icmp .ge 104, 3) := by decide +kernel
theorem dX6_event_71 : decode cX6_event 71 = .ok (.aload_n 0, 1) := by decide +kernel
theorem dX6_event_72 : decode cX6_event 72 = .ok (.getfield 59, 3) := by decide +kernel
theorem dX6_event_75 : decode cX6_event 75 = .ok (.getfield 80, 3) := by decide +kernel
theorem dX6_event_78 : decode cX6_event 78 = .ok (.iload 4, 2) := by decide +kernel
theorem dX6_event_80 : decode cX6_event 80 = .ok (.aaload, 1) := by decide +kernel
theorem dX6_event_81 : decode cX6_event 81 = .ok (.astore 5, 2) := by decide +kernel
theorem dX6_event_83 : decode cX6_event 83 = .ok (.aload_n 2, 1) := by decide +kernel
theorem dX6_event_84 : decode cX6_event 84 = .ok (.getfield 80, 3) := by decide +kernel
theorem dX6_event_87 : decode cX6_event 87 = .ok (.iload 4, 2) := by decide +kernel
theorem dX6_event_89 : decode cX6_event 89 = .ok (.aaload, 1) := by decide +kernel
theorem dX6_event_90 : decode cX6_event 90 = .ok (.astore 6, 2) := by decide +kernel
theorem dX6_event_92 : decode cX6_event 92 = .ok (.aload 5, 2) := by decide +kernel
theorem dX6_event_94 : decode cX6_event 94 = .ok (.getfield 84, 3) := by decide +kernel
theorem dX6_event_97 : decode cX6_event 97 = .ok (.ifCond .eq 69, 3) := by decide +kernel
theorem dX6_event_100 : decode cX6_event 100 = .ok (.aload_n 0, 1) := by decide +kernel
theorem dX6_event_101 : decode cX6_event 101 = .ok (.aload 5, 2) := by decide +kernel
theorem dX6_event_103 : decode cX6_event 103 = .ok (.aload 6, 2) := by decide +kernel
theorem dX6_event_105 : decode cX6_event 105 = .ok (.iload_n 1, 1) := by decide +kernel
theorem dX6_event_106 : decode cX6_event 106 = .ok (.invokevirtual 89, 3) := by decide +kernel
theorem dX6_event_109 : decode cX6_event 109 = .ok (.ifCond .ne 6, 3) := by decide +kernel
theorem dX6_event_112 : decode cX6_event 112 = .ok (.bipush (-3), 2) := by decide +kernel
theorem dX6_event_114 : decode cX6_event 114 = .ok (.ireturn, 1) := by decide +kernel
theorem dX6_event_115 : decode cX6_event 115 = .ok (.aload 5, 2) := by decide +kernel
theorem dX6_event_117 : decode cX6_event 117 = .ok (.getfield 93, 3) := by decide +kernel
theorem dX6_event_120 : decode cX6_event 120 = .ok (.iconst 2, 1) := by decide +kernel
theorem dX6_event_121 : decode cX6_event 121 = .ok (.if_icmp .ne 45, 3) := by decide +kernel
theorem dX6_event_124 : decode cX6_event 124 = .ok (.aload 6, 2) := by decide +kernel
theorem dX6_event_126 : decode cX6_event 126 = .ok (.aload_n 0, 1) := by decide +kernel
theorem dX6_event_127 : decode cX6_event 127 = .ok (.getfield 59, 3) := by decide +kernel
theorem dX6_event_130 : decode cX6_event 130 = .ok (.getfield 69, 3) := by decide +kernel
theorem dX6_event_133 : decode cX6_event 133 = .ok (.invokevirtual 96, 3) := by decide +kernel
theorem dX6_event_136 : decode cX6_event 136 = .ok (.ifCond .eq 30, 3) := by decide +kernel
theorem dX6_event_139 : decode cX6_event 139 = .ok (.aload 6, 2) := by decide +kernel
theorem dX6_event_141 : decode cX6_event 141 = .ok (.aload 6, 2) := by decide +kernel
theorem dX6_event_143 : decode cX6_event 143 = .ok (.getfield 93, 3) := by decide +kernel
theorem dX6_event_146 : decode cX6_event 146 = .ok (.ifCond .ne 13, 3) := by decide +kernel
theorem dX6_event_149 : decode cX6_event 149 = .ok (.aload_n 0, 1) := by decide +kernel
theorem dX6_event_150 : decode cX6_event 150 = .ok (.aload 5, 2) := by decide +kernel
theorem dX6_event_152 : decode cX6_event 152 = .ok (.iload_n 1, 1) := by decide +kernel
theorem dX6_event_153 : decode cX6_event 153 = .ok (.invokevirtual 100, 3) := by decide +kernel
theorem dX6_event_156 : decode cX6_event 156 = .ok (.goto 4, 3) := by decide +kernel
theorem dX6_event_159 : decode cX6_event 159 = .ok (.iconst 0, 1) := by decide +kernel
theorem dX6_event_160 : decode cX6_event 160 = .ok (.putfield 104, 3) := by decide +kernel
theorem dX6_event_163 : decode cX6_event 163 = .ok (.iinc 3 1, 3) := by decide +kernel
theorem dX6_event_166 : decode cX6_event 166 = .ok (.iinc 4 1, 3) := by decide +kernel
theorem dX6_event_169 : decode cX6_event 169 = .ok (.goto (-110), 3) := by decide +kernel
theorem dX6_event_172 : decode cX6_event 172 = .ok (.aload_n 2, 1) := by decide +kernel
theorem dX6_event_173 : decode cX6_event 173 = .ok (.getfield 107, 3) := by decide +kernel
theorem dX6_event_176 : decode cX6_event 176 = .ok (.aload_n 2, 1) := by decide +kernel
theorem dX6_event_177 : decode cX6_event 177 = .ok (.getfield 69, 3) := by decide +kernel
theorem dX6_event_180 : decode cX6_event 180 = .ok (.iload_n 1, 1) := by decide +kernel
theorem dX6_event_181 : decode cX6_event 181 = .ok (.iastore, 1) := by decide +kernel
theorem dX6_event_182 : decode cX6_event 182 = .ok (.aload_n 2, 1) := by decide +kernel
theorem dX6_event_183 : decode cX6_event 183 = .ok (.dup, 1) := by decide +kernel
theorem dX6_event_184 : decode cX6_event 184 = .ok (.getfield 69, 3) := by decide +kernel
theorem dX6_event_187 : decode cX6_event 187 = .ok (.iconst 1, 1) := by decide +kernel
theorem dX6_event_188 : decode cX6_event 188 = .ok (.iadd, 1) := by decide +kernel
theorem dX6_event_189 : decode cX6_event 189 = .ok (.putfield 69, 3) := by decide +kernel
theorem dX6_event_192 : decode cX6_event 192 = .ok (.aload_n 0, 1) := by decide +kernel
theorem dX6_event_193 : decode cX6_event 193 = .ok (.invokevirtual 110, 3) := by decide +kernel
theorem dX6_event_196 : decode cX6_event 196 = .ok (.iload_n 3, 1) := by decide +kernel
theorem dX6_event_197 : decode cX6_event 197 = .ok (.ireturn, 1) := by decide +kernel
theorem dX6_end_0 : decode cX6_end 0 = .ok (.aload_n 0, 1) := by decide +kernel
theorem dX6_end_1 : decode cX6_end 1 = .ok (.getfield 59, 3) := by decide +kernel
theorem dX6_end_4 : decode cX6_end 4 = .ok (.getfield 65, 3) := by decide +kernel
theorem dX6_end_7 : decode cX6_end 7 = .ok (.ifCond .eq 6, 3) := by decide +kernel
theorem dX6_end_10 : decode cX6_end 10 = .ok (.bipush (-4), 2) := by decide +kernel
theorem dX6_end_12 : decode cX6_end 12 = .ok (.ireturn, 1) := by decide +kernel
theorem dX6_end_13 : decode cX6_end 13 = .ok (.aload_n 0, 1) := by decide +kernel
theorem dX6_end_14 : decode cX6_end 14 = .ok (.getfield 62, 3) := by decide +kernel
theorem dX6_end_17 : decode cX6_end 17 = .ok (.astore_n 1, 1) := by decide +kernel
theorem dX6_end_18 : decode cX6_end 18 = .ok (.aload_n 1, 1) := by decide +kernel
theorem dX6_end_19 : decode cX6_end 19 = .ok (.aload_n 0, 1) := by decide +kernel
theorem dX6_end_20 : decode cX6_end 20 = .ok (.getfield 59, 3) := by decide +kernel
theorem dX6_end_23 : decode cX6_end 23 = .ok (.invokevirtual 73, 3) := by decide +kernel
theorem dX6_end_26 : decode cX6_end 26 = .ok (.aload_n 1, 1) := by decide +kernel
theorem dX6_end_27 : decode cX6_end 27 = .ok (.iconst 1, 1) := by decide +kernel
theorem dX6_end_28 : decode cX6_end 28 = .ok (.putfield 65, 3) := by decide +kernel
theorem dX6_end_31 : decode cX6_end 31 = .ok (.iconst 0, 1) := by decide +kernel
theorem dX6_end_32 : decode cX6_end 32 = .ok (.istore_n 2, 1) := by decide +kernel
theorem dX6_end_33 : decode cX6_end 33 = .ok (.iconst 0, 1) := by decide +kernel
theorem dX6_end_34 : decode cX6_end 34 = .ok (.istore_n 3, 1) := by decide +kernel
theorem dX6_end_35 : decode cX6_end 35 = .ok (.iload_n 3, 1) := by decide +kernel
theorem dX6_end_36 : decode cX6_end 36 = .ok (.aload_n 1, 1) := by decide +kernel
theorem dX6_end_37 : decode cX6_end 37 = .ok (.getfield 77, 3) := by decide +kernel
theorem dX6_end_40 : decode cX6_end 40 = .ok (.if_icmp .ge 58, 3) := by decide +kernel
theorem dX6_end_43 : decode cX6_end 43 = .ok (.aload_n 1, 1) := by decide +kernel
theorem dX6_end_44 : decode cX6_end 44 = .ok (.getfield 80, 3) := by decide +kernel
theorem dX6_end_47 : decode cX6_end 47 = .ok (.iload_n 3, 1) := by decide +kernel
theorem dX6_end_48 : decode cX6_end 48 = .ok (.aaload, 1) := by decide +kernel
theorem dX6_end_49 : decode cX6_end 49 = .ok (.astore 4, 2) := by decide +kernel
theorem dX6_end_51 : decode cX6_end 51 = .ok (.aload 4, 2) := by decide +kernel
theorem dX6_end_53 : decode cX6_end 53 = .ok (.getfield 84, 3) := by decide +kernel
theorem dX6_end_56 : decode cX6_end 56 = .ok (.ifCond .eq 36, 3) := by decide +kernel
theorem dX6_end_59 : decode cX6_end 59 = .ok (.aload 4, 2) := by decide +kernel
theorem dX6_end_61 : decode cX6_end 61 = .ok (.getfield 93, 3) := by decide +kernel
theorem dX6_end_64 : decode cX6_end 64 = .ok (.iconst 2, 1) := by decide +kernel
theorem dX6_end_65 : decode cX6_end 65 = .ok (.if_icmp .ne 27, 3) := by decide +kernel
theorem dX6_end_68 : decode cX6_end 68 = .ok (.aload_n 0, 1) := by decide +kernel
theorem dX6_end_69 : decode cX6_end 69 = .ok (.aload 4, 2) := by decide +kernel
theorem dX6_end_71 : decode cX6_end 71 = .ok (.invokevirtual 113, 3) := by decide +kernel
theorem dX6_end_74 : decode cX6_end 74 = .ok (.aload 4, 2) := by decide +kernel
theorem dX6_end_76 : decode cX6_end 76 = .ok (.aload 4, 2) := by decide +kernel
theorem dX6_end_78 : decode cX6_end 78 = .ok (.invokevirtual 117, 3) := by decide +kernel
theorem dX6_end_81 : decode cX6_end 81 = .ok (.putfield 93, 3) := by decide +kernel
theorem dX6_end_84 : decode cX6_end 84 = .ok (.iload_n 2, 1) := by decide +kernel
theorem dX6_end_85 : decode cX6_end 85 = .ok (.aload 4, 2) := by decide +kernel
theorem dX6_end_87 : decode cX6_end 87 = .ok (.getfield 93, 3) := by decide +kernel
theorem dX6_end_90 : decode cX6_end 90 = .ok (.iadd, 1) := by decide +kernel
theorem dX6_end_91 : decode cX6_end 91 = .ok (.istore_n 2, 1) := by decide +kernel
theorem dX6_end_92 : decode cX6_end 92 = .ok (.iinc 3 1, 3) := by decide +kernel
theorem dX6_end_95 : decode cX6_end 95 = .ok (.goto (-60), 3) := by decide +kernel
theorem dX6_end_98 : decode cX6_end 98 = .ok (.aload_n 0, 1) := by decide +kernel
theorem dX6_end_99 : decode cX6_end 99 = .ok (.invokevirtual 110, 3) := by decide +kernel
theorem dX6_end_102 : decode cX6_end 102 = .ok (.iload_n 2, 1) := by decide +kernel
theorem dX6_end_103 : decode cX6_end 103 = .ok (.ireturn, 1) := by decide +kernel
theorem dX6_addWish_0 : decode cX6_addWish 0 = .ok (.aload_n 0, 1) := by decide +kernel
theorem dX6_addWish_1 : decode cX6_addWish 1 = .ok (.getfield 37, 3) := by decide +kernel
theorem dX6_addWish_4 : decode cX6_addWish 4 = .ok (.invokevirtual 121, 3) := by decide +kernel
theorem dX6_addWish_7 : decode cX6_addWish 7 = .ok (.istore_n 1, 1) := by decide +kernel
theorem dX6_addWish_8 : decode cX6_addWish 8 = .ok (.iload_n 1, 1) := by decide +kernel
theorem dX6_addWish_9 : decode cX6_addWish 9 = .ok (.ifCond .lt 8, 3) := by decide +kernel
theorem dX6_addWish_12 : decode cX6_addWish 12 = .ok (.bipush (-100), 2) := by decide +kernel
theorem dX6_addWish_14 : decode cX6_addWish 14 = .ok (.iload_n 1, 1) := by decide +kernel
theorem dX6_addWish_15 : decode cX6_addWish 15 = .ok (.isub, 1) := by decide +kernel
theorem dX6_addWish_16 : decode cX6_addWish 16 = .ok (.ireturn, 1) := by decide +kernel
theorem dX6_addWish_17 : decode cX6_addWish 17 = .ok (.aload_n 0, 1) := by decide +kernel
theorem dX6_addWish_18 : decode cX6_addWish 18 = .ok (.getfield 59, 3) := by decide +kernel
theorem dX6_addWish_21 : decode cX6_addWish 21 = .ok (.getfield 65, 3) := by decide +kernel
theorem dX6_addWish_24 : decode cX6_addWish 24 = .ok (.ifCond .eq 6, 3) := by decide +kernel
theorem dX6_addWish_27 : decode cX6_addWish 27 = .ok (.bipush (-4), 2) := by decide +kernel
theorem dX6_addWish_29 : decode cX6_addWish 29 = .ok (.ireturn, 1) := by decide +kernel
theorem dX6_addWish_30 : decode cX6_addWish 30 = .ok (.aload_n 0, 1) := by decide +kernel
theorem dX6_addWish_31 : decode cX6_addWish 31 = .ok (.getfield 12, 3) := by decide +kernel
theorem dX6_addWish_34 : decode cX6_addWish 34 = .ok (.bipush 16, 2) := by decide +kernel
theorem dX6_addWish_36 : decode cX6_addWish 36 = .ok (.invokevirtual 124, 3) := by decide +kernel
theorem dX6_addWish_39 : decode cX6_addWish 39 = .ok (.aload_n 0, 1) := by decide +kernel
theorem dX6_addWish_40 : decode cX6_addWish 40 = .ok (.aload_n 0, 1) := by decide +kernel
theorem dX6_addWish_41 : decode cX6_addWish 41 = .ok (.getfield 37, 3) := by decide +kernel
theorem dX6_addWish_44 : decode cX6_addWish 44 = .ok (.invokevirtual 128, 3) := by decide +kernel
theorem dX6_addWish_47 : decode cX6_addWish 47 = .ok (.invokevirtual 131, 3) := by decide +kernel
theorem dX6_addWish_50 : decode cX6_addWish 50 = .ok (.ireturn, 1) := by decide +kernel
theorem dX6_join_0 : decode cX6_join 0 = .ok (.aload_n 0, 1) := by decide +kernel
theorem dX6_join_1 : decode cX6_join 1 = .ok (.getfield 59, 3) := by decide +kernel
theorem dX6_join_4 : decode cX6_join 4 = .ok (.iload_n 1, 1) := by decide +kernel
theorem dX6_join_5 : decode cX6_join 5 = .ok (.invokevirtual 135, 3) := by decide +kernel
theorem dX6_join_8 : decode cX6_join 8 = .ok (.astore 4, 2) := by decide +kernel
theorem dX6_join_10 : decode cX6_join 10 = .ok (.aload_n 0, 1) := by decide +kernel
theorem dX6_join_11 : decode cX6_join 11 = .ok (.getfield 59, 3) := by decide +kernel
theorem dX6_join_14 : decode cX6_join 14 = .ok (.iload_n 2, 1) := by decide +kernel
theorem dX6_join_15 : decode cX6_join 15 = .ok (.invokevirtual 135, 3) := by decide +kernel
theorem dX6_join_18 : decode cX6_join 18 = .ok (.astore 5, 2) := by decide +kernel
theorem dX6_join_20 : decode cX6_join 20 = .ok (.aload 4, 2) := by decide +kernel
theorem dX6_join_22 : decode cX6_join 22 = .ok (.ifnull 8, 3) := by decide +kernel
theorem dX6_join_25 : decode cX6_join 25 = .ok (.aload 5, 2) := by decide +kernel
theorem dX6_join_27 : decode cX6_join 27 = .ok (.ifnonnull 5, 3) := by decide +kernel
theorem dX6_join_30 : decode cX6_join 30 = .ok (.iconst (-1), 1) := by decide +kernel
theorem dX6_join_31 : decode cX6_join 31 = .ok (.ireturn, 1) := by decide +kernel
theorem dX6_join_32 : decode cX6_join 32 = .ok (.aload_n 0, 1) := by decide +kernel
theorem dX6_join_33 : decode cX6_join 33 = .ok (.getfield 59, 3) := by decide +kernel
theorem dX6_join_36 : decode cX6_join 36 = .ok (.getfield 65, 3) := by decide +kernel
theorem dX6_join_39 : decode cX6_join 39 = .ok (.ifCond .eq 6, 3) := by decide +kernel
theorem dX6_join_42 : decode cX6_join 42 = .ok (.bipush (-4), 2) := by decide +kernel
theorem dX6_join_44 : decode cX6_join 44 = .ok (.ireturn, 1) := by decide +kernel
theorem dX6_join_45 : decode cX6_join 45 = .ok (.aload_n 0, 1) := by decide +kernel
theorem dX6_join_46 : decode cX6_join 46 = .ok (.getfield 12, 3) := by decide +kernel
theorem dX6_join_49 : decode cX6_join 49 = .ok (.bipush 16, 2) := by decide +kernel
theorem dX6_join_51 : decode cX6_join 51 = .ok (.invokevirtual 124, 3) := by decide +kernel
theorem dX6_join_54 : decode cX6_join 54 = .ok (.aload_n 0, 1) := by decide +kernel
theorem dX6_join_55 : decode cX6_join 55 = .ok (.aload 4, 2) := by decide +kernel
theorem dX6_join_57 : decode cX6_join 57 = .ok (.invokevirtual 139, 3) := by decide +kernel
theorem dX6_join_60 : decode cX6_join 60 = .ok (.istore 6, 2) := by decide +kernel
theorem dX6_join_62 : decode cX6_join 62 = .ok (.aload_n 0, 1) := by decide +kernel
theorem dX6_join_63 : decode cX6_join 63 = .ok (.aload 5, 2) := by decide +kernel
theorem dX6_join_65 : decode cX6_join 65 = .ok (.invokevirtual 139, 3) := by decide +kernel
theorem dX6_join_68 : decode cX6_join 68 = .ok (.istore 7, 2) := by decide +kernel
theorem dX6_join_70 : decode cX6_join 70 = .ok (.aload_n 0, 1) := by decide +kernel
theorem dX6_join_71 : decode cX6_join 71 = .ok (.aload_n 0, 1) := by decide +kernel
theorem dX6_join_72 : decode cX6_join 72 = .ok (.getfield 21, 3) := by decide +kernel
theorem dX6_join_75 : decode cX6_join 75 = .ok (.iload_n 3, 1) := by decide +kernel
theorem dX6_join_76 : decode cX6_join 76 = .ok (.ifCond .eq 8, 3) := by decide +kernel
theorem dX6_join_79 : decode cX6_join 79 = .ok (.bipush 21, 2) := by decide +kernel
theorem dX6_join_81 : decode cX6_join 81 = .ok (.goto 5, 3) := by decide +kernel
theorem dX6_join_84 : decode cX6_join 84 = .ok (.bipush 20, 2) := by decide +kernel
theorem dX6_join_86 : decode cX6_join 86 = .ok (.iload 6, 2) := by decide +kernel
theorem dX6_join_88 : decode cX6_join 88 = .ok (.iload 7, 2) := by decide +kernel
theorem dX6_join_90 : decode cX6_join 90 = .ok (.invokevirtual 143, 3) := by decide +kernel
theorem dX6_join_93 : decode cX6_join 93 = .ok (.invokevirtual 131, 3) := by decide +kernel
theorem dX6_join_96 : decode cX6_join 96 = .ok (.ireturn, 1) := by decide +kernel
theorem dX6_removeWish_0 : decode cX6_removeWish 0 = .ok (.aload_n 0, 1) := by decide +kernel
theorem dX6_removeWish_1 : decode cX6_removeWish 1 = .ok (.getfield 59, 3) := by decide +kernel
theorem dX6_removeWish_4 : decode cX6_removeWish 4 = .ok (.iload_n 1, 1) := by decide +kernel
theorem dX6_removeWish_5 : decode cX6_removeWish 5 = .ok (.invokevirtual 135, 3) := by decide +kernel
theorem dX6_removeWish_8 : decode cX6_removeWish 8 = .ok (.ifnonnull 5, 3) := by decide +kernel
theorem dX6_removeWish_11 : decode cX6_removeWish 11 = .ok (.iconst (-1), 1) := by decide +kernel
theorem dX6_removeWish_12 : decode cX6_removeWish 12 = .ok (.ireturn, 1) := by decide +kernel
theorem dX6_removeWish_13 : decode cX6_removeWish 13 = .ok (.aload_n 0, 1) := by decide +kernel
theorem dX6_removeWish_14 : decode cX6_removeWish 14 = .ok (.getfield 62, 3) := by decide +kernel
theorem dX6_removeWish_17 : decode cX6_removeWish 17 = .ok (.astore_n 2, 1) := by decide +kernel
theorem dX6_removeWish_18 : decode cX6_removeWish 18 = .ok (.aload_n 2, 1) := by decide +kernel
theorem dX6_removeWish_19 : decode cX6_removeWish 19 = .ok (.aload_n 0, 1) := by decide +kernel
theorem dX6_removeWish_20 : decode cX6_removeWish 20 = .ok (.getfield 59, 3) := by decide +kernel
theorem dX6_removeWish_23 : decode cX6_removeWish 23 = .ok (.invokevirtual 73, 3) := by decide +kernel
theorem dX6_removeWish_26 : decode cX6_removeWish 26 = .ok (.aload_n 2, 1) := by decide +kernel
theorem dX6_removeWish_27 : decode cX6_removeWish 27 = .ok (.getfield 80, 3) := by decide +kernel
theorem dX6_removeWish_30 : decode cX6_removeWish 30 = .ok (.iload_n 1, 1) := by decide +kernel
theorem dX6_removeWish_31 : decode cX6_removeWish 31 = .ok (.aaload, 1) := by decide +kernel
theorem dX6_removeWish_32 : decode cX6_removeWish 32 = .ok (.iconst 0, 1) := by decide +kernel
theorem dX6_removeWish_33 : decode cX6_removeWish 33 = .ok (.putfield 84, 3) := by decide +kernel
theorem dX6_removeWish_36 : decode cX6_removeWish 36 = .ok (.aload_n 0, 1) := by decide +kernel
theorem dX6_removeWish_37 : decode cX6_removeWish 37 = .ok (.invokevirtual 110, 3) := by decide +kernel
theorem dX6_removeWish_40 : decode cX6_removeWish 40 = .ok (.aload_n 0, 1) := by decide +kernel
theorem dX6_removeWish_41 : decode cX6_removeWish 41 = .ok (.getfield 59, 3) := by decide +kernel
theorem dX6_removeWish_44 : decode cX6_removeWish 44 = .ok (.invokevirtual 147, 3) := by decide +kernel
theorem dX6_removeWish_47 : decode cX6_removeWish 47 = .ok (.ireturn, 1) := by decide +kernel
theorem dX6_type_0 : decode cX6_type 0 = .ok (.aload_n 0, 1) := by decide +kernel
theorem dX6_type_1 : decode cX6_type 1 = .ok (.getfield 37, 3) := by decide +kernel
theorem dX6_type_4 : decode cX6_type 4 = .ok (.iload_n 1, 1) := by decide +kernel
theorem dX6_type_5 : decode cX6_type 5 = .ok (.invokevirtual 150, 3) := by decide +kernel
theorem dX6_type_8 : decode cX6_type 8 = .ok (.ifCond .eq 13, 3) := by decide +kernel
theorem dX6_type_11 : decode cX6_type 11 = .ok (.aload_n 0, 1) := by decide +kernel
theorem dX6_type_12 : decode cX6_type 12 = .ok (.getfield 37, 3) := by decide +kernel
theorem dX6_type_15 : decode cX6_type 15 = .ok (.getfield 154, 3) := by decide +kernel
theorem dX6_type_18 : decode cX6_type 18 = .ok (.goto 5, 3) := by decide +kernel
theorem dX6_type_21 : decode cX6_type 21 = .ok (.bipush (-3), 2) := by decide +kernel
theorem dX6_type_23 : decode cX6_type 23 = .ok (.ireturn, 1) := by decide +kernel
theorem dX6_clearText_0 : decode cX6_clearText 0 = .ok (.aload_n 0, 1) := by decide +kernel
theorem dX6_clearText_1 : decode cX6_clearText 1 = .ok (.getfield 37, 3) := by decide +kernel
theorem dX6_clearText_4 : decode cX6_clearText 4 = .ok (.getfield 154, 3) := by decide +kernel
theorem dX6_clearText_7 : decode cX6_clearText 7 = .ok (.istore_n 1, 1) := by decide +kernel
theorem dX6_clearText_8 : decode cX6_clearText 8 = .ok (.aload_n 0, 1) := by decide +kernel
theorem dX6_clearText_9 : decode cX6_clearText 9 = .ok (.getfield 37, 3) := by decide +kernel
theorem dX6_clearText_12 : decode cX6_clearText 12 = .ok (.iconst 0, 1) := by decide +kernel
theorem dX6_clearText_13 : decode cX6_clearText 13 = .ok (.putfield 154, 3) := by decide +kernel
theorem dX6_clearText_16 : decode cX6_clearText 16 = .ok (.iload_n 1, 1) := by decide +kernel
theorem dX6_clearText_17 : decode cX6_clearText 17 = .ok (.ireturn, 1) := by decide +kernel
theorem dX6_undo_0 : decode cX6_undo 0 = .ok (.aload_n 0, 1) := by decide +kernel
theorem dX6_undo_1 : decode cX6_undo 1 = .ok (.getfield 157, 3) := by decide +kernel
theorem dX6_undo_4 : decode cX6_undo 4 = .ok (.ifCond .ne 6, 3) := by decide +kernel
theorem dX6_undo_7 : decode cX6_undo 7 = .ok (.bipush (-5), 2) := by decide +kernel
theorem dX6_undo_9 : decode cX6_undo 9 = .ok (.ireturn, 1) := by decide +kernel
theorem dX6_undo_10 : decode cX6_undo 10 = .ok (.aload_n 0, 1) := by decide +kernel
theorem dX6_undo_11 : decode cX6_undo 11 = .ok (.dup, 1) := by decide +kernel
theorem dX6_undo_12 : decode cX6_undo 12 = .ok (.getfield 157, 3) := by decide +kernel
theorem dX6_undo_15 : decode cX6_undo 15 = .ok (.iconst 1, 1) := by decide +kernel
theorem dX6_undo_16 : decode cX6_undo 16 = .ok (.isub, 1) := by decide +kernel
theorem dX6_undo_17 : decode cX6_undo 17 = .ok (.putfield 157, 3) := by decide +kernel
theorem dX6_undo_20 : decode cX6_undo 20 = .ok (.aload_n 0, 1) := by decide +kernel
theorem dX6_undo_21 : decode cX6_undo 21 = .ok (.getfield 50, 3) := by decide +kernel
theorem dX6_undo_24 : decode cX6_undo 24 = .ok (.aload_n 0, 1) := by decide +kernel
theorem dX6_undo_25 : decode cX6_undo 25 = .ok (.getfield 157, 3) := by decide +kernel
theorem dX6_undo_28 : decode cX6_undo 28 = .ok (.aaload, 1) := by decide +kernel
theorem dX6_undo_29 : decode cX6_undo 29 = .ok (.astore_n 1, 1) := by decide +kernel
theorem dX6_undo_30 : decode cX6_undo 30 = .ok (.aload_n 0, 1) := by decide +kernel
theorem dX6_undo_31 : decode cX6_undo 31 = .ok (.getfield 50, 3) := by decide +kernel
theorem dX6_undo_34 : decode cX6_undo 34 = .ok (.aload_n 0, 1) := by decide +kernel
theorem dX6_undo_35 : decode cX6_undo 35 = .ok (.getfield 157, 3) := by decide +kernel
theorem dX6_undo_38 : decode cX6_undo 38 = .ok (.aload_n 0, 1) := by decide +kernel
theorem dX6_undo_39 : decode cX6_undo 39 = .ok (.getfield 59, 3) := by decide +kernel
theorem dX6_undo_42 : decode cX6_undo 42 = .ok (.aastore, 1) := by decide +kernel
theorem dX6_undo_43 : decode cX6_undo 43 = .ok (.aload_n 0, 1) := by decide +kernel
theorem dX6_undo_44 : decode cX6_undo 44 = .ok (.aload_n 1, 1) := by decide +kernel
theorem dX6_undo_45 : decode cX6_undo 45 = .ok (.putfield 59, 3) := by decide +kernel
theorem dX6_undo_48 : decode cX6_undo 48 = .ok (.aload_n 0, 1) := by decide +kernel
theorem dX6_undo_49 : decode cX6_undo 49 = .ok (.getfield 157, 3) := by decide +kernel
theorem dX6_undo_52 : decode cX6_undo 52 = .ok (.ireturn, 1) := by decide +kernel
theorem dX6_keep_0 : decode cX6_keep 0 = .ok (.aload_n 0, 1) := by decide +kernel
theorem dX6_keep_1 : decode cX6_keep 1 = .ok (.getfield 55, 3) := by decide +kernel
theorem dX6_keep_4 : decode cX6_keep 4 = .ok (.aload_n 0, 1) := by decide +kernel
theorem dX6_keep_5 : decode cX6_keep 5 = .ok (.getfield 59, 3) := by decide +kernel
theorem dX6_keep_8 : decode cX6_keep 8 = .ok (.invokevirtual 73, 3) := by decide +kernel
theorem dX6_keep_11 : decode cX6_keep 11 = .ok (.aload_n 0, 1) := by decide +kernel
theorem dX6_keep_12 : decode cX6_keep 12 = .ok (.iconst 1, 1) := by decide +kernel
theorem dX6_keep_13 : decode cX6_keep 13 = .ok (.putfield 160, 3) := by decide +kernel
theorem dX6_keep_16 : decode cX6_keep 16 = .ok (.aload_n 0, 1) := by decide +kernel
theorem dX6_keep_17 : decode cX6_keep 17 = .ok (.getfield 59, 3) := by decide +kernel
theorem dX6_keep_20 : decode cX6_keep 20 = .ok (.getfield 69, 3) := by decide +kernel
theorem dX6_keep_23 : decode cX6_keep 23 = .ok (.ireturn, 1) := by decide +kernel
theorem dX6_restore_0 : decode cX6_restore 0 = .ok (.aload_n 0, 1) := by decide +kernel
theorem dX6_restore_1 : decode cX6_restore 1 = .ok (.getfield 160, 3) := by decide +kernel
theorem dX6_restore_4 : decode cX6_restore 4 = .ok (.ifCond .ne 6, 3) := by decide +kernel
theorem dX6_restore_7 : decode cX6_restore 7 = .ok (.bipush (-5), 2) := by decide +kernel
theorem dX6_restore_9 : decode cX6_restore 9 = .ok (.ireturn, 1) := by decide +kernel
theorem dX6_restore_10 : decode cX6_restore 10 = .ok (.aload_n 0, 1) := by decide +kernel
theorem dX6_restore_11 : decode cX6_restore 11 = .ok (.getfield 62, 3) := by decide +kernel
theorem dX6_restore_14 : decode cX6_restore 14 = .ok (.aload_n 0, 1) := by decide +kernel
theorem dX6_restore_15 : decode cX6_restore 15 = .ok (.getfield 55, 3) := by decide +kernel
theorem dX6_restore_18 : decode cX6_restore 18 = .ok (.invokevirtual 73, 3) := by decide +kernel
theorem dX6_restore_21 : decode cX6_restore 21 = .ok (.aload_n 0, 1) := by decide +kernel
theorem dX6_restore_22 : decode cX6_restore 22 = .ok (.invokevirtual 110, 3) := by decide +kernel
theorem dX6_restore_25 : decode cX6_restore 25 = .ok (.aload_n 0, 1) := by decide +kernel
theorem dX6_restore_26 : decode cX6_restore 26 = .ok (.getfield 59, 3) := by decide +kernel
theorem dX6_restore_29 : decode cX6_restore 29 = .ok (.getfield 69, 3) := by decide +kernel
theorem dX6_restore_32 : decode cX6_restore 32 = .ok (.ireturn, 1) := by decide +kernel
theorem dX6_wish_0 : decode cX6_wish 0 = .ok (.aload_n 0, 1) := by decide +kernel
theorem dX6_wish_1 : decode cX6_wish 1 = .ok (.getfield 59, 3) := by decide +kernel
theorem dX6_wish_4 : decode cX6_wish 4 = .ok (.iload_n 1, 1) := by decide +kernel
theorem dX6_wish_5 : decode cX6_wish 5 = .ok (.invokevirtual 135, 3) := by decide +kernel
theorem dX6_wish_8 : decode cX6_wish 8 = .ok (.astore_n 3, 1) := by decide +kernel
theorem dX6_wish_9 : decode cX6_wish 9 = .ok (.aload_n 3, 1) := by decide +kernel
theorem dX6_wish_10 : decode cX6_wish 10 = .ok (.ifnonnull 5, 3) := by decide +kernel
theorem dX6_wish_13 : decode cX6_wish 13 = .ok (.iconst (-1), 1) := by decide +kernel
theorem dX6_wish_14 : decode cX6_wish 14 = .ok (.ireturn, 1) := by decide +kernel
theorem dX6_wish_15 : decode cX6_wish 15 = .ok (.iload_n 2, 1) := by decide +kernel
theorem dX6_wish_16 : decode cX6_wish 16 = .ok (.tableswitch 100 0 8 #[52, 57, 62, 68, 74, 79, 84, 90, 95], 52) := by decide +kernel
theorem dX6_wish_68 : decode cX6_wish 68 = .ok (.aload_n 3, 1) := by decide +kernel
theorem dX6_wish_69 : decode cX6_wish 69 = .ok (.getfield 93, 3) := by decide +kernel
theorem dX6_wish_72 : decode cX6_wish 72 = .ok (.ireturn, 1) := by decide +kernel
theorem dX6_wish_73 : decode cX6_wish 73 = .ok (.aload_n 3, 1) := by decide +kernel
theorem dX6_wish_74 : decode cX6_wish 74 = .ok (.getfield 163, 3) := by decide +kernel
theorem dX6_wish_77 : decode cX6_wish 77 = .ok (.ireturn, 1) := by decide +kernel
theorem dX6_wish_78 : decode cX6_wish 78 = .ok (.aload_n 3, 1) := by decide +kernel
theorem dX6_wish_79 : decode cX6_wish 79 = .ok (.iconst 0, 1) := by decide +kernel
theorem dX6_wish_80 : decode cX6_wish 80 = .ok (.invokevirtual 166, 3) := by decide +kernel
theorem dX6_wish_83 : decode cX6_wish 83 = .ok (.ireturn, 1) := by decide +kernel
theorem dX6_wish_84 : decode cX6_wish 84 = .ok (.aload_n 3, 1) := by decide +kernel
theorem dX6_wish_85 : decode cX6_wish 85 = .ok (.iconst 1, 1) := by decide +kernel
theorem dX6_wish_86 : decode cX6_wish 86 = .ok (.invokevirtual 166, 3) := by decide +kernel
theorem dX6_wish_89 : decode cX6_wish 89 = .ok (.ireturn, 1) := by decide +kernel
theorem dX6_wish_90 : decode cX6_wish 90 = .ok (.aload_n 3, 1) := by decide +kernel
theorem dX6_wish_91 : decode cX6_wish 91 = .ok (.getfield 169, 3) := by decide +kernel
theorem dX6_wish_94 : decode cX6_wish 94 = .ok (.ireturn, 1) := by decide +kernel
theorem dX6_wish_95 : decode cX6_wish 95 = .ok (.aload_n 3, 1) := by decide +kernel
theorem dX6_wish_96 : decode cX6_wish 96 = .ok (.getfield 104, 3) := by decide +kernel
theorem dX6_wish_99 : decode cX6_wish 99 = .ok (.ireturn, 1) := by decide +kernel
theorem dX6_wish_100 : decode cX6_wish 100 = .ok (.aload_n 0, 1) := by decide +kernel
theorem dX6_wish_101 : decode cX6_wish 101 = .ok (.aload_n 3, 1) := by decide +kernel
theorem dX6_wish_102 : decode cX6_wish 102 = .ok (.invokevirtual 172, 3) := by decide +kernel
theorem dX6_wish_105 : decode cX6_wish 105 = .ok (.ireturn, 1) := by decide +kernel
theorem dX6_wish_106 : decode cX6_wish 106 = .ok (.aload_n 3, 1) := by decide +kernel
theorem dX6_wish_107 : decode cX6_wish 107 = .ok (.invokevirtual 175, 3) := by decide +kernel
theorem dX6_wish_110 : decode cX6_wish 110 = .ok (.ireturn, 1) := by decide +kernel
theorem dX6_wish_111 : decode cX6_wish 111 = .ok (.aload_n 3, 1) := by decide +kernel
theorem dX6_wish_112 : decode cX6_wish 112 = .ok (.getfield 178, 3) := by decide +kernel
theorem dX6_wish_115 : decode cX6_wish 115 = .ok (.ireturn, 1) := by decide +kernel
theorem dX6_wish_116 : decode cX6_wish 116 = .ok (.bipush (-2), 2) := by decide +kernel
theorem dX6_wish_118 : decode cX6_wish 118 = .ok (.ireturn, 1) := by decide +kernel
theorem dX6_letter_0 : decode cX6_letter 0 = .ok (.aload_n 0, 1) := by decide +kernel
theorem dX6_letter_1 : decode cX6_letter 1 = .ok (.getfield 59, 3) := by decide +kernel
theorem dX6_letter_4 : decode cX6_letter 4 = .ok (.iload_n 1, 1) := by decide +kernel
theorem dX6_letter_5 : decode cX6_letter 5 = .ok (.invokevirtual 135, 3) := by decide +kernel
theorem dX6_letter_8 : decode cX6_letter 8 = .ok (.astore 4, 2) := by decide +kernel
theorem dX6_letter_10 : decode cX6_letter 10 = .ok (.aload 4, 2) := by decide +kernel
theorem dX6_letter_12 : decode cX6_letter 12 = .ok (.ifnull 16, 3) := by decide +kernel
theorem dX6_letter_15 : decode cX6_letter 15 = .ok (.iload_n 2, 1) := by decide +kernel
theorem dX6_letter_16 : decode cX6_letter 16 = .ok (.ifCond .lt 12, 3) := by decide +kernel
theorem dX6_letter_19 : decode cX6_letter 19 = .ok (.iload_n 2, 1) := by decide +kernel
theorem dX6_letter_20 : decode cX6_letter 20 = .ok (.aload 4, 2) := by decide +kernel
theorem dX6_letter_22 : decode cX6_letter 22 = .ok (.getfield 163, 3) := by decide +kernel
theorem dX6_letter_25 : decode cX6_letter 25 = .ok (.if_icmp .lt 5, 3) := by decide +kernel
theorem dX6_letter_28 : decode cX6_letter 28 = .ok (.iconst (-1), 1) := by decide +kernel
theorem dX6_letter_29 : decode cX6_letter 29 = .ok (.ireturn, 1) := by decide +kernel
theorem dX6_letter_30 : decode cX6_letter 30 = .ok (.iload_n 3, 1) := by decide +kernel
theorem dX6_letter_31 : decode cX6_letter 31 = .ok (.ifCond .ge 6, 3) := by decide +kernel
theorem dX6_letter_34 : decode cX6_letter 34 = .ok (.bipush (-2), 2) := by decide +kernel
theorem dX6_letter_36 : decode cX6_letter 36 = .ok (.ireturn, 1) := by decide +kernel
theorem dX6_letter_37 : decode cX6_letter 37 = .ok (.aload_n 0, 1) := by decide +kernel
theorem dX6_letter_38 : decode cX6_letter 38 = .ok (.getfield 28, 3) := by decide +kernel
theorem dX6_letter_41 : decode cX6_letter 41 = .ok (.aload 4, 2) := by decide +kernel
theorem dX6_letter_43 : decode cX6_letter 43 = .ok (.iload_n 2, 1) := by decide +kernel
theorem dX6_letter_44 : decode cX6_letter 44 = .ok (.invokevirtual 181, 3) := by decide +kernel
theorem dX6_letter_47 : decode cX6_letter 47 = .ok (.istore 5, 2) := by decide +kernel
theorem dX6_letter_49 : decode cX6_letter 49 = .ok (.iload_n 3, 1) := by decide +kernel
theorem dX6_letter_50 : decode cX6_letter 50 = .ok (.iload 5, 2) := by decide +kernel
theorem dX6_letter_52 : decode cX6_letter 52 = .ok (.if_icmp .ge 15, 3) := by decide +kernel
theorem dX6_letter_55 : decode cX6_letter 55 = .ok (.aload_n 0, 1) := by decide +kernel
theorem dX6_letter_56 : decode cX6_letter 56 = .ok (.getfield 28, 3) := by decide +kernel
theorem dX6_letter_59 : decode cX6_letter 59 = .ok (.getfield 184, 3) := by decide +kernel
theorem dX6_letter_62 : decode cX6_letter 62 = .ok (.iload_n 3, 1) := by decide +kernel
theorem dX6_letter_63 : decode cX6_letter 63 = .ok (.caload, 1) := by decide +kernel
theorem dX6_letter_64 : decode cX6_letter 64 = .ok (.goto 5, 3) := by decide +kernel
theorem dX6_letter_67 : decode cX6_letter 67 = .ok (.bipush (-5), 2) := by decide +kernel
theorem dX6_letter_69 : decode cX6_letter 69 = .ok (.ireturn, 1) := by decide +kernel
theorem dX6_part_0 : decode cX6_part 0 = .ok (.aload_n 0, 1) := by decide +kernel
theorem dX6_part_1 : decode cX6_part 1 = .ok (.getfield 59, 3) := by decide +kernel
theorem dX6_part_4 : decode cX6_part 4 = .ok (.iload_n 1, 1) := by decide +kernel
theorem dX6_part_5 : decode cX6_part 5 = .ok (.invokevirtual 135, 3) := by decide +kernel
theorem dX6_part_8 : decode cX6_part 8 = .ok (.astore 4, 2) := by decide +kernel
theorem dX6_part_10 : decode cX6_part 10 = .ok (.aload 4, 2) := by decide +kernel
theorem dX6_part_12 : decode cX6_part 12 = .ok (.ifnull 16, 3) := by decide +kernel
theorem dX6_part_15 : decode cX6_part 15 = .ok (.iload_n 2, 1) := by decide +kernel
theorem dX6_part_16 : decode cX6_part 16 = .ok (.ifCond .lt 12, 3) := by decide +kernel
theorem dX6_part_19 : decode cX6_part 19 = .ok (.iload_n 2, 1) := by decide +kernel
theorem dX6_part_20 : decode cX6_part 20 = .ok (.aload 4, 2) := by decide +kernel
theorem dX6_part_22 : decode cX6_part 22 = .ok (.getfield 163, 3) := by decide +kernel
theorem dX6_part_25 : decode cX6_part 25 = .ok (.if_icmp .lt 5, 3) := by decide +kernel
theorem dX6_part_28 : decode cX6_part 28 = .ok (.iconst (-1), 1) := by decide +kernel
theorem dX6_part_29 : decode cX6_part 29 = .ok (.ireturn, 1) := by decide +kernel
theorem dX6_part_30 : decode cX6_part 30 = .ok (.iload_n 3, 1) := by decide +kernel
theorem dX6_part_31 : decode cX6_part 31 = .ok (.tableswitch 88 0 3 #[29, 37, 48, 64], 29) := by decide +kernel
theorem dX6_part_60 : decode cX6_part 60 = .ok (.aload 4, 2) := by decide +kernel
theorem dX6_part_62 : decode cX6_part 62 = .ok (.getfield 188, 3) := by decide +kernel
theorem dX6_part_65 : decode cX6_part 65 = .ok (.iload_n 2, 1) := by decide +kernel
theorem dX6_part_66 : decode cX6_part 66 = .ok (.iaload, 1) := by decide +kernel
theorem dX6_part_67 : decode cX6_part 67 = .ok (.ireturn, 1) := by decide +kernel
theorem dX6_part_68 : decode cX6_part 68 = .ok (.aload_n 0, 1) := by decide +kernel
theorem dX6_part_69 : decode cX6_part 69 = .ok (.getfield 28, 3) := by decide +kernel
theorem dX6_part_72 : decode cX6_part 72 = .ok (.aload 4, 2) := by decide +kernel
theorem dX6_part_74 : decode cX6_part 74 = .ok (.iload_n 2, 1) := by decide +kernel
theorem dX6_part_75 : decode cX6_part 75 = .ok (.invokevirtual 181, 3) := by decide +kernel
theorem dX6_part_78 : decode cX6_part 78 = .ok (.ireturn, 1) := by decide +kernel
theorem dX6_part_79 : decode cX6_part 79 = .ok (.aload_n 0, 1) := by decide +kernel
theorem dX6_part_80 : decode cX6_part 80 = .ok (.getfield 12, 3) := by decide +kernel
theorem dX6_part_83 : decode cX6_part 83 = .ok (.getfield 191, 3) := by decide +kernel
theorem dX6_part_86 : decode cX6_part 86 = .ok (.aload_n 0, 1) := by decide +kernel
theorem dX6_part_87 : decode cX6_part 87 = .ok (.aload 4, 2) := by decide +kernel
theorem dX6_part_89 : decode cX6_part 89 = .ok (.iload_n 2, 1) := by decide +kernel
theorem dX6_part_90 : decode cX6_part 90 = .ok (.invokevirtual 194, 3) := by decide +kernel
theorem dX6_part_93 : decode cX6_part 93 = .ok (.iaload, 1) := by decide +kernel
theorem dX6_part_94 : decode cX6_part 94 = .ok (.ireturn, 1) := by decide +kernel
theorem dX6_part_95 : decode cX6_part 95 = .ok (.aload_n 0, 1) := by decide +kernel
theorem dX6_part_96 : decode cX6_part 96 = .ok (.getfield 12, 3) := by decide +kernel
theorem dX6_part_99 : decode cX6_part 99 = .ok (.getfield 197, 3) := by decide +kernel
theorem dX6_part_102 : decode cX6_part 102 = .ok (.aload_n 0, 1) := by decide +kernel
theorem dX6_part_103 : decode cX6_part 103 = .ok (.aload 4, 2) := by decide +kernel
theorem dX6_part_105 : decode cX6_part 105 = .ok (.iload_n 2, 1) := by decide +kernel
theorem dX6_part_106 : decode cX6_part 106 = .ok (.invokevirtual 194, 3) := by decide +kernel
theorem dX6_part_109 : decode cX6_part 109 = .ok (.baload, 1) := by decide +kernel
theorem dX6_part_110 : decode cX6_part 110 = .ok (.ifCond .eq 7, 3) := by decide +kernel
theorem dX6_part_113 : decode cX6_part 113 = .ok (.iconst 1, 1) := by decide +kernel
theorem dX6_part_114 : decode cX6_part 114 = .ok (.goto 4, 3) := by decide +kernel
theorem dX6_part_117 : decode cX6_part 117 = .ok (.iconst 0, 1) := by decide +kernel
theorem dX6_part_118 : decode cX6_part 118 = .ok (.ireturn, 1) := by decide +kernel
theorem dX6_part_119 : decode cX6_part 119 = .ok (.bipush (-2), 2) := by decide +kernel
theorem dX6_part_121 : decode cX6_part 121 = .ok (.ireturn, 1) := by decide +kernel
theorem dX6_would_0 : decode cX6_would 0 = .ok (.aload_n 0, 1) := by decide +kernel
theorem dX6_would_1 : decode cX6_would 1 = .ok (.getfield 59, 3) := by decide +kernel
theorem dX6_would_4 : decode cX6_would 4 = .ok (.iload_n 1, 1) := by decide +kernel
theorem dX6_would_5 : decode cX6_would 5 = .ok (.invokevirtual 135, 3) := by decide +kernel
theorem dX6_would_8 : decode cX6_would 8 = .ok (.astore_n 3, 1) := by decide +kernel
theorem dX6_would_9 : decode cX6_would 9 = .ok (.aload_n 3, 1) := by decide +kernel
theorem dX6_would_10 : decode cX6_would 10 = .ok (.ifnonnull 5, 3) := by decide +kernel
theorem dX6_would_13 : decode cX6_would 13 = .ok (.iconst (-1), 1) := by decide +kernel
theorem dX6_would_14 : decode cX6_would 14 = .ok (.ireturn, 1) := by decide +kernel
theorem dX6_would_15 : decode cX6_would 15 = .ok (.iload_n 2, 1) := by decide +kernel
theorem dX6_would_16 : decode cX6_would 16 = .ok (.ifCond .lt 9, 3) := by decide +kernel
theorem dX6_would_19 : decode cX6_would 19 = .ok (.iload_n 2, 1) := by decide +kernel
theorem dX6_would_20 : decode cX6_would 20 = .ok (.bipush 64, 2) := by decide +kernel
theorem dX6_would_22 : decode cX6_would 22 = .ok (.if_icmp .lt 6, 3) := by decide +kernel
theorem dX6_would_25 : decode cX6_would 25 = .ok (.bipush (-2), 2) := by decide +kernel
theorem dX6_would_27 : decode cX6_would 27 = .ok (.ireturn, 1) := by decide +kernel
theorem dX6_would_28 : decode cX6_would 28 = .ok (.aload_n 0, 1) := by decide +kernel
theorem dX6_would_29 : decode cX6_would 29 = .ok (.getfield 59, 3) := by decide +kernel
theorem dX6_would_32 : decode cX6_would 32 = .ok (.getfield 65, 3) := by decide +kernel
theorem dX6_would_35 : decode cX6_would 35 = .ok (.ifCond .eq 6, 3) := by decide +kernel
theorem dX6_would_38 : decode cX6_would 38 = .ok (.bipush (-4), 2) := by decide +kernel
theorem dX6_would_40 : decode cX6_would 40 = .ok (.ireturn, 1) := by decide +kernel
theorem dX6_would_41 : decode cX6_would 41 = .ok (.aload_n 0, 1) := by decide +kernel
theorem dX6_would_42 : decode cX6_would 42 = .ok (.aload_n 3, 1) := by decide +kernel
theorem dX6_would_43 : decode cX6_would 43 = .ok (.iload_n 2, 1) := by decide +kernel
theorem dX6_would_44 : decode cX6_would 44 = .ok (.invokevirtual 201, 3) := by decide +kernel
theorem dX6_would_47 : decode cX6_would 47 = .ok (.ireturn, 1) := by decide +kernel
theorem dX6_bears_0 : decode cX6_bears 0 = .ok (.aload_n 0, 1) := by decide +kernel
theorem dX6_bears_1 : decode cX6_bears 1 = .ok (.getfield 59, 3) := by decide +kernel
theorem dX6_bears_4 : decode cX6_bears 4 = .ok (.iload_n 1, 1) := by decide +kernel
theorem dX6_bears_5 : decode cX6_bears 5 = .ok (.invokevirtual 135, 3) := by decide +kernel
theorem dX6_bears_8 : decode cX6_bears 8 = .ok (.astore_n 3, 1) := by decide +kernel
theorem dX6_bears_9 : decode cX6_bears 9 = .ok (.aload_n 3, 1) := by decide +kernel
theorem dX6_bears_10 : decode cX6_bears 10 = .ok (.ifnonnull 5, 3) := by decide +kernel
theorem dX6_bears_13 : decode cX6_bears 13 = .ok (.iconst (-1), 1) := by decide +kernel
theorem dX6_bears_14 : decode cX6_bears 14 = .ok (.ireturn, 1) := by decide +kernel
theorem dX6_bears_15 : decode cX6_bears 15 = .ok (.iload_n 2, 1) := by decide +kernel
theorem dX6_bears_16 : decode cX6_bears 16 = .ok (.ifCond .lt 8, 3) := by decide +kernel
theorem dX6_bears_19 : decode cX6_bears 19 = .ok (.iload_n 2, 1) := by decide +kernel
theorem dX6_bears_20 : decode cX6_bears 20 = .ok (.iconst 3, 1) := by decide +kernel
theorem dX6_bears_21 : decode cX6_bears 21 = .ok (.if_icmp .le 6, 3) := by decide +kernel
theorem dX6_bears_24 : decode cX6_bears 24 = .ok (.bipush (-2), 2) := by decide +kernel
theorem dX6_bears_26 : decode cX6_bears 26 = .ok (.ireturn, 1) := by decide +kernel
theorem dX6_bears_27 : decode cX6_bears 27 = .ok (.aload_n 0, 1) := by decide +kernel
theorem dX6_bears_28 : decode cX6_bears 28 = .ok (.getfield 59, 3) := by decide +kernel
theorem dX6_bears_31 : decode cX6_bears 31 = .ok (.getfield 65, 3) := by decide +kernel
theorem dX6_bears_34 : decode cX6_bears 34 = .ok (.ifCond .eq 6, 3) := by decide +kernel
theorem dX6_bears_37 : decode cX6_bears 37 = .ok (.bipush (-4), 2) := by decide +kernel
theorem dX6_bears_39 : decode cX6_bears 39 = .ok (.ireturn, 1) := by decide +kernel
theorem dX6_bears_40 : decode cX6_bears 40 = .ok (.aload_n 0, 1) := by decide +kernel
theorem dX6_bears_41 : decode cX6_bears 41 = .ok (.aload_n 3, 1) := by decide +kernel
theorem dX6_bears_42 : decode cX6_bears 42 = .ok (.invokevirtual 204, 3) := by decide +kernel
theorem dX6_bears_45 : decode cX6_bears 45 = .ok (.iconst 0, 1) := by decide +kernel
theorem dX6_bears_46 : decode cX6_bears 46 = .ok (.istore 4, 2) := by decide +kernel
theorem dX6_bears_48 : decode cX6_bears 48 = .ok (.iconst 0, 1) := by decide +kernel
theorem dX6_bears_49 : decode cX6_bears 49 = .ok (.istore 5, 2) := by decide +kernel
theorem dX6_bears_51 : decode cX6_bears 51 = .ok (.iload 5, 2) := by decide +kernel
theorem dX6_bears_53 : decode cX6_bears 53 = .ok (.bipush 64, 2) := by decide +kernel
theorem dX6_bears_55 : decode cX6_bears 55 = .ok (.if_icmp .ge 76, 3) := by decide +kernel
theorem dX6_bears_58 : decode cX6_bears 58 = .ok (.iload_n 2, 1) := by decide +kernel
theorem dX6_bears_59 : decode cX6_bears 59 = .ok (.iconst 2, 1) := by decide +kernel
theorem dX6_bears_60 : decode cX6_bears 60 = .ok (.if_icmp .ge 21, 3) := by decide +kernel
theorem dX6_bears_63 : decode cX6_bears 63 = .ok (.aload_n 0, 1) := by decide +kernel
theorem dX6_bears_64 : decode cX6_bears 64 = .ok (.getfield 41, 3) := by decide +kernel
theorem dX6_bears_67 : decode cX6_bears 67 = .ok (.iload 5, 2) := by decide +kernel
theorem dX6_bears_69 : decode cX6_bears 69 = .ok (.iaload, 1) := by decide +kernel
theorem dX6_bears_70 : decode cX6_bears 70 = .ok (.ifCond .eq 7, 3) := by decide +kernel
theorem dX6_bears_73 : decode cX6_bears 73 = .ok (.iconst 1, 1) := by decide +kernel
theorem dX6_bears_74 : decode cX6_bears 74 = .ok (.goto 23, 3) := by decide +kernel
theorem dX6_bears_77 : decode cX6_bears 77 = .ok (.iconst 0, 1) := by decide +kernel
theorem dX6_bears_78 : decode cX6_bears 78 = .ok (.goto 19, 3) := by decide +kernel
theorem dX6_bears_81 : decode cX6_bears 81 = .ok (.aload_n 0, 1) := by decide +kernel
theorem dX6_bears_82 : decode cX6_bears 82 = .ok (.getfield 41, 3) := by decide +kernel
theorem dX6_bears_85 : decode cX6_bears 85 = .ok (.iload 5, 2) := by decide +kernel
theorem dX6_bears_87 : decode cX6_bears 87 = .ok (.iaload, 1) := by decide +kernel
theorem dX6_bears_88 : decode cX6_bears 88 = .ok (.iconst 1, 1) := by decide +kernel
theorem dX6_bears_89 : decode cX6_bears 89 = .ok (.if_icmp .ne 7, 3) := by decide +kernel
theorem dX6_bears_92 : decode cX6_bears 92 = .ok (.iconst 1, 1) := by decide +kernel
theorem dX6_bears_93 : decode cX6_bears 93 = .ok (.goto 4, 3) := by decide +kernel
theorem dX6_bears_96 : decode cX6_bears 96 = .ok (.iconst 0, 1) := by decide +kernel
theorem dX6_bears_97 : decode cX6_bears 97 = .ok (.istore 6, 2) := by decide +kernel
theorem dX6_bears_99 : decode cX6_bears 99 = .ok (.iload 6, 2) := by decide +kernel
theorem dX6_bears_101 : decode cX6_bears 101 = .ok (.ifCond .eq 16, 3) := by decide +kernel
theorem dX6_bears_104 : decode cX6_bears 104 = .ok (.iload_n 2, 1) := by decide +kernel
theorem dX6_bears_105 : decode cX6_bears 105 = .ok (.iconst 1, 1) := by decide +kernel
theorem dX6_bears_106 : decode cX6_bears 106 = .ok (.if_icmp .eq 8, 3) := by decide +kernel
theorem dX6_bears_109 : decode cX6_bears 109 = .ok (.iload_n 2, 1) := by decide +kernel
theorem dX6_bears_110 : decode cX6_bears 110 = .ok (.iconst 3, 1) := by decide +kernel
theorem dX6_bears_111 : decode cX6_bears 111 = .ok (.if_icmp .ne 6, 3) := by decide +kernel
theorem dX6_bears_114 : decode cX6_bears 114 = .ok (.iload 5, 2) := by decide +kernel
theorem dX6_bears_116 : decode cX6_bears 116 = .ok (.ireturn, 1) := by decide +kernel
theorem dX6_bears_117 : decode cX6_bears 117 = .ok (.iload 6, 2) := by decide +kernel
theorem dX6_bears_119 : decode cX6_bears 119 = .ok (.ifCond .eq 6, 3) := by decide +kernel
theorem dX6_bears_122 : decode cX6_bears 122 = .ok (.iinc 4 1, 3) := by decide +kernel
theorem dX6_bears_125 : decode cX6_bears 125 = .ok (.iinc 5 1, 3) := by decide +kernel
theorem dX6_bears_128 : decode cX6_bears 128 = .ok (.goto (-77), 3) := by decide +kernel
theorem dX6_bears_131 : decode cX6_bears 131 = .ok (.iload_n 2, 1) := by decide +kernel
theorem dX6_bears_132 : decode cX6_bears 132 = .ok (.iconst 1, 1) := by decide +kernel
theorem dX6_bears_133 : decode cX6_bears 133 = .ok (.if_icmp .eq 8, 3) := by decide +kernel
theorem dX6_bears_136 : decode cX6_bears 136 = .ok (.iload_n 2, 1) := by decide +kernel
theorem dX6_bears_137 : decode cX6_bears 137 = .ok (.iconst 3, 1) := by decide +kernel
theorem dX6_bears_138 : decode cX6_bears 138 = .ok (.if_icmp .ne 8, 3) := by decide +kernel
theorem dX6_bears_141 : decode cX6_bears 141 = .ok (.bipush (-5), 2) := by decide +kernel
theorem dX6_bears_143 : decode cX6_bears 143 = .ok (.goto 5, 3) := by decide +kernel
theorem dX6_bears_146 : decode cX6_bears 146 = .ok (.iload 4, 2) := by decide +kernel
theorem dX6_bears_148 : decode cX6_bears 148 = .ok (.ireturn, 1) := by decide +kernel
theorem dX6_open_0 : decode cX6_open 0 = .ok (.iload_n 1, 1) := by decide +kernel
theorem dX6_open_1 : decode cX6_open 1 = .ok (.ifCond .ge 6, 3) := by decide +kernel
theorem dX6_open_4 : decode cX6_open 4 = .ok (.bipush (-2), 2) := by decide +kernel
theorem dX6_open_6 : decode cX6_open 6 = .ok (.ireturn, 1) := by decide +kernel
theorem dX6_open_7 : decode cX6_open 7 = .ok (.iconst 0, 1) := by decide +kernel
theorem dX6_open_8 : decode cX6_open 8 = .ok (.istore_n 2, 1) := by decide +kernel
theorem dX6_open_9 : decode cX6_open 9 = .ok (.iload_n 2, 1) := by decide +kernel
theorem dX6_open_10 : decode cX6_open 10 = .ok (.aload_n 0, 1) := by decide +kernel
theorem dX6_open_11 : decode cX6_open 11 = .ok (.getfield 59, 3) := by decide +kernel
theorem dX6_open_14 : decode cX6_open 14 = .ok (.getfield 77, 3) := by decide +kernel
theorem dX6_open_17 : decode cX6_open 17 = .ok (.if_icmp .ge 34, 3) := by decide +kernel
theorem dX6_open_20 : decode cX6_open 20 = .ok (.aload_n 0, 1) := by decide +kernel
theorem dX6_open_21 : decode cX6_open 21 = .ok (.getfield 59, 3) := by decide +kernel
theorem dX6_open_24 : decode cX6_open 24 = .ok (.iload_n 2, 1) := by decide +kernel
theorem dX6_open_25 : decode cX6_open 25 = .ok (.invokevirtual 207, 3) := by decide +kernel
theorem dX6_open_28 : decode cX6_open 28 = .ok (.ifCond .eq 17, 3) := by decide +kernel
theorem dX6_open_31 : decode cX6_open 31 = .ok (.aload_n 0, 1) := by decide +kernel
theorem dX6_open_32 : decode cX6_open 32 = .ok (.getfield 59, 3) := by decide +kernel
theorem dX6_open_35 : decode cX6_open 35 = .ok (.iload_n 2, 1) := by decide +kernel
theorem dX6_open_36 : decode cX6_open 36 = .ok (.invokevirtual 210, 3) := by decide +kernel
theorem dX6_open_39 : decode cX6_open 39 = .ok (.iload_n 1, 1) := by decide +kernel
theorem dX6_open_40 : decode cX6_open 40 = .ok (.if_icmp .ne 5, 3) := by decide +kernel
theorem dX6_open_43 : decode cX6_open 43 = .ok (.iload_n 2, 1) := by decide +kernel
theorem dX6_open_44 : decode cX6_open 44 = .ok (.ireturn, 1) := by decide +kernel
theorem dX6_open_45 : decode cX6_open 45 = .ok (.iinc 2 1, 3) := by decide +kernel
theorem dX6_open_48 : decode cX6_open 48 = .ok (.goto (-39), 3) := by decide +kernel
theorem dX6_open_51 : decode cX6_open 51 = .ok (.bipush (-5), 2) := by decide +kernel
theorem dX6_open_53 : decode cX6_open 53 = .ok (.ireturn, 1) := by decide +kernel
theorem dX6_at_0 : decode cX6_at 0 = .ok (.iload_n 1, 1) := by decide +kernel
theorem dX6_at_1 : decode cX6_at 1 = .ok (.ifCond .ge 6, 3) := by decide +kernel
theorem dX6_at_4 : decode cX6_at 4 = .ok (.bipush (-2), 2) := by decide +kernel
theorem dX6_at_6 : decode cX6_at 6 = .ok (.ireturn, 1) := by decide +kernel
theorem dX6_at_7 : decode cX6_at 7 = .ok (.iload_n 1, 1) := by decide +kernel
theorem dX6_at_8 : decode cX6_at 8 = .ok (.aload_n 0, 1) := by decide +kernel
theorem dX6_at_9 : decode cX6_at 9 = .ok (.getfield 59, 3) := by decide +kernel
theorem dX6_at_12 : decode cX6_at 12 = .ok (.getfield 69, 3) := by decide +kernel
theorem dX6_at_15 : decode cX6_at 15 = .ok (.if_icmp .ge 15, 3) := by decide +kernel
theorem dX6_at_18 : decode cX6_at 18 = .ok (.aload_n 0, 1) := by decide +kernel
theorem dX6_at_19 : decode cX6_at 19 = .ok (.getfield 59, 3) := by decide +kernel
theorem dX6_at_22 : decode cX6_at 22 = .ok (.getfield 107, 3) := by decide +kernel
theorem dX6_at_25 : decode cX6_at 25 = .ok (.iload_n 1, 1) := by decide +kernel
theorem dX6_at_26 : decode cX6_at 26 = .ok (.iaload, 1) := by decide +kernel
theorem dX6_at_27 : decode cX6_at 27 = .ok (.goto 5, 3) := by decide +kernel
theorem dX6_at_30 : decode cX6_at 30 = .ok (.bipush (-5), 2) := by decide +kernel
theorem dX6_at_32 : decode cX6_at 32 = .ok (.ireturn, 1) := by decide +kernel
theorem dX6_count_0 : decode cX6_count 0 = .ok (.iload_n 1, 1) := by decide +kernel
theorem dX6_count_1 : decode cX6_count 1 = .ok (.tableswitch 131 0 8 #[51, 59, 75, 83, 91, 100, 109, 118, 123], 51) := by decide +kernel
theorem dX6_count_52 : decode cX6_count 52 = .ok (.aload_n 0, 1) := by decide +kernel
theorem dX6_count_53 : decode cX6_count 53 = .ok (.getfield 59, 3) := by decide +kernel
theorem dX6_count_56 : decode cX6_count 56 = .ok (.getfield 69, 3) := by decide +kernel
theorem dX6_count_59 : decode cX6_count 59 = .ok (.ireturn, 1) := by decide +kernel
theorem dX6_count_60 : decode cX6_count 60 = .ok (.aload_n 0, 1) := by decide +kernel
theorem dX6_count_61 : decode cX6_count 61 = .ok (.getfield 59, 3) := by decide +kernel
theorem dX6_count_64 : decode cX6_count 64 = .ok (.getfield 65, 3) := by decide +kernel
theorem dX6_count_67 : decode cX6_count 67 = .ok (.ifCond .eq 7, 3) := by decide +kernel
theorem dX6_count_70 : decode cX6_count 70 = .ok (.iconst 1, 1) := by decide +kernel
theorem dX6_count_71 : decode cX6_count 71 = .ok (.goto 4, 3) := by decide +kernel
theorem dX6_count_74 : decode cX6_count 74 = .ok (.iconst 0, 1) := by decide +kernel
theorem dX6_count_75 : decode cX6_count 75 = .ok (.ireturn, 1) := by decide +kernel
theorem dX6_count_76 : decode cX6_count 76 = .ok (.aload_n 0, 1) := by decide +kernel
theorem dX6_count_77 : decode cX6_count 77 = .ok (.getfield 59, 3) := by decide +kernel
theorem dX6_count_80 : decode cX6_count 80 = .ok (.invokevirtual 147, 3) := by decide +kernel
theorem dX6_count_83 : decode cX6_count 83 = .ok (.ireturn, 1) := by decide +kernel
theorem dX6_count_84 : decode cX6_count 84 = .ok (.aload_n 0, 1) := by decide +kernel
theorem dX6_count_85 : decode cX6_count 85 = .ok (.getfield 59, 3) := by decide +kernel
theorem dX6_count_88 : decode cX6_count 88 = .ok (.getfield 77, 3) := by decide +kernel
theorem dX6_count_91 : decode cX6_count 91 = .ok (.ireturn, 1) := by decide +kernel
theorem dX6_count_92 : decode cX6_count 92 = .ok (.aload_n 0, 1) := by decide +kernel
theorem dX6_count_93 : decode cX6_count 93 = .ok (.getfield 59, 3) := by decide +kernel
theorem dX6_count_96 : decode cX6_count 96 = .ok (.iconst 2, 1) := by decide +kernel
theorem dX6_count_97 : decode cX6_count 97 = .ok (.invokevirtual 213, 3) := by decide +kernel
theorem dX6_count_100 : decode cX6_count 100 = .ok (.ireturn, 1) := by decide +kernel
theorem dX6_count_101 : decode cX6_count 101 = .ok (.aload_n 0, 1) := by decide +kernel
theorem dX6_count_102 : decode cX6_count 102 = .ok (.getfield 59, 3) := by decide +kernel
theorem dX6_count_105 : decode cX6_count 105 = .ok (.iconst 0, 1) := by decide +kernel
theorem dX6_count_106 : decode cX6_count 106 = .ok (.invokevirtual 213, 3) := by decide +kernel
theorem dX6_count_109 : decode cX6_count 109 = .ok (.ireturn, 1) := by decide +kernel
theorem dX6_count_110 : decode cX6_count 110 = .ok (.aload_n 0, 1) := by decide +kernel
theorem dX6_count_111 : decode cX6_count 111 = .ok (.getfield 59, 3) := by decide +kernel
theorem dX6_count_114 : decode cX6_count 114 = .ok (.iconst 1, 1) := by decide +kernel
theorem dX6_count_115 : decode cX6_count 115 = .ok (.invokevirtual 213, 3) := by decide +kernel
theorem dX6_count_118 : decode cX6_count 118 = .ok (.ireturn, 1) := by decide +kernel
theorem dX6_count_119 : decode cX6_count 119 = .ok (.aload_n 0, 1) := by decide +kernel
theorem dX6_count_120 : decode cX6_count 120 = .ok (.getfield 157, 3) := by decide +kernel
theorem dX6_count_123 : decode cX6_count 123 = .ok (.ireturn, 1) := by decide +kernel
theorem dX6_count_124 : decode cX6_count 124 = .ok (.aload_n 0, 1) := by decide +kernel
theorem dX6_count_125 : decode cX6_count 125 = .ok (.getfield 37, 3) := by decide +kernel
theorem dX6_count_128 : decode cX6_count 128 = .ok (.getfield 154, 3) := by decide +kernel
theorem dX6_count_131 : decode cX6_count 131 = .ok (.ireturn, 1) := by decide +kernel
theorem dX6_count_132 : decode cX6_count 132 = .ok (.bipush (-2), 2) := by decide +kernel
theorem dX6_count_134 : decode cX6_count 134 = .ok (.ireturn, 1) := by decide +kernel
theorem dX6_recordAndGoOn_0 : decode cX6_recordAndGoOn 0 = .ok (.aload_n 0, 1) := by decide +kernel
theorem dX6_recordAndGoOn_1 : decode cX6_recordAndGoOn 1 = .ok (.getfield 157, 3) := by decide +kernel
theorem dX6_recordAndGoOn_4 : decode cX6_recordAndGoOn 4 = .ok (.iconst 4, 1) := by decide +kernel
theorem dX6_recordAndGoOn_5 : decode cX6_recordAndGoOn 5 = .ok (.if_icmp .ge 39, 3) := by decide +kernel
theorem dX6_recordAndGoOn_8 : decode cX6_recordAndGoOn 8 = .ok (.aload_n 0, 1) := by decide +kernel
theorem dX6_recordAndGoOn_9 : decode cX6_recordAndGoOn 9 = .ok (.getfield 50, 3) := by decide +kernel
theorem dX6_recordAndGoOn_12 : decode cX6_recordAndGoOn 12 = .ok (.aload_n 0, 1) := by decide +kernel
theorem dX6_recordAndGoOn_13 : decode cX6_recordAndGoOn 13 = .ok (.getfield 157, 3) := by decide +kernel
theorem dX6_recordAndGoOn_16 : decode cX6_recordAndGoOn 16 = .ok (.aaload, 1) := by decide +kernel
theorem dX6_recordAndGoOn_17 : decode cX6_recordAndGoOn 17 = .ok (.astore_n 1, 1) := by decide +kernel
theorem dX6_recordAndGoOn_18 : decode cX6_recordAndGoOn 18 = .ok (.aload_n 0, 1) := by decide +kernel
theorem dX6_recordAndGoOn_19 : decode cX6_recordAndGoOn 19 = .ok (.getfield 50, 3) := by decide +kernel
theorem dX6_recordAndGoOn_22 : decode cX6_recordAndGoOn 22 = .ok (.aload_n 0, 1) := by decide +kernel
theorem dX6_recordAndGoOn_23 : decode cX6_recordAndGoOn 23 = .ok (.getfield 157, 3) := by decide +kernel
theorem dX6_recordAndGoOn_26 : decode cX6_recordAndGoOn 26 = .ok (.aload_n 0, 1) := by decide +kernel
theorem dX6_recordAndGoOn_27 : decode cX6_recordAndGoOn 27 = .ok (.getfield 59, 3) := by decide +kernel
theorem dX6_recordAndGoOn_30 : decode cX6_recordAndGoOn 30 = .ok (.aastore, 1) := by decide +kernel
theorem dX6_recordAndGoOn_31 : decode cX6_recordAndGoOn 31 = .ok (.aload_n 0, 1) := by decide +kernel
theorem dX6_recordAndGoOn_32 : decode cX6_recordAndGoOn 32 = .ok (.dup, 1) := by decide +kernel
theorem dX6_recordAndGoOn_33 : decode cX6_recordAndGoOn 33 = .ok (.getfield 157, 3) := by decide +kernel
theorem dX6_recordAndGoOn_36 : decode cX6_recordAndGoOn 36 = .ok (.iconst 1, 1) := by decide +kernel
theorem dX6_recordAndGoOn_37 : decode cX6_recordAndGoOn 37 = .ok (.iadd, 1) := by decide +kernel
theorem dX6_recordAndGoOn_38 : decode cX6_recordAndGoOn 38 = .ok (.putfield 157, 3) := by decide +kernel
theorem dX6_recordAndGoOn_41 : decode cX6_recordAndGoOn 41 = .ok (.goto 47, 3) := by decide +kernel
theorem dX6_recordAndGoOn_44 : decode cX6_recordAndGoOn 44 = .ok (.aload_n 0, 1) := by decide +kernel
theorem dX6_recordAndGoOn_45 : decode cX6_recordAndGoOn 45 = .ok (.getfield 50, 3) := by decide +kernel
theorem dX6_recordAndGoOn_48 : decode cX6_recordAndGoOn 48 = .ok (.iconst 0, 1) := by decide +kernel
theorem dX6_recordAndGoOn_49 : decode cX6_recordAndGoOn 49 = .ok (.aaload, 1) := by decide +kernel
theorem dX6_recordAndGoOn_50 : decode cX6_recordAndGoOn 50 = .ok (.astore_n 1, 1) := by decide +kernel
theorem dX6_recordAndGoOn_51 : decode cX6_recordAndGoOn 51 = .ok (.iconst 1, 1) := by decide +kernel
theorem dX6_recordAndGoOn_52 : decode cX6_recordAndGoOn 52 = .ok (.istore_n 2, 1) := by decide +kernel
theorem dX6_recordAndGoOn_53 : decode cX6_recordAndGoOn 53 = .ok (.iload_n 2, 1) := by decide +kernel
theorem dX6_recordAndGoOn_54 : decode cX6_recordAndGoOn 54 = .ok (.iconst 4, 1) := by decide +kernel
theorem dX6_recordAndGoOn_55 : decode cX6_recordAndGoOn 55 = .ok (.if_icmp .ge 23, 3) := by decide +kernel
theorem dX6_recordAndGoOn_58 : decode cX6_recordAndGoOn 58 = .ok (.aload_n 0, 1) := by decide +kernel
theorem dX6_recordAndGoOn_59 : decode cX6_recordAndGoOn 59 = .ok (.getfield 50, 3) := by decide +kernel
theorem dX6_recordAndGoOn_62 : decode cX6_recordAndGoOn 62 = .ok (.iload_n 2, 1) := by decide +kernel
theorem dX6_recordAndGoOn_63 : decode cX6_recordAndGoOn 63 = .ok (.iconst 1, 1) := by decide +kernel
theorem dX6_recordAndGoOn_64 : decode cX6_recordAndGoOn 64 = .ok (.isub, 1) := by decide +kernel
theorem dX6_recordAndGoOn_65 : decode cX6_recordAndGoOn 65 = .ok (.aload_n 0, 1) := by decide +kernel
theorem dX6_recordAndGoOn_66 : decode cX6_recordAndGoOn 66 = .ok (.getfield 50, 3) := by decide +kernel
theorem dX6_recordAndGoOn_69 : decode cX6_recordAndGoOn 69 = .ok (.iload_n 2, 1) := by decide +kernel
theorem dX6_recordAndGoOn_70 : decode cX6_recordAndGoOn 70 = .ok (.aaload, 1) := by decide +kernel
theorem dX6_recordAndGoOn_71 : decode cX6_recordAndGoOn 71 = .ok (.aastore, 1) := by decide +kernel
theorem dX6_recordAndGoOn_72 : decode cX6_recordAndGoOn 72 = .ok (.iinc 2 1, 3) := by decide +kernel
theorem dX6_recordAndGoOn_75 : decode cX6_recordAndGoOn 75 = .ok (.goto (-22), 3) := by decide +kernel
theorem dX6_recordAndGoOn_78 : decode cX6_recordAndGoOn 78 = .ok (.aload_n 0, 1) := by decide +kernel
theorem dX6_recordAndGoOn_79 : decode cX6_recordAndGoOn 79 = .ok (.getfield 50, 3) := by decide +kernel
theorem dX6_recordAndGoOn_82 : decode cX6_recordAndGoOn 82 = .ok (.iconst 3, 1) := by decide +kernel
theorem dX6_recordAndGoOn_83 : decode cX6_recordAndGoOn 83 = .ok (.aload_n 0, 1) := by decide +kernel
theorem dX6_recordAndGoOn_84 : decode cX6_recordAndGoOn 84 = .ok (.getfield 59, 3) := by decide +kernel
theorem dX6_recordAndGoOn_87 : decode cX6_recordAndGoOn 87 = .ok (.aastore, 1) := by decide +kernel
theorem dX6_recordAndGoOn_88 : decode cX6_recordAndGoOn 88 = .ok (.aload_n 0, 1) := by decide +kernel
theorem dX6_recordAndGoOn_89 : decode cX6_recordAndGoOn 89 = .ok (.aload_n 0, 1) := by decide +kernel
theorem dX6_recordAndGoOn_90 : decode cX6_recordAndGoOn 90 = .ok (.getfield 62, 3) := by decide +kernel
theorem dX6_recordAndGoOn_93 : decode cX6_recordAndGoOn 93 = .ok (.putfield 59, 3) := by decide +kernel
theorem dX6_recordAndGoOn_96 : decode cX6_recordAndGoOn 96 = .ok (.aload_n 0, 1) := by decide +kernel
theorem dX6_recordAndGoOn_97 : decode cX6_recordAndGoOn 97 = .ok (.aload_n 1, 1) := by decide +kernel
theorem dX6_recordAndGoOn_98 : decode cX6_recordAndGoOn 98 = .ok (.putfield 62, 3) := by decide +kernel
theorem dX6_recordAndGoOn_101 : decode cX6_recordAndGoOn 101 = .ok (.return_, 1) := by decide +kernel
theorem dX6_rewriteParts_0 : decode cX6_rewriteParts 0 = .ok (.iconst 0, 1) := by decide +kernel
theorem dX6_rewriteParts_1 : decode cX6_rewriteParts 1 = .ok (.istore 4, 2) := by decide +kernel
theorem dX6_rewriteParts_3 : decode cX6_rewriteParts 3 = .ok (.iload 4, 2) := by decide +kernel
theorem dX6_rewriteParts_5 : decode cX6_rewriteParts 5 = .ok (.aload_n 1, 1) := by decide +kernel
theorem dX6_rewriteParts_6 : decode cX6_rewriteParts 6 = .ok (.getfield 163, 3) := by decide +kernel
theorem dX6_rewriteParts_9 : decode cX6_rewriteParts 9 = .ok (.if_icmp .ge 55, 3) := by decide +kernel
theorem dX6_rewriteParts_12 : decode cX6_rewriteParts 12 = .ok (.aload_n 0, 1) := by decide +kernel
theorem dX6_rewriteParts_13 : decode cX6_rewriteParts 13 = .ok (.getfield 21, 3) := by decide +kernel
theorem dX6_rewriteParts_16 : decode cX6_rewriteParts 16 = .ok (.aload_n 0, 1) := by decide +kernel
theorem dX6_rewriteParts_17 : decode cX6_rewriteParts 17 = .ok (.aload_n 1, 1) := by decide +kernel
theorem dX6_rewriteParts_18 : decode cX6_rewriteParts 18 = .ok (.iload 4, 2) := by decide +kernel
theorem dX6_rewriteParts_20 : decode cX6_rewriteParts 20 = .ok (.invokevirtual 194, 3) := by decide +kernel
theorem dX6_rewriteParts_23 : decode cX6_rewriteParts 23 = .ok (.iload_n 3, 1) := by decide +kernel
theorem dX6_rewriteParts_24 : decode cX6_rewriteParts 24 = .ok (.invokevirtual 216, 3) := by decide +kernel
theorem dX6_rewriteParts_27 : decode cX6_rewriteParts 27 = .ok (.istore 5, 2) := by decide +kernel
theorem dX6_rewriteParts_29 : decode cX6_rewriteParts 29 = .ok (.aload_n 0, 1) := by decide +kernel
theorem dX6_rewriteParts_30 : decode cX6_rewriteParts 30 = .ok (.getfield 12, 3) := by decide +kernel
theorem dX6_rewriteParts_33 : decode cX6_rewriteParts 33 = .ok (.getfield 220, 3) := by decide +kernel
theorem dX6_rewriteParts_36 : decode cX6_rewriteParts 36 = .ok (.iload 5, 2) := by decide +kernel
theorem dX6_rewriteParts_38 : decode cX6_rewriteParts 38 = .ok (.iaload, 1) := by decide +kernel
theorem dX6_rewriteParts_39 : decode cX6_rewriteParts 39 = .ok (.bipush 120, 2) := by decide +kernel
theorem dX6_rewriteParts_41 : decode cX6_rewriteParts 41 = .ok (.if_icmp .le 5, 3) := by decide +kernel
theorem dX6_rewriteParts_44 : decode cX6_rewriteParts 44 = .ok (.iconst 0, 1) := by decide +kernel
theorem dX6_rewriteParts_45 : decode cX6_rewriteParts 45 = .ok (.ireturn, 1) := by decide +kernel
theorem dX6_rewriteParts_46 : decode cX6_rewriteParts 46 = .ok (.aload_n 0, 1) := by decide +kernel
theorem dX6_rewriteParts_47 : decode cX6_rewriteParts 47 = .ok (.getfield 28, 3) := by decide +kernel
theorem dX6_rewriteParts_50 : decode cX6_rewriteParts 50 = .ok (.iload 5, 2) := by decide +kernel
theorem dX6_rewriteParts_52 : decode cX6_rewriteParts 52 = .ok (.aload_n 2, 1) := by decide +kernel
theorem dX6_rewriteParts_53 : decode cX6_rewriteParts 53 = .ok (.iload 4, 2) := by decide +kernel
theorem dX6_rewriteParts_55 : decode cX6_rewriteParts 55 = .ok (.invokevirtual 223, 3) := by decide +kernel
theorem dX6_rewriteParts_58 : decode cX6_rewriteParts 58 = .ok (.iinc 4 1, 3) := by decide +kernel
theorem dX6_rewriteParts_61 : decode cX6_rewriteParts 61 = .ok (.goto (-58), 3) := by decide +kernel
theorem dX6_rewriteParts_64 : decode cX6_rewriteParts 64 = .ok (.iconst 1, 1) := by decide +kernel
theorem dX6_rewriteParts_65 : decode cX6_rewriteParts 65 = .ok (.ireturn, 1) := by decide +kernel
theorem dX6_signsToBlame_0 : decode cX6_signsToBlame 0 = .ok (.iconst 0, 1) := by decide +kernel
theorem dX6_signsToBlame_1 : decode cX6_signsToBlame 1 = .ok (.istore_n 3, 1) := by decide +kernel
theorem dX6_signsToBlame_2 : decode cX6_signsToBlame 2 = .ok (.iconst 0, 1) := by decide +kernel
theorem dX6_signsToBlame_3 : decode cX6_signsToBlame 3 = .ok (.istore 4, 2) := by decide +kernel
theorem dX6_signsToBlame_5 : decode cX6_signsToBlame 5 = .ok (.iload 4, 2) := by decide +kernel
theorem dX6_signsToBlame_7 : decode cX6_signsToBlame 7 = .ok (.bipush 6, 2) := by decide +kernel
theorem dX6_signsToBlame_9 : decode cX6_signsToBlame 9 = .ok (.if_icmp .ge 30, 3) := by decide +kernel
theorem dX6_signsToBlame_12 : decode cX6_signsToBlame 12 = .ok (.aload_n 0, 1) := by decide +kernel
theorem dX6_signsToBlame_13 : decode cX6_signsToBlame 13 = .ok (.aload_n 1, 1) := by decide +kernel
theorem dX6_signsToBlame_14 : decode cX6_signsToBlame 14 = .ok (.iload_n 2, 1) := by decide +kernel
theorem dX6_signsToBlame_15 : decode cX6_signsToBlame 15 = .ok (.iconst 1, 1) := by decide +kernel
theorem dX6_signsToBlame_16 : decode cX6_signsToBlame 16 = .ok (.iload 4, 2) := by decide +kernel
theorem dX6_signsToBlame_18 : decode cX6_signsToBlame 18 = .ok (.ishl, 1) := by decide +kernel
theorem dX6_signsToBlame_19 : decode cX6_signsToBlame 19 = .ok (.ixor, 1) := by decide +kernel
theorem dX6_signsToBlame_20 : decode cX6_signsToBlame 20 = .ok (.invokevirtual 201, 3) := by decide +kernel
theorem dX6_signsToBlame_23 : decode cX6_signsToBlame 23 = .ok (.ifCond .eq 10, 3) := by decide +kernel
theorem dX6_signsToBlame_26 : decode cX6_signsToBlame 26 = .ok (.iload_n 3, 1) := by decide +kernel
theorem dX6_signsToBlame_27 : decode cX6_signsToBlame 27 = .ok (.iconst 1, 1) := by decide +kernel
theorem dX6_signsToBlame_28 : decode cX6_signsToBlame 28 = .ok (.iload 4, 2) := by decide +kernel
theorem dX6_signsToBlame_30 : decode cX6_signsToBlame 30 = .ok (.ishl, 1) := by decide +kernel
theorem dX6_signsToBlame_31 : decode cX6_signsToBlame 31 = .ok (.ior, 1) := by decide +kernel
theorem dX6_signsToBlame_32 : decode cX6_signsToBlame 32 = .ok (.istore_n 3, 1) := by decide +kernel
theorem dX6_signsToBlame_33 : decode cX6_signsToBlame 33 = .ok (.iinc 4 1, 3) := by decide +kernel
theorem dX6_signsToBlame_36 : decode cX6_signsToBlame 36 = .ok (.goto (-31), 3) := by decide +kernel
theorem dX6_signsToBlame_39 : decode cX6_signsToBlame 39 = .ok (.iload_n 3, 1) := by decide +kernel
theorem dX6_signsToBlame_40 : decode cX6_signsToBlame 40 = .ok (.ireturn, 1) := by decide +kernel
theorem dX6_endParts_0 : decode cX6_endParts 0 = .ok (.iconst 0, 1) := by decide +kernel
theorem dX6_endParts_1 : decode cX6_endParts 1 = .ok (.istore_n 2, 1) := by decide +kernel
theorem dX6_endParts_2 : decode cX6_endParts 2 = .ok (.iload_n 2, 1) := by decide +kernel
theorem dX6_endParts_3 : decode cX6_endParts 3 = .ok (.aload_n 1, 1) := by decide +kernel
theorem dX6_endParts_4 : decode cX6_endParts 4 = .ok (.getfield 163, 3) := by decide +kernel
theorem dX6_endParts_7 : decode cX6_endParts 7 = .ok (.if_icmp .ge 42, 3) := by decide +kernel
theorem dX6_endParts_10 : decode cX6_endParts 10 = .ok (.aload_n 0, 1) := by decide +kernel
theorem dX6_endParts_11 : decode cX6_endParts 11 = .ok (.getfield 12, 3) := by decide +kernel
theorem dX6_endParts_14 : decode cX6_endParts 14 = .ok (.getfield 197, 3) := by decide +kernel
theorem dX6_endParts_17 : decode cX6_endParts 17 = .ok (.aload_n 0, 1) := by decide +kernel
theorem dX6_endParts_18 : decode cX6_endParts 18 = .ok (.aload_n 1, 1) := by decide +kernel
theorem dX6_endParts_19 : decode cX6_endParts 19 = .ok (.iload_n 2, 1) := by decide +kernel
theorem dX6_endParts_20 : decode cX6_endParts 20 = .ok (.invokevirtual 194, 3) := by decide +kernel
theorem dX6_endParts_23 : decode cX6_endParts 23 = .ok (.baload, 1) := by decide +kernel
theorem dX6_endParts_24 : decode cX6_endParts 24 = .ok (.istore_n 3, 1) := by decide +kernel
theorem dX6_endParts_25 : decode cX6_endParts 25 = .ok (.aload_n 0, 1) := by decide +kernel
theorem dX6_endParts_26 : decode cX6_endParts 26 = .ok (.getfield 28, 3) := by decide +kernel
theorem dX6_endParts_29 : decode cX6_endParts 29 = .ok (.iload_n 3, 1) := by decide +kernel
theorem dX6_endParts_30 : decode cX6_endParts 30 = .ok (.ifCond .eq 7, 3) := by decide +kernel
theorem dX6_endParts_33 : decode cX6_endParts 33 = .ok (.iconst 1, 1) := by decide +kernel
theorem dX6_endParts_34 : decode cX6_endParts 34 = .ok (.goto 4, 3) := by decide +kernel
theorem dX6_endParts_37 : decode cX6_endParts 37 = .ok (.iconst 0, 1) := by decide +kernel
theorem dX6_endParts_38 : decode cX6_endParts 38 = .ok (.aload_n 1, 1) := by decide +kernel
theorem dX6_endParts_39 : decode cX6_endParts 39 = .ok (.iload_n 2, 1) := by decide +kernel
theorem dX6_endParts_40 : decode cX6_endParts 40 = .ok (.invokevirtual 223, 3) := by decide +kernel
theorem dX6_endParts_43 : decode cX6_endParts 43 = .ok (.iinc 2 1, 3) := by decide +kernel
theorem dX6_endParts_46 : decode cX6_endParts 46 = .ok (.goto (-44), 3) := by decide +kernel
theorem dX6_endParts_49 : decode cX6_endParts 49 = .ok (.return_, 1) := by decide +kernel
theorem dX6_bring_0 : decode cX6_bring 0 = .ok (.aload_n 0, 1) := by decide +kernel
theorem dX6_bring_1 : decode cX6_bring 1 = .ok (.getfield 12, 3) := by decide +kernel
theorem dX6_bring_4 : decode cX6_bring 4 = .ok (.getfield 227, 3) := by decide +kernel
theorem dX6_bring_7 : decode cX6_bring 7 = .ok (.iload_n 1, 1) := by decide +kernel
theorem dX6_bring_8 : decode cX6_bring 8 = .ok (.iaload, 1) := by decide +kernel
theorem dX6_bring_9 : decode cX6_bring 9 = .ok (.bipush 20, 2) := by decide +kernel
theorem dX6_bring_11 : decode cX6_bring 11 = .ok (.if_icmp .ne 7, 3) := by decide +kernel
theorem dX6_bring_14 : decode cX6_bring 14 = .ok (.iconst 1, 1) := by decide +kernel
theorem dX6_bring_15 : decode cX6_bring 15 = .ok (.goto 4, 3) := by decide +kernel
theorem dX6_bring_18 : decode cX6_bring 18 = .ok (.iconst 0, 1) := by decide +kernel
theorem dX6_bring_19 : decode cX6_bring 19 = .ok (.istore_n 2, 1) := by decide +kernel
theorem dX6_bring_20 : decode cX6_bring 20 = .ok (.iload_n 2, 1) := by decide +kernel
theorem dX6_bring_21 : decode cX6_bring 21 = .ok (.ifCond .eq 15, 3) := by decide +kernel
theorem dX6_bring_24 : decode cX6_bring 24 = .ok (.aload_n 0, 1) := by decide +kernel
theorem dX6_bring_25 : decode cX6_bring 25 = .ok (.getfield 12, 3) := by decide +kernel
theorem dX6_bring_28 : decode cX6_bring 28 = .ok (.getfield 230, 3) := by decide +kernel
theorem dX6_bring_31 : decode cX6_bring 31 = .ok (.iload_n 1, 1) := by decide +kernel
theorem dX6_bring_32 : decode cX6_bring 32 = .ok (.iaload, 1) := by decide +kernel
theorem dX6_bring_33 : decode cX6_bring 33 = .ok (.goto 4, 3) := by decide +kernel
theorem dX6_bring_36 : decode cX6_bring 36 = .ok (.iconst 1, 1) := by decide +kernel
theorem dX6_bring_37 : decode cX6_bring 37 = .ok (.istore_n 3, 1) := by decide +kernel
theorem dX6_bring_38 : decode cX6_bring 38 = .ok (.aload_n 0, 1) := by decide +kernel
theorem dX6_bring_39 : decode cX6_bring 39 = .ok (.getfield 59, 3) := by decide +kernel
theorem dX6_bring_42 : decode cX6_bring 42 = .ok (.getfield 77, 3) := by decide +kernel
theorem dX6_bring_45 : decode cX6_bring 45 = .ok (.istore 4, 2) := by decide +kernel
theorem dX6_bring_47 : decode cX6_bring 47 = .ok (.iload 4, 2) := by decide +kernel
theorem dX6_bring_49 : decode cX6_bring 49 = .ok (.bipush 8, 2) := by decide +kernel
theorem dX6_bring_51 : decode cX6_bring 51 = .ok (.if_icmp .ge 9, 3) := by decide +kernel
theorem dX6_bring_54 : decode cX6_bring 54 = .ok (.iload_n 3, 1) := by decide +kernel
theorem dX6_bring_55 : decode cX6_bring 55 = .ok (.bipush 8, 2) := by decide +kernel
theorem dX6_bring_57 : decode cX6_bring 57 = .ok (.if_icmp .le 6, 3) := by decide +kernel
theorem dX6_bring_60 : decode cX6_bring 60 = .ok (.bipush (-3), 2) := by decide +kernel
theorem dX6_bring_62 : decode cX6_bring 62 = .ok (.ireturn, 1) := by decide +kernel
theorem dX6_bring_63 : decode cX6_bring 63 = .ok (.aload_n 0, 1) := by decide +kernel
theorem dX6_bring_64 : decode cX6_bring 64 = .ok (.getfield 62, 3) := by decide +kernel
theorem dX6_bring_67 : decode cX6_bring 67 = .ok (.aload_n 0, 1) := by decide +kernel
theorem dX6_bring_68 : decode cX6_bring 68 = .ok (.getfield 59, 3) := by decide +kernel
theorem dX6_bring_71 : decode cX6_bring 71 = .ok (.invokevirtual 73, 3) := by decide +kernel
theorem dX6_bring_74 : decode cX6_bring 74 = .ok (.aload_n 0, 1) := by decide +kernel
theorem dX6_bring_75 : decode cX6_bring 75 = .ok (.getfield 62, 3) := by decide +kernel
theorem dX6_bring_78 : decode cX6_bring 78 = .ok (.getfield 80, 3) := by decide +kernel
theorem dX6_bring_81 : decode cX6_bring 81 = .ok (.iload 4, 2) := by decide +kernel
theorem dX6_bring_83 : decode cX6_bring 83 = .ok (.aaload, 1) := by decide +kernel
theorem dX6_bring_84 : decode cX6_bring 84 = .ok (.astore 5, 2) := by decide +kernel
theorem dX6_bring_86 : decode cX6_bring 86 = .ok (.iconst 0, 1) := by decide +kernel
theorem dX6_bring_87 : decode cX6_bring 87 = .ok (.istore 6, 2) := by decide +kernel
theorem dX6_bring_89 : decode cX6_bring 89 = .ok (.iload 6, 2) := by decide +kernel
theorem dX6_bring_91 : decode cX6_bring 91 = .ok (.iload_n 3, 1) := by decide +kernel
theorem dX6_bring_92 : decode cX6_bring 92 = .ok (.if_icmp .ge 60, 3) := by decide +kernel
theorem dX6_bring_95 : decode cX6_bring 95 = .ok (.iload_n 2, 1) := by decide +kernel
theorem dX6_bring_96 : decode cX6_bring 96 = .ok (.ifCond .eq 16, 3) := by decide +kernel
theorem dX6_bring_99 : decode cX6_bring 99 = .ok (.aload_n 0, 1) := by decide +kernel
theorem dX6_bring_100 : decode cX6_bring 100 = .ok (.getfield 12, 3) := by decide +kernel
theorem dX6_bring_103 : decode cX6_bring 103 = .ok (.iload_n 1, 1) := by decide +kernel
theorem dX6_bring_104 : decode cX6_bring 104 = .ok (.iload 6, 2) := by decide +kernel
theorem dX6_bring_106 : decode cX6_bring 106 = .ok (.invokevirtual 233, 3) := by decide +kernel
theorem dX6_bring_109 : decode cX6_bring 109 = .ok (.goto 4, 3) := by decide +kernel
theorem dX6_bring_112 : decode cX6_bring 112 = .ok (.iload_n 1, 1) := by decide +kernel
theorem dX6_bring_113 : decode cX6_bring 113 = .ok (.istore 7, 2) := by decide +kernel
theorem dX6_bring_115 : decode cX6_bring 115 = .ok (.aload_n 0, 1) := by decide +kernel
theorem dX6_bring_116 : decode cX6_bring 116 = .ok (.getfield 12, 3) := by decide +kernel
theorem dX6_bring_119 : decode cX6_bring 119 = .ok (.getfield 220, 3) := by decide +kernel
theorem dX6_bring_122 : decode cX6_bring 122 = .ok (.iload 7, 2) := by decide +kernel
theorem dX6_bring_124 : decode cX6_bring 124 = .ok (.iaload, 1) := by decide +kernel
theorem dX6_bring_125 : decode cX6_bring 125 = .ok (.bipush 120, 2) := by decide +kernel
theorem dX6_bring_127 : decode cX6_bring 127 = .ok (.if_icmp .le 6, 3) := by decide +kernel
theorem dX6_bring_130 : decode cX6_bring 130 = .ok (.bipush (-3), 2) := by decide +kernel
theorem dX6_bring_132 : decode cX6_bring 132 = .ok (.ireturn, 1) := by decide +kernel
theorem dX6_bring_133 : decode cX6_bring 133 = .ok (.aload_n 0, 1) := by decide +kernel
theorem dX6_bring_134 : decode cX6_bring 134 = .ok (.getfield 28, 3) := by decide +kernel
theorem dX6_bring_137 : decode cX6_bring 137 = .ok (.iload 7, 2) := by decide +kernel
theorem dX6_bring_139 : decode cX6_bring 139 = .ok (.aload 5, 2) := by decide +kernel
theorem dX6_bring_141 : decode cX6_bring 141 = .ok (.iload 6, 2) := by decide +kernel
theorem dX6_bring_143 : decode cX6_bring 143 = .ok (.invokevirtual 223, 3) := by decide +kernel
theorem dX6_bring_146 : decode cX6_bring 146 = .ok (.iinc 6 1, 3) := by decide +kernel
theorem dX6_bring_149 : decode cX6_bring 149 = .ok (.goto (-60), 3) := by decide +kernel
theorem dX6_bring_152 : decode cX6_bring 152 = .ok (.aload 5, 2) := by decide +kernel
theorem dX6_bring_154 : decode cX6_bring 154 = .ok (.iload_n 3, 1) := by decide +kernel
theorem dX6_bring_155 : decode cX6_bring 155 = .ok (.aload_n 0, 1) := by decide +kernel
theorem dX6_bring_156 : decode cX6_bring 156 = .ok (.getfield 59, 3) := by decide +kernel
theorem dX6_bring_159 : decode cX6_bring 159 = .ok (.getfield 69, 3) := by decide +kernel
theorem dX6_bring_162 : decode cX6_bring 162 = .ok (.invokevirtual 236, 3) := by decide +kernel
theorem dX6_bring_165 : decode cX6_bring 165 = .ok (.aload_n 0, 1) := by decide +kernel
theorem dX6_bring_166 : decode cX6_bring 166 = .ok (.getfield 62, 3) := by decide +kernel
theorem dX6_bring_169 : decode cX6_bring 169 = .ok (.dup, 1) := by decide +kernel
theorem dX6_bring_170 : decode cX6_bring 170 = .ok (.getfield 77, 3) := by decide +kernel
theorem dX6_bring_173 : decode cX6_bring 173 = .ok (.iconst 1, 1) := by decide +kernel
theorem dX6_bring_174 : decode cX6_bring 174 = .ok (.iadd, 1) := by decide +kernel
theorem dX6_bring_175 : decode cX6_bring 175 = .ok (.putfield 77, 3) := by decide +kernel
theorem dX6_bring_178 : decode cX6_bring 178 = .ok (.aload_n 0, 1) := by decide +kernel
theorem dX6_bring_179 : decode cX6_bring 179 = .ok (.invokevirtual 110, 3) := by decide +kernel
theorem dX6_bring_182 : decode cX6_bring 182 = .ok (.iload 4, 2) := by decide +kernel
theorem dX6_bring_184 : decode cX6_bring 184 = .ok (.ireturn, 1) := by decide +kernel
theorem dX6_loadAlone_0 : decode cX6_loadAlone 0 = .ok (.aload_n 0, 1) := by decide +kernel
theorem dX6_loadAlone_1 : decode cX6_loadAlone 1 = .ok (.getfield 12, 3) := by decide +kernel
theorem dX6_loadAlone_4 : decode cX6_loadAlone 4 = .ok (.bipush 16, 2) := by decide +kernel
theorem dX6_loadAlone_6 : decode cX6_loadAlone 6 = .ok (.invokevirtual 124, 3) := by decide +kernel
theorem dX6_loadAlone_9 : decode cX6_loadAlone 9 = .ok (.aload_n 0, 1) := by decide +kernel
theorem dX6_loadAlone_10 : decode cX6_loadAlone 10 = .ok (.getfield 28, 3) := by decide +kernel
theorem dX6_loadAlone_13 : decode cX6_loadAlone 13 = .ok (.aload_n 1, 1) := by decide +kernel
theorem dX6_loadAlone_14 : decode cX6_loadAlone 14 = .ok (.iload_n 2, 1) := by decide +kernel
theorem dX6_loadAlone_15 : decode cX6_loadAlone 15 = .ok (.invokevirtual 240, 3) := by decide +kernel
theorem dX6_loadAlone_18 : decode cX6_loadAlone 18 = .ok (.ireturn, 1) := by decide +kernel
theorem dX6_allOfParts_0 : decode cX6_allOfParts 0 = .ok (.aload_n 0, 1) := by decide +kernel
theorem dX6_allOfParts_1 : decode cX6_allOfParts 1 = .ok (.getfield 21, 3) := by decide +kernel
theorem dX6_allOfParts_4 : decode cX6_allOfParts 4 = .ok (.bipush 20, 2) := by decide +kernel
theorem dX6_allOfParts_6 : decode cX6_allOfParts 6 = .ok (.invokevirtual 243, 3) := by decide +kernel
theorem dX6_allOfParts_9 : decode cX6_allOfParts 9 = .ok (.iconst 0, 1) := by decide +kernel
theorem dX6_allOfParts_10 : decode cX6_allOfParts 10 = .ok (.istore_n 2, 1) := by decide +kernel
theorem dX6_allOfParts_11 : decode cX6_allOfParts 11 = .ok (.iload_n 2, 1) := by decide +kernel
theorem dX6_allOfParts_12 : decode cX6_allOfParts 12 = .ok (.aload_n 1, 1) := by decide +kernel
theorem dX6_allOfParts_13 : decode cX6_allOfParts 13 = .ok (.getfield 163, 3) := by decide +kernel
theorem dX6_allOfParts_16 : decode cX6_allOfParts 16 = .ok (.if_icmp .ge 25, 3) := by decide +kernel
theorem dX6_allOfParts_19 : decode cX6_allOfParts 19 = .ok (.aload_n 0, 1) := by decide +kernel
theorem dX6_allOfParts_20 : decode cX6_allOfParts 20 = .ok (.getfield 21, 3) := by decide +kernel
theorem dX6_allOfParts_23 : decode cX6_allOfParts 23 = .ok (.aload_n 0, 1) := by decide +kernel
theorem dX6_allOfParts_24 : decode cX6_allOfParts 24 = .ok (.getfield 28, 3) := by decide +kernel
theorem dX6_allOfParts_27 : decode cX6_allOfParts 27 = .ok (.aload_n 1, 1) := by decide +kernel
theorem dX6_allOfParts_28 : decode cX6_allOfParts 28 = .ok (.iload_n 2, 1) := by decide +kernel
theorem dX6_allOfParts_29 : decode cX6_allOfParts 29 = .ok (.invokevirtual 240, 3) := by decide +kernel
theorem dX6_allOfParts_32 : decode cX6_allOfParts 32 = .ok (.invokevirtual 246, 3) := by decide +kernel
theorem dX6_allOfParts_35 : decode cX6_allOfParts 35 = .ok (.iinc 2 1, 3) := by decide +kernel
theorem dX6_allOfParts_38 : decode cX6_allOfParts 38 = .ok (.goto (-27), 3) := by decide +kernel
theorem dX6_allOfParts_41 : decode cX6_allOfParts 41 = .ok (.aload_n 0, 1) := by decide +kernel
theorem dX6_allOfParts_42 : decode cX6_allOfParts 42 = .ok (.getfield 21, 3) := by decide +kernel
theorem dX6_allOfParts_45 : decode cX6_allOfParts 45 = .ok (.invokevirtual 249, 3) := by decide +kernel
theorem dX6_allOfParts_48 : decode cX6_allOfParts 48 = .ok (.ireturn, 1) := by decide +kernel
theorem dX6_verdictIfEnded_0 : decode cX6_verdictIfEnded 0 = .ok (.aload_n 1, 1) := by decide +kernel
theorem dX6_verdictIfEnded_1 : decode cX6_verdictIfEnded 1 = .ok (.getfield 93, 3) := by decide +kernel
theorem dX6_verdictIfEnded_4 : decode cX6_verdictIfEnded 4 = .ok (.iconst 2, 1) := by decide +kernel
theorem dX6_verdictIfEnded_5 : decode cX6_verdictIfEnded 5 = .ok (.if_icmp .eq 8, 3) := by decide +kernel
theorem dX6_verdictIfEnded_8 : decode cX6_verdictIfEnded 8 = .ok (.aload_n 1, 1) := by decide +kernel
theorem dX6_verdictIfEnded_9 : decode cX6_verdictIfEnded 9 = .ok (.getfield 93, 3) := by decide +kernel
theorem dX6_verdictIfEnded_12 : decode cX6_verdictIfEnded 12 = .ok (.ireturn, 1) := by decide +kernel
theorem dX6_verdictIfEnded_13 : decode cX6_verdictIfEnded 13 = .ok (.iconst 0, 1) := by decide +kernel
theorem dX6_verdictIfEnded_14 : decode cX6_verdictIfEnded 14 = .ok (.istore_n 2, 1) := by decide +kernel
theorem dX6_verdictIfEnded_15 : decode cX6_verdictIfEnded 15 = .ok (.iload_n 2, 1) := by decide +kernel
theorem dX6_verdictIfEnded_16 : decode cX6_verdictIfEnded 16 = .ok (.aload_n 1, 1) := by decide +kernel
theorem dX6_verdictIfEnded_17 : decode cX6_verdictIfEnded 17 = .ok (.getfield 163, 3) := by decide +kernel
theorem dX6_verdictIfEnded_20 : decode cX6_verdictIfEnded 20 = .ok (.if_icmp .ge 28, 3) := by decide +kernel
theorem dX6_verdictIfEnded_23 : decode cX6_verdictIfEnded 23 = .ok (.aload_n 0, 1) := by decide +kernel
theorem dX6_verdictIfEnded_24 : decode cX6_verdictIfEnded 24 = .ok (.getfield 12, 3) := by decide +kernel
theorem dX6_verdictIfEnded_27 : decode cX6_verdictIfEnded 27 = .ok (.getfield 197, 3) := by decide +kernel
theorem dX6_verdictIfEnded_30 : decode cX6_verdictIfEnded 30 = .ok (.aload_n 0, 1) := by decide +kernel
theorem dX6_verdictIfEnded_31 : decode cX6_verdictIfEnded 31 = .ok (.aload_n 1, 1) := by decide +kernel
theorem dX6_verdictIfEnded_32 : decode cX6_verdictIfEnded 32 = .ok (.iload_n 2, 1) := by decide +kernel
theorem dX6_verdictIfEnded_33 : decode cX6_verdictIfEnded 33 = .ok (.invokevirtual 194, 3) := by decide +kernel
theorem dX6_verdictIfEnded_36 : decode cX6_verdictIfEnded 36 = .ok (.baload, 1) := by decide +kernel
theorem dX6_verdictIfEnded_37 : decode cX6_verdictIfEnded 37 = .ok (.ifCond .ne 5, 3) := by decide +kernel
theorem dX6_verdictIfEnded_40 : decode cX6_verdictIfEnded 40 = .ok (.iconst 0, 1) := by decide +kernel
theorem dX6_verdictIfEnded_41 : decode cX6_verdictIfEnded 41 = .ok (.ireturn, 1) := by decide +kernel
theorem dX6_verdictIfEnded_42 : decode cX6_verdictIfEnded 42 = .ok (.iinc 2 1, 3) := by decide +kernel
theorem dX6_verdictIfEnded_45 : decode cX6_verdictIfEnded 45 = .ok (.goto (-30), 3) := by decide +kernel
theorem dX6_verdictIfEnded_48 : decode cX6_verdictIfEnded 48 = .ok (.iconst 1, 1) := by decide +kernel
theorem dX6_verdictIfEnded_49 : decode cX6_verdictIfEnded 49 = .ok (.ireturn, 1) := by decide +kernel
theorem dX6_verdictBehind_0 : decode cX6_verdictBehind 0 = .ok (.aload_n 1, 1) := by decide +kernel
theorem dX6_verdictBehind_1 : decode cX6_verdictBehind 1 = .ok (.getfield 93, 3) := by decide +kernel
theorem dX6_verdictBehind_4 : decode cX6_verdictBehind 4 = .ok (.iconst 2, 1) := by decide +kernel
theorem dX6_verdictBehind_5 : decode cX6_verdictBehind 5 = .ok (.if_icmp .eq 8, 3) := by decide +kernel
theorem dX6_verdictBehind_8 : decode cX6_verdictBehind 8 = .ok (.aload_n 1, 1) := by decide +kernel
theorem dX6_verdictBehind_9 : decode cX6_verdictBehind 9 = .ok (.getfield 93, 3) := by decide +kernel
theorem dX6_verdictBehind_12 : decode cX6_verdictBehind 12 = .ok (.ireturn, 1) := by decide +kernel
theorem dX6_verdictBehind_13 : decode cX6_verdictBehind 13 = .ok (.iconst 1, 1) := by decide +kernel
theorem dX6_verdictBehind_14 : decode cX6_verdictBehind 14 = .ok (.istore_n 3, 1) := by decide +kernel
theorem dX6_verdictBehind_15 : decode cX6_verdictBehind 15 = .ok (.iconst 0, 1) := by decide +kernel
theorem dX6_verdictBehind_16 : decode cX6_verdictBehind 16 = .ok (.istore 4, 2) := by decide +kernel
theorem dX6_verdictBehind_18 : decode cX6_verdictBehind 18 = .ok (.iload 4, 2) := by decide +kernel
theorem dX6_verdictBehind_20 : decode cX6_verdictBehind 20 = .ok (.aload_n 1, 1) := by decide +kernel
theorem dX6_verdictBehind_21 : decode cX6_verdictBehind 21 = .ok (.getfield 163, 3) := by decide +kernel
theorem dX6_verdictBehind_24 : decode cX6_verdictBehind 24 = .ok (.if_icmp .ge 40, 3) := by decide +kernel
theorem dX6_verdictBehind_27 : decode cX6_verdictBehind 27 = .ok (.iload_n 3, 1) := by decide +kernel
theorem dX6_verdictBehind_28 : decode cX6_verdictBehind 28 = .ok (.ifCond .eq 36, 3) := by decide +kernel
theorem dX6_verdictBehind_31 : decode cX6_verdictBehind 31 = .ok (.aload_n 0, 1) := by decide +kernel
theorem dX6_verdictBehind_32 : decode cX6_verdictBehind 32 = .ok (.getfield 21, 3) := by decide +kernel
theorem dX6_verdictBehind_35 : decode cX6_verdictBehind 35 = .ok (.aload_n 0, 1) := by decide +kernel
theorem dX6_verdictBehind_36 : decode cX6_verdictBehind 36 = .ok (.aload_n 1, 1) := by decide +kernel
theorem dX6_verdictBehind_37 : decode cX6_verdictBehind 37 = .ok (.iload 4, 2) := by decide +kernel
theorem dX6_verdictBehind_39 : decode cX6_verdictBehind 39 = .ok (.invokevirtual 194, 3) := by decide +kernel
theorem dX6_verdictBehind_42 : decode cX6_verdictBehind 42 = .ok (.iload_n 2, 1) := by decide +kernel
theorem dX6_verdictBehind_43 : decode cX6_verdictBehind 43 = .ok (.invokevirtual 216, 3) := by decide +kernel
theorem dX6_verdictBehind_46 : decode cX6_verdictBehind 46 = .ok (.istore 5, 2) := by decide +kernel
theorem dX6_verdictBehind_48 : decode cX6_verdictBehind 48 = .ok (.iload_n 3, 1) := by decide +kernel
theorem dX6_verdictBehind_49 : decode cX6_verdictBehind 49 = .ok (.iload 5, 2) := by decide +kernel
theorem dX6_verdictBehind_51 : decode cX6_verdictBehind 51 = .ok (.invokestatic 252, 3) := by decide +kernel
theorem dX6_verdictBehind_54 : decode cX6_verdictBehind 54 = .ok (.invokestatic 255, 3) := by decide +kernel
theorem dX6_verdictBehind_57 : decode cX6_verdictBehind 57 = .ok (.istore_n 3, 1) := by decide +kernel
theorem dX6_verdictBehind_58 : decode cX6_verdictBehind 58 = .ok (.iinc 4 1, 3) := by decide +kernel
theorem dX6_verdictBehind_61 : decode cX6_verdictBehind 61 = .ok (.goto (-43), 3) := by decide +kernel
theorem dX6_verdictBehind_64 : decode cX6_verdictBehind 64 = .ok (.iload_n 3, 1) := by decide +kernel
theorem dX6_verdictBehind_65 : decode cX6_verdictBehind 65 = .ok (.ireturn, 1) := by decide +kernel
theorem dX6_findOutcomes_0 : decode cX6_findOutcomes 0 = .ok (.iconst 0, 1) := by decide +kernel
theorem dX6_findOutcomes_1 : decode cX6_findOutcomes 1 = .ok (.istore_n 2, 1) := by decide +kernel
theorem dX6_findOutcomes_2 : decode cX6_findOutcomes 2 = .ok (.iload_n 2, 1) := by decide +kernel
theorem dX6_findOutcomes_3 : decode cX6_findOutcomes 3 = .ok (.bipush 64, 2) := by decide +kernel
theorem dX6_findOutcomes_5 : decode cX6_findOutcomes 5 = .ok (.if_icmp .ge 31, 3) := by decide +kernel
theorem dX6_findOutcomes_8 : decode cX6_findOutcomes 8 = .ok (.aload_n 0, 1) := by decide +kernel
theorem dX6_findOutcomes_9 : decode cX6_findOutcomes 9 = .ok (.getfield 41, 3) := by decide +kernel
theorem dX6_findOutcomes_12 : decode cX6_findOutcomes 12 = .ok (.iload_n 2, 1) := by decide +kernel
theorem dX6_findOutcomes_13 : decode cX6_findOutcomes 13 = .ok (.aload_n 1, 1) := by decide +kernel
theorem dX6_findOutcomes_14 : decode cX6_findOutcomes 14 = .ok (.getfield 93, 3) := by decide +kernel
theorem dX6_findOutcomes_17 : decode cX6_findOutcomes 17 = .ok (.iconst 2, 1) := by decide +kernel
theorem dX6_findOutcomes_18 : decode cX6_findOutcomes 18 = .ok (.if_icmp .ne 7, 3) := by decide +kernel
theorem dX6_findOutcomes_21 : decode cX6_findOutcomes 21 = .ok (.iconst 1, 1) := by decide +kernel
theorem dX6_findOutcomes_22 : decode cX6_findOutcomes 22 = .ok (.goto 7, 3) := by decide +kernel
theorem dX6_findOutcomes_25 : decode cX6_findOutcomes 25 = .ok (.aload_n 1, 1) := by decide +kernel
theorem dX6_findOutcomes_26 : decode cX6_findOutcomes 26 = .ok (.getfield 93, 3) := by decide +kernel
theorem dX6_findOutcomes_29 : decode cX6_findOutcomes 29 = .ok (.iastore, 1) := by decide +kernel
theorem dX6_findOutcomes_30 : decode cX6_findOutcomes 30 = .ok (.iinc 2 1, 3) := by decide +kernel
theorem dX6_findOutcomes_33 : decode cX6_findOutcomes 33 = .ok (.goto (-31), 3) := by decide +kernel
theorem dX6_findOutcomes_36 : decode cX6_findOutcomes 36 = .ok (.aload_n 1, 1) := by decide +kernel
theorem dX6_findOutcomes_37 : decode cX6_findOutcomes 37 = .ok (.getfield 93, 3) := by decide +kernel
theorem dX6_findOutcomes_40 : decode cX6_findOutcomes 40 = .ok (.iconst 2, 1) := by decide +kernel
theorem dX6_findOutcomes_41 : decode cX6_findOutcomes 41 = .ok (.if_icmp .ne 25, 3) := by decide +kernel
theorem dX6_findOutcomes_44 : decode cX6_findOutcomes 44 = .ok (.iconst 0, 1) := by decide +kernel
theorem dX6_findOutcomes_45 : decode cX6_findOutcomes 45 = .ok (.istore_n 2, 1) := by decide +kernel
theorem dX6_findOutcomes_46 : decode cX6_findOutcomes 46 = .ok (.iload_n 2, 1) := by decide +kernel
theorem dX6_findOutcomes_47 : decode cX6_findOutcomes 47 = .ok (.aload_n 1, 1) := by decide +kernel
theorem dX6_findOutcomes_48 : decode cX6_findOutcomes 48 = .ok (.getfield 163, 3) := by decide +kernel
theorem dX6_findOutcomes_51 : decode cX6_findOutcomes 51 = .ok (.if_icmp .ge 15, 3) := by decide +kernel
theorem dX6_findOutcomes_54 : decode cX6_findOutcomes 54 = .ok (.aload_n 0, 1) := by decide +kernel
theorem dX6_findOutcomes_55 : decode cX6_findOutcomes 55 = .ok (.aload_n 1, 1) := by decide +kernel
theorem dX6_findOutcomes_56 : decode cX6_findOutcomes 56 = .ok (.iload_n 2, 1) := by decide +kernel
theorem dX6_findOutcomes_57 : decode cX6_findOutcomes 57 = .ok (.invokevirtual 258, 3) := by decide +kernel
theorem dX6_findOutcomes_60 : decode cX6_findOutcomes 60 = .ok (.iinc 2 1, 3) := by decide +kernel
theorem dX6_findOutcomes_63 : decode cX6_findOutcomes 63 = .ok (.goto (-17), 3) := by decide +kernel
theorem dX6_findOutcomes_66 : decode cX6_findOutcomes 66 = .ok (.return_, 1) := by decide +kernel
theorem dX6_addOutcomesOfPart_0 : decode cX6_addOutcomesOfPart 0 = .ok (.aload_n 0, 1) := by decide +kernel
theorem dX6_addOutcomesOfPart_1 : decode cX6_addOutcomesOfPart 1 = .ok (.aload_n 1, 1) := by decide +kernel
theorem dX6_addOutcomesOfPart_2 : decode cX6_addOutcomesOfPart 2 = .ok (.iload_n 2, 1) := by decide +kernel
theorem dX6_addOutcomesOfPart_3 : decode cX6_addOutcomesOfPart 3 = .ok (.invokevirtual 194, 3) := by decide +kernel
theorem dX6_addOutcomesOfPart_6 : decode cX6_addOutcomesOfPart 6 = .ok (.istore_n 3, 1) := by decide +kernel
theorem dX6_addOutcomesOfPart_7 : decode cX6_addOutcomesOfPart 7 = .ok (.aload_n 0, 1) := by decide +kernel
theorem dX6_addOutcomesOfPart_8 : decode cX6_addOutcomesOfPart 8 = .ok (.getfield 12, 3) := by decide +kernel
theorem dX6_addOutcomesOfPart_11 : decode cX6_addOutcomesOfPart 11 = .ok (.getfield 191, 3) := by decide +kernel
theorem dX6_addOutcomesOfPart_14 : decode cX6_addOutcomesOfPart 14 = .ok (.iload_n 3, 1) := by decide +kernel
theorem dX6_addOutcomesOfPart_15 : decode cX6_addOutcomesOfPart 15 = .ok (.iaload, 1) := by decide +kernel
theorem dX6_addOutcomesOfPart_16 : decode cX6_addOutcomesOfPart 16 = .ok (.istore 4, 2) := by decide +kernel
theorem dX6_addOutcomesOfPart_18 : decode cX6_addOutcomesOfPart 18 = .ok (.aload_n 0, 1) := by decide +kernel
theorem dX6_addOutcomesOfPart_19 : decode cX6_addOutcomesOfPart 19 = .ok (.getfield 12, 3) := by decide +kernel
theorem dX6_addOutcomesOfPart_22 : decode cX6_addOutcomesOfPart 22 = .ok (.getfield 262, 3) := by decide +kernel
theorem dX6_addOutcomesOfPart_25 : decode cX6_addOutcomesOfPart 25 = .ok (.istore 5, 2) := by decide +kernel
theorem dX6_addOutcomesOfPart_27 : decode cX6_addOutcomesOfPart 27 = .ok (.iconst 0, 1) := by decide +kernel
theorem dX6_addOutcomesOfPart_28 : decode cX6_addOutcomesOfPart 28 = .ok (.istore 6, 2) := by decide +kernel
theorem dX6_addOutcomesOfPart_30 : decode cX6_addOutcomesOfPart 30 = .ok (.iload 6, 2) := by decide +kernel
theorem dX6_addOutcomesOfPart_32 : decode cX6_addOutcomesOfPart 32 = .ok (.bipush 64, 2) := by decide +kernel
theorem dX6_addOutcomesOfPart_34 : decode cX6_addOutcomesOfPart 34 = .ok (.if_icmp .ge 75, 3) := by decide +kernel
theorem dX6_addOutcomesOfPart_37 : decode cX6_addOutcomesOfPart 37 = .ok (.iload 6, 2) := by decide +kernel
theorem dX6_addOutcomesOfPart_39 : decode cX6_addOutcomesOfPart 39 = .ok (.iload 4, 2) := by decide +kernel
theorem dX6_addOutcomesOfPart_41 : decode cX6_addOutcomesOfPart 41 = .ok (.iand, 1) := by decide +kernel
theorem dX6_addOutcomesOfPart_42 : decode cX6_addOutcomesOfPart 42 = .ok (.iload 6, 2) := by decide +kernel
theorem dX6_addOutcomesOfPart_44 : decode cX6_addOutcomesOfPart 44 = .ok (.if_icmp .ne 32, 3) := by decide +kernel
theorem dX6_addOutcomesOfPart_47 : decode cX6_addOutcomesOfPart 47 = .ok (.aload_n 0, 1) := by decide +kernel
theorem dX6_addOutcomesOfPart_48 : decode cX6_addOutcomesOfPart 48 = .ok (.getfield 45, 3) := by decide +kernel
theorem dX6_addOutcomesOfPart_51 : decode cX6_addOutcomesOfPart 51 = .ok (.iload 6, 2) := by decide +kernel
theorem dX6_addOutcomesOfPart_53 : decode cX6_addOutcomesOfPart 53 = .ok (.aload_n 0, 1) := by decide +kernel
theorem dX6_addOutcomesOfPart_54 : decode cX6_addOutcomesOfPart 54 = .ok (.getfield 21, 3) := by decide +kernel
theorem dX6_addOutcomesOfPart_57 : decode cX6_addOutcomesOfPart 57 = .ok (.iload_n 3, 1) := by decide +kernel
theorem dX6_addOutcomesOfPart_58 : decode cX6_addOutcomesOfPart 58 = .ok (.iload 6, 2) := by decide +kernel
theorem dX6_addOutcomesOfPart_60 : decode cX6_addOutcomesOfPart 60 = .ok (.invokevirtual 216, 3) := by decide +kernel
theorem dX6_addOutcomesOfPart_63 : decode cX6_addOutcomesOfPart 63 = .ok (.invokestatic 252, 3) := by decide +kernel
theorem dX6_addOutcomesOfPart_66 : decode cX6_addOutcomesOfPart 66 = .ok (.iastore, 1) := by decide +kernel
theorem dX6_addOutcomesOfPart_67 : decode cX6_addOutcomesOfPart 67 = .ok (.aload_n 0, 1) := by decide +kernel
theorem dX6_addOutcomesOfPart_68 : decode cX6_addOutcomesOfPart 68 = .ok (.getfield 12, 3) := by decide +kernel
theorem dX6_addOutcomesOfPart_71 : decode cX6_addOutcomesOfPart 71 = .ok (.iload 5, 2) := by decide +kernel
theorem dX6_addOutcomesOfPart_73 : decode cX6_addOutcomesOfPart 73 = .ok (.invokevirtual 124, 3) := by decide +kernel
theorem dX6_addOutcomesOfPart_76 : decode cX6_addOutcomesOfPart 76 = .ok (.aload_n 0, 1) := by decide +kernel
theorem dX6_addOutcomesOfPart_77 : decode cX6_addOutcomesOfPart 77 = .ok (.getfield 41, 3) := by decide +kernel
theorem dX6_addOutcomesOfPart_80 : decode cX6_addOutcomesOfPart 80 = .ok (.iload 6, 2) := by decide +kernel
theorem dX6_addOutcomesOfPart_82 : decode cX6_addOutcomesOfPart 82 = .ok (.aload_n 0, 1) := by decide +kernel
theorem dX6_addOutcomesOfPart_83 : decode cX6_addOutcomesOfPart 83 = .ok (.getfield 41, 3) := by decide +kernel
theorem dX6_addOutcomesOfPart_86 : decode cX6_addOutcomesOfPart 86 = .ok (.iload 6, 2) := by decide +kernel
theorem dX6_addOutcomesOfPart_88 : decode cX6_addOutcomesOfPart 88 = .ok (.iaload, 1) := by decide +kernel
theorem dX6_addOutcomesOfPart_89 : decode cX6_addOutcomesOfPart 89 = .ok (.aload_n 0, 1) := by decide +kernel
theorem dX6_addOutcomesOfPart_90 : decode cX6_addOutcomesOfPart 90 = .ok (.getfield 45, 3) := by decide +kernel
theorem dX6_addOutcomesOfPart_93 : decode cX6_addOutcomesOfPart 93 = .ok (.iload 6, 2) := by decide +kernel
theorem dX6_addOutcomesOfPart_95 : decode cX6_addOutcomesOfPart 95 = .ok (.iload 4, 2) := by decide +kernel
theorem dX6_addOutcomesOfPart_97 : decode cX6_addOutcomesOfPart 97 = .ok (.iand, 1) := by decide +kernel
theorem dX6_addOutcomesOfPart_98 : decode cX6_addOutcomesOfPart 98 = .ok (.iaload, 1) := by decide +kernel
theorem dX6_addOutcomesOfPart_99 : decode cX6_addOutcomesOfPart 99 = .ok (.invokestatic 255, 3) := by decide +kernel
theorem dX6_addOutcomesOfPart_102 : decode cX6_addOutcomesOfPart 102 = .ok (.iastore, 1) := by decide +kernel
theorem dX6_addOutcomesOfPart_103 : decode cX6_addOutcomesOfPart 103 = .ok (.iinc 6 1, 3) := by decide +kernel
theorem dX6_addOutcomesOfPart_106 : decode cX6_addOutcomesOfPart 106 = .ok (.goto (-76), 3) := by decide +kernel
theorem dX6_addOutcomesOfPart_109 : decode cX6_addOutcomesOfPart 109 = .ok (.return_, 1) := by decide +kernel
theorem dX6_verdictOfForm_0 : decode cX6_verdictOfForm 0 = .ok (.iload_n 0, 1) := by decide +kernel
theorem dX6_verdictOfForm_1 : decode cX6_verdictOfForm 1 = .ok (.ifCond .ne 7, 3) := by decide +kernel
theorem dX6_verdictOfForm_4 : decode cX6_verdictOfForm 4 = .ok (.iconst 0, 1) := by decide +kernel
theorem dX6_verdictOfForm_5 : decode cX6_verdictOfForm 5 = .ok (.goto 13, 3) := by decide +kernel
theorem dX6_verdictOfForm_8 : decode cX6_verdictOfForm 8 = .ok (.iload_n 0, 1) := by decide +kernel
theorem dX6_verdictOfForm_9 : decode cX6_verdictOfForm 9 = .ok (.iconst 1, 1) := by decide +kernel
theorem dX6_verdictOfForm_10 : decode cX6_verdictOfForm 10 = .ok (.if_icmp .ne 7, 3) := by decide +kernel
theorem dX6_verdictOfForm_13 : decode cX6_verdictOfForm 13 = .ok (.iconst 1, 1) := by decide +kernel
theorem dX6_verdictOfForm_14 : decode cX6_verdictOfForm 14 = .ok (.goto 4, 3) := by decide +kernel
theorem dX6_verdictOfForm_17 : decode cX6_verdictOfForm 17 = .ok (.iconst 2, 1) := by decide +kernel
theorem dX6_verdictOfForm_18 : decode cX6_verdictOfForm 18 = .ok (.ireturn, 1) := by decide +kernel
theorem dX6_worse_0 : decode cX6_worse 0 = .ok (.iload_n 0, 1) := by decide +kernel
theorem dX6_worse_1 : decode cX6_worse 1 = .ok (.ifCond .eq 7, 3) := by decide +kernel
theorem dX6_worse_4 : decode cX6_worse 4 = .ok (.iload_n 1, 1) := by decide +kernel
theorem dX6_worse_5 : decode cX6_worse 5 = .ok (.ifCond .ne 5, 3) := by decide +kernel
theorem dX6_worse_8 : decode cX6_worse 8 = .ok (.iconst 0, 1) := by decide +kernel
theorem dX6_worse_9 : decode cX6_worse 9 = .ok (.ireturn, 1) := by decide +kernel
theorem dX6_worse_10 : decode cX6_worse 10 = .ok (.iload_n 0, 1) := by decide +kernel
theorem dX6_worse_11 : decode cX6_worse 11 = .ok (.iconst 2, 1) := by decide +kernel
theorem dX6_worse_12 : decode cX6_worse 12 = .ok (.if_icmp .eq 8, 3) := by decide +kernel
theorem dX6_worse_15 : decode cX6_worse 15 = .ok (.iload_n 1, 1) := by decide +kernel
theorem dX6_worse_16 : decode cX6_worse 16 = .ok (.iconst 2, 1) := by decide +kernel
theorem dX6_worse_17 : decode cX6_worse 17 = .ok (.if_icmp .ne 7, 3) := by decide +kernel
theorem dX6_worse_20 : decode cX6_worse 20 = .ok (.iconst 2, 1) := by decide +kernel
theorem dX6_worse_21 : decode cX6_worse 21 = .ok (.goto 4, 3) := by decide +kernel
theorem dX6_worse_24 : decode cX6_worse 24 = .ok (.iconst 1, 1) := by decide +kernel
theorem dX6_worse_25 : decode cX6_worse 25 = .ok (.ireturn, 1) := by decide +kernel

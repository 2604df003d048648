theorem dX6_init_0 : decode cX6_init 0 = .ok (.aload_n 0, 1) := by decide +kernel
theorem dX6_init_1 : decode cX6_init 1 = .ok (.invokespecial 1, 3) := by decide +kernel
theorem dX6_init_4 : decode cX6_init 4 = .ok (.aload_n 0, 1) := by decide +kernel
theorem dX6_init_5 : decode cX6_init 5 = .ok (.bipush 100, 2) := by decide +kernel
theorem dX6_init_7 : decode cX6_init 7 = .ok (.newarray .int, 2) := by decide +kernel
theorem dX6_init_9 : decode cX6_init 9 = .ok (.putfield 7, 3) := by decide +kernel
theorem dX6_init_12 : decode cX6_init 12 = .ok (.aload_n 0, 1) := by decide +kernel
theorem dX6_init_13 : decode cX6_init 13 = .ok (.bipush 100, 2) := by decide +kernel
theorem dX6_init_15 : decode cX6_init 15 = .ok (.newarray .int, 2) := by decide +kernel
theorem dX6_init_17 : decode cX6_init 17 = .ok (.putfield 13, 3) := by decide +kernel
theorem dX6_init_20 : decode cX6_init 20 = .ok (.aload_n 0, 1) := by decide +kernel
theorem dX6_init_21 : decode cX6_init 21 = .ok (.bipush 100, 2) := by decide +kernel
theorem dX6_init_23 : decode cX6_init 23 = .ok (.newarray .boolean, 2) := by decide +kernel
theorem dX6_init_25 : decode cX6_init 25 = .ok (.putfield 16, 3) := by decide +kernel
theorem dX6_init_28 : decode cX6_init 28 = .ok (.aload_n 0, 1) := by decide +kernel
theorem dX6_init_29 : decode cX6_init 29 = .ok (.sipush 900, 3) := by decide +kernel
theorem dX6_init_32 : decode cX6_init 32 = .ok (.newarray .int, 2) := by decide +kernel
theorem dX6_init_34 : decode cX6_init 34 = .ok (.putfield 20, 3) := by decide +kernel
theorem dX6_init_37 : decode cX6_init 37 = .ok (.aload_n 0, 1) := by decide +kernel
theorem dX6_init_38 : decode cX6_init 38 = .ok (.bipush 30, 2) := by decide +kernel
theorem dX6_init_40 : decode cX6_init 40 = .ok (.newarray .int, 2) := by decide +kernel
theorem dX6_init_42 : decode cX6_init 42 = .ok (.putfield 23, 3) := by decide +kernel
theorem dX6_init_45 : decode cX6_init 45 = .ok (.aload_n 0, 1) := by decide +kernel
theorem dX6_init_46 : decode cX6_init 46 = .ok (.bipush 30, 2) := by decide +kernel
theorem dX6_init_48 : decode cX6_init 48 = .ok (.newarray .int, 2) := by decide +kernel
theorem dX6_init_50 : decode cX6_init 50 = .ok (.putfield 26, 3) := by decide +kernel
theorem dX6_init_53 : decode cX6_init 53 = .ok (.aload_n 0, 1) := by decide +kernel
theorem dX6_init_54 : decode cX6_init 54 = .ok (.sipush 200, 3) := by decide +kernel
theorem dX6_init_57 : decode cX6_init 57 = .ok (.newarray .int, 2) := by decide +kernel
theorem dX6_init_59 : decode cX6_init 59 = .ok (.putfield 29, 3) := by decide +kernel
theorem dX6_init_62 : decode cX6_init 62 = .ok (.aload_n 0, 1) := by decide +kernel
theorem dX6_init_63 : decode cX6_init 63 = .ok (.bipush 30, 2) := by decide +kernel
theorem dX6_init_65 : decode cX6_init 65 = .ok (.newarray .int, 2) := by decide +kernel
theorem dX6_init_67 : decode cX6_init 67 = .ok (.putfield 32, 3) := by decide +kernel
theorem dX6_init_70 : decode cX6_init 70 = .ok (.aload_n 0, 1) := by decide +kernel
theorem dX6_init_71 : decode cX6_init 71 = .ok (.bipush 30, 2) := by decide +kernel
theorem dX6_init_73 : decode cX6_init 73 = .ok (.newarray .int, 2) := by decide +kernel
theorem dX6_init_75 : decode cX6_init 75 = .ok (.putfield 35, 3) := by decide +kernel
theorem dX6_init_78 : decode cX6_init 78 = .ok (.aload_n 0, 1) := by decide +kernel
theorem dX6_init_79 : decode cX6_init 79 = .ok (.bipush 30, 2) := by decide +kernel
theorem dX6_init_81 : decode cX6_init 81 = .ok (.newarray .int, 2) := by decide +kernel
theorem dX6_init_83 : decode cX6_init 83 = .ok (.putfield 38, 3) := by decide +kernel
theorem dX6_init_86 : decode cX6_init 86 = .ok (.aload_n 0, 1) := by decide +kernel
theorem dX6_init_87 : decode cX6_init 87 = .ok (.bipush 30, 2) := by decide +kernel
theorem dX6_init_89 : decode cX6_init 89 = .ok (.newarray .int, 2) := by decide +kernel
theorem dX6_init_91 : decode cX6_init 91 = .ok (.putfield 41, 3) := by decide +kernel
theorem dX6_init_94 : decode cX6_init 94 = .ok (.aload_n 0, 1) := by decide +kernel
theorem dX6_init_95 : decode cX6_init 95 = .ok (.bipush 30, 2) := by decide +kernel
theorem dX6_init_97 : decode cX6_init 97 = .ok (.newarray .boolean, 2) := by decide +kernel
theorem dX6_init_99 : decode cX6_init 99 = .ok (.putfield 44, 3) := by decide +kernel
theorem dX6_init_102 : decode cX6_init 102 = .ok (.aload_n 0, 1) := by decide +kernel
theorem dX6_init_103 : decode cX6_init 103 = .ok (.bipush 30, 2) := by decide +kernel
theorem dX6_init_105 : decode cX6_init 105 = .ok (.newarray .boolean, 2) := by decide +kernel
theorem dX6_init_107 : decode cX6_init 107 = .ok (.putfield 47, 3) := by decide +kernel
theorem dX6_init_110 : decode cX6_init 110 = .ok (.aload_n 0, 1) := by decide +kernel
theorem dX6_init_111 : decode cX6_init 111 = .ok (.bipush 30, 2) := by decide +kernel
theorem dX6_init_113 : decode cX6_init 113 = .ok (.newarray .boolean, 2) := by decide +kernel
theorem dX6_init_115 : decode cX6_init 115 = .ok (.putfield 50, 3) := by decide +kernel
theorem dX6_init_118 : decode cX6_init 118 = .ok (.aload_n 0, 1) := by decide +kernel
theorem dX6_init_119 : decode cX6_init 119 = .ok (.bipush 100, 2) := by decide +kernel
theorem dX6_init_121 : decode cX6_init 121 = .ok (.newarray .boolean, 2) := by decide +kernel
theorem dX6_init_123 : decode cX6_init 123 = .ok (.putfield 53, 3) := by decide +kernel
theorem dX6_init_126 : decode cX6_init 126 = .ok (.aload_n 0, 1) := by decide +kernel
theorem dX6_init_127 : decode cX6_init 127 = .ok (.sipush 200, 3) := by decide +kernel
theorem dX6_init_130 : decode cX6_init 130 = .ok (.newarray .boolean, 2) := by decide +kernel
theorem dX6_init_132 : decode cX6_init 132 = .ok (.putfield 56, 3) := by decide +kernel
theorem dX6_init_135 : decode cX6_init 135 = .ok (.return_, 1) := by decide +kernel
theorem dX6_thrown_0 : decode cX6_thrown 0 = .ok (.aload_n 0, 1) := by decide +kernel
theorem dX6_thrown_1 : decode cX6_thrown 1 = .ok (.getfield 59, 3) := by decide +kernel
theorem dX6_thrown_4 : decode cX6_thrown 4 = .ok (.ireturn, 1) := by decide +kernel
theorem dX6_isVertex_0 : decode cX6_isVertex 0 = .ok (.iload_n 1, 1) := by decide +kernel
theorem dX6_isVertex_1 : decode cX6_isVertex 1 = .ok (.ifCond .lt 15, 3) := by decide +kernel
theorem dX6_isVertex_4 : decode cX6_isVertex 4 = .ok (.iload_n 1, 1) := by decide +kernel
theorem dX6_isVertex_5 : decode cX6_isVertex 5 = .ok (.aload_n 0, 1) := by decide +kernel
theorem dX6_isVertex_6 : decode cX6_isVertex 6 = .ok (.getfield 63, 3) := by decide +kernel
theorem dX6_isVertex_9 : decode cX6_isVertex 9 = .ok (.if_icmp .ge 7, 3) := by decide +kernel
theorem dX6_isVertex_12 : decode cX6_isVertex 12 = .ok (.iconst 1, 1) := by decide +kernel
theorem dX6_isVertex_13 : decode cX6_isVertex 13 = .ok (.goto 4, 3) := by decide +kernel
theorem dX6_isVertex_16 : decode cX6_isVertex 16 = .ok (.iconst 0, 1) := by decide +kernel
theorem dX6_isVertex_17 : decode cX6_isVertex 17 = .ok (.ireturn, 1) := by decide +kernel
theorem dX6_isEdge_0 : decode cX6_isEdge 0 = .ok (.iload_n 1, 1) := by decide +kernel
theorem dX6_isEdge_1 : decode cX6_isEdge 1 = .ok (.ifCond .lt 24, 3) := by decide +kernel
theorem dX6_isEdge_4 : decode cX6_isEdge 4 = .ok (.iload_n 1, 1) := by decide +kernel
theorem dX6_isEdge_5 : decode cX6_isEdge 5 = .ok (.aload_n 0, 1) := by decide +kernel
theorem dX6_isEdge_6 : decode cX6_isEdge 6 = .ok (.getfield 66, 3) := by decide +kernel
theorem dX6_isEdge_9 : decode cX6_isEdge 9 = .ok (.if_icmp .ge 16, 3) := by decide +kernel
theorem dX6_isEdge_12 : decode cX6_isEdge 12 = .ok (.aload_n 0, 1) := by decide +kernel
theorem dX6_isEdge_13 : decode cX6_isEdge 13 = .ok (.getfield 16, 3) := by decide +kernel
theorem dX6_isEdge_16 : decode cX6_isEdge 16 = .ok (.iload_n 1, 1) := by decide +kernel
theorem dX6_isEdge_17 : decode cX6_isEdge 17 = .ok (.baload, 1) := by decide +kernel
theorem dX6_isEdge_18 : decode cX6_isEdge 18 = .ok (.ifCond .ne 7, 3) := by decide +kernel
theorem dX6_isEdge_21 : decode cX6_isEdge 21 = .ok (.iconst 1, 1) := by decide +kernel
theorem dX6_isEdge_22 : decode cX6_isEdge 22 = .ok (.goto 4, 3) := by decide +kernel
theorem dX6_isEdge_25 : decode cX6_isEdge 25 = .ok (.iconst 0, 1) := by decide +kernel
theorem dX6_isEdge_26 : decode cX6_isEdge 26 = .ok (.ireturn, 1) := by decide +kernel
theorem dX6_far_0 : decode cX6_far 0 = .ok (.aload_n 0, 1) := by decide +kernel
theorem dX6_far_1 : decode cX6_far 1 = .ok (.getfield 7, 3) := by decide +kernel
theorem dX6_far_4 : decode cX6_far 4 = .ok (.iload_n 1, 1) := by decide +kernel
theorem dX6_far_5 : decode cX6_far 5 = .ok (.iaload, 1) := by decide +kernel
theorem dX6_far_6 : decode cX6_far 6 = .ok (.iload_n 2, 1) := by decide +kernel
theorem dX6_far_7 : decode cX6_far 7 = .ok (.if_icmp .ne 12, 3) := by decide +kernel
theorem dX6_far_10 : decode cX6_far 10 = .ok (.aload_n 0, 1) := by decide +kernel
theorem dX6_far_11 : decode cX6_far 11 = .ok (.getfield 13, 3) := by decide +kernel
theorem dX6_far_14 : decode cX6_far 14 = .ok (.iload_n 1, 1) := by decide +kernel
theorem dX6_far_15 : decode cX6_far 15 = .ok (.iaload, 1) := by decide +kernel
theorem dX6_far_16 : decode cX6_far 16 = .ok (.goto 9, 3) := by decide +kernel
theorem dX6_far_19 : decode cX6_far 19 = .ok (.aload_n 0, 1) := by decide +kernel
theorem dX6_far_20 : decode cX6_far 20 = .ok (.getfield 7, 3) := by decide +kernel
theorem dX6_far_23 : decode cX6_far 23 = .ok (.iload_n 1, 1) := by decide +kernel
theorem dX6_far_24 : decode cX6_far 24 = .ok (.iaload, 1) := by decide +kernel
theorem dX6_far_25 : decode cX6_far 25 = .ok (.ireturn, 1) := by decide +kernel
theorem dX6_placeOf_0 : decode cX6_placeOf 0 = .ok (.iconst 0, 1) := by decide +kernel
theorem dX6_placeOf_1 : decode cX6_placeOf 1 = .ok (.istore_n 3, 1) := by decide +kernel
theorem dX6_placeOf_2 : decode cX6_placeOf 2 = .ok (.iload_n 3, 1) := by decide +kernel
theorem dX6_placeOf_3 : decode cX6_placeOf 3 = .ok (.aload_n 0, 1) := by decide +kernel
theorem dX6_placeOf_4 : decode cX6_placeOf 4 = .ok (.getfield 23, 3) := by decide +kernel
theorem dX6_placeOf_7 : decode cX6_placeOf 7 = .ok (.iload_n 1, 1) := by decide +kernel
theorem dX6_placeOf_8 : decode cX6_placeOf 8 = .ok (.iaload, 1) := by decide +kernel
theorem dX6_placeOf_9 : decode cX6_placeOf 9 = .ok (.if_icmp .ge 26, 3) := by decide +kernel
theorem dX6_placeOf_12 : decode cX6_placeOf 12 = .ok (.aload_n 0, 1) := by decide +kernel
theorem dX6_placeOf_13 : decode cX6_placeOf 13 = .ok (.getfield 20, 3) := by decide +kernel
theorem dX6_placeOf_16 : decode cX6_placeOf 16 = .ok (.bipush 30, 2) := by decide +kernel
theorem dX6_placeOf_18 : decode cX6_placeOf 18 = .ok (.iload_n 1, 1) := by decide +kernel
theorem dX6_placeOf_19 : decode cX6_placeOf 19 = .ok (.imul, 1) := by decide +kernel
theorem dX6_placeOf_20 : decode cX6_placeOf 20 = .ok (.iload_n 3, 1) := by decide +kernel
theorem dX6_placeOf_21 : decode cX6_placeOf 21 = .ok (.iadd, 1) := by decide +kernel
theorem dX6_placeOf_22 : decode cX6_placeOf 22 = .ok (.iaload, 1) := by decide +kernel
theorem dX6_placeOf_23 : decode cX6_placeOf 23 = .ok (.iload_n 2, 1) := by decide +kernel
theorem dX6_placeOf_24 : decode cX6_placeOf 24 = .ok (.if_icmp .ne 5, 3) := by decide +kernel
theorem dX6_placeOf_27 : decode cX6_placeOf 27 = .ok (.iload_n 3, 1) := by decide +kernel
theorem dX6_placeOf_28 : decode cX6_placeOf 28 = .ok (.ireturn, 1) := by decide +kernel
theorem dX6_placeOf_29 : decode cX6_placeOf 29 = .ok (.iinc 3 1, 3) := by decide +kernel
theorem dX6_placeOf_32 : decode cX6_placeOf 32 = .ok (.goto (-30), 3) := by decide +kernel
theorem dX6_placeOf_35 : decode cX6_placeOf 35 = .ok (.iconst (-1), 1) := by decide +kernel
theorem dX6_placeOf_36 : decode cX6_placeOf 36 = .ok (.ireturn, 1) := by decide +kernel
theorem dX6_between_0 : decode cX6_between 0 = .ok (.iconst 0, 1) := by decide +kernel
theorem dX6_between_1 : decode cX6_between 1 = .ok (.istore_n 3, 1) := by decide +kernel
theorem dX6_between_2 : decode cX6_between 2 = .ok (.iload_n 3, 1) := by decide +kernel
theorem dX6_between_3 : decode cX6_between 3 = .ok (.aload_n 0, 1) := by decide +kernel
theorem dX6_between_4 : decode cX6_between 4 = .ok (.getfield 23, 3) := by decide +kernel
theorem dX6_between_7 : decode cX6_between 7 = .ok (.iload_n 1, 1) := by decide +kernel
theorem dX6_between_8 : decode cX6_between 8 = .ok (.iaload, 1) := by decide +kernel
theorem dX6_between_9 : decode cX6_between 9 = .ok (.if_icmp .ge 41, 3) := by decide +kernel
theorem dX6_between_12 : decode cX6_between 12 = .ok (.aload_n 0, 1) := by decide +kernel
theorem dX6_between_13 : decode cX6_between 13 = .ok (.aload_n 0, 1) := by decide +kernel
theorem dX6_between_14 : decode cX6_between 14 = .ok (.getfield 20, 3) := by decide +kernel
theorem dX6_between_17 : decode cX6_between 17 = .ok (.bipush 30, 2) := by decide +kernel
theorem dX6_between_19 : decode cX6_between 19 = .ok (.iload_n 1, 1) := by decide +kernel
theorem dX6_between_20 : decode cX6_between 20 = .ok (.imul, 1) := by decide +kernel
theorem dX6_between_21 : decode cX6_between 21 = .ok (.iload_n 3, 1) := by decide +kernel
theorem dX6_between_22 : decode cX6_between 22 = .ok (.iadd, 1) := by decide +kernel
theorem dX6_between_23 : decode cX6_between 23 = .ok (.iaload, 1) := by decide +kernel
theorem dX6_between_24 : decode cX6_between 24 = .ok (.iload_n 1, 1) := by decide +kernel
theorem dX6_between_25 : decode cX6_between 25 = .ok (.invokevirtual 69, 3) := by decide +kernel
theorem dX6_between_28 : decode cX6_between 28 = .ok (.iload_n 2, 1) := by decide +kernel
theorem dX6_between_29 : decode cX6_between 29 = .ok (.if_icmp .ne 15, 3) := by decide +kernel
theorem dX6_between_32 : decode cX6_between 32 = .ok (.aload_n 0, 1) := by decide +kernel
theorem dX6_between_33 : decode cX6_between 33 = .ok (.getfield 20, 3) := by decide +kernel
theorem dX6_between_36 : decode cX6_between 36 = .ok (.bipush 30, 2) := by decide +kernel
theorem dX6_between_38 : decode cX6_between 38 = .ok (.iload_n 1, 1) := by decide +kernel
theorem dX6_between_39 : decode cX6_between 39 = .ok (.imul, 1) := by decide +kernel
theorem dX6_between_40 : decode cX6_between 40 = .ok (.iload_n 3, 1) := by decide +kernel
theorem dX6_between_41 : decode cX6_between 41 = .ok (.iadd, 1) := by decide +kernel
theorem dX6_between_42 : decode cX6_between 42 = .ok (.iaload, 1) := by decide +kernel
theorem dX6_between_43 : decode cX6_between 43 = .ok (.ireturn, 1) := by decide +kernel
theorem dX6_between_44 : decode cX6_between 44 = .ok (.iinc 3 1, 3) := by decide +kernel
theorem dX6_between_47 : decode cX6_between 47 = .ok (.goto (-45), 3) := by decide +kernel
theorem dX6_between_50 : decode cX6_between 50 = .ok (.iconst (-1), 1) := by decide +kernel
theorem dX6_between_51 : decode cX6_between 51 = .ok (.ireturn, 1) := by decide +kernel
theorem dX6_forget_0 : decode cX6_forget 0 = .ok (.aload_n 0, 1) := by decide +kernel
theorem dX6_forget_1 : decode cX6_forget 1 = .ok (.iconst 0, 1) := by decide +kernel
theorem dX6_forget_2 : decode cX6_forget 2 = .ok (.putfield 73, 3) := by decide +kernel
theorem dX6_forget_5 : decode cX6_forget 5 = .ok (.iconst 0, 1) := by decide +kernel
theorem dX6_forget_6 : decode cX6_forget 6 = .ok (.istore_n 1, 1) := by decide +kernel
theorem dX6_forget_7 : decode cX6_forget 7 = .ok (.iload_n 1, 1) := by decide +kernel
theorem dX6_forget_8 : decode cX6_forget 8 = .ok (.bipush 30, 2) := by decide +kernel
theorem dX6_forget_10 : decode cX6_forget 10 = .ok (.if_icmp .ge 16, 3) := by decide +kernel
theorem dX6_forget_13 : decode cX6_forget 13 = .ok (.aload_n 0, 1) := by decide +kernel
theorem dX6_forget_14 : decode cX6_forget 14 = .ok (.getfield 26, 3) := by decide +kernel
theorem dX6_forget_17 : decode cX6_forget 17 = .ok (.iload_n 1, 1) := by decide +kernel
theorem dX6_forget_18 : decode cX6_forget 18 = .ok (.iconst 0, 1) := by decide +kernel
theorem dX6_forget_19 : decode cX6_forget 19 = .ok (.iastore, 1) := by decide +kernel
theorem dX6_forget_20 : decode cX6_forget 20 = .ok (.iinc 1 1, 3) := by decide +kernel
theorem dX6_forget_23 : decode cX6_forget 23 = .ok (.goto (-16), 3) := by decide +kernel
theorem dX6_forget_26 : decode cX6_forget 26 = .ok (.return_, 1) := by decide +kernel
theorem dX6_vertex_0 : decode cX6_vertex 0 = .ok (.aload_n 0, 1) := by decide +kernel
theorem dX6_vertex_1 : decode cX6_vertex 1 = .ok (.aload_n 0, 1) := by decide +kernel
theorem dX6_vertex_2 : decode cX6_vertex 2 = .ok (.getfield 63, 3) := by decide +kernel
theorem dX6_vertex_5 : decode cX6_vertex 5 = .ok (.bipush 30, 2) := by decide +kernel
theorem dX6_vertex_7 : decode cX6_vertex 7 = .ok (.if_icmp .ne 7, 3) := by decide +kernel
theorem dX6_vertex_10 : decode cX6_vertex 10 = .ok (.iconst 1, 1) := by decide +kernel
theorem dX6_vertex_11 : decode cX6_vertex 11 = .ok (.goto 4, 3) := by decide +kernel
theorem dX6_vertex_14 : decode cX6_vertex 14 = .ok (.iconst 0, 1) := by decide +kernel
theorem dX6_vertex_15 : decode cX6_vertex 15 = .ok (.putfield 59, 3) := by decide +kernel
theorem dX6_vertex_18 : decode cX6_vertex 18 = .ok (.aload_n 0, 1) := by decide +kernel
theorem dX6_vertex_19 : decode cX6_vertex 19 = .ok (.getfield 59, 3) := by decide +kernel
theorem dX6_vertex_22 : decode cX6_vertex 22 = .ok (.ifCond .le 5, 3) := by decide +kernel
theorem dX6_vertex_25 : decode cX6_vertex 25 = .ok (.iconst 0, 1) := by decide +kernel
theorem dX6_vertex_26 : decode cX6_vertex 26 = .ok (.ireturn, 1) := by decide +kernel
theorem dX6_vertex_27 : decode cX6_vertex 27 = .ok (.aload_n 0, 1) := by decide +kernel
theorem dX6_vertex_28 : decode cX6_vertex 28 = .ok (.getfield 23, 3) := by decide +kernel
theorem dX6_vertex_31 : decode cX6_vertex 31 = .ok (.aload_n 0, 1) := by decide +kernel
theorem dX6_vertex_32 : decode cX6_vertex 32 = .ok (.getfield 63, 3) := by decide +kernel
theorem dX6_vertex_35 : decode cX6_vertex 35 = .ok (.iconst 0, 1) := by decide +kernel
theorem dX6_vertex_36 : decode cX6_vertex 36 = .ok (.iastore, 1) := by decide +kernel
theorem dX6_vertex_37 : decode cX6_vertex 37 = .ok (.aload_n 0, 1) := by decide +kernel
theorem dX6_vertex_38 : decode cX6_vertex 38 = .ok (.getfield 26, 3) := by decide +kernel
theorem dX6_vertex_41 : decode cX6_vertex 41 = .ok (.aload_n 0, 1) := by decide +kernel
theorem dX6_vertex_42 : decode cX6_vertex 42 = .ok (.getfield 63, 3) := by decide +kernel
theorem dX6_vertex_45 : decode cX6_vertex 45 = .ok (.iconst 0, 1) := by decide +kernel
theorem dX6_vertex_46 : decode cX6_vertex 46 = .ok (.iastore, 1) := by decide +kernel
theorem dX6_vertex_47 : decode cX6_vertex 47 = .ok (.aload_n 0, 1) := by decide +kernel
theorem dX6_vertex_48 : decode cX6_vertex 48 = .ok (.dup, 1) := by decide +kernel
theorem dX6_vertex_49 : decode cX6_vertex 49 = .ok (.getfield 63, 3) := by decide +kernel
theorem dX6_vertex_52 : decode cX6_vertex 52 = .ok (.iconst 1, 1) := by decide +kernel
theorem dX6_vertex_53 : decode cX6_vertex 53 = .ok (.iadd, 1) := by decide +kernel
theorem dX6_vertex_54 : decode cX6_vertex 54 = .ok (.putfield 63, 3) := by decide +kernel
theorem dX6_vertex_57 : decode cX6_vertex 57 = .ok (.aload_n 0, 1) := by decide +kernel
theorem dX6_vertex_58 : decode cX6_vertex 58 = .ok (.getfield 63, 3) := by decide +kernel
theorem dX6_vertex_61 : decode cX6_vertex 61 = .ok (.iconst 1, 1) := by decide +kernel
theorem dX6_vertex_62 : decode cX6_vertex 62 = .ok (.isub, 1) := by decide +kernel
theorem dX6_vertex_63 : decode cX6_vertex 63 = .ok (.ireturn, 1) := by decide +kernel
theorem dX6_isRound_0 : decode cX6_isRound 0 = .ok (.iload_n 2, 1) := by decide +kernel
theorem dX6_isRound_1 : decode cX6_isRound 1 = .ok (.iconst (-1), 1) := by decide +kernel
theorem dX6_isRound_2 : decode cX6_isRound 2 = .ok (.if_icmp .eq 12, 3) := by decide +kernel
theorem dX6_isRound_5 : decode cX6_isRound 5 = .ok (.aload_n 0, 1) := by decide +kernel
theorem dX6_isRound_6 : decode cX6_isRound 6 = .ok (.iload_n 1, 1) := by decide +kernel
theorem dX6_isRound_7 : decode cX6_isRound 7 = .ok (.iload_n 2, 1) := by decide +kernel
theorem dX6_isRound_8 : decode cX6_isRound 8 = .ok (.invokevirtual 76, 3) := by decide +kernel
theorem dX6_isRound_11 : decode cX6_isRound 11 = .ok (.ifCond .lt 7, 3) := by decide +kernel
theorem dX6_isRound_14 : decode cX6_isRound 14 = .ok (.iconst 1, 1) := by decide +kernel
theorem dX6_isRound_15 : decode cX6_isRound 15 = .ok (.goto 4, 3) := by decide +kernel
theorem dX6_isRound_18 : decode cX6_isRound 18 = .ok (.iconst 0, 1) := by decide +kernel
theorem dX6_isRound_19 : decode cX6_isRound 19 = .ok (.ireturn, 1) := by decide +kernel
theorem dX6_insert_0 : decode cX6_insert 0 = .ok (.iload_n 3, 1) := by decide +kernel
theorem dX6_insert_1 : decode cX6_insert 1 = .ok (.iconst (-1), 1) := by decide +kernel
theorem dX6_insert_2 : decode cX6_insert 2 = .ok (.if_icmp .ne 12, 3) := by decide +kernel
theorem dX6_insert_5 : decode cX6_insert 5 = .ok (.aload_n 0, 1) := by decide +kernel
theorem dX6_insert_6 : decode cX6_insert 6 = .ok (.getfield 23, 3) := by decide +kernel
theorem dX6_insert_9 : decode cX6_insert 9 = .ok (.iload_n 1, 1) := by decide +kernel
theorem dX6_insert_10 : decode cX6_insert 10 = .ok (.iaload, 1) := by decide +kernel
theorem dX6_insert_11 : decode cX6_insert 11 = .ok (.goto 11, 3) := by decide +kernel
theorem dX6_insert_14 : decode cX6_insert 14 = .ok (.aload_n 0, 1) := by decide +kernel
theorem dX6_insert_15 : decode cX6_insert 15 = .ok (.iload_n 1, 1) := by decide +kernel
theorem dX6_insert_16 : decode cX6_insert 16 = .ok (.iload_n 3, 1) := by decide +kernel
theorem dX6_insert_17 : decode cX6_insert 17 = .ok (.invokevirtual 76, 3) := by decide +kernel
theorem dX6_insert_20 : decode cX6_insert 20 = .ok (.iconst 1, 1) := by decide +kernel
theorem dX6_insert_21 : decode cX6_insert 21 = .ok (.iadd, 1) := by decide +kernel
theorem dX6_insert_22 : decode cX6_insert 22 = .ok (.istore 4, 2) := by decide +kernel
theorem dX6_insert_24 : decode cX6_insert 24 = .ok (.aload_n 0, 1) := by decide +kernel
theorem dX6_insert_25 : decode cX6_insert 25 = .ok (.getfield 23, 3) := by decide +kernel
theorem dX6_insert_28 : decode cX6_insert 28 = .ok (.iload_n 1, 1) := by decide +kernel
theorem dX6_insert_29 : decode cX6_insert 29 = .ok (.iaload, 1) := by decide +kernel
theorem dX6_insert_30 : decode cX6_insert 30 = .ok (.istore 5, 2) := by decide +kernel
theorem dX6_insert_32 : decode cX6_insert 32 = .ok (.iload 5, 2) := by decide +kernel
theorem dX6_insert_34 : decode cX6_insert 34 = .ok (.iload 4, 2) := by decide +kernel
theorem dX6_insert_36 : decode cX6_insert 36 = .ok (.if_icmp .le 35, 3) := by decide +kernel
theorem dX6_insert_39 : decode cX6_insert 39 = .ok (.aload_n 0, 1) := by decide +kernel
theorem dX6_insert_40 : decode cX6_insert 40 = .ok (.getfield 20, 3) := by decide +kernel
theorem dX6_insert_43 : decode cX6_insert 43 = .ok (.bipush 30, 2) := by decide +kernel
theorem dX6_insert_45 : decode cX6_insert 45 = .ok (.iload_n 1, 1) := by decide +kernel
theorem dX6_insert_46 : decode cX6_insert 46 = .ok (.imul, 1) := by decide +kernel
theorem dX6_insert_47 : decode cX6_insert 47 = .ok (.iload 5, 2) := by decide +kernel
theorem dX6_insert_49 : decode cX6_insert 49 = .ok (.iadd, 1) := by decide +kernel
theorem dX6_insert_50 : decode cX6_insert 50 = .ok (.aload_n 0, 1) := by decide +kernel
theorem dX6_insert_51 : decode cX6_insert 51 = .ok (.getfield 20, 3) := by decide +kernel
theorem dX6_insert_54 : decode cX6_insert 54 = .ok (.bipush 30, 2) := by decide +kernel
theorem dX6_insert_56 : decode cX6_insert 56 = .ok (.iload_n 1, 1) := by decide +kernel
theorem dX6_insert_57 : decode cX6_insert 57 = .ok (.imul, 1) := by decide +kernel
theorem dX6_insert_58 : decode cX6_insert 58 = .ok (.iload 5, 2) := by decide +kernel
theorem dX6_insert_60 : decode cX6_insert 60 = .ok (.iadd, 1) := by decide +kernel
theorem dX6_insert_61 : decode cX6_insert 61 = .ok (.iconst 1, 1) := by decide +kernel
theorem dX6_insert_62 : decode cX6_insert 62 = .ok (.isub, 1) := by decide +kernel
theorem dX6_insert_63 : decode cX6_insert 63 = .ok (.iaload, 1) := by decide +kernel
theorem dX6_insert_64 : decode cX6_insert 64 = .ok (.iastore, 1) := by decide +kernel
theorem dX6_insert_65 : decode cX6_insert 65 = .ok (.iinc 5 (-1), 3) := by decide +kernel
theorem dX6_insert_68 : decode cX6_insert 68 = .ok (.goto (-36), 3) := by decide +kernel
theorem dX6_insert_71 : decode cX6_insert 71 = .ok (.aload_n 0, 1) := by decide +kernel
theorem dX6_insert_72 : decode cX6_insert 72 = .ok (.getfield 20, 3) := by decide +kernel
theorem dX6_insert_75 : decode cX6_insert 75 = .ok (.bipush 30, 2) := by decide +kernel
theorem dX6_insert_77 : decode cX6_insert 77 = .ok (.iload_n 1, 1) := by decide +kernel
theorem dX6_insert_78 : decode cX6_insert 78 = .ok (.imul, 1) := by decide +kernel
theorem dX6_insert_79 : decode cX6_insert 79 = .ok (.iload 4, 2) := by decide +kernel
theorem dX6_insert_81 : decode cX6_insert 81 = .ok (.iadd, 1) := by decide +kernel
theorem dX6_insert_82 : decode cX6_insert 82 = .ok (.iload_n 2, 1) := by decide +kernel
theorem dX6_insert_83 : decode cX6_insert 83 = .ok (.iastore, 1) := by decide +kernel
theorem dX6_insert_84 : decode cX6_insert 84 = .ok (.aload_n 0, 1) := by decide +kernel
theorem dX6_insert_85 : decode cX6_insert 85 = .ok (.getfield 23, 3) := by decide +kernel
theorem dX6_insert_88 : decode cX6_insert 88 = .ok (.iload_n 1, 1) := by decide +kernel
theorem dX6_insert_89 : decode cX6_insert 89 = .ok (.dup2, 1) := by decide +kernel
theorem dX6_insert_90 : decode cX6_insert 90 = .ok (.iaload, 1) := by decide +kernel
theorem dX6_insert_91 : decode cX6_insert 91 = .ok (.iconst 1, 1) := by decide +kernel
theorem dX6_insert_92 : decode cX6_insert 92 = .ok (.iadd, 1) := by decide +kernel
theorem dX6_insert_93 : decode cX6_insert 93 = .ok (.iastore, 1) := by decide +kernel
theorem dX6_insert_94 : decode cX6_insert 94 = .ok (.return_, 1) := by decide +kernel
theorem dX6_edge_0 : decode cX6_edge 0 = .ok (.aload_n 0, 1) := by decide +kernel
theorem dX6_edge_1 : decode cX6_edge 1 = .ok (.iload_n 1, 1) := by decide +kernel
theorem dX6_edge_2 : decode cX6_edge 2 = .ok (.invokevirtual 79, 3) := by decide +kernel
theorem dX6_edge_5 : decode cX6_edge 5 = .ok (.ifCond .eq 43, 3) := by decide +kernel
theorem dX6_edge_8 : decode cX6_edge 8 = .ok (.aload_n 0, 1) := by decide +kernel
theorem dX6_edge_9 : decode cX6_edge 9 = .ok (.iload_n 2, 1) := by decide +kernel
theorem dX6_edge_10 : decode cX6_edge 10 = .ok (.invokevirtual 79, 3) := by decide +kernel
theorem dX6_edge_13 : decode cX6_edge 13 = .ok (.ifCond .eq 35, 3) := by decide +kernel
theorem dX6_edge_16 : decode cX6_edge 16 = .ok (.iload_n 3, 1) := by decide +kernel
theorem dX6_edge_17 : decode cX6_edge 17 = .ok (.iconst (-1), 1) := by decide +kernel
theorem dX6_edge_18 : decode cX6_edge 18 = .ok (.if_icmp .eq 11, 3) := by decide +kernel
theorem dX6_edge_21 : decode cX6_edge 21 = .ok (.aload_n 0, 1) := by decide +kernel
theorem dX6_edge_22 : decode cX6_edge 22 = .ok (.iload_n 3, 1) := by decide +kernel
theorem dX6_edge_23 : decode cX6_edge 23 = .ok (.invokevirtual 83, 3) := by decide +kernel
theorem dX6_edge_26 : decode cX6_edge 26 = .ok (.ifCond .eq 22, 3) := by decide +kernel
theorem dX6_edge_29 : decode cX6_edge 29 = .ok (.iload 4, 2) := by decide +kernel
theorem dX6_edge_31 : decode cX6_edge 31 = .ok (.iconst (-1), 1) := by decide +kernel
theorem dX6_edge_32 : decode cX6_edge 32 = .ok (.if_icmp .eq 12, 3) := by decide +kernel
theorem dX6_edge_35 : decode cX6_edge 35 = .ok (.aload_n 0, 1) := by decide +kernel
theorem dX6_edge_36 : decode cX6_edge 36 = .ok (.iload 4, 2) := by decide +kernel
theorem dX6_edge_38 : decode cX6_edge 38 = .ok (.invokevirtual 83, 3) := by decide +kernel
theorem dX6_edge_41 : decode cX6_edge 41 = .ok (.ifCond .eq 7, 3) := by decide +kernel
theorem dX6_edge_44 : decode cX6_edge 44 = .ok (.iconst 1, 1) := by decide +kernel
theorem dX6_edge_45 : decode cX6_edge 45 = .ok (.goto 4, 3) := by decide +kernel
theorem dX6_edge_48 : decode cX6_edge 48 = .ok (.iconst 0, 1) := by decide +kernel
theorem dX6_edge_49 : decode cX6_edge 49 = .ok (.istore 5, 2) := by decide +kernel
theorem dX6_edge_51 : decode cX6_edge 51 = .ok (.aload_n 0, 1) := by decide +kernel
theorem dX6_edge_52 : decode cX6_edge 52 = .ok (.iload 5, 2) := by decide +kernel
theorem dX6_edge_54 : decode cX6_edge 54 = .ok (.ifCond .ne 7, 3) := by decide +kernel
theorem dX6_edge_57 : decode cX6_edge 57 = .ok (.iconst 1, 1) := by decide +kernel
theorem dX6_edge_58 : decode cX6_edge 58 = .ok (.goto 54, 3) := by decide +kernel
theorem dX6_edge_61 : decode cX6_edge 61 = .ok (.iload_n 1, 1) := by decide +kernel
theorem dX6_edge_62 : decode cX6_edge 62 = .ok (.iload_n 2, 1) := by decide +kernel
theorem dX6_edge_63 : decode cX6_edge 63 = .ok (.if_icmp .eq 31, 3) := by decide +kernel
theorem dX6_edge_66 : decode cX6_edge 66 = .ok (.aload_n 0, 1) := by decide +kernel
theorem dX6_edge_67 : decode cX6_edge 67 = .ok (.iload_n 1, 1) := by decide +kernel
theorem dX6_edge_68 : decode cX6_edge 68 = .ok (.iload_n 2, 1) := by decide +kernel
theorem dX6_edge_69 : decode cX6_edge 69 = .ok (.invokevirtual 86, 3) := by decide +kernel
theorem dX6_edge_72 : decode cX6_edge 72 = .ok (.ifCond .ge 22, 3) := by decide +kernel
theorem dX6_edge_75 : decode cX6_edge 75 = .ok (.aload_n 0, 1) := by decide +kernel
theorem dX6_edge_76 : decode cX6_edge 76 = .ok (.iload_n 1, 1) := by decide +kernel
theorem dX6_edge_77 : decode cX6_edge 77 = .ok (.iload_n 3, 1) := by decide +kernel
theorem dX6_edge_78 : decode cX6_edge 78 = .ok (.invokevirtual 89, 3) := by decide +kernel
theorem dX6_edge_81 : decode cX6_edge 81 = .ok (.ifCond .eq 13, 3) := by decide +kernel
theorem dX6_edge_84 : decode cX6_edge 84 = .ok (.aload_n 0, 1) := by decide +kernel
theorem dX6_edge_85 : decode cX6_edge 85 = .ok (.iload_n 2, 1) := by decide +kernel
theorem dX6_edge_86 : decode cX6_edge 86 = .ok (.iload 4, 2) := by decide +kernel
theorem dX6_edge_88 : decode cX6_edge 88 = .ok (.invokevirtual 89, 3) := by decide +kernel
theorem dX6_edge_91 : decode cX6_edge 91 = .ok (.ifCond .ne 7, 3) := by decide +kernel
theorem dX6_edge_94 : decode cX6_edge 94 = .ok (.iconst 2, 1) := by decide +kernel
theorem dX6_edge_95 : decode cX6_edge 95 = .ok (.goto 17, 3) := by decide +kernel
theorem dX6_edge_98 : decode cX6_edge 98 = .ok (.aload_n 0, 1) := by decide +kernel
theorem dX6_edge_99 : decode cX6_edge 99 = .ok (.getfield 66, 3) := by decide +kernel
theorem dX6_edge_102 : decode cX6_edge 102 = .ok (.bipush 100, 2) := by decide +kernel
theorem dX6_edge_104 : decode cX6_edge 104 = .ok (.if_icmp .ne 7, 3) := by decide +kernel
theorem dX6_edge_107 : decode cX6_edge 107 = .ok (.iconst 3, 1) := by decide +kernel
theorem dX6_edge_108 : decode cX6_edge 108 = .ok (.goto 4, 3) := by decide +kernel
theorem dX6_edge_111 : decode cX6_edge 111 = .ok (.iconst 0, 1) := by decide +kernel
theorem dX6_edge_112 : decode cX6_edge 112 = .ok (.putfield 59, 3) := by decide +kernel
theorem dX6_edge_115 : decode cX6_edge 115 = .ok (.aload_n 0, 1) := by decide +kernel
theorem dX6_edge_116 : decode cX6_edge 116 = .ok (.getfield 59, 3) := by decide +kernel
theorem dX6_edge_119 : decode cX6_edge 119 = .ok (.ifCond .le 5, 3) := by decide +kernel
theorem dX6_edge_122 : decode cX6_edge 122 = .ok (.iconst 0, 1) := by decide +kernel
theorem dX6_edge_123 : decode cX6_edge 123 = .ok (.ireturn, 1) := by decide +kernel
theorem dX6_edge_124 : decode cX6_edge 124 = .ok (.aload_n 0, 1) := by decide +kernel
theorem dX6_edge_125 : decode cX6_edge 125 = .ok (.getfield 7, 3) := by decide +kernel
theorem dX6_edge_128 : decode cX6_edge 128 = .ok (.aload_n 0, 1) := by decide +kernel
theorem dX6_edge_129 : decode cX6_edge 129 = .ok (.getfield 66, 3) := by decide +kernel
theorem dX6_edge_132 : decode cX6_edge 132 = .ok (.iload_n 1, 1) := by decide +kernel
theorem dX6_edge_133 : decode cX6_edge 133 = .ok (.iastore, 1) := by decide +kernel
theorem dX6_edge_134 : decode cX6_edge 134 = .ok (.aload_n 0, 1) := by decide +kernel
theorem dX6_edge_135 : decode cX6_edge 135 = .ok (.getfield 13, 3) := by decide +kernel
theorem dX6_edge_138 : decode cX6_edge 138 = .ok (.aload_n 0, 1) := by decide +kernel
theorem dX6_edge_139 : decode cX6_edge 139 = .ok (.getfield 66, 3) := by decide +kernel
theorem dX6_edge_142 : decode cX6_edge 142 = .ok (.iload_n 2, 1) := by decide +kernel
theorem dX6_edge_143 : decode cX6_edge 143 = .ok (.iastore, 1) := by decide +kernel
theorem dX6_edge_144 : decode cX6_edge 144 = .ok (.aload_n 0, 1) := by decide +kernel
theorem dX6_edge_145 : decode cX6_edge 145 = .ok (.getfield 16, 3) := by decide +kernel
theorem dX6_edge_148 : decode cX6_edge 148 = .ok (.aload_n 0, 1) := by decide +kernel
theorem dX6_edge_149 : decode cX6_edge 149 = .ok (.getfield 66, 3) := by decide +kernel
theorem dX6_edge_152 : decode cX6_edge 152 = .ok (.iconst 0, 1) := by decide +kernel
theorem dX6_edge_153 : decode cX6_edge 153 = .ok (.bastore, 1) := by decide +kernel
theorem dX6_edge_154 : decode cX6_edge 154 = .ok (.aload_n 0, 1) := by decide +kernel
theorem dX6_edge_155 : decode cX6_edge 155 = .ok (.iload_n 1, 1) := by decide +kernel
theorem dX6_edge_156 : decode cX6_edge 156 = .ok (.aload_n 0, 1) := by decide +kernel
theorem dX6_edge_157 : decode cX6_edge 157 = .ok (.getfield 66, 3) := by decide +kernel
theorem dX6_edge_160 : decode cX6_edge 160 = .ok (.iload_n 3, 1) := by decide +kernel
theorem dX6_edge_161 : decode cX6_edge 161 = .ok (.invokevirtual 93, 3) := by decide +kernel
theorem dX6_edge_164 : decode cX6_edge 164 = .ok (.aload_n 0, 1) := by decide +kernel
theorem dX6_edge_165 : decode cX6_edge 165 = .ok (.iload_n 2, 1) := by decide +kernel
theorem dX6_edge_166 : decode cX6_edge 166 = .ok (.aload_n 0, 1) := by decide +kernel
theorem dX6_edge_167 : decode cX6_edge 167 = .ok (.getfield 66, 3) := by decide +kernel
theorem dX6_edge_170 : decode cX6_edge 170 = .ok (.iload 4, 2) := by decide +kernel
theorem dX6_edge_172 : decode cX6_edge 172 = .ok (.invokevirtual 93, 3) := by decide +kernel
theorem dX6_edge_175 : decode cX6_edge 175 = .ok (.aload_n 0, 1) := by decide +kernel
theorem dX6_edge_176 : decode cX6_edge 176 = .ok (.dup, 1) := by decide +kernel
theorem dX6_edge_177 : decode cX6_edge 177 = .ok (.getfield 66, 3) := by decide +kernel
theorem dX6_edge_180 : decode cX6_edge 180 = .ok (.iconst 1, 1) := by decide +kernel
theorem dX6_edge_181 : decode cX6_edge 181 = .ok (.iadd, 1) := by decide +kernel
theorem dX6_edge_182 : decode cX6_edge 182 = .ok (.putfield 66, 3) := by decide +kernel
theorem dX6_edge_185 : decode cX6_edge 185 = .ok (.aload_n 0, 1) := by decide +kernel
theorem dX6_edge_186 : decode cX6_edge 186 = .ok (.dup, 1) := by decide +kernel
theorem dX6_edge_187 : decode cX6_edge 187 = .ok (.getfield 97, 3) := by decide +kernel
theorem dX6_edge_190 : decode cX6_edge 190 = .ok (.iconst 1, 1) := by decide +kernel
theorem dX6_edge_191 : decode cX6_edge 191 = .ok (.iadd, 1) := by decide +kernel
theorem dX6_edge_192 : decode cX6_edge 192 = .ok (.putfield 97, 3) := by decide +kernel
theorem dX6_edge_195 : decode cX6_edge 195 = .ok (.aload_n 0, 1) := by decide +kernel
theorem dX6_edge_196 : decode cX6_edge 196 = .ok (.invokevirtual 100, 3) := by decide +kernel
theorem dX6_edge_199 : decode cX6_edge 199 = .ok (.aload_n 0, 1) := by decide +kernel
theorem dX6_edge_200 : decode cX6_edge 200 = .ok (.getfield 66, 3) := by decide +kernel
theorem dX6_edge_203 : decode cX6_edge 203 = .ok (.iconst 1, 1) := by decide +kernel
theorem dX6_edge_204 : decode cX6_edge 204 = .ok (.isub, 1) := by decide +kernel
theorem dX6_edge_205 : decode cX6_edge 205 = .ok (.ireturn, 1) := by decide +kernel
theorem dX6_take_0 : decode cX6_take 0 = .ok (.aload_n 0, 1) := by decide +kernel
theorem dX6_take_1 : decode cX6_take 1 = .ok (.getfield 23, 3) := by decide +kernel
theorem dX6_take_4 : decode cX6_take 4 = .ok (.iload_n 1, 1) := by decide +kernel
theorem dX6_take_5 : decode cX6_take 5 = .ok (.dup2, 1) := by decide +kernel
theorem dX6_take_6 : decode cX6_take 6 = .ok (.iaload, 1) := by decide +kernel
theorem dX6_take_7 : decode cX6_take 7 = .ok (.iconst 1, 1) := by decide +kernel
theorem dX6_take_8 : decode cX6_take 8 = .ok (.isub, 1) := by decide +kernel
theorem dX6_take_9 : decode cX6_take 9 = .ok (.iastore, 1) := by decide +kernel
theorem dX6_take_10 : decode cX6_take 10 = .ok (.aload_n 0, 1) := by decide +kernel
theorem dX6_take_11 : decode cX6_take 11 = .ok (.iload_n 1, 1) := by decide +kernel
theorem dX6_take_12 : decode cX6_take 12 = .ok (.iload_n 2, 1) := by decide +kernel
theorem dX6_take_13 : decode cX6_take 13 = .ok (.invokevirtual 76, 3) := by decide +kernel
theorem dX6_take_16 : decode cX6_take 16 = .ok (.ifCond .lt 12, 3) := by decide +kernel
theorem dX6_take_19 : decode cX6_take 19 = .ok (.aload_n 0, 1) := by decide +kernel
theorem dX6_take_20 : decode cX6_take 20 = .ok (.iload_n 1, 1) := by decide +kernel
theorem dX6_take_21 : decode cX6_take 21 = .ok (.iload_n 2, 1) := by decide +kernel
theorem dX6_take_22 : decode cX6_take 22 = .ok (.invokevirtual 76, 3) := by decide +kernel
theorem dX6_take_25 : decode cX6_take 25 = .ok (.goto 9, 3) := by decide +kernel
theorem dX6_take_28 : decode cX6_take 28 = .ok (.aload_n 0, 1) := by decide +kernel
theorem dX6_take_29 : decode cX6_take 29 = .ok (.getfield 23, 3) := by decide +kernel
theorem dX6_take_32 : decode cX6_take 32 = .ok (.iload_n 1, 1) := by decide +kernel
theorem dX6_take_33 : decode cX6_take 33 = .ok (.iaload, 1) := by decide +kernel
theorem dX6_take_34 : decode cX6_take 34 = .ok (.istore_n 3, 1) := by decide +kernel
theorem dX6_take_35 : decode cX6_take 35 = .ok (.iload_n 3, 1) := by decide +kernel
theorem dX6_take_36 : decode cX6_take 36 = .ok (.aload_n 0, 1) := by decide +kernel
theorem dX6_take_37 : decode cX6_take 37 = .ok (.getfield 23, 3) := by decide +kernel
theorem dX6_take_40 : decode cX6_take 40 = .ok (.iload_n 1, 1) := by decide +kernel
theorem dX6_take_41 : decode cX6_take 41 = .ok (.iaload, 1) := by decide +kernel
theorem dX6_take_42 : decode cX6_take 42 = .ok (.if_icmp .ge 33, 3) := by decide +kernel
theorem dX6_take_45 : decode cX6_take 45 = .ok (.aload_n 0, 1) := by decide +kernel
theorem dX6_take_46 : decode cX6_take 46 = .ok (.getfield 20, 3) := by decide +kernel
theorem dX6_take_49 : decode cX6_take 49 = .ok (.bipush 30, 2) := by decide +kernel
theorem dX6_take_51 : decode cX6_take 51 = .ok (.iload_n 1, 1) := by decide +kernel
theorem dX6_take_52 : decode cX6_take 52 = .ok (.imul, 1) := by decide +kernel
theorem dX6_take_53 : decode cX6_take 53 = .ok (.iload_n 3, 1) := by decide +kernel
theorem dX6_take_54 : decode cX6_take 54 = .ok (.iadd, 1) := by decide +kernel
theorem dX6_take_55 : decode cX6_take 55 = .ok (.aload_n 0, 1) := by decide +kernel
theorem dX6_take_56 : decode cX6_take 56 = .ok (.getfield 20, 3) := by decide +kernel
theorem dX6_take_59 : decode cX6_take 59 = .ok (.bipush 30, 2) := by decide +kernel
theorem dX6_take_61 : decode cX6_take 61 = .ok (.iload_n 1, 1) := by decide +kernel
theorem dX6_take_62 : decode cX6_take 62 = .ok (.imul, 1) := by decide +kernel
theorem dX6_take_63 : decode cX6_take 63 = .ok (.iload_n 3, 1) := by decide +kernel
theorem dX6_take_64 : decode cX6_take 64 = .ok (.iadd, 1) := by decide +kernel
theorem dX6_take_65 : decode cX6_take 65 = .ok (.iconst 1, 1) := by decide +kernel
theorem dX6_take_66 : decode cX6_take 66 = .ok (.iadd, 1) := by decide +kernel
theorem dX6_take_67 : decode cX6_take 67 = .ok (.iaload, 1) := by decide +kernel
theorem dX6_take_68 : decode cX6_take 68 = .ok (.iastore, 1) := by decide +kernel
theorem dX6_take_69 : decode cX6_take 69 = .ok (.iinc 3 1, 3) := by decide +kernel
theorem dX6_take_72 : decode cX6_take 72 = .ok (.goto (-37), 3) := by decide +kernel
theorem dX6_take_75 : decode cX6_take 75 = .ok (.return_, 1) := by decide +kernel
theorem dX6_remove_0 : decode cX6_remove 0 = .ok (.aload_n 0, 1) := by decide +kernel
theorem dX6_remove_1 : decode cX6_remove 1 = .ok (.aload_n 0, 1) := by decide +kernel
theorem dX6_remove_2 : decode cX6_remove 2 = .ok (.iload_n 1, 1) := by decide +kernel
theorem dX6_remove_3 : decode cX6_remove 3 = .ok (.invokevirtual 83, 3) := by decide +kernel
theorem dX6_remove_6 : decode cX6_remove 6 = .ok (.ifCond .eq 7, 3) := by decide +kernel
theorem dX6_remove_9 : decode cX6_remove 9 = .ok (.iconst 0, 1) := by decide +kernel
theorem dX6_remove_10 : decode cX6_remove 10 = .ok (.goto 4, 3) := by decide +kernel
theorem dX6_remove_13 : decode cX6_remove 13 = .ok (.iconst 1, 1) := by decide +kernel
theorem dX6_remove_14 : decode cX6_remove 14 = .ok (.putfield 59, 3) := by decide +kernel
theorem dX6_remove_17 : decode cX6_remove 17 = .ok (.aload_n 0, 1) := by decide +kernel
theorem dX6_remove_18 : decode cX6_remove 18 = .ok (.getfield 59, 3) := by decide +kernel
theorem dX6_remove_21 : decode cX6_remove 21 = .ok (.ifCond .le 5, 3) := by decide +kernel
theorem dX6_remove_24 : decode cX6_remove 24 = .ok (.iconst 0, 1) := by decide +kernel
theorem dX6_remove_25 : decode cX6_remove 25 = .ok (.ireturn, 1) := by decide +kernel
theorem dX6_remove_26 : decode cX6_remove 26 = .ok (.aload_n 0, 1) := by decide +kernel
theorem dX6_remove_27 : decode cX6_remove 27 = .ok (.aload_n 0, 1) := by decide +kernel
theorem dX6_remove_28 : decode cX6_remove 28 = .ok (.getfield 7, 3) := by decide +kernel
theorem dX6_remove_31 : decode cX6_remove 31 = .ok (.iload_n 1, 1) := by decide +kernel
theorem dX6_remove_32 : decode cX6_remove 32 = .ok (.iaload, 1) := by decide +kernel
theorem dX6_remove_33 : decode cX6_remove 33 = .ok (.iload_n 1, 1) := by decide +kernel
theorem dX6_remove_34 : decode cX6_remove 34 = .ok (.invokevirtual 103, 3) := by decide +kernel
theorem dX6_remove_37 : decode cX6_remove 37 = .ok (.aload_n 0, 1) := by decide +kernel
theorem dX6_remove_38 : decode cX6_remove 38 = .ok (.aload_n 0, 1) := by decide +kernel
theorem dX6_remove_39 : decode cX6_remove 39 = .ok (.getfield 13, 3) := by decide +kernel
theorem dX6_remove_42 : decode cX6_remove 42 = .ok (.iload_n 1, 1) := by decide +kernel
theorem dX6_remove_43 : decode cX6_remove 43 = .ok (.iaload, 1) := by decide +kernel
theorem dX6_remove_44 : decode cX6_remove 44 = .ok (.iload_n 1, 1) := by decide +kernel
theorem dX6_remove_45 : decode cX6_remove 45 = .ok (.invokevirtual 103, 3) := by decide +kernel
theorem dX6_remove_48 : decode cX6_remove 48 = .ok (.aload_n 0, 1) := by decide +kernel
theorem dX6_remove_49 : decode cX6_remove 49 = .ok (.getfield 16, 3) := by decide +kernel
theorem dX6_remove_52 : decode cX6_remove 52 = .ok (.iload_n 1, 1) := by decide +kernel
theorem dX6_remove_53 : decode cX6_remove 53 = .ok (.iconst 1, 1) := by decide +kernel
theorem dX6_remove_54 : decode cX6_remove 54 = .ok (.bastore, 1) := by decide +kernel
theorem dX6_remove_55 : decode cX6_remove 55 = .ok (.aload_n 0, 1) := by decide +kernel
theorem dX6_remove_56 : decode cX6_remove 56 = .ok (.dup, 1) := by decide +kernel
theorem dX6_remove_57 : decode cX6_remove 57 = .ok (.getfield 97, 3) := by decide +kernel
theorem dX6_remove_60 : decode cX6_remove 60 = .ok (.iconst 1, 1) := by decide +kernel
theorem dX6_remove_61 : decode cX6_remove 61 = .ok (.isub, 1) := by decide +kernel
theorem dX6_remove_62 : decode cX6_remove 62 = .ok (.putfield 97, 3) := by decide +kernel
theorem dX6_remove_65 : decode cX6_remove 65 = .ok (.aload_n 0, 1) := by decide +kernel
theorem dX6_remove_66 : decode cX6_remove 66 = .ok (.invokevirtual 100, 3) := by decide +kernel
theorem dX6_remove_69 : decode cX6_remove 69 = .ok (.aload_n 0, 1) := by decide +kernel
theorem dX6_remove_70 : decode cX6_remove 70 = .ok (.getfield 97, 3) := by decide +kernel
theorem dX6_remove_73 : decode cX6_remove 73 = .ok (.ireturn, 1) := by decide +kernel
theorem dX6_degree_0 : decode cX6_degree 0 = .ok (.aload_n 0, 1) := by decide +kernel
theorem dX6_degree_1 : decode cX6_degree 1 = .ok (.aload_n 0, 1) := by decide +kernel
theorem dX6_degree_2 : decode cX6_degree 2 = .ok (.iload_n 1, 1) := by decide +kernel
theorem dX6_degree_3 : decode cX6_degree 3 = .ok (.invokevirtual 79, 3) := by decide +kernel
theorem dX6_degree_6 : decode cX6_degree 6 = .ok (.ifCond .eq 7, 3) := by decide +kernel
theorem dX6_degree_9 : decode cX6_degree 9 = .ok (.iconst 0, 1) := by decide +kernel
theorem dX6_degree_10 : decode cX6_degree 10 = .ok (.goto 4, 3) := by decide +kernel
theorem dX6_degree_13 : decode cX6_degree 13 = .ok (.iconst 1, 1) := by decide +kernel
theorem dX6_degree_14 : decode cX6_degree 14 = .ok (.putfield 59, 3) := by decide +kernel
theorem dX6_degree_17 : decode cX6_degree 17 = .ok (.aload_n 0, 1) := by decide +kernel
theorem dX6_degree_18 : decode cX6_degree 18 = .ok (.getfield 59, 3) := by decide +kernel
theorem dX6_degree_21 : decode cX6_degree 21 = .ok (.ifCond .le 7, 3) := by decide +kernel
theorem dX6_degree_24 : decode cX6_degree 24 = .ok (.iconst 0, 1) := by decide +kernel
theorem dX6_degree_25 : decode cX6_degree 25 = .ok (.goto 9, 3) := by decide +kernel
theorem dX6_degree_28 : decode cX6_degree 28 = .ok (.aload_n 0, 1) := by decide +kernel
theorem dX6_degree_29 : decode cX6_degree 29 = .ok (.getfield 23, 3) := by decide +kernel
theorem dX6_degree_32 : decode cX6_degree 32 = .ok (.iload_n 1, 1) := by decide +kernel
theorem dX6_degree_33 : decode cX6_degree 33 = .ok (.iaload, 1) := by decide +kernel
theorem dX6_degree_34 : decode cX6_degree 34 = .ok (.ireturn, 1) := by decide +kernel
theorem dX6_round_0 : decode cX6_round 0 = .ok (.aload_n 0, 1) := by decide +kernel
theorem dX6_round_1 : decode cX6_round 1 = .ok (.aload_n 0, 1) := by decide +kernel
theorem dX6_round_2 : decode cX6_round 2 = .ok (.iload_n 1, 1) := by decide +kernel
theorem dX6_round_3 : decode cX6_round 3 = .ok (.invokevirtual 79, 3) := by decide +kernel
theorem dX6_round_6 : decode cX6_round 6 = .ok (.ifCond .eq 21, 3) := by decide +kernel
theorem dX6_round_9 : decode cX6_round 9 = .ok (.iload_n 2, 1) := by decide +kernel
theorem dX6_round_10 : decode cX6_round 10 = .ok (.ifCond .lt 17, 3) := by decide +kernel
theorem dX6_round_13 : decode cX6_round 13 = .ok (.iload_n 2, 1) := by decide +kernel
theorem dX6_round_14 : decode cX6_round 14 = .ok (.aload_n 0, 1) := by decide +kernel
theorem dX6_round_15 : decode cX6_round 15 = .ok (.getfield 23, 3) := by decide +kernel
theorem dX6_round_18 : decode cX6_round 18 = .ok (.iload_n 1, 1) := by decide +kernel
theorem dX6_round_19 : decode cX6_round 19 = .ok (.iaload, 1) := by decide +kernel
theorem dX6_round_20 : decode cX6_round 20 = .ok (.if_icmp .ge 7, 3) := by decide +kernel
theorem dX6_round_23 : decode cX6_round 23 = .ok (.iconst 0, 1) := by decide +kernel
theorem dX6_round_24 : decode cX6_round 24 = .ok (.goto 4, 3) := by decide +kernel
theorem dX6_round_27 : decode cX6_round 27 = .ok (.iconst 1, 1) := by decide +kernel
theorem dX6_round_28 : decode cX6_round 28 = .ok (.putfield 59, 3) := by decide +kernel
theorem dX6_round_31 : decode cX6_round 31 = .ok (.aload_n 0, 1) := by decide +kernel
theorem dX6_round_32 : decode cX6_round 32 = .ok (.getfield 59, 3) := by decide +kernel
theorem dX6_round_35 : decode cX6_round 35 = .ok (.ifCond .le 7, 3) := by decide +kernel
theorem dX6_round_38 : decode cX6_round 38 = .ok (.iconst 0, 1) := by decide +kernel
theorem dX6_round_39 : decode cX6_round 39 = .ok (.goto 14, 3) := by decide +kernel
theorem dX6_round_42 : decode cX6_round 42 = .ok (.aload_n 0, 1) := by decide +kernel
theorem dX6_round_43 : decode cX6_round 43 = .ok (.getfield 20, 3) := by decide +kernel
theorem dX6_round_46 : decode cX6_round 46 = .ok (.bipush 30, 2) := by decide +kernel
theorem dX6_round_48 : decode cX6_round 48 = .ok (.iload_n 1, 1) := by decide +kernel
theorem dX6_round_49 : decode cX6_round 49 = .ok (.imul, 1) := by decide +kernel
theorem dX6_round_50 : decode cX6_round 50 = .ok (.iload_n 2, 1) := by decide +kernel
theorem dX6_round_51 : decode cX6_round 51 = .ok (.iadd, 1) := by decide +kernel
theorem dX6_round_52 : decode cX6_round 52 = .ok (.iaload, 1) := by decide +kernel
theorem dX6_round_53 : decode cX6_round 53 = .ok (.ireturn, 1) := by decide +kernel
theorem dX6_end_0 : decode cX6_end 0 = .ok (.aload_n 0, 1) := by decide +kernel
theorem dX6_end_1 : decode cX6_end 1 = .ok (.aload_n 0, 1) := by decide +kernel
theorem dX6_end_2 : decode cX6_end 2 = .ok (.iload_n 1, 1) := by decide +kernel
theorem dX6_end_3 : decode cX6_end 3 = .ok (.invokevirtual 83, 3) := by decide +kernel
theorem dX6_end_6 : decode cX6_end 6 = .ok (.ifCond .eq 7, 3) := by decide +kernel
theorem dX6_end_9 : decode cX6_end 9 = .ok (.iconst 0, 1) := by decide +kernel
theorem dX6_end_10 : decode cX6_end 10 = .ok (.goto 4, 3) := by decide +kernel
theorem dX6_end_13 : decode cX6_end 13 = .ok (.iconst 1, 1) := by decide +kernel
theorem dX6_end_14 : decode cX6_end 14 = .ok (.putfield 59, 3) := by decide +kernel
theorem dX6_end_17 : decode cX6_end 17 = .ok (.aload_n 0, 1) := by decide +kernel
theorem dX6_end_18 : decode cX6_end 18 = .ok (.getfield 59, 3) := by decide +kernel
theorem dX6_end_21 : decode cX6_end 21 = .ok (.ifCond .le 7, 3) := by decide +kernel
theorem dX6_end_24 : decode cX6_end 24 = .ok (.iconst 0, 1) := by decide +kernel
theorem dX6_end_25 : decode cX6_end 25 = .ok (.goto 22, 3) := by decide +kernel
theorem dX6_end_28 : decode cX6_end 28 = .ok (.iload_n 2, 1) := by decide +kernel
theorem dX6_end_29 : decode cX6_end 29 = .ok (.ifCond .eq 12, 3) := by decide +kernel
theorem dX6_end_32 : decode cX6_end 32 = .ok (.aload_n 0, 1) := by decide +kernel
theorem dX6_end_33 : decode cX6_end 33 = .ok (.getfield 13, 3) := by decide +kernel
theorem dX6_end_36 : decode cX6_end 36 = .ok (.iload_n 1, 1) := by decide +kernel
theorem dX6_end_37 : decode cX6_end 37 = .ok (.iaload, 1) := by decide +kernel
theorem dX6_end_38 : decode cX6_end 38 = .ok (.goto 9, 3) := by decide +kernel
theorem dX6_end_41 : decode cX6_end 41 = .ok (.aload_n 0, 1) := by decide +kernel
theorem dX6_end_42 : decode cX6_end 42 = .ok (.getfield 7, 3) := by decide +kernel
theorem dX6_end_45 : decode cX6_end 45 = .ok (.iload_n 1, 1) := by decide +kernel
theorem dX6_end_46 : decode cX6_end 46 = .ok (.iaload, 1) := by decide +kernel
theorem dX6_end_47 : decode cX6_end 47 = .ok (.ireturn, 1) := by decide +kernel
theorem dX6_origin_0 : decode cX6_origin 0 = .ok (.iload_n 1, 1) := by decide +kernel
theorem dX6_origin_1 : decode cX6_origin 1 = .ok (.iconst 2, 1) := by decide +kernel
theorem dX6_origin_2 : decode cX6_origin 2 = .ok (.irem, 1) := by decide +kernel
theorem dX6_origin_3 : decode cX6_origin 3 = .ok (.ifCond .ne 14, 3) := by decide +kernel
theorem dX6_origin_6 : decode cX6_origin 6 = .ok (.aload_n 0, 1) := by decide +kernel
theorem dX6_origin_7 : decode cX6_origin 7 = .ok (.getfield 7, 3) := by decide +kernel
theorem dX6_origin_10 : decode cX6_origin 10 = .ok (.iload_n 1, 1) := by decide +kernel
theorem dX6_origin_11 : decode cX6_origin 11 = .ok (.iconst 2, 1) := by decide +kernel
theorem dX6_origin_12 : decode cX6_origin 12 = .ok (.idiv, 1) := by decide +kernel
theorem dX6_origin_13 : decode cX6_origin 13 = .ok (.iaload, 1) := by decide +kernel
theorem dX6_origin_14 : decode cX6_origin 14 = .ok (.goto 11, 3) := by decide +kernel
theorem dX6_origin_17 : decode cX6_origin 17 = .ok (.aload_n 0, 1) := by decide +kernel
theorem dX6_origin_18 : decode cX6_origin 18 = .ok (.getfield 13, 3) := by decide +kernel
theorem dX6_origin_21 : decode cX6_origin 21 = .ok (.iload_n 1, 1) := by decide +kernel
theorem dX6_origin_22 : decode cX6_origin 22 = .ok (.iconst 2, 1) := by decide +kernel
theorem dX6_origin_23 : decode cX6_origin 23 = .ok (.idiv, 1) := by decide +kernel
theorem dX6_origin_24 : decode cX6_origin 24 = .ok (.iaload, 1) := by decide +kernel
theorem dX6_origin_25 : decode cX6_origin 25 = .ok (.ireturn, 1) := by decide +kernel
theorem dX6_nextSide_0 : decode cX6_nextSide 0 = .ok (.aload_n 0, 1) := by decide +kernel
theorem dX6_nextSide_1 : decode cX6_nextSide 1 = .ok (.iload_n 1, 1) := by decide +kernel
theorem dX6_nextSide_2 : decode cX6_nextSide 2 = .ok (.iconst 1, 1) := by decide +kernel
theorem dX6_nextSide_3 : decode cX6_nextSide 3 = .ok (.ixor, 1) := by decide +kernel
theorem dX6_nextSide_4 : decode cX6_nextSide 4 = .ok (.invokevirtual 107, 3) := by decide +kernel
theorem dX6_nextSide_7 : decode cX6_nextSide 7 = .ok (.istore_n 2, 1) := by decide +kernel
theorem dX6_nextSide_8 : decode cX6_nextSide 8 = .ok (.aload_n 0, 1) := by decide +kernel
theorem dX6_nextSide_9 : decode cX6_nextSide 9 = .ok (.iload_n 2, 1) := by decide +kernel
theorem dX6_nextSide_10 : decode cX6_nextSide 10 = .ok (.iload_n 1, 1) := by decide +kernel
theorem dX6_nextSide_11 : decode cX6_nextSide 11 = .ok (.iconst 2, 1) := by decide +kernel
theorem dX6_nextSide_12 : decode cX6_nextSide 12 = .ok (.idiv, 1) := by decide +kernel
theorem dX6_nextSide_13 : decode cX6_nextSide 13 = .ok (.invokevirtual 76, 3) := by decide +kernel
theorem dX6_nextSide_16 : decode cX6_nextSide 16 = .ok (.iconst 1, 1) := by decide +kernel
theorem dX6_nextSide_17 : decode cX6_nextSide 17 = .ok (.iadd, 1) := by decide +kernel
theorem dX6_nextSide_18 : decode cX6_nextSide 18 = .ok (.istore_n 3, 1) := by decide +kernel
theorem dX6_nextSide_19 : decode cX6_nextSide 19 = .ok (.aload_n 0, 1) := by decide +kernel
theorem dX6_nextSide_20 : decode cX6_nextSide 20 = .ok (.getfield 20, 3) := by decide +kernel
theorem dX6_nextSide_23 : decode cX6_nextSide 23 = .ok (.bipush 30, 2) := by decide +kernel
theorem dX6_nextSide_25 : decode cX6_nextSide 25 = .ok (.iload_n 2, 1) := by decide +kernel
theorem dX6_nextSide_26 : decode cX6_nextSide 26 = .ok (.imul, 1) := by decide +kernel
theorem dX6_nextSide_27 : decode cX6_nextSide 27 = .ok (.iload_n 3, 1) := by decide +kernel
theorem dX6_nextSide_28 : decode cX6_nextSide 28 = .ok (.aload_n 0, 1) := by decide +kernel
theorem dX6_nextSide_29 : decode cX6_nextSide 29 = .ok (.getfield 23, 3) := by decide +kernel
theorem dX6_nextSide_32 : decode cX6_nextSide 32 = .ok (.iload_n 2, 1) := by decide +kernel
theorem dX6_nextSide_33 : decode cX6_nextSide 33 = .ok (.iaload, 1) := by decide +kernel
theorem dX6_nextSide_34 : decode cX6_nextSide 34 = .ok (.if_icmp .ne 7, 3) := by decide +kernel
theorem dX6_nextSide_37 : decode cX6_nextSide 37 = .ok (.iconst 0, 1) := by decide +kernel
theorem dX6_nextSide_38 : decode cX6_nextSide 38 = .ok (.goto 4, 3) := by decide +kernel
theorem dX6_nextSide_41 : decode cX6_nextSide 41 = .ok (.iload_n 3, 1) := by decide +kernel
theorem dX6_nextSide_42 : decode cX6_nextSide 42 = .ok (.iadd, 1) := by decide +kernel
theorem dX6_nextSide_43 : decode cX6_nextSide 43 = .ok (.iaload, 1) := by decide +kernel
theorem dX6_nextSide_44 : decode cX6_nextSide 44 = .ok (.istore 4, 2) := by decide +kernel
theorem dX6_nextSide_46 : decode cX6_nextSide 46 = .ok (.aload_n 0, 1) := by decide +kernel
theorem dX6_nextSide_47 : decode cX6_nextSide 47 = .ok (.getfield 7, 3) := by decide +kernel
theorem dX6_nextSide_50 : decode cX6_nextSide 50 = .ok (.iload 4, 2) := by decide +kernel
theorem dX6_nextSide_52 : decode cX6_nextSide 52 = .ok (.iaload, 1) := by decide +kernel
theorem dX6_nextSide_53 : decode cX6_nextSide 53 = .ok (.iload_n 2, 1) := by decide +kernel
theorem dX6_nextSide_54 : decode cX6_nextSide 54 = .ok (.if_icmp .ne 10, 3) := by decide +kernel
theorem dX6_nextSide_57 : decode cX6_nextSide 57 = .ok (.iconst 2, 1) := by decide +kernel
theorem dX6_nextSide_58 : decode cX6_nextSide 58 = .ok (.iload 4, 2) := by decide +kernel
theorem dX6_nextSide_60 : decode cX6_nextSide 60 = .ok (.imul, 1) := by decide +kernel
theorem dX6_nextSide_61 : decode cX6_nextSide 61 = .ok (.goto 9, 3) := by decide +kernel
theorem dX6_nextSide_64 : decode cX6_nextSide 64 = .ok (.iconst 2, 1) := by decide +kernel
theorem dX6_nextSide_65 : decode cX6_nextSide 65 = .ok (.iload 4, 2) := by decide +kernel
theorem dX6_nextSide_67 : decode cX6_nextSide 67 = .ok (.imul, 1) := by decide +kernel
theorem dX6_nextSide_68 : decode cX6_nextSide 68 = .ok (.iconst 1, 1) := by decide +kernel
theorem dX6_nextSide_69 : decode cX6_nextSide 69 = .ok (.iadd, 1) := by decide +kernel
theorem dX6_nextSide_70 : decode cX6_nextSide 70 = .ok (.ireturn, 1) := by decide +kernel
theorem dX6_findFaces_0 : decode cX6_findFaces 0 = .ok (.aload_n 0, 1) := by decide +kernel
theorem dX6_findFaces_1 : decode cX6_findFaces 1 = .ok (.iconst 0, 1) := by decide +kernel
theorem dX6_findFaces_2 : decode cX6_findFaces 2 = .ok (.putfield 111, 3) := by decide +kernel
theorem dX6_findFaces_5 : decode cX6_findFaces 5 = .ok (.iconst 0, 1) := by decide +kernel
theorem dX6_findFaces_6 : decode cX6_findFaces 6 = .ok (.istore_n 1, 1) := by decide +kernel
theorem dX6_findFaces_7 : decode cX6_findFaces 7 = .ok (.iload_n 1, 1) := by decide +kernel
theorem dX6_findFaces_8 : decode cX6_findFaces 8 = .ok (.iconst 2, 1) := by decide +kernel
theorem dX6_findFaces_9 : decode cX6_findFaces 9 = .ok (.aload_n 0, 1) := by decide +kernel
theorem dX6_findFaces_10 : decode cX6_findFaces 10 = .ok (.getfield 66, 3) := by decide +kernel
theorem dX6_findFaces_13 : decode cX6_findFaces 13 = .ok (.imul, 1) := by decide +kernel
theorem dX6_findFaces_14 : decode cX6_findFaces 14 = .ok (.if_icmp .ge 16, 3) := by decide +kernel
theorem dX6_findFaces_17 : decode cX6_findFaces 17 = .ok (.aload_n 0, 1) := by decide +kernel
theorem dX6_findFaces_18 : decode cX6_findFaces 18 = .ok (.getfield 29, 3) := by decide +kernel
theorem dX6_findFaces_21 : decode cX6_findFaces 21 = .ok (.iload_n 1, 1) := by decide +kernel
theorem dX6_findFaces_22 : decode cX6_findFaces 22 = .ok (.iconst (-1), 1) := by decide +kernel
theorem dX6_findFaces_23 : decode cX6_findFaces 23 = .ok (.iastore, 1) := by decide +kernel
theorem dX6_findFaces_24 : decode cX6_findFaces 24 = .ok (.iinc 1 1, 3) := by decide +kernel
theorem dX6_findFaces_27 : decode cX6_findFaces 27 = .ok (.goto (-20), 3) := by decide +kernel
theorem dX6_findFaces_30 : decode cX6_findFaces 30 = .ok (.iconst 0, 1) := by decide +kernel
theorem dX6_findFaces_31 : decode cX6_findFaces 31 = .ok (.istore_n 1, 1) := by decide +kernel
theorem dX6_findFaces_32 : decode cX6_findFaces 32 = .ok (.iload_n 1, 1) := by decide +kernel
theorem dX6_findFaces_33 : decode cX6_findFaces 33 = .ok (.iconst 2, 1) := by decide +kernel
theorem dX6_findFaces_34 : decode cX6_findFaces 34 = .ok (.aload_n 0, 1) := by decide +kernel
theorem dX6_findFaces_35 : decode cX6_findFaces 35 = .ok (.getfield 66, 3) := by decide +kernel
theorem dX6_findFaces_38 : decode cX6_findFaces 38 = .ok (.imul, 1) := by decide +kernel
theorem dX6_findFaces_39 : decode cX6_findFaces 39 = .ok (.if_icmp .ge 71, 3) := by decide +kernel
theorem dX6_findFaces_42 : decode cX6_findFaces 42 = .ok (.aload_n 0, 1) := by decide +kernel
theorem dX6_findFaces_43 : decode cX6_findFaces 43 = .ok (.getfield 16, 3) := by decide +kernel
theorem dX6_findFaces_46 : decode cX6_findFaces 46 = .ok (.iload_n 1, 1) := by decide +kernel
theorem dX6_findFaces_47 : decode cX6_findFaces 47 = .ok (.iconst 2, 1) := by decide +kernel
theorem dX6_findFaces_48 : decode cX6_findFaces 48 = .ok (.idiv, 1) := by decide +kernel
theorem dX6_findFaces_49 : decode cX6_findFaces 49 = .ok (.baload, 1) := by decide +kernel
theorem dX6_findFaces_50 : decode cX6_findFaces 50 = .ok (.ifCond .ne 54, 3) := by decide +kernel
theorem dX6_findFaces_53 : decode cX6_findFaces 53 = .ok (.aload_n 0, 1) := by decide +kernel
theorem dX6_findFaces_54 : decode cX6_findFaces 54 = .ok (.getfield 29, 3) := by decide +kernel
theorem dX6_findFaces_57 : decode cX6_findFaces 57 = .ok (.iload_n 1, 1) := by decide +kernel
theorem dX6_findFaces_58 : decode cX6_findFaces 58 = .ok (.iaload, 1) := by decide +kernel
theorem dX6_findFaces_59 : decode cX6_findFaces 59 = .ok (.iconst (-1), 1) := by decide +kernel
theorem dX6_findFaces_60 : decode cX6_findFaces 60 = .ok (.if_icmp .ne 44, 3) := by decide +kernel
theorem dX6_findFaces_63 : decode cX6_findFaces 63 = .ok (.iload_n 1, 1) := by decide +kernel
theorem dX6_findFaces_64 : decode cX6_findFaces 64 = .ok (.istore_n 2, 1) := by decide +kernel
theorem dX6_findFaces_65 : decode cX6_findFaces 65 = .ok (.aload_n 0, 1) := by decide +kernel
theorem dX6_findFaces_66 : decode cX6_findFaces 66 = .ok (.getfield 29, 3) := by decide +kernel
theorem dX6_findFaces_69 : decode cX6_findFaces 69 = .ok (.iload_n 2, 1) := by decide +kernel
theorem dX6_findFaces_70 : decode cX6_findFaces 70 = .ok (.iaload, 1) := by decide +kernel
theorem dX6_findFaces_71 : decode cX6_findFaces 71 = .ok (.iconst (-1), 1) := by decide +kernel
theorem dX6_findFaces_72 : decode cX6_findFaces 72 = .ok (.if_icmp .ne 22, 3) := by decide +kernel
theorem dX6_findFaces_75 : decode cX6_findFaces 75 = .ok (.aload_n 0, 1) := by decide +kernel
theorem dX6_findFaces_76 : decode cX6_findFaces 76 = .ok (.getfield 29, 3) := by decide +kernel
theorem dX6_findFaces_79 : decode cX6_findFaces 79 = .ok (.iload_n 2, 1) := by decide +kernel
theorem dX6_findFaces_80 : decode cX6_findFaces 80 = .ok (.aload_n 0, 1) := by decide +kernel
theorem dX6_findFaces_81 : decode cX6_findFaces 81 = .ok (.getfield 111, 3) := by decide +kernel
theorem dX6_findFaces_84 : decode cX6_findFaces 84 = .ok (.iastore, 1) := by decide +kernel
theorem dX6_findFaces_85 : decode cX6_findFaces 85 = .ok (.aload_n 0, 1) := by decide +kernel
theorem dX6_findFaces_86 : decode cX6_findFaces 86 = .ok (.iload_n 2, 1) := by decide +kernel
theorem dX6_findFaces_87 : decode cX6_findFaces 87 = .ok (.invokevirtual 114, 3) := by decide +kernel
theorem dX6_findFaces_90 : decode cX6_findFaces 90 = .ok (.istore_n 2, 1) := by decide +kernel
theorem dX6_findFaces_91 : decode cX6_findFaces 91 = .ok (.goto (-26), 3) := by decide +kernel
theorem dX6_findFaces_94 : decode cX6_findFaces 94 = .ok (.aload_n 0, 1) := by decide +kernel
theorem dX6_findFaces_95 : decode cX6_findFaces 95 = .ok (.dup, 1) := by decide +kernel
theorem dX6_findFaces_96 : decode cX6_findFaces 96 = .ok (.getfield 111, 3) := by decide +kernel
theorem dX6_findFaces_99 : decode cX6_findFaces 99 = .ok (.iconst 1, 1) := by decide +kernel
theorem dX6_findFaces_100 : decode cX6_findFaces 100 = .ok (.iadd, 1) := by decide +kernel
theorem dX6_findFaces_101 : decode cX6_findFaces 101 = .ok (.putfield 111, 3) := by decide +kernel
theorem dX6_findFaces_104 : decode cX6_findFaces 104 = .ok (.iinc 1 1, 3) := by decide +kernel
theorem dX6_findFaces_107 : decode cX6_findFaces 107 = .ok (.goto (-75), 3) := by decide +kernel
theorem dX6_findFaces_110 : decode cX6_findFaces 110 = .ok (.return_, 1) := by decide +kernel
theorem dX6_faces_0 : decode cX6_faces 0 = .ok (.aload_n 0, 1) := by decide +kernel
theorem dX6_faces_1 : decode cX6_faces 1 = .ok (.iconst 0, 1) := by decide +kernel
theorem dX6_faces_2 : decode cX6_faces 2 = .ok (.putfield 59, 3) := by decide +kernel
theorem dX6_faces_5 : decode cX6_faces 5 = .ok (.aload_n 0, 1) := by decide +kernel
theorem dX6_faces_6 : decode cX6_faces 6 = .ok (.invokevirtual 117, 3) := by decide +kernel
theorem dX6_faces_9 : decode cX6_faces 9 = .ok (.aload_n 0, 1) := by decide +kernel
theorem dX6_faces_10 : decode cX6_faces 10 = .ok (.getfield 111, 3) := by decide +kernel
theorem dX6_faces_13 : decode cX6_faces 13 = .ok (.ireturn, 1) := by decide +kernel
theorem dX6_firstSide_0 : decode cX6_firstSide 0 = .ok (.iconst 0, 1) := by decide +kernel
theorem dX6_firstSide_1 : decode cX6_firstSide 1 = .ok (.istore_n 2, 1) := by decide +kernel
theorem dX6_firstSide_2 : decode cX6_firstSide 2 = .ok (.iload_n 2, 1) := by decide +kernel
theorem dX6_firstSide_3 : decode cX6_firstSide 3 = .ok (.iconst 2, 1) := by decide +kernel
theorem dX6_firstSide_4 : decode cX6_firstSide 4 = .ok (.aload_n 0, 1) := by decide +kernel
theorem dX6_firstSide_5 : decode cX6_firstSide 5 = .ok (.getfield 66, 3) := by decide +kernel
theorem dX6_firstSide_8 : decode cX6_firstSide 8 = .ok (.imul, 1) := by decide +kernel
theorem dX6_firstSide_9 : decode cX6_firstSide 9 = .ok (.if_icmp .ge 32, 3) := by decide +kernel
theorem dX6_firstSide_12 : decode cX6_firstSide 12 = .ok (.aload_n 0, 1) := by decide +kernel
theorem dX6_firstSide_13 : decode cX6_firstSide 13 = .ok (.getfield 16, 3) := by decide +kernel
theorem dX6_firstSide_16 : decode cX6_firstSide 16 = .ok (.iload_n 2, 1) := by decide +kernel
theorem dX6_firstSide_17 : decode cX6_firstSide 17 = .ok (.iconst 2, 1) := by decide +kernel
theorem dX6_firstSide_18 : decode cX6_firstSide 18 = .ok (.idiv, 1) := by decide +kernel
theorem dX6_firstSide_19 : decode cX6_firstSide 19 = .ok (.baload, 1) := by decide +kernel
theorem dX6_firstSide_20 : decode cX6_firstSide 20 = .ok (.ifCond .ne 15, 3) := by decide +kernel
theorem dX6_firstSide_23 : decode cX6_firstSide 23 = .ok (.aload_n 0, 1) := by decide +kernel
theorem dX6_firstSide_24 : decode cX6_firstSide 24 = .ok (.getfield 29, 3) := by decide +kernel
theorem dX6_firstSide_27 : decode cX6_firstSide 27 = .ok (.iload_n 2, 1) := by decide +kernel
theorem dX6_firstSide_28 : decode cX6_firstSide 28 = .ok (.iaload, 1) := by decide +kernel
theorem dX6_firstSide_29 : decode cX6_firstSide 29 = .ok (.iload_n 1, 1) := by decide +kernel
theorem dX6_firstSide_30 : decode cX6_firstSide 30 = .ok (.if_icmp .ne 5, 3) := by decide +kernel
theorem dX6_firstSide_33 : decode cX6_firstSide 33 = .ok (.iload_n 2, 1) := by decide +kernel
theorem dX6_firstSide_34 : decode cX6_firstSide 34 = .ok (.ireturn, 1) := by decide +kernel
theorem dX6_firstSide_35 : decode cX6_firstSide 35 = .ok (.iinc 2 1, 3) := by decide +kernel
theorem dX6_firstSide_38 : decode cX6_firstSide 38 = .ok (.goto (-36), 3) := by decide +kernel
theorem dX6_firstSide_41 : decode cX6_firstSide 41 = .ok (.iconst (-1), 1) := by decide +kernel
theorem dX6_firstSide_42 : decode cX6_firstSide 42 = .ok (.ireturn, 1) := by decide +kernel
theorem dX6_sidesOf_0 : decode cX6_sidesOf 0 = .ok (.iconst 0, 1) := by decide +kernel
theorem dX6_sidesOf_1 : decode cX6_sidesOf 1 = .ok (.istore_n 2, 1) := by decide +kernel
theorem dX6_sidesOf_2 : decode cX6_sidesOf 2 = .ok (.iconst 0, 1) := by decide +kernel
theorem dX6_sidesOf_3 : decode cX6_sidesOf 3 = .ok (.istore_n 3, 1) := by decide +kernel
theorem dX6_sidesOf_4 : decode cX6_sidesOf 4 = .ok (.iload_n 3, 1) := by decide +kernel
theorem dX6_sidesOf_5 : decode cX6_sidesOf 5 = .ok (.iconst 2, 1) := by decide +kernel
theorem dX6_sidesOf_6 : decode cX6_sidesOf 6 = .ok (.aload_n 0, 1) := by decide +kernel
theorem dX6_sidesOf_7 : decode cX6_sidesOf 7 = .ok (.getfield 66, 3) := by decide +kernel
theorem dX6_sidesOf_10 : decode cX6_sidesOf 10 = .ok (.imul, 1) := by decide +kernel
theorem dX6_sidesOf_11 : decode cX6_sidesOf 11 = .ok (.if_icmp .ge 38, 3) := by decide +kernel
theorem dX6_sidesOf_14 : decode cX6_sidesOf 14 = .ok (.aload_n 0, 1) := by decide +kernel
theorem dX6_sidesOf_15 : decode cX6_sidesOf 15 = .ok (.getfield 16, 3) := by decide +kernel
theorem dX6_sidesOf_18 : decode cX6_sidesOf 18 = .ok (.iload_n 3, 1) := by decide +kernel
theorem dX6_sidesOf_19 : decode cX6_sidesOf 19 = .ok (.iconst 2, 1) := by decide +kernel
theorem dX6_sidesOf_20 : decode cX6_sidesOf 20 = .ok (.idiv, 1) := by decide +kernel
theorem dX6_sidesOf_21 : decode cX6_sidesOf 21 = .ok (.baload, 1) := by decide +kernel
theorem dX6_sidesOf_22 : decode cX6_sidesOf 22 = .ok (.ifCond .ne 19, 3) := by decide +kernel
theorem dX6_sidesOf_25 : decode cX6_sidesOf 25 = .ok (.aload_n 0, 1) := by decide +kernel
theorem dX6_sidesOf_26 : decode cX6_sidesOf 26 = .ok (.getfield 29, 3) := by decide +kernel
theorem dX6_sidesOf_29 : decode cX6_sidesOf 29 = .ok (.iload_n 3, 1) := by decide +kernel
theorem dX6_sidesOf_30 : decode cX6_sidesOf 30 = .ok (.iaload, 1) := by decide +kernel
theorem dX6_sidesOf_31 : decode cX6_sidesOf 31 = .ok (.iload_n 1, 1) := by decide +kernel
theorem dX6_sidesOf_32 : decode cX6_sidesOf 32 = .ok (.if_icmp .ne 9, 3) := by decide +kernel
theorem dX6_sidesOf_35 : decode cX6_sidesOf 35 = .ok (.iload_n 2, 1) := by decide +kernel
theorem dX6_sidesOf_36 : decode cX6_sidesOf 36 = .ok (.iconst 1, 1) := by decide +kernel
theorem dX6_sidesOf_37 : decode cX6_sidesOf 37 = .ok (.iadd, 1) := by decide +kernel
theorem dX6_sidesOf_38 : decode cX6_sidesOf 38 = .ok (.goto 4, 3) := by decide +kernel
theorem dX6_sidesOf_41 : decode cX6_sidesOf 41 = .ok (.iload_n 2, 1) := by decide +kernel
theorem dX6_sidesOf_42 : decode cX6_sidesOf 42 = .ok (.istore_n 2, 1) := by decide +kernel
theorem dX6_sidesOf_43 : decode cX6_sidesOf 43 = .ok (.iinc 3 1, 3) := by decide +kernel
theorem dX6_sidesOf_46 : decode cX6_sidesOf 46 = .ok (.goto (-42), 3) := by decide +kernel
theorem dX6_sidesOf_49 : decode cX6_sidesOf 49 = .ok (.iload_n 2, 1) := by decide +kernel
theorem dX6_sidesOf_50 : decode cX6_sidesOf 50 = .ok (.ireturn, 1) := by decide +kernel
theorem dX6_sides_0 : decode cX6_sides 0 = .ok (.aload_n 0, 1) := by decide +kernel
theorem dX6_sides_1 : decode cX6_sides 1 = .ok (.invokevirtual 117, 3) := by decide +kernel
theorem dX6_sides_4 : decode cX6_sides 4 = .ok (.aload_n 0, 1) := by decide +kernel
theorem dX6_sides_5 : decode cX6_sides 5 = .ok (.iload_n 1, 1) := by decide +kernel
theorem dX6_sides_6 : decode cX6_sides 6 = .ok (.ifCond .lt 15, 3) := by decide +kernel
theorem dX6_sides_9 : decode cX6_sides 9 = .ok (.iload_n 1, 1) := by decide +kernel
theorem dX6_sides_10 : decode cX6_sides 10 = .ok (.aload_n 0, 1) := by decide +kernel
theorem dX6_sides_11 : decode cX6_sides 11 = .ok (.getfield 111, 3) := by decide +kernel
theorem dX6_sides_14 : decode cX6_sides 14 = .ok (.if_icmp .ge 7, 3) := by decide +kernel
theorem dX6_sides_17 : decode cX6_sides 17 = .ok (.iconst 0, 1) := by decide +kernel
theorem dX6_sides_18 : decode cX6_sides 18 = .ok (.goto 4, 3) := by decide +kernel
theorem dX6_sides_21 : decode cX6_sides 21 = .ok (.iconst 1, 1) := by decide +kernel
theorem dX6_sides_22 : decode cX6_sides 22 = .ok (.putfield 59, 3) := by decide +kernel
theorem dX6_sides_25 : decode cX6_sides 25 = .ok (.aload_n 0, 1) := by decide +kernel
theorem dX6_sides_26 : decode cX6_sides 26 = .ok (.getfield 59, 3) := by decide +kernel
theorem dX6_sides_29 : decode cX6_sides 29 = .ok (.ifCond .le 7, 3) := by decide +kernel
theorem dX6_sides_32 : decode cX6_sides 32 = .ok (.iconst 0, 1) := by decide +kernel
theorem dX6_sides_33 : decode cX6_sides 33 = .ok (.goto 8, 3) := by decide +kernel
theorem dX6_sides_36 : decode cX6_sides 36 = .ok (.aload_n 0, 1) := by decide +kernel
theorem dX6_sides_37 : decode cX6_sides 37 = .ok (.iload_n 1, 1) := by decide +kernel
theorem dX6_sides_38 : decode cX6_sides 38 = .ok (.invokevirtual 120, 3) := by decide +kernel
theorem dX6_sides_41 : decode cX6_sides 41 = .ok (.ireturn, 1) := by decide +kernel
theorem dX6_from_0 : decode cX6_from 0 = .ok (.aload_n 0, 1) := by decide +kernel
theorem dX6_from_1 : decode cX6_from 1 = .ok (.invokevirtual 117, 3) := by decide +kernel
theorem dX6_from_4 : decode cX6_from 4 = .ok (.aload_n 0, 1) := by decide +kernel
theorem dX6_from_5 : decode cX6_from 5 = .ok (.iload_n 1, 1) := by decide +kernel
theorem dX6_from_6 : decode cX6_from 6 = .ok (.ifCond .lt 28, 3) := by decide +kernel
theorem dX6_from_9 : decode cX6_from 9 = .ok (.iload_n 1, 1) := by decide +kernel
theorem dX6_from_10 : decode cX6_from 10 = .ok (.aload_n 0, 1) := by decide +kernel
theorem dX6_from_11 : decode cX6_from 11 = .ok (.getfield 111, 3) := by decide +kernel
theorem dX6_from_14 : decode cX6_from 14 = .ok (.if_icmp .ge 20, 3) := by decide +kernel
theorem dX6_from_17 : decode cX6_from 17 = .ok (.iload_n 2, 1) := by decide +kernel
theorem dX6_from_18 : decode cX6_from 18 = .ok (.ifCond .lt 16, 3) := by decide +kernel
theorem dX6_from_21 : decode cX6_from 21 = .ok (.iload_n 2, 1) := by decide +kernel
theorem dX6_from_22 : decode cX6_from 22 = .ok (.aload_n 0, 1) := by decide +kernel
theorem dX6_from_23 : decode cX6_from 23 = .ok (.iload_n 1, 1) := by decide +kernel
theorem dX6_from_24 : decode cX6_from 24 = .ok (.invokevirtual 120, 3) := by decide +kernel
theorem dX6_from_27 : decode cX6_from 27 = .ok (.if_icmp .ge 7, 3) := by decide +kernel
theorem dX6_from_30 : decode cX6_from 30 = .ok (.iconst 0, 1) := by decide +kernel
theorem dX6_from_31 : decode cX6_from 31 = .ok (.goto 4, 3) := by decide +kernel
theorem dX6_from_34 : decode cX6_from 34 = .ok (.iconst 1, 1) := by decide +kernel
theorem dX6_from_35 : decode cX6_from 35 = .ok (.putfield 59, 3) := by decide +kernel
theorem dX6_from_38 : decode cX6_from 38 = .ok (.aload_n 0, 1) := by decide +kernel
theorem dX6_from_39 : decode cX6_from 39 = .ok (.getfield 59, 3) := by decide +kernel
theorem dX6_from_42 : decode cX6_from 42 = .ok (.ifCond .le 5, 3) := by decide +kernel
theorem dX6_from_45 : decode cX6_from 45 = .ok (.iconst 0, 1) := by decide +kernel
theorem dX6_from_46 : decode cX6_from 46 = .ok (.ireturn, 1) := by decide +kernel
theorem dX6_from_47 : decode cX6_from 47 = .ok (.aload_n 0, 1) := by decide +kernel
theorem dX6_from_48 : decode cX6_from 48 = .ok (.iload_n 1, 1) := by decide +kernel
theorem dX6_from_49 : decode cX6_from 49 = .ok (.invokevirtual 123, 3) := by decide +kernel
theorem dX6_from_52 : decode cX6_from 52 = .ok (.istore_n 3, 1) := by decide +kernel
theorem dX6_from_53 : decode cX6_from 53 = .ok (.iconst 0, 1) := by decide +kernel
theorem dX6_from_54 : decode cX6_from 54 = .ok (.istore 4, 2) := by decide +kernel
theorem dX6_from_56 : decode cX6_from 56 = .ok (.iload 4, 2) := by decide +kernel
theorem dX6_from_58 : decode cX6_from 58 = .ok (.iload_n 2, 1) := by decide +kernel
theorem dX6_from_59 : decode cX6_from 59 = .ok (.if_icmp .ge 15, 3) := by decide +kernel
theorem dX6_from_62 : decode cX6_from 62 = .ok (.aload_n 0, 1) := by decide +kernel
theorem dX6_from_63 : decode cX6_from 63 = .ok (.iload_n 3, 1) := by decide +kernel
theorem dX6_from_64 : decode cX6_from 64 = .ok (.invokevirtual 114, 3) := by decide +kernel
theorem dX6_from_67 : decode cX6_from 67 = .ok (.istore_n 3, 1) := by decide +kernel
theorem dX6_from_68 : decode cX6_from 68 = .ok (.iinc 4 1, 3) := by decide +kernel
theorem dX6_from_71 : decode cX6_from 71 = .ok (.goto (-15), 3) := by decide +kernel
theorem dX6_from_74 : decode cX6_from 74 = .ok (.aload_n 0, 1) := by decide +kernel
theorem dX6_from_75 : decode cX6_from 75 = .ok (.iload_n 3, 1) := by decide +kernel
theorem dX6_from_76 : decode cX6_from 76 = .ok (.invokevirtual 107, 3) := by decide +kernel
theorem dX6_from_79 : decode cX6_from 79 = .ok (.ireturn, 1) := by decide +kernel
theorem dX6_findTree_0 : decode cX6_findTree 0 = .ok (.aload_n 0, 1) := by decide +kernel
theorem dX6_findTree_1 : decode cX6_findTree 1 = .ok (.iconst 0, 1) := by decide +kernel
theorem dX6_findTree_2 : decode cX6_findTree 2 = .ok (.putfield 126, 3) := by decide +kernel
theorem dX6_findTree_5 : decode cX6_findTree 5 = .ok (.iconst 0, 1) := by decide +kernel
theorem dX6_findTree_6 : decode cX6_findTree 6 = .ok (.istore_n 1, 1) := by decide +kernel
theorem dX6_findTree_7 : decode cX6_findTree 7 = .ok (.iload_n 1, 1) := by decide +kernel
theorem dX6_findTree_8 : decode cX6_findTree 8 = .ok (.aload_n 0, 1) := by decide +kernel
theorem dX6_findTree_9 : decode cX6_findTree 9 = .ok (.getfield 63, 3) := by decide +kernel
theorem dX6_findTree_12 : decode cX6_findTree 12 = .ok (.if_icmp .ge 23, 3) := by decide +kernel
theorem dX6_findTree_15 : decode cX6_findTree 15 = .ok (.aload_n 0, 1) := by decide +kernel
theorem dX6_findTree_16 : decode cX6_findTree 16 = .ok (.getfield 35, 3) := by decide +kernel
theorem dX6_findTree_19 : decode cX6_findTree 19 = .ok (.iload_n 1, 1) := by decide +kernel
theorem dX6_findTree_20 : decode cX6_findTree 20 = .ok (.iconst (-1), 1) := by decide +kernel
theorem dX6_findTree_21 : decode cX6_findTree 21 = .ok (.iastore, 1) := by decide +kernel
theorem dX6_findTree_22 : decode cX6_findTree 22 = .ok (.aload_n 0, 1) := by decide +kernel
theorem dX6_findTree_23 : decode cX6_findTree 23 = .ok (.getfield 32, 3) := by decide +kernel
theorem dX6_findTree_26 : decode cX6_findTree 26 = .ok (.iload_n 1, 1) := by decide +kernel
theorem dX6_findTree_27 : decode cX6_findTree 27 = .ok (.iconst (-1), 1) := by decide +kernel
theorem dX6_findTree_28 : decode cX6_findTree 28 = .ok (.iastore, 1) := by decide +kernel
theorem dX6_findTree_29 : decode cX6_findTree 29 = .ok (.iinc 1 1, 3) := by decide +kernel
theorem dX6_findTree_32 : decode cX6_findTree 32 = .ok (.goto (-25), 3) := by decide +kernel
theorem dX6_findTree_35 : decode cX6_findTree 35 = .ok (.iconst 0, 1) := by decide +kernel
theorem dX6_findTree_36 : decode cX6_findTree 36 = .ok (.istore_n 1, 1) := by decide +kernel
theorem dX6_findTree_37 : decode cX6_findTree 37 = .ok (.iload_n 1, 1) := by decide +kernel
theorem dX6_findTree_38 : decode cX6_findTree 38 = .ok (.aload_n 0, 1) := by decide +kernel
theorem dX6_findTree_39 : decode cX6_findTree 39 = .ok (.getfield 63, 3) := by decide +kernel
theorem dX6_findTree_42 : decode cX6_findTree 42 = .ok (.if_icmp .ge 34, 3) := by decide +kernel
theorem dX6_findTree_45 : decode cX6_findTree 45 = .ok (.aload_n 0, 1) := by decide +kernel
theorem dX6_findTree_46 : decode cX6_findTree 46 = .ok (.getfield 35, 3) := by decide +kernel
theorem dX6_findTree_49 : decode cX6_findTree 49 = .ok (.iload_n 1, 1) := by decide +kernel
theorem dX6_findTree_50 : decode cX6_findTree 50 = .ok (.iaload, 1) := by decide +kernel
theorem dX6_findTree_51 : decode cX6_findTree 51 = .ok (.iconst (-1), 1) := by decide +kernel
theorem dX6_findTree_52 : decode cX6_findTree 52 = .ok (.if_icmp .ne 18, 3) := by decide +kernel
theorem dX6_findTree_55 : decode cX6_findTree 55 = .ok (.aload_n 0, 1) := by decide +kernel
theorem dX6_findTree_56 : decode cX6_findTree 56 = .ok (.iload_n 1, 1) := by decide +kernel
theorem dX6_findTree_57 : decode cX6_findTree 57 = .ok (.invokevirtual 129, 3) := by decide +kernel
theorem dX6_findTree_60 : decode cX6_findTree 60 = .ok (.aload_n 0, 1) := by decide +kernel
theorem dX6_findTree_61 : decode cX6_findTree 61 = .ok (.dup, 1) := by decide +kernel
theorem dX6_findTree_62 : decode cX6_findTree 62 = .ok (.getfield 126, 3) := by decide +kernel
theorem dX6_findTree_65 : decode cX6_findTree 65 = .ok (.iconst 1, 1) := by decide +kernel
theorem dX6_findTree_66 : decode cX6_findTree 66 = .ok (.iadd, 1) := by decide +kernel
theorem dX6_findTree_67 : decode cX6_findTree 67 = .ok (.putfield 126, 3) := by decide +kernel
theorem dX6_findTree_70 : decode cX6_findTree 70 = .ok (.iinc 1 1, 3) := by decide +kernel
theorem dX6_findTree_73 : decode cX6_findTree 73 = .ok (.goto (-36), 3) := by decide +kernel
theorem dX6_findTree_76 : decode cX6_findTree 76 = .ok (.return_, 1) := by decide +kernel
theorem dX6_spread_0 : decode cX6_spread 0 = .ok (.iconst 1, 1) := by decide +kernel
theorem dX6_spread_1 : decode cX6_spread 1 = .ok (.istore_n 2, 1) := by decide +kernel
theorem dX6_spread_2 : decode cX6_spread 2 = .ok (.aload_n 0, 1) := by decide +kernel
theorem dX6_spread_3 : decode cX6_spread 3 = .ok (.getfield 38, 3) := by decide +kernel
theorem dX6_spread_6 : decode cX6_spread 6 = .ok (.iconst 0, 1) := by decide +kernel
theorem dX6_spread_7 : decode cX6_spread 7 = .ok (.iload_n 1, 1) := by decide +kernel
theorem dX6_spread_8 : decode cX6_spread 8 = .ok (.iastore, 1) := by decide +kernel
theorem dX6_spread_9 : decode cX6_spread 9 = .ok (.aload_n 0, 1) := by decide +kernel
theorem dX6_spread_10 : decode cX6_spread 10 = .ok (.getfield 35, 3) := by decide +kernel
theorem dX6_spread_13 : decode cX6_spread 13 = .ok (.iload_n 1, 1) := by decide +kernel
theorem dX6_spread_14 : decode cX6_spread 14 = .ok (.aload_n 0, 1) := by decide +kernel
theorem dX6_spread_15 : decode cX6_spread 15 = .ok (.getfield 126, 3) := by decide +kernel
theorem dX6_spread_18 : decode cX6_spread 18 = .ok (.iastore, 1) := by decide +kernel
theorem dX6_spread_19 : decode cX6_spread 19 = .ok (.iconst 0, 1) := by decide +kernel
theorem dX6_spread_20 : decode cX6_spread 20 = .ok (.istore_n 3, 1) := by decide +kernel
theorem dX6_spread_21 : decode cX6_spread 21 = .ok (.iload_n 3, 1) := by decide +kernel
theorem dX6_spread_22 : decode cX6_spread 22 = .ok (.iload_n 2, 1) := by decide +kernel
theorem dX6_spread_23 : decode cX6_spread 23 = .ok (.if_icmp .ge 101, 3) := by decide +kernel
theorem dX6_spread_26 : decode cX6_spread 26 = .ok (.aload_n 0, 1) := by decide +kernel
theorem dX6_spread_27 : decode cX6_spread 27 = .ok (.getfield 38, 3) := by decide +kernel
theorem dX6_spread_30 : decode cX6_spread 30 = .ok (.iload_n 3, 1) := by decide +kernel
theorem dX6_spread_31 : decode cX6_spread 31 = .ok (.iaload, 1) := by decide +kernel
theorem dX6_spread_32 : decode cX6_spread 32 = .ok (.istore 4, 2) := by decide +kernel
theorem dX6_spread_34 : decode cX6_spread 34 = .ok (.iconst 0, 1) := by decide +kernel
theorem dX6_spread_35 : decode cX6_spread 35 = .ok (.istore 5, 2) := by decide +kernel
theorem dX6_spread_37 : decode cX6_spread 37 = .ok (.iload 5, 2) := by decide +kernel
theorem dX6_spread_39 : decode cX6_spread 39 = .ok (.aload_n 0, 1) := by decide +kernel
theorem dX6_spread_40 : decode cX6_spread 40 = .ok (.getfield 23, 3) := by decide +kernel
theorem dX6_spread_43 : decode cX6_spread 43 = .ok (.iload 4, 2) := by decide +kernel
theorem dX6_spread_45 : decode cX6_spread 45 = .ok (.iaload, 1) := by decide +kernel
theorem dX6_spread_46 : decode cX6_spread 46 = .ok (.if_icmp .ge 72, 3) := by decide +kernel
theorem dX6_spread_49 : decode cX6_spread 49 = .ok (.aload_n 0, 1) := by decide +kernel
theorem dX6_spread_50 : decode cX6_spread 50 = .ok (.aload_n 0, 1) := by decide +kernel
theorem dX6_spread_51 : decode cX6_spread 51 = .ok (.getfield 20, 3) := by decide +kernel
theorem dX6_spread_54 : decode cX6_spread 54 = .ok (.bipush 30, 2) := by decide +kernel
theorem dX6_spread_56 : decode cX6_spread 56 = .ok (.iload 4, 2) := by decide +kernel
theorem dX6_spread_58 : decode cX6_spread 58 = .ok (.imul, 1) := by decide +kernel
theorem dX6_spread_59 : decode cX6_spread 59 = .ok (.iload 5, 2) := by decide +kernel
theorem dX6_spread_61 : decode cX6_spread 61 = .ok (.iadd, 1) := by decide +kernel
theorem dX6_spread_62 : decode cX6_spread 62 = .ok (.iaload, 1) := by decide +kernel
theorem dX6_spread_63 : decode cX6_spread 63 = .ok (.iload 4, 2) := by decide +kernel
theorem dX6_spread_65 : decode cX6_spread 65 = .ok (.invokevirtual 69, 3) := by decide +kernel
theorem dX6_spread_68 : decode cX6_spread 68 = .ok (.istore 6, 2) := by decide +kernel
theorem dX6_spread_70 : decode cX6_spread 70 = .ok (.aload_n 0, 1) := by decide +kernel
theorem dX6_spread_71 : decode cX6_spread 71 = .ok (.getfield 35, 3) := by decide +kernel
theorem dX6_spread_74 : decode cX6_spread 74 = .ok (.iload 6, 2) := by decide +kernel
theorem dX6_spread_76 : decode cX6_spread 76 = .ok (.iaload, 1) := by decide +kernel
theorem dX6_spread_77 : decode cX6_spread 77 = .ok (.iconst (-1), 1) := by decide +kernel
theorem dX6_spread_78 : decode cX6_spread 78 = .ok (.if_icmp .ne 34, 3) := by decide +kernel
theorem dX6_spread_81 : decode cX6_spread 81 = .ok (.aload_n 0, 1) := by decide +kernel
theorem dX6_spread_82 : decode cX6_spread 82 = .ok (.getfield 35, 3) := by decide +kernel
theorem dX6_spread_85 : decode cX6_spread 85 = .ok (.iload 6, 2) := by decide +kernel
theorem dX6_spread_87 : decode cX6_spread 87 = .ok (.aload_n 0, 1) := by decide +kernel
theorem dX6_spread_88 : decode cX6_spread 88 = .ok (.getfield 126, 3) := by decide +kernel
theorem dX6_spread_91 : decode cX6_spread 91 = .ok (.iastore, 1) := by decide +kernel
theorem dX6_spread_92 : decode cX6_spread 92 = .ok (.aload_n 0, 1) := by decide +kernel
theorem dX6_spread_93 : decode cX6_spread 93 = .ok (.getfield 32, 3) := by decide +kernel
theorem dX6_spread_96 : decode cX6_spread 96 = .ok (.iload 6, 2) := by decide +kernel
theorem dX6_spread_98 : decode cX6_spread 98 = .ok (.iload 4, 2) := by decide +kernel
theorem dX6_spread_100 : decode cX6_spread 100 = .ok (.iastore, 1) := by decide +kernel
theorem dX6_spread_101 : decode cX6_spread 101 = .ok (.aload_n 0, 1) := by decide +kernel
theorem dX6_spread_102 : decode cX6_spread 102 = .ok (.getfield 38, 3) := by decide +kernel
theorem dX6_spread_105 : decode cX6_spread 105 = .ok (.iload_n 2, 1) := by decide +kernel
theorem dX6_spread_106 : decode cX6_spread 106 = .ok (.iload 6, 2) := by decide +kernel
theorem dX6_spread_108 : decode cX6_spread 108 = .ok (.iastore, 1) := by decide +kernel
theorem dX6_spread_109 : decode cX6_spread 109 = .ok (.iinc 2 1, 3) := by decide +kernel
theorem dX6_spread_112 : decode cX6_spread 112 = .ok (.iinc 5 1, 3) := by decide +kernel
theorem dX6_spread_115 : decode cX6_spread 115 = .ok (.goto (-78), 3) := by decide +kernel
theorem dX6_spread_118 : decode cX6_spread 118 = .ok (.iinc 3 1, 3) := by decide +kernel
theorem dX6_spread_121 : decode cX6_spread 121 = .ok (.goto (-100), 3) := by decide +kernel
theorem dX6_spread_124 : decode cX6_spread 124 = .ok (.return_, 1) := by decide +kernel
theorem dX6_parts_0 : decode cX6_parts 0 = .ok (.aload_n 0, 1) := by decide +kernel
theorem dX6_parts_1 : decode cX6_parts 1 = .ok (.iconst 0, 1) := by decide +kernel
theorem dX6_parts_2 : decode cX6_parts 2 = .ok (.putfield 59, 3) := by decide +kernel
theorem dX6_parts_5 : decode cX6_parts 5 = .ok (.aload_n 0, 1) := by decide +kernel
theorem dX6_parts_6 : decode cX6_parts 6 = .ok (.invokevirtual 133, 3) := by decide +kernel
theorem dX6_parts_9 : decode cX6_parts 9 = .ok (.aload_n 0, 1) := by decide +kernel
theorem dX6_parts_10 : decode cX6_parts 10 = .ok (.getfield 126, 3) := by decide +kernel
theorem dX6_parts_13 : decode cX6_parts 13 = .ok (.ireturn, 1) := by decide +kernel
theorem dX6_genusOf_0 : decode cX6_genusOf 0 = .ok (.aload_n 0, 1) := by decide +kernel
theorem dX6_genusOf_1 : decode cX6_genusOf 1 = .ok (.invokevirtual 133, 3) := by decide +kernel
theorem dX6_genusOf_4 : decode cX6_genusOf 4 = .ok (.aload_n 0, 1) := by decide +kernel
theorem dX6_genusOf_5 : decode cX6_genusOf 5 = .ok (.invokevirtual 117, 3) := by decide +kernel
theorem dX6_genusOf_8 : decode cX6_genusOf 8 = .ok (.iconst 0, 1) := by decide +kernel
theorem dX6_genusOf_9 : decode cX6_genusOf 9 = .ok (.istore_n 1, 1) := by decide +kernel
theorem dX6_genusOf_10 : decode cX6_genusOf 10 = .ok (.iconst 0, 1) := by decide +kernel
theorem dX6_genusOf_11 : decode cX6_genusOf 11 = .ok (.istore_n 2, 1) := by decide +kernel
theorem dX6_genusOf_12 : decode cX6_genusOf 12 = .ok (.iload_n 2, 1) := by decide +kernel
theorem dX6_genusOf_13 : decode cX6_genusOf 13 = .ok (.aload_n 0, 1) := by decide +kernel
theorem dX6_genusOf_14 : decode cX6_genusOf 14 = .ok (.getfield 63, 3) := by decide +kernel
theorem dX6_genusOf_17 : decode cX6_genusOf 17 = .ok (.if_icmp .ge 26, 3) := by decide +kernel
theorem dX6_genusOf_20 : decode cX6_genusOf 20 = .ok (.aload_n 0, 1) := by decide +kernel
theorem dX6_genusOf_21 : decode cX6_genusOf 21 = .ok (.getfield 23, 3) := by decide +kernel
theorem dX6_genusOf_24 : decode cX6_genusOf 24 = .ok (.iload_n 2, 1) := by decide +kernel
theorem dX6_genusOf_25 : decode cX6_genusOf 25 = .ok (.iaload, 1) := by decide +kernel
theorem dX6_genusOf_26 : decode cX6_genusOf 26 = .ok (.ifCond .ne 9, 3) := by decide +kernel
theorem dX6_genusOf_29 : decode cX6_genusOf 29 = .ok (.iload_n 1, 1) := by decide +kernel
theorem dX6_genusOf_30 : decode cX6_genusOf 30 = .ok (.iconst 1, 1) := by decide +kernel
theorem dX6_genusOf_31 : decode cX6_genusOf 31 = .ok (.iadd, 1) := by decide +kernel
theorem dX6_genusOf_32 : decode cX6_genusOf 32 = .ok (.goto 4, 3) := by decide +kernel
theorem dX6_genusOf_35 : decode cX6_genusOf 35 = .ok (.iload_n 1, 1) := by decide +kernel
theorem dX6_genusOf_36 : decode cX6_genusOf 36 = .ok (.istore_n 1, 1) := by decide +kernel
theorem dX6_genusOf_37 : decode cX6_genusOf 37 = .ok (.iinc 2 1, 3) := by decide +kernel
theorem dX6_genusOf_40 : decode cX6_genusOf 40 = .ok (.goto (-28), 3) := by decide +kernel
theorem dX6_genusOf_43 : decode cX6_genusOf 43 = .ok (.aload_n 0, 1) := by decide +kernel
theorem dX6_genusOf_44 : decode cX6_genusOf 44 = .ok (.getfield 126, 3) := by decide +kernel
theorem dX6_genusOf_47 : decode cX6_genusOf 47 = .ok (.aload_n 0, 1) := by decide +kernel
theorem dX6_genusOf_48 : decode cX6_genusOf 48 = .ok (.getfield 63, 3) := by decide +kernel
theorem dX6_genusOf_51 : decode cX6_genusOf 51 = .ok (.aload_n 0, 1) := by decide +kernel
theorem dX6_genusOf_52 : decode cX6_genusOf 52 = .ok (.getfield 97, 3) := by decide +kernel
theorem dX6_genusOf_55 : decode cX6_genusOf 55 = .ok (.isub, 1) := by decide +kernel
theorem dX6_genusOf_56 : decode cX6_genusOf 56 = .ok (.aload_n 0, 1) := by decide +kernel
theorem dX6_genusOf_57 : decode cX6_genusOf 57 = .ok (.getfield 111, 3) := by decide +kernel
theorem dX6_genusOf_60 : decode cX6_genusOf 60 = .ok (.iadd, 1) := by decide +kernel
theorem dX6_genusOf_61 : decode cX6_genusOf 61 = .ok (.iload_n 1, 1) := by decide +kernel
theorem dX6_genusOf_62 : decode cX6_genusOf 62 = .ok (.iadd, 1) := by decide +kernel
theorem dX6_genusOf_63 : decode cX6_genusOf 63 = .ok (.iconst 2, 1) := by decide +kernel
theorem dX6_genusOf_64 : decode cX6_genusOf 64 = .ok (.idiv, 1) := by decide +kernel
theorem dX6_genusOf_65 : decode cX6_genusOf 65 = .ok (.isub, 1) := by decide +kernel
theorem dX6_genusOf_66 : decode cX6_genusOf 66 = .ok (.ireturn, 1) := by decide +kernel
theorem dX6_genus_0 : decode cX6_genus 0 = .ok (.aload_n 0, 1) := by decide +kernel
theorem dX6_genus_1 : decode cX6_genus 1 = .ok (.iconst 0, 1) := by decide +kernel
theorem dX6_genus_2 : decode cX6_genus 2 = .ok (.putfield 59, 3) := by decide +kernel
theorem dX6_genus_5 : decode cX6_genus 5 = .ok (.aload_n 0, 1) := by decide +kernel
theorem dX6_genus_6 : decode cX6_genus 6 = .ok (.invokevirtual 136, 3) := by decide +kernel
theorem dX6_genus_9 : decode cX6_genus 9 = .ok (.ireturn, 1) := by decide +kernel
theorem dX6_above_0 : decode cX6_above 0 = .ok (.aload_n 0, 1) := by decide +kernel
theorem dX6_above_1 : decode cX6_above 1 = .ok (.aload_n 0, 1) := by decide +kernel
theorem dX6_above_2 : decode cX6_above 2 = .ok (.iload_n 1, 1) := by decide +kernel
theorem dX6_above_3 : decode cX6_above 3 = .ok (.invokevirtual 79, 3) := by decide +kernel
theorem dX6_above_6 : decode cX6_above 6 = .ok (.ifCond .eq 7, 3) := by decide +kernel
theorem dX6_above_9 : decode cX6_above 9 = .ok (.iconst 0, 1) := by decide +kernel
theorem dX6_above_10 : decode cX6_above 10 = .ok (.goto 4, 3) := by decide +kernel
theorem dX6_above_13 : decode cX6_above 13 = .ok (.iconst 1, 1) := by decide +kernel
theorem dX6_above_14 : decode cX6_above 14 = .ok (.putfield 59, 3) := by decide +kernel
theorem dX6_above_17 : decode cX6_above 17 = .ok (.aload_n 0, 1) := by decide +kernel
theorem dX6_above_18 : decode cX6_above 18 = .ok (.getfield 59, 3) := by decide +kernel
theorem dX6_above_21 : decode cX6_above 21 = .ok (.ifCond .le 5, 3) := by decide +kernel
theorem dX6_above_24 : decode cX6_above 24 = .ok (.iconst 0, 1) := by decide +kernel
theorem dX6_above_25 : decode cX6_above 25 = .ok (.ireturn, 1) := by decide +kernel
theorem dX6_above_26 : decode cX6_above 26 = .ok (.aload_n 0, 1) := by decide +kernel
theorem dX6_above_27 : decode cX6_above 27 = .ok (.invokevirtual 133, 3) := by decide +kernel
theorem dX6_above_30 : decode cX6_above 30 = .ok (.aload_n 0, 1) := by decide +kernel
theorem dX6_above_31 : decode cX6_above 31 = .ok (.getfield 32, 3) := by decide +kernel
theorem dX6_above_34 : decode cX6_above 34 = .ok (.iload_n 1, 1) := by decide +kernel
theorem dX6_above_35 : decode cX6_above 35 = .ok (.iaload, 1) := by decide +kernel
theorem dX6_above_36 : decode cX6_above 36 = .ok (.ireturn, 1) := by decide +kernel
theorem dX6_findChain_0 : decode cX6_findChain 0 = .ok (.iconst 0, 1) := by decide +kernel
theorem dX6_findChain_1 : decode cX6_findChain 1 = .ok (.istore 4, 2) := by decide +kernel
theorem dX6_findChain_3 : decode cX6_findChain 3 = .ok (.iload 4, 2) := by decide +kernel
theorem dX6_findChain_5 : decode cX6_findChain 5 = .ok (.bipush 30, 2) := by decide +kernel
theorem dX6_findChain_7 : decode cX6_findChain 7 = .ok (.if_icmp .ge 17, 3) := by decide +kernel
theorem dX6_findChain_10 : decode cX6_findChain 10 = .ok (.aload_n 0, 1) := by decide +kernel
theorem dX6_findChain_11 : decode cX6_findChain 11 = .ok (.getfield 47, 3) := by decide +kernel
theorem dX6_findChain_14 : decode cX6_findChain 14 = .ok (.iload 4, 2) := by decide +kernel
theorem dX6_findChain_16 : decode cX6_findChain 16 = .ok (.iconst 0, 1) := by decide +kernel
theorem dX6_findChain_17 : decode cX6_findChain 17 = .ok (.bastore, 1) := by decide +kernel
theorem dX6_findChain_18 : decode cX6_findChain 18 = .ok (.iinc 4 1, 3) := by decide +kernel
theorem dX6_findChain_21 : decode cX6_findChain 21 = .ok (.goto (-18), 3) := by decide +kernel
theorem dX6_findChain_24 : decode cX6_findChain 24 = .ok (.aload_n 0, 1) := by decide +kernel
theorem dX6_findChain_25 : decode cX6_findChain 25 = .ok (.getfield 47, 3) := by decide +kernel
theorem dX6_findChain_28 : decode cX6_findChain 28 = .ok (.iload_n 1, 1) := by decide +kernel
theorem dX6_findChain_29 : decode cX6_findChain 29 = .ok (.iconst 1, 1) := by decide +kernel
theorem dX6_findChain_30 : decode cX6_findChain 30 = .ok (.bastore, 1) := by decide +kernel
theorem dX6_findChain_31 : decode cX6_findChain 31 = .ok (.aload_n 0, 1) := by decide +kernel
theorem dX6_findChain_32 : decode cX6_findChain 32 = .ok (.getfield 38, 3) := by decide +kernel
theorem dX6_findChain_35 : decode cX6_findChain 35 = .ok (.iconst 0, 1) := by decide +kernel
theorem dX6_findChain_36 : decode cX6_findChain 36 = .ok (.iload_n 1, 1) := by decide +kernel
theorem dX6_findChain_37 : decode cX6_findChain 37 = .ok (.iastore, 1) := by decide +kernel
theorem dX6_findChain_38 : decode cX6_findChain 38 = .ok (.aload_n 0, 1) := by decide +kernel
theorem dX6_findChain_39 : decode cX6_findChain 39 = .ok (.iconst 1, 1) := by decide +kernel
theorem dX6_findChain_40 : decode cX6_findChain 40 = .ok (.putfield 140, 3) := by decide +kernel
theorem dX6_findChain_43 : decode cX6_findChain 43 = .ok (.iconst 0, 1) := by decide +kernel
theorem dX6_findChain_44 : decode cX6_findChain 44 = .ok (.istore 4, 2) := by decide +kernel
theorem dX6_findChain_46 : decode cX6_findChain 46 = .ok (.iload 4, 2) := by decide +kernel
theorem dX6_findChain_48 : decode cX6_findChain 48 = .ok (.aload_n 0, 1) := by decide +kernel
theorem dX6_findChain_49 : decode cX6_findChain 49 = .ok (.getfield 140, 3) := by decide +kernel
theorem dX6_findChain_52 : decode cX6_findChain 52 = .ok (.if_icmp .ge 131, 3) := by decide +kernel
theorem dX6_findChain_55 : decode cX6_findChain 55 = .ok (.aload_n 0, 1) := by decide +kernel
theorem dX6_findChain_56 : decode cX6_findChain 56 = .ok (.getfield 38, 3) := by decide +kernel
theorem dX6_findChain_59 : decode cX6_findChain 59 = .ok (.iload 4, 2) := by decide +kernel
theorem dX6_findChain_61 : decode cX6_findChain 61 = .ok (.iaload, 1) := by decide +kernel
theorem dX6_findChain_62 : decode cX6_findChain 62 = .ok (.istore 5, 2) := by decide +kernel
theorem dX6_findChain_64 : decode cX6_findChain 64 = .ok (.iconst 0, 1) := by decide +kernel
theorem dX6_findChain_65 : decode cX6_findChain 65 = .ok (.istore 6, 2) := by decide +kernel
theorem dX6_findChain_67 : decode cX6_findChain 67 = .ok (.iload 6, 2) := by decide +kernel
theorem dX6_findChain_69 : decode cX6_findChain 69 = .ok (.aload_n 0, 1) := by decide +kernel
theorem dX6_findChain_70 : decode cX6_findChain 70 = .ok (.getfield 23, 3) := by decide +kernel
theorem dX6_findChain_73 : decode cX6_findChain 73 = .ok (.iload 5, 2) := by decide +kernel
theorem dX6_findChain_75 : decode cX6_findChain 75 = .ok (.iaload, 1) := by decide +kernel
theorem dX6_findChain_76 : decode cX6_findChain 76 = .ok (.if_icmp .ge 101, 3) := by decide +kernel
theorem dX6_findChain_79 : decode cX6_findChain 79 = .ok (.aload_n 0, 1) := by decide +kernel
theorem dX6_findChain_80 : decode cX6_findChain 80 = .ok (.aload_n 0, 1) := by decide +kernel
theorem dX6_findChain_81 : decode cX6_findChain 81 = .ok (.getfield 20, 3) := by decide +kernel
theorem dX6_findChain_84 : decode cX6_findChain 84 = .ok (.bipush 30, 2) := by decide +kernel
theorem dX6_findChain_86 : decode cX6_findChain 86 = .ok (.iload 5, 2) := by decide +kernel
theorem dX6_findChain_88 : decode cX6_findChain 88 = .ok (.imul, 1) := by decide +kernel
theorem dX6_findChain_89 : decode cX6_findChain 89 = .ok (.iload 6, 2) := by decide +kernel
theorem dX6_findChain_91 : decode cX6_findChain 91 = .ok (.iadd, 1) := by decide +kernel
theorem dX6_findChain_92 : decode cX6_findChain 92 = .ok (.iaload, 1) := by decide +kernel
theorem dX6_findChain_93 : decode cX6_findChain 93 = .ok (.iload 5, 2) := by decide +kernel
theorem dX6_findChain_95 : decode cX6_findChain 95 = .ok (.invokevirtual 69, 3) := by decide +kernel
theorem dX6_findChain_98 : decode cX6_findChain 98 = .ok (.istore 7, 2) := by decide +kernel
theorem dX6_findChain_100 : decode cX6_findChain 100 = .ok (.aload_n 0, 1) := by decide +kernel
theorem dX6_findChain_101 : decode cX6_findChain 101 = .ok (.getfield 44, 3) := by decide +kernel
theorem dX6_findChain_104 : decode cX6_findChain 104 = .ok (.iload 7, 2) := by decide +kernel
theorem dX6_findChain_106 : decode cX6_findChain 106 = .ok (.baload, 1) := by decide +kernel
theorem dX6_findChain_107 : decode cX6_findChain 107 = .ok (.ifCond .eq 64, 3) := by decide +kernel
theorem dX6_findChain_110 : decode cX6_findChain 110 = .ok (.aload_n 0, 1) := by decide +kernel
theorem dX6_findChain_111 : decode cX6_findChain 111 = .ok (.getfield 47, 3) := by decide +kernel
theorem dX6_findChain_114 : decode cX6_findChain 114 = .ok (.iload 7, 2) := by decide +kernel
theorem dX6_findChain_116 : decode cX6_findChain 116 = .ok (.baload, 1) := by decide +kernel
theorem dX6_findChain_117 : decode cX6_findChain 117 = .ok (.ifCond .ne 54, 3) := by decide +kernel
theorem dX6_findChain_120 : decode cX6_findChain 120 = .ok (.aload_n 0, 1) := by decide +kernel
theorem dX6_findChain_121 : decode cX6_findChain 121 = .ok (.getfield 26, 3) := by decide +kernel
theorem dX6_findChain_124 : decode cX6_findChain 124 = .ok (.iload 7, 2) := by decide +kernel
theorem dX6_findChain_126 : decode cX6_findChain 126 = .ok (.iaload, 1) := by decide +kernel
theorem dX6_findChain_127 : decode cX6_findChain 127 = .ok (.iload_n 2, 1) := by decide +kernel
theorem dX6_findChain_128 : decode cX6_findChain 128 = .ok (.if_icmp .eq 14, 3) := by decide +kernel
theorem dX6_findChain_131 : decode cX6_findChain 131 = .ok (.aload_n 0, 1) := by decide +kernel
theorem dX6_findChain_132 : decode cX6_findChain 132 = .ok (.getfield 26, 3) := by decide +kernel
theorem dX6_findChain_135 : decode cX6_findChain 135 = .ok (.iload 7, 2) := by decide +kernel
theorem dX6_findChain_137 : decode cX6_findChain 137 = .ok (.iaload, 1) := by decide +kernel
theorem dX6_findChain_138 : decode cX6_findChain 138 = .ok (.iload_n 3, 1) := by decide +kernel
theorem dX6_findChain_139 : decode cX6_findChain 139 = .ok (.if_icmp .ne 32, 3) := by decide +kernel
theorem dX6_findChain_142 : decode cX6_findChain 142 = .ok (.aload_n 0, 1) := by decide +kernel
theorem dX6_findChain_143 : decode cX6_findChain 143 = .ok (.getfield 47, 3) := by decide +kernel
theorem dX6_findChain_146 : decode cX6_findChain 146 = .ok (.iload 7, 2) := by decide +kernel
theorem dX6_findChain_148 : decode cX6_findChain 148 = .ok (.iconst 1, 1) := by decide +kernel
theorem dX6_findChain_149 : decode cX6_findChain 149 = .ok (.bastore, 1) := by decide +kernel
theorem dX6_findChain_150 : decode cX6_findChain 150 = .ok (.aload_n 0, 1) := by decide +kernel
theorem dX6_findChain_151 : decode cX6_findChain 151 = .ok (.getfield 38, 3) := by decide +kernel
theorem dX6_findChain_154 : decode cX6_findChain 154 = .ok (.aload_n 0, 1) := by decide +kernel
theorem dX6_findChain_155 : decode cX6_findChain 155 = .ok (.getfield 140, 3) := by decide +kernel
theorem dX6_findChain_158 : decode cX6_findChain 158 = .ok (.iload 7, 2) := by decide +kernel
theorem dX6_findChain_160 : decode cX6_findChain 160 = .ok (.iastore, 1) := by decide +kernel
theorem dX6_findChain_161 : decode cX6_findChain 161 = .ok (.aload_n 0, 1) := by decide +kernel
theorem dX6_findChain_162 : decode cX6_findChain 162 = .ok (.dup, 1) := by decide +kernel
theorem dX6_findChain_163 : decode cX6_findChain 163 = .ok (.getfield 140, 3) := by decide +kernel
theorem dX6_findChain_166 : decode cX6_findChain 166 = .ok (.iconst 1, 1) := by decide +kernel
theorem dX6_findChain_167 : decode cX6_findChain 167 = .ok (.iadd, 1) := by decide +kernel
theorem dX6_findChain_168 : decode cX6_findChain 168 = .ok (.putfield 140, 3) := by decide +kernel
theorem dX6_findChain_171 : decode cX6_findChain 171 = .ok (.iinc 6 1, 3) := by decide +kernel
theorem dX6_findChain_174 : decode cX6_findChain 174 = .ok (.goto (-107), 3) := by decide +kernel
theorem dX6_findChain_177 : decode cX6_findChain 177 = .ok (.iinc 4 1, 3) := by decide +kernel
theorem dX6_findChain_180 : decode cX6_findChain 180 = .ok (.goto (-134), 3) := by decide +kernel
theorem dX6_findChain_183 : decode cX6_findChain 183 = .ok (.return_, 1) := by decide +kernel
theorem dX6_changeChain_0 : decode cX6_changeChain 0 = .ok (.iconst 0, 1) := by decide +kernel
theorem dX6_changeChain_1 : decode cX6_changeChain 1 = .ok (.istore_n 3, 1) := by decide +kernel
theorem dX6_changeChain_2 : decode cX6_changeChain 2 = .ok (.iload_n 3, 1) := by decide +kernel
theorem dX6_changeChain_3 : decode cX6_changeChain 3 = .ok (.aload_n 0, 1) := by decide +kernel
theorem dX6_changeChain_4 : decode cX6_changeChain 4 = .ok (.getfield 63, 3) := by decide +kernel
theorem dX6_changeChain_7 : decode cX6_changeChain 7 = .ok (.if_icmp .ge 34, 3) := by decide +kernel
theorem dX6_changeChain_10 : decode cX6_changeChain 10 = .ok (.aload_n 0, 1) := by decide +kernel
theorem dX6_changeChain_11 : decode cX6_changeChain 11 = .ok (.getfield 47, 3) := by decide +kernel
theorem dX6_changeChain_14 : decode cX6_changeChain 14 = .ok (.iload_n 3, 1) := by decide +kernel
theorem dX6_changeChain_15 : decode cX6_changeChain 15 = .ok (.baload, 1) := by decide +kernel
theorem dX6_changeChain_16 : decode cX6_changeChain 16 = .ok (.ifCond .eq 19, 3) := by decide +kernel
theorem dX6_changeChain_19 : decode cX6_changeChain 19 = .ok (.aload_n 0, 1) := by decide +kernel
theorem dX6_changeChain_20 : decode cX6_changeChain 20 = .ok (.getfield 26, 3) := by decide +kernel
theorem dX6_changeChain_23 : decode cX6_changeChain 23 = .ok (.iload_n 3, 1) := by decide +kernel
theorem dX6_changeChain_24 : decode cX6_changeChain 24 = .ok (.iload_n 1, 1) := by decide +kernel
theorem dX6_changeChain_25 : decode cX6_changeChain 25 = .ok (.iload_n 2, 1) := by decide +kernel
theorem dX6_changeChain_26 : decode cX6_changeChain 26 = .ok (.iadd, 1) := by decide +kernel
theorem dX6_changeChain_27 : decode cX6_changeChain 27 = .ok (.aload_n 0, 1) := by decide +kernel
theorem dX6_changeChain_28 : decode cX6_changeChain 28 = .ok (.getfield 26, 3) := by decide +kernel
theorem dX6_changeChain_31 : decode cX6_changeChain 31 = .ok (.iload_n 3, 1) := by decide +kernel
theorem dX6_changeChain_32 : decode cX6_changeChain 32 = .ok (.iaload, 1) := by decide +kernel
theorem dX6_changeChain_33 : decode cX6_changeChain 33 = .ok (.isub, 1) := by decide +kernel
theorem dX6_changeChain_34 : decode cX6_changeChain 34 = .ok (.iastore, 1) := by decide +kernel
theorem dX6_changeChain_35 : decode cX6_changeChain 35 = .ok (.iinc 3 1, 3) := by decide +kernel
theorem dX6_changeChain_38 : decode cX6_changeChain 38 = .ok (.goto (-36), 3) := by decide +kernel
theorem dX6_changeChain_41 : decode cX6_changeChain 41 = .ok (.return_, 1) := by decide +kernel
theorem dX6_around_0 : decode cX6_around 0 = .ok (.iconst 0, 1) := by decide +kernel
theorem dX6_around_1 : decode cX6_around 1 = .ok (.istore_n 2, 1) := by decide +kernel
theorem dX6_around_2 : decode cX6_around 2 = .ok (.iconst 0, 1) := by decide +kernel
theorem dX6_around_3 : decode cX6_around 3 = .ok (.istore_n 3, 1) := by decide +kernel
theorem dX6_around_4 : decode cX6_around 4 = .ok (.iload_n 3, 1) := by decide +kernel
theorem dX6_around_5 : decode cX6_around 5 = .ok (.aload_n 0, 1) := by decide +kernel
theorem dX6_around_6 : decode cX6_around 6 = .ok (.getfield 23, 3) := by decide +kernel
theorem dX6_around_9 : decode cX6_around 9 = .ok (.iload_n 1, 1) := by decide +kernel
theorem dX6_around_10 : decode cX6_around 10 = .ok (.iaload, 1) := by decide +kernel
theorem dX6_around_11 : decode cX6_around 11 = .ok (.if_icmp .ge 41, 3) := by decide +kernel
theorem dX6_around_14 : decode cX6_around 14 = .ok (.aload_n 0, 1) := by decide +kernel
theorem dX6_around_15 : decode cX6_around 15 = .ok (.getfield 44, 3) := by decide +kernel
theorem dX6_around_18 : decode cX6_around 18 = .ok (.aload_n 0, 1) := by decide +kernel
theorem dX6_around_19 : decode cX6_around 19 = .ok (.aload_n 0, 1) := by decide +kernel
theorem dX6_around_20 : decode cX6_around 20 = .ok (.getfield 20, 3) := by decide +kernel
theorem dX6_around_23 : decode cX6_around 23 = .ok (.bipush 30, 2) := by decide +kernel
theorem dX6_around_25 : decode cX6_around 25 = .ok (.iload_n 1, 1) := by decide +kernel
theorem dX6_around_26 : decode cX6_around 26 = .ok (.imul, 1) := by decide +kernel
theorem dX6_around_27 : decode cX6_around 27 = .ok (.iload_n 3, 1) := by decide +kernel
theorem dX6_around_28 : decode cX6_around 28 = .ok (.iadd, 1) := by decide +kernel
theorem dX6_around_29 : decode cX6_around 29 = .ok (.iaload, 1) := by decide +kernel
theorem dX6_around_30 : decode cX6_around 30 = .ok (.iload_n 1, 1) := by decide +kernel
theorem dX6_around_31 : decode cX6_around 31 = .ok (.invokevirtual 69, 3) := by decide +kernel
theorem dX6_around_34 : decode cX6_around 34 = .ok (.baload, 1) := by decide +kernel
theorem dX6_around_35 : decode cX6_around 35 = .ok (.ifCond .eq 9, 3) := by decide +kernel
theorem dX6_around_38 : decode cX6_around 38 = .ok (.iload_n 2, 1) := by decide +kernel
theorem dX6_around_39 : decode cX6_around 39 = .ok (.iconst 1, 1) := by decide +kernel
theorem dX6_around_40 : decode cX6_around 40 = .ok (.iadd, 1) := by decide +kernel
theorem dX6_around_41 : decode cX6_around 41 = .ok (.goto 4, 3) := by decide +kernel
theorem dX6_around_44 : decode cX6_around 44 = .ok (.iload_n 2, 1) := by decide +kernel
theorem dX6_around_45 : decode cX6_around 45 = .ok (.istore_n 2, 1) := by decide +kernel
theorem dX6_around_46 : decode cX6_around 46 = .ok (.iinc 3 1, 3) := by decide +kernel
theorem dX6_around_49 : decode cX6_around 49 = .ok (.goto (-45), 3) := by decide +kernel
theorem dX6_around_52 : decode cX6_around 52 = .ok (.iload_n 2, 1) := by decide +kernel
theorem dX6_around_53 : decode cX6_around 53 = .ok (.ireturn, 1) := by decide +kernel
theorem dX6_freeColour_0 : decode cX6_freeColour 0 = .ok (.iconst 1, 1) := by decide +kernel
theorem dX6_freeColour_1 : decode cX6_freeColour 1 = .ok (.istore_n 2, 1) := by decide +kernel
theorem dX6_freeColour_2 : decode cX6_freeColour 2 = .ok (.iload_n 2, 1) := by decide +kernel
theorem dX6_freeColour_3 : decode cX6_freeColour 3 = .ok (.bipush 6, 2) := by decide +kernel
theorem dX6_freeColour_5 : decode cX6_freeColour 5 = .ok (.if_icmp .ge 87, 3) := by decide +kernel
theorem dX6_freeColour_8 : decode cX6_freeColour 8 = .ok (.iconst 1, 1) := by decide +kernel
theorem dX6_freeColour_9 : decode cX6_freeColour 9 = .ok (.istore_n 3, 1) := by decide +kernel
theorem dX6_freeColour_10 : decode cX6_freeColour 10 = .ok (.iconst 0, 1) := by decide +kernel
theorem dX6_freeColour_11 : decode cX6_freeColour 11 = .ok (.istore 4, 2) := by decide +kernel
theorem dX6_freeColour_13 : decode cX6_freeColour 13 = .ok (.iload 4, 2) := by decide +kernel
theorem dX6_freeColour_15 : decode cX6_freeColour 15 = .ok (.aload_n 0, 1) := by decide +kernel
theorem dX6_freeColour_16 : decode cX6_freeColour 16 = .ok (.getfield 23, 3) := by decide +kernel
theorem dX6_freeColour_19 : decode cX6_freeColour 19 = .ok (.iload_n 1, 1) := by decide +kernel
theorem dX6_freeColour_20 : decode cX6_freeColour 20 = .ok (.iaload, 1) := by decide +kernel
theorem dX6_freeColour_21 : decode cX6_freeColour 21 = .ok (.if_icmp .ge 59, 3) := by decide +kernel
theorem dX6_freeColour_24 : decode cX6_freeColour 24 = .ok (.aload_n 0, 1) := by decide +kernel
theorem dX6_freeColour_25 : decode cX6_freeColour 25 = .ok (.aload_n 0, 1) := by decide +kernel
theorem dX6_freeColour_26 : decode cX6_freeColour 26 = .ok (.getfield 20, 3) := by decide +kernel
theorem dX6_freeColour_29 : decode cX6_freeColour 29 = .ok (.bipush 30, 2) := by decide +kernel
theorem dX6_freeColour_31 : decode cX6_freeColour 31 = .ok (.iload_n 1, 1) := by decide +kernel
theorem dX6_freeColour_32 : decode cX6_freeColour 32 = .ok (.imul, 1) := by decide +kernel
theorem dX6_freeColour_33 : decode cX6_freeColour 33 = .ok (.iload 4, 2) := by decide +kernel
theorem dX6_freeColour_35 : decode cX6_freeColour 35 = .ok (.iadd, 1) := by decide +kernel
theorem dX6_freeColour_36 : decode cX6_freeColour 36 = .ok (.iaload, 1) := by decide +kernel
theorem dX6_freeColour_37 : decode cX6_freeColour 37 = .ok (.iload_n 1, 1) := by decide +kernel
theorem dX6_freeColour_38 : decode cX6_freeColour 38 = .ok (.invokevirtual 69, 3) := by decide +kernel
theorem dX6_freeColour_41 : decode cX6_freeColour 41 = .ok (.istore 5, 2) := by decide +kernel
theorem dX6_freeColour_43 : decode cX6_freeColour 43 = .ok (.iload_n 3, 1) := by decide +kernel
theorem dX6_freeColour_44 : decode cX6_freeColour 44 = .ok (.ifCond .eq 28, 3) := by decide +kernel
theorem dX6_freeColour_47 : decode cX6_freeColour 47 = .ok (.aload_n 0, 1) := by decide +kernel
theorem dX6_freeColour_48 : decode cX6_freeColour 48 = .ok (.getfield 44, 3) := by decide +kernel
theorem dX6_freeColour_51 : decode cX6_freeColour 51 = .ok (.iload 5, 2) := by decide +kernel
theorem dX6_freeColour_53 : decode cX6_freeColour 53 = .ok (.baload, 1) := by decide +kernel
theorem dX6_freeColour_54 : decode cX6_freeColour 54 = .ok (.ifCond .eq 14, 3) := by decide +kernel
theorem dX6_freeColour_57 : decode cX6_freeColour 57 = .ok (.aload_n 0, 1) := by decide +kernel
theorem dX6_freeColour_58 : decode cX6_freeColour 58 = .ok (.getfield 26, 3) := by decide +kernel
theorem dX6_freeColour_61 : decode cX6_freeColour 61 = .ok (.iload 5, 2) := by decide +kernel
theorem dX6_freeColour_63 : decode cX6_freeColour 63 = .ok (.iaload, 1) := by decide +kernel
theorem dX6_freeColour_64 : decode cX6_freeColour 64 = .ok (.iload_n 2, 1) := by decide +kernel
theorem dX6_freeColour_65 : decode cX6_freeColour 65 = .ok (.if_icmp .eq 7, 3) := by decide +kernel
theorem dX6_freeColour_68 : decode cX6_freeColour 68 = .ok (.iconst 1, 1) := by decide +kernel
theorem dX6_freeColour_69 : decode cX6_freeColour 69 = .ok (.goto 4, 3) := by decide +kernel
theorem dX6_freeColour_72 : decode cX6_freeColour 72 = .ok (.iconst 0, 1) := by decide +kernel
theorem dX6_freeColour_73 : decode cX6_freeColour 73 = .ok (.istore_n 3, 1) := by decide +kernel
theorem dX6_freeColour_74 : decode cX6_freeColour 74 = .ok (.iinc 4 1, 3) := by decide +kernel
theorem dX6_freeColour_77 : decode cX6_freeColour 77 = .ok (.goto (-64), 3) := by decide +kernel
theorem dX6_freeColour_80 : decode cX6_freeColour 80 = .ok (.iload_n 3, 1) := by decide +kernel
theorem dX6_freeColour_81 : decode cX6_freeColour 81 = .ok (.ifCond .eq 5, 3) := by decide +kernel
theorem dX6_freeColour_84 : decode cX6_freeColour 84 = .ok (.iload_n 2, 1) := by decide +kernel
theorem dX6_freeColour_85 : decode cX6_freeColour 85 = .ok (.ireturn, 1) := by decide +kernel
theorem dX6_freeColour_86 : decode cX6_freeColour 86 = .ok (.iinc 2 1, 3) := by decide +kernel
theorem dX6_freeColour_89 : decode cX6_freeColour 89 = .ok (.goto (-87), 3) := by decide +kernel
theorem dX6_freeColour_92 : decode cX6_freeColour 92 = .ok (.iconst 0, 1) := by decide +kernel
theorem dX6_freeColour_93 : decode cX6_freeColour 93 = .ok (.ireturn, 1) := by decide +kernel
theorem dX6_neighbour_0 : decode cX6_neighbour 0 = .ok (.iconst 0, 1) := by decide +kernel
theorem dX6_neighbour_1 : decode cX6_neighbour 1 = .ok (.istore_n 3, 1) := by decide +kernel
theorem dX6_neighbour_2 : decode cX6_neighbour 2 = .ok (.iconst 0, 1) := by decide +kernel
theorem dX6_neighbour_3 : decode cX6_neighbour 3 = .ok (.istore 4, 2) := by decide +kernel
theorem dX6_neighbour_5 : decode cX6_neighbour 5 = .ok (.iload 4, 2) := by decide +kernel
theorem dX6_neighbour_7 : decode cX6_neighbour 7 = .ok (.aload_n 0, 1) := by decide +kernel
theorem dX6_neighbour_8 : decode cX6_neighbour 8 = .ok (.getfield 23, 3) := by decide +kernel
theorem dX6_neighbour_11 : decode cX6_neighbour 11 = .ok (.iload_n 1, 1) := by decide +kernel
theorem dX6_neighbour_12 : decode cX6_neighbour 12 = .ok (.iaload, 1) := by decide +kernel
theorem dX6_neighbour_13 : decode cX6_neighbour 13 = .ok (.if_icmp .ge 49, 3) := by decide +kernel
theorem dX6_neighbour_16 : decode cX6_neighbour 16 = .ok (.aload_n 0, 1) := by decide +kernel
theorem dX6_neighbour_17 : decode cX6_neighbour 17 = .ok (.aload_n 0, 1) := by decide +kernel
theorem dX6_neighbour_18 : decode cX6_neighbour 18 = .ok (.getfield 20, 3) := by decide +kernel
theorem dX6_neighbour_21 : decode cX6_neighbour 21 = .ok (.bipush 30, 2) := by decide +kernel
theorem dX6_neighbour_23 : decode cX6_neighbour 23 = .ok (.iload_n 1, 1) := by decide +kernel
theorem dX6_neighbour_24 : decode cX6_neighbour 24 = .ok (.imul, 1) := by decide +kernel
theorem dX6_neighbour_25 : decode cX6_neighbour 25 = .ok (.iload 4, 2) := by decide +kernel
theorem dX6_neighbour_27 : decode cX6_neighbour 27 = .ok (.iadd, 1) := by decide +kernel
theorem dX6_neighbour_28 : decode cX6_neighbour 28 = .ok (.iaload, 1) := by decide +kernel
theorem dX6_neighbour_29 : decode cX6_neighbour 29 = .ok (.iload_n 1, 1) := by decide +kernel
theorem dX6_neighbour_30 : decode cX6_neighbour 30 = .ok (.invokevirtual 69, 3) := by decide +kernel
theorem dX6_neighbour_33 : decode cX6_neighbour 33 = .ok (.istore 5, 2) := by decide +kernel
theorem dX6_neighbour_35 : decode cX6_neighbour 35 = .ok (.aload_n 0, 1) := by decide +kernel
theorem dX6_neighbour_36 : decode cX6_neighbour 36 = .ok (.getfield 44, 3) := by decide +kernel
theorem dX6_neighbour_39 : decode cX6_neighbour 39 = .ok (.iload 5, 2) := by decide +kernel
theorem dX6_neighbour_41 : decode cX6_neighbour 41 = .ok (.baload, 1) := by decide +kernel
theorem dX6_neighbour_42 : decode cX6_neighbour 42 = .ok (.ifCond .eq 14, 3) := by decide +kernel
theorem dX6_neighbour_45 : decode cX6_neighbour 45 = .ok (.iload_n 3, 1) := by decide +kernel
theorem dX6_neighbour_46 : decode cX6_neighbour 46 = .ok (.iload_n 2, 1) := by decide +kernel
theorem dX6_neighbour_47 : decode cX6_neighbour 47 = .ok (.if_icmp .ne 6, 3) := by decide +kernel
theorem dX6_neighbour_50 : decode cX6_neighbour 50 = .ok (.iload 5, 2) := by decide +kernel
theorem dX6_neighbour_52 : decode cX6_neighbour 52 = .ok (.ireturn, 1) := by decide +kernel
theorem dX6_neighbour_53 : decode cX6_neighbour 53 = .ok (.iinc 3 1, 3) := by decide +kernel
theorem dX6_neighbour_56 : decode cX6_neighbour 56 = .ok (.iinc 4 1, 3) := by decide +kernel
theorem dX6_neighbour_59 : decode cX6_neighbour 59 = .ok (.goto (-54), 3) := by decide +kernel
theorem dX6_neighbour_62 : decode cX6_neighbour 62 = .ok (.iconst (-1), 1) := by decide +kernel
theorem dX6_neighbour_63 : decode cX6_neighbour 63 = .ok (.ireturn, 1) := by decide +kernel
theorem dX6_makeFree_0 : decode cX6_makeFree 0 = .ok (.aload_n 0, 1) := by decide +kernel
theorem dX6_makeFree_1 : decode cX6_makeFree 1 = .ok (.iload_n 1, 1) := by decide +kernel
theorem dX6_makeFree_2 : decode cX6_makeFree 2 = .ok (.iconst 0, 1) := by decide +kernel
theorem dX6_makeFree_3 : decode cX6_makeFree 3 = .ok (.invokevirtual 143, 3) := by decide +kernel
theorem dX6_makeFree_6 : decode cX6_makeFree 6 = .ok (.istore_n 2, 1) := by decide +kernel
theorem dX6_makeFree_7 : decode cX6_makeFree 7 = .ok (.aload_n 0, 1) := by decide +kernel
theorem dX6_makeFree_8 : decode cX6_makeFree 8 = .ok (.iload_n 1, 1) := by decide +kernel
theorem dX6_makeFree_9 : decode cX6_makeFree 9 = .ok (.iconst 2, 1) := by decide +kernel
theorem dX6_makeFree_10 : decode cX6_makeFree 10 = .ok (.invokevirtual 143, 3) := by decide +kernel
theorem dX6_makeFree_13 : decode cX6_makeFree 13 = .ok (.istore_n 3, 1) := by decide +kernel
theorem dX6_makeFree_14 : decode cX6_makeFree 14 = .ok (.aload_n 0, 1) := by decide +kernel
theorem dX6_makeFree_15 : decode cX6_makeFree 15 = .ok (.iload_n 2, 1) := by decide +kernel
theorem dX6_makeFree_16 : decode cX6_makeFree 16 = .ok (.aload_n 0, 1) := by decide +kernel
theorem dX6_makeFree_17 : decode cX6_makeFree 17 = .ok (.getfield 26, 3) := by decide +kernel
theorem dX6_makeFree_20 : decode cX6_makeFree 20 = .ok (.iload_n 2, 1) := by decide +kernel
theorem dX6_makeFree_21 : decode cX6_makeFree 21 = .ok (.iaload, 1) := by decide +kernel
theorem dX6_makeFree_22 : decode cX6_makeFree 22 = .ok (.aload_n 0, 1) := by decide +kernel
theorem dX6_makeFree_23 : decode cX6_makeFree 23 = .ok (.getfield 26, 3) := by decide +kernel
theorem dX6_makeFree_26 : decode cX6_makeFree 26 = .ok (.iload_n 3, 1) := by decide +kernel
theorem dX6_makeFree_27 : decode cX6_makeFree 27 = .ok (.iaload, 1) := by decide +kernel
theorem dX6_makeFree_28 : decode cX6_makeFree 28 = .ok (.invokevirtual 146, 3) := by decide +kernel
theorem dX6_makeFree_31 : decode cX6_makeFree 31 = .ok (.aload_n 0, 1) := by decide +kernel
theorem dX6_makeFree_32 : decode cX6_makeFree 32 = .ok (.getfield 47, 3) := by decide +kernel
theorem dX6_makeFree_35 : decode cX6_makeFree 35 = .ok (.iload_n 3, 1) := by decide +kernel
theorem dX6_makeFree_36 : decode cX6_makeFree 36 = .ok (.baload, 1) := by decide +kernel
theorem dX6_makeFree_37 : decode cX6_makeFree 37 = .ok (.ifCond .eq 34, 3) := by decide +kernel
theorem dX6_makeFree_40 : decode cX6_makeFree 40 = .ok (.aload_n 0, 1) := by decide +kernel
theorem dX6_makeFree_41 : decode cX6_makeFree 41 = .ok (.iload_n 1, 1) := by decide +kernel
theorem dX6_makeFree_42 : decode cX6_makeFree 42 = .ok (.iconst 1, 1) := by decide +kernel
theorem dX6_makeFree_43 : decode cX6_makeFree 43 = .ok (.invokevirtual 143, 3) := by decide +kernel
theorem dX6_makeFree_46 : decode cX6_makeFree 46 = .ok (.istore_n 2, 1) := by decide +kernel
theorem dX6_makeFree_47 : decode cX6_makeFree 47 = .ok (.aload_n 0, 1) := by decide +kernel
theorem dX6_makeFree_48 : decode cX6_makeFree 48 = .ok (.iload_n 1, 1) := by decide +kernel
theorem dX6_makeFree_49 : decode cX6_makeFree 49 = .ok (.iconst 3, 1) := by decide +kernel
theorem dX6_makeFree_50 : decode cX6_makeFree 50 = .ok (.invokevirtual 143, 3) := by decide +kernel
theorem dX6_makeFree_53 : decode cX6_makeFree 53 = .ok (.istore_n 3, 1) := by decide +kernel
theorem dX6_makeFree_54 : decode cX6_makeFree 54 = .ok (.aload_n 0, 1) := by decide +kernel
theorem dX6_makeFree_55 : decode cX6_makeFree 55 = .ok (.iload_n 2, 1) := by decide +kernel
theorem dX6_makeFree_56 : decode cX6_makeFree 56 = .ok (.aload_n 0, 1) := by decide +kernel
theorem dX6_makeFree_57 : decode cX6_makeFree 57 = .ok (.getfield 26, 3) := by decide +kernel
theorem dX6_makeFree_60 : decode cX6_makeFree 60 = .ok (.iload_n 2, 1) := by decide +kernel
theorem dX6_makeFree_61 : decode cX6_makeFree 61 = .ok (.iaload, 1) := by decide +kernel
theorem dX6_makeFree_62 : decode cX6_makeFree 62 = .ok (.aload_n 0, 1) := by decide +kernel
theorem dX6_makeFree_63 : decode cX6_makeFree 63 = .ok (.getfield 26, 3) := by decide +kernel
theorem dX6_makeFree_66 : decode cX6_makeFree 66 = .ok (.iload_n 3, 1) := by decide +kernel
theorem dX6_makeFree_67 : decode cX6_makeFree 67 = .ok (.iaload, 1) := by decide +kernel
theorem dX6_makeFree_68 : decode cX6_makeFree 68 = .ok (.invokevirtual 146, 3) := by decide +kernel
theorem dX6_makeFree_71 : decode cX6_makeFree 71 = .ok (.aload_n 0, 1) := by decide +kernel
theorem dX6_makeFree_72 : decode cX6_makeFree 72 = .ok (.getfield 26, 3) := by decide +kernel
theorem dX6_makeFree_75 : decode cX6_makeFree 75 = .ok (.iload_n 2, 1) := by decide +kernel
theorem dX6_makeFree_76 : decode cX6_makeFree 76 = .ok (.iaload, 1) := by decide +kernel
theorem dX6_makeFree_77 : decode cX6_makeFree 77 = .ok (.istore 4, 2) := by decide +kernel
theorem dX6_makeFree_79 : decode cX6_makeFree 79 = .ok (.aload_n 0, 1) := by decide +kernel
theorem dX6_makeFree_80 : decode cX6_makeFree 80 = .ok (.iload 4, 2) := by decide +kernel
theorem dX6_makeFree_82 : decode cX6_makeFree 82 = .ok (.aload_n 0, 1) := by decide +kernel
theorem dX6_makeFree_83 : decode cX6_makeFree 83 = .ok (.getfield 26, 3) := by decide +kernel
theorem dX6_makeFree_86 : decode cX6_makeFree 86 = .ok (.iload_n 3, 1) := by decide +kernel
theorem dX6_makeFree_87 : decode cX6_makeFree 87 = .ok (.iaload, 1) := by decide +kernel
theorem dX6_makeFree_88 : decode cX6_makeFree 88 = .ok (.invokevirtual 149, 3) := by decide +kernel
theorem dX6_makeFree_91 : decode cX6_makeFree 91 = .ok (.aload_n 0, 1) := by decide +kernel
theorem dX6_makeFree_92 : decode cX6_makeFree 92 = .ok (.dup, 1) := by decide +kernel
theorem dX6_makeFree_93 : decode cX6_makeFree 93 = .ok (.getfield 73, 3) := by decide +kernel
theorem dX6_makeFree_96 : decode cX6_makeFree 96 = .ok (.iconst 1, 1) := by decide +kernel
theorem dX6_makeFree_97 : decode cX6_makeFree 97 = .ok (.iadd, 1) := by decide +kernel
theorem dX6_makeFree_98 : decode cX6_makeFree 98 = .ok (.putfield 73, 3) := by decide +kernel
theorem dX6_makeFree_101 : decode cX6_makeFree 101 = .ok (.iload 4, 2) := by decide +kernel
theorem dX6_makeFree_103 : decode cX6_makeFree 103 = .ok (.ireturn, 1) := by decide +kernel
theorem dX6_colourCount_0 : decode cX6_colourCount 0 = .ok (.iconst 0, 1) := by decide +kernel
theorem dX6_colourCount_1 : decode cX6_colourCount 1 = .ok (.istore_n 1, 1) := by decide +kernel
theorem dX6_colourCount_2 : decode cX6_colourCount 2 = .ok (.iconst 1, 1) := by decide +kernel
theorem dX6_colourCount_3 : decode cX6_colourCount 3 = .ok (.istore_n 2, 1) := by decide +kernel
theorem dX6_colourCount_4 : decode cX6_colourCount 4 = .ok (.iload_n 2, 1) := by decide +kernel
theorem dX6_colourCount_5 : decode cX6_colourCount 5 = .ok (.bipush 6, 2) := by decide +kernel
theorem dX6_colourCount_7 : decode cX6_colourCount 7 = .ok (.if_icmp .ge 62, 3) := by decide +kernel
theorem dX6_colourCount_10 : decode cX6_colourCount 10 = .ok (.iconst 0, 1) := by decide +kernel
theorem dX6_colourCount_11 : decode cX6_colourCount 11 = .ok (.istore_n 3, 1) := by decide +kernel
theorem dX6_colourCount_12 : decode cX6_colourCount 12 = .ok (.iconst 0, 1) := by decide +kernel
theorem dX6_colourCount_13 : decode cX6_colourCount 13 = .ok (.istore 4, 2) := by decide +kernel
theorem dX6_colourCount_15 : decode cX6_colourCount 15 = .ok (.iload 4, 2) := by decide +kernel
theorem dX6_colourCount_17 : decode cX6_colourCount 17 = .ok (.aload_n 0, 1) := by decide +kernel
theorem dX6_colourCount_18 : decode cX6_colourCount 18 = .ok (.getfield 63, 3) := by decide +kernel
theorem dX6_colourCount_21 : decode cX6_colourCount 21 = .ok (.if_icmp .ge 30, 3) := by decide +kernel
theorem dX6_colourCount_24 : decode cX6_colourCount 24 = .ok (.iload_n 3, 1) := by decide +kernel
theorem dX6_colourCount_25 : decode cX6_colourCount 25 = .ok (.ifCond .ne 14, 3) := by decide +kernel
theorem dX6_colourCount_28 : decode cX6_colourCount 28 = .ok (.aload_n 0, 1) := by decide +kernel
theorem dX6_colourCount_29 : decode cX6_colourCount 29 = .ok (.getfield 26, 3) := by decide +kernel
theorem dX6_colourCount_32 : decode cX6_colourCount 32 = .ok (.iload 4, 2) := by decide +kernel
theorem dX6_colourCount_34 : decode cX6_colourCount 34 = .ok (.iaload, 1) := by decide +kernel
theorem dX6_colourCount_35 : decode cX6_colourCount 35 = .ok (.iload_n 2, 1) := by decide +kernel
theorem dX6_colourCount_36 : decode cX6_colourCount 36 = .ok (.if_icmp .ne 7, 3) := by decide +kernel
theorem dX6_colourCount_39 : decode cX6_colourCount 39 = .ok (.iconst 1, 1) := by decide +kernel
theorem dX6_colourCount_40 : decode cX6_colourCount 40 = .ok (.goto 4, 3) := by decide +kernel
theorem dX6_colourCount_43 : decode cX6_colourCount 43 = .ok (.iconst 0, 1) := by decide +kernel
theorem dX6_colourCount_44 : decode cX6_colourCount 44 = .ok (.istore_n 3, 1) := by decide +kernel
theorem dX6_colourCount_45 : decode cX6_colourCount 45 = .ok (.iinc 4 1, 3) := by decide +kernel
theorem dX6_colourCount_48 : decode cX6_colourCount 48 = .ok (.goto (-33), 3) := by decide +kernel
theorem dX6_colourCount_51 : decode cX6_colourCount 51 = .ok (.iload_n 3, 1) := by decide +kernel
theorem dX6_colourCount_52 : decode cX6_colourCount 52 = .ok (.ifCond .eq 9, 3) := by decide +kernel
theorem dX6_colourCount_55 : decode cX6_colourCount 55 = .ok (.iload_n 1, 1) := by decide +kernel
theorem dX6_colourCount_56 : decode cX6_colourCount 56 = .ok (.iconst 1, 1) := by decide +kernel
theorem dX6_colourCount_57 : decode cX6_colourCount 57 = .ok (.iadd, 1) := by decide +kernel
theorem dX6_colourCount_58 : decode cX6_colourCount 58 = .ok (.goto 4, 3) := by decide +kernel
theorem dX6_colourCount_61 : decode cX6_colourCount 61 = .ok (.iload_n 1, 1) := by decide +kernel
theorem dX6_colourCount_62 : decode cX6_colourCount 62 = .ok (.istore_n 1, 1) := by decide +kernel
theorem dX6_colourCount_63 : decode cX6_colourCount 63 = .ok (.iinc 2 1, 3) := by decide +kernel
theorem dX6_colourCount_66 : decode cX6_colourCount 66 = .ok (.goto (-62), 3) := by decide +kernel
theorem dX6_colourCount_69 : decode cX6_colourCount 69 = .ok (.iload_n 1, 1) := by decide +kernel
theorem dX6_colourCount_70 : decode cX6_colourCount 70 = .ok (.ireturn, 1) := by decide +kernel
theorem dX6_colour_0 : decode cX6_colour 0 = .ok (.aload_n 0, 1) := by decide +kernel
theorem dX6_colour_1 : decode cX6_colour 1 = .ok (.aload_n 0, 1) := by decide +kernel
theorem dX6_colour_2 : decode cX6_colour 2 = .ok (.invokevirtual 136, 3) := by decide +kernel
theorem dX6_colour_5 : decode cX6_colour 5 = .ok (.ifCond .ne 7, 3) := by decide +kernel
theorem dX6_colour_8 : decode cX6_colour 8 = .ok (.iconst 0, 1) := by decide +kernel
theorem dX6_colour_9 : decode cX6_colour 9 = .ok (.goto 4, 3) := by decide +kernel
theorem dX6_colour_12 : decode cX6_colour 12 = .ok (.iconst 1, 1) := by decide +kernel
theorem dX6_colour_13 : decode cX6_colour 13 = .ok (.putfield 59, 3) := by decide +kernel
theorem dX6_colour_16 : decode cX6_colour 16 = .ok (.aload_n 0, 1) := by decide +kernel
theorem dX6_colour_17 : decode cX6_colour 17 = .ok (.getfield 59, 3) := by decide +kernel
theorem dX6_colour_20 : decode cX6_colour 20 = .ok (.ifCond .le 5, 3) := by decide +kernel
theorem dX6_colour_23 : decode cX6_colour 23 = .ok (.iconst 0, 1) := by decide +kernel
theorem dX6_colour_24 : decode cX6_colour 24 = .ok (.ireturn, 1) := by decide +kernel
theorem dX6_colour_25 : decode cX6_colour 25 = .ok (.aload_n 0, 1) := by decide +kernel
theorem dX6_colour_26 : decode cX6_colour 26 = .ok (.iconst 0, 1) := by decide +kernel
theorem dX6_colour_27 : decode cX6_colour 27 = .ok (.putfield 73, 3) := by decide +kernel
theorem dX6_colour_30 : decode cX6_colour 30 = .ok (.iconst 0, 1) := by decide +kernel
theorem dX6_colour_31 : decode cX6_colour 31 = .ok (.istore_n 1, 1) := by decide +kernel
theorem dX6_colour_32 : decode cX6_colour 32 = .ok (.iload_n 1, 1) := by decide +kernel
theorem dX6_colour_33 : decode cX6_colour 33 = .ok (.aload_n 0, 1) := by decide +kernel
theorem dX6_colour_34 : decode cX6_colour 34 = .ok (.getfield 63, 3) := by decide +kernel
theorem dX6_colour_37 : decode cX6_colour 37 = .ok (.if_icmp .ge 23, 3) := by decide +kernel
theorem dX6_colour_40 : decode cX6_colour 40 = .ok (.aload_n 0, 1) := by decide +kernel
theorem dX6_colour_41 : decode cX6_colour 41 = .ok (.getfield 44, 3) := by decide +kernel
theorem dX6_colour_44 : decode cX6_colour 44 = .ok (.iload_n 1, 1) := by decide +kernel
theorem dX6_colour_45 : decode cX6_colour 45 = .ok (.iconst 1, 1) := by decide +kernel
theorem dX6_colour_46 : decode cX6_colour 46 = .ok (.bastore, 1) := by decide +kernel
theorem dX6_colour_47 : decode cX6_colour 47 = .ok (.aload_n 0, 1) := by decide +kernel
theorem dX6_colour_48 : decode cX6_colour 48 = .ok (.getfield 26, 3) := by decide +kernel
theorem dX6_colour_51 : decode cX6_colour 51 = .ok (.iload_n 1, 1) := by decide +kernel
theorem dX6_colour_52 : decode cX6_colour 52 = .ok (.iconst 0, 1) := by decide +kernel
theorem dX6_colour_53 : decode cX6_colour 53 = .ok (.iastore, 1) := by decide +kernel
theorem dX6_colour_54 : decode cX6_colour 54 = .ok (.iinc 1 1, 3) := by decide +kernel
theorem dX6_colour_57 : decode cX6_colour 57 = .ok (.goto (-25), 3) := by decide +kernel
theorem dX6_colour_60 : decode cX6_colour 60 = .ok (.iconst 0, 1) := by decide +kernel
theorem dX6_colour_61 : decode cX6_colour 61 = .ok (.istore_n 1, 1) := by decide +kernel
theorem dX6_colour_62 : decode cX6_colour 62 = .ok (.iload_n 1, 1) := by decide +kernel
theorem dX6_colour_63 : decode cX6_colour 63 = .ok (.aload_n 0, 1) := by decide +kernel
theorem dX6_colour_64 : decode cX6_colour 64 = .ok (.getfield 63, 3) := by decide +kernel
theorem dX6_colour_67 : decode cX6_colour 67 = .ok (.if_icmp .ge 49, 3) := by decide +kernel
theorem dX6_colour_70 : decode cX6_colour 70 = .ok (.iconst 0, 1) := by decide +kernel
theorem dX6_colour_71 : decode cX6_colour 71 = .ok (.istore_n 2, 1) := by decide +kernel
theorem dX6_colour_72 : decode cX6_colour 72 = .ok (.aload_n 0, 1) := by decide +kernel
theorem dX6_colour_73 : decode cX6_colour 73 = .ok (.getfield 44, 3) := by decide +kernel
theorem dX6_colour_76 : decode cX6_colour 76 = .ok (.iload_n 2, 1) := by decide +kernel
theorem dX6_colour_77 : decode cX6_colour 77 = .ok (.baload, 1) := by decide +kernel
theorem dX6_colour_78 : decode cX6_colour 78 = .ok (.ifCond .eq 12, 3) := by decide +kernel
theorem dX6_colour_81 : decode cX6_colour 81 = .ok (.aload_n 0, 1) := by decide +kernel
theorem dX6_colour_82 : decode cX6_colour 82 = .ok (.iload_n 2, 1) := by decide +kernel
theorem dX6_colour_83 : decode cX6_colour 83 = .ok (.invokevirtual 152, 3) := by decide +kernel
theorem dX6_colour_86 : decode cX6_colour 86 = .ok (.iconst 5, 1) := by decide +kernel
theorem dX6_colour_87 : decode cX6_colour 87 = .ok (.if_icmp .le 9, 3) := by decide +kernel
theorem dX6_colour_90 : decode cX6_colour 90 = .ok (.iinc 2 1, 3) := by decide +kernel
theorem dX6_colour_93 : decode cX6_colour 93 = .ok (.goto (-21), 3) := by decide +kernel
theorem dX6_colour_96 : decode cX6_colour 96 = .ok (.aload_n 0, 1) := by decide +kernel
theorem dX6_colour_97 : decode cX6_colour 97 = .ok (.getfield 44, 3) := by decide +kernel
theorem dX6_colour_100 : decode cX6_colour 100 = .ok (.iload_n 2, 1) := by decide +kernel
theorem dX6_colour_101 : decode cX6_colour 101 = .ok (.iconst 0, 1) := by decide +kernel
theorem dX6_colour_102 : decode cX6_colour 102 = .ok (.bastore, 1) := by decide +kernel
theorem dX6_colour_103 : decode cX6_colour 103 = .ok (.aload_n 0, 1) := by decide +kernel
theorem dX6_colour_104 : decode cX6_colour 104 = .ok (.getfield 41, 3) := by decide +kernel
theorem dX6_colour_107 : decode cX6_colour 107 = .ok (.iload_n 1, 1) := by decide +kernel
theorem dX6_colour_108 : decode cX6_colour 108 = .ok (.iload_n 2, 1) := by decide +kernel
theorem dX6_colour_109 : decode cX6_colour 109 = .ok (.iastore, 1) := by decide +kernel
theorem dX6_colour_110 : decode cX6_colour 110 = .ok (.iinc 1 1, 3) := by decide +kernel
theorem dX6_colour_113 : decode cX6_colour 113 = .ok (.goto (-51), 3) := by decide +kernel
theorem dX6_colour_116 : decode cX6_colour 116 = .ok (.aload_n 0, 1) := by decide +kernel
theorem dX6_colour_117 : decode cX6_colour 117 = .ok (.getfield 63, 3) := by decide +kernel
theorem dX6_colour_120 : decode cX6_colour 120 = .ok (.iconst 1, 1) := by decide +kernel
theorem dX6_colour_121 : decode cX6_colour 121 = .ok (.isub, 1) := by decide +kernel
theorem dX6_colour_122 : decode cX6_colour 122 = .ok (.istore_n 1, 1) := by decide +kernel
theorem dX6_colour_123 : decode cX6_colour 123 = .ok (.iload_n 1, 1) := by decide +kernel
theorem dX6_colour_124 : decode cX6_colour 124 = .ok (.ifCond .lt 50, 3) := by decide +kernel
theorem dX6_colour_127 : decode cX6_colour 127 = .ok (.aload_n 0, 1) := by decide +kernel
theorem dX6_colour_128 : decode cX6_colour 128 = .ok (.getfield 41, 3) := by decide +kernel
theorem dX6_colour_131 : decode cX6_colour 131 = .ok (.iload_n 1, 1) := by decide +kernel
theorem dX6_colour_132 : decode cX6_colour 132 = .ok (.iaload, 1) := by decide +kernel
theorem dX6_colour_133 : decode cX6_colour 133 = .ok (.istore_n 2, 1) := by decide +kernel
theorem dX6_colour_134 : decode cX6_colour 134 = .ok (.aload_n 0, 1) := by decide +kernel
theorem dX6_colour_135 : decode cX6_colour 135 = .ok (.iload_n 2, 1) := by decide +kernel
theorem dX6_colour_136 : decode cX6_colour 136 = .ok (.invokevirtual 155, 3) := by decide +kernel
theorem dX6_colour_139 : decode cX6_colour 139 = .ok (.istore_n 3, 1) := by decide +kernel
theorem dX6_colour_140 : decode cX6_colour 140 = .ok (.iload_n 3, 1) := by decide +kernel
theorem dX6_colour_141 : decode cX6_colour 141 = .ok (.ifCond .ne 11, 3) := by decide +kernel
theorem dX6_colour_144 : decode cX6_colour 144 = .ok (.aload_n 0, 1) := by decide +kernel
theorem dX6_colour_145 : decode cX6_colour 145 = .ok (.iload_n 2, 1) := by decide +kernel
theorem dX6_colour_146 : decode cX6_colour 146 = .ok (.invokevirtual 158, 3) := by decide +kernel
theorem dX6_colour_149 : decode cX6_colour 149 = .ok (.goto 4, 3) := by decide +kernel
theorem dX6_colour_152 : decode cX6_colour 152 = .ok (.iload_n 3, 1) := by decide +kernel
theorem dX6_colour_153 : decode cX6_colour 153 = .ok (.istore_n 3, 1) := by decide +kernel
theorem dX6_colour_154 : decode cX6_colour 154 = .ok (.aload_n 0, 1) := by decide +kernel
theorem dX6_colour_155 : decode cX6_colour 155 = .ok (.getfield 26, 3) := by decide +kernel
theorem dX6_colour_158 : decode cX6_colour 158 = .ok (.iload_n 2, 1) := by decide +kernel
theorem dX6_colour_159 : decode cX6_colour 159 = .ok (.iload_n 3, 1) := by decide +kernel
theorem dX6_colour_160 : decode cX6_colour 160 = .ok (.iastore, 1) := by decide +kernel
theorem dX6_colour_161 : decode cX6_colour 161 = .ok (.aload_n 0, 1) := by decide +kernel
theorem dX6_colour_162 : decode cX6_colour 162 = .ok (.getfield 44, 3) := by decide +kernel
theorem dX6_colour_165 : decode cX6_colour 165 = .ok (.iload_n 2, 1) := by decide +kernel
theorem dX6_colour_166 : decode cX6_colour 166 = .ok (.iconst 1, 1) := by decide +kernel
theorem dX6_colour_167 : decode cX6_colour 167 = .ok (.bastore, 1) := by decide +kernel
theorem dX6_colour_168 : decode cX6_colour 168 = .ok (.iinc 1 (-1), 3) := by decide +kernel
theorem dX6_colour_171 : decode cX6_colour 171 = .ok (.goto (-48), 3) := by decide +kernel
theorem dX6_colour_174 : decode cX6_colour 174 = .ok (.aload_n 0, 1) := by decide +kernel
theorem dX6_colour_175 : decode cX6_colour 175 = .ok (.invokevirtual 161, 3) := by decide +kernel
theorem dX6_colour_178 : decode cX6_colour 178 = .ok (.ireturn, 1) := by decide +kernel
theorem dX6_colourOf_0 : decode cX6_colourOf 0 = .ok (.aload_n 0, 1) := by decide +kernel
theorem dX6_colourOf_1 : decode cX6_colourOf 1 = .ok (.aload_n 0, 1) := by decide +kernel
theorem dX6_colourOf_2 : decode cX6_colourOf 2 = .ok (.iload_n 1, 1) := by decide +kernel
theorem dX6_colourOf_3 : decode cX6_colourOf 3 = .ok (.invokevirtual 79, 3) := by decide +kernel
theorem dX6_colourOf_6 : decode cX6_colourOf 6 = .ok (.ifCond .eq 7, 3) := by decide +kernel
theorem dX6_colourOf_9 : decode cX6_colourOf 9 = .ok (.iconst 0, 1) := by decide +kernel
theorem dX6_colourOf_10 : decode cX6_colourOf 10 = .ok (.goto 4, 3) := by decide +kernel
theorem dX6_colourOf_13 : decode cX6_colourOf 13 = .ok (.iconst 1, 1) := by decide +kernel
theorem dX6_colourOf_14 : decode cX6_colourOf 14 = .ok (.putfield 59, 3) := by decide +kernel
theorem dX6_colourOf_17 : decode cX6_colourOf 17 = .ok (.aload_n 0, 1) := by decide +kernel
theorem dX6_colourOf_18 : decode cX6_colourOf 18 = .ok (.getfield 59, 3) := by decide +kernel
theorem dX6_colourOf_21 : decode cX6_colourOf 21 = .ok (.ifCond .le 7, 3) := by decide +kernel
theorem dX6_colourOf_24 : decode cX6_colourOf 24 = .ok (.iconst 0, 1) := by decide +kernel
theorem dX6_colourOf_25 : decode cX6_colourOf 25 = .ok (.goto 9, 3) := by decide +kernel
theorem dX6_colourOf_28 : decode cX6_colourOf 28 = .ok (.aload_n 0, 1) := by decide +kernel
theorem dX6_colourOf_29 : decode cX6_colourOf 29 = .ok (.getfield 26, 3) := by decide +kernel
theorem dX6_colourOf_32 : decode cX6_colourOf 32 = .ok (.iload_n 1, 1) := by decide +kernel
theorem dX6_colourOf_33 : decode cX6_colourOf 33 = .ok (.iaload, 1) := by decide +kernel
theorem dX6_colourOf_34 : decode cX6_colourOf 34 = .ok (.ireturn, 1) := by decide +kernel
theorem dX6_exchanges_0 : decode cX6_exchanges 0 = .ok (.aload_n 0, 1) := by decide +kernel
theorem dX6_exchanges_1 : decode cX6_exchanges 1 = .ok (.iconst 0, 1) := by decide +kernel
theorem dX6_exchanges_2 : decode cX6_exchanges 2 = .ok (.putfield 59, 3) := by decide +kernel
theorem dX6_exchanges_5 : decode cX6_exchanges 5 = .ok (.aload_n 0, 1) := by decide +kernel
theorem dX6_exchanges_6 : decode cX6_exchanges 6 = .ok (.getfield 73, 3) := by decide +kernel
theorem dX6_exchanges_9 : decode cX6_exchanges 9 = .ok (.ireturn, 1) := by decide +kernel
theorem dX6_exchange_0 : decode cX6_exchange 0 = .ok (.aload_n 0, 1) := by decide +kernel
theorem dX6_exchange_1 : decode cX6_exchange 1 = .ok (.aload_n 0, 1) := by decide +kernel
theorem dX6_exchange_2 : decode cX6_exchange 2 = .ok (.iload_n 1, 1) := by decide +kernel
theorem dX6_exchange_3 : decode cX6_exchange 3 = .ok (.invokevirtual 79, 3) := by decide +kernel
theorem dX6_exchange_6 : decode cX6_exchange 6 = .ok (.ifCond .ne 7, 3) := by decide +kernel
theorem dX6_exchange_9 : decode cX6_exchange 9 = .ok (.iconst 1, 1) := by decide +kernel
theorem dX6_exchange_10 : decode cX6_exchange 10 = .ok (.goto 37, 3) := by decide +kernel
theorem dX6_exchange_13 : decode cX6_exchange 13 = .ok (.aload_n 0, 1) := by decide +kernel
theorem dX6_exchange_14 : decode cX6_exchange 14 = .ok (.getfield 26, 3) := by decide +kernel
theorem dX6_exchange_17 : decode cX6_exchange 17 = .ok (.iload_n 1, 1) := by decide +kernel
theorem dX6_exchange_18 : decode cX6_exchange 18 = .ok (.iaload, 1) := by decide +kernel
theorem dX6_exchange_19 : decode cX6_exchange 19 = .ok (.ifCond .eq 23, 3) := by decide +kernel
theorem dX6_exchange_22 : decode cX6_exchange 22 = .ok (.iload_n 2, 1) := by decide +kernel
theorem dX6_exchange_23 : decode cX6_exchange 23 = .ok (.iconst 1, 1) := by decide +kernel
theorem dX6_exchange_24 : decode cX6_exchange 24 = .ok (.if_icmp .lt 18, 3) := by decide +kernel
theorem dX6_exchange_27 : decode cX6_exchange 27 = .ok (.iload_n 2, 1) := by decide +kernel
theorem dX6_exchange_28 : decode cX6_exchange 28 = .ok (.iconst 5, 1) := by decide +kernel
theorem dX6_exchange_29 : decode cX6_exchange 29 = .ok (.if_icmp .gt 13, 3) := by decide +kernel
theorem dX6_exchange_32 : decode cX6_exchange 32 = .ok (.iload_n 2, 1) := by decide +kernel
theorem dX6_exchange_33 : decode cX6_exchange 33 = .ok (.aload_n 0, 1) := by decide +kernel
theorem dX6_exchange_34 : decode cX6_exchange 34 = .ok (.getfield 26, 3) := by decide +kernel
theorem dX6_exchange_37 : decode cX6_exchange 37 = .ok (.iload_n 1, 1) := by decide +kernel
theorem dX6_exchange_38 : decode cX6_exchange 38 = .ok (.iaload, 1) := by decide +kernel
theorem dX6_exchange_39 : decode cX6_exchange 39 = .ok (.if_icmp .ne 7, 3) := by decide +kernel
theorem dX6_exchange_42 : decode cX6_exchange 42 = .ok (.iconst 2, 1) := by decide +kernel
theorem dX6_exchange_43 : decode cX6_exchange 43 = .ok (.goto 4, 3) := by decide +kernel
theorem dX6_exchange_46 : decode cX6_exchange 46 = .ok (.iconst 0, 1) := by decide +kernel
theorem dX6_exchange_47 : decode cX6_exchange 47 = .ok (.putfield 59, 3) := by decide +kernel
theorem dX6_exchange_50 : decode cX6_exchange 50 = .ok (.aload_n 0, 1) := by decide +kernel
theorem dX6_exchange_51 : decode cX6_exchange 51 = .ok (.getfield 59, 3) := by decide +kernel
theorem dX6_exchange_54 : decode cX6_exchange 54 = .ok (.ifCond .le 5, 3) := by decide +kernel
theorem dX6_exchange_57 : decode cX6_exchange 57 = .ok (.iconst 0, 1) := by decide +kernel
theorem dX6_exchange_58 : decode cX6_exchange 58 = .ok (.ireturn, 1) := by decide +kernel
theorem dX6_exchange_59 : decode cX6_exchange 59 = .ok (.iconst 0, 1) := by decide +kernel
theorem dX6_exchange_60 : decode cX6_exchange 60 = .ok (.istore_n 3, 1) := by decide +kernel
theorem dX6_exchange_61 : decode cX6_exchange 61 = .ok (.iload_n 3, 1) := by decide +kernel
theorem dX6_exchange_62 : decode cX6_exchange 62 = .ok (.aload_n 0, 1) := by decide +kernel
theorem dX6_exchange_63 : decode cX6_exchange 63 = .ok (.getfield 63, 3) := by decide +kernel
theorem dX6_exchange_66 : decode cX6_exchange 66 = .ok (.if_icmp .ge 16, 3) := by decide +kernel
theorem dX6_exchange_69 : decode cX6_exchange 69 = .ok (.aload_n 0, 1) := by decide +kernel
theorem dX6_exchange_70 : decode cX6_exchange 70 = .ok (.getfield 44, 3) := by decide +kernel
theorem dX6_exchange_73 : decode cX6_exchange 73 = .ok (.iload_n 3, 1) := by decide +kernel
theorem dX6_exchange_74 : decode cX6_exchange 74 = .ok (.iconst 1, 1) := by decide +kernel
theorem dX6_exchange_75 : decode cX6_exchange 75 = .ok (.bastore, 1) := by decide +kernel
theorem dX6_exchange_76 : decode cX6_exchange 76 = .ok (.iinc 3 1, 3) := by decide +kernel
theorem dX6_exchange_79 : decode cX6_exchange 79 = .ok (.goto (-18), 3) := by decide +kernel
theorem dX6_exchange_82 : decode cX6_exchange 82 = .ok (.aload_n 0, 1) := by decide +kernel
theorem dX6_exchange_83 : decode cX6_exchange 83 = .ok (.getfield 26, 3) := by decide +kernel
theorem dX6_exchange_86 : decode cX6_exchange 86 = .ok (.iload_n 1, 1) := by decide +kernel
theorem dX6_exchange_87 : decode cX6_exchange 87 = .ok (.iaload, 1) := by decide +kernel
theorem dX6_exchange_88 : decode cX6_exchange 88 = .ok (.istore_n 3, 1) := by decide +kernel
theorem dX6_exchange_89 : decode cX6_exchange 89 = .ok (.aload_n 0, 1) := by decide +kernel
theorem dX6_exchange_90 : decode cX6_exchange 90 = .ok (.iload_n 1, 1) := by decide +kernel
theorem dX6_exchange_91 : decode cX6_exchange 91 = .ok (.iload_n 3, 1) := by decide +kernel
theorem dX6_exchange_92 : decode cX6_exchange 92 = .ok (.iload_n 2, 1) := by decide +kernel
theorem dX6_exchange_93 : decode cX6_exchange 93 = .ok (.invokevirtual 146, 3) := by decide +kernel
theorem dX6_exchange_96 : decode cX6_exchange 96 = .ok (.aload_n 0, 1) := by decide +kernel
theorem dX6_exchange_97 : decode cX6_exchange 97 = .ok (.iload_n 3, 1) := by decide +kernel
theorem dX6_exchange_98 : decode cX6_exchange 98 = .ok (.iload_n 2, 1) := by decide +kernel
theorem dX6_exchange_99 : decode cX6_exchange 99 = .ok (.invokevirtual 149, 3) := by decide +kernel
theorem dX6_exchange_102 : decode cX6_exchange 102 = .ok (.aload_n 0, 1) := by decide +kernel
theorem dX6_exchange_103 : decode cX6_exchange 103 = .ok (.getfield 140, 3) := by decide +kernel
theorem dX6_exchange_106 : decode cX6_exchange 106 = .ok (.ireturn, 1) := by decide +kernel
theorem dX6_clashes_0 : decode cX6_clashes 0 = .ok (.aload_n 0, 1) := by decide +kernel
theorem dX6_clashes_1 : decode cX6_clashes 1 = .ok (.iconst 0, 1) := by decide +kernel
theorem dX6_clashes_2 : decode cX6_clashes 2 = .ok (.putfield 59, 3) := by decide +kernel
theorem dX6_clashes_5 : decode cX6_clashes 5 = .ok (.iconst 0, 1) := by decide +kernel
theorem dX6_clashes_6 : decode cX6_clashes 6 = .ok (.istore_n 1, 1) := by decide +kernel
theorem dX6_clashes_7 : decode cX6_clashes 7 = .ok (.iconst 0, 1) := by decide +kernel
theorem dX6_clashes_8 : decode cX6_clashes 8 = .ok (.istore_n 2, 1) := by decide +kernel
theorem dX6_clashes_9 : decode cX6_clashes 9 = .ok (.iload_n 2, 1) := by decide +kernel
theorem dX6_clashes_10 : decode cX6_clashes 10 = .ok (.aload_n 0, 1) := by decide +kernel
theorem dX6_clashes_11 : decode cX6_clashes 11 = .ok (.getfield 66, 3) := by decide +kernel
theorem dX6_clashes_14 : decode cX6_clashes 14 = .ok (.if_icmp .ge 65, 3) := by decide +kernel
theorem dX6_clashes_17 : decode cX6_clashes 17 = .ok (.aload_n 0, 1) := by decide +kernel
theorem dX6_clashes_18 : decode cX6_clashes 18 = .ok (.getfield 16, 3) := by decide +kernel
theorem dX6_clashes_21 : decode cX6_clashes 21 = .ok (.iload_n 2, 1) := by decide +kernel
theorem dX6_clashes_22 : decode cX6_clashes 22 = .ok (.baload, 1) := by decide +kernel
theorem dX6_clashes_23 : decode cX6_clashes 23 = .ok (.ifCond .ne 48, 3) := by decide +kernel
theorem dX6_clashes_26 : decode cX6_clashes 26 = .ok (.aload_n 0, 1) := by decide +kernel
theorem dX6_clashes_27 : decode cX6_clashes 27 = .ok (.getfield 26, 3) := by decide +kernel
theorem dX6_clashes_30 : decode cX6_clashes 30 = .ok (.aload_n 0, 1) := by decide +kernel
theorem dX6_clashes_31 : decode cX6_clashes 31 = .ok (.getfield 7, 3) := by decide +kernel
theorem dX6_clashes_34 : decode cX6_clashes 34 = .ok (.iload_n 2, 1) := by decide +kernel
theorem dX6_clashes_35 : decode cX6_clashes 35 = .ok (.iaload, 1) := by decide +kernel
theorem dX6_clashes_36 : decode cX6_clashes 36 = .ok (.iaload, 1) := by decide +kernel
theorem dX6_clashes_37 : decode cX6_clashes 37 = .ok (.ifCond .le 34, 3) := by decide +kernel
theorem dX6_clashes_40 : decode cX6_clashes 40 = .ok (.aload_n 0, 1) := by decide +kernel
theorem dX6_clashes_41 : decode cX6_clashes 41 = .ok (.getfield 26, 3) := by decide +kernel
theorem dX6_clashes_44 : decode cX6_clashes 44 = .ok (.aload_n 0, 1) := by decide +kernel
theorem dX6_clashes_45 : decode cX6_clashes 45 = .ok (.getfield 7, 3) := by decide +kernel
theorem dX6_clashes_48 : decode cX6_clashes 48 = .ok (.iload_n 2, 1) := by decide +kernel
theorem dX6_clashes_49 : decode cX6_clashes 49 = .ok (.iaload, 1) := by decide +kernel
theorem dX6_clashes_50 : decode cX6_clashes 50 = .ok (.iaload, 1) := by decide +kernel
theorem dX6_clashes_51 : decode cX6_clashes 51 = .ok (.aload_n 0, 1) := by decide +kernel
theorem dX6_clashes_52 : decode cX6_clashes 52 = .ok (.getfield 26, 3) := by decide +kernel
theorem dX6_clashes_55 : decode cX6_clashes 55 = .ok (.aload_n 0, 1) := by decide +kernel
theorem dX6_clashes_56 : decode cX6_clashes 56 = .ok (.getfield 13, 3) := by decide +kernel
theorem dX6_clashes_59 : decode cX6_clashes 59 = .ok (.iload_n 2, 1) := by decide +kernel
theorem dX6_clashes_60 : decode cX6_clashes 60 = .ok (.iaload, 1) := by decide +kernel
theorem dX6_clashes_61 : decode cX6_clashes 61 = .ok (.iaload, 1) := by decide +kernel
theorem dX6_clashes_62 : decode cX6_clashes 62 = .ok (.if_icmp .ne 9, 3) := by decide +kernel
theorem dX6_clashes_65 : decode cX6_clashes 65 = .ok (.iload_n 1, 1) := by decide +kernel
theorem dX6_clashes_66 : decode cX6_clashes 66 = .ok (.iconst 1, 1) := by decide +kernel
theorem dX6_clashes_67 : decode cX6_clashes 67 = .ok (.iadd, 1) := by decide +kernel
theorem dX6_clashes_68 : decode cX6_clashes 68 = .ok (.goto 4, 3) := by decide +kernel
theorem dX6_clashes_71 : decode cX6_clashes 71 = .ok (.iload_n 1, 1) := by decide +kernel
theorem dX6_clashes_72 : decode cX6_clashes 72 = .ok (.istore_n 1, 1) := by decide +kernel
theorem dX6_clashes_73 : decode cX6_clashes 73 = .ok (.iinc 2 1, 3) := by decide +kernel
theorem dX6_clashes_76 : decode cX6_clashes 76 = .ok (.goto (-67), 3) := by decide +kernel
theorem dX6_clashes_79 : decode cX6_clashes 79 = .ok (.iload_n 1, 1) := by decide +kernel
theorem dX6_clashes_80 : decode cX6_clashes 80 = .ok (.ireturn, 1) := by decide +kernel
theorem dX6_isTree_0 : decode cX6_isTree 0 = .ok (.aload_n 0, 1) := by decide +kernel
theorem dX6_isTree_1 : decode cX6_isTree 1 = .ok (.getfield 32, 3) := by decide +kernel
theorem dX6_isTree_4 : decode cX6_isTree 4 = .ok (.aload_n 0, 1) := by decide +kernel
theorem dX6_isTree_5 : decode cX6_isTree 5 = .ok (.getfield 7, 3) := by decide +kernel
theorem dX6_isTree_8 : decode cX6_isTree 8 = .ok (.iload_n 1, 1) := by decide +kernel
theorem dX6_isTree_9 : decode cX6_isTree 9 = .ok (.iaload, 1) := by decide +kernel
theorem dX6_isTree_10 : decode cX6_isTree 10 = .ok (.iaload, 1) := by decide +kernel
theorem dX6_isTree_11 : decode cX6_isTree 11 = .ok (.aload_n 0, 1) := by decide +kernel
theorem dX6_isTree_12 : decode cX6_isTree 12 = .ok (.getfield 13, 3) := by decide +kernel
theorem dX6_isTree_15 : decode cX6_isTree 15 = .ok (.iload_n 1, 1) := by decide +kernel
theorem dX6_isTree_16 : decode cX6_isTree 16 = .ok (.iaload, 1) := by decide +kernel
theorem dX6_isTree_17 : decode cX6_isTree 17 = .ok (.if_icmp .eq 23, 3) := by decide +kernel
theorem dX6_isTree_20 : decode cX6_isTree 20 = .ok (.aload_n 0, 1) := by decide +kernel
theorem dX6_isTree_21 : decode cX6_isTree 21 = .ok (.getfield 32, 3) := by decide +kernel
theorem dX6_isTree_24 : decode cX6_isTree 24 = .ok (.aload_n 0, 1) := by decide +kernel
theorem dX6_isTree_25 : decode cX6_isTree 25 = .ok (.getfield 13, 3) := by decide +kernel
theorem dX6_isTree_28 : decode cX6_isTree 28 = .ok (.iload_n 1, 1) := by decide +kernel
theorem dX6_isTree_29 : decode cX6_isTree 29 = .ok (.iaload, 1) := by decide +kernel
theorem dX6_isTree_30 : decode cX6_isTree 30 = .ok (.iaload, 1) := by decide +kernel
theorem dX6_isTree_31 : decode cX6_isTree 31 = .ok (.aload_n 0, 1) := by decide +kernel
theorem dX6_isTree_32 : decode cX6_isTree 32 = .ok (.getfield 7, 3) := by decide +kernel
theorem dX6_isTree_35 : decode cX6_isTree 35 = .ok (.iload_n 1, 1) := by decide +kernel
theorem dX6_isTree_36 : decode cX6_isTree 36 = .ok (.iaload, 1) := by decide +kernel
theorem dX6_isTree_37 : decode cX6_isTree 37 = .ok (.if_icmp .ne 7, 3) := by decide +kernel
theorem dX6_isTree_40 : decode cX6_isTree 40 = .ok (.iconst 1, 1) := by decide +kernel
theorem dX6_isTree_41 : decode cX6_isTree 41 = .ok (.goto 4, 3) := by decide +kernel
theorem dX6_isTree_44 : decode cX6_isTree 44 = .ok (.iconst 0, 1) := by decide +kernel
theorem dX6_isTree_45 : decode cX6_isTree 45 = .ok (.ireturn, 1) := by decide +kernel
theorem dX6_depth_0 : decode cX6_depth 0 = .ok (.iconst 0, 1) := by decide +kernel
theorem dX6_depth_1 : decode cX6_depth 1 = .ok (.istore_n 2, 1) := by decide +kernel
theorem dX6_depth_2 : decode cX6_depth 2 = .ok (.iload_n 1, 1) := by decide +kernel
theorem dX6_depth_3 : decode cX6_depth 3 = .ok (.istore_n 3, 1) := by decide +kernel
theorem dX6_depth_4 : decode cX6_depth 4 = .ok (.aload_n 0, 1) := by decide +kernel
theorem dX6_depth_5 : decode cX6_depth 5 = .ok (.getfield 32, 3) := by decide +kernel
theorem dX6_depth_8 : decode cX6_depth 8 = .ok (.iload_n 3, 1) := by decide +kernel
theorem dX6_depth_9 : decode cX6_depth 9 = .ok (.iaload, 1) := by decide +kernel
theorem dX6_depth_10 : decode cX6_depth 10 = .ok (.iconst (-1), 1) := by decide +kernel
theorem dX6_depth_11 : decode cX6_depth 11 = .ok (.if_icmp .eq 16, 3) := by decide +kernel
theorem dX6_depth_14 : decode cX6_depth 14 = .ok (.iinc 2 1, 3) := by decide +kernel
theorem dX6_depth_17 : decode cX6_depth 17 = .ok (.aload_n 0, 1) := by decide +kernel
theorem dX6_depth_18 : decode cX6_depth 18 = .ok (.getfield 32, 3) := by decide +kernel
theorem dX6_depth_21 : decode cX6_depth 21 = .ok (.iload_n 3, 1) := by decide +kernel
theorem dX6_depth_22 : decode cX6_depth 22 = .ok (.iaload, 1) := by decide +kernel
theorem dX6_depth_23 : decode cX6_depth 23 = .ok (.istore_n 3, 1) := by decide +kernel
theorem dX6_depth_24 : decode cX6_depth 24 = .ok (.goto (-20), 3) := by decide +kernel
theorem dX6_depth_27 : decode cX6_depth 27 = .ok (.iload_n 2, 1) := by decide +kernel
theorem dX6_depth_28 : decode cX6_depth 28 = .ok (.ireturn, 1) := by decide +kernel
theorem dX6_findCycle_0 : decode cX6_findCycle 0 = .ok (.iconst 0, 1) := by decide +kernel
theorem dX6_findCycle_1 : decode cX6_findCycle 1 = .ok (.istore_n 2, 1) := by decide +kernel
theorem dX6_findCycle_2 : decode cX6_findCycle 2 = .ok (.iload_n 2, 1) := by decide +kernel
theorem dX6_findCycle_3 : decode cX6_findCycle 3 = .ok (.bipush 30, 2) := by decide +kernel
theorem dX6_findCycle_5 : decode cX6_findCycle 5 = .ok (.if_icmp .ge 16, 3) := by decide +kernel
theorem dX6_findCycle_8 : decode cX6_findCycle 8 = .ok (.aload_n 0, 1) := by decide +kernel
theorem dX6_findCycle_9 : decode cX6_findCycle 9 = .ok (.getfield 50, 3) := by decide +kernel
theorem dX6_findCycle_12 : decode cX6_findCycle 12 = .ok (.iload_n 2, 1) := by decide +kernel
theorem dX6_findCycle_13 : decode cX6_findCycle 13 = .ok (.iconst 0, 1) := by decide +kernel
theorem dX6_findCycle_14 : decode cX6_findCycle 14 = .ok (.bastore, 1) := by decide +kernel
theorem dX6_findCycle_15 : decode cX6_findCycle 15 = .ok (.iinc 2 1, 3) := by decide +kernel
theorem dX6_findCycle_18 : decode cX6_findCycle 18 = .ok (.goto (-16), 3) := by decide +kernel
theorem dX6_findCycle_21 : decode cX6_findCycle 21 = .ok (.iconst 0, 1) := by decide +kernel
theorem dX6_findCycle_22 : decode cX6_findCycle 22 = .ok (.istore_n 2, 1) := by decide +kernel
theorem dX6_findCycle_23 : decode cX6_findCycle 23 = .ok (.iload_n 2, 1) := by decide +kernel
theorem dX6_findCycle_24 : decode cX6_findCycle 24 = .ok (.bipush 100, 2) := by decide +kernel
theorem dX6_findCycle_26 : decode cX6_findCycle 26 = .ok (.if_icmp .ge 16, 3) := by decide +kernel
theorem dX6_findCycle_29 : decode cX6_findCycle 29 = .ok (.aload_n 0, 1) := by decide +kernel
theorem dX6_findCycle_30 : decode cX6_findCycle 30 = .ok (.getfield 53, 3) := by decide +kernel
theorem dX6_findCycle_33 : decode cX6_findCycle 33 = .ok (.iload_n 2, 1) := by decide +kernel
theorem dX6_findCycle_34 : decode cX6_findCycle 34 = .ok (.iconst 0, 1) := by decide +kernel
theorem dX6_findCycle_35 : decode cX6_findCycle 35 = .ok (.bastore, 1) := by decide +kernel
theorem dX6_findCycle_36 : decode cX6_findCycle 36 = .ok (.iinc 2 1, 3) := by decide +kernel
theorem dX6_findCycle_39 : decode cX6_findCycle 39 = .ok (.goto (-16), 3) := by decide +kernel
theorem dX6_findCycle_42 : decode cX6_findCycle 42 = .ok (.aload_n 0, 1) := by decide +kernel
theorem dX6_findCycle_43 : decode cX6_findCycle 43 = .ok (.getfield 53, 3) := by decide +kernel
theorem dX6_findCycle_46 : decode cX6_findCycle 46 = .ok (.iload_n 1, 1) := by decide +kernel
theorem dX6_findCycle_47 : decode cX6_findCycle 47 = .ok (.iconst 1, 1) := by decide +kernel
theorem dX6_findCycle_48 : decode cX6_findCycle 48 = .ok (.bastore, 1) := by decide +kernel
theorem dX6_findCycle_49 : decode cX6_findCycle 49 = .ok (.aload_n 0, 1) := by decide +kernel
theorem dX6_findCycle_50 : decode cX6_findCycle 50 = .ok (.getfield 7, 3) := by decide +kernel
theorem dX6_findCycle_53 : decode cX6_findCycle 53 = .ok (.iload_n 1, 1) := by decide +kernel
theorem dX6_findCycle_54 : decode cX6_findCycle 54 = .ok (.iaload, 1) := by decide +kernel
theorem dX6_findCycle_55 : decode cX6_findCycle 55 = .ok (.istore_n 2, 1) := by decide +kernel
theorem dX6_findCycle_56 : decode cX6_findCycle 56 = .ok (.aload_n 0, 1) := by decide +kernel
theorem dX6_findCycle_57 : decode cX6_findCycle 57 = .ok (.getfield 13, 3) := by decide +kernel
theorem dX6_findCycle_60 : decode cX6_findCycle 60 = .ok (.iload_n 1, 1) := by decide +kernel
theorem dX6_findCycle_61 : decode cX6_findCycle 61 = .ok (.iaload, 1) := by decide +kernel
theorem dX6_findCycle_62 : decode cX6_findCycle 62 = .ok (.istore_n 3, 1) := by decide +kernel
theorem dX6_findCycle_63 : decode cX6_findCycle 63 = .ok (.iconst 1, 1) := by decide +kernel
theorem dX6_findCycle_64 : decode cX6_findCycle 64 = .ok (.istore 4, 2) := by decide +kernel
theorem dX6_findCycle_66 : decode cX6_findCycle 66 = .ok (.iload_n 2, 1) := by decide +kernel
theorem dX6_findCycle_67 : decode cX6_findCycle 67 = .ok (.iload_n 3, 1) := by decide +kernel
theorem dX6_findCycle_68 : decode cX6_findCycle 68 = .ok (.if_icmp .eq 100, 3) := by decide +kernel
theorem dX6_findCycle_71 : decode cX6_findCycle 71 = .ok (.aload_n 0, 1) := by decide +kernel
theorem dX6_findCycle_72 : decode cX6_findCycle 72 = .ok (.iload_n 2, 1) := by decide +kernel
theorem dX6_findCycle_73 : decode cX6_findCycle 73 = .ok (.invokevirtual 164, 3) := by decide +kernel
theorem dX6_findCycle_76 : decode cX6_findCycle 76 = .ok (.aload_n 0, 1) := by decide +kernel
theorem dX6_findCycle_77 : decode cX6_findCycle 77 = .ok (.iload_n 3, 1) := by decide +kernel
theorem dX6_findCycle_78 : decode cX6_findCycle 78 = .ok (.invokevirtual 164, 3) := by decide +kernel
theorem dX6_findCycle_81 : decode cX6_findCycle 81 = .ok (.if_icmp .lt 7, 3) := by decide +kernel
theorem dX6_findCycle_84 : decode cX6_findCycle 84 = .ok (.iconst 1, 1) := by decide +kernel
theorem dX6_findCycle_85 : decode cX6_findCycle 85 = .ok (.goto 4, 3) := by decide +kernel
theorem dX6_findCycle_88 : decode cX6_findCycle 88 = .ok (.iconst 0, 1) := by decide +kernel
theorem dX6_findCycle_89 : decode cX6_findCycle 89 = .ok (.istore 5, 2) := by decide +kernel
theorem dX6_findCycle_91 : decode cX6_findCycle 91 = .ok (.iload 5, 2) := by decide +kernel
theorem dX6_findCycle_93 : decode cX6_findCycle 93 = .ok (.ifCond .eq 7, 3) := by decide +kernel
theorem dX6_findCycle_96 : decode cX6_findCycle 96 = .ok (.iload_n 2, 1) := by decide +kernel
theorem dX6_findCycle_97 : decode cX6_findCycle 97 = .ok (.goto 4, 3) := by decide +kernel
theorem dX6_findCycle_100 : decode cX6_findCycle 100 = .ok (.iload_n 3, 1) := by decide +kernel
theorem dX6_findCycle_101 : decode cX6_findCycle 101 = .ok (.istore 6, 2) := by decide +kernel
theorem dX6_findCycle_103 : decode cX6_findCycle 103 = .ok (.aload_n 0, 1) := by decide +kernel
theorem dX6_findCycle_104 : decode cX6_findCycle 104 = .ok (.getfield 50, 3) := by decide +kernel
theorem dX6_findCycle_107 : decode cX6_findCycle 107 = .ok (.iload 6, 2) := by decide +kernel
theorem dX6_findCycle_109 : decode cX6_findCycle 109 = .ok (.iconst 1, 1) := by decide +kernel
theorem dX6_findCycle_110 : decode cX6_findCycle 110 = .ok (.bastore, 1) := by decide +kernel
theorem dX6_findCycle_111 : decode cX6_findCycle 111 = .ok (.aload_n 0, 1) := by decide +kernel
theorem dX6_findCycle_112 : decode cX6_findCycle 112 = .ok (.getfield 53, 3) := by decide +kernel
theorem dX6_findCycle_115 : decode cX6_findCycle 115 = .ok (.aload_n 0, 1) := by decide +kernel
theorem dX6_findCycle_116 : decode cX6_findCycle 116 = .ok (.iload 6, 2) := by decide +kernel
theorem dX6_findCycle_118 : decode cX6_findCycle 118 = .ok (.aload_n 0, 1) := by decide +kernel
theorem dX6_findCycle_119 : decode cX6_findCycle 119 = .ok (.getfield 32, 3) := by decide +kernel
theorem dX6_findCycle_122 : decode cX6_findCycle 122 = .ok (.iload 6, 2) := by decide +kernel
theorem dX6_findCycle_124 : decode cX6_findCycle 124 = .ok (.iaload, 1) := by decide +kernel
theorem dX6_findCycle_125 : decode cX6_findCycle 125 = .ok (.invokevirtual 86, 3) := by decide +kernel
theorem dX6_findCycle_128 : decode cX6_findCycle 128 = .ok (.iconst 1, 1) := by decide +kernel
theorem dX6_findCycle_129 : decode cX6_findCycle 129 = .ok (.bastore, 1) := by decide +kernel
theorem dX6_findCycle_130 : decode cX6_findCycle 130 = .ok (.iload 5, 2) := by decide +kernel
theorem dX6_findCycle_132 : decode cX6_findCycle 132 = .ok (.ifCond .eq 12, 3) := by decide +kernel
theorem dX6_findCycle_135 : decode cX6_findCycle 135 = .ok (.aload_n 0, 1) := by decide +kernel
theorem dX6_findCycle_136 : decode cX6_findCycle 136 = .ok (.getfield 32, 3) := by decide +kernel
theorem dX6_findCycle_139 : decode cX6_findCycle 139 = .ok (.iload_n 2, 1) := by decide +kernel
theorem dX6_findCycle_140 : decode cX6_findCycle 140 = .ok (.iaload, 1) := by decide +kernel
theorem dX6_findCycle_141 : decode cX6_findCycle 141 = .ok (.goto 4, 3) := by decide +kernel
theorem dX6_findCycle_144 : decode cX6_findCycle 144 = .ok (.iload_n 2, 1) := by decide +kernel
theorem dX6_findCycle_145 : decode cX6_findCycle 145 = .ok (.istore_n 2, 1) := by decide +kernel
theorem dX6_findCycle_146 : decode cX6_findCycle 146 = .ok (.iload 5, 2) := by decide +kernel
theorem dX6_findCycle_148 : decode cX6_findCycle 148 = .ok (.ifCond .eq 7, 3) := by decide +kernel
theorem dX6_findCycle_151 : decode cX6_findCycle 151 = .ok (.iload_n 3, 1) := by decide +kernel
theorem dX6_findCycle_152 : decode cX6_findCycle 152 = .ok (.goto 9, 3) := by decide +kernel
theorem dX6_findCycle_155 : decode cX6_findCycle 155 = .ok (.aload_n 0, 1) := by decide +kernel
theorem dX6_findCycle_156 : decode cX6_findCycle 156 = .ok (.getfield 32, 3) := by decide +kernel
theorem dX6_findCycle_159 : decode cX6_findCycle 159 = .ok (.iload_n 3, 1) := by decide +kernel
theorem dX6_findCycle_160 : decode cX6_findCycle 160 = .ok (.iaload, 1) := by decide +kernel
theorem dX6_findCycle_161 : decode cX6_findCycle 161 = .ok (.istore_n 3, 1) := by decide +kernel
theorem dX6_findCycle_162 : decode cX6_findCycle 162 = .ok (.iinc 4 1, 3) := by decide +kernel
theorem dX6_findCycle_165 : decode cX6_findCycle 165 = .ok (.goto (-99), 3) := by decide +kernel
theorem dX6_findCycle_168 : decode cX6_findCycle 168 = .ok (.aload_n 0, 1) := by decide +kernel
theorem dX6_findCycle_169 : decode cX6_findCycle 169 = .ok (.getfield 50, 3) := by decide +kernel
theorem dX6_findCycle_172 : decode cX6_findCycle 172 = .ok (.iload_n 2, 1) := by decide +kernel
theorem dX6_findCycle_173 : decode cX6_findCycle 173 = .ok (.iconst 1, 1) := by decide +kernel
theorem dX6_findCycle_174 : decode cX6_findCycle 174 = .ok (.bastore, 1) := by decide +kernel
theorem dX6_findCycle_175 : decode cX6_findCycle 175 = .ok (.iload 4, 2) := by decide +kernel
theorem dX6_findCycle_177 : decode cX6_findCycle 177 = .ok (.ireturn, 1) := by decide +kernel
theorem dX6_cycle_0 : decode cX6_cycle 0 = .ok (.aload_n 0, 1) := by decide +kernel
theorem dX6_cycle_1 : decode cX6_cycle 1 = .ok (.aload_n 0, 1) := by decide +kernel
theorem dX6_cycle_2 : decode cX6_cycle 2 = .ok (.iload_n 1, 1) := by decide +kernel
theorem dX6_cycle_3 : decode cX6_cycle 3 = .ok (.invokevirtual 83, 3) := by decide +kernel
theorem dX6_cycle_6 : decode cX6_cycle 6 = .ok (.ifCond .eq 7, 3) := by decide +kernel
theorem dX6_cycle_9 : decode cX6_cycle 9 = .ok (.iconst 0, 1) := by decide +kernel
theorem dX6_cycle_10 : decode cX6_cycle 10 = .ok (.goto 4, 3) := by decide +kernel
theorem dX6_cycle_13 : decode cX6_cycle 13 = .ok (.iconst 1, 1) := by decide +kernel
theorem dX6_cycle_14 : decode cX6_cycle 14 = .ok (.putfield 59, 3) := by decide +kernel
theorem dX6_cycle_17 : decode cX6_cycle 17 = .ok (.aload_n 0, 1) := by decide +kernel
theorem dX6_cycle_18 : decode cX6_cycle 18 = .ok (.getfield 59, 3) := by decide +kernel
theorem dX6_cycle_21 : decode cX6_cycle 21 = .ok (.ifCond .le 5, 3) := by decide +kernel
theorem dX6_cycle_24 : decode cX6_cycle 24 = .ok (.iconst 0, 1) := by decide +kernel
theorem dX6_cycle_25 : decode cX6_cycle 25 = .ok (.ireturn, 1) := by decide +kernel
theorem dX6_cycle_26 : decode cX6_cycle 26 = .ok (.aload_n 0, 1) := by decide +kernel
theorem dX6_cycle_27 : decode cX6_cycle 27 = .ok (.invokevirtual 133, 3) := by decide +kernel
theorem dX6_cycle_30 : decode cX6_cycle 30 = .ok (.aload_n 0, 1) := by decide +kernel
theorem dX6_cycle_31 : decode cX6_cycle 31 = .ok (.iload_n 1, 1) := by decide +kernel
theorem dX6_cycle_32 : decode cX6_cycle 32 = .ok (.invokevirtual 167, 3) := by decide +kernel
theorem dX6_cycle_35 : decode cX6_cycle 35 = .ok (.ifCond .eq 7, 3) := by decide +kernel
theorem dX6_cycle_38 : decode cX6_cycle 38 = .ok (.iconst 0, 1) := by decide +kernel
theorem dX6_cycle_39 : decode cX6_cycle 39 = .ok (.goto 8, 3) := by decide +kernel
theorem dX6_cycle_42 : decode cX6_cycle 42 = .ok (.aload_n 0, 1) := by decide +kernel
theorem dX6_cycle_43 : decode cX6_cycle 43 = .ok (.iload_n 1, 1) := by decide +kernel
theorem dX6_cycle_44 : decode cX6_cycle 44 = .ok (.invokevirtual 170, 3) := by decide +kernel
theorem dX6_cycle_47 : decode cX6_cycle 47 = .ok (.ireturn, 1) := by decide +kernel
theorem dX6_findInside_0 : decode cX6_findInside 0 = .ok (.iconst 0, 1) := by decide +kernel
theorem dX6_findInside_1 : decode cX6_findInside 1 = .ok (.istore_n 2, 1) := by decide +kernel
theorem dX6_findInside_2 : decode cX6_findInside 2 = .ok (.iload_n 2, 1) := by decide +kernel
theorem dX6_findInside_3 : decode cX6_findInside 3 = .ok (.aload_n 0, 1) := by decide +kernel
theorem dX6_findInside_4 : decode cX6_findInside 4 = .ok (.getfield 111, 3) := by decide +kernel
theorem dX6_findInside_7 : decode cX6_findInside 7 = .ok (.if_icmp .ge 32, 3) := by decide +kernel
theorem dX6_findInside_10 : decode cX6_findInside 10 = .ok (.aload_n 0, 1) := by decide +kernel
theorem dX6_findInside_11 : decode cX6_findInside 11 = .ok (.getfield 56, 3) := by decide +kernel
theorem dX6_findInside_14 : decode cX6_findInside 14 = .ok (.iload_n 2, 1) := by decide +kernel
theorem dX6_findInside_15 : decode cX6_findInside 15 = .ok (.iload_n 2, 1) := by decide +kernel
theorem dX6_findInside_16 : decode cX6_findInside 16 = .ok (.aload_n 0, 1) := by decide +kernel
theorem dX6_findInside_17 : decode cX6_findInside 17 = .ok (.getfield 29, 3) := by decide +kernel
theorem dX6_findInside_20 : decode cX6_findInside 20 = .ok (.iconst 2, 1) := by decide +kernel
theorem dX6_findInside_21 : decode cX6_findInside 21 = .ok (.iload_n 1, 1) := by decide +kernel
theorem dX6_findInside_22 : decode cX6_findInside 22 = .ok (.imul, 1) := by decide +kernel
theorem dX6_findInside_23 : decode cX6_findInside 23 = .ok (.iaload, 1) := by decide +kernel
theorem dX6_findInside_24 : decode cX6_findInside 24 = .ok (.if_icmp .ne 7, 3) := by decide +kernel
theorem dX6_findInside_27 : decode cX6_findInside 27 = .ok (.iconst 1, 1) := by decide +kernel
theorem dX6_findInside_28 : decode cX6_findInside 28 = .ok (.goto 4, 3) := by decide +kernel
theorem dX6_findInside_31 : decode cX6_findInside 31 = .ok (.iconst 0, 1) := by decide +kernel
theorem dX6_findInside_32 : decode cX6_findInside 32 = .ok (.bastore, 1) := by decide +kernel
theorem dX6_findInside_33 : decode cX6_findInside 33 = .ok (.iinc 2 1, 3) := by decide +kernel
theorem dX6_findInside_36 : decode cX6_findInside 36 = .ok (.goto (-34), 3) := by decide +kernel
theorem dX6_findInside_39 : decode cX6_findInside 39 = .ok (.iconst 1, 1) := by decide +kernel
theorem dX6_findInside_40 : decode cX6_findInside 40 = .ok (.istore_n 2, 1) := by decide +kernel
theorem dX6_findInside_41 : decode cX6_findInside 41 = .ok (.iload_n 2, 1) := by decide +kernel
theorem dX6_findInside_42 : decode cX6_findInside 42 = .ok (.ifCond .eq 105, 3) := by decide +kernel
theorem dX6_findInside_45 : decode cX6_findInside 45 = .ok (.iconst 0, 1) := by decide +kernel
theorem dX6_findInside_46 : decode cX6_findInside 46 = .ok (.istore_n 2, 1) := by decide +kernel
theorem dX6_findInside_47 : decode cX6_findInside 47 = .ok (.iconst 0, 1) := by decide +kernel
theorem dX6_findInside_48 : decode cX6_findInside 48 = .ok (.istore_n 3, 1) := by decide +kernel
theorem dX6_findInside_49 : decode cX6_findInside 49 = .ok (.iload_n 3, 1) := by decide +kernel
theorem dX6_findInside_50 : decode cX6_findInside 50 = .ok (.aload_n 0, 1) := by decide +kernel
theorem dX6_findInside_51 : decode cX6_findInside 51 = .ok (.getfield 66, 3) := by decide +kernel
theorem dX6_findInside_54 : decode cX6_findInside 54 = .ok (.if_icmp .ge 90, 3) := by decide +kernel
theorem dX6_findInside_57 : decode cX6_findInside 57 = .ok (.aload_n 0, 1) := by decide +kernel
theorem dX6_findInside_58 : decode cX6_findInside 58 = .ok (.getfield 16, 3) := by decide +kernel
theorem dX6_findInside_61 : decode cX6_findInside 61 = .ok (.iload_n 3, 1) := by decide +kernel
theorem dX6_findInside_62 : decode cX6_findInside 62 = .ok (.baload, 1) := by decide +kernel
theorem dX6_findInside_63 : decode cX6_findInside 63 = .ok (.ifCond .ne 75, 3) := by decide +kernel
theorem dX6_findInside_66 : decode cX6_findInside 66 = .ok (.aload_n 0, 1) := by decide +kernel
theorem dX6_findInside_67 : decode cX6_findInside 67 = .ok (.getfield 53, 3) := by decide +kernel
theorem dX6_findInside_70 : decode cX6_findInside 70 = .ok (.iload_n 3, 1) := by decide +kernel
theorem dX6_findInside_71 : decode cX6_findInside 71 = .ok (.baload, 1) := by decide +kernel
theorem dX6_findInside_72 : decode cX6_findInside 72 = .ok (.ifCond .ne 66, 3) := by decide +kernel
theorem dX6_findInside_75 : decode cX6_findInside 75 = .ok (.aload_n 0, 1) := by decide +kernel
theorem dX6_findInside_76 : decode cX6_findInside 76 = .ok (.getfield 56, 3) := by decide +kernel
theorem dX6_findInside_79 : decode cX6_findInside 79 = .ok (.aload_n 0, 1) := by decide +kernel
theorem dX6_findInside_80 : decode cX6_findInside 80 = .ok (.getfield 29, 3) := by decide +kernel
theorem dX6_findInside_83 : decode cX6_findInside 83 = .ok (.iconst 2, 1) := by decide +kernel
theorem dX6_findInside_84 : decode cX6_findInside 84 = .ok (.iload_n 3, 1) := by decide +kernel
theorem dX6_findInside_85 : decode cX6_findInside 85 = .ok (.imul, 1) := by decide +kernel
theorem dX6_findInside_86 : decode cX6_findInside 86 = .ok (.iaload, 1) := by decide +kernel
theorem dX6_findInside_87 : decode cX6_findInside 87 = .ok (.baload, 1) := by decide +kernel
theorem dX6_findInside_88 : decode cX6_findInside 88 = .ok (.aload_n 0, 1) := by decide +kernel
theorem dX6_findInside_89 : decode cX6_findInside 89 = .ok (.getfield 56, 3) := by decide +kernel
theorem dX6_findInside_92 : decode cX6_findInside 92 = .ok (.aload_n 0, 1) := by decide +kernel
theorem dX6_findInside_93 : decode cX6_findInside 93 = .ok (.getfield 29, 3) := by decide +kernel
theorem dX6_findInside_96 : decode cX6_findInside 96 = .ok (.iconst 2, 1) := by decide +kernel
theorem dX6_findInside_97 : decode cX6_findInside 97 = .ok (.iload_n 3, 1) := by decide +kernel
theorem dX6_findInside_98 : decode cX6_findInside 98 = .ok (.imul, 1) := by decide +kernel
theorem dX6_findInside_99 : decode cX6_findInside 99 = .ok (.iconst 1, 1) := by decide +kernel
theorem dX6_findInside_100 : decode cX6_findInside 100 = .ok (.iadd, 1) := by decide +kernel
theorem dX6_findInside_101 : decode cX6_findInside 101 = .ok (.iaload, 1) := by decide +kernel
theorem dX6_findInside_102 : decode cX6_findInside 102 = .ok (.baload, 1) := by decide +kernel
theorem dX6_findInside_103 : decode cX6_findInside 103 = .ok (.if_icmp .eq 35, 3) := by decide +kernel
theorem dX6_findInside_106 : decode cX6_findInside 106 = .ok (.aload_n 0, 1) := by decide +kernel
theorem dX6_findInside_107 : decode cX6_findInside 107 = .ok (.getfield 56, 3) := by decide +kernel
theorem dX6_findInside_110 : decode cX6_findInside 110 = .ok (.aload_n 0, 1) := by decide +kernel
theorem dX6_findInside_111 : decode cX6_findInside 111 = .ok (.getfield 29, 3) := by decide +kernel
theorem dX6_findInside_114 : decode cX6_findInside 114 = .ok (.iconst 2, 1) := by decide +kernel
theorem dX6_findInside_115 : decode cX6_findInside 115 = .ok (.iload_n 3, 1) := by decide +kernel
theorem dX6_findInside_116 : decode cX6_findInside 116 = .ok (.imul, 1) := by decide +kernel
theorem dX6_findInside_117 : decode cX6_findInside 117 = .ok (.iaload, 1) := by decide +kernel
theorem dX6_findInside_118 : decode cX6_findInside 118 = .ok (.iconst 1, 1) := by decide +kernel
theorem dX6_findInside_119 : decode cX6_findInside 119 = .ok (.bastore, 1) := by decide +kernel
theorem dX6_findInside_120 : decode cX6_findInside 120 = .ok (.aload_n 0, 1) := by decide +kernel
theorem dX6_findInside_121 : decode cX6_findInside 121 = .ok (.getfield 56, 3) := by decide +kernel
theorem dX6_findInside_124 : decode cX6_findInside 124 = .ok (.aload_n 0, 1) := by decide +kernel
theorem dX6_findInside_125 : decode cX6_findInside 125 = .ok (.getfield 29, 3) := by decide +kernel
theorem dX6_findInside_128 : decode cX6_findInside 128 = .ok (.iconst 2, 1) := by decide +kernel
theorem dX6_findInside_129 : decode cX6_findInside 129 = .ok (.iload_n 3, 1) := by decide +kernel
theorem dX6_findInside_130 : decode cX6_findInside 130 = .ok (.imul, 1) := by decide +kernel
theorem dX6_findInside_131 : decode cX6_findInside 131 = .ok (.iconst 1, 1) := by decide +kernel
theorem dX6_findInside_132 : decode cX6_findInside 132 = .ok (.iadd, 1) := by decide +kernel
theorem dX6_findInside_133 : decode cX6_findInside 133 = .ok (.iaload, 1) := by decide +kernel
theorem dX6_findInside_134 : decode cX6_findInside 134 = .ok (.iconst 1, 1) := by decide +kernel
theorem dX6_findInside_135 : decode cX6_findInside 135 = .ok (.bastore, 1) := by decide +kernel
theorem dX6_findInside_136 : decode cX6_findInside 136 = .ok (.iconst 1, 1) := by decide +kernel
theorem dX6_findInside_137 : decode cX6_findInside 137 = .ok (.istore_n 2, 1) := by decide +kernel
theorem dX6_findInside_138 : decode cX6_findInside 138 = .ok (.iinc 3 1, 3) := by decide +kernel
theorem dX6_findInside_141 : decode cX6_findInside 141 = .ok (.goto (-92), 3) := by decide +kernel
theorem dX6_findInside_144 : decode cX6_findInside 144 = .ok (.goto (-103), 3) := by decide +kernel
theorem dX6_findInside_147 : decode cX6_findInside 147 = .ok (.return_, 1) := by decide +kernel
theorem dX6_countSide_0 : decode cX6_countSide 0 = .ok (.iconst 0, 1) := by decide +kernel
theorem dX6_countSide_1 : decode cX6_countSide 1 = .ok (.istore_n 3, 1) := by decide +kernel
theorem dX6_countSide_2 : decode cX6_countSide 2 = .ok (.iconst 0, 1) := by decide +kernel
theorem dX6_countSide_3 : decode cX6_countSide 3 = .ok (.istore 4, 2) := by decide +kernel
theorem dX6_countSide_5 : decode cX6_countSide 5 = .ok (.iload 4, 2) := by decide +kernel
theorem dX6_countSide_7 : decode cX6_countSide 7 = .ok (.aload_n 0, 1) := by decide +kernel
theorem dX6_countSide_8 : decode cX6_countSide 8 = .ok (.getfield 63, 3) := by decide +kernel
theorem dX6_countSide_11 : decode cX6_countSide 11 = .ok (.if_icmp .ge 160, 3) := by decide +kernel
theorem dX6_countSide_14 : decode cX6_countSide 14 = .ok (.aload_n 0, 1) := by decide +kernel
theorem dX6_countSide_15 : decode cX6_countSide 15 = .ok (.getfield 35, 3) := by decide +kernel
theorem dX6_countSide_18 : decode cX6_countSide 18 = .ok (.iload 4, 2) := by decide +kernel
theorem dX6_countSide_20 : decode cX6_countSide 20 = .ok (.iaload, 1) := by decide +kernel
theorem dX6_countSide_21 : decode cX6_countSide 21 = .ok (.aload_n 0, 1) := by decide +kernel
theorem dX6_countSide_22 : decode cX6_countSide 22 = .ok (.getfield 35, 3) := by decide +kernel
theorem dX6_countSide_25 : decode cX6_countSide 25 = .ok (.aload_n 0, 1) := by decide +kernel
theorem dX6_countSide_26 : decode cX6_countSide 26 = .ok (.getfield 7, 3) := by decide +kernel
theorem dX6_countSide_29 : decode cX6_countSide 29 = .ok (.iload_n 1, 1) := by decide +kernel
theorem dX6_countSide_30 : decode cX6_countSide 30 = .ok (.iaload, 1) := by decide +kernel
theorem dX6_countSide_31 : decode cX6_countSide 31 = .ok (.iaload, 1) := by decide +kernel
theorem dX6_countSide_32 : decode cX6_countSide 32 = .ok (.if_icmp .ne 17, 3) := by decide +kernel
theorem dX6_countSide_35 : decode cX6_countSide 35 = .ok (.aload_n 0, 1) := by decide +kernel
theorem dX6_countSide_36 : decode cX6_countSide 36 = .ok (.getfield 50, 3) := by decide +kernel
theorem dX6_countSide_39 : decode cX6_countSide 39 = .ok (.iload 4, 2) := by decide +kernel
theorem dX6_countSide_41 : decode cX6_countSide 41 = .ok (.baload, 1) := by decide +kernel
theorem dX6_countSide_42 : decode cX6_countSide 42 = .ok (.ifCond .ne 7, 3) := by decide +kernel
theorem dX6_countSide_45 : decode cX6_countSide 45 = .ok (.iconst 1, 1) := by decide +kernel
theorem dX6_countSide_46 : decode cX6_countSide 46 = .ok (.goto 4, 3) := by decide +kernel
theorem dX6_countSide_49 : decode cX6_countSide 49 = .ok (.iconst 0, 1) := by decide +kernel
theorem dX6_countSide_50 : decode cX6_countSide 50 = .ok (.istore 5, 2) := by decide +kernel
theorem dX6_countSide_52 : decode cX6_countSide 52 = .ok (.iconst 0, 1) := by decide +kernel
theorem dX6_countSide_53 : decode cX6_countSide 53 = .ok (.istore 6, 2) := by decide +kernel
theorem dX6_countSide_55 : decode cX6_countSide 55 = .ok (.iconst 0, 1) := by decide +kernel
theorem dX6_countSide_56 : decode cX6_countSide 56 = .ok (.istore 7, 2) := by decide +kernel
theorem dX6_countSide_58 : decode cX6_countSide 58 = .ok (.iload 7, 2) := by decide +kernel
theorem dX6_countSide_60 : decode cX6_countSide 60 = .ok (.aload_n 0, 1) := by decide +kernel
theorem dX6_countSide_61 : decode cX6_countSide 61 = .ok (.getfield 23, 3) := by decide +kernel
theorem dX6_countSide_64 : decode cX6_countSide 64 = .ok (.iload 4, 2) := by decide +kernel
theorem dX6_countSide_66 : decode cX6_countSide 66 = .ok (.iaload, 1) := by decide +kernel
theorem dX6_countSide_67 : decode cX6_countSide 67 = .ok (.if_icmp .ge 79, 3) := by decide +kernel
theorem dX6_countSide_70 : decode cX6_countSide 70 = .ok (.iload 5, 2) := by decide +kernel
theorem dX6_countSide_72 : decode cX6_countSide 72 = .ok (.ifCond .eq 74, 3) := by decide +kernel
theorem dX6_countSide_75 : decode cX6_countSide 75 = .ok (.aload_n 0, 1) := by decide +kernel
theorem dX6_countSide_76 : decode cX6_countSide 76 = .ok (.getfield 20, 3) := by decide +kernel
theorem dX6_countSide_79 : decode cX6_countSide 79 = .ok (.bipush 30, 2) := by decide +kernel
theorem dX6_countSide_81 : decode cX6_countSide 81 = .ok (.iload 4, 2) := by decide +kernel
theorem dX6_countSide_83 : decode cX6_countSide 83 = .ok (.imul, 1) := by decide +kernel
theorem dX6_countSide_84 : decode cX6_countSide 84 = .ok (.iload 7, 2) := by decide +kernel
theorem dX6_countSide_86 : decode cX6_countSide 86 = .ok (.iadd, 1) := by decide +kernel
theorem dX6_countSide_87 : decode cX6_countSide 87 = .ok (.iaload, 1) := by decide +kernel
theorem dX6_countSide_88 : decode cX6_countSide 88 = .ok (.istore 8, 2) := by decide +kernel
theorem dX6_countSide_90 : decode cX6_countSide 90 = .ok (.iload 6, 2) := by decide +kernel
theorem dX6_countSide_92 : decode cX6_countSide 92 = .ok (.ifCond .ne 41, 3) := by decide +kernel
theorem dX6_countSide_95 : decode cX6_countSide 95 = .ok (.aload_n 0, 1) := by decide +kernel
theorem dX6_countSide_96 : decode cX6_countSide 96 = .ok (.getfield 56, 3) := by decide +kernel
theorem dX6_countSide_99 : decode cX6_countSide 99 = .ok (.aload_n 0, 1) := by decide +kernel
theorem dX6_countSide_100 : decode cX6_countSide 100 = .ok (.getfield 29, 3) := by decide +kernel
theorem dX6_countSide_103 : decode cX6_countSide 103 = .ok (.aload_n 0, 1) := by decide +kernel
theorem dX6_countSide_104 : decode cX6_countSide 104 = .ok (.getfield 7, 3) := by decide +kernel
theorem dX6_countSide_107 : decode cX6_countSide 107 = .ok (.iload 8, 2) := by decide +kernel
theorem dX6_countSide_109 : decode cX6_countSide 109 = .ok (.iaload, 1) := by decide +kernel
theorem dX6_countSide_110 : decode cX6_countSide 110 = .ok (.iload 4, 2) := by decide +kernel
theorem dX6_countSide_112 : decode cX6_countSide 112 = .ok (.if_icmp .ne 10, 3) := by decide +kernel
theorem dX6_countSide_115 : decode cX6_countSide 115 = .ok (.iconst 2, 1) := by decide +kernel
theorem dX6_countSide_116 : decode cX6_countSide 116 = .ok (.iload 8, 2) := by decide +kernel
theorem dX6_countSide_118 : decode cX6_countSide 118 = .ok (.imul, 1) := by decide +kernel
theorem dX6_countSide_119 : decode cX6_countSide 119 = .ok (.goto 9, 3) := by decide +kernel
theorem dX6_countSide_122 : decode cX6_countSide 122 = .ok (.iconst 2, 1) := by decide +kernel
theorem dX6_countSide_123 : decode cX6_countSide 123 = .ok (.iload 8, 2) := by decide +kernel
theorem dX6_countSide_125 : decode cX6_countSide 125 = .ok (.imul, 1) := by decide +kernel
theorem dX6_countSide_126 : decode cX6_countSide 126 = .ok (.iconst 1, 1) := by decide +kernel
theorem dX6_countSide_127 : decode cX6_countSide 127 = .ok (.iadd, 1) := by decide +kernel
theorem dX6_countSide_128 : decode cX6_countSide 128 = .ok (.iaload, 1) := by decide +kernel
theorem dX6_countSide_129 : decode cX6_countSide 129 = .ok (.baload, 1) := by decide +kernel
theorem dX6_countSide_130 : decode cX6_countSide 130 = .ok (.ifCond .eq 7, 3) := by decide +kernel
theorem dX6_countSide_133 : decode cX6_countSide 133 = .ok (.iconst 1, 1) := by decide +kernel
theorem dX6_countSide_134 : decode cX6_countSide 134 = .ok (.goto 4, 3) := by decide +kernel
theorem dX6_countSide_137 : decode cX6_countSide 137 = .ok (.iconst 0, 1) := by decide +kernel
theorem dX6_countSide_138 : decode cX6_countSide 138 = .ok (.istore 6, 2) := by decide +kernel
theorem dX6_countSide_140 : decode cX6_countSide 140 = .ok (.iinc 7 1, 3) := by decide +kernel
theorem dX6_countSide_143 : decode cX6_countSide 143 = .ok (.goto (-85), 3) := by decide +kernel
theorem dX6_countSide_146 : decode cX6_countSide 146 = .ok (.iload 5, 2) := by decide +kernel
theorem dX6_countSide_148 : decode cX6_countSide 148 = .ok (.ifCond .eq 15, 3) := by decide +kernel
theorem dX6_countSide_151 : decode cX6_countSide 151 = .ok (.iload 6, 2) := by decide +kernel
theorem dX6_countSide_153 : decode cX6_countSide 153 = .ok (.iload_n 2, 1) := by decide +kernel
theorem dX6_countSide_154 : decode cX6_countSide 154 = .ok (.if_icmp .ne 9, 3) := by decide +kernel
theorem dX6_countSide_157 : decode cX6_countSide 157 = .ok (.iload_n 3, 1) := by decide +kernel
theorem dX6_countSide_158 : decode cX6_countSide 158 = .ok (.iconst 1, 1) := by decide +kernel
theorem dX6_countSide_159 : decode cX6_countSide 159 = .ok (.iadd, 1) := by decide +kernel
theorem dX6_countSide_160 : decode cX6_countSide 160 = .ok (.goto 4, 3) := by decide +kernel
theorem dX6_countSide_163 : decode cX6_countSide 163 = .ok (.iload_n 3, 1) := by decide +kernel
theorem dX6_countSide_164 : decode cX6_countSide 164 = .ok (.istore_n 3, 1) := by decide +kernel
theorem dX6_countSide_165 : decode cX6_countSide 165 = .ok (.iinc 4 1, 3) := by decide +kernel
theorem dX6_countSide_168 : decode cX6_countSide 168 = .ok (.goto (-163), 3) := by decide +kernel
theorem dX6_countSide_171 : decode cX6_countSide 171 = .ok (.iload_n 3, 1) := by decide +kernel
theorem dX6_countSide_172 : decode cX6_countSide 172 = .ok (.ireturn, 1) := by decide +kernel
theorem dX6_side_0 : decode cX6_side 0 = .ok (.aload_n 0, 1) := by decide +kernel
theorem dX6_side_1 : decode cX6_side 1 = .ok (.aload_n 0, 1) := by decide +kernel
theorem dX6_side_2 : decode cX6_side 2 = .ok (.iload_n 1, 1) := by decide +kernel
theorem dX6_side_3 : decode cX6_side 3 = .ok (.invokevirtual 83, 3) := by decide +kernel
theorem dX6_side_6 : decode cX6_side 6 = .ok (.ifCond .ne 7, 3) := by decide +kernel
theorem dX6_side_9 : decode cX6_side 9 = .ok (.iconst 1, 1) := by decide +kernel
theorem dX6_side_10 : decode cX6_side 10 = .ok (.goto 15, 3) := by decide +kernel
theorem dX6_side_13 : decode cX6_side 13 = .ok (.aload_n 0, 1) := by decide +kernel
theorem dX6_side_14 : decode cX6_side 14 = .ok (.invokevirtual 136, 3) := by decide +kernel
theorem dX6_side_17 : decode cX6_side 17 = .ok (.ifCond .eq 7, 3) := by decide +kernel
theorem dX6_side_20 : decode cX6_side 20 = .ok (.iconst 2, 1) := by decide +kernel
theorem dX6_side_21 : decode cX6_side 21 = .ok (.goto 4, 3) := by decide +kernel
theorem dX6_side_24 : decode cX6_side 24 = .ok (.iconst 0, 1) := by decide +kernel
theorem dX6_side_25 : decode cX6_side 25 = .ok (.putfield 59, 3) := by decide +kernel
theorem dX6_side_28 : decode cX6_side 28 = .ok (.aload_n 0, 1) := by decide +kernel
theorem dX6_side_29 : decode cX6_side 29 = .ok (.getfield 59, 3) := by decide +kernel
theorem dX6_side_32 : decode cX6_side 32 = .ok (.ifCond .gt 11, 3) := by decide +kernel
theorem dX6_side_35 : decode cX6_side 35 = .ok (.aload_n 0, 1) := by decide +kernel
theorem dX6_side_36 : decode cX6_side 36 = .ok (.iload_n 1, 1) := by decide +kernel
theorem dX6_side_37 : decode cX6_side 37 = .ok (.invokevirtual 167, 3) := by decide +kernel
theorem dX6_side_40 : decode cX6_side 40 = .ok (.ifCond .eq 5, 3) := by decide +kernel
theorem dX6_side_43 : decode cX6_side 43 = .ok (.iconst 0, 1) := by decide +kernel
theorem dX6_side_44 : decode cX6_side 44 = .ok (.ireturn, 1) := by decide +kernel
theorem dX6_side_45 : decode cX6_side 45 = .ok (.aload_n 0, 1) := by decide +kernel
theorem dX6_side_46 : decode cX6_side 46 = .ok (.iload_n 1, 1) := by decide +kernel
theorem dX6_side_47 : decode cX6_side 47 = .ok (.invokevirtual 170, 3) := by decide +kernel
theorem dX6_side_50 : decode cX6_side 50 = .ok (.istore_n 3, 1) := by decide +kernel
theorem dX6_side_51 : decode cX6_side 51 = .ok (.aload_n 0, 1) := by decide +kernel
theorem dX6_side_52 : decode cX6_side 52 = .ok (.iload_n 1, 1) := by decide +kernel
theorem dX6_side_53 : decode cX6_side 53 = .ok (.invokevirtual 173, 3) := by decide +kernel
theorem dX6_side_56 : decode cX6_side 56 = .ok (.aload_n 0, 1) := by decide +kernel
theorem dX6_side_57 : decode cX6_side 57 = .ok (.iload_n 1, 1) := by decide +kernel
theorem dX6_side_58 : decode cX6_side 58 = .ok (.iload_n 2, 1) := by decide +kernel
theorem dX6_side_59 : decode cX6_side 59 = .ok (.invokevirtual 176, 3) := by decide +kernel
theorem dX6_side_62 : decode cX6_side 62 = .ok (.ireturn, 1) := by decide +kernel
theorem dX6_best_0 : decode cX6_best 0 = .ok (.aload_n 0, 1) := by decide +kernel
theorem dX6_best_1 : decode cX6_best 1 = .ok (.aload_n 0, 1) := by decide +kernel
theorem dX6_best_2 : decode cX6_best 2 = .ok (.invokevirtual 136, 3) := by decide +kernel
theorem dX6_best_5 : decode cX6_best 5 = .ok (.ifCond .ne 7, 3) := by decide +kernel
theorem dX6_best_8 : decode cX6_best 8 = .ok (.iconst 0, 1) := by decide +kernel
theorem dX6_best_9 : decode cX6_best 9 = .ok (.goto 4, 3) := by decide +kernel
theorem dX6_best_12 : decode cX6_best 12 = .ok (.iconst 1, 1) := by decide +kernel
theorem dX6_best_13 : decode cX6_best 13 = .ok (.putfield 59, 3) := by decide +kernel
theorem dX6_best_16 : decode cX6_best 16 = .ok (.aload_n 0, 1) := by decide +kernel
theorem dX6_best_17 : decode cX6_best 17 = .ok (.getfield 59, 3) := by decide +kernel
theorem dX6_best_20 : decode cX6_best 20 = .ok (.ifCond .le 5, 3) := by decide +kernel
theorem dX6_best_23 : decode cX6_best 23 = .ok (.iconst 0, 1) := by decide +kernel
theorem dX6_best_24 : decode cX6_best 24 = .ok (.ireturn, 1) := by decide +kernel
theorem dX6_best_25 : decode cX6_best 25 = .ok (.iconst (-1), 1) := by decide +kernel
theorem dX6_best_26 : decode cX6_best 26 = .ok (.istore_n 1, 1) := by decide +kernel
theorem dX6_best_27 : decode cX6_best 27 = .ok (.iconst 0, 1) := by decide +kernel
theorem dX6_best_28 : decode cX6_best 28 = .ok (.istore_n 2, 1) := by decide +kernel
theorem dX6_best_29 : decode cX6_best 29 = .ok (.iconst 0, 1) := by decide +kernel
theorem dX6_best_30 : decode cX6_best 30 = .ok (.istore_n 3, 1) := by decide +kernel
theorem dX6_best_31 : decode cX6_best 31 = .ok (.iconst 0, 1) := by decide +kernel
theorem dX6_best_32 : decode cX6_best 32 = .ok (.istore 4, 2) := by decide +kernel
theorem dX6_best_34 : decode cX6_best 34 = .ok (.iload 4, 2) := by decide +kernel
theorem dX6_best_36 : decode cX6_best 36 = .ok (.aload_n 0, 1) := by decide +kernel
theorem dX6_best_37 : decode cX6_best 37 = .ok (.getfield 66, 3) := by decide +kernel
theorem dX6_best_40 : decode cX6_best 40 = .ok (.if_icmp .ge 108, 3) := by decide +kernel
theorem dX6_best_43 : decode cX6_best 43 = .ok (.aload_n 0, 1) := by decide +kernel
theorem dX6_best_44 : decode cX6_best 44 = .ok (.getfield 16, 3) := by decide +kernel
theorem dX6_best_47 : decode cX6_best 47 = .ok (.iload 4, 2) := by decide +kernel
theorem dX6_best_49 : decode cX6_best 49 = .ok (.baload, 1) := by decide +kernel
theorem dX6_best_50 : decode cX6_best 50 = .ok (.ifCond .ne 92, 3) := by decide +kernel
theorem dX6_best_53 : decode cX6_best 53 = .ok (.aload_n 0, 1) := by decide +kernel
theorem dX6_best_54 : decode cX6_best 54 = .ok (.iload 4, 2) := by decide +kernel
theorem dX6_best_56 : decode cX6_best 56 = .ok (.invokevirtual 167, 3) := by decide +kernel
theorem dX6_best_59 : decode cX6_best 59 = .ok (.ifCond .ne 83, 3) := by decide +kernel
theorem dX6_best_62 : decode cX6_best 62 = .ok (.aload_n 0, 1) := by decide +kernel
theorem dX6_best_63 : decode cX6_best 63 = .ok (.iload 4, 2) := by decide +kernel
theorem dX6_best_65 : decode cX6_best 65 = .ok (.invokevirtual 170, 3) := by decide +kernel
theorem dX6_best_68 : decode cX6_best 68 = .ok (.istore 5, 2) := by decide +kernel
theorem dX6_best_70 : decode cX6_best 70 = .ok (.aload_n 0, 1) := by decide +kernel
theorem dX6_best_71 : decode cX6_best 71 = .ok (.iload 4, 2) := by decide +kernel
theorem dX6_best_73 : decode cX6_best 73 = .ok (.invokevirtual 173, 3) := by decide +kernel
theorem dX6_best_76 : decode cX6_best 76 = .ok (.aload_n 0, 1) := by decide +kernel
theorem dX6_best_77 : decode cX6_best 77 = .ok (.iload 4, 2) := by decide +kernel
theorem dX6_best_79 : decode cX6_best 79 = .ok (.iconst 1, 1) := by decide +kernel
theorem dX6_best_80 : decode cX6_best 80 = .ok (.invokevirtual 176, 3) := by decide +kernel
theorem dX6_best_83 : decode cX6_best 83 = .ok (.istore 6, 2) := by decide +kernel
theorem dX6_best_85 : decode cX6_best 85 = .ok (.aload_n 0, 1) := by decide +kernel
theorem dX6_best_86 : decode cX6_best 86 = .ok (.iload 4, 2) := by decide +kernel
theorem dX6_best_88 : decode cX6_best 88 = .ok (.iconst 0, 1) := by decide +kernel
theorem dX6_best_89 : decode cX6_best 89 = .ok (.invokevirtual 176, 3) := by decide +kernel
theorem dX6_best_92 : decode cX6_best 92 = .ok (.istore 7, 2) := by decide +kernel
theorem dX6_best_94 : decode cX6_best 94 = .ok (.iload 6, 2) := by decide +kernel
theorem dX6_best_96 : decode cX6_best 96 = .ok (.iload 7, 2) := by decide +kernel
theorem dX6_best_98 : decode cX6_best 98 = .ok (.if_icmp .le 8, 3) := by decide +kernel
theorem dX6_best_101 : decode cX6_best 101 = .ok (.iload 6, 2) := by decide +kernel
theorem dX6_best_103 : decode cX6_best 103 = .ok (.goto 5, 3) := by decide +kernel
theorem dX6_best_106 : decode cX6_best 106 = .ok (.iload 7, 2) := by decide +kernel
theorem dX6_best_108 : decode cX6_best 108 = .ok (.istore 8, 2) := by decide +kernel
theorem dX6_best_110 : decode cX6_best 110 = .ok (.iload_n 1, 1) := by decide +kernel
theorem dX6_best_111 : decode cX6_best 111 = .ok (.iconst (-1), 1) := by decide +kernel
theorem dX6_best_112 : decode cX6_best 112 = .ok (.if_icmp .eq 21, 3) := by decide +kernel
theorem dX6_best_115 : decode cX6_best 115 = .ok (.iload 8, 2) := by decide +kernel
theorem dX6_best_117 : decode cX6_best 117 = .ok (.iload_n 2, 1) := by decide +kernel
theorem dX6_best_118 : decode cX6_best 118 = .ok (.if_icmp .lt 15, 3) := by decide +kernel
theorem dX6_best_121 : decode cX6_best 121 = .ok (.iload 8, 2) := by decide +kernel
theorem dX6_best_123 : decode cX6_best 123 = .ok (.iload_n 2, 1) := by decide +kernel
theorem dX6_best_124 : decode cX6_best 124 = .ok (.if_icmp .ne 18, 3) := by decide +kernel
theorem dX6_best_127 : decode cX6_best 127 = .ok (.iload 5, 2) := by decide +kernel
theorem dX6_best_129 : decode cX6_best 129 = .ok (.iload_n 3, 1) := by decide +kernel
theorem dX6_best_130 : decode cX6_best 130 = .ok (.if_icmp .ge 12, 3) := by decide +kernel
theorem dX6_best_133 : decode cX6_best 133 = .ok (.iload 4, 2) := by decide +kernel
theorem dX6_best_135 : decode cX6_best 135 = .ok (.istore_n 1, 1) := by decide +kernel
theorem dX6_best_136 : decode cX6_best 136 = .ok (.iload 8, 2) := by decide +kernel
theorem dX6_best_138 : decode cX6_best 138 = .ok (.istore_n 2, 1) := by decide +kernel
theorem dX6_best_139 : decode cX6_best 139 = .ok (.iload 5, 2) := by decide +kernel
theorem dX6_best_141 : decode cX6_best 141 = .ok (.istore_n 3, 1) := by decide +kernel
theorem dX6_best_142 : decode cX6_best 142 = .ok (.iinc 4 1, 3) := by decide +kernel
theorem dX6_best_145 : decode cX6_best 145 = .ok (.goto (-111), 3) := by decide +kernel
theorem dX6_best_148 : decode cX6_best 148 = .ok (.iload_n 1, 1) := by decide +kernel
theorem dX6_best_149 : decode cX6_best 149 = .ok (.ireturn, 1) := by decide +kernel
theorem dX6_told_0 : decode cX6_told 0 = .ok (.aload_n 0, 1) := by decide +kernel
theorem dX6_told_1 : decode cX6_told 1 = .ok (.iconst 0, 1) := by decide +kernel
theorem dX6_told_2 : decode cX6_told 2 = .ok (.putfield 59, 3) := by decide +kernel
theorem dX6_told_5 : decode cX6_told 5 = .ok (.iload_n 1, 1) := by decide +kernel
theorem dX6_told_6 : decode cX6_told 6 = .ok (.ifCond .ne 10, 3) := by decide +kernel
theorem dX6_told_9 : decode cX6_told 9 = .ok (.aload_n 0, 1) := by decide +kernel
theorem dX6_told_10 : decode cX6_told 10 = .ok (.getfield 63, 3) := by decide +kernel
theorem dX6_told_13 : decode cX6_told 13 = .ok (.goto 48, 3) := by decide +kernel
theorem dX6_told_16 : decode cX6_told 16 = .ok (.iload_n 1, 1) := by decide +kernel
theorem dX6_told_17 : decode cX6_told 17 = .ok (.iconst 1, 1) := by decide +kernel
theorem dX6_told_18 : decode cX6_told 18 = .ok (.if_icmp .ne 10, 3) := by decide +kernel
theorem dX6_told_21 : decode cX6_told 21 = .ok (.aload_n 0, 1) := by decide +kernel
theorem dX6_told_22 : decode cX6_told 22 = .ok (.getfield 97, 3) := by decide +kernel
theorem dX6_told_25 : decode cX6_told 25 = .ok (.goto 36, 3) := by decide +kernel
theorem dX6_told_28 : decode cX6_told 28 = .ok (.iload_n 1, 1) := by decide +kernel
theorem dX6_told_29 : decode cX6_told 29 = .ok (.iconst 2, 1) := by decide +kernel
theorem dX6_told_30 : decode cX6_told 30 = .ok (.if_icmp .ne 18, 3) := by decide +kernel
theorem dX6_told_33 : decode cX6_told 33 = .ok (.aload_n 0, 1) := by decide +kernel
theorem dX6_told_34 : decode cX6_told 34 = .ok (.invokevirtual 136, 3) := by decide +kernel
theorem dX6_told_37 : decode cX6_told 37 = .ok (.ifCond .ne 7, 3) := by decide +kernel
theorem dX6_told_40 : decode cX6_told 40 = .ok (.iconst 1, 1) := by decide +kernel
theorem dX6_told_41 : decode cX6_told 41 = .ok (.goto 20, 3) := by decide +kernel
theorem dX6_told_44 : decode cX6_told 44 = .ok (.iconst 0, 1) := by decide +kernel
theorem dX6_told_45 : decode cX6_told 45 = .ok (.goto 16, 3) := by decide +kernel
theorem dX6_told_48 : decode cX6_told 48 = .ok (.iload_n 1, 1) := by decide +kernel
theorem dX6_told_49 : decode cX6_told 49 = .ok (.iconst 3, 1) := by decide +kernel
theorem dX6_told_50 : decode cX6_told 50 = .ok (.if_icmp .ne 10, 3) := by decide +kernel
theorem dX6_told_53 : decode cX6_told 53 = .ok (.aload_n 0, 1) := by decide +kernel
theorem dX6_told_54 : decode cX6_told 54 = .ok (.invokevirtual 161, 3) := by decide +kernel
theorem dX6_told_57 : decode cX6_told 57 = .ok (.goto 4, 3) := by decide +kernel
theorem dX6_told_60 : decode cX6_told 60 = .ok (.iconst (-1), 1) := by decide +kernel
theorem dX6_told_61 : decode cX6_told 61 = .ok (.ireturn, 1) := by decide +kernel
theorem dX6_clear_0 : decode cX6_clear 0 = .ok (.aload_n 0, 1) := by decide +kernel
theorem dX6_clear_1 : decode cX6_clear 1 = .ok (.iconst 0, 1) := by decide +kernel
theorem dX6_clear_2 : decode cX6_clear 2 = .ok (.putfield 59, 3) := by decide +kernel
theorem dX6_clear_5 : decode cX6_clear 5 = .ok (.aload_n 0, 1) := by decide +kernel
theorem dX6_clear_6 : decode cX6_clear 6 = .ok (.iconst 0, 1) := by decide +kernel
theorem dX6_clear_7 : decode cX6_clear 7 = .ok (.putfield 63, 3) := by decide +kernel
theorem dX6_clear_10 : decode cX6_clear 10 = .ok (.aload_n 0, 1) := by decide +kernel
theorem dX6_clear_11 : decode cX6_clear 11 = .ok (.iconst 0, 1) := by decide +kernel
theorem dX6_clear_12 : decode cX6_clear 12 = .ok (.putfield 66, 3) := by decide +kernel
theorem dX6_clear_15 : decode cX6_clear 15 = .ok (.aload_n 0, 1) := by decide +kernel
theorem dX6_clear_16 : decode cX6_clear 16 = .ok (.iconst 0, 1) := by decide +kernel
theorem dX6_clear_17 : decode cX6_clear 17 = .ok (.putfield 97, 3) := by decide +kernel
theorem dX6_clear_20 : decode cX6_clear 20 = .ok (.aload_n 0, 1) := by decide +kernel
theorem dX6_clear_21 : decode cX6_clear 21 = .ok (.iconst 0, 1) := by decide +kernel
theorem dX6_clear_22 : decode cX6_clear 22 = .ok (.putfield 73, 3) := by decide +kernel
theorem dX6_clear_25 : decode cX6_clear 25 = .ok (.aload_n 0, 1) := by decide +kernel
theorem dX6_clear_26 : decode cX6_clear 26 = .ok (.invokevirtual 100, 3) := by decide +kernel
theorem dX6_clear_29 : decode cX6_clear 29 = .ok (.return_, 1) := by decide +kernel

theorem dX2_init_0 : decode cX2_init 0 = .ok (.aload_n 0, 1) := by decide +kernel
theorem dX2_init_1 : decode cX2_init 1 = .ok (.invokespecial 3, 3) := by decide +kernel
theorem dX2_init_4 : decode cX2_init 4 = .ok (.aload_n 0, 1) := by decide +kernel
theorem dX2_init_5 : decode cX2_init 5 = .ok (.sipush 200, 3) := by decide +kernel
theorem dX2_init_8 : decode cX2_init 8 = .ok (.newarray .int, 2) := by decide +kernel
theorem dX2_init_10 : decode cX2_init 10 = .ok (.putfield 9, 3) := by decide +kernel
theorem dX2_init_13 : decode cX2_init 13 = .ok (.aload_n 0, 1) := by decide +kernel
theorem dX2_init_14 : decode cX2_init 14 = .ok (.sipush 200, 3) := by decide +kernel
theorem dX2_init_17 : decode cX2_init 17 = .ok (.newarray .int, 2) := by decide +kernel
theorem dX2_init_19 : decode cX2_init 19 = .ok (.putfield 15, 3) := by decide +kernel
theorem dX2_init_22 : decode cX2_init 22 = .ok (.aload_n 0, 1) := by decide +kernel
theorem dX2_init_23 : decode cX2_init 23 = .ok (.sipush 200, 3) := by decide +kernel
theorem dX2_init_26 : decode cX2_init 26 = .ok (.newarray .int, 2) := by decide +kernel
theorem dX2_init_28 : decode cX2_init 28 = .ok (.putfield 18, 3) := by decide +kernel
theorem dX2_init_31 : decode cX2_init 31 = .ok (.aload_n 0, 1) := by decide +kernel
theorem dX2_init_32 : decode cX2_init 32 = .ok (.bipush 100, 2) := by decide +kernel
theorem dX2_init_34 : decode cX2_init 34 = .ok (.newarray .boolean, 2) := by decide +kernel
theorem dX2_init_36 : decode cX2_init 36 = .ok (.putfield 21, 3) := by decide +kernel
theorem dX2_init_39 : decode cX2_init 39 = .ok (.aload_n 0, 1) := by decide +kernel
theorem dX2_init_40 : decode cX2_init 40 = .ok (.bipush 30, 2) := by decide +kernel
theorem dX2_init_42 : decode cX2_init 42 = .ok (.newarray .int, 2) := by decide +kernel
theorem dX2_init_44 : decode cX2_init 44 = .ok (.putfield 25, 3) := by decide +kernel
theorem dX2_init_47 : decode cX2_init 47 = .ok (.aload_n 0, 1) := by decide +kernel
theorem dX2_init_48 : decode cX2_init 48 = .ok (.bipush 30, 2) := by decide +kernel
theorem dX2_init_50 : decode cX2_init 50 = .ok (.newarray .int, 2) := by decide +kernel
theorem dX2_init_52 : decode cX2_init 52 = .ok (.putfield 28, 3) := by decide +kernel
theorem dX2_init_55 : decode cX2_init 55 = .ok (.aload_n 0, 1) := by decide +kernel
theorem dX2_init_56 : decode cX2_init 56 = .ok (.iconst 0, 1) := by decide +kernel
theorem dX2_init_57 : decode cX2_init 57 = .ok (.putfield 31, 3) := by decide +kernel
theorem dX2_init_60 : decode cX2_init 60 = .ok (.aload_n 0, 1) := by decide +kernel
theorem dX2_init_61 : decode cX2_init 61 = .ok (.iconst 0, 1) := by decide +kernel
theorem dX2_init_62 : decode cX2_init 62 = .ok (.putfield 35, 3) := by decide +kernel
theorem dX2_init_65 : decode cX2_init 65 = .ok (.aload_n 0, 1) := by decide +kernel
theorem dX2_init_66 : decode cX2_init 66 = .ok (.iconst 0, 1) := by decide +kernel
theorem dX2_init_67 : decode cX2_init 67 = .ok (.putfield 38, 3) := by decide +kernel
theorem dX2_init_70 : decode cX2_init 70 = .ok (.return_, 1) := by decide +kernel
theorem dX2_addVertex_0 : decode cX2_addVertex 0 = .ok (.aload_n 0, 1) := by decide +kernel
theorem dX2_addVertex_1 : decode cX2_addVertex 1 = .ok (.getfield 31, 3) := by decide +kernel
theorem dX2_addVertex_4 : decode cX2_addVertex 4 = .ok (.istore_n 1, 1) := by decide +kernel
theorem dX2_addVertex_5 : decode cX2_addVertex 5 = .ok (.aload_n 0, 1) := by decide +kernel
theorem dX2_addVertex_6 : decode cX2_addVertex 6 = .ok (.getfield 25, 3) := by decide +kernel
theorem dX2_addVertex_9 : decode cX2_addVertex 9 = .ok (.iload_n 1, 1) := by decide +kernel
theorem dX2_addVertex_10 : decode cX2_addVertex 10 = .ok (.iconst (-1), 1) := by decide +kernel
theorem dX2_addVertex_11 : decode cX2_addVertex 11 = .ok (.iastore, 1) := by decide +kernel
theorem dX2_addVertex_12 : decode cX2_addVertex 12 = .ok (.aload_n 0, 1) := by decide +kernel
theorem dX2_addVertex_13 : decode cX2_addVertex 13 = .ok (.getfield 28, 3) := by decide +kernel
theorem dX2_addVertex_16 : decode cX2_addVertex 16 = .ok (.iload_n 1, 1) := by decide +kernel
theorem dX2_addVertex_17 : decode cX2_addVertex 17 = .ok (.iconst 0, 1) := by decide +kernel
theorem dX2_addVertex_18 : decode cX2_addVertex 18 = .ok (.iastore, 1) := by decide +kernel
theorem dX2_addVertex_19 : decode cX2_addVertex 19 = .ok (.aload_n 0, 1) := by decide +kernel
theorem dX2_addVertex_20 : decode cX2_addVertex 20 = .ok (.dup, 1) := by decide +kernel
theorem dX2_addVertex_21 : decode cX2_addVertex 21 = .ok (.getfield 31, 3) := by decide +kernel
theorem dX2_addVertex_24 : decode cX2_addVertex 24 = .ok (.iconst 1, 1) := by decide +kernel
theorem dX2_addVertex_25 : decode cX2_addVertex 25 = .ok (.iadd, 1) := by decide +kernel
theorem dX2_addVertex_26 : decode cX2_addVertex 26 = .ok (.putfield 31, 3) := by decide +kernel
theorem dX2_addVertex_29 : decode cX2_addVertex 29 = .ok (.iload_n 1, 1) := by decide +kernel
theorem dX2_addVertex_30 : decode cX2_addVertex 30 = .ok (.ireturn, 1) := by decide +kernel
theorem dX2_addEdge_0 : decode cX2_addEdge 0 = .ok (.aload_n 0, 1) := by decide +kernel
theorem dX2_addEdge_1 : decode cX2_addEdge 1 = .ok (.getfield 35, 3) := by decide +kernel
theorem dX2_addEdge_4 : decode cX2_addEdge 4 = .ok (.istore 5, 2) := by decide +kernel
theorem dX2_addEdge_6 : decode cX2_addEdge 6 = .ok (.aload_n 0, 1) := by decide +kernel
theorem dX2_addEdge_7 : decode cX2_addEdge 7 = .ok (.getfield 21, 3) := by decide +kernel
theorem dX2_addEdge_10 : decode cX2_addEdge 10 = .ok (.iload 5, 2) := by decide +kernel
theorem dX2_addEdge_12 : decode cX2_addEdge 12 = .ok (.iconst 1, 1) := by decide +kernel
theorem dX2_addEdge_13 : decode cX2_addEdge 13 = .ok (.bastore, 1) := by decide +kernel
theorem dX2_addEdge_14 : decode cX2_addEdge 14 = .ok (.aload_n 0, 1) := by decide +kernel
theorem dX2_addEdge_15 : decode cX2_addEdge 15 = .ok (.dup, 1) := by decide +kernel
theorem dX2_addEdge_16 : decode cX2_addEdge 16 = .ok (.getfield 35, 3) := by decide +kernel
theorem dX2_addEdge_19 : decode cX2_addEdge 19 = .ok (.iconst 1, 1) := by decide +kernel
theorem dX2_addEdge_20 : decode cX2_addEdge 20 = .ok (.iadd, 1) := by decide +kernel
theorem dX2_addEdge_21 : decode cX2_addEdge 21 = .ok (.putfield 35, 3) := by decide +kernel
theorem dX2_addEdge_24 : decode cX2_addEdge 24 = .ok (.aload_n 0, 1) := by decide +kernel
theorem dX2_addEdge_25 : decode cX2_addEdge 25 = .ok (.dup, 1) := by decide +kernel
theorem dX2_addEdge_26 : decode cX2_addEdge 26 = .ok (.getfield 38, 3) := by decide +kernel
theorem dX2_addEdge_29 : decode cX2_addEdge 29 = .ok (.iconst 1, 1) := by decide +kernel
theorem dX2_addEdge_30 : decode cX2_addEdge 30 = .ok (.iadd, 1) := by decide +kernel
theorem dX2_addEdge_31 : decode cX2_addEdge 31 = .ok (.putfield 38, 3) := by decide +kernel
theorem dX2_addEdge_34 : decode cX2_addEdge 34 = .ok (.aload_n 0, 1) := by decide +kernel
theorem dX2_addEdge_35 : decode cX2_addEdge 35 = .ok (.iconst 2, 1) := by decide +kernel
theorem dX2_addEdge_36 : decode cX2_addEdge 36 = .ok (.iload 5, 2) := by decide +kernel
theorem dX2_addEdge_38 : decode cX2_addEdge 38 = .ok (.imul, 1) := by decide +kernel
theorem dX2_addEdge_39 : decode cX2_addEdge 39 = .ok (.iload_n 1, 1) := by decide +kernel
theorem dX2_addEdge_40 : decode cX2_addEdge 40 = .ok (.iload_n 3, 1) := by decide +kernel
theorem dX2_addEdge_41 : decode cX2_addEdge 41 = .ok (.invokevirtual 41, 3) := by decide +kernel
theorem dX2_addEdge_44 : decode cX2_addEdge 44 = .ok (.aload_n 0, 1) := by decide +kernel
theorem dX2_addEdge_45 : decode cX2_addEdge 45 = .ok (.iconst 2, 1) := by decide +kernel
theorem dX2_addEdge_46 : decode cX2_addEdge 46 = .ok (.iload 5, 2) := by decide +kernel
theorem dX2_addEdge_48 : decode cX2_addEdge 48 = .ok (.imul, 1) := by decide +kernel
theorem dX2_addEdge_49 : decode cX2_addEdge 49 = .ok (.iconst 1, 1) := by decide +kernel
theorem dX2_addEdge_50 : decode cX2_addEdge 50 = .ok (.iadd, 1) := by decide +kernel
theorem dX2_addEdge_51 : decode cX2_addEdge 51 = .ok (.iload_n 2, 1) := by decide +kernel
theorem dX2_addEdge_52 : decode cX2_addEdge 52 = .ok (.iload 4, 2) := by decide +kernel
theorem dX2_addEdge_54 : decode cX2_addEdge 54 = .ok (.invokevirtual 41, 3) := by decide +kernel
theorem dX2_addEdge_57 : decode cX2_addEdge 57 = .ok (.iload 5, 2) := by decide +kernel
theorem dX2_addEdge_59 : decode cX2_addEdge 59 = .ok (.ireturn, 1) := by decide +kernel
theorem dX2_putSide_0 : decode cX2_putSide 0 = .ok (.aload_n 0, 1) := by decide +kernel
theorem dX2_putSide_1 : decode cX2_putSide 1 = .ok (.getfield 9, 3) := by decide +kernel
theorem dX2_putSide_4 : decode cX2_putSide 4 = .ok (.iload_n 1, 1) := by decide +kernel
theorem dX2_putSide_5 : decode cX2_putSide 5 = .ok (.iload_n 2, 1) := by decide +kernel
theorem dX2_putSide_6 : decode cX2_putSide 6 = .ok (.iastore, 1) := by decide +kernel
theorem dX2_putSide_7 : decode cX2_putSide 7 = .ok (.aload_n 0, 1) := by decide +kernel
theorem dX2_putSide_8 : decode cX2_putSide 8 = .ok (.getfield 28, 3) := by decide +kernel
theorem dX2_putSide_11 : decode cX2_putSide 11 = .ok (.iload_n 2, 1) := by decide +kernel
theorem dX2_putSide_12 : decode cX2_putSide 12 = .ok (.iaload, 1) := by decide +kernel
theorem dX2_putSide_13 : decode cX2_putSide 13 = .ok (.ifCond .ne 27, 3) := by decide +kernel
theorem dX2_putSide_16 : decode cX2_putSide 16 = .ok (.aload_n 0, 1) := by decide +kernel
theorem dX2_putSide_17 : decode cX2_putSide 17 = .ok (.getfield 25, 3) := by decide +kernel
theorem dX2_putSide_20 : decode cX2_putSide 20 = .ok (.iload_n 2, 1) := by decide +kernel
theorem dX2_putSide_21 : decode cX2_putSide 21 = .ok (.iload_n 1, 1) := by decide +kernel
theorem dX2_putSide_22 : decode cX2_putSide 22 = .ok (.iastore, 1) := by decide +kernel
theorem dX2_putSide_23 : decode cX2_putSide 23 = .ok (.aload_n 0, 1) := by decide +kernel
theorem dX2_putSide_24 : decode cX2_putSide 24 = .ok (.getfield 15, 3) := by decide +kernel
theorem dX2_putSide_27 : decode cX2_putSide 27 = .ok (.iload_n 1, 1) := by decide +kernel
theorem dX2_putSide_28 : decode cX2_putSide 28 = .ok (.iload_n 1, 1) := by decide +kernel
theorem dX2_putSide_29 : decode cX2_putSide 29 = .ok (.iastore, 1) := by decide +kernel
theorem dX2_putSide_30 : decode cX2_putSide 30 = .ok (.aload_n 0, 1) := by decide +kernel
theorem dX2_putSide_31 : decode cX2_putSide 31 = .ok (.getfield 18, 3) := by decide +kernel
theorem dX2_putSide_34 : decode cX2_putSide 34 = .ok (.iload_n 1, 1) := by decide +kernel
theorem dX2_putSide_35 : decode cX2_putSide 35 = .ok (.iload_n 1, 1) := by decide +kernel
theorem dX2_putSide_36 : decode cX2_putSide 36 = .ok (.iastore, 1) := by decide +kernel
theorem dX2_putSide_37 : decode cX2_putSide 37 = .ok (.goto 53, 3) := by decide +kernel
theorem dX2_putSide_40 : decode cX2_putSide 40 = .ok (.iload_n 3, 1) := by decide +kernel
theorem dX2_putSide_41 : decode cX2_putSide 41 = .ok (.iconst (-1), 1) := by decide +kernel
theorem dX2_putSide_42 : decode cX2_putSide 42 = .ok (.if_icmp .ne 17, 3) := by decide +kernel
theorem dX2_putSide_45 : decode cX2_putSide 45 = .ok (.aload_n 0, 1) := by decide +kernel
theorem dX2_putSide_46 : decode cX2_putSide 46 = .ok (.getfield 18, 3) := by decide +kernel
theorem dX2_putSide_49 : decode cX2_putSide 49 = .ok (.aload_n 0, 1) := by decide +kernel
theorem dX2_putSide_50 : decode cX2_putSide 50 = .ok (.getfield 25, 3) := by decide +kernel
theorem dX2_putSide_53 : decode cX2_putSide 53 = .ok (.iload_n 2, 1) := by decide +kernel
theorem dX2_putSide_54 : decode cX2_putSide 54 = .ok (.iaload, 1) := by decide +kernel
theorem dX2_putSide_55 : decode cX2_putSide 55 = .ok (.iaload, 1) := by decide +kernel
theorem dX2_putSide_56 : decode cX2_putSide 56 = .ok (.goto 9, 3) := by decide +kernel
theorem dX2_putSide_59 : decode cX2_putSide 59 = .ok (.aload_n 0, 1) := by decide +kernel
theorem dX2_putSide_60 : decode cX2_putSide 60 = .ok (.iload_n 2, 1) := by decide +kernel
theorem dX2_putSide_61 : decode cX2_putSide 61 = .ok (.iload_n 3, 1) := by decide +kernel
theorem dX2_putSide_62 : decode cX2_putSide 62 = .ok (.invokevirtual 45, 3) := by decide +kernel
theorem dX2_putSide_65 : decode cX2_putSide 65 = .ok (.istore 4, 2) := by decide +kernel
theorem dX2_putSide_67 : decode cX2_putSide 67 = .ok (.aload_n 0, 1) := by decide +kernel
theorem dX2_putSide_68 : decode cX2_putSide 68 = .ok (.getfield 15, 3) := by decide +kernel
theorem dX2_putSide_71 : decode cX2_putSide 71 = .ok (.iload 4, 2) := by decide +kernel
theorem dX2_putSide_73 : decode cX2_putSide 73 = .ok (.iaload, 1) := by decide +kernel
theorem dX2_putSide_74 : decode cX2_putSide 74 = .ok (.istore 5, 2) := by decide +kernel
theorem dX2_putSide_76 : decode cX2_putSide 76 = .ok (.aload_n 0, 1) := by decide +kernel
theorem dX2_putSide_77 : decode cX2_putSide 77 = .ok (.iload 4, 2) := by decide +kernel
theorem dX2_putSide_79 : decode cX2_putSide 79 = .ok (.iload_n 1, 1) := by decide +kernel
theorem dX2_putSide_80 : decode cX2_putSide 80 = .ok (.invokevirtual 49, 3) := by decide +kernel
theorem dX2_putSide_83 : decode cX2_putSide 83 = .ok (.aload_n 0, 1) := by decide +kernel
theorem dX2_putSide_84 : decode cX2_putSide 84 = .ok (.iload_n 1, 1) := by decide +kernel
theorem dX2_putSide_85 : decode cX2_putSide 85 = .ok (.iload 5, 2) := by decide +kernel
theorem dX2_putSide_87 : decode cX2_putSide 87 = .ok (.invokevirtual 49, 3) := by decide +kernel
theorem dX2_putSide_90 : decode cX2_putSide 90 = .ok (.aload_n 0, 1) := by decide +kernel
theorem dX2_putSide_91 : decode cX2_putSide 91 = .ok (.getfield 28, 3) := by decide +kernel
theorem dX2_putSide_94 : decode cX2_putSide 94 = .ok (.iload_n 2, 1) := by decide +kernel
theorem dX2_putSide_95 : decode cX2_putSide 95 = .ok (.dup2, 1) := by decide +kernel
theorem dX2_putSide_96 : decode cX2_putSide 96 = .ok (.iaload, 1) := by decide +kernel
theorem dX2_putSide_97 : decode cX2_putSide 97 = .ok (.iconst 1, 1) := by decide +kernel
theorem dX2_putSide_98 : decode cX2_putSide 98 = .ok (.iadd, 1) := by decide +kernel
theorem dX2_putSide_99 : decode cX2_putSide 99 = .ok (.iastore, 1) := by decide +kernel
theorem dX2_putSide_100 : decode cX2_putSide 100 = .ok (.return_, 1) := by decide +kernel
theorem dX2_dropEdge_0 : decode cX2_dropEdge 0 = .ok (.aload_n 0, 1) := by decide +kernel
theorem dX2_dropEdge_1 : decode cX2_dropEdge 1 = .ok (.iconst 2, 1) := by decide +kernel
theorem dX2_dropEdge_2 : decode cX2_dropEdge 2 = .ok (.iload_n 1, 1) := by decide +kernel
theorem dX2_dropEdge_3 : decode cX2_dropEdge 3 = .ok (.imul, 1) := by decide +kernel
theorem dX2_dropEdge_4 : decode cX2_dropEdge 4 = .ok (.invokevirtual 53, 3) := by decide +kernel
theorem dX2_dropEdge_7 : decode cX2_dropEdge 7 = .ok (.aload_n 0, 1) := by decide +kernel
theorem dX2_dropEdge_8 : decode cX2_dropEdge 8 = .ok (.iconst 2, 1) := by decide +kernel
theorem dX2_dropEdge_9 : decode cX2_dropEdge 9 = .ok (.iload_n 1, 1) := by decide +kernel
theorem dX2_dropEdge_10 : decode cX2_dropEdge 10 = .ok (.imul, 1) := by decide +kernel
theorem dX2_dropEdge_11 : decode cX2_dropEdge 11 = .ok (.iconst 1, 1) := by decide +kernel
theorem dX2_dropEdge_12 : decode cX2_dropEdge 12 = .ok (.iadd, 1) := by decide +kernel
theorem dX2_dropEdge_13 : decode cX2_dropEdge 13 = .ok (.invokevirtual 53, 3) := by decide +kernel
theorem dX2_dropEdge_16 : decode cX2_dropEdge 16 = .ok (.aload_n 0, 1) := by decide +kernel
theorem dX2_dropEdge_17 : decode cX2_dropEdge 17 = .ok (.getfield 21, 3) := by decide +kernel
theorem dX2_dropEdge_20 : decode cX2_dropEdge 20 = .ok (.iload_n 1, 1) := by decide +kernel
theorem dX2_dropEdge_21 : decode cX2_dropEdge 21 = .ok (.iconst 0, 1) := by decide +kernel
theorem dX2_dropEdge_22 : decode cX2_dropEdge 22 = .ok (.bastore, 1) := by decide +kernel
theorem dX2_dropEdge_23 : decode cX2_dropEdge 23 = .ok (.aload_n 0, 1) := by decide +kernel
theorem dX2_dropEdge_24 : decode cX2_dropEdge 24 = .ok (.dup, 1) := by decide +kernel
theorem dX2_dropEdge_25 : decode cX2_dropEdge 25 = .ok (.getfield 38, 3) := by decide +kernel
theorem dX2_dropEdge_28 : decode cX2_dropEdge 28 = .ok (.iconst 1, 1) := by decide +kernel
theorem dX2_dropEdge_29 : decode cX2_dropEdge 29 = .ok (.isub, 1) := by decide +kernel
theorem dX2_dropEdge_30 : decode cX2_dropEdge 30 = .ok (.putfield 38, 3) := by decide +kernel
theorem dX2_dropEdge_33 : decode cX2_dropEdge 33 = .ok (.return_, 1) := by decide +kernel
theorem dX2_takeSide_0 : decode cX2_takeSide 0 = .ok (.aload_n 0, 1) := by decide +kernel
theorem dX2_takeSide_1 : decode cX2_takeSide 1 = .ok (.getfield 9, 3) := by decide +kernel
theorem dX2_takeSide_4 : decode cX2_takeSide 4 = .ok (.iload_n 1, 1) := by decide +kernel
theorem dX2_takeSide_5 : decode cX2_takeSide 5 = .ok (.iaload, 1) := by decide +kernel
theorem dX2_takeSide_6 : decode cX2_takeSide 6 = .ok (.istore_n 2, 1) := by decide +kernel
theorem dX2_takeSide_7 : decode cX2_takeSide 7 = .ok (.aload_n 0, 1) := by decide +kernel
theorem dX2_takeSide_8 : decode cX2_takeSide 8 = .ok (.getfield 28, 3) := by decide +kernel
theorem dX2_takeSide_11 : decode cX2_takeSide 11 = .ok (.iload_n 2, 1) := by decide +kernel
theorem dX2_takeSide_12 : decode cX2_takeSide 12 = .ok (.dup2, 1) := by decide +kernel
theorem dX2_takeSide_13 : decode cX2_takeSide 13 = .ok (.iaload, 1) := by decide +kernel
theorem dX2_takeSide_14 : decode cX2_takeSide 14 = .ok (.iconst 1, 1) := by decide +kernel
theorem dX2_takeSide_15 : decode cX2_takeSide 15 = .ok (.isub, 1) := by decide +kernel
theorem dX2_takeSide_16 : decode cX2_takeSide 16 = .ok (.iastore, 1) := by decide +kernel
theorem dX2_takeSide_17 : decode cX2_takeSide 17 = .ok (.aload_n 0, 1) := by decide +kernel
theorem dX2_takeSide_18 : decode cX2_takeSide 18 = .ok (.getfield 28, 3) := by decide +kernel
theorem dX2_takeSide_21 : decode cX2_takeSide 21 = .ok (.iload_n 2, 1) := by decide +kernel
theorem dX2_takeSide_22 : decode cX2_takeSide 22 = .ok (.iaload, 1) := by decide +kernel
theorem dX2_takeSide_23 : decode cX2_takeSide 23 = .ok (.ifCond .ne 11, 3) := by decide +kernel
theorem dX2_takeSide_26 : decode cX2_takeSide 26 = .ok (.aload_n 0, 1) := by decide +kernel
theorem dX2_takeSide_27 : decode cX2_takeSide 27 = .ok (.getfield 25, 3) := by decide +kernel
theorem dX2_takeSide_30 : decode cX2_takeSide 30 = .ok (.iload_n 2, 1) := by decide +kernel
theorem dX2_takeSide_31 : decode cX2_takeSide 31 = .ok (.iconst (-1), 1) := by decide +kernel
theorem dX2_takeSide_32 : decode cX2_takeSide 32 = .ok (.iastore, 1) := by decide +kernel
theorem dX2_takeSide_33 : decode cX2_takeSide 33 = .ok (.return_, 1) := by decide +kernel
theorem dX2_takeSide_34 : decode cX2_takeSide 34 = .ok (.aload_n 0, 1) := by decide +kernel
theorem dX2_takeSide_35 : decode cX2_takeSide 35 = .ok (.getfield 25, 3) := by decide +kernel
theorem dX2_takeSide_38 : decode cX2_takeSide 38 = .ok (.iload_n 2, 1) := by decide +kernel
theorem dX2_takeSide_39 : decode cX2_takeSide 39 = .ok (.iaload, 1) := by decide +kernel
theorem dX2_takeSide_40 : decode cX2_takeSide 40 = .ok (.iload_n 1, 1) := by decide +kernel
theorem dX2_takeSide_41 : decode cX2_takeSide 41 = .ok (.if_icmp .ne 15, 3) := by decide +kernel
theorem dX2_takeSide_44 : decode cX2_takeSide 44 = .ok (.aload_n 0, 1) := by decide +kernel
theorem dX2_takeSide_45 : decode cX2_takeSide 45 = .ok (.getfield 25, 3) := by decide +kernel
theorem dX2_takeSide_48 : decode cX2_takeSide 48 = .ok (.iload_n 2, 1) := by decide +kernel
theorem dX2_takeSide_49 : decode cX2_takeSide 49 = .ok (.aload_n 0, 1) := by decide +kernel
theorem dX2_takeSide_50 : decode cX2_takeSide 50 = .ok (.getfield 15, 3) := by decide +kernel
theorem dX2_takeSide_53 : decode cX2_takeSide 53 = .ok (.iload_n 1, 1) := by decide +kernel
theorem dX2_takeSide_54 : decode cX2_takeSide 54 = .ok (.iaload, 1) := by decide +kernel
theorem dX2_takeSide_55 : decode cX2_takeSide 55 = .ok (.iastore, 1) := by decide +kernel
theorem dX2_takeSide_56 : decode cX2_takeSide 56 = .ok (.aload_n 0, 1) := by decide +kernel
theorem dX2_takeSide_57 : decode cX2_takeSide 57 = .ok (.aload_n 0, 1) := by decide +kernel
theorem dX2_takeSide_58 : decode cX2_takeSide 58 = .ok (.getfield 18, 3) := by decide +kernel
theorem dX2_takeSide_61 : decode cX2_takeSide 61 = .ok (.iload_n 1, 1) := by decide +kernel
theorem dX2_takeSide_62 : decode cX2_takeSide 62 = .ok (.iaload, 1) := by decide +kernel
theorem dX2_takeSide_63 : decode cX2_takeSide 63 = .ok (.aload_n 0, 1) := by decide +kernel
theorem dX2_takeSide_64 : decode cX2_takeSide 64 = .ok (.getfield 15, 3) := by decide +kernel
theorem dX2_takeSide_67 : decode cX2_takeSide 67 = .ok (.iload_n 1, 1) := by decide +kernel
theorem dX2_takeSide_68 : decode cX2_takeSide 68 = .ok (.iaload, 1) := by decide +kernel
theorem dX2_takeSide_69 : decode cX2_takeSide 69 = .ok (.invokevirtual 49, 3) := by decide +kernel
theorem dX2_takeSide_72 : decode cX2_takeSide 72 = .ok (.return_, 1) := by decide +kernel
theorem dX2_link_0 : decode cX2_link 0 = .ok (.aload_n 0, 1) := by decide +kernel
theorem dX2_link_1 : decode cX2_link 1 = .ok (.getfield 15, 3) := by decide +kernel
theorem dX2_link_4 : decode cX2_link 4 = .ok (.iload_n 1, 1) := by decide +kernel
theorem dX2_link_5 : decode cX2_link 5 = .ok (.iload_n 2, 1) := by decide +kernel
theorem dX2_link_6 : decode cX2_link 6 = .ok (.iastore, 1) := by decide +kernel
theorem dX2_link_7 : decode cX2_link 7 = .ok (.aload_n 0, 1) := by decide +kernel
theorem dX2_link_8 : decode cX2_link 8 = .ok (.getfield 18, 3) := by decide +kernel
theorem dX2_link_11 : decode cX2_link 11 = .ok (.iload_n 2, 1) := by decide +kernel
theorem dX2_link_12 : decode cX2_link 12 = .ok (.iload_n 1, 1) := by decide +kernel
theorem dX2_link_13 : decode cX2_link 13 = .ok (.iastore, 1) := by decide +kernel
theorem dX2_link_14 : decode cX2_link 14 = .ok (.return_, 1) := by decide +kernel
theorem dX2_dropAll_0 : decode cX2_dropAll 0 = .ok (.aload_n 0, 1) := by decide +kernel
theorem dX2_dropAll_1 : decode cX2_dropAll 1 = .ok (.iconst 0, 1) := by decide +kernel
theorem dX2_dropAll_2 : decode cX2_dropAll 2 = .ok (.putfield 31, 3) := by decide +kernel
theorem dX2_dropAll_5 : decode cX2_dropAll 5 = .ok (.aload_n 0, 1) := by decide +kernel
theorem dX2_dropAll_6 : decode cX2_dropAll 6 = .ok (.iconst 0, 1) := by decide +kernel
theorem dX2_dropAll_7 : decode cX2_dropAll 7 = .ok (.putfield 35, 3) := by decide +kernel
theorem dX2_dropAll_10 : decode cX2_dropAll 10 = .ok (.aload_n 0, 1) := by decide +kernel
theorem dX2_dropAll_11 : decode cX2_dropAll 11 = .ok (.iconst 0, 1) := by decide +kernel
theorem dX2_dropAll_12 : decode cX2_dropAll 12 = .ok (.putfield 38, 3) := by decide +kernel
theorem dX2_dropAll_15 : decode cX2_dropAll 15 = .ok (.return_, 1) := by decide +kernel
theorem dX2_target_0 : decode cX2_target 0 = .ok (.aload_n 0, 1) := by decide +kernel
theorem dX2_target_1 : decode cX2_target 1 = .ok (.getfield 9, 3) := by decide +kernel
theorem dX2_target_4 : decode cX2_target 4 = .ok (.iload_n 1, 1) := by decide +kernel
theorem dX2_target_5 : decode cX2_target 5 = .ok (.iconst 1, 1) := by decide +kernel
theorem dX2_target_6 : decode cX2_target 6 = .ok (.ixor, 1) := by decide +kernel
theorem dX2_target_7 : decode cX2_target 7 = .ok (.iaload, 1) := by decide +kernel
theorem dX2_target_8 : decode cX2_target 8 = .ok (.ireturn, 1) := by decide +kernel
theorem dX2_sideBehind_0 : decode cX2_sideBehind 0 = .ok (.aload_n 0, 1) := by decide +kernel
theorem dX2_sideBehind_1 : decode cX2_sideBehind 1 = .ok (.getfield 15, 3) := by decide +kernel
theorem dX2_sideBehind_4 : decode cX2_sideBehind 4 = .ok (.iload_n 1, 1) := by decide +kernel
theorem dX2_sideBehind_5 : decode cX2_sideBehind 5 = .ok (.iconst 1, 1) := by decide +kernel
theorem dX2_sideBehind_6 : decode cX2_sideBehind 6 = .ok (.ixor, 1) := by decide +kernel
theorem dX2_sideBehind_7 : decode cX2_sideBehind 7 = .ok (.iaload, 1) := by decide +kernel
theorem dX2_sideBehind_8 : decode cX2_sideBehind 8 = .ok (.ireturn, 1) := by decide +kernel
theorem dX2_sideFrom_0 : decode cX2_sideFrom 0 = .ok (.aload_n 0, 1) := by decide +kernel
theorem dX2_sideFrom_1 : decode cX2_sideFrom 1 = .ok (.getfield 9, 3) := by decide +kernel
theorem dX2_sideFrom_4 : decode cX2_sideFrom 4 = .ok (.iconst 2, 1) := by decide +kernel
theorem dX2_sideFrom_5 : decode cX2_sideFrom 5 = .ok (.iload_n 2, 1) := by decide +kernel
theorem dX2_sideFrom_6 : decode cX2_sideFrom 6 = .ok (.imul, 1) := by decide +kernel
theorem dX2_sideFrom_7 : decode cX2_sideFrom 7 = .ok (.iaload, 1) := by decide +kernel
theorem dX2_sideFrom_8 : decode cX2_sideFrom 8 = .ok (.iload_n 1, 1) := by decide +kernel
theorem dX2_sideFrom_9 : decode cX2_sideFrom 9 = .ok (.if_icmp .ne 9, 3) := by decide +kernel
theorem dX2_sideFrom_12 : decode cX2_sideFrom 12 = .ok (.iconst 2, 1) := by decide +kernel
theorem dX2_sideFrom_13 : decode cX2_sideFrom 13 = .ok (.iload_n 2, 1) := by decide +kernel
theorem dX2_sideFrom_14 : decode cX2_sideFrom 14 = .ok (.imul, 1) := by decide +kernel
theorem dX2_sideFrom_15 : decode cX2_sideFrom 15 = .ok (.goto 8, 3) := by decide +kernel
theorem dX2_sideFrom_18 : decode cX2_sideFrom 18 = .ok (.iconst 2, 1) := by decide +kernel
theorem dX2_sideFrom_19 : decode cX2_sideFrom 19 = .ok (.iload_n 2, 1) := by decide +kernel
theorem dX2_sideFrom_20 : decode cX2_sideFrom 20 = .ok (.imul, 1) := by decide +kernel
theorem dX2_sideFrom_21 : decode cX2_sideFrom 21 = .ok (.iconst 1, 1) := by decide +kernel
theorem dX2_sideFrom_22 : decode cX2_sideFrom 22 = .ok (.iadd, 1) := by decide +kernel
theorem dX2_sideFrom_23 : decode cX2_sideFrom 23 = .ok (.ireturn, 1) := by decide +kernel
theorem dX2_mayFollow_0 : decode cX2_mayFollow 0 = .ok (.iload_n 2, 1) := by decide +kernel
theorem dX2_mayFollow_1 : decode cX2_mayFollow 1 = .ok (.iconst (-1), 1) := by decide +kernel
theorem dX2_mayFollow_2 : decode cX2_mayFollow 2 = .ok (.if_icmp .eq 29, 3) := by decide +kernel
theorem dX2_mayFollow_5 : decode cX2_mayFollow 5 = .ok (.aload_n 0, 1) := by decide +kernel
theorem dX2_mayFollow_6 : decode cX2_mayFollow 6 = .ok (.getfield 9, 3) := by decide +kernel
theorem dX2_mayFollow_9 : decode cX2_mayFollow 9 = .ok (.iconst 2, 1) := by decide +kernel
theorem dX2_mayFollow_10 : decode cX2_mayFollow 10 = .ok (.iload_n 2, 1) := by decide +kernel
theorem dX2_mayFollow_11 : decode cX2_mayFollow 11 = .ok (.imul, 1) := by decide +kernel
theorem dX2_mayFollow_12 : decode cX2_mayFollow 12 = .ok (.iaload, 1) := by decide +kernel
theorem dX2_mayFollow_13 : decode cX2_mayFollow 13 = .ok (.iload_n 1, 1) := by decide +kernel
theorem dX2_mayFollow_14 : decode cX2_mayFollow 14 = .ok (.if_icmp .eq 17, 3) := by decide +kernel
theorem dX2_mayFollow_17 : decode cX2_mayFollow 17 = .ok (.aload_n 0, 1) := by decide +kernel
theorem dX2_mayFollow_18 : decode cX2_mayFollow 18 = .ok (.getfield 9, 3) := by decide +kernel
theorem dX2_mayFollow_21 : decode cX2_mayFollow 21 = .ok (.iconst 2, 1) := by decide +kernel
theorem dX2_mayFollow_22 : decode cX2_mayFollow 22 = .ok (.iload_n 2, 1) := by decide +kernel
theorem dX2_mayFollow_23 : decode cX2_mayFollow 23 = .ok (.imul, 1) := by decide +kernel
theorem dX2_mayFollow_24 : decode cX2_mayFollow 24 = .ok (.iconst 1, 1) := by decide +kernel
theorem dX2_mayFollow_25 : decode cX2_mayFollow 25 = .ok (.iadd, 1) := by decide +kernel
theorem dX2_mayFollow_26 : decode cX2_mayFollow 26 = .ok (.iaload, 1) := by decide +kernel
theorem dX2_mayFollow_27 : decode cX2_mayFollow 27 = .ok (.iload_n 1, 1) := by decide +kernel
theorem dX2_mayFollow_28 : decode cX2_mayFollow 28 = .ok (.if_icmp .ne 7, 3) := by decide +kernel
theorem dX2_mayFollow_31 : decode cX2_mayFollow 31 = .ok (.iconst 1, 1) := by decide +kernel
theorem dX2_mayFollow_32 : decode cX2_mayFollow 32 = .ok (.goto 4, 3) := by decide +kernel
theorem dX2_mayFollow_35 : decode cX2_mayFollow 35 = .ok (.iconst 0, 1) := by decide +kernel
theorem dX2_mayFollow_36 : decode cX2_mayFollow 36 = .ok (.ireturn, 1) := by decide +kernel
theorem dX2_areJoined_0 : decode cX2_areJoined 0 = .ok (.aload_n 0, 1) := by decide +kernel
theorem dX2_areJoined_1 : decode cX2_areJoined 1 = .ok (.getfield 25, 3) := by decide +kernel
theorem dX2_areJoined_4 : decode cX2_areJoined 4 = .ok (.iload_n 1, 1) := by decide +kernel
theorem dX2_areJoined_5 : decode cX2_areJoined 5 = .ok (.iaload, 1) := by decide +kernel
theorem dX2_areJoined_6 : decode cX2_areJoined 6 = .ok (.istore_n 3, 1) := by decide +kernel
theorem dX2_areJoined_7 : decode cX2_areJoined 7 = .ok (.iconst 0, 1) := by decide +kernel
theorem dX2_areJoined_8 : decode cX2_areJoined 8 = .ok (.istore 4, 2) := by decide +kernel
theorem dX2_areJoined_10 : decode cX2_areJoined 10 = .ok (.iload 4, 2) := by decide +kernel
theorem dX2_areJoined_12 : decode cX2_areJoined 12 = .ok (.aload_n 0, 1) := by decide +kernel
theorem dX2_areJoined_13 : decode cX2_areJoined 13 = .ok (.getfield 28, 3) := by decide +kernel
theorem dX2_areJoined_16 : decode cX2_areJoined 16 = .ok (.iload_n 1, 1) := by decide +kernel
theorem dX2_areJoined_17 : decode cX2_areJoined 17 = .ok (.iaload, 1) := by decide +kernel
theorem dX2_areJoined_18 : decode cX2_areJoined 18 = .ok (.if_icmp .ge 27, 3) := by decide +kernel
theorem dX2_areJoined_21 : decode cX2_areJoined 21 = .ok (.aload_n 0, 1) := by decide +kernel
theorem dX2_areJoined_22 : decode cX2_areJoined 22 = .ok (.iload_n 3, 1) := by decide +kernel
theorem dX2_areJoined_23 : decode cX2_areJoined 23 = .ok (.invokevirtual 57, 3) := by decide +kernel
theorem dX2_areJoined_26 : decode cX2_areJoined 26 = .ok (.iload_n 2, 1) := by decide +kernel
theorem dX2_areJoined_27 : decode cX2_areJoined 27 = .ok (.if_icmp .ne 5, 3) := by decide +kernel
theorem dX2_areJoined_30 : decode cX2_areJoined 30 = .ok (.iconst 1, 1) := by decide +kernel
theorem dX2_areJoined_31 : decode cX2_areJoined 31 = .ok (.ireturn, 1) := by decide +kernel
theorem dX2_areJoined_32 : decode cX2_areJoined 32 = .ok (.aload_n 0, 1) := by decide +kernel
theorem dX2_areJoined_33 : decode cX2_areJoined 33 = .ok (.getfield 15, 3) := by decide +kernel
theorem dX2_areJoined_36 : decode cX2_areJoined 36 = .ok (.iload_n 3, 1) := by decide +kernel
theorem dX2_areJoined_37 : decode cX2_areJoined 37 = .ok (.iaload, 1) := by decide +kernel
theorem dX2_areJoined_38 : decode cX2_areJoined 38 = .ok (.istore_n 3, 1) := by decide +kernel
theorem dX2_areJoined_39 : decode cX2_areJoined 39 = .ok (.iinc 4 1, 3) := by decide +kernel
theorem dX2_areJoined_42 : decode cX2_areJoined 42 = .ok (.goto (-32), 3) := by decide +kernel
theorem dX2_areJoined_45 : decode cX2_areJoined 45 = .ok (.iconst 0, 1) := by decide +kernel
theorem dX2_areJoined_46 : decode cX2_areJoined 46 = .ok (.ireturn, 1) := by decide +kernel
theorem dX2_lonelyVertices_0 : decode cX2_lonelyVertices 0 = .ok (.iconst 0, 1) := by decide +kernel
theorem dX2_lonelyVertices_1 : decode cX2_lonelyVertices 1 = .ok (.istore_n 1, 1) := by decide +kernel
theorem dX2_lonelyVertices_2 : decode cX2_lonelyVertices 2 = .ok (.iconst 0, 1) := by decide +kernel
theorem dX2_lonelyVertices_3 : decode cX2_lonelyVertices 3 = .ok (.istore_n 2, 1) := by decide +kernel
theorem dX2_lonelyVertices_4 : decode cX2_lonelyVertices 4 = .ok (.iload_n 2, 1) := by decide +kernel
theorem dX2_lonelyVertices_5 : decode cX2_lonelyVertices 5 = .ok (.aload_n 0, 1) := by decide +kernel
theorem dX2_lonelyVertices_6 : decode cX2_lonelyVertices 6 = .ok (.getfield 31, 3) := by decide +kernel
theorem dX2_lonelyVertices_9 : decode cX2_lonelyVertices 9 = .ok (.if_icmp .ge 21, 3) := by decide +kernel
theorem dX2_lonelyVertices_12 : decode cX2_lonelyVertices 12 = .ok (.aload_n 0, 1) := by decide +kernel
theorem dX2_lonelyVertices_13 : decode cX2_lonelyVertices 13 = .ok (.getfield 28, 3) := by decide +kernel
theorem dX2_lonelyVertices_16 : decode cX2_lonelyVertices 16 = .ok (.iload_n 2, 1) := by decide +kernel
theorem dX2_lonelyVertices_17 : decode cX2_lonelyVertices 17 = .ok (.iaload, 1) := by decide +kernel
theorem dX2_lonelyVertices_18 : decode cX2_lonelyVertices 18 = .ok (.ifCond .ne 6, 3) := by decide +kernel
theorem dX2_lonelyVertices_21 : decode cX2_lonelyVertices 21 = .ok (.iinc 1 1, 3) := by decide +kernel
theorem dX2_lonelyVertices_24 : decode cX2_lonelyVertices 24 = .ok (.iinc 2 1, 3) := by decide +kernel
theorem dX2_lonelyVertices_27 : decode cX2_lonelyVertices 27 = .ok (.goto (-23), 3) := by decide +kernel
theorem dX2_lonelyVertices_30 : decode cX2_lonelyVertices 30 = .ok (.iload_n 1, 1) := by decide +kernel
theorem dX2_lonelyVertices_31 : decode cX2_lonelyVertices 31 = .ok (.ireturn, 1) := by decide +kernel
theorem dX0_init_0 : decode cX0_init 0 = .ok (.aload_n 0, 1) := by decide +kernel
theorem dX0_init_1 : decode cX0_init 1 = .ok (.invokespecial 3, 3) := by decide +kernel
theorem dX0_init_4 : decode cX0_init 4 = .ok (.aload_n 0, 1) := by decide +kernel
theorem dX0_init_5 : decode cX0_init 5 = .ok (.bipush 30, 2) := by decide +kernel
theorem dX0_init_7 : decode cX0_init 7 = .ok (.newarray .int, 2) := by decide +kernel
theorem dX0_init_9 : decode cX0_init 9 = .ok (.putfield 9, 3) := by decide +kernel
theorem dX0_init_12 : decode cX0_init 12 = .ok (.aload_n 0, 1) := by decide +kernel
theorem dX0_init_13 : decode cX0_init 13 = .ok (.bipush 30, 2) := by decide +kernel
theorem dX0_init_15 : decode cX0_init 15 = .ok (.newarray .boolean, 2) := by decide +kernel
theorem dX0_init_17 : decode cX0_init 17 = .ok (.putfield 15, 3) := by decide +kernel
theorem dX0_init_20 : decode cX0_init 20 = .ok (.aload_n 0, 1) := by decide +kernel
theorem dX0_init_21 : decode cX0_init 21 = .ok (.bipush 30, 2) := by decide +kernel
theorem dX0_init_23 : decode cX0_init 23 = .ok (.newarray .int, 2) := by decide +kernel
theorem dX0_init_25 : decode cX0_init 25 = .ok (.putfield 19, 3) := by decide +kernel
theorem dX0_init_28 : decode cX0_init 28 = .ok (.aload_n 0, 1) := by decide +kernel
theorem dX0_init_29 : decode cX0_init 29 = .ok (.iconst 5, 1) := by decide +kernel
theorem dX0_init_30 : decode cX0_init 30 = .ok (.newarray .int, 2) := by decide +kernel
theorem dX0_init_32 : decode cX0_init 32 = .ok (.putfield 22, 3) := by decide +kernel
theorem dX0_init_35 : decode cX0_init 35 = .ok (.aload_n 0, 1) := by decide +kernel
theorem dX0_init_36 : decode cX0_init 36 = .ok (.bipush 30, 2) := by decide +kernel
theorem dX0_init_38 : decode cX0_init 38 = .ok (.newarray .boolean, 2) := by decide +kernel
theorem dX0_init_40 : decode cX0_init 40 = .ok (.putfield 25, 3) := by decide +kernel
theorem dX0_init_43 : decode cX0_init 43 = .ok (.aload_n 0, 1) := by decide +kernel
theorem dX0_init_44 : decode cX0_init 44 = .ok (.bipush 30, 2) := by decide +kernel
theorem dX0_init_46 : decode cX0_init 46 = .ok (.newarray .int, 2) := by decide +kernel
theorem dX0_init_48 : decode cX0_init 48 = .ok (.putfield 28, 3) := by decide +kernel
theorem dX0_init_51 : decode cX0_init 51 = .ok (.aload_n 0, 1) := by decide +kernel
theorem dX0_init_52 : decode cX0_init 52 = .ok (.iconst 0, 1) := by decide +kernel
theorem dX0_init_53 : decode cX0_init 53 = .ok (.putfield 31, 3) := by decide +kernel
theorem dX0_init_56 : decode cX0_init 56 = .ok (.aload_n 0, 1) := by decide +kernel
theorem dX0_init_57 : decode cX0_init 57 = .ok (.iconst 0, 1) := by decide +kernel
theorem dX0_init_58 : decode cX0_init 58 = .ok (.putfield 35, 3) := by decide +kernel
theorem dX0_init_61 : decode cX0_init 61 = .ok (.aload_n 0, 1) := by decide +kernel
theorem dX0_init_62 : decode cX0_init 62 = .ok (.aload_n 1, 1) := by decide +kernel
theorem dX0_init_63 : decode cX0_init 63 = .ok (.putfield 38, 3) := by decide +kernel
theorem dX0_init_66 : decode cX0_init 66 = .ok (.return_, 1) := by decide +kernel
theorem dX0_forget_0 : decode cX0_forget 0 = .ok (.iconst 0, 1) := by decide +kernel
theorem dX0_forget_1 : decode cX0_forget 1 = .ok (.istore_n 1, 1) := by decide +kernel
theorem dX0_forget_2 : decode cX0_forget 2 = .ok (.iload_n 1, 1) := by decide +kernel
theorem dX0_forget_3 : decode cX0_forget 3 = .ok (.aload_n 0, 1) := by decide +kernel
theorem dX0_forget_4 : decode cX0_forget 4 = .ok (.getfield 38, 3) := by decide +kernel
theorem dX0_forget_7 : decode cX0_forget 7 = .ok (.getfield 42, 3) := by decide +kernel
theorem dX0_forget_10 : decode cX0_forget 10 = .ok (.if_icmp .ge 16, 3) := by decide +kernel
theorem dX0_forget_13 : decode cX0_forget 13 = .ok (.aload_n 0, 1) := by decide +kernel
theorem dX0_forget_14 : decode cX0_forget 14 = .ok (.getfield 9, 3) := by decide +kernel
theorem dX0_forget_17 : decode cX0_forget 17 = .ok (.iload_n 1, 1) := by decide +kernel
theorem dX0_forget_18 : decode cX0_forget 18 = .ok (.iconst 0, 1) := by decide +kernel
theorem dX0_forget_19 : decode cX0_forget 19 = .ok (.iastore, 1) := by decide +kernel
theorem dX0_forget_20 : decode cX0_forget 20 = .ok (.iinc 1 1, 3) := by decide +kernel
theorem dX0_forget_23 : decode cX0_forget 23 = .ok (.goto (-21), 3) := by decide +kernel
theorem dX0_forget_26 : decode cX0_forget 26 = .ok (.aload_n 0, 1) := by decide +kernel
theorem dX0_forget_27 : decode cX0_forget 27 = .ok (.iconst 0, 1) := by decide +kernel
theorem dX0_forget_28 : decode cX0_forget 28 = .ok (.putfield 35, 3) := by decide +kernel
theorem dX0_forget_31 : decode cX0_forget 31 = .ok (.return_, 1) := by decide +kernel
theorem dX0_colourAll_0 : decode cX0_colourAll 0 = .ok (.aload_n 0, 1) := by decide +kernel
theorem dX0_colourAll_1 : decode cX0_colourAll 1 = .ok (.invokevirtual 47, 3) := by decide +kernel
theorem dX0_colourAll_4 : decode cX0_colourAll 4 = .ok (.aload_n 0, 1) := by decide +kernel
theorem dX0_colourAll_5 : decode cX0_colourAll 5 = .ok (.invokevirtual 50, 3) := by decide +kernel
theorem dX0_colourAll_8 : decode cX0_colourAll 8 = .ok (.istore_n 1, 1) := by decide +kernel
theorem dX0_colourAll_9 : decode cX0_colourAll 9 = .ok (.iload_n 1, 1) := by decide +kernel
theorem dX0_colourAll_10 : decode cX0_colourAll 10 = .ok (.iconst 1, 1) := by decide +kernel
theorem dX0_colourAll_11 : decode cX0_colourAll 11 = .ok (.isub, 1) := by decide +kernel
theorem dX0_colourAll_12 : decode cX0_colourAll 12 = .ok (.istore_n 2, 1) := by decide +kernel
theorem dX0_colourAll_13 : decode cX0_colourAll 13 = .ok (.iload_n 2, 1) := by decide +kernel
theorem dX0_colourAll_14 : decode cX0_colourAll 14 = .ok (.ifCond .lt 19, 3) := by decide +kernel
theorem dX0_colourAll_17 : decode cX0_colourAll 17 = .ok (.aload_n 0, 1) := by decide +kernel
theorem dX0_colourAll_18 : decode cX0_colourAll 18 = .ok (.aload_n 0, 1) := by decide +kernel
theorem dX0_colourAll_19 : decode cX0_colourAll 19 = .ok (.getfield 19, 3) := by decide +kernel
theorem dX0_colourAll_22 : decode cX0_colourAll 22 = .ok (.iload_n 2, 1) := by decide +kernel
theorem dX0_colourAll_23 : decode cX0_colourAll 23 = .ok (.iaload, 1) := by decide +kernel
theorem dX0_colourAll_24 : decode cX0_colourAll 24 = .ok (.invokevirtual 54, 3) := by decide +kernel
theorem dX0_colourAll_27 : decode cX0_colourAll 27 = .ok (.iinc 2 (-1), 3) := by decide +kernel
theorem dX0_colourAll_30 : decode cX0_colourAll 30 = .ok (.goto (-17), 3) := by decide +kernel
theorem dX0_colourAll_33 : decode cX0_colourAll 33 = .ok (.return_, 1) := by decide +kernel
theorem dX0_takeAll_0 : decode cX0_takeAll 0 = .ok (.iconst 0, 1) := by decide +kernel
theorem dX0_takeAll_1 : decode cX0_takeAll 1 = .ok (.istore_n 1, 1) := by decide +kernel
theorem dX0_takeAll_2 : decode cX0_takeAll 2 = .ok (.iload_n 1, 1) := by decide +kernel
theorem dX0_takeAll_3 : decode cX0_takeAll 3 = .ok (.aload_n 0, 1) := by decide +kernel
theorem dX0_takeAll_4 : decode cX0_takeAll 4 = .ok (.getfield 38, 3) := by decide +kernel
theorem dX0_takeAll_7 : decode cX0_takeAll 7 = .ok (.getfield 42, 3) := by decide +kernel
theorem dX0_takeAll_10 : decode cX0_takeAll 10 = .ok (.if_icmp .ge 16, 3) := by decide +kernel
theorem dX0_takeAll_13 : decode cX0_takeAll 13 = .ok (.aload_n 0, 1) := by decide +kernel
theorem dX0_takeAll_14 : decode cX0_takeAll 14 = .ok (.getfield 15, 3) := by decide +kernel
theorem dX0_takeAll_17 : decode cX0_takeAll 17 = .ok (.iload_n 1, 1) := by decide +kernel
theorem dX0_takeAll_18 : decode cX0_takeAll 18 = .ok (.iconst 0, 1) := by decide +kernel
theorem dX0_takeAll_19 : decode cX0_takeAll 19 = .ok (.bastore, 1) := by decide +kernel
theorem dX0_takeAll_20 : decode cX0_takeAll 20 = .ok (.iinc 1 1, 3) := by decide +kernel
theorem dX0_takeAll_23 : decode cX0_takeAll 23 = .ok (.goto (-21), 3) := by decide +kernel
theorem dX0_takeAll_26 : decode cX0_takeAll 26 = .ok (.iconst 0, 1) := by decide +kernel
theorem dX0_takeAll_27 : decode cX0_takeAll 27 = .ok (.istore_n 1, 1) := by decide +kernel
theorem dX0_takeAll_28 : decode cX0_takeAll 28 = .ok (.iconst 0, 1) := by decide +kernel
theorem dX0_takeAll_29 : decode cX0_takeAll 29 = .ok (.istore_n 2, 1) := by decide +kernel
theorem dX0_takeAll_30 : decode cX0_takeAll 30 = .ok (.iload_n 2, 1) := by decide +kernel
theorem dX0_takeAll_31 : decode cX0_takeAll 31 = .ok (.aload_n 0, 1) := by decide +kernel
theorem dX0_takeAll_32 : decode cX0_takeAll 32 = .ok (.getfield 38, 3) := by decide +kernel
theorem dX0_takeAll_35 : decode cX0_takeAll 35 = .ok (.getfield 42, 3) := by decide +kernel
theorem dX0_takeAll_38 : decode cX0_takeAll 38 = .ok (.if_icmp .ge 36, 3) := by decide +kernel
theorem dX0_takeAll_41 : decode cX0_takeAll 41 = .ok (.aload_n 0, 1) := by decide +kernel
theorem dX0_takeAll_42 : decode cX0_takeAll 42 = .ok (.invokevirtual 58, 3) := by decide +kernel
theorem dX0_takeAll_45 : decode cX0_takeAll 45 = .ok (.istore_n 3, 1) := by decide +kernel
theorem dX0_takeAll_46 : decode cX0_takeAll 46 = .ok (.iload_n 3, 1) := by decide +kernel
theorem dX0_takeAll_47 : decode cX0_takeAll 47 = .ok (.iconst (-1), 1) := by decide +kernel
theorem dX0_takeAll_48 : decode cX0_takeAll 48 = .ok (.if_icmp .eq 20, 3) := by decide +kernel
theorem dX0_takeAll_51 : decode cX0_takeAll 51 = .ok (.aload_n 0, 1) := by decide +kernel
theorem dX0_takeAll_52 : decode cX0_takeAll 52 = .ok (.getfield 15, 3) := by decide +kernel
theorem dX0_takeAll_55 : decode cX0_takeAll 55 = .ok (.iload_n 3, 1) := by decide +kernel
theorem dX0_takeAll_56 : decode cX0_takeAll 56 = .ok (.iconst 1, 1) := by decide +kernel
theorem dX0_takeAll_57 : decode cX0_takeAll 57 = .ok (.bastore, 1) := by decide +kernel
theorem dX0_takeAll_58 : decode cX0_takeAll 58 = .ok (.aload_n 0, 1) := by decide +kernel
theorem dX0_takeAll_59 : decode cX0_takeAll 59 = .ok (.getfield 19, 3) := by decide +kernel
theorem dX0_takeAll_62 : decode cX0_takeAll 62 = .ok (.iload_n 1, 1) := by decide +kernel
theorem dX0_takeAll_63 : decode cX0_takeAll 63 = .ok (.iload_n 3, 1) := by decide +kernel
theorem dX0_takeAll_64 : decode cX0_takeAll 64 = .ok (.iastore, 1) := by decide +kernel
theorem dX0_takeAll_65 : decode cX0_takeAll 65 = .ok (.iinc 1 1, 3) := by decide +kernel
theorem dX0_takeAll_68 : decode cX0_takeAll 68 = .ok (.iinc 2 1, 3) := by decide +kernel
theorem dX0_takeAll_71 : decode cX0_takeAll 71 = .ok (.goto (-41), 3) := by decide +kernel
theorem dX0_takeAll_74 : decode cX0_takeAll 74 = .ok (.iload_n 1, 1) := by decide +kernel
theorem dX0_takeAll_75 : decode cX0_takeAll 75 = .ok (.ireturn, 1) := by decide +kernel
theorem dX0_leastToTake_0 : decode cX0_leastToTake 0 = .ok (.iconst 0, 1) := by decide +kernel
theorem dX0_leastToTake_1 : decode cX0_leastToTake 1 = .ok (.istore_n 1, 1) := by decide +kernel
theorem dX0_leastToTake_2 : decode cX0_leastToTake 2 = .ok (.iload_n 1, 1) := by decide +kernel
theorem dX0_leastToTake_3 : decode cX0_leastToTake 3 = .ok (.aload_n 0, 1) := by decide +kernel
theorem dX0_leastToTake_4 : decode cX0_leastToTake 4 = .ok (.getfield 38, 3) := by decide +kernel
theorem dX0_leastToTake_7 : decode cX0_leastToTake 7 = .ok (.getfield 42, 3) := by decide +kernel
theorem dX0_leastToTake_10 : decode cX0_leastToTake 10 = .ok (.if_icmp .ge 29, 3) := by decide +kernel
theorem dX0_leastToTake_13 : decode cX0_leastToTake 13 = .ok (.aload_n 0, 1) := by decide +kernel
theorem dX0_leastToTake_14 : decode cX0_leastToTake 14 = .ok (.getfield 15, 3) := by decide +kernel
theorem dX0_leastToTake_17 : decode cX0_leastToTake 17 = .ok (.iload_n 1, 1) := by decide +kernel
theorem dX0_leastToTake_18 : decode cX0_leastToTake 18 = .ok (.baload, 1) := by decide +kernel
theorem dX0_leastToTake_19 : decode cX0_leastToTake 19 = .ok (.ifCond .ne 14, 3) := by decide +kernel
theorem dX0_leastToTake_22 : decode cX0_leastToTake 22 = .ok (.aload_n 0, 1) := by decide +kernel
theorem dX0_leastToTake_23 : decode cX0_leastToTake 23 = .ok (.iload_n 1, 1) := by decide +kernel
theorem dX0_leastToTake_24 : decode cX0_leastToTake 24 = .ok (.invokevirtual 61, 3) := by decide +kernel
theorem dX0_leastToTake_27 : decode cX0_leastToTake 27 = .ok (.iconst 5, 1) := by decide +kernel
theorem dX0_leastToTake_28 : decode cX0_leastToTake 28 = .ok (.if_icmp .gt 5, 3) := by decide +kernel
theorem dX0_leastToTake_31 : decode cX0_leastToTake 31 = .ok (.iload_n 1, 1) := by decide +kernel
theorem dX0_leastToTake_32 : decode cX0_leastToTake 32 = .ok (.ireturn, 1) := by decide +kernel
theorem dX0_leastToTake_33 : decode cX0_leastToTake 33 = .ok (.iinc 1 1, 3) := by decide +kernel
theorem dX0_leastToTake_36 : decode cX0_leastToTake 36 = .ok (.goto (-34), 3) := by decide +kernel
theorem dX0_leastToTake_39 : decode cX0_leastToTake 39 = .ok (.iconst (-1), 1) := by decide +kernel
theorem dX0_leastToTake_40 : decode cX0_leastToTake 40 = .ok (.ireturn, 1) := by decide +kernel
theorem dX0_neighboursLeft_0 : decode cX0_neighboursLeft 0 = .ok (.iconst 0, 1) := by decide +kernel
theorem dX0_neighboursLeft_1 : decode cX0_neighboursLeft 1 = .ok (.istore_n 2, 1) := by decide +kernel
theorem dX0_neighboursLeft_2 : decode cX0_neighboursLeft 2 = .ok (.aload_n 0, 1) := by decide +kernel
theorem dX0_neighboursLeft_3 : decode cX0_neighboursLeft 3 = .ok (.getfield 38, 3) := by decide +kernel
theorem dX0_neighboursLeft_6 : decode cX0_neighboursLeft 6 = .ok (.getfield 65, 3) := by decide +kernel
theorem dX0_neighboursLeft_9 : decode cX0_neighboursLeft 9 = .ok (.iload_n 1, 1) := by decide +kernel
theorem dX0_neighboursLeft_10 : decode cX0_neighboursLeft 10 = .ok (.iaload, 1) := by decide +kernel
theorem dX0_neighboursLeft_11 : decode cX0_neighboursLeft 11 = .ok (.istore_n 3, 1) := by decide +kernel
theorem dX0_neighboursLeft_12 : decode cX0_neighboursLeft 12 = .ok (.iconst 0, 1) := by decide +kernel
theorem dX0_neighboursLeft_13 : decode cX0_neighboursLeft 13 = .ok (.istore 4, 2) := by decide +kernel
theorem dX0_neighboursLeft_15 : decode cX0_neighboursLeft 15 = .ok (.iload 4, 2) := by decide +kernel
theorem dX0_neighboursLeft_17 : decode cX0_neighboursLeft 17 = .ok (.aload_n 0, 1) := by decide +kernel
theorem dX0_neighboursLeft_18 : decode cX0_neighboursLeft 18 = .ok (.getfield 38, 3) := by decide +kernel
theorem dX0_neighboursLeft_21 : decode cX0_neighboursLeft 21 = .ok (.getfield 68, 3) := by decide +kernel
theorem dX0_neighboursLeft_24 : decode cX0_neighboursLeft 24 = .ok (.iload_n 1, 1) := by decide +kernel
theorem dX0_neighboursLeft_25 : decode cX0_neighboursLeft 25 = .ok (.iaload, 1) := by decide +kernel
theorem dX0_neighboursLeft_26 : decode cX0_neighboursLeft 26 = .ok (.if_icmp .ge 38, 3) := by decide +kernel
theorem dX0_neighboursLeft_29 : decode cX0_neighboursLeft 29 = .ok (.aload_n 0, 1) := by decide +kernel
theorem dX0_neighboursLeft_30 : decode cX0_neighboursLeft 30 = .ok (.getfield 15, 3) := by decide +kernel
theorem dX0_neighboursLeft_33 : decode cX0_neighboursLeft 33 = .ok (.aload_n 0, 1) := by decide +kernel
theorem dX0_neighboursLeft_34 : decode cX0_neighboursLeft 34 = .ok (.getfield 38, 3) := by decide +kernel
theorem dX0_neighboursLeft_37 : decode cX0_neighboursLeft 37 = .ok (.iload_n 3, 1) := by decide +kernel
theorem dX0_neighboursLeft_38 : decode cX0_neighboursLeft 38 = .ok (.invokevirtual 71, 3) := by decide +kernel
theorem dX0_neighboursLeft_41 : decode cX0_neighboursLeft 41 = .ok (.baload, 1) := by decide +kernel
theorem dX0_neighboursLeft_42 : decode cX0_neighboursLeft 42 = .ok (.ifCond .ne 6, 3) := by decide +kernel
theorem dX0_neighboursLeft_45 : decode cX0_neighboursLeft 45 = .ok (.iinc 2 1, 3) := by decide +kernel
theorem dX0_neighboursLeft_48 : decode cX0_neighboursLeft 48 = .ok (.aload_n 0, 1) := by decide +kernel
theorem dX0_neighboursLeft_49 : decode cX0_neighboursLeft 49 = .ok (.getfield 38, 3) := by decide +kernel
theorem dX0_neighboursLeft_52 : decode cX0_neighboursLeft 52 = .ok (.getfield 74, 3) := by decide +kernel
theorem dX0_neighboursLeft_55 : decode cX0_neighboursLeft 55 = .ok (.iload_n 3, 1) := by decide +kernel
theorem dX0_neighboursLeft_56 : decode cX0_neighboursLeft 56 = .ok (.iaload, 1) := by decide +kernel
theorem dX0_neighboursLeft_57 : decode cX0_neighboursLeft 57 = .ok (.istore_n 3, 1) := by decide +kernel
theorem dX0_neighboursLeft_58 : decode cX0_neighboursLeft 58 = .ok (.iinc 4 1, 3) := by decide +kernel
theorem dX0_neighboursLeft_61 : decode cX0_neighboursLeft 61 = .ok (.goto (-46), 3) := by decide +kernel
theorem dX0_neighboursLeft_64 : decode cX0_neighboursLeft 64 = .ok (.iload_n 2, 1) := by decide +kernel
theorem dX0_neighboursLeft_65 : decode cX0_neighboursLeft 65 = .ok (.ireturn, 1) := by decide +kernel
theorem dX0_bringBack_0 : decode cX0_bringBack 0 = .ok (.aload_n 0, 1) := by decide +kernel
theorem dX0_bringBack_1 : decode cX0_bringBack 1 = .ok (.iload_n 1, 1) := by decide +kernel
theorem dX0_bringBack_2 : decode cX0_bringBack 2 = .ok (.invokevirtual 77, 3) := by decide +kernel
theorem dX0_bringBack_5 : decode cX0_bringBack 5 = .ok (.istore_n 2, 1) := by decide +kernel
theorem dX0_bringBack_6 : decode cX0_bringBack 6 = .ok (.aload_n 0, 1) := by decide +kernel
theorem dX0_bringBack_7 : decode cX0_bringBack 7 = .ok (.getfield 9, 3) := by decide +kernel
theorem dX0_bringBack_10 : decode cX0_bringBack 10 = .ok (.iload_n 1, 1) := by decide +kernel
theorem dX0_bringBack_11 : decode cX0_bringBack 11 = .ok (.iload_n 2, 1) := by decide +kernel
theorem dX0_bringBack_12 : decode cX0_bringBack 12 = .ok (.iconst (-1), 1) := by decide +kernel
theorem dX0_bringBack_13 : decode cX0_bringBack 13 = .ok (.if_icmp .eq 7, 3) := by decide +kernel
theorem dX0_bringBack_16 : decode cX0_bringBack 16 = .ok (.iload_n 2, 1) := by decide +kernel
theorem dX0_bringBack_17 : decode cX0_bringBack 17 = .ok (.goto 8, 3) := by decide +kernel
theorem dX0_bringBack_20 : decode cX0_bringBack 20 = .ok (.aload_n 0, 1) := by decide +kernel
theorem dX0_bringBack_21 : decode cX0_bringBack 21 = .ok (.iload_n 1, 1) := by decide +kernel
theorem dX0_bringBack_22 : decode cX0_bringBack 22 = .ok (.invokevirtual 80, 3) := by decide +kernel
theorem dX0_bringBack_25 : decode cX0_bringBack 25 = .ok (.iastore, 1) := by decide +kernel
theorem dX0_bringBack_26 : decode cX0_bringBack 26 = .ok (.return_, 1) := by decide +kernel
theorem dX0_leastFreeColour_0 : decode cX0_leastFreeColour 0 = .ok (.iconst 0, 1) := by decide +kernel
theorem dX0_leastFreeColour_1 : decode cX0_leastFreeColour 1 = .ok (.istore_n 2, 1) := by decide +kernel
theorem dX0_leastFreeColour_2 : decode cX0_leastFreeColour 2 = .ok (.aload_n 0, 1) := by decide +kernel
theorem dX0_leastFreeColour_3 : decode cX0_leastFreeColour 3 = .ok (.getfield 38, 3) := by decide +kernel
theorem dX0_leastFreeColour_6 : decode cX0_leastFreeColour 6 = .ok (.getfield 65, 3) := by decide +kernel
theorem dX0_leastFreeColour_9 : decode cX0_leastFreeColour 9 = .ok (.iload_n 1, 1) := by decide +kernel
theorem dX0_leastFreeColour_10 : decode cX0_leastFreeColour 10 = .ok (.iaload, 1) := by decide +kernel
theorem dX0_leastFreeColour_11 : decode cX0_leastFreeColour 11 = .ok (.istore_n 3, 1) := by decide +kernel
theorem dX0_leastFreeColour_12 : decode cX0_leastFreeColour 12 = .ok (.iconst 0, 1) := by decide +kernel
theorem dX0_leastFreeColour_13 : decode cX0_leastFreeColour 13 = .ok (.istore 4, 2) := by decide +kernel
theorem dX0_leastFreeColour_15 : decode cX0_leastFreeColour 15 = .ok (.iload 4, 2) := by decide +kernel
theorem dX0_leastFreeColour_17 : decode cX0_leastFreeColour 17 = .ok (.aload_n 0, 1) := by decide +kernel
theorem dX0_leastFreeColour_18 : decode cX0_leastFreeColour 18 = .ok (.getfield 38, 3) := by decide +kernel
theorem dX0_leastFreeColour_21 : decode cX0_leastFreeColour 21 = .ok (.getfield 68, 3) := by decide +kernel
theorem dX0_leastFreeColour_24 : decode cX0_leastFreeColour 24 = .ok (.iload_n 1, 1) := by decide +kernel
theorem dX0_leastFreeColour_25 : decode cX0_leastFreeColour 25 = .ok (.iaload, 1) := by decide +kernel
theorem dX0_leastFreeColour_26 : decode cX0_leastFreeColour 26 = .ok (.if_icmp .ge 37, 3) := by decide +kernel
theorem dX0_leastFreeColour_29 : decode cX0_leastFreeColour 29 = .ok (.iload_n 2, 1) := by decide +kernel
theorem dX0_leastFreeColour_30 : decode cX0_leastFreeColour 30 = .ok (.iconst 1, 1) := by decide +kernel
theorem dX0_leastFreeColour_31 : decode cX0_leastFreeColour 31 = .ok (.aload_n 0, 1) := by decide +kernel
theorem dX0_leastFreeColour_32 : decode cX0_leastFreeColour 32 = .ok (.getfield 9, 3) := by decide +kernel
theorem dX0_leastFreeColour_35 : decode cX0_leastFreeColour 35 = .ok (.aload_n 0, 1) := by decide +kernel
theorem dX0_leastFreeColour_36 : decode cX0_leastFreeColour 36 = .ok (.getfield 38, 3) := by decide +kernel
theorem dX0_leastFreeColour_39 : decode cX0_leastFreeColour 39 = .ok (.iload_n 3, 1) := by decide +kernel
theorem dX0_leastFreeColour_40 : decode cX0_leastFreeColour 40 = .ok (.invokevirtual 71, 3) := by decide +kernel
theorem dX0_leastFreeColour_43 : decode cX0_leastFreeColour 43 = .ok (.iaload, 1) := by decide +kernel
theorem dX0_leastFreeColour_44 : decode cX0_leastFreeColour 44 = .ok (.ishl, 1) := by decide +kernel
theorem dX0_leastFreeColour_45 : decode cX0_leastFreeColour 45 = .ok (.ior, 1) := by decide +kernel
theorem dX0_leastFreeColour_46 : decode cX0_leastFreeColour 46 = .ok (.istore_n 2, 1) := by decide +kernel
theorem dX0_leastFreeColour_47 : decode cX0_leastFreeColour 47 = .ok (.aload_n 0, 1) := by decide +kernel
theorem dX0_leastFreeColour_48 : decode cX0_leastFreeColour 48 = .ok (.getfield 38, 3) := by decide +kernel
theorem dX0_leastFreeColour_51 : decode cX0_leastFreeColour 51 = .ok (.getfield 74, 3) := by decide +kernel
theorem dX0_leastFreeColour_54 : decode cX0_leastFreeColour 54 = .ok (.iload_n 3, 1) := by decide +kernel
theorem dX0_leastFreeColour_55 : decode cX0_leastFreeColour 55 = .ok (.iaload, 1) := by decide +kernel
theorem dX0_leastFreeColour_56 : decode cX0_leastFreeColour 56 = .ok (.istore_n 3, 1) := by decide +kernel
theorem dX0_leastFreeColour_57 : decode cX0_leastFreeColour 57 = .ok (.iinc 4 1, 3) := by decide +kernel
theorem dX0_leastFreeColour_60 : decode cX0_leastFreeColour 60 = .ok (.goto (-45), 3) := by decide +kernel
theorem dX0_leastFreeColour_63 : decode cX0_leastFreeColour 63 = .ok (.iconst 1, 1) := by decide +kernel
theorem dX0_leastFreeColour_64 : decode cX0_leastFreeColour 64 = .ok (.istore 4, 2) := by decide +kernel
theorem dX0_leastFreeColour_66 : decode cX0_leastFreeColour 66 = .ok (.iload 4, 2) := by decide +kernel
theorem dX0_leastFreeColour_68 : decode cX0_leastFreeColour 68 = .ok (.iconst 5, 1) := by decide +kernel
theorem dX0_leastFreeColour_69 : decode cX0_leastFreeColour 69 = .ok (.if_icmp .gt 21, 3) := by decide +kernel
theorem dX0_leastFreeColour_72 : decode cX0_leastFreeColour 72 = .ok (.iload_n 2, 1) := by decide +kernel
theorem dX0_leastFreeColour_73 : decode cX0_leastFreeColour 73 = .ok (.iconst 1, 1) := by decide +kernel
theorem dX0_leastFreeColour_74 : decode cX0_leastFreeColour 74 = .ok (.iload 4, 2) := by decide +kernel
theorem dX0_leastFreeColour_76 : decode cX0_leastFreeColour 76 = .ok (.ishl, 1) := by decide +kernel
theorem dX0_leastFreeColour_77 : decode cX0_leastFreeColour 77 = .ok (.iand, 1) := by decide +kernel
theorem dX0_leastFreeColour_78 : decode cX0_leastFreeColour 78 = .ok (.ifCond .ne 6, 3) := by decide +kernel
theorem dX0_leastFreeColour_81 : decode cX0_leastFreeColour 81 = .ok (.iload 4, 2) := by decide +kernel
theorem dX0_leastFreeColour_83 : decode cX0_leastFreeColour 83 = .ok (.ireturn, 1) := by decide +kernel
theorem dX0_leastFreeColour_84 : decode cX0_leastFreeColour 84 = .ok (.iinc 4 1, 3) := by decide +kernel
theorem dX0_leastFreeColour_87 : decode cX0_leastFreeColour 87 = .ok (.goto (-21), 3) := by decide +kernel
theorem dX0_leastFreeColour_90 : decode cX0_leastFreeColour 90 = .ok (.iconst (-1), 1) := by decide +kernel
theorem dX0_leastFreeColour_91 : decode cX0_leastFreeColour 91 = .ok (.ireturn, 1) := by decide +kernel
theorem dX0_colourFreedByChain_0 : decode cX0_colourFreedByChain 0 = .ok (.aload_n 0, 1) := by decide +kernel
theorem dX0_colourFreedByChain_1 : decode cX0_colourFreedByChain 1 = .ok (.iload_n 1, 1) := by decide +kernel
theorem dX0_colourFreedByChain_2 : decode cX0_colourFreedByChain 2 = .ok (.invokevirtual 83, 3) := by decide +kernel
theorem dX0_colourFreedByChain_5 : decode cX0_colourFreedByChain 5 = .ok (.aload_n 0, 1) := by decide +kernel
theorem dX0_colourFreedByChain_6 : decode cX0_colourFreedByChain 6 = .ok (.aload_n 0, 1) := by decide +kernel
theorem dX0_colourFreedByChain_7 : decode cX0_colourFreedByChain 7 = .ok (.getfield 22, 3) := by decide +kernel
theorem dX0_colourFreedByChain_10 : decode cX0_colourFreedByChain 10 = .ok (.iconst 0, 1) := by decide +kernel
theorem dX0_colourFreedByChain_11 : decode cX0_colourFreedByChain 11 = .ok (.iaload, 1) := by decide +kernel
theorem dX0_colourFreedByChain_12 : decode cX0_colourFreedByChain 12 = .ok (.aload_n 0, 1) := by decide +kernel
theorem dX0_colourFreedByChain_13 : decode cX0_colourFreedByChain 13 = .ok (.getfield 9, 3) := by decide +kernel
theorem dX0_colourFreedByChain_16 : decode cX0_colourFreedByChain 16 = .ok (.aload_n 0, 1) := by decide +kernel
theorem dX0_colourFreedByChain_17 : decode cX0_colourFreedByChain 17 = .ok (.getfield 22, 3) := by decide +kernel
theorem dX0_colourFreedByChain_20 : decode cX0_colourFreedByChain 20 = .ok (.iconst 2, 1) := by decide +kernel
theorem dX0_colourFreedByChain_21 : decode cX0_colourFreedByChain 21 = .ok (.iaload, 1) := by decide +kernel
theorem dX0_colourFreedByChain_22 : decode cX0_colourFreedByChain 22 = .ok (.iaload, 1) := by decide +kernel
theorem dX0_colourFreedByChain_23 : decode cX0_colourFreedByChain 23 = .ok (.invokevirtual 86, 3) := by decide +kernel
theorem dX0_colourFreedByChain_26 : decode cX0_colourFreedByChain 26 = .ok (.iconst 0, 1) := by decide +kernel
theorem dX0_colourFreedByChain_27 : decode cX0_colourFreedByChain 27 = .ok (.istore_n 2, 1) := by decide +kernel
theorem dX0_colourFreedByChain_28 : decode cX0_colourFreedByChain 28 = .ok (.aload_n 0, 1) := by decide +kernel
theorem dX0_colourFreedByChain_29 : decode cX0_colourFreedByChain 29 = .ok (.getfield 25, 3) := by decide +kernel
theorem dX0_colourFreedByChain_32 : decode cX0_colourFreedByChain 32 = .ok (.aload_n 0, 1) := by decide +kernel
theorem dX0_colourFreedByChain_33 : decode cX0_colourFreedByChain 33 = .ok (.getfield 22, 3) := by decide +kernel
theorem dX0_colourFreedByChain_36 : decode cX0_colourFreedByChain 36 = .ok (.iconst 2, 1) := by decide +kernel
theorem dX0_colourFreedByChain_37 : decode cX0_colourFreedByChain 37 = .ok (.iaload, 1) := by decide +kernel
theorem dX0_colourFreedByChain_38 : decode cX0_colourFreedByChain 38 = .ok (.baload, 1) := by decide +kernel
theorem dX0_colourFreedByChain_39 : decode cX0_colourFreedByChain 39 = .ok (.ifCond .eq 26, 3) := by decide +kernel
theorem dX0_colourFreedByChain_42 : decode cX0_colourFreedByChain 42 = .ok (.iconst 1, 1) := by decide +kernel
theorem dX0_colourFreedByChain_43 : decode cX0_colourFreedByChain 43 = .ok (.istore_n 2, 1) := by decide +kernel
theorem dX0_colourFreedByChain_44 : decode cX0_colourFreedByChain 44 = .ok (.aload_n 0, 1) := by decide +kernel
theorem dX0_colourFreedByChain_45 : decode cX0_colourFreedByChain 45 = .ok (.aload_n 0, 1) := by decide +kernel
theorem dX0_colourFreedByChain_46 : decode cX0_colourFreedByChain 46 = .ok (.getfield 22, 3) := by decide +kernel
theorem dX0_colourFreedByChain_49 : decode cX0_colourFreedByChain 49 = .ok (.iconst 1, 1) := by decide +kernel
theorem dX0_colourFreedByChain_50 : decode cX0_colourFreedByChain 50 = .ok (.iaload, 1) := by decide +kernel
theorem dX0_colourFreedByChain_51 : decode cX0_colourFreedByChain 51 = .ok (.aload_n 0, 1) := by decide +kernel
theorem dX0_colourFreedByChain_52 : decode cX0_colourFreedByChain 52 = .ok (.getfield 9, 3) := by decide +kernel
theorem dX0_colourFreedByChain_55 : decode cX0_colourFreedByChain 55 = .ok (.aload_n 0, 1) := by decide +kernel
theorem dX0_colourFreedByChain_56 : decode cX0_colourFreedByChain 56 = .ok (.getfield 22, 3) := by decide +kernel
theorem dX0_colourFreedByChain_59 : decode cX0_colourFreedByChain 59 = .ok (.iconst 3, 1) := by decide +kernel
theorem dX0_colourFreedByChain_60 : decode cX0_colourFreedByChain 60 = .ok (.iaload, 1) := by decide +kernel
theorem dX0_colourFreedByChain_61 : decode cX0_colourFreedByChain 61 = .ok (.iaload, 1) := by decide +kernel
theorem dX0_colourFreedByChain_62 : decode cX0_colourFreedByChain 62 = .ok (.invokevirtual 86, 3) := by decide +kernel
theorem dX0_colourFreedByChain_65 : decode cX0_colourFreedByChain 65 = .ok (.aload_n 0, 1) := by decide +kernel
theorem dX0_colourFreedByChain_66 : decode cX0_colourFreedByChain 66 = .ok (.getfield 9, 3) := by decide +kernel
theorem dX0_colourFreedByChain_69 : decode cX0_colourFreedByChain 69 = .ok (.aload_n 0, 1) := by decide +kernel
theorem dX0_colourFreedByChain_70 : decode cX0_colourFreedByChain 70 = .ok (.getfield 22, 3) := by decide +kernel
theorem dX0_colourFreedByChain_73 : decode cX0_colourFreedByChain 73 = .ok (.iload_n 2, 1) := by decide +kernel
theorem dX0_colourFreedByChain_74 : decode cX0_colourFreedByChain 74 = .ok (.iaload, 1) := by decide +kernel
theorem dX0_colourFreedByChain_75 : decode cX0_colourFreedByChain 75 = .ok (.iaload, 1) := by decide +kernel
theorem dX0_colourFreedByChain_76 : decode cX0_colourFreedByChain 76 = .ok (.istore_n 3, 1) := by decide +kernel
theorem dX0_colourFreedByChain_77 : decode cX0_colourFreedByChain 77 = .ok (.aload_n 0, 1) := by decide +kernel
theorem dX0_colourFreedByChain_78 : decode cX0_colourFreedByChain 78 = .ok (.iload_n 3, 1) := by decide +kernel
theorem dX0_colourFreedByChain_79 : decode cX0_colourFreedByChain 79 = .ok (.aload_n 0, 1) := by decide +kernel
theorem dX0_colourFreedByChain_80 : decode cX0_colourFreedByChain 80 = .ok (.getfield 9, 3) := by decide +kernel
theorem dX0_colourFreedByChain_83 : decode cX0_colourFreedByChain 83 = .ok (.aload_n 0, 1) := by decide +kernel
theorem dX0_colourFreedByChain_84 : decode cX0_colourFreedByChain 84 = .ok (.getfield 22, 3) := by decide +kernel
theorem dX0_colourFreedByChain_87 : decode cX0_colourFreedByChain 87 = .ok (.iload_n 2, 1) := by decide +kernel
theorem dX0_colourFreedByChain_88 : decode cX0_colourFreedByChain 88 = .ok (.iconst 2, 1) := by decide +kernel
theorem dX0_colourFreedByChain_89 : decode cX0_colourFreedByChain 89 = .ok (.iadd, 1) := by decide +kernel
theorem dX0_colourFreedByChain_90 : decode cX0_colourFreedByChain 90 = .ok (.iaload, 1) := by decide +kernel
theorem dX0_colourFreedByChain_91 : decode cX0_colourFreedByChain 91 = .ok (.iaload, 1) := by decide +kernel
theorem dX0_colourFreedByChain_92 : decode cX0_colourFreedByChain 92 = .ok (.invokevirtual 90, 3) := by decide +kernel
theorem dX0_colourFreedByChain_95 : decode cX0_colourFreedByChain 95 = .ok (.aload_n 0, 1) := by decide +kernel
theorem dX0_colourFreedByChain_96 : decode cX0_colourFreedByChain 96 = .ok (.dup, 1) := by decide +kernel
theorem dX0_colourFreedByChain_97 : decode cX0_colourFreedByChain 97 = .ok (.getfield 35, 3) := by decide +kernel
theorem dX0_colourFreedByChain_100 : decode cX0_colourFreedByChain 100 = .ok (.iconst 1, 1) := by decide +kernel
theorem dX0_colourFreedByChain_101 : decode cX0_colourFreedByChain 101 = .ok (.iadd, 1) := by decide +kernel
theorem dX0_colourFreedByChain_102 : decode cX0_colourFreedByChain 102 = .ok (.putfield 35, 3) := by decide +kernel
theorem dX0_colourFreedByChain_105 : decode cX0_colourFreedByChain 105 = .ok (.iload_n 3, 1) := by decide +kernel
theorem dX0_colourFreedByChain_106 : decode cX0_colourFreedByChain 106 = .ok (.ireturn, 1) := by decide +kernel
theorem dX0_listFiveRound_0 : decode cX0_listFiveRound 0 = .ok (.iconst 0, 1) := by decide +kernel
theorem dX0_listFiveRound_1 : decode cX0_listFiveRound 1 = .ok (.istore_n 2, 1) := by decide +kernel
theorem dX0_listFiveRound_2 : decode cX0_listFiveRound 2 = .ok (.aload_n 0, 1) := by decide +kernel
theorem dX0_listFiveRound_3 : decode cX0_listFiveRound 3 = .ok (.getfield 38, 3) := by decide +kernel
theorem dX0_listFiveRound_6 : decode cX0_listFiveRound 6 = .ok (.getfield 65, 3) := by decide +kernel
theorem dX0_listFiveRound_9 : decode cX0_listFiveRound 9 = .ok (.iload_n 1, 1) := by decide +kernel
theorem dX0_listFiveRound_10 : decode cX0_listFiveRound 10 = .ok (.iaload, 1) := by decide +kernel
theorem dX0_listFiveRound_11 : decode cX0_listFiveRound 11 = .ok (.istore_n 3, 1) := by decide +kernel
theorem dX0_listFiveRound_12 : decode cX0_listFiveRound 12 = .ok (.iconst 0, 1) := by decide +kernel
theorem dX0_listFiveRound_13 : decode cX0_listFiveRound 13 = .ok (.istore 4, 2) := by decide +kernel
theorem dX0_listFiveRound_15 : decode cX0_listFiveRound 15 = .ok (.iload 4, 2) := by decide +kernel
theorem dX0_listFiveRound_17 : decode cX0_listFiveRound 17 = .ok (.aload_n 0, 1) := by decide +kernel
theorem dX0_listFiveRound_18 : decode cX0_listFiveRound 18 = .ok (.getfield 38, 3) := by decide +kernel
theorem dX0_listFiveRound_21 : decode cX0_listFiveRound 21 = .ok (.getfield 68, 3) := by decide +kernel
theorem dX0_listFiveRound_24 : decode cX0_listFiveRound 24 = .ok (.iload_n 1, 1) := by decide +kernel
theorem dX0_listFiveRound_25 : decode cX0_listFiveRound 25 = .ok (.iaload, 1) := by decide +kernel
theorem dX0_listFiveRound_26 : decode cX0_listFiveRound 26 = .ok (.if_icmp .ge 55, 3) := by decide +kernel
theorem dX0_listFiveRound_29 : decode cX0_listFiveRound 29 = .ok (.aload_n 0, 1) := by decide +kernel
theorem dX0_listFiveRound_30 : decode cX0_listFiveRound 30 = .ok (.getfield 38, 3) := by decide +kernel
theorem dX0_listFiveRound_33 : decode cX0_listFiveRound 33 = .ok (.iload_n 3, 1) := by decide +kernel
theorem dX0_listFiveRound_34 : decode cX0_listFiveRound 34 = .ok (.invokevirtual 71, 3) := by decide +kernel
theorem dX0_listFiveRound_37 : decode cX0_listFiveRound 37 = .ok (.istore 5, 2) := by decide +kernel
theorem dX0_listFiveRound_39 : decode cX0_listFiveRound 39 = .ok (.aload_n 0, 1) := by decide +kernel
theorem dX0_listFiveRound_40 : decode cX0_listFiveRound 40 = .ok (.getfield 9, 3) := by decide +kernel
theorem dX0_listFiveRound_43 : decode cX0_listFiveRound 43 = .ok (.iload 5, 2) := by decide +kernel
theorem dX0_listFiveRound_45 : decode cX0_listFiveRound 45 = .ok (.iaload, 1) := by decide +kernel
theorem dX0_listFiveRound_46 : decode cX0_listFiveRound 46 = .ok (.ifCond .eq 19, 3) := by decide +kernel
theorem dX0_listFiveRound_49 : decode cX0_listFiveRound 49 = .ok (.iload_n 2, 1) := by decide +kernel
theorem dX0_listFiveRound_50 : decode cX0_listFiveRound 50 = .ok (.iconst 5, 1) := by decide +kernel
theorem dX0_listFiveRound_51 : decode cX0_listFiveRound 51 = .ok (.if_icmp .ge 14, 3) := by decide +kernel
theorem dX0_listFiveRound_54 : decode cX0_listFiveRound 54 = .ok (.aload_n 0, 1) := by decide +kernel
theorem dX0_listFiveRound_55 : decode cX0_listFiveRound 55 = .ok (.getfield 22, 3) := by decide +kernel
theorem dX0_listFiveRound_58 : decode cX0_listFiveRound 58 = .ok (.iload_n 2, 1) := by decide +kernel
theorem dX0_listFiveRound_59 : decode cX0_listFiveRound 59 = .ok (.iload 5, 2) := by decide +kernel
theorem dX0_listFiveRound_61 : decode cX0_listFiveRound 61 = .ok (.iastore, 1) := by decide +kernel
theorem dX0_listFiveRound_62 : decode cX0_listFiveRound 62 = .ok (.iinc 2 1, 3) := by decide +kernel
theorem dX0_listFiveRound_65 : decode cX0_listFiveRound 65 = .ok (.aload_n 0, 1) := by decide +kernel
theorem dX0_listFiveRound_66 : decode cX0_listFiveRound 66 = .ok (.getfield 38, 3) := by decide +kernel
theorem dX0_listFiveRound_69 : decode cX0_listFiveRound 69 = .ok (.getfield 74, 3) := by decide +kernel
theorem dX0_listFiveRound_72 : decode cX0_listFiveRound 72 = .ok (.iload_n 3, 1) := by decide +kernel
theorem dX0_listFiveRound_73 : decode cX0_listFiveRound 73 = .ok (.iaload, 1) := by decide +kernel
theorem dX0_listFiveRound_74 : decode cX0_listFiveRound 74 = .ok (.istore_n 3, 1) := by decide +kernel
theorem dX0_listFiveRound_75 : decode cX0_listFiveRound 75 = .ok (.iinc 4 1, 3) := by decide +kernel
theorem dX0_listFiveRound_78 : decode cX0_listFiveRound 78 = .ok (.goto (-63), 3) := by decide +kernel
theorem dX0_listFiveRound_81 : decode cX0_listFiveRound 81 = .ok (.return_, 1) := by decide +kernel
theorem dX0_collectChain_0 : decode cX0_collectChain 0 = .ok (.iconst 0, 1) := by decide +kernel
theorem dX0_collectChain_1 : decode cX0_collectChain 1 = .ok (.istore_n 3, 1) := by decide +kernel
theorem dX0_collectChain_2 : decode cX0_collectChain 2 = .ok (.iload_n 3, 1) := by decide +kernel
theorem dX0_collectChain_3 : decode cX0_collectChain 3 = .ok (.aload_n 0, 1) := by decide +kernel
theorem dX0_collectChain_4 : decode cX0_collectChain 4 = .ok (.getfield 38, 3) := by decide +kernel
theorem dX0_collectChain_7 : decode cX0_collectChain 7 = .ok (.getfield 42, 3) := by decide +kernel
theorem dX0_collectChain_10 : decode cX0_collectChain 10 = .ok (.if_icmp .ge 16, 3) := by decide +kernel
theorem dX0_collectChain_13 : decode cX0_collectChain 13 = .ok (.aload_n 0, 1) := by decide +kernel
theorem dX0_collectChain_14 : decode cX0_collectChain 14 = .ok (.getfield 25, 3) := by decide +kernel
theorem dX0_collectChain_17 : decode cX0_collectChain 17 = .ok (.iload_n 3, 1) := by decide +kernel
theorem dX0_collectChain_18 : decode cX0_collectChain 18 = .ok (.iconst 0, 1) := by decide +kernel
theorem dX0_collectChain_19 : decode cX0_collectChain 19 = .ok (.bastore, 1) := by decide +kernel
theorem dX0_collectChain_20 : decode cX0_collectChain 20 = .ok (.iinc 3 1, 3) := by decide +kernel
theorem dX0_collectChain_23 : decode cX0_collectChain 23 = .ok (.goto (-21), 3) := by decide +kernel
theorem dX0_collectChain_26 : decode cX0_collectChain 26 = .ok (.aload_n 0, 1) := by decide +kernel
theorem dX0_collectChain_27 : decode cX0_collectChain 27 = .ok (.getfield 9, 3) := by decide +kernel
theorem dX0_collectChain_30 : decode cX0_collectChain 30 = .ok (.iload_n 1, 1) := by decide +kernel
theorem dX0_collectChain_31 : decode cX0_collectChain 31 = .ok (.iaload, 1) := by decide +kernel
theorem dX0_collectChain_32 : decode cX0_collectChain 32 = .ok (.istore_n 3, 1) := by decide +kernel
theorem dX0_collectChain_33 : decode cX0_collectChain 33 = .ok (.aload_n 0, 1) := by decide +kernel
theorem dX0_collectChain_34 : decode cX0_collectChain 34 = .ok (.iconst 0, 1) := by decide +kernel
theorem dX0_collectChain_35 : decode cX0_collectChain 35 = .ok (.putfield 31, 3) := by decide +kernel
theorem dX0_collectChain_38 : decode cX0_collectChain 38 = .ok (.aload_n 0, 1) := by decide +kernel
theorem dX0_collectChain_39 : decode cX0_collectChain 39 = .ok (.iload_n 1, 1) := by decide +kernel
theorem dX0_collectChain_40 : decode cX0_collectChain 40 = .ok (.invokevirtual 93, 3) := by decide +kernel
theorem dX0_collectChain_43 : decode cX0_collectChain 43 = .ok (.iconst 0, 1) := by decide +kernel
theorem dX0_collectChain_44 : decode cX0_collectChain 44 = .ok (.istore 4, 2) := by decide +kernel
theorem dX0_collectChain_46 : decode cX0_collectChain 46 = .ok (.iload 4, 2) := by decide +kernel
theorem dX0_collectChain_48 : decode cX0_collectChain 48 = .ok (.aload_n 0, 1) := by decide +kernel
theorem dX0_collectChain_49 : decode cX0_collectChain 49 = .ok (.getfield 31, 3) := by decide +kernel
theorem dX0_collectChain_52 : decode cX0_collectChain 52 = .ok (.if_icmp .ge 29, 3) := by decide +kernel
theorem dX0_collectChain_55 : decode cX0_collectChain 55 = .ok (.iload 4, 2) := by decide +kernel
theorem dX0_collectChain_57 : decode cX0_collectChain 57 = .ok (.bipush 30, 2) := by decide +kernel
theorem dX0_collectChain_59 : decode cX0_collectChain 59 = .ok (.if_icmp .ge 22, 3) := by decide +kernel
theorem dX0_collectChain_62 : decode cX0_collectChain 62 = .ok (.aload_n 0, 1) := by decide +kernel
theorem dX0_collectChain_63 : decode cX0_collectChain 63 = .ok (.aload_n 0, 1) := by decide +kernel
theorem dX0_collectChain_64 : decode cX0_collectChain 64 = .ok (.getfield 28, 3) := by decide +kernel
theorem dX0_collectChain_67 : decode cX0_collectChain 67 = .ok (.iload 4, 2) := by decide +kernel
theorem dX0_collectChain_69 : decode cX0_collectChain 69 = .ok (.iaload, 1) := by decide +kernel
theorem dX0_collectChain_70 : decode cX0_collectChain 70 = .ok (.iload_n 3, 1) := by decide +kernel
theorem dX0_collectChain_71 : decode cX0_collectChain 71 = .ok (.iload_n 2, 1) := by decide +kernel
theorem dX0_collectChain_72 : decode cX0_collectChain 72 = .ok (.invokevirtual 96, 3) := by decide +kernel
theorem dX0_collectChain_75 : decode cX0_collectChain 75 = .ok (.iinc 4 1, 3) := by decide +kernel
theorem dX0_collectChain_78 : decode cX0_collectChain 78 = .ok (.goto (-32), 3) := by decide +kernel
theorem dX0_collectChain_81 : decode cX0_collectChain 81 = .ok (.return_, 1) := by decide +kernel
theorem dX0_addNeighboursOf_0 : decode cX0_addNeighboursOf 0 = .ok (.aload_n 0, 1) := by decide +kernel
theorem dX0_addNeighboursOf_1 : decode cX0_addNeighboursOf 1 = .ok (.getfield 38, 3) := by decide +kernel
theorem dX0_addNeighboursOf_4 : decode cX0_addNeighboursOf 4 = .ok (.getfield 65, 3) := by decide +kernel
theorem dX0_addNeighboursOf_7 : decode cX0_addNeighboursOf 7 = .ok (.iload_n 1, 1) := by decide +kernel
theorem dX0_addNeighboursOf_8 : decode cX0_addNeighboursOf 8 = .ok (.iaload, 1) := by decide +kernel
theorem dX0_addNeighboursOf_9 : decode cX0_addNeighboursOf 9 = .ok (.istore 4, 2) := by decide +kernel
theorem dX0_addNeighboursOf_11 : decode cX0_addNeighboursOf 11 = .ok (.iconst 0, 1) := by decide +kernel
theorem dX0_addNeighboursOf_12 : decode cX0_addNeighboursOf 12 = .ok (.istore 5, 2) := by decide +kernel
theorem dX0_addNeighboursOf_14 : decode cX0_addNeighboursOf 14 = .ok (.iload 5, 2) := by decide +kernel
theorem dX0_addNeighboursOf_16 : decode cX0_addNeighboursOf 16 = .ok (.aload_n 0, 1) := by decide +kernel
theorem dX0_addNeighboursOf_17 : decode cX0_addNeighboursOf 17 = .ok (.getfield 38, 3) := by decide +kernel
theorem dX0_addNeighboursOf_20 : decode cX0_addNeighboursOf 20 = .ok (.getfield 68, 3) := by decide +kernel
theorem dX0_addNeighboursOf_23 : decode cX0_addNeighboursOf 23 = .ok (.iload_n 1, 1) := by decide +kernel
theorem dX0_addNeighboursOf_24 : decode cX0_addNeighboursOf 24 = .ok (.iaload, 1) := by decide +kernel
theorem dX0_addNeighboursOf_25 : decode cX0_addNeighboursOf 25 = .ok (.if_icmp .ge 69, 3) := by decide +kernel
theorem dX0_addNeighboursOf_28 : decode cX0_addNeighboursOf 28 = .ok (.aload_n 0, 1) := by decide +kernel
theorem dX0_addNeighboursOf_29 : decode cX0_addNeighboursOf 29 = .ok (.getfield 38, 3) := by decide +kernel
theorem dX0_addNeighboursOf_32 : decode cX0_addNeighboursOf 32 = .ok (.iload 4, 2) := by decide +kernel
theorem dX0_addNeighboursOf_34 : decode cX0_addNeighboursOf 34 = .ok (.invokevirtual 71, 3) := by decide +kernel
theorem dX0_addNeighboursOf_37 : decode cX0_addNeighboursOf 37 = .ok (.istore 6, 2) := by decide +kernel
theorem dX0_addNeighboursOf_39 : decode cX0_addNeighboursOf 39 = .ok (.aload_n 0, 1) := by decide +kernel
theorem dX0_addNeighboursOf_40 : decode cX0_addNeighboursOf 40 = .ok (.getfield 9, 3) := by decide +kernel
theorem dX0_addNeighboursOf_43 : decode cX0_addNeighboursOf 43 = .ok (.iload 6, 2) := by decide +kernel
theorem dX0_addNeighboursOf_45 : decode cX0_addNeighboursOf 45 = .ok (.iaload, 1) := by decide +kernel
theorem dX0_addNeighboursOf_46 : decode cX0_addNeighboursOf 46 = .ok (.istore 7, 2) := by decide +kernel
theorem dX0_addNeighboursOf_48 : decode cX0_addNeighboursOf 48 = .ok (.aload_n 0, 1) := by decide +kernel
theorem dX0_addNeighboursOf_49 : decode cX0_addNeighboursOf 49 = .ok (.getfield 25, 3) := by decide +kernel
theorem dX0_addNeighboursOf_52 : decode cX0_addNeighboursOf 52 = .ok (.iload 6, 2) := by decide +kernel
theorem dX0_addNeighboursOf_54 : decode cX0_addNeighboursOf 54 = .ok (.baload, 1) := by decide +kernel
theorem dX0_addNeighboursOf_55 : decode cX0_addNeighboursOf 55 = .ok (.ifCond .ne 21, 3) := by decide +kernel
theorem dX0_addNeighboursOf_58 : decode cX0_addNeighboursOf 58 = .ok (.iload 7, 2) := by decide +kernel
theorem dX0_addNeighboursOf_60 : decode cX0_addNeighboursOf 60 = .ok (.iload_n 2, 1) := by decide +kernel
theorem dX0_addNeighboursOf_61 : decode cX0_addNeighboursOf 61 = .ok (.if_icmp .eq 9, 3) := by decide +kernel
theorem dX0_addNeighboursOf_64 : decode cX0_addNeighboursOf 64 = .ok (.iload 7, 2) := by decide +kernel
theorem dX0_addNeighboursOf_66 : decode cX0_addNeighboursOf 66 = .ok (.iload_n 3, 1) := by decide +kernel
theorem dX0_addNeighboursOf_67 : decode cX0_addNeighboursOf 67 = .ok (.if_icmp .ne 9, 3) := by decide +kernel
theorem dX0_addNeighboursOf_70 : decode cX0_addNeighboursOf 70 = .ok (.aload_n 0, 1) := by decide +kernel
theorem dX0_addNeighboursOf_71 : decode cX0_addNeighboursOf 71 = .ok (.iload 6, 2) := by decide +kernel
theorem dX0_addNeighboursOf_73 : decode cX0_addNeighboursOf 73 = .ok (.invokevirtual 93, 3) := by decide +kernel
theorem dX0_addNeighboursOf_76 : decode cX0_addNeighboursOf 76 = .ok (.aload_n 0, 1) := by decide +kernel
theorem dX0_addNeighboursOf_77 : decode cX0_addNeighboursOf 77 = .ok (.getfield 38, 3) := by decide +kernel
theorem dX0_addNeighboursOf_80 : decode cX0_addNeighboursOf 80 = .ok (.getfield 74, 3) := by decide +kernel
theorem dX0_addNeighboursOf_83 : decode cX0_addNeighboursOf 83 = .ok (.iload 4, 2) := by decide +kernel
theorem dX0_addNeighboursOf_85 : decode cX0_addNeighboursOf 85 = .ok (.iaload, 1) := by decide +kernel
theorem dX0_addNeighboursOf_86 : decode cX0_addNeighboursOf 86 = .ok (.istore 4, 2) := by decide +kernel
theorem dX0_addNeighboursOf_88 : decode cX0_addNeighboursOf 88 = .ok (.iinc 5 1, 3) := by decide +kernel
theorem dX0_addNeighboursOf_91 : decode cX0_addNeighboursOf 91 = .ok (.goto (-77), 3) := by decide +kernel
theorem dX0_addNeighboursOf_94 : decode cX0_addNeighboursOf 94 = .ok (.return_, 1) := by decide +kernel
theorem dX0_addToChain_0 : decode cX0_addToChain 0 = .ok (.aload_n 0, 1) := by decide +kernel
theorem dX0_addToChain_1 : decode cX0_addToChain 1 = .ok (.getfield 25, 3) := by decide +kernel
theorem dX0_addToChain_4 : decode cX0_addToChain 4 = .ok (.iload_n 1, 1) := by decide +kernel
theorem dX0_addToChain_5 : decode cX0_addToChain 5 = .ok (.iconst 1, 1) := by decide +kernel
theorem dX0_addToChain_6 : decode cX0_addToChain 6 = .ok (.bastore, 1) := by decide +kernel
theorem dX0_addToChain_7 : decode cX0_addToChain 7 = .ok (.aload_n 0, 1) := by decide +kernel
theorem dX0_addToChain_8 : decode cX0_addToChain 8 = .ok (.getfield 28, 3) := by decide +kernel
theorem dX0_addToChain_11 : decode cX0_addToChain 11 = .ok (.aload_n 0, 1) := by decide +kernel
theorem dX0_addToChain_12 : decode cX0_addToChain 12 = .ok (.getfield 31, 3) := by decide +kernel
theorem dX0_addToChain_15 : decode cX0_addToChain 15 = .ok (.iload_n 1, 1) := by decide +kernel
theorem dX0_addToChain_16 : decode cX0_addToChain 16 = .ok (.iastore, 1) := by decide +kernel
theorem dX0_addToChain_17 : decode cX0_addToChain 17 = .ok (.aload_n 0, 1) := by decide +kernel
theorem dX0_addToChain_18 : decode cX0_addToChain 18 = .ok (.dup, 1) := by decide +kernel
theorem dX0_addToChain_19 : decode cX0_addToChain 19 = .ok (.getfield 31, 3) := by decide +kernel
theorem dX0_addToChain_22 : decode cX0_addToChain 22 = .ok (.iconst 1, 1) := by decide +kernel
theorem dX0_addToChain_23 : decode cX0_addToChain 23 = .ok (.iadd, 1) := by decide +kernel
theorem dX0_addToChain_24 : decode cX0_addToChain 24 = .ok (.putfield 31, 3) := by decide +kernel
theorem dX0_addToChain_27 : decode cX0_addToChain 27 = .ok (.return_, 1) := by decide +kernel
theorem dX0_swapChain_0 : decode cX0_swapChain 0 = .ok (.iconst 0, 1) := by decide +kernel
theorem dX0_swapChain_1 : decode cX0_swapChain 1 = .ok (.istore_n 3, 1) := by decide +kernel
theorem dX0_swapChain_2 : decode cX0_swapChain 2 = .ok (.iload_n 3, 1) := by decide +kernel
theorem dX0_swapChain_3 : decode cX0_swapChain 3 = .ok (.aload_n 0, 1) := by decide +kernel
theorem dX0_swapChain_4 : decode cX0_swapChain 4 = .ok (.getfield 31, 3) := by decide +kernel
theorem dX0_swapChain_7 : decode cX0_swapChain 7 = .ok (.if_icmp .ge 40, 3) := by decide +kernel
theorem dX0_swapChain_10 : decode cX0_swapChain 10 = .ok (.aload_n 0, 1) := by decide +kernel
theorem dX0_swapChain_11 : decode cX0_swapChain 11 = .ok (.getfield 28, 3) := by decide +kernel
theorem dX0_swapChain_14 : decode cX0_swapChain 14 = .ok (.iload_n 3, 1) := by decide +kernel
theorem dX0_swapChain_15 : decode cX0_swapChain 15 = .ok (.iaload, 1) := by decide +kernel
theorem dX0_swapChain_16 : decode cX0_swapChain 16 = .ok (.istore 4, 2) := by decide +kernel
theorem dX0_swapChain_18 : decode cX0_swapChain 18 = .ok (.aload_n 0, 1) := by decide +kernel
theorem dX0_swapChain_19 : decode cX0_swapChain 19 = .ok (.getfield 9, 3) := by decide +kernel
theorem dX0_swapChain_22 : decode cX0_swapChain 22 = .ok (.iload 4, 2) := by decide +kernel
theorem dX0_swapChain_24 : decode cX0_swapChain 24 = .ok (.aload_n 0, 1) := by decide +kernel
theorem dX0_swapChain_25 : decode cX0_swapChain 25 = .ok (.getfield 9, 3) := by decide +kernel
theorem dX0_swapChain_28 : decode cX0_swapChain 28 = .ok (.iload 4, 2) := by decide +kernel
theorem dX0_swapChain_30 : decode cX0_swapChain 30 = .ok (.iaload, 1) := by decide +kernel
theorem dX0_swapChain_31 : decode cX0_swapChain 31 = .ok (.iload_n 1, 1) := by decide +kernel
theorem dX0_swapChain_32 : decode cX0_swapChain 32 = .ok (.if_icmp .ne 7, 3) := by decide +kernel
theorem dX0_swapChain_35 : decode cX0_swapChain 35 = .ok (.iload_n 2, 1) := by decide +kernel
theorem dX0_swapChain_36 : decode cX0_swapChain 36 = .ok (.goto 4, 3) := by decide +kernel
theorem dX0_swapChain_39 : decode cX0_swapChain 39 = .ok (.iload_n 1, 1) := by decide +kernel
theorem dX0_swapChain_40 : decode cX0_swapChain 40 = .ok (.iastore, 1) := by decide +kernel
theorem dX0_swapChain_41 : decode cX0_swapChain 41 = .ok (.iinc 3 1, 3) := by decide +kernel
theorem dX0_swapChain_44 : decode cX0_swapChain 44 = .ok (.goto (-42), 3) := by decide +kernel
theorem dX0_swapChain_47 : decode cX0_swapChain 47 = .ok (.return_, 1) := by decide +kernel
theorem dX0_coloursUsed_0 : decode cX0_coloursUsed 0 = .ok (.iconst 0, 1) := by decide +kernel
theorem dX0_coloursUsed_1 : decode cX0_coloursUsed 1 = .ok (.istore_n 1, 1) := by decide +kernel
theorem dX0_coloursUsed_2 : decode cX0_coloursUsed 2 = .ok (.iconst 0, 1) := by decide +kernel
theorem dX0_coloursUsed_3 : decode cX0_coloursUsed 3 = .ok (.istore_n 2, 1) := by decide +kernel
theorem dX0_coloursUsed_4 : decode cX0_coloursUsed 4 = .ok (.iload_n 2, 1) := by decide +kernel
theorem dX0_coloursUsed_5 : decode cX0_coloursUsed 5 = .ok (.aload_n 0, 1) := by decide +kernel
theorem dX0_coloursUsed_6 : decode cX0_coloursUsed 6 = .ok (.getfield 38, 3) := by decide +kernel
theorem dX0_coloursUsed_9 : decode cX0_coloursUsed 9 = .ok (.getfield 42, 3) := by decide +kernel
theorem dX0_coloursUsed_12 : decode cX0_coloursUsed 12 = .ok (.if_icmp .ge 20, 3) := by decide +kernel
theorem dX0_coloursUsed_15 : decode cX0_coloursUsed 15 = .ok (.iload_n 1, 1) := by decide +kernel
theorem dX0_coloursUsed_16 : decode cX0_coloursUsed 16 = .ok (.iconst 1, 1) := by decide +kernel
theorem dX0_coloursUsed_17 : decode cX0_coloursUsed 17 = .ok (.aload_n 0, 1) := by decide +kernel
theorem dX0_coloursUsed_18 : decode cX0_coloursUsed 18 = .ok (.getfield 9, 3) := by decide +kernel
theorem dX0_coloursUsed_21 : decode cX0_coloursUsed 21 = .ok (.iload_n 2, 1) := by decide +kernel
theorem dX0_coloursUsed_22 : decode cX0_coloursUsed 22 = .ok (.iaload, 1) := by decide +kernel
theorem dX0_coloursUsed_23 : decode cX0_coloursUsed 23 = .ok (.ishl, 1) := by decide +kernel
theorem dX0_coloursUsed_24 : decode cX0_coloursUsed 24 = .ok (.ior, 1) := by decide +kernel
theorem dX0_coloursUsed_25 : decode cX0_coloursUsed 25 = .ok (.istore_n 1, 1) := by decide +kernel
theorem dX0_coloursUsed_26 : decode cX0_coloursUsed 26 = .ok (.iinc 2 1, 3) := by decide +kernel
theorem dX0_coloursUsed_29 : decode cX0_coloursUsed 29 = .ok (.goto (-25), 3) := by decide +kernel
theorem dX0_coloursUsed_32 : decode cX0_coloursUsed 32 = .ok (.iload_n 1, 1) := by decide +kernel
theorem dX0_coloursUsed_33 : decode cX0_coloursUsed 33 = .ok (.iconst 1, 1) := by decide +kernel
theorem dX0_coloursUsed_34 : decode cX0_coloursUsed 34 = .ok (.ishr, 1) := by decide +kernel
theorem dX0_coloursUsed_35 : decode cX0_coloursUsed 35 = .ok (.invokestatic 100, 3) := by decide +kernel
theorem dX0_coloursUsed_38 : decode cX0_coloursUsed 38 = .ok (.ireturn, 1) := by decide +kernel
theorem dX0_equalEnds_0 : decode cX0_equalEnds 0 = .ok (.iconst 0, 1) := by decide +kernel
theorem dX0_equalEnds_1 : decode cX0_equalEnds 1 = .ok (.istore_n 1, 1) := by decide +kernel
theorem dX0_equalEnds_2 : decode cX0_equalEnds 2 = .ok (.iconst 0, 1) := by decide +kernel
theorem dX0_equalEnds_3 : decode cX0_equalEnds 3 = .ok (.istore_n 2, 1) := by decide +kernel
theorem dX0_equalEnds_4 : decode cX0_equalEnds 4 = .ok (.iload_n 2, 1) := by decide +kernel
theorem dX0_equalEnds_5 : decode cX0_equalEnds 5 = .ok (.aload_n 0, 1) := by decide +kernel
theorem dX0_equalEnds_6 : decode cX0_equalEnds 6 = .ok (.getfield 38, 3) := by decide +kernel
theorem dX0_equalEnds_9 : decode cX0_equalEnds 9 = .ok (.getfield 105, 3) := by decide +kernel
theorem dX0_equalEnds_12 : decode cX0_equalEnds 12 = .ok (.if_icmp .ge 67, 3) := by decide +kernel
theorem dX0_equalEnds_15 : decode cX0_equalEnds 15 = .ok (.aload_n 0, 1) := by decide +kernel
theorem dX0_equalEnds_16 : decode cX0_equalEnds 16 = .ok (.getfield 38, 3) := by decide +kernel
theorem dX0_equalEnds_19 : decode cX0_equalEnds 19 = .ok (.getfield 108, 3) := by decide +kernel
theorem dX0_equalEnds_22 : decode cX0_equalEnds 22 = .ok (.iload_n 2, 1) := by decide +kernel
theorem dX0_equalEnds_23 : decode cX0_equalEnds 23 = .ok (.baload, 1) := by decide +kernel
theorem dX0_equalEnds_24 : decode cX0_equalEnds 24 = .ok (.ifCond .eq 49, 3) := by decide +kernel
theorem dX0_equalEnds_27 : decode cX0_equalEnds 27 = .ok (.aload_n 0, 1) := by decide +kernel
theorem dX0_equalEnds_28 : decode cX0_equalEnds 28 = .ok (.getfield 9, 3) := by decide +kernel
theorem dX0_equalEnds_31 : decode cX0_equalEnds 31 = .ok (.aload_n 0, 1) := by decide +kernel
theorem dX0_equalEnds_32 : decode cX0_equalEnds 32 = .ok (.getfield 38, 3) := by decide +kernel
theorem dX0_equalEnds_35 : decode cX0_equalEnds 35 = .ok (.getfield 111, 3) := by decide +kernel
theorem dX0_equalEnds_38 : decode cX0_equalEnds 38 = .ok (.iconst 2, 1) := by decide +kernel
theorem dX0_equalEnds_39 : decode cX0_equalEnds 39 = .ok (.iload_n 2, 1) := by decide +kernel
theorem dX0_equalEnds_40 : decode cX0_equalEnds 40 = .ok (.imul, 1) := by decide +kernel
theorem dX0_equalEnds_41 : decode cX0_equalEnds 41 = .ok (.iaload, 1) := by decide +kernel
theorem dX0_equalEnds_42 : decode cX0_equalEnds 42 = .ok (.iaload, 1) := by decide +kernel
theorem dX0_equalEnds_43 : decode cX0_equalEnds 43 = .ok (.istore_n 3, 1) := by decide +kernel
theorem dX0_equalEnds_44 : decode cX0_equalEnds 44 = .ok (.iload_n 3, 1) := by decide +kernel
theorem dX0_equalEnds_45 : decode cX0_equalEnds 45 = .ok (.ifCond .eq 28, 3) := by decide +kernel
theorem dX0_equalEnds_48 : decode cX0_equalEnds 48 = .ok (.iload_n 3, 1) := by decide +kernel
theorem dX0_equalEnds_49 : decode cX0_equalEnds 49 = .ok (.aload_n 0, 1) := by decide +kernel
theorem dX0_equalEnds_50 : decode cX0_equalEnds 50 = .ok (.getfield 9, 3) := by decide +kernel
theorem dX0_equalEnds_53 : decode cX0_equalEnds 53 = .ok (.aload_n 0, 1) := by decide +kernel
theorem dX0_equalEnds_54 : decode cX0_equalEnds 54 = .ok (.getfield 38, 3) := by decide +kernel
theorem dX0_equalEnds_57 : decode cX0_equalEnds 57 = .ok (.getfield 111, 3) := by decide +kernel
theorem dX0_equalEnds_60 : decode cX0_equalEnds 60 = .ok (.iconst 2, 1) := by decide +kernel
theorem dX0_equalEnds_61 : decode cX0_equalEnds 61 = .ok (.iload_n 2, 1) := by decide +kernel
theorem dX0_equalEnds_62 : decode cX0_equalEnds 62 = .ok (.imul, 1) := by decide +kernel
theorem dX0_equalEnds_63 : decode cX0_equalEnds 63 = .ok (.iconst 1, 1) := by decide +kernel
theorem dX0_equalEnds_64 : decode cX0_equalEnds 64 = .ok (.iadd, 1) := by decide +kernel
theorem dX0_equalEnds_65 : decode cX0_equalEnds 65 = .ok (.iaload, 1) := by decide +kernel
theorem dX0_equalEnds_66 : decode cX0_equalEnds 66 = .ok (.iaload, 1) := by decide +kernel
theorem dX0_equalEnds_67 : decode cX0_equalEnds 67 = .ok (.if_icmp .ne 6, 3) := by decide +kernel
theorem dX0_equalEnds_70 : decode cX0_equalEnds 70 = .ok (.iinc 1 1, 3) := by decide +kernel
theorem dX0_equalEnds_73 : decode cX0_equalEnds 73 = .ok (.iinc 2 1, 3) := by decide +kernel
theorem dX0_equalEnds_76 : decode cX0_equalEnds 76 = .ok (.goto (-72), 3) := by decide +kernel
theorem dX0_equalEnds_79 : decode cX0_equalEnds 79 = .ok (.iload_n 1, 1) := by decide +kernel
theorem dX0_equalEnds_80 : decode cX0_equalEnds 80 = .ok (.ireturn, 1) := by decide +kernel
theorem dX1_init_0 : decode cX1_init 0 = .ok (.aload_n 0, 1) := by decide +kernel
theorem dX1_init_1 : decode cX1_init 1 = .ok (.invokespecial 3, 3) := by decide +kernel
theorem dX1_init_4 : decode cX1_init 4 = .ok (.aload_n 0, 1) := by decide +kernel
theorem dX1_init_5 : decode cX1_init 5 = .ok (.sipush 200, 3) := by decide +kernel
theorem dX1_init_8 : decode cX1_init 8 = .ok (.newarray .int, 2) := by decide +kernel
theorem dX1_init_10 : decode cX1_init 10 = .ok (.putfield 9, 3) := by decide +kernel
theorem dX1_init_13 : decode cX1_init 13 = .ok (.aload_n 0, 1) := by decide +kernel
theorem dX1_init_14 : decode cX1_init 14 = .ok (.sipush 200, 3) := by decide +kernel
theorem dX1_init_17 : decode cX1_init 17 = .ok (.newarray .int, 2) := by decide +kernel
theorem dX1_init_19 : decode cX1_init 19 = .ok (.putfield 15, 3) := by decide +kernel
theorem dX1_init_22 : decode cX1_init 22 = .ok (.aload_n 0, 1) := by decide +kernel
theorem dX1_init_23 : decode cX1_init 23 = .ok (.sipush 200, 3) := by decide +kernel
theorem dX1_init_26 : decode cX1_init 26 = .ok (.newarray .int, 2) := by decide +kernel
theorem dX1_init_28 : decode cX1_init 28 = .ok (.putfield 18, 3) := by decide +kernel
theorem dX1_init_31 : decode cX1_init 31 = .ok (.aload_n 0, 1) := by decide +kernel
theorem dX1_init_32 : decode cX1_init 32 = .ok (.iconst 0, 1) := by decide +kernel
theorem dX1_init_33 : decode cX1_init 33 = .ok (.putfield 21, 3) := by decide +kernel
theorem dX1_init_36 : decode cX1_init 36 = .ok (.aload_n 0, 1) := by decide +kernel
theorem dX1_init_37 : decode cX1_init 37 = .ok (.aload_n 1, 1) := by decide +kernel
theorem dX1_init_38 : decode cX1_init 38 = .ok (.putfield 25, 3) := by decide +kernel
theorem dX1_init_41 : decode cX1_init 41 = .ok (.return_, 1) := by decide +kernel
theorem dX1_survey_0 : decode cX1_survey 0 = .ok (.iconst 2, 1) := by decide +kernel
theorem dX1_survey_1 : decode cX1_survey 1 = .ok (.aload_n 0, 1) := by decide +kernel
theorem dX1_survey_2 : decode cX1_survey 2 = .ok (.getfield 25, 3) := by decide +kernel
theorem dX1_survey_5 : decode cX1_survey 5 = .ok (.getfield 29, 3) := by decide +kernel
theorem dX1_survey_8 : decode cX1_survey 8 = .ok (.imul, 1) := by decide +kernel
theorem dX1_survey_9 : decode cX1_survey 9 = .ok (.istore_n 1, 1) := by decide +kernel
theorem dX1_survey_10 : decode cX1_survey 10 = .ok (.iconst 0, 1) := by decide +kernel
theorem dX1_survey_11 : decode cX1_survey 11 = .ok (.istore_n 2, 1) := by decide +kernel
theorem dX1_survey_12 : decode cX1_survey 12 = .ok (.iload_n 2, 1) := by decide +kernel
theorem dX1_survey_13 : decode cX1_survey 13 = .ok (.iload_n 1, 1) := by decide +kernel
theorem dX1_survey_14 : decode cX1_survey 14 = .ok (.if_icmp .ge 16, 3) := by decide +kernel
theorem dX1_survey_17 : decode cX1_survey 17 = .ok (.aload_n 0, 1) := by decide +kernel
theorem dX1_survey_18 : decode cX1_survey 18 = .ok (.getfield 9, 3) := by decide +kernel
theorem dX1_survey_21 : decode cX1_survey 21 = .ok (.iload_n 2, 1) := by decide +kernel
theorem dX1_survey_22 : decode cX1_survey 22 = .ok (.iconst (-1), 1) := by decide +kernel
theorem dX1_survey_23 : decode cX1_survey 23 = .ok (.iastore, 1) := by decide +kernel
theorem dX1_survey_24 : decode cX1_survey 24 = .ok (.iinc 2 1, 3) := by decide +kernel
theorem dX1_survey_27 : decode cX1_survey 27 = .ok (.goto (-15), 3) := by decide +kernel
theorem dX1_survey_30 : decode cX1_survey 30 = .ok (.aload_n 0, 1) := by decide +kernel
theorem dX1_survey_31 : decode cX1_survey 31 = .ok (.iconst 0, 1) := by decide +kernel
theorem dX1_survey_32 : decode cX1_survey 32 = .ok (.putfield 21, 3) := by decide +kernel
theorem dX1_survey_35 : decode cX1_survey 35 = .ok (.iconst 0, 1) := by decide +kernel
theorem dX1_survey_36 : decode cX1_survey 36 = .ok (.istore_n 2, 1) := by decide +kernel
theorem dX1_survey_37 : decode cX1_survey 37 = .ok (.iload_n 2, 1) := by decide +kernel
theorem dX1_survey_38 : decode cX1_survey 38 = .ok (.iload_n 1, 1) := by decide +kernel
theorem dX1_survey_39 : decode cX1_survey 39 = .ok (.if_icmp .ge 38, 3) := by decide +kernel
theorem dX1_survey_42 : decode cX1_survey 42 = .ok (.aload_n 0, 1) := by decide +kernel
theorem dX1_survey_43 : decode cX1_survey 43 = .ok (.getfield 25, 3) := by decide +kernel
theorem dX1_survey_46 : decode cX1_survey 46 = .ok (.getfield 34, 3) := by decide +kernel
theorem dX1_survey_49 : decode cX1_survey 49 = .ok (.iload_n 2, 1) := by decide +kernel
theorem dX1_survey_50 : decode cX1_survey 50 = .ok (.iconst 2, 1) := by decide +kernel
theorem dX1_survey_51 : decode cX1_survey 51 = .ok (.idiv, 1) := by decide +kernel
theorem dX1_survey_52 : decode cX1_survey 52 = .ok (.baload, 1) := by decide +kernel
theorem dX1_survey_53 : decode cX1_survey 53 = .ok (.ifCond .eq 18, 3) := by decide +kernel
theorem dX1_survey_56 : decode cX1_survey 56 = .ok (.aload_n 0, 1) := by decide +kernel
theorem dX1_survey_57 : decode cX1_survey 57 = .ok (.getfield 9, 3) := by decide +kernel
theorem dX1_survey_60 : decode cX1_survey 60 = .ok (.iload_n 2, 1) := by decide +kernel
theorem dX1_survey_61 : decode cX1_survey 61 = .ok (.iaload, 1) := by decide +kernel
theorem dX1_survey_62 : decode cX1_survey 62 = .ok (.iconst (-1), 1) := by decide +kernel
theorem dX1_survey_63 : decode cX1_survey 63 = .ok (.if_icmp .ne 8, 3) := by decide +kernel
theorem dX1_survey_66 : decode cX1_survey 66 = .ok (.aload_n 0, 1) := by decide +kernel
theorem dX1_survey_67 : decode cX1_survey 67 = .ok (.iload_n 2, 1) := by decide +kernel
theorem dX1_survey_68 : decode cX1_survey 68 = .ok (.invokevirtual 38, 3) := by decide +kernel
theorem dX1_survey_71 : decode cX1_survey 71 = .ok (.iinc 2 1, 3) := by decide +kernel
theorem dX1_survey_74 : decode cX1_survey 74 = .ok (.goto (-37), 3) := by decide +kernel
theorem dX1_survey_77 : decode cX1_survey 77 = .ok (.return_, 1) := by decide +kernel
theorem dX1_walkFrom_0 : decode cX1_walkFrom 0 = .ok (.iload_n 1, 1) := by decide +kernel
theorem dX1_walkFrom_1 : decode cX1_walkFrom 1 = .ok (.istore_n 2, 1) := by decide +kernel
theorem dX1_walkFrom_2 : decode cX1_walkFrom 2 = .ok (.iconst 0, 1) := by decide +kernel
theorem dX1_walkFrom_3 : decode cX1_walkFrom 3 = .ok (.istore_n 3, 1) := by decide +kernel
theorem dX1_walkFrom_4 : decode cX1_walkFrom 4 = .ok (.aload_n 0, 1) := by decide +kernel
theorem dX1_walkFrom_5 : decode cX1_walkFrom 5 = .ok (.getfield 9, 3) := by decide +kernel
theorem dX1_walkFrom_8 : decode cX1_walkFrom 8 = .ok (.iload_n 2, 1) := by decide +kernel
theorem dX1_walkFrom_9 : decode cX1_walkFrom 9 = .ok (.aload_n 0, 1) := by decide +kernel
theorem dX1_walkFrom_10 : decode cX1_walkFrom 10 = .ok (.getfield 21, 3) := by decide +kernel
theorem dX1_walkFrom_13 : decode cX1_walkFrom 13 = .ok (.iastore, 1) := by decide +kernel
theorem dX1_walkFrom_14 : decode cX1_walkFrom 14 = .ok (.aload_n 0, 1) := by decide +kernel
theorem dX1_walkFrom_15 : decode cX1_walkFrom 15 = .ok (.getfield 25, 3) := by decide +kernel
theorem dX1_walkFrom_18 : decode cX1_walkFrom 18 = .ok (.iload_n 2, 1) := by decide +kernel
theorem dX1_walkFrom_19 : decode cX1_walkFrom 19 = .ok (.invokevirtual 42, 3) := by decide +kernel
theorem dX1_walkFrom_22 : decode cX1_walkFrom 22 = .ok (.istore_n 2, 1) := by decide +kernel
theorem dX1_walkFrom_23 : decode cX1_walkFrom 23 = .ok (.iinc 3 1, 3) := by decide +kernel
theorem dX1_walkFrom_26 : decode cX1_walkFrom 26 = .ok (.iload_n 2, 1) := by decide +kernel
theorem dX1_walkFrom_27 : decode cX1_walkFrom 27 = .ok (.iload_n 1, 1) := by decide +kernel
theorem dX1_walkFrom_28 : decode cX1_walkFrom 28 = .ok (.if_icmp .eq 10, 3) := by decide +kernel
theorem dX1_walkFrom_31 : decode cX1_walkFrom 31 = .ok (.iload_n 3, 1) := by decide +kernel
theorem dX1_walkFrom_32 : decode cX1_walkFrom 32 = .ok (.sipush 200, 3) := by decide +kernel
theorem dX1_walkFrom_35 : decode cX1_walkFrom 35 = .ok (.if_icmp .lt (-31), 3) := by decide +kernel
theorem dX1_walkFrom_38 : decode cX1_walkFrom 38 = .ok (.aload_n 0, 1) := by decide +kernel
theorem dX1_walkFrom_39 : decode cX1_walkFrom 39 = .ok (.getfield 15, 3) := by decide +kernel
theorem dX1_walkFrom_42 : decode cX1_walkFrom 42 = .ok (.aload_n 0, 1) := by decide +kernel
theorem dX1_walkFrom_43 : decode cX1_walkFrom 43 = .ok (.getfield 21, 3) := by decide +kernel
theorem dX1_walkFrom_46 : decode cX1_walkFrom 46 = .ok (.iload_n 1, 1) := by decide +kernel
theorem dX1_walkFrom_47 : decode cX1_walkFrom 47 = .ok (.iastore, 1) := by decide +kernel
theorem dX1_walkFrom_48 : decode cX1_walkFrom 48 = .ok (.aload_n 0, 1) := by decide +kernel
theorem dX1_walkFrom_49 : decode cX1_walkFrom 49 = .ok (.getfield 18, 3) := by decide +kernel
theorem dX1_walkFrom_52 : decode cX1_walkFrom 52 = .ok (.aload_n 0, 1) := by decide +kernel
theorem dX1_walkFrom_53 : decode cX1_walkFrom 53 = .ok (.getfield 21, 3) := by decide +kernel
theorem dX1_walkFrom_56 : decode cX1_walkFrom 56 = .ok (.iload_n 3, 1) := by decide +kernel
theorem dX1_walkFrom_57 : decode cX1_walkFrom 57 = .ok (.iastore, 1) := by decide +kernel
theorem dX1_walkFrom_58 : decode cX1_walkFrom 58 = .ok (.aload_n 0, 1) := by decide +kernel
theorem dX1_walkFrom_59 : decode cX1_walkFrom 59 = .ok (.dup, 1) := by decide +kernel
theorem dX1_walkFrom_60 : decode cX1_walkFrom 60 = .ok (.getfield 21, 3) := by decide +kernel
theorem dX1_walkFrom_63 : decode cX1_walkFrom 63 = .ok (.iconst 1, 1) := by decide +kernel
theorem dX1_walkFrom_64 : decode cX1_walkFrom 64 = .ok (.iadd, 1) := by decide +kernel
theorem dX1_walkFrom_65 : decode cX1_walkFrom 65 = .ok (.putfield 21, 3) := by decide +kernel
theorem dX1_walkFrom_68 : decode cX1_walkFrom 68 = .ok (.return_, 1) := by decide +kernel
theorem dX3_init_0 : decode cX3_init 0 = .ok (.aload_n 0, 1) := by decide +kernel
theorem dX3_init_1 : decode cX3_init 1 = .ok (.invokespecial 3, 3) := by decide +kernel
theorem dX3_init_4 : decode cX3_init 4 = .ok (.aload_n 0, 1) := by decide +kernel
theorem dX3_init_5 : decode cX3_init 5 = .ok (.bipush 30, 2) := by decide +kernel
theorem dX3_init_7 : decode cX3_init 7 = .ok (.newarray .boolean, 2) := by decide +kernel
theorem dX3_init_9 : decode cX3_init 9 = .ok (.putfield 9, 3) := by decide +kernel
theorem dX3_init_12 : decode cX3_init 12 = .ok (.aload_n 0, 1) := by decide +kernel
theorem dX3_init_13 : decode cX3_init 13 = .ok (.bipush 100, 2) := by decide +kernel
theorem dX3_init_15 : decode cX3_init 15 = .ok (.newarray .boolean, 2) := by decide +kernel
theorem dX3_init_17 : decode cX3_init 17 = .ok (.putfield 15, 3) := by decide +kernel
theorem dX3_init_20 : decode cX3_init 20 = .ok (.aload_n 0, 1) := by decide +kernel
theorem dX3_init_21 : decode cX3_init 21 = .ok (.sipush 200, 3) := by decide +kernel
theorem dX3_init_24 : decode cX3_init 24 = .ok (.newarray .boolean, 2) := by decide +kernel
theorem dX3_init_26 : decode cX3_init 26 = .ok (.putfield 18, 3) := by decide +kernel
theorem dX3_init_29 : decode cX3_init 29 = .ok (.aload_n 0, 1) := by decide +kernel
theorem dX3_init_30 : decode cX3_init 30 = .ok (.sipush 200, 3) := by decide +kernel
theorem dX3_init_33 : decode cX3_init 33 = .ok (.newarray .int, 2) := by decide +kernel
theorem dX3_init_35 : decode cX3_init 35 = .ok (.putfield 21, 3) := by decide +kernel
theorem dX3_init_38 : decode cX3_init 38 = .ok (.aload_n 0, 1) := by decide +kernel
theorem dX3_init_39 : decode cX3_init 39 = .ok (.iconst 0, 1) := by decide +kernel
theorem dX3_init_40 : decode cX3_init 40 = .ok (.putfield 25, 3) := by decide +kernel
theorem dX3_init_43 : decode cX3_init 43 = .ok (.aload_n 0, 1) := by decide +kernel
theorem dX3_init_44 : decode cX3_init 44 = .ok (.iconst 0, 1) := by decide +kernel
theorem dX3_init_45 : decode cX3_init 45 = .ok (.putfield 29, 3) := by decide +kernel
theorem dX3_init_48 : decode cX3_init 48 = .ok (.aload_n 0, 1) := by decide +kernel
theorem dX3_init_49 : decode cX3_init 49 = .ok (.iconst 0, 1) := by decide +kernel
theorem dX3_init_50 : decode cX3_init 50 = .ok (.putfield 32, 3) := by decide +kernel
theorem dX3_init_53 : decode cX3_init 53 = .ok (.aload_n 0, 1) := by decide +kernel
theorem dX3_init_54 : decode cX3_init 54 = .ok (.iconst 0, 1) := by decide +kernel
theorem dX3_init_55 : decode cX3_init 55 = .ok (.putfield 35, 3) := by decide +kernel
theorem dX3_init_58 : decode cX3_init 58 = .ok (.aload_n 0, 1) := by decide +kernel
theorem dX3_init_59 : decode cX3_init 59 = .ok (.aload_n 1, 1) := by decide +kernel
theorem dX3_init_60 : decode cX3_init 60 = .ok (.putfield 38, 3) := by decide +kernel
theorem dX3_init_63 : decode cX3_init 63 = .ok (.aload_n 0, 1) := by decide +kernel
theorem dX3_init_64 : decode cX3_init 64 = .ok (.aload_n 2, 1) := by decide +kernel
theorem dX3_init_65 : decode cX3_init 65 = .ok (.putfield 42, 3) := by decide +kernel
theorem dX3_init_68 : decode cX3_init 68 = .ok (.aload_n 0, 1) := by decide +kernel
theorem dX3_init_69 : decode cX3_init 69 = .ok (.aload_n 3, 1) := by decide +kernel
theorem dX3_init_70 : decode cX3_init 70 = .ok (.putfield 46, 3) := by decide +kernel
theorem dX3_init_73 : decode cX3_init 73 = .ok (.return_, 1) := by decide +kernel
theorem dX3_partBy_0 : decode cX3_partBy 0 = .ok (.aload_n 0, 1) := by decide +kernel
theorem dX3_partBy_1 : decode cX3_partBy 1 = .ok (.iload_n 1, 1) := by decide +kernel
theorem dX3_partBy_2 : decode cX3_partBy 2 = .ok (.invokevirtual 50, 3) := by decide +kernel
theorem dX3_partBy_5 : decode cX3_partBy 5 = .ok (.aload_n 0, 1) := by decide +kernel
theorem dX3_partBy_6 : decode cX3_partBy 6 = .ok (.aload_n 0, 1) := by decide +kernel
theorem dX3_partBy_7 : decode cX3_partBy 7 = .ok (.getfield 42, 3) := by decide +kernel
theorem dX3_partBy_10 : decode cX3_partBy 10 = .ok (.getfield 54, 3) := by decide +kernel
theorem dX3_partBy_13 : decode cX3_partBy 13 = .ok (.iconst 2, 1) := by decide +kernel
theorem dX3_partBy_14 : decode cX3_partBy 14 = .ok (.iload_n 1, 1) := by decide +kernel
theorem dX3_partBy_15 : decode cX3_partBy 15 = .ok (.imul, 1) := by decide +kernel
theorem dX3_partBy_16 : decode cX3_partBy 16 = .ok (.iaload, 1) := by decide +kernel
theorem dX3_partBy_17 : decode cX3_partBy 17 = .ok (.invokevirtual 59, 3) := by decide +kernel
theorem dX3_partBy_20 : decode cX3_partBy 20 = .ok (.aload_n 0, 1) := by decide +kernel
theorem dX3_partBy_21 : decode cX3_partBy 21 = .ok (.aload_n 0, 1) := by decide +kernel
theorem dX3_partBy_22 : decode cX3_partBy 22 = .ok (.getfield 46, 3) := by decide +kernel
theorem dX3_partBy_25 : decode cX3_partBy 25 = .ok (.getfield 62, 3) := by decide +kernel
theorem dX3_partBy_28 : decode cX3_partBy 28 = .ok (.aload_n 0, 1) := by decide +kernel
theorem dX3_partBy_29 : decode cX3_partBy 29 = .ok (.getfield 38, 3) := by decide +kernel
theorem dX3_partBy_32 : decode cX3_partBy 32 = .ok (.getfield 67, 3) := by decide +kernel
theorem dX3_partBy_35 : decode cX3_partBy 35 = .ok (.iconst 2, 1) := by decide +kernel
theorem dX3_partBy_36 : decode cX3_partBy 36 = .ok (.iload_n 1, 1) := by decide +kernel
theorem dX3_partBy_37 : decode cX3_partBy 37 = .ok (.imul, 1) := by decide +kernel
theorem dX3_partBy_38 : decode cX3_partBy 38 = .ok (.iaload, 1) := by decide +kernel
theorem dX3_partBy_39 : decode cX3_partBy 39 = .ok (.iaload, 1) := by decide +kernel
theorem dX3_partBy_40 : decode cX3_partBy 40 = .ok (.invokevirtual 72, 3) := by decide +kernel
theorem dX3_partBy_43 : decode cX3_partBy 43 = .ok (.return_, 1) := by decide +kernel
theorem dX3_markCycle_0 : decode cX3_markCycle 0 = .ok (.aload_n 0, 1) := by decide +kernel
theorem dX3_markCycle_1 : decode cX3_markCycle 1 = .ok (.invokevirtual 75, 3) := by decide +kernel
theorem dX3_markCycle_4 : decode cX3_markCycle 4 = .ok (.aload_n 0, 1) := by decide +kernel
theorem dX3_markCycle_5 : decode cX3_markCycle 5 = .ok (.getfield 15, 3) := by decide +kernel
theorem dX3_markCycle_8 : decode cX3_markCycle 8 = .ok (.iload_n 1, 1) := by decide +kernel
theorem dX3_markCycle_9 : decode cX3_markCycle 9 = .ok (.iconst 1, 1) := by decide +kernel
theorem dX3_markCycle_10 : decode cX3_markCycle 10 = .ok (.bastore, 1) := by decide +kernel
theorem dX3_markCycle_11 : decode cX3_markCycle 11 = .ok (.aload_n 0, 1) := by decide +kernel
theorem dX3_markCycle_12 : decode cX3_markCycle 12 = .ok (.getfield 38, 3) := by decide +kernel
theorem dX3_markCycle_15 : decode cX3_markCycle 15 = .ok (.getfield 67, 3) := by decide +kernel
theorem dX3_markCycle_18 : decode cX3_markCycle 18 = .ok (.iconst 2, 1) := by decide +kernel
theorem dX3_markCycle_19 : decode cX3_markCycle 19 = .ok (.iload_n 1, 1) := by decide +kernel
theorem dX3_markCycle_20 : decode cX3_markCycle 20 = .ok (.imul, 1) := by decide +kernel
theorem dX3_markCycle_21 : decode cX3_markCycle 21 = .ok (.iaload, 1) := by decide +kernel
theorem dX3_markCycle_22 : decode cX3_markCycle 22 = .ok (.istore_n 2, 1) := by decide +kernel
theorem dX3_markCycle_23 : decode cX3_markCycle 23 = .ok (.aload_n 0, 1) := by decide +kernel
theorem dX3_markCycle_24 : decode cX3_markCycle 24 = .ok (.getfield 38, 3) := by decide +kernel
theorem dX3_markCycle_27 : decode cX3_markCycle 27 = .ok (.getfield 67, 3) := by decide +kernel
theorem dX3_markCycle_30 : decode cX3_markCycle 30 = .ok (.iconst 2, 1) := by decide +kernel
theorem dX3_markCycle_31 : decode cX3_markCycle 31 = .ok (.iload_n 1, 1) := by decide +kernel
theorem dX3_markCycle_32 : decode cX3_markCycle 32 = .ok (.imul, 1) := by decide +kernel
theorem dX3_markCycle_33 : decode cX3_markCycle 33 = .ok (.iconst 1, 1) := by decide +kernel
theorem dX3_markCycle_34 : decode cX3_markCycle 34 = .ok (.iadd, 1) := by decide +kernel
theorem dX3_markCycle_35 : decode cX3_markCycle 35 = .ok (.iaload, 1) := by decide +kernel
theorem dX3_markCycle_36 : decode cX3_markCycle 36 = .ok (.istore_n 3, 1) := by decide +kernel
theorem dX3_markCycle_37 : decode cX3_markCycle 37 = .ok (.iconst 0, 1) := by decide +kernel
theorem dX3_markCycle_38 : decode cX3_markCycle 38 = .ok (.istore 4, 2) := by decide +kernel
theorem dX3_markCycle_40 : decode cX3_markCycle 40 = .ok (.iload_n 2, 1) := by decide +kernel
theorem dX3_markCycle_41 : decode cX3_markCycle 41 = .ok (.iload_n 3, 1) := by decide +kernel
theorem dX3_markCycle_42 : decode cX3_markCycle 42 = .ok (.if_icmp .eq 52, 3) := by decide +kernel
theorem dX3_markCycle_45 : decode cX3_markCycle 45 = .ok (.iload 4, 2) := by decide +kernel
theorem dX3_markCycle_47 : decode cX3_markCycle 47 = .ok (.bipush 30, 2) := by decide +kernel
theorem dX3_markCycle_49 : decode cX3_markCycle 49 = .ok (.if_icmp .ge 45, 3) := by decide +kernel
theorem dX3_markCycle_52 : decode cX3_markCycle 52 = .ok (.aload_n 0, 1) := by decide +kernel
theorem dX3_markCycle_53 : decode cX3_markCycle 53 = .ok (.getfield 46, 3) := by decide +kernel
theorem dX3_markCycle_56 : decode cX3_markCycle 56 = .ok (.getfield 78, 3) := by decide +kernel
theorem dX3_markCycle_59 : decode cX3_markCycle 59 = .ok (.iload_n 2, 1) := by decide +kernel
theorem dX3_markCycle_60 : decode cX3_markCycle 60 = .ok (.iaload, 1) := by decide +kernel
theorem dX3_markCycle_61 : decode cX3_markCycle 61 = .ok (.aload_n 0, 1) := by decide +kernel
theorem dX3_markCycle_62 : decode cX3_markCycle 62 = .ok (.getfield 46, 3) := by decide +kernel
theorem dX3_markCycle_65 : decode cX3_markCycle 65 = .ok (.getfield 78, 3) := by decide +kernel
theorem dX3_markCycle_68 : decode cX3_markCycle 68 = .ok (.iload_n 3, 1) := by decide +kernel
theorem dX3_markCycle_69 : decode cX3_markCycle 69 = .ok (.iaload, 1) := by decide +kernel
theorem dX3_markCycle_70 : decode cX3_markCycle 70 = .ok (.if_icmp .lt 12, 3) := by decide +kernel
theorem dX3_markCycle_73 : decode cX3_markCycle 73 = .ok (.aload_n 0, 1) := by decide +kernel
theorem dX3_markCycle_74 : decode cX3_markCycle 74 = .ok (.iload_n 2, 1) := by decide +kernel
theorem dX3_markCycle_75 : decode cX3_markCycle 75 = .ok (.invokevirtual 81, 3) := by decide +kernel
theorem dX3_markCycle_78 : decode cX3_markCycle 78 = .ok (.istore_n 2, 1) := by decide +kernel
theorem dX3_markCycle_79 : decode cX3_markCycle 79 = .ok (.goto 9, 3) := by decide +kernel
theorem dX3_markCycle_82 : decode cX3_markCycle 82 = .ok (.aload_n 0, 1) := by decide +kernel
theorem dX3_markCycle_83 : decode cX3_markCycle 83 = .ok (.iload_n 3, 1) := by decide +kernel
theorem dX3_markCycle_84 : decode cX3_markCycle 84 = .ok (.invokevirtual 81, 3) := by decide +kernel
theorem dX3_markCycle_87 : decode cX3_markCycle 87 = .ok (.istore_n 3, 1) := by decide +kernel
theorem dX3_markCycle_88 : decode cX3_markCycle 88 = .ok (.iinc 4 1, 3) := by decide +kernel
theorem dX3_markCycle_91 : decode cX3_markCycle 91 = .ok (.goto (-51), 3) := by decide +kernel
theorem dX3_markCycle_94 : decode cX3_markCycle 94 = .ok (.aload_n 0, 1) := by decide +kernel
theorem dX3_markCycle_95 : decode cX3_markCycle 95 = .ok (.getfield 9, 3) := by decide +kernel
theorem dX3_markCycle_98 : decode cX3_markCycle 98 = .ok (.iload_n 2, 1) := by decide +kernel
theorem dX3_markCycle_99 : decode cX3_markCycle 99 = .ok (.iconst 1, 1) := by decide +kernel
theorem dX3_markCycle_100 : decode cX3_markCycle 100 = .ok (.bastore, 1) := by decide +kernel
theorem dX3_markCycle_101 : decode cX3_markCycle 101 = .ok (.aload_n 0, 1) := by decide +kernel
theorem dX3_markCycle_102 : decode cX3_markCycle 102 = .ok (.dup, 1) := by decide +kernel
theorem dX3_markCycle_103 : decode cX3_markCycle 103 = .ok (.getfield 29, 3) := by decide +kernel
theorem dX3_markCycle_106 : decode cX3_markCycle 106 = .ok (.iconst 1, 1) := by decide +kernel
theorem dX3_markCycle_107 : decode cX3_markCycle 107 = .ok (.iadd, 1) := by decide +kernel
theorem dX3_markCycle_108 : decode cX3_markCycle 108 = .ok (.putfield 29, 3) := by decide +kernel
theorem dX3_markCycle_111 : decode cX3_markCycle 111 = .ok (.return_, 1) := by decide +kernel
theorem dX3_unmarkCycle_0 : decode cX3_unmarkCycle 0 = .ok (.iconst 0, 1) := by decide +kernel
theorem dX3_unmarkCycle_1 : decode cX3_unmarkCycle 1 = .ok (.istore_n 1, 1) := by decide +kernel
theorem dX3_unmarkCycle_2 : decode cX3_unmarkCycle 2 = .ok (.iload_n 1, 1) := by decide +kernel
theorem dX3_unmarkCycle_3 : decode cX3_unmarkCycle 3 = .ok (.aload_n 0, 1) := by decide +kernel
theorem dX3_unmarkCycle_4 : decode cX3_unmarkCycle 4 = .ok (.getfield 38, 3) := by decide +kernel
theorem dX3_unmarkCycle_7 : decode cX3_unmarkCycle 7 = .ok (.getfield 85, 3) := by decide +kernel
theorem dX3_unmarkCycle_10 : decode cX3_unmarkCycle 10 = .ok (.if_icmp .ge 16, 3) := by decide +kernel
theorem dX3_unmarkCycle_13 : decode cX3_unmarkCycle 13 = .ok (.aload_n 0, 1) := by decide +kernel
theorem dX3_unmarkCycle_14 : decode cX3_unmarkCycle 14 = .ok (.getfield 9, 3) := by decide +kernel
theorem dX3_unmarkCycle_17 : decode cX3_unmarkCycle 17 = .ok (.iload_n 1, 1) := by decide +kernel
theorem dX3_unmarkCycle_18 : decode cX3_unmarkCycle 18 = .ok (.iconst 0, 1) := by decide +kernel
theorem dX3_unmarkCycle_19 : decode cX3_unmarkCycle 19 = .ok (.bastore, 1) := by decide +kernel
theorem dX3_unmarkCycle_20 : decode cX3_unmarkCycle 20 = .ok (.iinc 1 1, 3) := by decide +kernel
theorem dX3_unmarkCycle_23 : decode cX3_unmarkCycle 23 = .ok (.goto (-21), 3) := by decide +kernel
theorem dX3_unmarkCycle_26 : decode cX3_unmarkCycle 26 = .ok (.iconst 0, 1) := by decide +kernel
theorem dX3_unmarkCycle_27 : decode cX3_unmarkCycle 27 = .ok (.istore_n 1, 1) := by decide +kernel
theorem dX3_unmarkCycle_28 : decode cX3_unmarkCycle 28 = .ok (.iload_n 1, 1) := by decide +kernel
theorem dX3_unmarkCycle_29 : decode cX3_unmarkCycle 29 = .ok (.aload_n 0, 1) := by decide +kernel
theorem dX3_unmarkCycle_30 : decode cX3_unmarkCycle 30 = .ok (.getfield 38, 3) := by decide +kernel
theorem dX3_unmarkCycle_33 : decode cX3_unmarkCycle 33 = .ok (.getfield 88, 3) := by decide +kernel
theorem dX3_unmarkCycle_36 : decode cX3_unmarkCycle 36 = .ok (.if_icmp .ge 16, 3) := by decide +kernel
theorem dX3_unmarkCycle_39 : decode cX3_unmarkCycle 39 = .ok (.aload_n 0, 1) := by decide +kernel
theorem dX3_unmarkCycle_40 : decode cX3_unmarkCycle 40 = .ok (.getfield 15, 3) := by decide +kernel
theorem dX3_unmarkCycle_43 : decode cX3_unmarkCycle 43 = .ok (.iload_n 1, 1) := by decide +kernel
theorem dX3_unmarkCycle_44 : decode cX3_unmarkCycle 44 = .ok (.iconst 0, 1) := by decide +kernel
theorem dX3_unmarkCycle_45 : decode cX3_unmarkCycle 45 = .ok (.bastore, 1) := by decide +kernel
theorem dX3_unmarkCycle_46 : decode cX3_unmarkCycle 46 = .ok (.iinc 1 1, 3) := by decide +kernel
theorem dX3_unmarkCycle_49 : decode cX3_unmarkCycle 49 = .ok (.goto (-21), 3) := by decide +kernel
theorem dX3_unmarkCycle_52 : decode cX3_unmarkCycle 52 = .ok (.aload_n 0, 1) := by decide +kernel
theorem dX3_unmarkCycle_53 : decode cX3_unmarkCycle 53 = .ok (.iconst 0, 1) := by decide +kernel
theorem dX3_unmarkCycle_54 : decode cX3_unmarkCycle 54 = .ok (.putfield 29, 3) := by decide +kernel
theorem dX3_unmarkCycle_57 : decode cX3_unmarkCycle 57 = .ok (.return_, 1) := by decide +kernel
theorem dX3_climbFrom_0 : decode cX3_climbFrom 0 = .ok (.aload_n 0, 1) := by decide +kernel
theorem dX3_climbFrom_1 : decode cX3_climbFrom 1 = .ok (.getfield 9, 3) := by decide +kernel
theorem dX3_climbFrom_4 : decode cX3_climbFrom 4 = .ok (.iload_n 1, 1) := by decide +kernel
theorem dX3_climbFrom_5 : decode cX3_climbFrom 5 = .ok (.iconst 1, 1) := by decide +kernel
theorem dX3_climbFrom_6 : decode cX3_climbFrom 6 = .ok (.bastore, 1) := by decide +kernel
theorem dX3_climbFrom_7 : decode cX3_climbFrom 7 = .ok (.aload_n 0, 1) := by decide +kernel
theorem dX3_climbFrom_8 : decode cX3_climbFrom 8 = .ok (.getfield 15, 3) := by decide +kernel
theorem dX3_climbFrom_11 : decode cX3_climbFrom 11 = .ok (.aload_n 0, 1) := by decide +kernel
theorem dX3_climbFrom_12 : decode cX3_climbFrom 12 = .ok (.getfield 46, 3) := by decide +kernel
theorem dX3_climbFrom_15 : decode cX3_climbFrom 15 = .ok (.getfield 91, 3) := by decide +kernel
theorem dX3_climbFrom_18 : decode cX3_climbFrom 18 = .ok (.iload_n 1, 1) := by decide +kernel
theorem dX3_climbFrom_19 : decode cX3_climbFrom 19 = .ok (.iaload, 1) := by decide +kernel
theorem dX3_climbFrom_20 : decode cX3_climbFrom 20 = .ok (.iconst 1, 1) := by decide +kernel
theorem dX3_climbFrom_21 : decode cX3_climbFrom 21 = .ok (.bastore, 1) := by decide +kernel
theorem dX3_climbFrom_22 : decode cX3_climbFrom 22 = .ok (.aload_n 0, 1) := by decide +kernel
theorem dX3_climbFrom_23 : decode cX3_climbFrom 23 = .ok (.dup, 1) := by decide +kernel
theorem dX3_climbFrom_24 : decode cX3_climbFrom 24 = .ok (.getfield 29, 3) := by decide +kernel
theorem dX3_climbFrom_27 : decode cX3_climbFrom 27 = .ok (.iconst 1, 1) := by decide +kernel
theorem dX3_climbFrom_28 : decode cX3_climbFrom 28 = .ok (.iadd, 1) := by decide +kernel
theorem dX3_climbFrom_29 : decode cX3_climbFrom 29 = .ok (.putfield 29, 3) := by decide +kernel
theorem dX3_climbFrom_32 : decode cX3_climbFrom 32 = .ok (.aload_n 0, 1) := by decide +kernel
theorem dX3_climbFrom_33 : decode cX3_climbFrom 33 = .ok (.getfield 46, 3) := by decide +kernel
theorem dX3_climbFrom_36 : decode cX3_climbFrom 36 = .ok (.getfield 94, 3) := by decide +kernel
theorem dX3_climbFrom_39 : decode cX3_climbFrom 39 = .ok (.iload_n 1, 1) := by decide +kernel
theorem dX3_climbFrom_40 : decode cX3_climbFrom 40 = .ok (.iaload, 1) := by decide +kernel
theorem dX3_climbFrom_41 : decode cX3_climbFrom 41 = .ok (.ireturn, 1) := by decide +kernel
theorem dX3_markFacesInside_0 : decode cX3_markFacesInside 0 = .ok (.iconst 0, 1) := by decide +kernel
theorem dX3_markFacesInside_1 : decode cX3_markFacesInside 1 = .ok (.istore_n 2, 1) := by decide +kernel
theorem dX3_markFacesInside_2 : decode cX3_markFacesInside 2 = .ok (.iload_n 2, 1) := by decide +kernel
theorem dX3_markFacesInside_3 : decode cX3_markFacesInside 3 = .ok (.aload_n 0, 1) := by decide +kernel
theorem dX3_markFacesInside_4 : decode cX3_markFacesInside 4 = .ok (.getfield 42, 3) := by decide +kernel
theorem dX3_markFacesInside_7 : decode cX3_markFacesInside 7 = .ok (.getfield 97, 3) := by decide +kernel
theorem dX3_markFacesInside_10 : decode cX3_markFacesInside 10 = .ok (.if_icmp .ge 16, 3) := by decide +kernel
theorem dX3_markFacesInside_13 : decode cX3_markFacesInside 13 = .ok (.aload_n 0, 1) := by decide +kernel
theorem dX3_markFacesInside_14 : decode cX3_markFacesInside 14 = .ok (.getfield 18, 3) := by decide +kernel
theorem dX3_markFacesInside_17 : decode cX3_markFacesInside 17 = .ok (.iload_n 2, 1) := by decide +kernel
theorem dX3_markFacesInside_18 : decode cX3_markFacesInside 18 = .ok (.iconst 0, 1) := by decide +kernel
theorem dX3_markFacesInside_19 : decode cX3_markFacesInside 19 = .ok (.bastore, 1) := by decide +kernel
theorem dX3_markFacesInside_20 : decode cX3_markFacesInside 20 = .ok (.iinc 2 1, 3) := by decide +kernel
theorem dX3_markFacesInside_23 : decode cX3_markFacesInside 23 = .ok (.goto (-21), 3) := by decide +kernel
theorem dX3_markFacesInside_26 : decode cX3_markFacesInside 26 = .ok (.aload_n 0, 1) := by decide +kernel
theorem dX3_markFacesInside_27 : decode cX3_markFacesInside 27 = .ok (.iconst 0, 1) := by decide +kernel
theorem dX3_markFacesInside_28 : decode cX3_markFacesInside 28 = .ok (.putfield 25, 3) := by decide +kernel
theorem dX3_markFacesInside_31 : decode cX3_markFacesInside 31 = .ok (.aload_n 0, 1) := by decide +kernel
theorem dX3_markFacesInside_32 : decode cX3_markFacesInside 32 = .ok (.iload_n 1, 1) := by decide +kernel
theorem dX3_markFacesInside_33 : decode cX3_markFacesInside 33 = .ok (.invokevirtual 100, 3) := by decide +kernel
theorem dX3_markFacesInside_36 : decode cX3_markFacesInside 36 = .ok (.iconst 0, 1) := by decide +kernel
theorem dX3_markFacesInside_37 : decode cX3_markFacesInside 37 = .ok (.istore_n 2, 1) := by decide +kernel
theorem dX3_markFacesInside_38 : decode cX3_markFacesInside 38 = .ok (.iload_n 2, 1) := by decide +kernel
theorem dX3_markFacesInside_39 : decode cX3_markFacesInside 39 = .ok (.aload_n 0, 1) := by decide +kernel
theorem dX3_markFacesInside_40 : decode cX3_markFacesInside 40 = .ok (.getfield 25, 3) := by decide +kernel
theorem dX3_markFacesInside_43 : decode cX3_markFacesInside 43 = .ok (.if_icmp .ge 26, 3) := by decide +kernel
theorem dX3_markFacesInside_46 : decode cX3_markFacesInside 46 = .ok (.iload_n 2, 1) := by decide +kernel
theorem dX3_markFacesInside_47 : decode cX3_markFacesInside 47 = .ok (.sipush 200, 3) := by decide +kernel
theorem dX3_markFacesInside_50 : decode cX3_markFacesInside 50 = .ok (.if_icmp .ge 19, 3) := by decide +kernel
theorem dX3_markFacesInside_53 : decode cX3_markFacesInside 53 = .ok (.aload_n 0, 1) := by decide +kernel
theorem dX3_markFacesInside_54 : decode cX3_markFacesInside 54 = .ok (.aload_n 0, 1) := by decide +kernel
theorem dX3_markFacesInside_55 : decode cX3_markFacesInside 55 = .ok (.getfield 21, 3) := by decide +kernel
theorem dX3_markFacesInside_58 : decode cX3_markFacesInside 58 = .ok (.iload_n 2, 1) := by decide +kernel
theorem dX3_markFacesInside_59 : decode cX3_markFacesInside 59 = .ok (.iaload, 1) := by decide +kernel
theorem dX3_markFacesInside_60 : decode cX3_markFacesInside 60 = .ok (.invokevirtual 103, 3) := by decide +kernel
theorem dX3_markFacesInside_63 : decode cX3_markFacesInside 63 = .ok (.iinc 2 1, 3) := by decide +kernel
theorem dX3_markFacesInside_66 : decode cX3_markFacesInside 66 = .ok (.goto (-28), 3) := by decide +kernel
theorem dX3_markFacesInside_69 : decode cX3_markFacesInside 69 = .ok (.return_, 1) := by decide +kernel
theorem dX3_addFacesBeside_0 : decode cX3_addFacesBeside 0 = .ok (.aload_n 0, 1) := by decide +kernel
theorem dX3_addFacesBeside_1 : decode cX3_addFacesBeside 1 = .ok (.getfield 42, 3) := by decide +kernel
theorem dX3_addFacesBeside_4 : decode cX3_addFacesBeside 4 = .ok (.getfield 106, 3) := by decide +kernel
theorem dX3_addFacesBeside_7 : decode cX3_addFacesBeside 7 = .ok (.iload_n 1, 1) := by decide +kernel
theorem dX3_addFacesBeside_8 : decode cX3_addFacesBeside 8 = .ok (.iaload, 1) := by decide +kernel
theorem dX3_addFacesBeside_9 : decode cX3_addFacesBeside 9 = .ok (.istore_n 2, 1) := by decide +kernel
theorem dX3_addFacesBeside_10 : decode cX3_addFacesBeside 10 = .ok (.iconst 0, 1) := by decide +kernel
theorem dX3_addFacesBeside_11 : decode cX3_addFacesBeside 11 = .ok (.istore_n 3, 1) := by decide +kernel
theorem dX3_addFacesBeside_12 : decode cX3_addFacesBeside 12 = .ok (.iload_n 3, 1) := by decide +kernel
theorem dX3_addFacesBeside_13 : decode cX3_addFacesBeside 13 = .ok (.aload_n 0, 1) := by decide +kernel
theorem dX3_addFacesBeside_14 : decode cX3_addFacesBeside 14 = .ok (.getfield 42, 3) := by decide +kernel
theorem dX3_addFacesBeside_17 : decode cX3_addFacesBeside 17 = .ok (.getfield 109, 3) := by decide +kernel
theorem dX3_addFacesBeside_20 : decode cX3_addFacesBeside 20 = .ok (.iload_n 1, 1) := by decide +kernel
theorem dX3_addFacesBeside_21 : decode cX3_addFacesBeside 21 = .ok (.iaload, 1) := by decide +kernel
theorem dX3_addFacesBeside_22 : decode cX3_addFacesBeside 22 = .ok (.if_icmp .ge 58, 3) := by decide +kernel
theorem dX3_addFacesBeside_25 : decode cX3_addFacesBeside 25 = .ok (.aload_n 0, 1) := by decide +kernel
theorem dX3_addFacesBeside_26 : decode cX3_addFacesBeside 26 = .ok (.getfield 42, 3) := by decide +kernel
theorem dX3_addFacesBeside_29 : decode cX3_addFacesBeside 29 = .ok (.getfield 54, 3) := by decide +kernel
theorem dX3_addFacesBeside_32 : decode cX3_addFacesBeside 32 = .ok (.iload_n 2, 1) := by decide +kernel
theorem dX3_addFacesBeside_33 : decode cX3_addFacesBeside 33 = .ok (.iconst 1, 1) := by decide +kernel
theorem dX3_addFacesBeside_34 : decode cX3_addFacesBeside 34 = .ok (.ixor, 1) := by decide +kernel
theorem dX3_addFacesBeside_35 : decode cX3_addFacesBeside 35 = .ok (.iaload, 1) := by decide +kernel
theorem dX3_addFacesBeside_36 : decode cX3_addFacesBeside 36 = .ok (.istore 4, 2) := by decide +kernel
theorem dX3_addFacesBeside_38 : decode cX3_addFacesBeside 38 = .ok (.aload_n 0, 1) := by decide +kernel
theorem dX3_addFacesBeside_39 : decode cX3_addFacesBeside 39 = .ok (.getfield 15, 3) := by decide +kernel
theorem dX3_addFacesBeside_42 : decode cX3_addFacesBeside 42 = .ok (.iload_n 2, 1) := by decide +kernel
theorem dX3_addFacesBeside_43 : decode cX3_addFacesBeside 43 = .ok (.iconst 2, 1) := by decide +kernel
theorem dX3_addFacesBeside_44 : decode cX3_addFacesBeside 44 = .ok (.idiv, 1) := by decide +kernel
theorem dX3_addFacesBeside_45 : decode cX3_addFacesBeside 45 = .ok (.baload, 1) := by decide +kernel
theorem dX3_addFacesBeside_46 : decode cX3_addFacesBeside 46 = .ok (.ifCond .ne 19, 3) := by decide +kernel
theorem dX3_addFacesBeside_49 : decode cX3_addFacesBeside 49 = .ok (.aload_n 0, 1) := by decide +kernel
theorem dX3_addFacesBeside_50 : decode cX3_addFacesBeside 50 = .ok (.getfield 18, 3) := by decide +kernel
theorem dX3_addFacesBeside_53 : decode cX3_addFacesBeside 53 = .ok (.iload 4, 2) := by decide +kernel
theorem dX3_addFacesBeside_55 : decode cX3_addFacesBeside 55 = .ok (.baload, 1) := by decide +kernel
theorem dX3_addFacesBeside_56 : decode cX3_addFacesBeside 56 = .ok (.ifCond .ne 9, 3) := by decide +kernel
theorem dX3_addFacesBeside_59 : decode cX3_addFacesBeside 59 = .ok (.aload_n 0, 1) := by decide +kernel
theorem dX3_addFacesBeside_60 : decode cX3_addFacesBeside 60 = .ok (.iload 4, 2) := by decide +kernel
theorem dX3_addFacesBeside_62 : decode cX3_addFacesBeside 62 = .ok (.invokevirtual 100, 3) := by decide +kernel
theorem dX3_addFacesBeside_65 : decode cX3_addFacesBeside 65 = .ok (.aload_n 0, 1) := by decide +kernel
theorem dX3_addFacesBeside_66 : decode cX3_addFacesBeside 66 = .ok (.getfield 38, 3) := by decide +kernel
theorem dX3_addFacesBeside_69 : decode cX3_addFacesBeside 69 = .ok (.iload_n 2, 1) := by decide +kernel
theorem dX3_addFacesBeside_70 : decode cX3_addFacesBeside 70 = .ok (.invokevirtual 112, 3) := by decide +kernel
theorem dX3_addFacesBeside_73 : decode cX3_addFacesBeside 73 = .ok (.istore_n 2, 1) := by decide +kernel
theorem dX3_addFacesBeside_74 : decode cX3_addFacesBeside 74 = .ok (.iinc 3 1, 3) := by decide +kernel
theorem dX3_addFacesBeside_77 : decode cX3_addFacesBeside 77 = .ok (.goto (-65), 3) := by decide +kernel
theorem dX3_addFacesBeside_80 : decode cX3_addFacesBeside 80 = .ok (.return_, 1) := by decide +kernel
theorem dX3_addInside_0 : decode cX3_addInside 0 = .ok (.aload_n 0, 1) := by decide +kernel
theorem dX3_addInside_1 : decode cX3_addInside 1 = .ok (.getfield 18, 3) := by decide +kernel
theorem dX3_addInside_4 : decode cX3_addInside 4 = .ok (.iload_n 1, 1) := by decide +kernel
theorem dX3_addInside_5 : decode cX3_addInside 5 = .ok (.iconst 1, 1) := by decide +kernel
theorem dX3_addInside_6 : decode cX3_addInside 6 = .ok (.bastore, 1) := by decide +kernel
theorem dX3_addInside_7 : decode cX3_addInside 7 = .ok (.aload_n 0, 1) := by decide +kernel
theorem dX3_addInside_8 : decode cX3_addInside 8 = .ok (.getfield 21, 3) := by decide +kernel
theorem dX3_addInside_11 : decode cX3_addInside 11 = .ok (.aload_n 0, 1) := by decide +kernel
theorem dX3_addInside_12 : decode cX3_addInside 12 = .ok (.getfield 25, 3) := by decide +kernel
theorem dX3_addInside_15 : decode cX3_addInside 15 = .ok (.iload_n 1, 1) := by decide +kernel
theorem dX3_addInside_16 : decode cX3_addInside 16 = .ok (.iastore, 1) := by decide +kernel
theorem dX3_addInside_17 : decode cX3_addInside 17 = .ok (.aload_n 0, 1) := by decide +kernel
theorem dX3_addInside_18 : decode cX3_addInside 18 = .ok (.dup, 1) := by decide +kernel
theorem dX3_addInside_19 : decode cX3_addInside 19 = .ok (.getfield 25, 3) := by decide +kernel
theorem dX3_addInside_22 : decode cX3_addInside 22 = .ok (.iconst 1, 1) := by decide +kernel
theorem dX3_addInside_23 : decode cX3_addInside 23 = .ok (.iadd, 1) := by decide +kernel
theorem dX3_addInside_24 : decode cX3_addInside 24 = .ok (.putfield 25, 3) := by decide +kernel
theorem dX3_addInside_27 : decode cX3_addInside 27 = .ok (.return_, 1) := by decide +kernel
theorem dX3_countVertices_0 : decode cX3_countVertices 0 = .ok (.aload_n 0, 1) := by decide +kernel
theorem dX3_countVertices_1 : decode cX3_countVertices 1 = .ok (.iconst 0, 1) := by decide +kernel
theorem dX3_countVertices_2 : decode cX3_countVertices 2 = .ok (.putfield 32, 3) := by decide +kernel
theorem dX3_countVertices_5 : decode cX3_countVertices 5 = .ok (.aload_n 0, 1) := by decide +kernel
theorem dX3_countVertices_6 : decode cX3_countVertices 6 = .ok (.iconst 0, 1) := by decide +kernel
theorem dX3_countVertices_7 : decode cX3_countVertices 7 = .ok (.putfield 35, 3) := by decide +kernel
theorem dX3_countVertices_10 : decode cX3_countVertices 10 = .ok (.iconst 0, 1) := by decide +kernel
theorem dX3_countVertices_11 : decode cX3_countVertices 11 = .ok (.istore_n 2, 1) := by decide +kernel
theorem dX3_countVertices_12 : decode cX3_countVertices 12 = .ok (.iload_n 2, 1) := by decide +kernel
theorem dX3_countVertices_13 : decode cX3_countVertices 13 = .ok (.aload_n 0, 1) := by decide +kernel
theorem dX3_countVertices_14 : decode cX3_countVertices 14 = .ok (.getfield 38, 3) := by decide +kernel
theorem dX3_countVertices_17 : decode cX3_countVertices 17 = .ok (.getfield 85, 3) := by decide +kernel
theorem dX3_countVertices_20 : decode cX3_countVertices 20 = .ok (.if_icmp .ge 82, 3) := by decide +kernel
theorem dX3_countVertices_23 : decode cX3_countVertices 23 = .ok (.aload_n 0, 1) := by decide +kernel
theorem dX3_countVertices_24 : decode cX3_countVertices 24 = .ok (.getfield 46, 3) := by decide +kernel
theorem dX3_countVertices_27 : decode cX3_countVertices 27 = .ok (.getfield 62, 3) := by decide +kernel
theorem dX3_countVertices_30 : decode cX3_countVertices 30 = .ok (.iload_n 2, 1) := by decide +kernel
theorem dX3_countVertices_31 : decode cX3_countVertices 31 = .ok (.iaload, 1) := by decide +kernel
theorem dX3_countVertices_32 : decode cX3_countVertices 32 = .ok (.iload_n 1, 1) := by decide +kernel
theorem dX3_countVertices_33 : decode cX3_countVertices 33 = .ok (.if_icmp .ne 63, 3) := by decide +kernel
theorem dX3_countVertices_36 : decode cX3_countVertices 36 = .ok (.aload_n 0, 1) := by decide +kernel
theorem dX3_countVertices_37 : decode cX3_countVertices 37 = .ok (.getfield 9, 3) := by decide +kernel
theorem dX3_countVertices_40 : decode cX3_countVertices 40 = .ok (.iload_n 2, 1) := by decide +kernel
theorem dX3_countVertices_41 : decode cX3_countVertices 41 = .ok (.baload, 1) := by decide +kernel
theorem dX3_countVertices_42 : decode cX3_countVertices 42 = .ok (.ifCond .eq 6, 3) := by decide +kernel
theorem dX3_countVertices_45 : decode cX3_countVertices 45 = .ok (.goto 51, 3) := by decide +kernel
theorem dX3_countVertices_48 : decode cX3_countVertices 48 = .ok (.aload_n 0, 1) := by decide +kernel
theorem dX3_countVertices_49 : decode cX3_countVertices 49 = .ok (.getfield 18, 3) := by decide +kernel
theorem dX3_countVertices_52 : decode cX3_countVertices 52 = .ok (.aload_n 0, 1) := by decide +kernel
theorem dX3_countVertices_53 : decode cX3_countVertices 53 = .ok (.getfield 42, 3) := by decide +kernel
theorem dX3_countVertices_56 : decode cX3_countVertices 56 = .ok (.getfield 54, 3) := by decide +kernel
theorem dX3_countVertices_59 : decode cX3_countVertices 59 = .ok (.aload_n 0, 1) := by decide +kernel
theorem dX3_countVertices_60 : decode cX3_countVertices 60 = .ok (.getfield 38, 3) := by decide +kernel
theorem dX3_countVertices_63 : decode cX3_countVertices 63 = .ok (.getfield 115, 3) := by decide +kernel
theorem dX3_countVertices_66 : decode cX3_countVertices 66 = .ok (.iload_n 2, 1) := by decide +kernel
theorem dX3_countVertices_67 : decode cX3_countVertices 67 = .ok (.iaload, 1) := by decide +kernel
theorem dX3_countVertices_68 : decode cX3_countVertices 68 = .ok (.iaload, 1) := by decide +kernel
theorem dX3_countVertices_69 : decode cX3_countVertices 69 = .ok (.baload, 1) := by decide +kernel
theorem dX3_countVertices_70 : decode cX3_countVertices 70 = .ok (.ifCond .eq 16, 3) := by decide +kernel
theorem dX3_countVertices_73 : decode cX3_countVertices 73 = .ok (.aload_n 0, 1) := by decide +kernel
theorem dX3_countVertices_74 : decode cX3_countVertices 74 = .ok (.dup, 1) := by decide +kernel
theorem dX3_countVertices_75 : decode cX3_countVertices 75 = .ok (.getfield 32, 3) := by decide +kernel
theorem dX3_countVertices_78 : decode cX3_countVertices 78 = .ok (.iconst 1, 1) := by decide +kernel
theorem dX3_countVertices_79 : decode cX3_countVertices 79 = .ok (.iadd, 1) := by decide +kernel
theorem dX3_countVertices_80 : decode cX3_countVertices 80 = .ok (.putfield 32, 3) := by decide +kernel
theorem dX3_countVertices_83 : decode cX3_countVertices 83 = .ok (.goto 13, 3) := by decide +kernel
theorem dX3_countVertices_86 : decode cX3_countVertices 86 = .ok (.aload_n 0, 1) := by decide +kernel
theorem dX3_countVertices_87 : decode cX3_countVertices 87 = .ok (.dup, 1) := by decide +kernel
theorem dX3_countVertices_88 : decode cX3_countVertices 88 = .ok (.getfield 35, 3) := by decide +kernel
theorem dX3_countVertices_91 : decode cX3_countVertices 91 = .ok (.iconst 1, 1) := by decide +kernel
theorem dX3_countVertices_92 : decode cX3_countVertices 92 = .ok (.iadd, 1) := by decide +kernel
theorem dX3_countVertices_93 : decode cX3_countVertices 93 = .ok (.putfield 35, 3) := by decide +kernel
theorem dX3_countVertices_96 : decode cX3_countVertices 96 = .ok (.iinc 2 1, 3) := by decide +kernel
theorem dX3_countVertices_99 : decode cX3_countVertices 99 = .ok (.goto (-87), 3) := by decide +kernel
theorem dX3_countVertices_102 : decode cX3_countVertices 102 = .ok (.return_, 1) := by decide +kernel
theorem dX4_init_0 : decode cX4_init 0 = .ok (.aload_n 0, 1) := by decide +kernel
theorem dX4_init_1 : decode cX4_init 1 = .ok (.invokespecial 3, 3) := by decide +kernel
theorem dX4_init_4 : decode cX4_init 4 = .ok (.aload_n 0, 1) := by decide +kernel
theorem dX4_init_5 : decode cX4_init 5 = .ok (.bipush 30, 2) := by decide +kernel
theorem dX4_init_7 : decode cX4_init 7 = .ok (.newarray .int, 2) := by decide +kernel
theorem dX4_init_9 : decode cX4_init 9 = .ok (.putfield 9, 3) := by decide +kernel
theorem dX4_init_12 : decode cX4_init 12 = .ok (.aload_n 0, 1) := by decide +kernel
theorem dX4_init_13 : decode cX4_init 13 = .ok (.bipush 30, 2) := by decide +kernel
theorem dX4_init_15 : decode cX4_init 15 = .ok (.newarray .int, 2) := by decide +kernel
theorem dX4_init_17 : decode cX4_init 17 = .ok (.putfield 15, 3) := by decide +kernel
theorem dX4_init_20 : decode cX4_init 20 = .ok (.aload_n 0, 1) := by decide +kernel
theorem dX4_init_21 : decode cX4_init 21 = .ok (.bipush 30, 2) := by decide +kernel
theorem dX4_init_23 : decode cX4_init 23 = .ok (.newarray .int, 2) := by decide +kernel
theorem dX4_init_25 : decode cX4_init 25 = .ok (.putfield 18, 3) := by decide +kernel
theorem dX4_init_28 : decode cX4_init 28 = .ok (.aload_n 0, 1) := by decide +kernel
theorem dX4_init_29 : decode cX4_init 29 = .ok (.bipush 30, 2) := by decide +kernel
theorem dX4_init_31 : decode cX4_init 31 = .ok (.newarray .int, 2) := by decide +kernel
theorem dX4_init_33 : decode cX4_init 33 = .ok (.putfield 21, 3) := by decide +kernel
theorem dX4_init_36 : decode cX4_init 36 = .ok (.aload_n 0, 1) := by decide +kernel
theorem dX4_init_37 : decode cX4_init 37 = .ok (.bipush 30, 2) := by decide +kernel
theorem dX4_init_39 : decode cX4_init 39 = .ok (.newarray .int, 2) := by decide +kernel
theorem dX4_init_41 : decode cX4_init 41 = .ok (.putfield 24, 3) := by decide +kernel
theorem dX4_init_44 : decode cX4_init 44 = .ok (.aload_n 0, 1) := by decide +kernel
theorem dX4_init_45 : decode cX4_init 45 = .ok (.iconst 0, 1) := by decide +kernel
theorem dX4_init_46 : decode cX4_init 46 = .ok (.putfield 27, 3) := by decide +kernel
theorem dX4_init_49 : decode cX4_init 49 = .ok (.aload_n 0, 1) := by decide +kernel
theorem dX4_init_50 : decode cX4_init 50 = .ok (.iconst 0, 1) := by decide +kernel
theorem dX4_init_51 : decode cX4_init 51 = .ok (.putfield 31, 3) := by decide +kernel
theorem dX4_init_54 : decode cX4_init 54 = .ok (.aload_n 0, 1) := by decide +kernel
theorem dX4_init_55 : decode cX4_init 55 = .ok (.aload_n 1, 1) := by decide +kernel
theorem dX4_init_56 : decode cX4_init 56 = .ok (.putfield 34, 3) := by decide +kernel
theorem dX4_init_59 : decode cX4_init 59 = .ok (.return_, 1) := by decide +kernel
theorem dX4_survey_0 : decode cX4_survey 0 = .ok (.iconst 0, 1) := by decide +kernel
theorem dX4_survey_1 : decode cX4_survey 1 = .ok (.istore_n 1, 1) := by decide +kernel
theorem dX4_survey_2 : decode cX4_survey 2 = .ok (.iload_n 1, 1) := by decide +kernel
theorem dX4_survey_3 : decode cX4_survey 3 = .ok (.aload_n 0, 1) := by decide +kernel
theorem dX4_survey_4 : decode cX4_survey 4 = .ok (.getfield 34, 3) := by decide +kernel
theorem dX4_survey_7 : decode cX4_survey 7 = .ok (.getfield 38, 3) := by decide +kernel
theorem dX4_survey_10 : decode cX4_survey 10 = .ok (.if_icmp .ge 16, 3) := by decide +kernel
theorem dX4_survey_13 : decode cX4_survey 13 = .ok (.aload_n 0, 1) := by decide +kernel
theorem dX4_survey_14 : decode cX4_survey 14 = .ok (.getfield 21, 3) := by decide +kernel
theorem dX4_survey_17 : decode cX4_survey 17 = .ok (.iload_n 1, 1) := by decide +kernel
theorem dX4_survey_18 : decode cX4_survey 18 = .ok (.iconst (-1), 1) := by decide +kernel
theorem dX4_survey_19 : decode cX4_survey 19 = .ok (.iastore, 1) := by decide +kernel
theorem dX4_survey_20 : decode cX4_survey 20 = .ok (.iinc 1 1, 3) := by decide +kernel
theorem dX4_survey_23 : decode cX4_survey 23 = .ok (.goto (-21), 3) := by decide +kernel
theorem dX4_survey_26 : decode cX4_survey 26 = .ok (.aload_n 0, 1) := by decide +kernel
theorem dX4_survey_27 : decode cX4_survey 27 = .ok (.iconst 0, 1) := by decide +kernel
theorem dX4_survey_28 : decode cX4_survey 28 = .ok (.putfield 31, 3) := by decide +kernel
theorem dX4_survey_31 : decode cX4_survey 31 = .ok (.iconst 0, 1) := by decide +kernel
theorem dX4_survey_32 : decode cX4_survey 32 = .ok (.istore_n 1, 1) := by decide +kernel
theorem dX4_survey_33 : decode cX4_survey 33 = .ok (.iload_n 1, 1) := by decide +kernel
theorem dX4_survey_34 : decode cX4_survey 34 = .ok (.aload_n 0, 1) := by decide +kernel
theorem dX4_survey_35 : decode cX4_survey 35 = .ok (.getfield 34, 3) := by decide +kernel
theorem dX4_survey_38 : decode cX4_survey 38 = .ok (.getfield 38, 3) := by decide +kernel
theorem dX4_survey_41 : decode cX4_survey 41 = .ok (.if_icmp .ge 34, 3) := by decide +kernel
theorem dX4_survey_44 : decode cX4_survey 44 = .ok (.aload_n 0, 1) := by decide +kernel
theorem dX4_survey_45 : decode cX4_survey 45 = .ok (.getfield 21, 3) := by decide +kernel
theorem dX4_survey_48 : decode cX4_survey 48 = .ok (.iload_n 1, 1) := by decide +kernel
theorem dX4_survey_49 : decode cX4_survey 49 = .ok (.iaload, 1) := by decide +kernel
theorem dX4_survey_50 : decode cX4_survey 50 = .ok (.iconst (-1), 1) := by decide +kernel
theorem dX4_survey_51 : decode cX4_survey 51 = .ok (.if_icmp .ne 18, 3) := by decide +kernel
theorem dX4_survey_54 : decode cX4_survey 54 = .ok (.aload_n 0, 1) := by decide +kernel
theorem dX4_survey_55 : decode cX4_survey 55 = .ok (.iload_n 1, 1) := by decide +kernel
theorem dX4_survey_56 : decode cX4_survey 56 = .ok (.invokevirtual 43, 3) := by decide +kernel
theorem dX4_survey_59 : decode cX4_survey 59 = .ok (.aload_n 0, 1) := by decide +kernel
theorem dX4_survey_60 : decode cX4_survey 60 = .ok (.dup, 1) := by decide +kernel
theorem dX4_survey_61 : decode cX4_survey 61 = .ok (.getfield 31, 3) := by decide +kernel
theorem dX4_survey_64 : decode cX4_survey 64 = .ok (.iconst 1, 1) := by decide +kernel
theorem dX4_survey_65 : decode cX4_survey 65 = .ok (.iadd, 1) := by decide +kernel
theorem dX4_survey_66 : decode cX4_survey 66 = .ok (.putfield 31, 3) := by decide +kernel
theorem dX4_survey_69 : decode cX4_survey 69 = .ok (.iinc 1 1, 3) := by decide +kernel
theorem dX4_survey_72 : decode cX4_survey 72 = .ok (.goto (-39), 3) := by decide +kernel
theorem dX4_survey_75 : decode cX4_survey 75 = .ok (.return_, 1) := by decide +kernel
theorem dX4_growFrom_0 : decode cX4_growFrom 0 = .ok (.aload_n 0, 1) := by decide +kernel
theorem dX4_growFrom_1 : decode cX4_growFrom 1 = .ok (.iconst 0, 1) := by decide +kernel
theorem dX4_growFrom_2 : decode cX4_growFrom 2 = .ok (.putfield 27, 3) := by decide +kernel
theorem dX4_growFrom_5 : decode cX4_growFrom 5 = .ok (.aload_n 0, 1) := by decide +kernel
theorem dX4_growFrom_6 : decode cX4_growFrom 6 = .ok (.iload_n 1, 1) := by decide +kernel
theorem dX4_growFrom_7 : decode cX4_growFrom 7 = .ok (.iconst (-1), 1) := by decide +kernel
theorem dX4_growFrom_8 : decode cX4_growFrom 8 = .ok (.iconst (-1), 1) := by decide +kernel
theorem dX4_growFrom_9 : decode cX4_growFrom 9 = .ok (.iconst 0, 1) := by decide +kernel
theorem dX4_growFrom_10 : decode cX4_growFrom 10 = .ok (.invokevirtual 47, 3) := by decide +kernel
theorem dX4_growFrom_13 : decode cX4_growFrom 13 = .ok (.iconst 0, 1) := by decide +kernel
theorem dX4_growFrom_14 : decode cX4_growFrom 14 = .ok (.istore_n 2, 1) := by decide +kernel
theorem dX4_growFrom_15 : decode cX4_growFrom 15 = .ok (.iload_n 2, 1) := by decide +kernel
theorem dX4_growFrom_16 : decode cX4_growFrom 16 = .ok (.aload_n 0, 1) := by decide +kernel
theorem dX4_growFrom_17 : decode cX4_growFrom 17 = .ok (.getfield 27, 3) := by decide +kernel
theorem dX4_growFrom_20 : decode cX4_growFrom 20 = .ok (.if_icmp .ge 25, 3) := by decide +kernel
theorem dX4_growFrom_23 : decode cX4_growFrom 23 = .ok (.iload_n 2, 1) := by decide +kernel
theorem dX4_growFrom_24 : decode cX4_growFrom 24 = .ok (.bipush 30, 2) := by decide +kernel
theorem dX4_growFrom_26 : decode cX4_growFrom 26 = .ok (.if_icmp .ge 19, 3) := by decide +kernel
theorem dX4_growFrom_29 : decode cX4_growFrom 29 = .ok (.aload_n 0, 1) := by decide +kernel
theorem dX4_growFrom_30 : decode cX4_growFrom 30 = .ok (.aload_n 0, 1) := by decide +kernel
theorem dX4_growFrom_31 : decode cX4_growFrom 31 = .ok (.getfield 24, 3) := by decide +kernel
theorem dX4_growFrom_34 : decode cX4_growFrom 34 = .ok (.iload_n 2, 1) := by decide +kernel
theorem dX4_growFrom_35 : decode cX4_growFrom 35 = .ok (.iaload, 1) := by decide +kernel
theorem dX4_growFrom_36 : decode cX4_growFrom 36 = .ok (.invokevirtual 51, 3) := by decide +kernel
theorem dX4_growFrom_39 : decode cX4_growFrom 39 = .ok (.iinc 2 1, 3) := by decide +kernel
theorem dX4_growFrom_42 : decode cX4_growFrom 42 = .ok (.goto (-27), 3) := by decide +kernel
theorem dX4_growFrom_45 : decode cX4_growFrom 45 = .ok (.return_, 1) := by decide +kernel
theorem dX4_reachNeighbours_0 : decode cX4_reachNeighbours 0 = .ok (.aload_n 0, 1) := by decide +kernel
theorem dX4_reachNeighbours_1 : decode cX4_reachNeighbours 1 = .ok (.getfield 34, 3) := by decide +kernel
theorem dX4_reachNeighbours_4 : decode cX4_reachNeighbours 4 = .ok (.getfield 54, 3) := by decide +kernel
theorem dX4_reachNeighbours_7 : decode cX4_reachNeighbours 7 = .ok (.iload_n 1, 1) := by decide +kernel
theorem dX4_reachNeighbours_8 : decode cX4_reachNeighbours 8 = .ok (.iaload, 1) := by decide +kernel
theorem dX4_reachNeighbours_9 : decode cX4_reachNeighbours 9 = .ok (.istore_n 2, 1) := by decide +kernel
theorem dX4_reachNeighbours_10 : decode cX4_reachNeighbours 10 = .ok (.iconst 0, 1) := by decide +kernel
theorem dX4_reachNeighbours_11 : decode cX4_reachNeighbours 11 = .ok (.istore_n 3, 1) := by decide +kernel
theorem dX4_reachNeighbours_12 : decode cX4_reachNeighbours 12 = .ok (.iload_n 3, 1) := by decide +kernel
theorem dX4_reachNeighbours_13 : decode cX4_reachNeighbours 13 = .ok (.aload_n 0, 1) := by decide +kernel
theorem dX4_reachNeighbours_14 : decode cX4_reachNeighbours 14 = .ok (.getfield 34, 3) := by decide +kernel
theorem dX4_reachNeighbours_17 : decode cX4_reachNeighbours 17 = .ok (.getfield 57, 3) := by decide +kernel
theorem dX4_reachNeighbours_20 : decode cX4_reachNeighbours 20 = .ok (.iload_n 1, 1) := by decide +kernel
theorem dX4_reachNeighbours_21 : decode cX4_reachNeighbours 21 = .ok (.iaload, 1) := by decide +kernel
theorem dX4_reachNeighbours_22 : decode cX4_reachNeighbours 22 = .ok (.if_icmp .ge 58, 3) := by decide +kernel
theorem dX4_reachNeighbours_25 : decode cX4_reachNeighbours 25 = .ok (.aload_n 0, 1) := by decide +kernel
theorem dX4_reachNeighbours_26 : decode cX4_reachNeighbours 26 = .ok (.getfield 34, 3) := by decide +kernel
theorem dX4_reachNeighbours_29 : decode cX4_reachNeighbours 29 = .ok (.iload_n 2, 1) := by decide +kernel
theorem dX4_reachNeighbours_30 : decode cX4_reachNeighbours 30 = .ok (.invokevirtual 60, 3) := by decide +kernel
theorem dX4_reachNeighbours_33 : decode cX4_reachNeighbours 33 = .ok (.istore 4, 2) := by decide +kernel
theorem dX4_reachNeighbours_35 : decode cX4_reachNeighbours 35 = .ok (.aload_n 0, 1) := by decide +kernel
theorem dX4_reachNeighbours_36 : decode cX4_reachNeighbours 36 = .ok (.getfield 21, 3) := by decide +kernel
theorem dX4_reachNeighbours_39 : decode cX4_reachNeighbours 39 = .ok (.iload 4, 2) := by decide +kernel
theorem dX4_reachNeighbours_41 : decode cX4_reachNeighbours 41 = .ok (.iaload, 1) := by decide +kernel
theorem dX4_reachNeighbours_42 : decode cX4_reachNeighbours 42 = .ok (.iconst (-1), 1) := by decide +kernel
theorem dX4_reachNeighbours_43 : decode cX4_reachNeighbours 43 = .ok (.if_icmp .ne 21, 3) := by decide +kernel
theorem dX4_reachNeighbours_46 : decode cX4_reachNeighbours 46 = .ok (.aload_n 0, 1) := by decide +kernel
theorem dX4_reachNeighbours_47 : decode cX4_reachNeighbours 47 = .ok (.iload 4, 2) := by decide +kernel
theorem dX4_reachNeighbours_49 : decode cX4_reachNeighbours 49 = .ok (.iload_n 1, 1) := by decide +kernel
theorem dX4_reachNeighbours_50 : decode cX4_reachNeighbours 50 = .ok (.iload_n 2, 1) := by decide +kernel
theorem dX4_reachNeighbours_51 : decode cX4_reachNeighbours 51 = .ok (.iconst 2, 1) := by decide +kernel
theorem dX4_reachNeighbours_52 : decode cX4_reachNeighbours 52 = .ok (.idiv, 1) := by decide +kernel
theorem dX4_reachNeighbours_53 : decode cX4_reachNeighbours 53 = .ok (.aload_n 0, 1) := by decide +kernel
theorem dX4_reachNeighbours_54 : decode cX4_reachNeighbours 54 = .ok (.getfield 18, 3) := by decide +kernel
theorem dX4_reachNeighbours_57 : decode cX4_reachNeighbours 57 = .ok (.iload_n 1, 1) := by decide +kernel
theorem dX4_reachNeighbours_58 : decode cX4_reachNeighbours 58 = .ok (.iaload, 1) := by decide +kernel
theorem dX4_reachNeighbours_59 : decode cX4_reachNeighbours 59 = .ok (.iconst 1, 1) := by decide +kernel
theorem dX4_reachNeighbours_60 : decode cX4_reachNeighbours 60 = .ok (.iadd, 1) := by decide +kernel
theorem dX4_reachNeighbours_61 : decode cX4_reachNeighbours 61 = .ok (.invokevirtual 47, 3) := by decide +kernel
theorem dX4_reachNeighbours_64 : decode cX4_reachNeighbours 64 = .ok (.aload_n 0, 1) := by decide +kernel
theorem dX4_reachNeighbours_65 : decode cX4_reachNeighbours 65 = .ok (.getfield 34, 3) := by decide +kernel
theorem dX4_reachNeighbours_68 : decode cX4_reachNeighbours 68 = .ok (.getfield 64, 3) := by decide +kernel
theorem dX4_reachNeighbours_71 : decode cX4_reachNeighbours 71 = .ok (.iload_n 2, 1) := by decide +kernel
theorem dX4_reachNeighbours_72 : decode cX4_reachNeighbours 72 = .ok (.iaload, 1) := by decide +kernel
theorem dX4_reachNeighbours_73 : decode cX4_reachNeighbours 73 = .ok (.istore_n 2, 1) := by decide +kernel
theorem dX4_reachNeighbours_74 : decode cX4_reachNeighbours 74 = .ok (.iinc 3 1, 3) := by decide +kernel
theorem dX4_reachNeighbours_77 : decode cX4_reachNeighbours 77 = .ok (.goto (-65), 3) := by decide +kernel
theorem dX4_reachNeighbours_80 : decode cX4_reachNeighbours 80 = .ok (.return_, 1) := by decide +kernel
theorem dX4_reach_0 : decode cX4_reach 0 = .ok (.aload_n 0, 1) := by decide +kernel
theorem dX4_reach_1 : decode cX4_reach 1 = .ok (.getfield 9, 3) := by decide +kernel
theorem dX4_reach_4 : decode cX4_reach 4 = .ok (.iload_n 1, 1) := by decide +kernel
theorem dX4_reach_5 : decode cX4_reach 5 = .ok (.iload_n 2, 1) := by decide +kernel
theorem dX4_reach_6 : decode cX4_reach 6 = .ok (.iastore, 1) := by decide +kernel
theorem dX4_reach_7 : decode cX4_reach 7 = .ok (.aload_n 0, 1) := by decide +kernel
theorem dX4_reach_8 : decode cX4_reach 8 = .ok (.getfield 15, 3) := by decide +kernel
theorem dX4_reach_11 : decode cX4_reach 11 = .ok (.iload_n 1, 1) := by decide +kernel
theorem dX4_reach_12 : decode cX4_reach 12 = .ok (.iload_n 3, 1) := by decide +kernel
theorem dX4_reach_13 : decode cX4_reach 13 = .ok (.iastore, 1) := by decide +kernel
theorem dX4_reach_14 : decode cX4_reach 14 = .ok (.aload_n 0, 1) := by decide +kernel
theorem dX4_reach_15 : decode cX4_reach 15 = .ok (.getfield 18, 3) := by decide +kernel
theorem dX4_reach_18 : decode cX4_reach 18 = .ok (.iload_n 1, 1) := by decide +kernel
theorem dX4_reach_19 : decode cX4_reach 19 = .ok (.iload 4, 2) := by decide +kernel
theorem dX4_reach_21 : decode cX4_reach 21 = .ok (.iastore, 1) := by decide +kernel
theorem dX4_reach_22 : decode cX4_reach 22 = .ok (.aload_n 0, 1) := by decide +kernel
theorem dX4_reach_23 : decode cX4_reach 23 = .ok (.getfield 21, 3) := by decide +kernel
theorem dX4_reach_26 : decode cX4_reach 26 = .ok (.iload_n 1, 1) := by decide +kernel
theorem dX4_reach_27 : decode cX4_reach 27 = .ok (.aload_n 0, 1) := by decide +kernel
theorem dX4_reach_28 : decode cX4_reach 28 = .ok (.getfield 31, 3) := by decide +kernel
theorem dX4_reach_31 : decode cX4_reach 31 = .ok (.iastore, 1) := by decide +kernel
theorem dX4_reach_32 : decode cX4_reach 32 = .ok (.aload_n 0, 1) := by decide +kernel
theorem dX4_reach_33 : decode cX4_reach 33 = .ok (.getfield 24, 3) := by decide +kernel
theorem dX4_reach_36 : decode cX4_reach 36 = .ok (.aload_n 0, 1) := by decide +kernel
theorem dX4_reach_37 : decode cX4_reach 37 = .ok (.getfield 27, 3) := by decide +kernel
theorem dX4_reach_40 : decode cX4_reach 40 = .ok (.iload_n 1, 1) := by decide +kernel
theorem dX4_reach_41 : decode cX4_reach 41 = .ok (.iastore, 1) := by decide +kernel
theorem dX4_reach_42 : decode cX4_reach 42 = .ok (.aload_n 0, 1) := by decide +kernel
theorem dX4_reach_43 : decode cX4_reach 43 = .ok (.dup, 1) := by decide +kernel
theorem dX4_reach_44 : decode cX4_reach 44 = .ok (.getfield 27, 3) := by decide +kernel
theorem dX4_reach_47 : decode cX4_reach 47 = .ok (.iconst 1, 1) := by decide +kernel
theorem dX4_reach_48 : decode cX4_reach 48 = .ok (.iadd, 1) := by decide +kernel
theorem dX4_reach_49 : decode cX4_reach 49 = .ok (.putfield 27, 3) := by decide +kernel
theorem dX4_reach_52 : decode cX4_reach 52 = .ok (.return_, 1) := by decide +kernel
theorem dX4_holds_0 : decode cX4_holds 0 = .ok (.aload_n 0, 1) := by decide +kernel
theorem dX4_holds_1 : decode cX4_holds 1 = .ok (.getfield 15, 3) := by decide +kernel
theorem dX4_holds_4 : decode cX4_holds 4 = .ok (.aload_n 0, 1) := by decide +kernel
theorem dX4_holds_5 : decode cX4_holds 5 = .ok (.getfield 34, 3) := by decide +kernel
theorem dX4_holds_8 : decode cX4_holds 8 = .ok (.getfield 67, 3) := by decide +kernel
theorem dX4_holds_11 : decode cX4_holds 11 = .ok (.iconst 2, 1) := by decide +kernel
theorem dX4_holds_12 : decode cX4_holds 12 = .ok (.iload_n 1, 1) := by decide +kernel
theorem dX4_holds_13 : decode cX4_holds 13 = .ok (.imul, 1) := by decide +kernel
theorem dX4_holds_14 : decode cX4_holds 14 = .ok (.iaload, 1) := by decide +kernel
theorem dX4_holds_15 : decode cX4_holds 15 = .ok (.iaload, 1) := by decide +kernel
theorem dX4_holds_16 : decode cX4_holds 16 = .ok (.iload_n 1, 1) := by decide +kernel
theorem dX4_holds_17 : decode cX4_holds 17 = .ok (.if_icmp .eq 25, 3) := by decide +kernel
theorem dX4_holds_20 : decode cX4_holds 20 = .ok (.aload_n 0, 1) := by decide +kernel
theorem dX4_holds_21 : decode cX4_holds 21 = .ok (.getfield 15, 3) := by decide +kernel
theorem dX4_holds_24 : decode cX4_holds 24 = .ok (.aload_n 0, 1) := by decide +kernel
theorem dX4_holds_25 : decode cX4_holds 25 = .ok (.getfield 34, 3) := by decide +kernel
theorem dX4_holds_28 : decode cX4_holds 28 = .ok (.getfield 67, 3) := by decide +kernel
theorem dX4_holds_31 : decode cX4_holds 31 = .ok (.iconst 2, 1) := by decide +kernel
theorem dX4_holds_32 : decode cX4_holds 32 = .ok (.iload_n 1, 1) := by decide +kernel
theorem dX4_holds_33 : decode cX4_holds 33 = .ok (.imul, 1) := by decide +kernel
theorem dX4_holds_34 : decode cX4_holds 34 = .ok (.iconst 1, 1) := by decide +kernel
theorem dX4_holds_35 : decode cX4_holds 35 = .ok (.iadd, 1) := by decide +kernel
theorem dX4_holds_36 : decode cX4_holds 36 = .ok (.iaload, 1) := by decide +kernel
theorem dX4_holds_37 : decode cX4_holds 37 = .ok (.iaload, 1) := by decide +kernel
theorem dX4_holds_38 : decode cX4_holds 38 = .ok (.iload_n 1, 1) := by decide +kernel
theorem dX4_holds_39 : decode cX4_holds 39 = .ok (.if_icmp .ne 7, 3) := by decide +kernel
theorem dX4_holds_42 : decode cX4_holds 42 = .ok (.iconst 1, 1) := by decide +kernel
theorem dX4_holds_43 : decode cX4_holds 43 = .ok (.goto 4, 3) := by decide +kernel
theorem dX4_holds_46 : decode cX4_holds 46 = .ok (.iconst 0, 1) := by decide +kernel
theorem dX4_holds_47 : decode cX4_holds 47 = .ok (.ireturn, 1) := by decide +kernel
theorem dX5_init_0 : decode cX5_init 0 = .ok (.aload_n 0, 1) := by decide +kernel
theorem dX5_init_1 : decode cX5_init 1 = .ok (.invokespecial 3, 3) := by decide +kernel
theorem dX5_init_4 : decode cX5_init 4 = .ok (.aload_n 0, 1) := by decide +kernel
theorem dX5_init_5 : decode cX5_init 5 = .ok (.new 9, 3) := by decide +kernel
theorem dX5_init_8 : decode cX5_init 8 = .ok (.dup, 1) := by decide +kernel
theorem dX5_init_9 : decode cX5_init 9 = .ok (.invokespecial 11, 3) := by decide +kernel
theorem dX5_init_12 : decode cX5_init 12 = .ok (.putfield 12, 3) := by decide +kernel
theorem dX5_init_15 : decode cX5_init 15 = .ok (.aload_n 0, 1) := by decide +kernel
theorem dX5_init_16 : decode cX5_init 16 = .ok (.new 16, 3) := by decide +kernel
theorem dX5_init_19 : decode cX5_init 19 = .ok (.dup, 1) := by decide +kernel
theorem dX5_init_20 : decode cX5_init 20 = .ok (.aload_n 0, 1) := by decide +kernel
theorem dX5_init_21 : decode cX5_init 21 = .ok (.getfield 12, 3) := by decide +kernel
theorem dX5_init_24 : decode cX5_init 24 = .ok (.invokespecial 18, 3) := by decide +kernel
theorem dX5_init_27 : decode cX5_init 27 = .ok (.putfield 21, 3) := by decide +kernel
theorem dX5_init_30 : decode cX5_init 30 = .ok (.aload_n 0, 1) := by decide +kernel
theorem dX5_init_31 : decode cX5_init 31 = .ok (.new 25, 3) := by decide +kernel
theorem dX5_init_34 : decode cX5_init 34 = .ok (.dup, 1) := by decide +kernel
theorem dX5_init_35 : decode cX5_init 35 = .ok (.aload_n 0, 1) := by decide +kernel
theorem dX5_init_36 : decode cX5_init 36 = .ok (.getfield 12, 3) := by decide +kernel
theorem dX5_init_39 : decode cX5_init 39 = .ok (.invokespecial 27, 3) := by decide +kernel
theorem dX5_init_42 : decode cX5_init 42 = .ok (.putfield 28, 3) := by decide +kernel
theorem dX5_init_45 : decode cX5_init 45 = .ok (.aload_n 0, 1) := by decide +kernel
theorem dX5_init_46 : decode cX5_init 46 = .ok (.new 32, 3) := by decide +kernel
theorem dX5_init_49 : decode cX5_init 49 = .ok (.dup, 1) := by decide +kernel
theorem dX5_init_50 : decode cX5_init 50 = .ok (.aload_n 0, 1) := by decide +kernel
theorem dX5_init_51 : decode cX5_init 51 = .ok (.getfield 12, 3) := by decide +kernel
theorem dX5_init_54 : decode cX5_init 54 = .ok (.invokespecial 34, 3) := by decide +kernel
theorem dX5_init_57 : decode cX5_init 57 = .ok (.putfield 35, 3) := by decide +kernel
theorem dX5_init_60 : decode cX5_init 60 = .ok (.aload_n 0, 1) := by decide +kernel
theorem dX5_init_61 : decode cX5_init 61 = .ok (.new 39, 3) := by decide +kernel
theorem dX5_init_64 : decode cX5_init 64 = .ok (.dup, 1) := by decide +kernel
theorem dX5_init_65 : decode cX5_init 65 = .ok (.aload_n 0, 1) := by decide +kernel
theorem dX5_init_66 : decode cX5_init 66 = .ok (.getfield 12, 3) := by decide +kernel
theorem dX5_init_69 : decode cX5_init 69 = .ok (.aload_n 0, 1) := by decide +kernel
theorem dX5_init_70 : decode cX5_init 70 = .ok (.getfield 21, 3) := by decide +kernel
theorem dX5_init_73 : decode cX5_init 73 = .ok (.aload_n 0, 1) := by decide +kernel
theorem dX5_init_74 : decode cX5_init 74 = .ok (.getfield 28, 3) := by decide +kernel
theorem dX5_init_77 : decode cX5_init 77 = .ok (.invokespecial 41, 3) := by decide +kernel
theorem dX5_init_80 : decode cX5_init 80 = .ok (.putfield 44, 3) := by decide +kernel
theorem dX5_init_83 : decode cX5_init 83 = .ok (.return_, 1) := by decide +kernel
theorem dX5_vertex_0 : decode cX5_vertex 0 = .ok (.aload_n 0, 1) := by decide +kernel
theorem dX5_vertex_1 : decode cX5_vertex 1 = .ok (.getfield 12, 3) := by decide +kernel
theorem dX5_vertex_4 : decode cX5_vertex 4 = .ok (.getfield 48, 3) := by decide +kernel
theorem dX5_vertex_7 : decode cX5_vertex 7 = .ok (.bipush 30, 2) := by decide +kernel
theorem dX5_vertex_9 : decode cX5_vertex 9 = .ok (.if_icmp .lt 13, 3) := by decide +kernel
theorem dX5_vertex_12 : decode cX5_vertex 12 = .ok (.new 52, 3) := by decide +kernel
theorem dX5_vertex_15 : decode cX5_vertex 15 = .ok (.dup, 1) := by decide +kernel
theorem dX5_vertex_16 : decode cX5_vertex 16 = .ok (.ldc 54, 2) := by decide +kernel
theorem dX5_vertex_18 : decode cX5_vertex 18 = .ok (.invokespecial 56, 3) := by decide +kernel
theorem dX5_vertex_21 : decode cX5_vertex 21 = .ok (.athrow, 1) := by decide +kernel
theorem dX5_vertex_22 : decode cX5_vertex 22 = .ok (.aload_n 0, 1) := by decide +kernel
theorem dX5_vertex_23 : decode cX5_vertex 23 = .ok (.getfield 12, 3) := by decide +kernel
theorem dX5_vertex_26 : decode cX5_vertex 26 = .ok (.invokevirtual 59, 3) := by decide +kernel
theorem dX5_vertex_29 : decode cX5_vertex 29 = .ok (.istore_n 1, 1) := by decide +kernel
theorem dX5_vertex_30 : decode cX5_vertex 30 = .ok (.aload_n 0, 1) := by decide +kernel
theorem dX5_vertex_31 : decode cX5_vertex 31 = .ok (.getfield 35, 3) := by decide +kernel
theorem dX5_vertex_34 : decode cX5_vertex 34 = .ok (.getfield 63, 3) := by decide +kernel
theorem dX5_vertex_37 : decode cX5_vertex 37 = .ok (.iload_n 1, 1) := by decide +kernel
theorem dX5_vertex_38 : decode cX5_vertex 38 = .ok (.iconst 0, 1) := by decide +kernel
theorem dX5_vertex_39 : decode cX5_vertex 39 = .ok (.iastore, 1) := by decide +kernel
theorem dX5_vertex_40 : decode cX5_vertex 40 = .ok (.aload_n 0, 1) := by decide +kernel
theorem dX5_vertex_41 : decode cX5_vertex 41 = .ok (.invokevirtual 67, 3) := by decide +kernel
theorem dX5_vertex_44 : decode cX5_vertex 44 = .ok (.iload_n 1, 1) := by decide +kernel
theorem dX5_vertex_45 : decode cX5_vertex 45 = .ok (.ireturn, 1) := by decide +kernel
theorem dX5_edge_0 : decode cX5_edge 0 = .ok (.aload_n 0, 1) := by decide +kernel
theorem dX5_edge_1 : decode cX5_edge 1 = .ok (.iload_n 1, 1) := by decide +kernel
theorem dX5_edge_2 : decode cX5_edge 2 = .ok (.invokevirtual 70, 3) := by decide +kernel
theorem dX5_edge_5 : decode cX5_edge 5 = .ok (.aload_n 0, 1) := by decide +kernel
theorem dX5_edge_6 : decode cX5_edge 6 = .ok (.iload_n 2, 1) := by decide +kernel
theorem dX5_edge_7 : decode cX5_edge 7 = .ok (.invokevirtual 70, 3) := by decide +kernel
theorem dX5_edge_10 : decode cX5_edge 10 = .ok (.aload_n 0, 1) := by decide +kernel
theorem dX5_edge_11 : decode cX5_edge 11 = .ok (.iload_n 3, 1) := by decide +kernel
theorem dX5_edge_12 : decode cX5_edge 12 = .ok (.invokevirtual 74, 3) := by decide +kernel
theorem dX5_edge_15 : decode cX5_edge 15 = .ok (.aload_n 0, 1) := by decide +kernel
theorem dX5_edge_16 : decode cX5_edge 16 = .ok (.iload 4, 2) := by decide +kernel
theorem dX5_edge_18 : decode cX5_edge 18 = .ok (.invokevirtual 74, 3) := by decide +kernel
theorem dX5_edge_21 : decode cX5_edge 21 = .ok (.iload_n 1, 1) := by decide +kernel
theorem dX5_edge_22 : decode cX5_edge 22 = .ok (.iload_n 2, 1) := by decide +kernel
theorem dX5_edge_23 : decode cX5_edge 23 = .ok (.if_icmp .eq 15, 3) := by decide +kernel
theorem dX5_edge_26 : decode cX5_edge 26 = .ok (.aload_n 0, 1) := by decide +kernel
theorem dX5_edge_27 : decode cX5_edge 27 = .ok (.getfield 12, 3) := by decide +kernel
theorem dX5_edge_30 : decode cX5_edge 30 = .ok (.iload_n 1, 1) := by decide +kernel
theorem dX5_edge_31 : decode cX5_edge 31 = .ok (.iload_n 2, 1) := by decide +kernel
theorem dX5_edge_32 : decode cX5_edge 32 = .ok (.invokevirtual 77, 3) := by decide +kernel
theorem dX5_edge_35 : decode cX5_edge 35 = .ok (.ifCond .eq 13, 3) := by decide +kernel
theorem dX5_edge_38 : decode cX5_edge 38 = .ok (.new 81, 3) := by decide +kernel
theorem dX5_edge_41 : decode cX5_edge 41 = .ok (.dup, 1) := by decide +kernel
theorem dX5_edge_42 : decode cX5_edge 42 = .ok (.ldc 83, 2) := by decide +kernel
theorem dX5_edge_44 : decode cX5_edge 44 = .ok (.invokespecial 85, 3) := by decide +kernel
theorem dX5_edge_47 : decode cX5_edge 47 = .ok (.athrow, 1) := by decide +kernel
theorem dX5_edge_48 : decode cX5_edge 48 = .ok (.aload_n 0, 1) := by decide +kernel
theorem dX5_edge_49 : decode cX5_edge 49 = .ok (.getfield 12, 3) := by decide +kernel
theorem dX5_edge_52 : decode cX5_edge 52 = .ok (.iload_n 1, 1) := by decide +kernel
theorem dX5_edge_53 : decode cX5_edge 53 = .ok (.iload_n 3, 1) := by decide +kernel
theorem dX5_edge_54 : decode cX5_edge 54 = .ok (.invokevirtual 86, 3) := by decide +kernel
theorem dX5_edge_57 : decode cX5_edge 57 = .ok (.ifCond .eq 16, 3) := by decide +kernel
theorem dX5_edge_60 : decode cX5_edge 60 = .ok (.aload_n 0, 1) := by decide +kernel
theorem dX5_edge_61 : decode cX5_edge 61 = .ok (.getfield 12, 3) := by decide +kernel
theorem dX5_edge_64 : decode cX5_edge 64 = .ok (.iload_n 2, 1) := by decide +kernel
theorem dX5_edge_65 : decode cX5_edge 65 = .ok (.iload 4, 2) := by decide +kernel
theorem dX5_edge_67 : decode cX5_edge 67 = .ok (.invokevirtual 86, 3) := by decide +kernel
theorem dX5_edge_70 : decode cX5_edge 70 = .ok (.ifCond .ne 13, 3) := by decide +kernel
theorem dX5_edge_73 : decode cX5_edge 73 = .ok (.new 81, 3) := by decide +kernel
theorem dX5_edge_76 : decode cX5_edge 76 = .ok (.dup, 1) := by decide +kernel
theorem dX5_edge_77 : decode cX5_edge 77 = .ok (.ldc 89, 2) := by decide +kernel
theorem dX5_edge_79 : decode cX5_edge 79 = .ok (.invokespecial 85, 3) := by decide +kernel
theorem dX5_edge_82 : decode cX5_edge 82 = .ok (.athrow, 1) := by decide +kernel
theorem dX5_edge_83 : decode cX5_edge 83 = .ok (.aload_n 0, 1) := by decide +kernel
theorem dX5_edge_84 : decode cX5_edge 84 = .ok (.getfield 12, 3) := by decide +kernel
theorem dX5_edge_87 : decode cX5_edge 87 = .ok (.getfield 91, 3) := by decide +kernel
theorem dX5_edge_90 : decode cX5_edge 90 = .ok (.bipush 100, 2) := by decide +kernel
theorem dX5_edge_92 : decode cX5_edge 92 = .ok (.if_icmp .lt 13, 3) := by decide +kernel
theorem dX5_edge_95 : decode cX5_edge 95 = .ok (.new 52, 3) := by decide +kernel
theorem dX5_edge_98 : decode cX5_edge 98 = .ok (.dup, 1) := by decide +kernel
theorem dX5_edge_99 : decode cX5_edge 99 = .ok (.ldc 94, 2) := by decide +kernel
theorem dX5_edge_101 : decode cX5_edge 101 = .ok (.invokespecial 56, 3) := by decide +kernel
theorem dX5_edge_104 : decode cX5_edge 104 = .ok (.athrow, 1) := by decide +kernel
theorem dX5_edge_105 : decode cX5_edge 105 = .ok (.aload_n 0, 1) := by decide +kernel
theorem dX5_edge_106 : decode cX5_edge 106 = .ok (.getfield 12, 3) := by decide +kernel
theorem dX5_edge_109 : decode cX5_edge 109 = .ok (.iload_n 1, 1) := by decide +kernel
theorem dX5_edge_110 : decode cX5_edge 110 = .ok (.iload_n 2, 1) := by decide +kernel
theorem dX5_edge_111 : decode cX5_edge 111 = .ok (.iload_n 3, 1) := by decide +kernel
theorem dX5_edge_112 : decode cX5_edge 112 = .ok (.iload 4, 2) := by decide +kernel
theorem dX5_edge_114 : decode cX5_edge 114 = .ok (.invokevirtual 96, 3) := by decide +kernel
theorem dX5_edge_117 : decode cX5_edge 117 = .ok (.istore 5, 2) := by decide +kernel
theorem dX5_edge_119 : decode cX5_edge 119 = .ok (.aload_n 0, 1) := by decide +kernel
theorem dX5_edge_120 : decode cX5_edge 120 = .ok (.getfield 35, 3) := by decide +kernel
theorem dX5_edge_123 : decode cX5_edge 123 = .ok (.invokevirtual 100, 3) := by decide +kernel
theorem dX5_edge_126 : decode cX5_edge 126 = .ok (.aload_n 0, 1) := by decide +kernel
theorem dX5_edge_127 : decode cX5_edge 127 = .ok (.invokevirtual 67, 3) := by decide +kernel
theorem dX5_edge_130 : decode cX5_edge 130 = .ok (.iload 5, 2) := by decide +kernel
theorem dX5_edge_132 : decode cX5_edge 132 = .ok (.ireturn, 1) := by decide +kernel
theorem dX5_remove_0 : decode cX5_remove 0 = .ok (.aload_n 0, 1) := by decide +kernel
theorem dX5_remove_1 : decode cX5_remove 1 = .ok (.iload_n 1, 1) := by decide +kernel
theorem dX5_remove_2 : decode cX5_remove 2 = .ok (.invokevirtual 103, 3) := by decide +kernel
theorem dX5_remove_5 : decode cX5_remove 5 = .ok (.aload_n 0, 1) := by decide +kernel
theorem dX5_remove_6 : decode cX5_remove 6 = .ok (.getfield 12, 3) := by decide +kernel
theorem dX5_remove_9 : decode cX5_remove 9 = .ok (.iload_n 1, 1) := by decide +kernel
theorem dX5_remove_10 : decode cX5_remove 10 = .ok (.invokevirtual 106, 3) := by decide +kernel
theorem dX5_remove_13 : decode cX5_remove 13 = .ok (.aload_n 0, 1) := by decide +kernel
theorem dX5_remove_14 : decode cX5_remove 14 = .ok (.getfield 35, 3) := by decide +kernel
theorem dX5_remove_17 : decode cX5_remove 17 = .ok (.invokevirtual 100, 3) := by decide +kernel
theorem dX5_remove_20 : decode cX5_remove 20 = .ok (.aload_n 0, 1) := by decide +kernel
theorem dX5_remove_21 : decode cX5_remove 21 = .ok (.invokevirtual 67, 3) := by decide +kernel
theorem dX5_remove_24 : decode cX5_remove 24 = .ok (.aload_n 0, 1) := by decide +kernel
theorem dX5_remove_25 : decode cX5_remove 25 = .ok (.getfield 12, 3) := by decide +kernel
theorem dX5_remove_28 : decode cX5_remove 28 = .ok (.getfield 109, 3) := by decide +kernel
theorem dX5_remove_31 : decode cX5_remove 31 = .ok (.ireturn, 1) := by decide +kernel
theorem dX5_degree_0 : decode cX5_degree 0 = .ok (.aload_n 0, 1) := by decide +kernel
theorem dX5_degree_1 : decode cX5_degree 1 = .ok (.iload_n 1, 1) := by decide +kernel
theorem dX5_degree_2 : decode cX5_degree 2 = .ok (.invokevirtual 70, 3) := by decide +kernel
theorem dX5_degree_5 : decode cX5_degree 5 = .ok (.aload_n 0, 1) := by decide +kernel
theorem dX5_degree_6 : decode cX5_degree 6 = .ok (.getfield 12, 3) := by decide +kernel
theorem dX5_degree_9 : decode cX5_degree 9 = .ok (.getfield 112, 3) := by decide +kernel
theorem dX5_degree_12 : decode cX5_degree 12 = .ok (.iload_n 1, 1) := by decide +kernel
theorem dX5_degree_13 : decode cX5_degree 13 = .ok (.iaload, 1) := by decide +kernel
theorem dX5_degree_14 : decode cX5_degree 14 = .ok (.ireturn, 1) := by decide +kernel
theorem dX5_round_0 : decode cX5_round 0 = .ok (.aload_n 0, 1) := by decide +kernel
theorem dX5_round_1 : decode cX5_round 1 = .ok (.iload_n 1, 1) := by decide +kernel
theorem dX5_round_2 : decode cX5_round 2 = .ok (.invokevirtual 70, 3) := by decide +kernel
theorem dX5_round_5 : decode cX5_round 5 = .ok (.iload_n 2, 1) := by decide +kernel
theorem dX5_round_6 : decode cX5_round 6 = .ok (.ifCond .lt 16, 3) := by decide +kernel
theorem dX5_round_9 : decode cX5_round 9 = .ok (.iload_n 2, 1) := by decide +kernel
theorem dX5_round_10 : decode cX5_round 10 = .ok (.aload_n 0, 1) := by decide +kernel
theorem dX5_round_11 : decode cX5_round 11 = .ok (.getfield 12, 3) := by decide +kernel
theorem dX5_round_14 : decode cX5_round 14 = .ok (.getfield 112, 3) := by decide +kernel
theorem dX5_round_17 : decode cX5_round 17 = .ok (.iload_n 1, 1) := by decide +kernel
theorem dX5_round_18 : decode cX5_round 18 = .ok (.iaload, 1) := by decide +kernel
theorem dX5_round_19 : decode cX5_round 19 = .ok (.if_icmp .lt 13, 3) := by decide +kernel
theorem dX5_round_22 : decode cX5_round 22 = .ok (.new 115, 3) := by decide +kernel
theorem dX5_round_25 : decode cX5_round 25 = .ok (.dup, 1) := by decide +kernel
theorem dX5_round_26 : decode cX5_round 26 = .ok (.ldc 117, 2) := by decide +kernel
theorem dX5_round_28 : decode cX5_round 28 = .ok (.invokespecial 119, 3) := by decide +kernel
theorem dX5_round_31 : decode cX5_round 31 = .ok (.athrow, 1) := by decide +kernel
theorem dX5_round_32 : decode cX5_round 32 = .ok (.aload_n 0, 1) := by decide +kernel
theorem dX5_round_33 : decode cX5_round 33 = .ok (.getfield 12, 3) := by decide +kernel
theorem dX5_round_36 : decode cX5_round 36 = .ok (.getfield 120, 3) := by decide +kernel
theorem dX5_round_39 : decode cX5_round 39 = .ok (.iload_n 1, 1) := by decide +kernel
theorem dX5_round_40 : decode cX5_round 40 = .ok (.iaload, 1) := by decide +kernel
theorem dX5_round_41 : decode cX5_round 41 = .ok (.istore_n 3, 1) := by decide +kernel
theorem dX5_round_42 : decode cX5_round 42 = .ok (.iconst 0, 1) := by decide +kernel
theorem dX5_round_43 : decode cX5_round 43 = .ok (.istore 4, 2) := by decide +kernel
theorem dX5_round_45 : decode cX5_round 45 = .ok (.iload 4, 2) := by decide +kernel
theorem dX5_round_47 : decode cX5_round 47 = .ok (.iload_n 2, 1) := by decide +kernel
theorem dX5_round_48 : decode cX5_round 48 = .ok (.if_icmp .ge 19, 3) := by decide +kernel
theorem dX5_round_51 : decode cX5_round 51 = .ok (.aload_n 0, 1) := by decide +kernel
theorem dX5_round_52 : decode cX5_round 52 = .ok (.getfield 12, 3) := by decide +kernel
theorem dX5_round_55 : decode cX5_round 55 = .ok (.getfield 123, 3) := by decide +kernel
theorem dX5_round_58 : decode cX5_round 58 = .ok (.iload_n 3, 1) := by decide +kernel
theorem dX5_round_59 : decode cX5_round 59 = .ok (.iaload, 1) := by decide +kernel
theorem dX5_round_60 : decode cX5_round 60 = .ok (.istore_n 3, 1) := by decide +kernel
theorem dX5_round_61 : decode cX5_round 61 = .ok (.iinc 4 1, 3) := by decide +kernel
theorem dX5_round_64 : decode cX5_round 64 = .ok (.goto (-19), 3) := by decide +kernel
theorem dX5_round_67 : decode cX5_round 67 = .ok (.iload_n 3, 1) := by decide +kernel
theorem dX5_round_68 : decode cX5_round 68 = .ok (.iconst 2, 1) := by decide +kernel
theorem dX5_round_69 : decode cX5_round 69 = .ok (.idiv, 1) := by decide +kernel
theorem dX5_round_70 : decode cX5_round 70 = .ok (.ireturn, 1) := by decide +kernel
theorem dX5_end_0 : decode cX5_end 0 = .ok (.aload_n 0, 1) := by decide +kernel
theorem dX5_end_1 : decode cX5_end 1 = .ok (.iload_n 1, 1) := by decide +kernel
theorem dX5_end_2 : decode cX5_end 2 = .ok (.invokevirtual 103, 3) := by decide +kernel
theorem dX5_end_5 : decode cX5_end 5 = .ok (.aload_n 0, 1) := by decide +kernel
theorem dX5_end_6 : decode cX5_end 6 = .ok (.getfield 12, 3) := by decide +kernel
theorem dX5_end_9 : decode cX5_end 9 = .ok (.getfield 126, 3) := by decide +kernel
theorem dX5_end_12 : decode cX5_end 12 = .ok (.iload_n 2, 1) := by decide +kernel
theorem dX5_end_13 : decode cX5_end 13 = .ok (.ifCond .eq 11, 3) := by decide +kernel
theorem dX5_end_16 : decode cX5_end 16 = .ok (.iconst 2, 1) := by decide +kernel
theorem dX5_end_17 : decode cX5_end 17 = .ok (.iload_n 1, 1) := by decide +kernel
theorem dX5_end_18 : decode cX5_end 18 = .ok (.imul, 1) := by decide +kernel
theorem dX5_end_19 : decode cX5_end 19 = .ok (.iconst 1, 1) := by decide +kernel
theorem dX5_end_20 : decode cX5_end 20 = .ok (.iadd, 1) := by decide +kernel
theorem dX5_end_21 : decode cX5_end 21 = .ok (.goto 6, 3) := by decide +kernel
theorem dX5_end_24 : decode cX5_end 24 = .ok (.iconst 2, 1) := by decide +kernel
theorem dX5_end_25 : decode cX5_end 25 = .ok (.iload_n 1, 1) := by decide +kernel
theorem dX5_end_26 : decode cX5_end 26 = .ok (.imul, 1) := by decide +kernel
theorem dX5_end_27 : decode cX5_end 27 = .ok (.iaload, 1) := by decide +kernel
theorem dX5_end_28 : decode cX5_end 28 = .ok (.ireturn, 1) := by decide +kernel
theorem dX5_faces_0 : decode cX5_faces 0 = .ok (.aload_n 0, 1) := by decide +kernel
theorem dX5_faces_1 : decode cX5_faces 1 = .ok (.getfield 21, 3) := by decide +kernel
theorem dX5_faces_4 : decode cX5_faces 4 = .ok (.getfield 129, 3) := by decide +kernel
theorem dX5_faces_7 : decode cX5_faces 7 = .ok (.ireturn, 1) := by decide +kernel
theorem dX5_sides_0 : decode cX5_sides 0 = .ok (.aload_n 0, 1) := by decide +kernel
theorem dX5_sides_1 : decode cX5_sides 1 = .ok (.iload_n 1, 1) := by decide +kernel
theorem dX5_sides_2 : decode cX5_sides 2 = .ok (.invokevirtual 132, 3) := by decide +kernel
theorem dX5_sides_5 : decode cX5_sides 5 = .ok (.aload_n 0, 1) := by decide +kernel
theorem dX5_sides_6 : decode cX5_sides 6 = .ok (.getfield 21, 3) := by decide +kernel
theorem dX5_sides_9 : decode cX5_sides 9 = .ok (.getfield 135, 3) := by decide +kernel
theorem dX5_sides_12 : decode cX5_sides 12 = .ok (.iload_n 1, 1) := by decide +kernel
theorem dX5_sides_13 : decode cX5_sides 13 = .ok (.iaload, 1) := by decide +kernel
theorem dX5_sides_14 : decode cX5_sides 14 = .ok (.ireturn, 1) := by decide +kernel
theorem dX5_from_0 : decode cX5_from 0 = .ok (.aload_n 0, 1) := by decide +kernel
theorem dX5_from_1 : decode cX5_from 1 = .ok (.iload_n 1, 1) := by decide +kernel
theorem dX5_from_2 : decode cX5_from 2 = .ok (.invokevirtual 132, 3) := by decide +kernel
theorem dX5_from_5 : decode cX5_from 5 = .ok (.iload_n 2, 1) := by decide +kernel
theorem dX5_from_6 : decode cX5_from 6 = .ok (.ifCond .lt 16, 3) := by decide +kernel
theorem dX5_from_9 : decode cX5_from 9 = .ok (.iload_n 2, 1) := by decide +kernel
theorem dX5_from_10 : decode cX5_from 10 = .ok (.aload_n 0, 1) := by decide +kernel
theorem dX5_from_11 : decode cX5_from 11 = .ok (.getfield 21, 3) := by decide +kernel
theorem dX5_from_14 : decode cX5_from 14 = .ok (.getfield 135, 3) := by decide +kernel
theorem dX5_from_17 : decode cX5_from 17 = .ok (.iload_n 1, 1) := by decide +kernel
theorem dX5_from_18 : decode cX5_from 18 = .ok (.iaload, 1) := by decide +kernel
theorem dX5_from_19 : decode cX5_from 19 = .ok (.if_icmp .lt 13, 3) := by decide +kernel
theorem dX5_from_22 : decode cX5_from 22 = .ok (.new 115, 3) := by decide +kernel
theorem dX5_from_25 : decode cX5_from 25 = .ok (.dup, 1) := by decide +kernel
theorem dX5_from_26 : decode cX5_from 26 = .ok (.ldc 138, 2) := by decide +kernel
theorem dX5_from_28 : decode cX5_from 28 = .ok (.invokespecial 119, 3) := by decide +kernel
theorem dX5_from_31 : decode cX5_from 31 = .ok (.athrow, 1) := by decide +kernel
theorem dX5_from_32 : decode cX5_from 32 = .ok (.aload_n 0, 1) := by decide +kernel
theorem dX5_from_33 : decode cX5_from 33 = .ok (.getfield 21, 3) := by decide +kernel
theorem dX5_from_36 : decode cX5_from 36 = .ok (.getfield 140, 3) := by decide +kernel
theorem dX5_from_39 : decode cX5_from 39 = .ok (.iload_n 1, 1) := by decide +kernel
theorem dX5_from_40 : decode cX5_from 40 = .ok (.iaload, 1) := by decide +kernel
theorem dX5_from_41 : decode cX5_from 41 = .ok (.istore_n 3, 1) := by decide +kernel
theorem dX5_from_42 : decode cX5_from 42 = .ok (.iconst 0, 1) := by decide +kernel
theorem dX5_from_43 : decode cX5_from 43 = .ok (.istore 4, 2) := by decide +kernel
theorem dX5_from_45 : decode cX5_from 45 = .ok (.iload 4, 2) := by decide +kernel
theorem dX5_from_47 : decode cX5_from 47 = .ok (.iload_n 2, 1) := by decide +kernel
theorem dX5_from_48 : decode cX5_from 48 = .ok (.if_icmp .ge 18, 3) := by decide +kernel
theorem dX5_from_51 : decode cX5_from 51 = .ok (.aload_n 0, 1) := by decide +kernel
theorem dX5_from_52 : decode cX5_from 52 = .ok (.getfield 12, 3) := by decide +kernel
theorem dX5_from_55 : decode cX5_from 55 = .ok (.iload_n 3, 1) := by decide +kernel
theorem dX5_from_56 : decode cX5_from 56 = .ok (.invokevirtual 143, 3) := by decide +kernel
theorem dX5_from_59 : decode cX5_from 59 = .ok (.istore_n 3, 1) := by decide +kernel
theorem dX5_from_60 : decode cX5_from 60 = .ok (.iinc 4 1, 3) := by decide +kernel
theorem dX5_from_63 : decode cX5_from 63 = .ok (.goto (-18), 3) := by decide +kernel
theorem dX5_from_66 : decode cX5_from 66 = .ok (.aload_n 0, 1) := by decide +kernel
theorem dX5_from_67 : decode cX5_from 67 = .ok (.getfield 12, 3) := by decide +kernel
theorem dX5_from_70 : decode cX5_from 70 = .ok (.getfield 126, 3) := by decide +kernel
theorem dX5_from_73 : decode cX5_from 73 = .ok (.iload_n 3, 1) := by decide +kernel
theorem dX5_from_74 : decode cX5_from 74 = .ok (.iaload, 1) := by decide +kernel
theorem dX5_from_75 : decode cX5_from 75 = .ok (.ireturn, 1) := by decide +kernel
theorem dX5_parts_0 : decode cX5_parts 0 = .ok (.aload_n 0, 1) := by decide +kernel
theorem dX5_parts_1 : decode cX5_parts 1 = .ok (.getfield 28, 3) := by decide +kernel
theorem dX5_parts_4 : decode cX5_parts 4 = .ok (.getfield 147, 3) := by decide +kernel
theorem dX5_parts_7 : decode cX5_parts 7 = .ok (.ireturn, 1) := by decide +kernel
theorem dX5_genus_0 : decode cX5_genus 0 = .ok (.aload_n 0, 1) := by decide +kernel
theorem dX5_genus_1 : decode cX5_genus 1 = .ok (.getfield 21, 3) := by decide +kernel
theorem dX5_genus_4 : decode cX5_genus 4 = .ok (.getfield 129, 3) := by decide +kernel
theorem dX5_genus_7 : decode cX5_genus 7 = .ok (.aload_n 0, 1) := by decide +kernel
theorem dX5_genus_8 : decode cX5_genus 8 = .ok (.getfield 12, 3) := by decide +kernel
theorem dX5_genus_11 : decode cX5_genus 11 = .ok (.invokevirtual 148, 3) := by decide +kernel
theorem dX5_genus_14 : decode cX5_genus 14 = .ok (.iadd, 1) := by decide +kernel
theorem dX5_genus_15 : decode cX5_genus 15 = .ok (.istore_n 1, 1) := by decide +kernel
theorem dX5_genus_16 : decode cX5_genus 16 = .ok (.aload_n 0, 1) := by decide +kernel
theorem dX5_genus_17 : decode cX5_genus 17 = .ok (.getfield 28, 3) := by decide +kernel
theorem dX5_genus_20 : decode cX5_genus 20 = .ok (.getfield 147, 3) := by decide +kernel
theorem dX5_genus_23 : decode cX5_genus 23 = .ok (.aload_n 0, 1) := by decide +kernel
theorem dX5_genus_24 : decode cX5_genus 24 = .ok (.getfield 12, 3) := by decide +kernel
theorem dX5_genus_27 : decode cX5_genus 27 = .ok (.getfield 48, 3) := by decide +kernel
theorem dX5_genus_30 : decode cX5_genus 30 = .ok (.aload_n 0, 1) := by decide +kernel
theorem dX5_genus_31 : decode cX5_genus 31 = .ok (.getfield 12, 3) := by decide +kernel
theorem dX5_genus_34 : decode cX5_genus 34 = .ok (.getfield 109, 3) := by decide +kernel
theorem dX5_genus_37 : decode cX5_genus 37 = .ok (.isub, 1) := by decide +kernel
theorem dX5_genus_38 : decode cX5_genus 38 = .ok (.iload_n 1, 1) := by decide +kernel
theorem dX5_genus_39 : decode cX5_genus 39 = .ok (.iadd, 1) := by decide +kernel
theorem dX5_genus_40 : decode cX5_genus 40 = .ok (.iconst 2, 1) := by decide +kernel
theorem dX5_genus_41 : decode cX5_genus 41 = .ok (.idiv, 1) := by decide +kernel
theorem dX5_genus_42 : decode cX5_genus 42 = .ok (.isub, 1) := by decide +kernel
theorem dX5_genus_43 : decode cX5_genus 43 = .ok (.ireturn, 1) := by decide +kernel
theorem dX5_colour_0 : decode cX5_colour 0 = .ok (.aload_n 0, 1) := by decide +kernel
theorem dX5_colour_1 : decode cX5_colour 1 = .ok (.invokevirtual 151, 3) := by decide +kernel
theorem dX5_colour_4 : decode cX5_colour 4 = .ok (.aload_n 0, 1) := by decide +kernel
theorem dX5_colour_5 : decode cX5_colour 5 = .ok (.getfield 35, 3) := by decide +kernel
theorem dX5_colour_8 : decode cX5_colour 8 = .ok (.invokevirtual 154, 3) := by decide +kernel
theorem dX5_colour_11 : decode cX5_colour 11 = .ok (.aload_n 0, 1) := by decide +kernel
theorem dX5_colour_12 : decode cX5_colour 12 = .ok (.getfield 35, 3) := by decide +kernel
theorem dX5_colour_15 : decode cX5_colour 15 = .ok (.invokevirtual 157, 3) := by decide +kernel
theorem dX5_colour_18 : decode cX5_colour 18 = .ok (.ireturn, 1) := by decide +kernel
theorem dX5_colourOf_0 : decode cX5_colourOf 0 = .ok (.aload_n 0, 1) := by decide +kernel
theorem dX5_colourOf_1 : decode cX5_colourOf 1 = .ok (.iload_n 1, 1) := by decide +kernel
theorem dX5_colourOf_2 : decode cX5_colourOf 2 = .ok (.invokevirtual 70, 3) := by decide +kernel
theorem dX5_colourOf_5 : decode cX5_colourOf 5 = .ok (.aload_n 0, 1) := by decide +kernel
theorem dX5_colourOf_6 : decode cX5_colourOf 6 = .ok (.getfield 35, 3) := by decide +kernel
theorem dX5_colourOf_9 : decode cX5_colourOf 9 = .ok (.getfield 63, 3) := by decide +kernel
theorem dX5_colourOf_12 : decode cX5_colourOf 12 = .ok (.iload_n 1, 1) := by decide +kernel
theorem dX5_colourOf_13 : decode cX5_colourOf 13 = .ok (.iaload, 1) := by decide +kernel
theorem dX5_colourOf_14 : decode cX5_colourOf 14 = .ok (.ireturn, 1) := by decide +kernel
theorem dX5_exchanges_0 : decode cX5_exchanges 0 = .ok (.aload_n 0, 1) := by decide +kernel
theorem dX5_exchanges_1 : decode cX5_exchanges 1 = .ok (.getfield 35, 3) := by decide +kernel
theorem dX5_exchanges_4 : decode cX5_exchanges 4 = .ok (.getfield 160, 3) := by decide +kernel
theorem dX5_exchanges_7 : decode cX5_exchanges 7 = .ok (.ireturn, 1) := by decide +kernel
theorem dX5_exchange_0 : decode cX5_exchange 0 = .ok (.aload_n 0, 1) := by decide +kernel
theorem dX5_exchange_1 : decode cX5_exchange 1 = .ok (.iload_n 1, 1) := by decide +kernel
theorem dX5_exchange_2 : decode cX5_exchange 2 = .ok (.invokevirtual 70, 3) := by decide +kernel
theorem dX5_exchange_5 : decode cX5_exchange 5 = .ok (.aload_n 0, 1) := by decide +kernel
theorem dX5_exchange_6 : decode cX5_exchange 6 = .ok (.getfield 35, 3) := by decide +kernel
theorem dX5_exchange_9 : decode cX5_exchange 9 = .ok (.getfield 63, 3) := by decide +kernel
theorem dX5_exchange_12 : decode cX5_exchange 12 = .ok (.iload_n 1, 1) := by decide +kernel
theorem dX5_exchange_13 : decode cX5_exchange 13 = .ok (.iaload, 1) := by decide +kernel
theorem dX5_exchange_14 : decode cX5_exchange 14 = .ok (.istore_n 3, 1) := by decide +kernel
theorem dX5_exchange_15 : decode cX5_exchange 15 = .ok (.iload_n 3, 1) := by decide +kernel
theorem dX5_exchange_16 : decode cX5_exchange 16 = .ok (.ifCond .ne 13, 3) := by decide +kernel
theorem dX5_exchange_19 : decode cX5_exchange 19 = .ok (.new 81, 3) := by decide +kernel
theorem dX5_exchange_22 : decode cX5_exchange 22 = .ok (.dup, 1) := by decide +kernel
theorem dX5_exchange_23 : decode cX5_exchange 23 = .ok (.ldc 163, 2) := by decide +kernel
theorem dX5_exchange_25 : decode cX5_exchange 25 = .ok (.invokespecial 85, 3) := by decide +kernel
theorem dX5_exchange_28 : decode cX5_exchange 28 = .ok (.athrow, 1) := by decide +kernel
theorem dX5_exchange_29 : decode cX5_exchange 29 = .ok (.iload_n 2, 1) := by decide +kernel
theorem dX5_exchange_30 : decode cX5_exchange 30 = .ok (.iconst 1, 1) := by decide +kernel
theorem dX5_exchange_31 : decode cX5_exchange 31 = .ok (.if_icmp .lt 13, 3) := by decide +kernel
theorem dX5_exchange_34 : decode cX5_exchange 34 = .ok (.iload_n 2, 1) := by decide +kernel
theorem dX5_exchange_35 : decode cX5_exchange 35 = .ok (.iconst 5, 1) := by decide +kernel
theorem dX5_exchange_36 : decode cX5_exchange 36 = .ok (.if_icmp .gt 8, 3) := by decide +kernel
theorem dX5_exchange_39 : decode cX5_exchange 39 = .ok (.iload_n 2, 1) := by decide +kernel
theorem dX5_exchange_40 : decode cX5_exchange 40 = .ok (.iload_n 3, 1) := by decide +kernel
theorem dX5_exchange_41 : decode cX5_exchange 41 = .ok (.if_icmp .ne 13, 3) := by decide +kernel
theorem dX5_exchange_44 : decode cX5_exchange 44 = .ok (.new 81, 3) := by decide +kernel
theorem dX5_exchange_47 : decode cX5_exchange 47 = .ok (.dup, 1) := by decide +kernel
theorem dX5_exchange_48 : decode cX5_exchange 48 = .ok (.ldc 165, 2) := by decide +kernel
theorem dX5_exchange_50 : decode cX5_exchange 50 = .ok (.invokespecial 85, 3) := by decide +kernel
theorem dX5_exchange_53 : decode cX5_exchange 53 = .ok (.athrow, 1) := by decide +kernel
theorem dX5_exchange_54 : decode cX5_exchange 54 = .ok (.aload_n 0, 1) := by decide +kernel
theorem dX5_exchange_55 : decode cX5_exchange 55 = .ok (.getfield 35, 3) := by decide +kernel
theorem dX5_exchange_58 : decode cX5_exchange 58 = .ok (.iload_n 1, 1) := by decide +kernel
theorem dX5_exchange_59 : decode cX5_exchange 59 = .ok (.iload_n 2, 1) := by decide +kernel
theorem dX5_exchange_60 : decode cX5_exchange 60 = .ok (.invokevirtual 167, 3) := by decide +kernel
theorem dX5_exchange_63 : decode cX5_exchange 63 = .ok (.aload_n 0, 1) := by decide +kernel
theorem dX5_exchange_64 : decode cX5_exchange 64 = .ok (.getfield 35, 3) := by decide +kernel
theorem dX5_exchange_67 : decode cX5_exchange 67 = .ok (.iload_n 3, 1) := by decide +kernel
theorem dX5_exchange_68 : decode cX5_exchange 68 = .ok (.iload_n 2, 1) := by decide +kernel
theorem dX5_exchange_69 : decode cX5_exchange 69 = .ok (.invokevirtual 171, 3) := by decide +kernel
theorem dX5_exchange_72 : decode cX5_exchange 72 = .ok (.aload_n 0, 1) := by decide +kernel
theorem dX5_exchange_73 : decode cX5_exchange 73 = .ok (.getfield 35, 3) := by decide +kernel
theorem dX5_exchange_76 : decode cX5_exchange 76 = .ok (.getfield 174, 3) := by decide +kernel
theorem dX5_exchange_79 : decode cX5_exchange 79 = .ok (.ireturn, 1) := by decide +kernel
theorem dX5_clashes_0 : decode cX5_clashes 0 = .ok (.aload_n 0, 1) := by decide +kernel
theorem dX5_clashes_1 : decode cX5_clashes 1 = .ok (.getfield 35, 3) := by decide +kernel
theorem dX5_clashes_4 : decode cX5_clashes 4 = .ok (.invokevirtual 177, 3) := by decide +kernel
theorem dX5_clashes_7 : decode cX5_clashes 7 = .ok (.ireturn, 1) := by decide +kernel
theorem dX5_above_0 : decode cX5_above 0 = .ok (.aload_n 0, 1) := by decide +kernel
theorem dX5_above_1 : decode cX5_above 1 = .ok (.iload_n 1, 1) := by decide +kernel
theorem dX5_above_2 : decode cX5_above 2 = .ok (.invokevirtual 70, 3) := by decide +kernel
theorem dX5_above_5 : decode cX5_above 5 = .ok (.aload_n 0, 1) := by decide +kernel
theorem dX5_above_6 : decode cX5_above 6 = .ok (.getfield 28, 3) := by decide +kernel
theorem dX5_above_9 : decode cX5_above 9 = .ok (.getfield 180, 3) := by decide +kernel
theorem dX5_above_12 : decode cX5_above 12 = .ok (.iload_n 1, 1) := by decide +kernel
theorem dX5_above_13 : decode cX5_above 13 = .ok (.iaload, 1) := by decide +kernel
theorem dX5_above_14 : decode cX5_above 14 = .ok (.ireturn, 1) := by decide +kernel
theorem dX5_cycle_0 : decode cX5_cycle 0 = .ok (.aload_n 0, 1) := by decide +kernel
theorem dX5_cycle_1 : decode cX5_cycle 1 = .ok (.iload_n 1, 1) := by decide +kernel
theorem dX5_cycle_2 : decode cX5_cycle 2 = .ok (.invokevirtual 103, 3) := by decide +kernel
theorem dX5_cycle_5 : decode cX5_cycle 5 = .ok (.aload_n 0, 1) := by decide +kernel
theorem dX5_cycle_6 : decode cX5_cycle 6 = .ok (.getfield 28, 3) := by decide +kernel
theorem dX5_cycle_9 : decode cX5_cycle 9 = .ok (.iload_n 1, 1) := by decide +kernel
theorem dX5_cycle_10 : decode cX5_cycle 10 = .ok (.invokevirtual 183, 3) := by decide +kernel
theorem dX5_cycle_13 : decode cX5_cycle 13 = .ok (.ifCond .eq 5, 3) := by decide +kernel
theorem dX5_cycle_16 : decode cX5_cycle 16 = .ok (.iconst 0, 1) := by decide +kernel
theorem dX5_cycle_17 : decode cX5_cycle 17 = .ok (.ireturn, 1) := by decide +kernel
theorem dX5_cycle_18 : decode cX5_cycle 18 = .ok (.aload_n 0, 1) := by decide +kernel
theorem dX5_cycle_19 : decode cX5_cycle 19 = .ok (.getfield 44, 3) := by decide +kernel
theorem dX5_cycle_22 : decode cX5_cycle 22 = .ok (.iload_n 1, 1) := by decide +kernel
theorem dX5_cycle_23 : decode cX5_cycle 23 = .ok (.invokevirtual 187, 3) := by decide +kernel
theorem dX5_cycle_26 : decode cX5_cycle 26 = .ok (.aload_n 0, 1) := by decide +kernel
theorem dX5_cycle_27 : decode cX5_cycle 27 = .ok (.getfield 44, 3) := by decide +kernel
theorem dX5_cycle_30 : decode cX5_cycle 30 = .ok (.getfield 190, 3) := by decide +kernel
theorem dX5_cycle_33 : decode cX5_cycle 33 = .ok (.ireturn, 1) := by decide +kernel
theorem dX5_side_0 : decode cX5_side 0 = .ok (.aload_n 0, 1) := by decide +kernel
theorem dX5_side_1 : decode cX5_side 1 = .ok (.iload_n 1, 1) := by decide +kernel
theorem dX5_side_2 : decode cX5_side 2 = .ok (.invokevirtual 103, 3) := by decide +kernel
theorem dX5_side_5 : decode cX5_side 5 = .ok (.aload_n 0, 1) := by decide +kernel
theorem dX5_side_6 : decode cX5_side 6 = .ok (.invokevirtual 151, 3) := by decide +kernel
theorem dX5_side_9 : decode cX5_side 9 = .ok (.aload_n 0, 1) := by decide +kernel
theorem dX5_side_10 : decode cX5_side 10 = .ok (.getfield 28, 3) := by decide +kernel
theorem dX5_side_13 : decode cX5_side 13 = .ok (.iload_n 1, 1) := by decide +kernel
theorem dX5_side_14 : decode cX5_side 14 = .ok (.invokevirtual 183, 3) := by decide +kernel
theorem dX5_side_17 : decode cX5_side 17 = .ok (.ifCond .eq 5, 3) := by decide +kernel
theorem dX5_side_20 : decode cX5_side 20 = .ok (.iconst 0, 1) := by decide +kernel
theorem dX5_side_21 : decode cX5_side 21 = .ok (.ireturn, 1) := by decide +kernel
theorem dX5_side_22 : decode cX5_side 22 = .ok (.aload_n 0, 1) := by decide +kernel
theorem dX5_side_23 : decode cX5_side 23 = .ok (.getfield 44, 3) := by decide +kernel
theorem dX5_side_26 : decode cX5_side 26 = .ok (.iload_n 1, 1) := by decide +kernel
theorem dX5_side_27 : decode cX5_side 27 = .ok (.invokevirtual 193, 3) := by decide +kernel
theorem dX5_side_30 : decode cX5_side 30 = .ok (.iload_n 2, 1) := by decide +kernel
theorem dX5_side_31 : decode cX5_side 31 = .ok (.ifCond .eq 13, 3) := by decide +kernel
theorem dX5_side_34 : decode cX5_side 34 = .ok (.aload_n 0, 1) := by decide +kernel
theorem dX5_side_35 : decode cX5_side 35 = .ok (.getfield 44, 3) := by decide +kernel
theorem dX5_side_38 : decode cX5_side 38 = .ok (.getfield 196, 3) := by decide +kernel
theorem dX5_side_41 : decode cX5_side 41 = .ok (.goto 10, 3) := by decide +kernel
theorem dX5_side_44 : decode cX5_side 44 = .ok (.aload_n 0, 1) := by decide +kernel
theorem dX5_side_45 : decode cX5_side 45 = .ok (.getfield 44, 3) := by decide +kernel
theorem dX5_side_48 : decode cX5_side 48 = .ok (.getfield 199, 3) := by decide +kernel
theorem dX5_side_51 : decode cX5_side 51 = .ok (.ireturn, 1) := by decide +kernel
theorem dX5_best_0 : decode cX5_best 0 = .ok (.aload_n 0, 1) := by decide +kernel
theorem dX5_best_1 : decode cX5_best 1 = .ok (.invokevirtual 151, 3) := by decide +kernel
theorem dX5_best_4 : decode cX5_best 4 = .ok (.iconst (-1), 1) := by decide +kernel
theorem dX5_best_5 : decode cX5_best 5 = .ok (.istore_n 1, 1) := by decide +kernel
theorem dX5_best_6 : decode cX5_best 6 = .ok (.iconst 0, 1) := by decide +kernel
theorem dX5_best_7 : decode cX5_best 7 = .ok (.istore_n 2, 1) := by decide +kernel
theorem dX5_best_8 : decode cX5_best 8 = .ok (.iconst 0, 1) := by decide +kernel
theorem dX5_best_9 : decode cX5_best 9 = .ok (.istore_n 3, 1) := by decide +kernel
theorem dX5_best_10 : decode cX5_best 10 = .ok (.iconst 0, 1) := by decide +kernel
theorem dX5_best_11 : decode cX5_best 11 = .ok (.istore 4, 2) := by decide +kernel
theorem dX5_best_13 : decode cX5_best 13 = .ok (.iload 4, 2) := by decide +kernel
theorem dX5_best_15 : decode cX5_best 15 = .ok (.aload_n 0, 1) := by decide +kernel
theorem dX5_best_16 : decode cX5_best 16 = .ok (.getfield 12, 3) := by decide +kernel
theorem dX5_best_19 : decode cX5_best 19 = .ok (.getfield 91, 3) := by decide +kernel
theorem dX5_best_22 : decode cX5_best 22 = .ok (.if_icmp .ge 119, 3) := by decide +kernel
theorem dX5_best_25 : decode cX5_best 25 = .ok (.aload_n 0, 1) := by decide +kernel
theorem dX5_best_26 : decode cX5_best 26 = .ok (.getfield 12, 3) := by decide +kernel
theorem dX5_best_29 : decode cX5_best 29 = .ok (.getfield 202, 3) := by decide +kernel
theorem dX5_best_32 : decode cX5_best 32 = .ok (.iload 4, 2) := by decide +kernel
theorem dX5_best_34 : decode cX5_best 34 = .ok (.baload, 1) := by decide +kernel
theorem dX5_best_35 : decode cX5_best 35 = .ok (.ifCond .eq 100, 3) := by decide +kernel
theorem dX5_best_38 : decode cX5_best 38 = .ok (.aload_n 0, 1) := by decide +kernel
theorem dX5_best_39 : decode cX5_best 39 = .ok (.getfield 28, 3) := by decide +kernel
theorem dX5_best_42 : decode cX5_best 42 = .ok (.iload 4, 2) := by decide +kernel
theorem dX5_best_44 : decode cX5_best 44 = .ok (.invokevirtual 183, 3) := by decide +kernel
theorem dX5_best_47 : decode cX5_best 47 = .ok (.ifCond .eq 6, 3) := by decide +kernel
theorem dX5_best_50 : decode cX5_best 50 = .ok (.goto 85, 3) := by decide +kernel
theorem dX5_best_53 : decode cX5_best 53 = .ok (.aload_n 0, 1) := by decide +kernel
theorem dX5_best_54 : decode cX5_best 54 = .ok (.getfield 44, 3) := by decide +kernel
theorem dX5_best_57 : decode cX5_best 57 = .ok (.iload 4, 2) := by decide +kernel
theorem dX5_best_59 : decode cX5_best 59 = .ok (.invokevirtual 193, 3) := by decide +kernel
theorem dX5_best_62 : decode cX5_best 62 = .ok (.aload_n 0, 1) := by decide +kernel
theorem dX5_best_63 : decode cX5_best 63 = .ok (.getfield 44, 3) := by decide +kernel
theorem dX5_best_66 : decode cX5_best 66 = .ok (.getfield 196, 3) := by decide +kernel
theorem dX5_best_69 : decode cX5_best 69 = .ok (.aload_n 0, 1) := by decide +kernel
theorem dX5_best_70 : decode cX5_best 70 = .ok (.getfield 44, 3) := by decide +kernel
theorem dX5_best_73 : decode cX5_best 73 = .ok (.getfield 199, 3) := by decide +kernel
theorem dX5_best_76 : decode cX5_best 76 = .ok (.invokestatic 206, 3) := by decide +kernel
theorem dX5_best_79 : decode cX5_best 79 = .ok (.istore 5, 2) := by decide +kernel
theorem dX5_best_81 : decode cX5_best 81 = .ok (.iload 5, 2) := by decide +kernel
theorem dX5_best_83 : decode cX5_best 83 = .ok (.iload_n 2, 1) := by decide +kernel
theorem dX5_best_84 : decode cX5_best 84 = .ok (.if_icmp .lt 20, 3) := by decide +kernel
theorem dX5_best_87 : decode cX5_best 87 = .ok (.iload 5, 2) := by decide +kernel
theorem dX5_best_89 : decode cX5_best 89 = .ok (.iload_n 2, 1) := by decide +kernel
theorem dX5_best_90 : decode cX5_best 90 = .ok (.if_icmp .ne 18, 3) := by decide +kernel
theorem dX5_best_93 : decode cX5_best 93 = .ok (.aload_n 0, 1) := by decide +kernel
theorem dX5_best_94 : decode cX5_best 94 = .ok (.getfield 44, 3) := by decide +kernel
theorem dX5_best_97 : decode cX5_best 97 = .ok (.getfield 190, 3) := by decide +kernel
theorem dX5_best_100 : decode cX5_best 100 = .ok (.iload_n 3, 1) := by decide +kernel
theorem dX5_best_101 : decode cX5_best 101 = .ok (.if_icmp .ge 7, 3) := by decide +kernel
theorem dX5_best_104 : decode cX5_best 104 = .ok (.iconst 1, 1) := by decide +kernel
theorem dX5_best_105 : decode cX5_best 105 = .ok (.goto 4, 3) := by decide +kernel
theorem dX5_best_108 : decode cX5_best 108 = .ok (.iconst 0, 1) := by decide +kernel
theorem dX5_best_109 : decode cX5_best 109 = .ok (.istore 6, 2) := by decide +kernel
theorem dX5_best_111 : decode cX5_best 111 = .ok (.iload_n 1, 1) := by decide +kernel
theorem dX5_best_112 : decode cX5_best 112 = .ok (.iconst (-1), 1) := by decide +kernel
theorem dX5_best_113 : decode cX5_best 113 = .ok (.if_icmp .eq 8, 3) := by decide +kernel
theorem dX5_best_116 : decode cX5_best 116 = .ok (.iload 6, 2) := by decide +kernel
theorem dX5_best_118 : decode cX5_best 118 = .ok (.ifCond .eq 17, 3) := by decide +kernel
theorem dX5_best_121 : decode cX5_best 121 = .ok (.iload 4, 2) := by decide +kernel
theorem dX5_best_123 : decode cX5_best 123 = .ok (.istore_n 1, 1) := by decide +kernel
theorem dX5_best_124 : decode cX5_best 124 = .ok (.iload 5, 2) := by decide +kernel
theorem dX5_best_126 : decode cX5_best 126 = .ok (.istore_n 2, 1) := by decide +kernel
theorem dX5_best_127 : decode cX5_best 127 = .ok (.aload_n 0, 1) := by decide +kernel
theorem dX5_best_128 : decode cX5_best 128 = .ok (.getfield 44, 3) := by decide +kernel
theorem dX5_best_131 : decode cX5_best 131 = .ok (.getfield 190, 3) := by decide +kernel
theorem dX5_best_134 : decode cX5_best 134 = .ok (.istore_n 3, 1) := by decide +kernel
theorem dX5_best_135 : decode cX5_best 135 = .ok (.iinc 4 1, 3) := by decide +kernel
theorem dX5_best_138 : decode cX5_best 138 = .ok (.goto (-125), 3) := by decide +kernel
theorem dX5_best_141 : decode cX5_best 141 = .ok (.iload_n 1, 1) := by decide +kernel
theorem dX5_best_142 : decode cX5_best 142 = .ok (.ireturn, 1) := by decide +kernel
theorem dX5_told_0 : decode cX5_told 0 = .ok (.iload_n 1, 1) := by decide +kernel
theorem dX5_told_1 : decode cX5_told 1 = .ok (.tableswitch 68 0 3 #[31, 39, 47, 60], 31) := by decide +kernel
theorem dX5_told_32 : decode cX5_told 32 = .ok (.aload_n 0, 1) := by decide +kernel
theorem dX5_told_33 : decode cX5_told 33 = .ok (.getfield 12, 3) := by decide +kernel
theorem dX5_told_36 : decode cX5_told 36 = .ok (.getfield 48, 3) := by decide +kernel
theorem dX5_told_39 : decode cX5_told 39 = .ok (.ireturn, 1) := by decide +kernel
theorem dX5_told_40 : decode cX5_told 40 = .ok (.aload_n 0, 1) := by decide +kernel
theorem dX5_told_41 : decode cX5_told 41 = .ok (.getfield 12, 3) := by decide +kernel
theorem dX5_told_44 : decode cX5_told 44 = .ok (.getfield 109, 3) := by decide +kernel
theorem dX5_told_47 : decode cX5_told 47 = .ok (.ireturn, 1) := by decide +kernel
theorem dX5_told_48 : decode cX5_told 48 = .ok (.aload_n 0, 1) := by decide +kernel
theorem dX5_told_49 : decode cX5_told 49 = .ok (.invokevirtual 212, 3) := by decide +kernel
theorem dX5_told_52 : decode cX5_told 52 = .ok (.ifCond .eq 7, 3) := by decide +kernel
theorem dX5_told_55 : decode cX5_told 55 = .ok (.iconst 1, 1) := by decide +kernel
theorem dX5_told_56 : decode cX5_told 56 = .ok (.goto 4, 3) := by decide +kernel
theorem dX5_told_59 : decode cX5_told 59 = .ok (.iconst 0, 1) := by decide +kernel
theorem dX5_told_60 : decode cX5_told 60 = .ok (.ireturn, 1) := by decide +kernel
theorem dX5_told_61 : decode cX5_told 61 = .ok (.aload_n 0, 1) := by decide +kernel
theorem dX5_told_62 : decode cX5_told 62 = .ok (.getfield 35, 3) := by decide +kernel
theorem dX5_told_65 : decode cX5_told 65 = .ok (.invokevirtual 157, 3) := by decide +kernel
theorem dX5_told_68 : decode cX5_told 68 = .ok (.ireturn, 1) := by decide +kernel
theorem dX5_told_69 : decode cX5_told 69 = .ok (.iconst (-1), 1) := by decide +kernel
theorem dX5_told_70 : decode cX5_told 70 = .ok (.ireturn, 1) := by decide +kernel
theorem dX5_clear_0 : decode cX5_clear 0 = .ok (.aload_n 0, 1) := by decide +kernel
theorem dX5_clear_1 : decode cX5_clear 1 = .ok (.getfield 35, 3) := by decide +kernel
theorem dX5_clear_4 : decode cX5_clear 4 = .ok (.invokevirtual 100, 3) := by decide +kernel
theorem dX5_clear_7 : decode cX5_clear 7 = .ok (.aload_n 0, 1) := by decide +kernel
theorem dX5_clear_8 : decode cX5_clear 8 = .ok (.getfield 12, 3) := by decide +kernel
theorem dX5_clear_11 : decode cX5_clear 11 = .ok (.invokevirtual 216, 3) := by decide +kernel
theorem dX5_clear_14 : decode cX5_clear 14 = .ok (.aload_n 0, 1) := by decide +kernel
theorem dX5_clear_15 : decode cX5_clear 15 = .ok (.invokevirtual 67, 3) := by decide +kernel
theorem dX5_clear_18 : decode cX5_clear 18 = .ok (.return_, 1) := by decide +kernel
theorem dX5_surveyAgain_0 : decode cX5_surveyAgain 0 = .ok (.aload_n 0, 1) := by decide +kernel
theorem dX5_surveyAgain_1 : decode cX5_surveyAgain 1 = .ok (.getfield 21, 3) := by decide +kernel
theorem dX5_surveyAgain_4 : decode cX5_surveyAgain 4 = .ok (.invokevirtual 219, 3) := by decide +kernel
theorem dX5_surveyAgain_7 : decode cX5_surveyAgain 7 = .ok (.aload_n 0, 1) := by decide +kernel
theorem dX5_surveyAgain_8 : decode cX5_surveyAgain 8 = .ok (.getfield 28, 3) := by decide +kernel
theorem dX5_surveyAgain_11 : decode cX5_surveyAgain 11 = .ok (.invokevirtual 222, 3) := by decide +kernel
theorem dX5_surveyAgain_14 : decode cX5_surveyAgain 14 = .ok (.return_, 1) := by decide +kernel
theorem dX5_isPlane_0 : decode cX5_isPlane 0 = .ok (.aload_n 0, 1) := by decide +kernel
theorem dX5_isPlane_1 : decode cX5_isPlane 1 = .ok (.invokevirtual 223, 3) := by decide +kernel
theorem dX5_isPlane_4 : decode cX5_isPlane 4 = .ok (.ifCond .ne 7, 3) := by decide +kernel
theorem dX5_isPlane_7 : decode cX5_isPlane 7 = .ok (.iconst 1, 1) := by decide +kernel
theorem dX5_isPlane_8 : decode cX5_isPlane 8 = .ok (.goto 4, 3) := by decide +kernel
theorem dX5_isPlane_11 : decode cX5_isPlane 11 = .ok (.iconst 0, 1) := by decide +kernel
theorem dX5_isPlane_12 : decode cX5_isPlane 12 = .ok (.ireturn, 1) := by decide +kernel
theorem dX5_checkPlane_0 : decode cX5_checkPlane 0 = .ok (.aload_n 0, 1) := by decide +kernel
theorem dX5_checkPlane_1 : decode cX5_checkPlane 1 = .ok (.invokevirtual 212, 3) := by decide +kernel
theorem dX5_checkPlane_4 : decode cX5_checkPlane 4 = .ok (.ifCond .ne 13, 3) := by decide +kernel
theorem dX5_checkPlane_7 : decode cX5_checkPlane 7 = .ok (.new 226, 3) := by decide +kernel
theorem dX5_checkPlane_10 : decode cX5_checkPlane 10 = .ok (.dup, 1) := by decide +kernel
theorem dX5_checkPlane_11 : decode cX5_checkPlane 11 = .ok (.ldc 228, 2) := by decide +kernel
theorem dX5_checkPlane_13 : decode cX5_checkPlane 13 = .ok (.invokespecial 230, 3) := by decide +kernel
theorem dX5_checkPlane_16 : decode cX5_checkPlane 16 = .ok (.athrow, 1) := by decide +kernel
theorem dX5_checkPlane_17 : decode cX5_checkPlane 17 = .ok (.return_, 1) := by decide +kernel
theorem dX5_checkVertex_0 : decode cX5_checkVertex 0 = .ok (.iload_n 1, 1) := by decide +kernel
theorem dX5_checkVertex_1 : decode cX5_checkVertex 1 = .ok (.ifCond .lt 14, 3) := by decide +kernel
theorem dX5_checkVertex_4 : decode cX5_checkVertex 4 = .ok (.iload_n 1, 1) := by decide +kernel
theorem dX5_checkVertex_5 : decode cX5_checkVertex 5 = .ok (.aload_n 0, 1) := by decide +kernel
theorem dX5_checkVertex_6 : decode cX5_checkVertex 6 = .ok (.getfield 12, 3) := by decide +kernel
theorem dX5_checkVertex_9 : decode cX5_checkVertex 9 = .ok (.getfield 48, 3) := by decide +kernel
theorem dX5_checkVertex_12 : decode cX5_checkVertex 12 = .ok (.if_icmp .lt 13, 3) := by decide +kernel
theorem dX5_checkVertex_15 : decode cX5_checkVertex 15 = .ok (.new 115, 3) := by decide +kernel
theorem dX5_checkVertex_18 : decode cX5_checkVertex 18 = .ok (.dup, 1) := by decide +kernel
theorem dX5_checkVertex_19 : decode cX5_checkVertex 19 = .ok (.ldc 231, 2) := by decide +kernel
theorem dX5_checkVertex_21 : decode cX5_checkVertex 21 = .ok (.invokespecial 119, 3) := by decide +kernel
theorem dX5_checkVertex_24 : decode cX5_checkVertex 24 = .ok (.athrow, 1) := by decide +kernel
theorem dX5_checkVertex_25 : decode cX5_checkVertex 25 = .ok (.return_, 1) := by decide +kernel
theorem dX5_checkEdge_0 : decode cX5_checkEdge 0 = .ok (.iload_n 1, 1) := by decide +kernel
theorem dX5_checkEdge_1 : decode cX5_checkEdge 1 = .ok (.ifCond .lt 26, 3) := by decide +kernel
theorem dX5_checkEdge_4 : decode cX5_checkEdge 4 = .ok (.iload_n 1, 1) := by decide +kernel
theorem dX5_checkEdge_5 : decode cX5_checkEdge 5 = .ok (.aload_n 0, 1) := by decide +kernel
theorem dX5_checkEdge_6 : decode cX5_checkEdge 6 = .ok (.getfield 12, 3) := by decide +kernel
theorem dX5_checkEdge_9 : decode cX5_checkEdge 9 = .ok (.getfield 91, 3) := by decide +kernel
theorem dX5_checkEdge_12 : decode cX5_checkEdge 12 = .ok (.if_icmp .ge 15, 3) := by decide +kernel
theorem dX5_checkEdge_15 : decode cX5_checkEdge 15 = .ok (.aload_n 0, 1) := by decide +kernel
theorem dX5_checkEdge_16 : decode cX5_checkEdge 16 = .ok (.getfield 12, 3) := by decide +kernel
theorem dX5_checkEdge_19 : decode cX5_checkEdge 19 = .ok (.getfield 202, 3) := by decide +kernel
theorem dX5_checkEdge_22 : decode cX5_checkEdge 22 = .ok (.iload_n 1, 1) := by decide +kernel
theorem dX5_checkEdge_23 : decode cX5_checkEdge 23 = .ok (.baload, 1) := by decide +kernel
theorem dX5_checkEdge_24 : decode cX5_checkEdge 24 = .ok (.ifCond .ne 13, 3) := by decide +kernel
theorem dX5_checkEdge_27 : decode cX5_checkEdge 27 = .ok (.new 115, 3) := by decide +kernel
theorem dX5_checkEdge_30 : decode cX5_checkEdge 30 = .ok (.dup, 1) := by decide +kernel
theorem dX5_checkEdge_31 : decode cX5_checkEdge 31 = .ok (.ldc 233, 2) := by decide +kernel
theorem dX5_checkEdge_33 : decode cX5_checkEdge 33 = .ok (.invokespecial 119, 3) := by decide +kernel
theorem dX5_checkEdge_36 : decode cX5_checkEdge 36 = .ok (.athrow, 1) := by decide +kernel
theorem dX5_checkEdge_37 : decode cX5_checkEdge 37 = .ok (.return_, 1) := by decide +kernel
theorem dX5_checkEdgeOrNone_0 : decode cX5_checkEdgeOrNone 0 = .ok (.iload_n 1, 1) := by decide +kernel
theorem dX5_checkEdgeOrNone_1 : decode cX5_checkEdgeOrNone 1 = .ok (.iconst (-1), 1) := by decide +kernel
theorem dX5_checkEdgeOrNone_2 : decode cX5_checkEdgeOrNone 2 = .ok (.if_icmp .eq 8, 3) := by decide +kernel
theorem dX5_checkEdgeOrNone_5 : decode cX5_checkEdgeOrNone 5 = .ok (.aload_n 0, 1) := by decide +kernel
theorem dX5_checkEdgeOrNone_6 : decode cX5_checkEdgeOrNone 6 = .ok (.iload_n 1, 1) := by decide +kernel
theorem dX5_checkEdgeOrNone_7 : decode cX5_checkEdgeOrNone 7 = .ok (.invokevirtual 103, 3) := by decide +kernel
theorem dX5_checkEdgeOrNone_10 : decode cX5_checkEdgeOrNone 10 = .ok (.return_, 1) := by decide +kernel
theorem dX5_checkFace_0 : decode cX5_checkFace 0 = .ok (.iload_n 1, 1) := by decide +kernel
theorem dX5_checkFace_1 : decode cX5_checkFace 1 = .ok (.ifCond .lt 14, 3) := by decide +kernel
theorem dX5_checkFace_4 : decode cX5_checkFace 4 = .ok (.iload_n 1, 1) := by decide +kernel
theorem dX5_checkFace_5 : decode cX5_checkFace 5 = .ok (.aload_n 0, 1) := by decide +kernel
theorem dX5_checkFace_6 : decode cX5_checkFace 6 = .ok (.getfield 21, 3) := by decide +kernel
theorem dX5_checkFace_9 : decode cX5_checkFace 9 = .ok (.getfield 129, 3) := by decide +kernel
theorem dX5_checkFace_12 : decode cX5_checkFace 12 = .ok (.if_icmp .lt 13, 3) := by decide +kernel
theorem dX5_checkFace_15 : decode cX5_checkFace 15 = .ok (.new 115, 3) := by decide +kernel
theorem dX5_checkFace_18 : decode cX5_checkFace 18 = .ok (.dup, 1) := by decide +kernel
theorem dX5_checkFace_19 : decode cX5_checkFace 19 = .ok (.ldc 235, 2) := by decide +kernel
theorem dX5_checkFace_21 : decode cX5_checkFace 21 = .ok (.invokespecial 119, 3) := by decide +kernel
theorem dX5_checkFace_24 : decode cX5_checkFace 24 = .ok (.athrow, 1) := by decide +kernel
theorem dX5_checkFace_25 : decode cX5_checkFace 25 = .ok (.return_, 1) := by decide +kernel
theorem dJ6_bitCount_0f7a4_0 : decode cJ6_bitCount_0f7a4 0 = .ok (.iload_n 0, 1) := by decide +kernel
theorem dJ6_bitCount_0f7a4_1 : decode cJ6_bitCount_0f7a4 1 = .ok (.iload_n 0, 1) := by decide +kernel
theorem dJ6_bitCount_0f7a4_2 : decode cJ6_bitCount_0f7a4 2 = .ok (.iconst 1, 1) := by decide +kernel
theorem dJ6_bitCount_0f7a4_3 : decode cJ6_bitCount_0f7a4 3 = .ok (.iushr, 1) := by decide +kernel
theorem dJ6_bitCount_0f7a4_4 : decode cJ6_bitCount_0f7a4 4 = .ok (.ldc_w 265, 3) := by decide +kernel
theorem dJ6_bitCount_0f7a4_7 : decode cJ6_bitCount_0f7a4 7 = .ok (.iand, 1) := by decide +kernel
theorem dJ6_bitCount_0f7a4_8 : decode cJ6_bitCount_0f7a4 8 = .ok (.isub, 1) := by decide +kernel
theorem dJ6_bitCount_0f7a4_9 : decode cJ6_bitCount_0f7a4 9 = .ok (.istore_n 0, 1) := by decide +kernel
theorem dJ6_bitCount_0f7a4_10 : decode cJ6_bitCount_0f7a4 10 = .ok (.iload_n 0, 1) := by decide +kernel
theorem dJ6_bitCount_0f7a4_11 : decode cJ6_bitCount_0f7a4 11 = .ok (.ldc_w 266, 3) := by decide +kernel
theorem dJ6_bitCount_0f7a4_14 : decode cJ6_bitCount_0f7a4 14 = .ok (.iand, 1) := by decide +kernel
theorem dJ6_bitCount_0f7a4_15 : decode cJ6_bitCount_0f7a4 15 = .ok (.iload_n 0, 1) := by decide +kernel
theorem dJ6_bitCount_0f7a4_16 : decode cJ6_bitCount_0f7a4 16 = .ok (.iconst 2, 1) := by decide +kernel
theorem dJ6_bitCount_0f7a4_17 : decode cJ6_bitCount_0f7a4 17 = .ok (.iushr, 1) := by decide +kernel
theorem dJ6_bitCount_0f7a4_18 : decode cJ6_bitCount_0f7a4 18 = .ok (.ldc_w 266, 3) := by decide +kernel
theorem dJ6_bitCount_0f7a4_21 : decode cJ6_bitCount_0f7a4 21 = .ok (.iand, 1) := by decide +kernel
theorem dJ6_bitCount_0f7a4_22 : decode cJ6_bitCount_0f7a4 22 = .ok (.iadd, 1) := by decide +kernel
theorem dJ6_bitCount_0f7a4_23 : decode cJ6_bitCount_0f7a4 23 = .ok (.istore_n 0, 1) := by decide +kernel
theorem dJ6_bitCount_0f7a4_24 : decode cJ6_bitCount_0f7a4 24 = .ok (.iload_n 0, 1) := by decide +kernel
theorem dJ6_bitCount_0f7a4_25 : decode cJ6_bitCount_0f7a4 25 = .ok (.iload_n 0, 1) := by decide +kernel
theorem dJ6_bitCount_0f7a4_26 : decode cJ6_bitCount_0f7a4 26 = .ok (.iconst 4, 1) := by decide +kernel
theorem dJ6_bitCount_0f7a4_27 : decode cJ6_bitCount_0f7a4 27 = .ok (.iushr, 1) := by decide +kernel
theorem dJ6_bitCount_0f7a4_28 : decode cJ6_bitCount_0f7a4 28 = .ok (.iadd, 1) := by decide +kernel
theorem dJ6_bitCount_0f7a4_29 : decode cJ6_bitCount_0f7a4 29 = .ok (.ldc_w 267, 3) := by decide +kernel
theorem dJ6_bitCount_0f7a4_32 : decode cJ6_bitCount_0f7a4 32 = .ok (.iand, 1) := by decide +kernel
theorem dJ6_bitCount_0f7a4_33 : decode cJ6_bitCount_0f7a4 33 = .ok (.istore_n 0, 1) := by decide +kernel
theorem dJ6_bitCount_0f7a4_34 : decode cJ6_bitCount_0f7a4 34 = .ok (.iload_n 0, 1) := by decide +kernel
theorem dJ6_bitCount_0f7a4_35 : decode cJ6_bitCount_0f7a4 35 = .ok (.iload_n 0, 1) := by decide +kernel
theorem dJ6_bitCount_0f7a4_36 : decode cJ6_bitCount_0f7a4 36 = .ok (.bipush 8, 2) := by decide +kernel
theorem dJ6_bitCount_0f7a4_38 : decode cJ6_bitCount_0f7a4 38 = .ok (.iushr, 1) := by decide +kernel
theorem dJ6_bitCount_0f7a4_39 : decode cJ6_bitCount_0f7a4 39 = .ok (.iadd, 1) := by decide +kernel
theorem dJ6_bitCount_0f7a4_40 : decode cJ6_bitCount_0f7a4 40 = .ok (.istore_n 0, 1) := by decide +kernel
theorem dJ6_bitCount_0f7a4_41 : decode cJ6_bitCount_0f7a4 41 = .ok (.iload_n 0, 1) := by decide +kernel
theorem dJ6_bitCount_0f7a4_42 : decode cJ6_bitCount_0f7a4 42 = .ok (.iload_n 0, 1) := by decide +kernel
theorem dJ6_bitCount_0f7a4_43 : decode cJ6_bitCount_0f7a4 43 = .ok (.bipush 16, 2) := by decide +kernel
theorem dJ6_bitCount_0f7a4_45 : decode cJ6_bitCount_0f7a4 45 = .ok (.iushr, 1) := by decide +kernel
theorem dJ6_bitCount_0f7a4_46 : decode cJ6_bitCount_0f7a4 46 = .ok (.iadd, 1) := by decide +kernel
theorem dJ6_bitCount_0f7a4_47 : decode cJ6_bitCount_0f7a4 47 = .ok (.istore_n 0, 1) := by decide +kernel
theorem dJ6_bitCount_0f7a4_48 : decode cJ6_bitCount_0f7a4 48 = .ok (.iload_n 0, 1) := by decide +kernel
theorem dJ6_bitCount_0f7a4_49 : decode cJ6_bitCount_0f7a4 49 = .ok (.bipush 63, 2) := by decide +kernel
theorem dJ6_bitCount_0f7a4_51 : decode cJ6_bitCount_0f7a4 51 = .ok (.iand, 1) := by decide +kernel
theorem dJ6_bitCount_0f7a4_52 : decode cJ6_bitCount_0f7a4 52 = .ok (.ireturn, 1) := by decide +kernel
